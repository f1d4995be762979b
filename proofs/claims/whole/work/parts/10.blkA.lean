theorem dX10_put_0 : decode cX10_put 0 = .ok (.bipush 24, 2) := by decide +kernel
theorem dX10_put_2 : decode cX10_put 2 = .ok (.istore_n 2, 1) := by decide +kernel
theorem dX10_put_3 : decode cX10_put 3 = .ok (.iload_n 2, 1) := by decide +kernel
theorem dX10_put_4 : decode cX10_put 4 = .ok (.ifCond .lt 44, 3) := by decide +kernel
theorem dX10_put_7 : decode cX10_put 7 = .ok (.aload_n 0, 1) := by decide +kernel
theorem dX10_put_8 : decode cX10_put 8 = .ok (.getfield 15, 3) := by decide +kernel
theorem dX10_put_11 : decode cX10_put 11 = .ok (.aload_n 0, 1) := by decide +kernel
theorem dX10_put_12 : decode cX10_put 12 = .ok (.getfield 9, 3) := by decide +kernel
theorem dX10_put_15 : decode cX10_put 15 = .ok (.arraylength, 1) := by decide +kernel
theorem dX10_put_16 : decode cX10_put 16 = .ok (.if_icmp .ge 26, 3) := by decide +kernel
theorem dX10_put_19 : decode cX10_put 19 = .ok (.aload_n 0, 1) := by decide +kernel
theorem dX10_put_20 : decode cX10_put 20 = .ok (.getfield 9, 3) := by decide +kernel
theorem dX10_put_23 : decode cX10_put 23 = .ok (.aload_n 0, 1) := by decide +kernel
theorem dX10_put_24 : decode cX10_put 24 = .ok (.getfield 15, 3) := by decide +kernel
theorem dX10_put_27 : decode cX10_put 27 = .ok (.iload_n 1, 1) := by decide +kernel
theorem dX10_put_28 : decode cX10_put 28 = .ok (.iload_n 2, 1) := by decide +kernel
theorem dX10_put_29 : decode cX10_put 29 = .ok (.iushr, 1) := by decide +kernel
theorem dX10_put_30 : decode cX10_put 30 = .ok (.i2b, 1) := by decide +kernel
theorem dX10_put_31 : decode cX10_put 31 = .ok (.bastore, 1) := by decide +kernel
theorem dX10_put_32 : decode cX10_put 32 = .ok (.aload_n 0, 1) := by decide +kernel
theorem dX10_put_33 : decode cX10_put 33 = .ok (.dup, 1) := by decide +kernel
theorem dX10_put_34 : decode cX10_put 34 = .ok (.getfield 15, 3) := by decide +kernel
theorem dX10_put_37 : decode cX10_put 37 = .ok (.iconst 1, 1) := by decide +kernel
theorem dX10_put_38 : decode cX10_put 38 = .ok (.iadd, 1) := by decide +kernel
theorem dX10_put_39 : decode cX10_put 39 = .ok (.putfield 15, 3) := by decide +kernel
theorem dX10_put_42 : decode cX10_put 42 = .ok (.iinc 2 (-8), 3) := by decide +kernel
theorem dX10_put_45 : decode cX10_put 45 = .ok (.goto (-42), 3) := by decide +kernel
theorem dX10_put_48 : decode cX10_put 48 = .ok (.return_, 1) := by decide +kernel
set_option maxRecDepth 20000 in
theorem bk_X10_put_0 {d : Nat} {w : hb_W} {Q : Option hb_V → hb_W → Prop} {x1 : Int32} (h : hb_R yX10_put cX10_put 3 none d 3 [some (hb_r 1 0 0), some (hb_i x1), some (hb_i (24 : Int32))] [] w Q) : hb_R yX10_put cX10_put 3 none d 0 [some (hb_r 1 0 0), some (hb_i x1), none] [] w Q := by
  refine hb_bipush (pc := 0) (v := 24) dX10_put_0 (by decide) ?_
  refine hb_istore_n (pc := 2) (i := 2) (ls1 := [some (hb_r 1 0 0), some (hb_i x1), some (hb_i (24 : Int32))]) dX10_put_2 rfl (by decide) rfl ?_
  exact h
set_option maxRecDepth 20000 in
theorem bk_X10_put_3 {d : Nat} {w : hb_W} {Q : Option hb_V → hb_W → Prop} {x1 : Int32} {x2 : Int32} (h : ((x2 < 0) → Q none w) ∧ ((¬ x2 < 0) → (((1600 : Int32) ≤ (hb_fI w 1 1 0)) → hb_R yX10_put cX10_put 3 none d 3 [some (hb_r 1 0 0), some (hb_i x1), some (hb_i (x2 + (-8 : Int32)))] [] w Q) ∧ ((¬ (1600 : Int32) ≤ (hb_fI w 1 1 0)) → vp_in (hb_fI w 1 1 0) 1600 ∧ (hb_R yX10_put cX10_put 3 none d 3 [some (hb_r 1 0 0), some (hb_i x1), some (hb_i (x2 + (-8 : Int32)))] [] (hb_pI (hb_sI w 1 1 0 (upd (hb_aI w 1 1 0) (hb_fI w 1 1 0).toNatClampNeg (vp_nar .byte (((x1.toUInt32 >>> (x2.toUInt32 &&& Int32.toUInt32 31)).toInt32).toInt8.toInt32)))) 1 1 0 ((hb_fI w 1 1 0) + (1 : Int32))) Q)))) : hb_R yX10_put cX10_put 3 none d 3 [some (hb_r 1 0 0), some (hb_i x1), some (hb_i x2)] [] w Q := by
  refine hb_iload_n (pc := 3) (i := 2) dX10_put_3 rfl rfl ?_
  refine hb_if_lt (pc := 4) (tgt := 48) dX10_put_4 (by decide) (fun c1 => ?_) (fun c1 => ?_)
  · have ht1 := h.1 c1
    exact hb_vret (pc := 48) dX10_put_48 rfl ht1
  · have ht1 := h.2 c1
    refine hb_aload_n (pc := 7) (i := 0) dX10_put_7 rfl rfl ?_
    refine hb_getIx (pc := 8) (x := hb_fI w 1 1 0) dX10_put_8 fw_X10_15 cw_10 rfl (by decide) rfl rfl ?_
    refine hb_aload_n (pc := 11) (i := 0) dX10_put_11 rfl rfl ?_
    refine hb_getR (pc := 12) (g1 := 0) dX10_put_12 fw_X10_9 cw_10 rfl (by decide) rfl (by decide) rfl ?_
    refine hb_alen (pc := 15) (v := (1600 : Int32)) dX10_put_15 rfl (by decide) (by decide) rfl ?_
    refine hb_icmp_ge (pc := 16) (tgt := 42) dX10_put_16 (by decide) (fun c2 => ?_) (fun c2 => ?_)
    · have ht2 := ht1.1 c2
      refine hb_iinc (pc := 42) (v := x2 + (-8 : Int32)) (ls1 := [some (hb_r 1 0 0), some (hb_i x1), some (hb_i (x2 + (-8 : Int32)))]) dX10_put_42 rfl rfl (by decide) rfl ?_
      refine hb_goto (pc := 45) (tgt := 3) dX10_put_45 (by decide) ?_
      exact ht2
    · have ht2 := ht1.2 c2
      refine hb_aload_n (pc := 19) (i := 0) dX10_put_19 rfl rfl ?_
      refine hb_getR (pc := 20) (g1 := 0) dX10_put_20 fw_X10_9 cw_10 rfl (by decide) rfl (by decide) rfl ?_
      refine hb_aload_n (pc := 23) (i := 0) dX10_put_23 rfl rfl ?_
      refine hb_getIx (pc := 24) (x := hb_fI w 1 1 0) dX10_put_24 fw_X10_15 cw_10 rfl (by decide) rfl rfl ?_
      refine hb_iload_n (pc := 27) (i := 1) dX10_put_27 rfl rfl ?_
      refine hb_iload_n (pc := 28) (i := 2) dX10_put_28 rfl rfl ?_
      refine hb_iushr (pc := 29) dX10_put_29 ?_
      refine hb_i2b (pc := 30) dX10_put_30 ?_
      obtain ⟨ho3, hr3⟩ := ht2
      refine hb_bastx (pc := 31) (f := upd (hb_aI w 1 1 0) (hb_fI w 1 1 0).toNatClampNeg (vp_nar .byte (((x1.toUInt32 >>> (x2.toUInt32 &&& Int32.toUInt32 31)).toInt32).toInt8.toInt32))) dX10_put_31 rfl (by decide) ho3 rfl ?_
      refine hb_aload_n (pc := 32) (i := 0) dX10_put_32 rfl rfl ?_
      refine hb_dupr (pc := 33) dX10_put_33 ?_
      refine hb_getIx (pc := 34) (x := hb_fI w 1 1 0) dX10_put_34 fw_X10_15 cw_10 rfl (by decide) rfl rfl ?_
      refine hb_iconst (pc := 37) (v := 1) dX10_put_37 (by decide) ?_
      refine hb_iadd (pc := 38) dX10_put_38 ?_
      refine hb_putI (pc := 39) dX10_put_39 fw_X10_15 cw_10 pw_10_1 rfl (by decide) rfl rfl rfl ?_
      refine hb_iinc (pc := 42) (v := x2 + (-8 : Int32)) (ls1 := [some (hb_r 1 0 0), some (hb_i x1), some (hb_i (x2 + (-8 : Int32)))]) dX10_put_42 rfl rfl (by decide) rfl ?_
      refine hb_goto (pc := 45) (tgt := 3) dX10_put_45 (by decide) ?_
      exact hr3
theorem dX10_at_0 : decode cX10_at 0 = .ok (.iload_n 1, 1) := by decide +kernel
theorem dX10_at_1 : decode cX10_at 1 = .ok (.ifCond .lt 24, 3) := by decide +kernel
theorem dX10_at_4 : decode cX10_at 4 = .ok (.iload_n 1, 1) := by decide +kernel
theorem dX10_at_5 : decode cX10_at 5 = .ok (.aload_n 0, 1) := by decide +kernel
theorem dX10_at_6 : decode cX10_at 6 = .ok (.getfield 15, 3) := by decide +kernel
theorem dX10_at_9 : decode cX10_at 9 = .ok (.if_icmp .ge 16, 3) := by decide +kernel
theorem dX10_at_12 : decode cX10_at 12 = .ok (.aload_n 0, 1) := by decide +kernel
theorem dX10_at_13 : decode cX10_at 13 = .ok (.getfield 9, 3) := by decide +kernel
theorem dX10_at_16 : decode cX10_at 16 = .ok (.iload_n 1, 1) := by decide +kernel
theorem dX10_at_17 : decode cX10_at 17 = .ok (.baload, 1) := by decide +kernel
theorem dX10_at_18 : decode cX10_at 18 = .ok (.sipush 255, 3) := by decide +kernel
theorem dX10_at_21 : decode cX10_at 21 = .ok (.iand, 1) := by decide +kernel
theorem dX10_at_22 : decode cX10_at 22 = .ok (.goto 4, 3) := by decide +kernel
theorem dX10_at_25 : decode cX10_at 25 = .ok (.iconst (-1), 1) := by decide +kernel
theorem dX10_at_26 : decode cX10_at 26 = .ok (.ireturn, 1) := by decide +kernel
set_option maxRecDepth 20000 in
theorem bk_X10_at_0 {d : Nat} {w : hb_W} {Q : Option hb_V → hb_W → Prop} {x1 : Int32} (h : ((x1 < 0) → Q (some (hb_i (-1 : Int32))) w) ∧ ((¬ x1 < 0) → (((hb_fI w 1 1 0) ≤ x1) → Q (some (hb_i (-1 : Int32))) w) ∧ ((¬ (hb_fI w 1 1 0) ≤ x1) → vp_in x1 1600 ∧ (Q (some (hb_i ((hb_aI w 1 1 0 x1.toNatClampNeg) &&& (255 : Int32)))) w)))) : hb_R yX10_at cX10_at 2 (some .int) d 0 [some (hb_r 1 0 0), some (hb_i x1)] [] w Q := by
  refine hb_iload_n (pc := 0) (i := 1) dX10_at_0 rfl rfl ?_
  refine hb_if_lt (pc := 1) (tgt := 25) dX10_at_1 (by decide) (fun c1 => ?_) (fun c1 => ?_)
  · have ht1 := h.1 c1
    refine hb_iconst (pc := 25) (v := -1) dX10_at_25 (by decide) ?_
    exact hb_iret (pc := 26) dX10_at_26 rfl ht1
  · have ht1 := h.2 c1
    refine hb_iload_n (pc := 4) (i := 1) dX10_at_4 rfl rfl ?_
    refine hb_aload_n (pc := 5) (i := 0) dX10_at_5 rfl rfl ?_
    refine hb_getIx (pc := 6) (x := hb_fI w 1 1 0) dX10_at_6 fw_X10_15 cw_10 rfl (by decide) rfl rfl ?_
    refine hb_icmp_ge (pc := 9) (tgt := 25) dX10_at_9 (by decide) (fun c2 => ?_) (fun c2 => ?_)
    · have ht2 := ht1.1 c2
      refine hb_iconst (pc := 25) (v := -1) dX10_at_25 (by decide) ?_
      exact hb_iret (pc := 26) dX10_at_26 rfl ht2
    · have ht2 := ht1.2 c2
      refine hb_aload_n (pc := 12) (i := 0) dX10_at_12 rfl rfl ?_
      refine hb_getR (pc := 13) (g1 := 0) dX10_at_13 fw_X10_9 cw_10 rfl (by decide) rfl (by decide) rfl ?_
      refine hb_iload_n (pc := 16) (i := 1) dX10_at_16 rfl rfl ?_
      obtain ⟨ho3, hr3⟩ := ht2
      refine hb_baldx (pc := 17) (x := hb_aI w 1 1 0 x1.toNatClampNeg) dX10_at_17 rfl (by decide) ho3 rfl ?_
      refine hb_sipush (pc := 18) (v := 255) dX10_at_18 (by decide) ?_
      refine hb_iand (pc := 21) dX10_at_21 ?_
      refine hb_goto (pc := 22) (tgt := 26) dX10_at_22 (by decide) ?_
      exact hb_iret (pc := 26) dX10_at_26 rfl hr3
theorem dX1_put_0 : decode cX1_put 0 = .ok (.aload_n 0, 1) := by decide +kernel
theorem dX1_put_1 : decode cX1_put 1 = .ok (.getfield 15, 3) := by decide +kernel
theorem dX1_put_4 : decode cX1_put 4 = .ok (.aload_n 0, 1) := by decide +kernel
theorem dX1_put_5 : decode cX1_put 5 = .ok (.getfield 9, 3) := by decide +kernel
theorem dX1_put_8 : decode cX1_put 8 = .ok (.arraylength, 1) := by decide +kernel
theorem dX1_put_9 : decode cX1_put 9 = .ok (.if_icmp .ge 23, 3) := by decide +kernel
theorem dX1_put_12 : decode cX1_put 12 = .ok (.aload_n 0, 1) := by decide +kernel
theorem dX1_put_13 : decode cX1_put 13 = .ok (.getfield 9, 3) := by decide +kernel
theorem dX1_put_16 : decode cX1_put 16 = .ok (.aload_n 0, 1) := by decide +kernel
theorem dX1_put_17 : decode cX1_put 17 = .ok (.getfield 15, 3) := by decide +kernel
theorem dX1_put_20 : decode cX1_put 20 = .ok (.iload_n 1, 1) := by decide +kernel
theorem dX1_put_21 : decode cX1_put 21 = .ok (.iastore, 1) := by decide +kernel
theorem dX1_put_22 : decode cX1_put 22 = .ok (.aload_n 0, 1) := by decide +kernel
theorem dX1_put_23 : decode cX1_put 23 = .ok (.dup, 1) := by decide +kernel
theorem dX1_put_24 : decode cX1_put 24 = .ok (.getfield 15, 3) := by decide +kernel
theorem dX1_put_27 : decode cX1_put 27 = .ok (.iconst 1, 1) := by decide +kernel
theorem dX1_put_28 : decode cX1_put 28 = .ok (.iadd, 1) := by decide +kernel
theorem dX1_put_29 : decode cX1_put 29 = .ok (.putfield 15, 3) := by decide +kernel
theorem dX1_put_32 : decode cX1_put 32 = .ok (.return_, 1) := by decide +kernel
set_option maxRecDepth 20000 in
theorem bk_X1_put_0 {d : Nat} {w : hb_W} {Q : Option hb_V → hb_W → Prop} {g0 : Nat} {x1 : Int32} (hg0 : g0 < hb_ct 2) (h : (((1600 : Int32) ≤ (hb_fI w 2 1 g0)) → Q none w) ∧ ((¬ (1600 : Int32) ≤ (hb_fI w 2 1 g0)) → vp_in (hb_fI w 2 1 g0) 1600 ∧ (Q none (hb_pI (hb_sI w 2 1 g0 (upd (hb_aI w 2 1 g0) (hb_fI w 2 1 g0).toNatClampNeg x1)) 2 1 g0 ((hb_fI w 2 1 g0) + (1 : Int32)))))) : hb_R yX1_put cX1_put 2 none d 0 [some (hb_r 2 g0 0), some (hb_i x1)] [] w Q := by
  refine hb_aload_n (pc := 0) (i := 0) dX1_put_0 rfl rfl ?_
  refine hb_getIx (pc := 1) (x := hb_fI w 2 1 g0) dX1_put_1 fw_X1_15 cw_1 rfl hg0 rfl rfl ?_
  refine hb_aload_n (pc := 4) (i := 0) dX1_put_4 rfl rfl ?_
  refine hb_getR (pc := 5) (g1 := g0) dX1_put_5 fw_X1_9 cw_1 rfl hg0 rfl (by decide) rfl ?_
  refine hb_alen (pc := 8) (v := (1600 : Int32)) dX1_put_8 rfl (by decide) hg0 rfl ?_
  refine hb_icmp_ge (pc := 9) (tgt := 32) dX1_put_9 (by decide) (fun c1 => ?_) (fun c1 => ?_)
  · have ht1 := h.1 c1
    exact hb_vret (pc := 32) dX1_put_32 rfl ht1
  · have ht1 := h.2 c1
    refine hb_aload_n (pc := 12) (i := 0) dX1_put_12 rfl rfl ?_
    refine hb_getR (pc := 13) (g1 := g0) dX1_put_13 fw_X1_9 cw_1 rfl hg0 rfl (by decide) rfl ?_
    refine hb_aload_n (pc := 16) (i := 0) dX1_put_16 rfl rfl ?_
    refine hb_getIx (pc := 17) (x := hb_fI w 2 1 g0) dX1_put_17 fw_X1_15 cw_1 rfl hg0 rfl rfl ?_
    refine hb_iload_n (pc := 20) (i := 1) dX1_put_20 rfl rfl ?_
    obtain ⟨ho2, hr2⟩ := ht1
    refine hb_iastx (pc := 21) (f := upd (hb_aI w 2 1 g0) (hb_fI w 2 1 g0).toNatClampNeg x1) dX1_put_21 rfl hg0 ho2 rfl ?_
    refine hb_aload_n (pc := 22) (i := 0) dX1_put_22 rfl rfl ?_
    refine hb_dupr (pc := 23) dX1_put_23 ?_
    refine hb_getIx (pc := 24) (x := hb_fI w 2 1 g0) dX1_put_24 fw_X1_15 cw_1 rfl hg0 rfl rfl ?_
    refine hb_iconst (pc := 27) (v := 1) dX1_put_27 (by decide) ?_
    refine hb_iadd (pc := 28) dX1_put_28 ?_
    refine hb_putI (pc := 29) dX1_put_29 fw_X1_15 cw_1 pw_1_1 rfl hg0 rfl rfl rfl ?_
    exact hb_vret (pc := 32) dX1_put_32 rfl hr2
theorem dX7_start_0 : decode cX7_start 0 = .ok (.aload_n 0, 1) := by decide +kernel
theorem dX7_start_1 : decode cX7_start 1 = .ok (.iconst 3, 1) := by decide +kernel
theorem dX7_start_2 : decode cX7_start 2 = .ok (.putfield 19, 3) := by decide +kernel
theorem dX7_start_5 : decode cX7_start 5 = .ok (.aload_n 0, 1) := by decide +kernel
theorem dX7_start_6 : decode cX7_start 6 = .ok (.iconst 0, 1) := by decide +kernel
theorem dX7_start_7 : decode cX7_start 7 = .ok (.putfield 22, 3) := by decide +kernel
theorem dX7_start_10 : decode cX7_start 10 = .ok (.aload_n 0, 1) := by decide +kernel
theorem dX7_start_11 : decode cX7_start 11 = .ok (.iconst 0, 1) := by decide +kernel
theorem dX7_start_12 : decode cX7_start 12 = .ok (.putfield 25, 3) := by decide +kernel
theorem dX7_start_15 : decode cX7_start 15 = .ok (.aload_n 0, 1) := by decide +kernel
theorem dX7_start_16 : decode cX7_start 16 = .ok (.iconst (-1), 1) := by decide +kernel
theorem dX7_start_17 : decode cX7_start 17 = .ok (.putfield 15, 3) := by decide +kernel
theorem dX7_start_20 : decode cX7_start 20 = .ok (.aload_n 0, 1) := by decide +kernel
theorem dX7_start_21 : decode cX7_start 21 = .ok (.invokevirtual 28, 3) := by decide +kernel
theorem dX7_start_24 : decode cX7_start 24 = .ok (.return_, 1) := by decide +kernel
set_option maxRecDepth 20000 in
theorem bk_X7_start_0 {d : Nat} {w : hb_W} {Q : Option hb_V → hb_W → Prop} (h : hb_O yX7_step cX7_step 4 none d [hb_r 3 0 0] (hb_pI (hb_pI (hb_pI (hb_pI w 3 1 0 (3 : Int32)) 3 5 0 (0 : Int32)) 3 6 0 (0 : Int32)) 3 7 0 (-1 : Int32)) (fun rv w1 => hb_R yX7_start cX7_start 1 none (d + 1) 24 [some (hb_r 3 0 0)] (rv.toList ++ []) w1 Q)) : hb_R yX7_start cX7_start 1 none (d + 1) 0 [some (hb_r 3 0 0)] [] w Q := by
  refine hb_aload_n (pc := 0) (i := 0) dX7_start_0 rfl rfl ?_
  refine hb_iconst (pc := 1) (v := 3) dX7_start_1 (by decide) ?_
  refine hb_putI (pc := 2) dX7_start_2 fw_X7_19 cw_7 pw_7_1 rfl (by decide) rfl rfl rfl ?_
  refine hb_aload_n (pc := 5) (i := 0) dX7_start_5 rfl rfl ?_
  refine hb_iconst (pc := 6) (v := 0) dX7_start_6 (by decide) ?_
  refine hb_putI (pc := 7) dX7_start_7 fw_X7_22 cw_7 pw_7_5 rfl (by decide) rfl rfl rfl ?_
  refine hb_aload_n (pc := 10) (i := 0) dX7_start_10 rfl rfl ?_
  refine hb_iconst (pc := 11) (v := 0) dX7_start_11 (by decide) ?_
  refine hb_putI (pc := 12) dX7_start_12 fw_X7_25 cw_7 pw_7_6 rfl (by decide) rfl rfl rfl ?_
  refine hb_aload_n (pc := 15) (i := 0) dX7_start_15 rfl rfl ?_
  refine hb_iconst (pc := 16) (v := -1) dX7_start_16 (by decide) ?_
  refine hb_putI (pc := 17) dX7_start_17 fw_X7_15 cw_7 pw_7_7 rfl (by decide) rfl rfl rfl ?_
  refine hb_aload_n (pc := 20) (i := 0) dX7_start_20 rfl rfl ?_
  exact hb_callV (pc := 21) (As := []) (st := []) dX7_start_21 ml_X7_28 mf_X7_step mi_X7_step (ci := 7) rfl rfl (by decide) rfl rfl (Nat.le_of_ble_eq_true rfl) (Nat.le_of_ble_eq_true rfl) h (fun _ _ q => q)
set_option maxRecDepth 20000 in
theorem bk_X7_start_24 {d : Nat} {w : hb_W} {Q : Option hb_V → hb_W → Prop} (h : Q none w) : hb_R yX7_start cX7_start 1 none (d + 1) 24 [some (hb_r 3 0 0)] [] w Q := by
  exact hb_vret (pc := 24) dX7_start_24 rfl h
theorem dX7_step_0 : decode cX7_step 0 = .ok (.aload_n 0, 1) := by decide +kernel
theorem dX7_step_1 : decode cX7_step 1 = .ok (.getfield 19, 3) := by decide +kernel
theorem dX7_step_4 : decode cX7_step 4 = .ok (.istore_n 1, 1) := by decide +kernel
theorem dX7_step_5 : decode cX7_step 5 = .ok (.aload_n 0, 1) := by decide +kernel
theorem dX7_step_6 : decode cX7_step 6 = .ok (.getfield 22, 3) := by decide +kernel
theorem dX7_step_9 : decode cX7_step 9 = .ok (.istore_n 2, 1) := by decide +kernel
theorem dX7_step_10 : decode cX7_step 10 = .ok (.aload_n 0, 1) := by decide +kernel
theorem dX7_step_11 : decode cX7_step 11 = .ok (.iload_n 2, 1) := by decide +kernel
theorem dX7_step_12 : decode cX7_step 12 = .ok (.putfield 31, 3) := by decide +kernel
theorem dX7_step_15 : decode cX7_step 15 = .ok (.aload_n 0, 1) := by decide +kernel
theorem dX7_step_16 : decode cX7_step 16 = .ok (.getfield 31, 3) := by decide +kernel
theorem dX7_step_19 : decode cX7_step 19 = .ok (.aload_n 0, 1) := by decide +kernel
theorem dX7_step_20 : decode cX7_step 20 = .ok (.getfield 9, 3) := by decide +kernel
theorem dX7_step_23 : decode cX7_step 23 = .ok (.getfield 34, 3) := by decide +kernel
theorem dX7_step_26 : decode cX7_step 26 = .ok (.if_icmp .ge 33, 3) := by decide +kernel
theorem dX7_step_29 : decode cX7_step 29 = .ok (.aload_n 0, 1) := by decide +kernel
theorem dX7_step_30 : decode cX7_step 30 = .ok (.getfield 9, 3) := by decide +kernel
theorem dX7_step_33 : decode cX7_step 33 = .ok (.aload_n 0, 1) := by decide +kernel
theorem dX7_step_34 : decode cX7_step 34 = .ok (.getfield 31, 3) := by decide +kernel
theorem dX7_step_37 : decode cX7_step 37 = .ok (.invokevirtual 39, 3) := by decide +kernel
theorem dX7_step_40 : decode cX7_step 40 = .ok (.invokestatic 43, 3) := by decide +kernel
theorem dX7_step_43 : decode cX7_step 43 = .ok (.ifCond .eq 16, 3) := by decide +kernel
theorem dX7_step_46 : decode cX7_step 46 = .ok (.aload_n 0, 1) := by decide +kernel
theorem dX7_step_47 : decode cX7_step 47 = .ok (.dup, 1) := by decide +kernel
theorem dX7_step_48 : decode cX7_step 48 = .ok (.getfield 31, 3) := by decide +kernel
theorem dX7_step_51 : decode cX7_step 51 = .ok (.iconst 1, 1) := by decide +kernel
theorem dX7_step_52 : decode cX7_step 52 = .ok (.iadd, 1) := by decide +kernel
theorem dX7_step_53 : decode cX7_step 53 = .ok (.putfield 31, 3) := by decide +kernel
theorem dX7_step_56 : decode cX7_step 56 = .ok (.goto (-41), 3) := by decide +kernel
theorem dX7_step_59 : decode cX7_step 59 = .ok (.aload_n 0, 1) := by decide +kernel
theorem dX7_step_60 : decode cX7_step 60 = .ok (.aload_n 0, 1) := by decide +kernel
theorem dX7_step_61 : decode cX7_step 61 = .ok (.getfield 9, 3) := by decide +kernel
theorem dX7_step_64 : decode cX7_step 64 = .ok (.aload_n 0, 1) := by decide +kernel
theorem dX7_step_65 : decode cX7_step 65 = .ok (.getfield 31, 3) := by decide +kernel
theorem dX7_step_68 : decode cX7_step 68 = .ok (.invokevirtual 39, 3) := by decide +kernel
theorem dX7_step_71 : decode cX7_step 71 = .ok (.invokestatic 47, 3) := by decide +kernel
theorem dX7_step_74 : decode cX7_step 74 = .ok (.putfield 19, 3) := by decide +kernel
theorem dX7_step_77 : decode cX7_step 77 = .ok (.aload_n 0, 1) := by decide +kernel
theorem dX7_step_78 : decode cX7_step 78 = .ok (.getfield 19, 3) := by decide +kernel
theorem dX7_step_81 : decode cX7_step 81 = .ok (.iconst 1, 1) := by decide +kernel
theorem dX7_step_82 : decode cX7_step 82 = .ok (.if_icmp .eq 11, 3) := by decide +kernel
theorem dX7_step_85 : decode cX7_step 85 = .ok (.aload_n 0, 1) := by decide +kernel
theorem dX7_step_86 : decode cX7_step 86 = .ok (.getfield 19, 3) := by decide +kernel
theorem dX7_step_89 : decode cX7_step 89 = .ok (.iconst 2, 1) := by decide +kernel
theorem dX7_step_90 : decode cX7_step 90 = .ok (.if_icmp .ne 7, 3) := by decide +kernel
theorem dX7_step_93 : decode cX7_step 93 = .ok (.iconst 1, 1) := by decide +kernel
theorem dX7_step_94 : decode cX7_step 94 = .ok (.goto 4, 3) := by decide +kernel
theorem dX7_step_97 : decode cX7_step 97 = .ok (.iconst 0, 1) := by decide +kernel
theorem dX7_step_98 : decode cX7_step 98 = .ok (.istore_n 3, 1) := by decide +kernel
theorem dX7_step_99 : decode cX7_step 99 = .ok (.aload_n 0, 1) := by decide +kernel
theorem dX7_step_100 : decode cX7_step 100 = .ok (.aload_n 0, 1) := by decide +kernel
theorem dX7_step_101 : decode cX7_step 101 = .ok (.getfield 31, 3) := by decide +kernel
theorem dX7_step_104 : decode cX7_step 104 = .ok (.putfield 22, 3) := by decide +kernel
theorem dX7_step_107 : decode cX7_step 107 = .ok (.aload_n 0, 1) := by decide +kernel
theorem dX7_step_108 : decode cX7_step 108 = .ok (.iconst 0, 1) := by decide +kernel
theorem dX7_step_109 : decode cX7_step 109 = .ok (.putfield 50, 3) := by decide +kernel
theorem dX7_step_112 : decode cX7_step 112 = .ok (.aload_n 0, 1) := by decide +kernel
theorem dX7_step_113 : decode cX7_step 113 = .ok (.iconst 0, 1) := by decide +kernel
theorem dX7_step_114 : decode cX7_step 114 = .ok (.putfield 53, 3) := by decide +kernel
theorem dX7_step_117 : decode cX7_step 117 = .ok (.aload_n 0, 1) := by decide +kernel
theorem dX7_step_118 : decode cX7_step 118 = .ok (.getfield 22, 3) := by decide +kernel
theorem dX7_step_121 : decode cX7_step 121 = .ok (.aload_n 0, 1) := by decide +kernel
theorem dX7_step_122 : decode cX7_step 122 = .ok (.getfield 9, 3) := by decide +kernel
theorem dX7_step_125 : decode cX7_step 125 = .ok (.getfield 34, 3) := by decide +kernel
theorem dX7_step_128 : decode cX7_step 128 = .ok (.if_icmp .ge 101, 3) := by decide +kernel
theorem dX7_step_131 : decode cX7_step 131 = .ok (.aload_n 0, 1) := by decide +kernel
theorem dX7_step_132 : decode cX7_step 132 = .ok (.getfield 22, 3) := by decide +kernel
theorem dX7_step_135 : decode cX7_step 135 = .ok (.aload_n 0, 1) := by decide +kernel
theorem dX7_step_136 : decode cX7_step 136 = .ok (.getfield 31, 3) := by decide +kernel
theorem dX7_step_139 : decode cX7_step 139 = .ok (.if_icmp .eq 28, 3) := by decide +kernel
theorem dX7_step_142 : decode cX7_step 142 = .ok (.iload_n 3, 1) := by decide +kernel
theorem dX7_step_143 : decode cX7_step 143 = .ok (.ifCond .eq 86, 3) := by decide +kernel
theorem dX7_step_146 : decode cX7_step 146 = .ok (.aload_n 0, 1) := by decide +kernel
theorem dX7_step_147 : decode cX7_step 147 = .ok (.getfield 9, 3) := by decide +kernel
theorem dX7_step_150 : decode cX7_step 150 = .ok (.aload_n 0, 1) := by decide +kernel
theorem dX7_step_151 : decode cX7_step 151 = .ok (.getfield 22, 3) := by decide +kernel
theorem dX7_step_154 : decode cX7_step 154 = .ok (.invokevirtual 39, 3) := by decide +kernel
theorem dX7_step_157 : decode cX7_step 157 = .ok (.invokestatic 47, 3) := by decide +kernel
theorem dX7_step_160 : decode cX7_step 160 = .ok (.aload_n 0, 1) := by decide +kernel
theorem dX7_step_161 : decode cX7_step 161 = .ok (.getfield 19, 3) := by decide +kernel
theorem dX7_step_164 : decode cX7_step 164 = .ok (.if_icmp .ne 65, 3) := by decide +kernel
theorem dX7_step_167 : decode cX7_step 167 = .ok (.aload_n 0, 1) := by decide +kernel
theorem dX7_step_168 : decode cX7_step 168 = .ok (.aload_n 0, 1) := by decide +kernel
theorem dX7_step_169 : decode cX7_step 169 = .ok (.getfield 50, 3) := by decide +kernel
theorem dX7_step_172 : decode cX7_step 172 = .ok (.bipush 32, 2) := by decide +kernel
theorem dX7_step_174 : decode cX7_step 174 = .ok (.imul, 1) := by decide +kernel
theorem dX7_step_175 : decode cX7_step 175 = .ok (.aload_n 0, 1) := by decide +kernel
theorem dX7_step_176 : decode cX7_step 176 = .ok (.getfield 9, 3) := by decide +kernel
theorem dX7_step_179 : decode cX7_step 179 = .ok (.aload_n 0, 1) := by decide +kernel
theorem dX7_step_180 : decode cX7_step 180 = .ok (.getfield 22, 3) := by decide +kernel
theorem dX7_step_183 : decode cX7_step 183 = .ok (.invokevirtual 39, 3) := by decide +kernel
theorem dX7_step_186 : decode cX7_step 186 = .ok (.iadd, 1) := by decide +kernel
theorem dX7_step_187 : decode cX7_step 187 = .ok (.putfield 50, 3) := by decide +kernel
theorem dX7_step_190 : decode cX7_step 190 = .ok (.aload_n 0, 1) := by decide +kernel
theorem dX7_step_191 : decode cX7_step 191 = .ok (.aload_n 0, 1) := by decide +kernel
theorem dX7_step_192 : decode cX7_step 192 = .ok (.getfield 53, 3) := by decide +kernel
theorem dX7_step_195 : decode cX7_step 195 = .ok (.bipush 10, 2) := by decide +kernel
theorem dX7_step_197 : decode cX7_step 197 = .ok (.imul, 1) := by decide +kernel
theorem dX7_step_198 : decode cX7_step 198 = .ok (.aload_n 0, 1) := by decide +kernel
theorem dX7_step_199 : decode cX7_step 199 = .ok (.getfield 9, 3) := by decide +kernel
theorem dX7_step_202 : decode cX7_step 202 = .ok (.aload_n 0, 1) := by decide +kernel
theorem dX7_step_203 : decode cX7_step 203 = .ok (.getfield 22, 3) := by decide +kernel
theorem dX7_step_206 : decode cX7_step 206 = .ok (.invokevirtual 39, 3) := by decide +kernel
theorem dX7_step_209 : decode cX7_step 209 = .ok (.bipush 48, 2) := by decide +kernel
theorem dX7_step_211 : decode cX7_step 211 = .ok (.isub, 1) := by decide +kernel
theorem dX7_step_212 : decode cX7_step 212 = .ok (.iadd, 1) := by decide +kernel
theorem dX7_step_213 : decode cX7_step 213 = .ok (.putfield 53, 3) := by decide +kernel
theorem dX7_step_216 : decode cX7_step 216 = .ok (.aload_n 0, 1) := by decide +kernel
theorem dX7_step_217 : decode cX7_step 217 = .ok (.dup, 1) := by decide +kernel
theorem dX7_step_218 : decode cX7_step 218 = .ok (.getfield 22, 3) := by decide +kernel
theorem dX7_step_221 : decode cX7_step 221 = .ok (.iconst 1, 1) := by decide +kernel
theorem dX7_step_222 : decode cX7_step 222 = .ok (.iadd, 1) := by decide +kernel
theorem dX7_step_223 : decode cX7_step 223 = .ok (.putfield 22, 3) := by decide +kernel
theorem dX7_step_226 : decode cX7_step 226 = .ok (.goto (-109), 3) := by decide +kernel
theorem dX7_step_229 : decode cX7_step 229 = .ok (.aload_n 0, 1) := by decide +kernel
theorem dX7_step_230 : decode cX7_step 230 = .ok (.getfield 31, 3) := by decide +kernel
theorem dX7_step_233 : decode cX7_step 233 = .ok (.iload_n 2, 1) := by decide +kernel
theorem dX7_step_234 : decode cX7_step 234 = .ok (.if_icmp .ne 30, 3) := by decide +kernel
theorem dX7_step_237 : decode cX7_step 237 = .ok (.iload_n 3, 1) := by decide +kernel
theorem dX7_step_238 : decode cX7_step 238 = .ok (.ifCond .eq 26, 3) := by decide +kernel
theorem dX7_step_241 : decode cX7_step 241 = .ok (.iload_n 1, 1) := by decide +kernel
theorem dX7_step_242 : decode cX7_step 242 = .ok (.aload_n 0, 1) := by decide +kernel
theorem dX7_step_243 : decode cX7_step 243 = .ok (.getfield 19, 3) := by decide +kernel
theorem dX7_step_246 : decode cX7_step 246 = .ok (.if_icmp .eq 18, 3) := by decide +kernel
theorem dX7_step_249 : decode cX7_step 249 = .ok (.iload_n 1, 1) := by decide +kernel
theorem dX7_step_250 : decode cX7_step 250 = .ok (.iconst 1, 1) := by decide +kernel
theorem dX7_step_251 : decode cX7_step 251 = .ok (.if_icmp .eq 8, 3) := by decide +kernel
theorem dX7_step_254 : decode cX7_step 254 = .ok (.iload_n 1, 1) := by decide +kernel
theorem dX7_step_255 : decode cX7_step 255 = .ok (.iconst 2, 1) := by decide +kernel
theorem dX7_step_256 : decode cX7_step 256 = .ok (.if_icmp .ne 8, 3) := by decide +kernel
theorem dX7_step_259 : decode cX7_step 259 = .ok (.aload_n 0, 1) := by decide +kernel
theorem dX7_step_260 : decode cX7_step 260 = .ok (.iconst 4, 1) := by decide +kernel
theorem dX7_step_261 : decode cX7_step 261 = .ok (.putfield 19, 3) := by decide +kernel
theorem dX7_step_264 : decode cX7_step 264 = .ok (.aload_n 0, 1) := by decide +kernel
theorem dX7_step_265 : decode cX7_step 265 = .ok (.getfield 19, 3) := by decide +kernel
theorem dX7_step_268 : decode cX7_step 268 = .ok (.iconst 1, 1) := by decide +kernel
theorem dX7_step_269 : decode cX7_step 269 = .ok (.if_icmp .ne 16, 3) := by decide +kernel
theorem dX7_step_272 : decode cX7_step 272 = .ok (.aload_n 0, 1) := by decide +kernel
theorem dX7_step_273 : decode cX7_step 273 = .ok (.getfield 22, 3) := by decide +kernel
theorem dX7_step_276 : decode cX7_step 276 = .ok (.aload_n 0, 1) := by decide +kernel
theorem dX7_step_277 : decode cX7_step 277 = .ok (.getfield 31, 3) := by decide +kernel
theorem dX7_step_280 : decode cX7_step 280 = .ok (.isub, 1) := by decide +kernel
theorem dX7_step_281 : decode cX7_step 281 = .ok (.iconst 5, 1) := by decide +kernel
theorem dX7_step_282 : decode cX7_step 282 = .ok (.if_icmp .le 8, 3) := by decide +kernel
theorem dX7_step_285 : decode cX7_step 285 = .ok (.aload_n 0, 1) := by decide +kernel
theorem dX7_step_286 : decode cX7_step 286 = .ok (.iconst 0, 1) := by decide +kernel
theorem dX7_step_287 : decode cX7_step 287 = .ok (.putfield 50, 3) := by decide +kernel
theorem dX7_step_290 : decode cX7_step 290 = .ok (.return_, 1) := by decide +kernel
set_option maxRecDepth 20000 in
theorem bk_X7_step_0 {d : Nat} {w : hb_W} {Q : Option hb_V → hb_W → Prop} (h : hb_R yX7_step cX7_step 4 none (d + 1) 15 [some (hb_r 3 0 0), some (hb_i (hb_fI w 3 1 0)), some (hb_i (hb_fI w 3 5 0)), none] [] (hb_pI w 3 4 0 (hb_fI w 3 5 0)) Q) : hb_R yX7_step cX7_step 4 none (d + 1) 0 [some (hb_r 3 0 0), none, none, none] [] w Q := by
  refine hb_aload_n (pc := 0) (i := 0) dX7_step_0 rfl rfl ?_
  refine hb_getIx (pc := 1) (x := hb_fI w 3 1 0) dX7_step_1 fw_X7_19 cw_7 rfl (by decide) rfl rfl ?_
  refine hb_istore_n (pc := 4) (i := 1) (ls1 := [some (hb_r 3 0 0), some (hb_i (hb_fI w 3 1 0)), none, none]) dX7_step_4 rfl (by decide) rfl ?_
  refine hb_aload_n (pc := 5) (i := 0) dX7_step_5 rfl rfl ?_
  refine hb_getIx (pc := 6) (x := hb_fI w 3 5 0) dX7_step_6 fw_X7_22 cw_7 rfl (by decide) rfl rfl ?_
  refine hb_istore_n (pc := 9) (i := 2) (ls1 := [some (hb_r 3 0 0), some (hb_i (hb_fI w 3 1 0)), some (hb_i (hb_fI w 3 5 0)), none]) dX7_step_9 rfl (by decide) rfl ?_
  refine hb_aload_n (pc := 10) (i := 0) dX7_step_10 rfl rfl ?_
  refine hb_iload_n (pc := 11) (i := 2) dX7_step_11 rfl rfl ?_
  refine hb_putI (pc := 12) dX7_step_12 fw_X7_31 cw_7 pw_7_4 rfl (by decide) rfl rfl rfl ?_
  exact h
set_option maxRecDepth 20000 in
theorem bk_X7_step_15 {d : Nat} {w : hb_W} {Q : Option hb_V → hb_W → Prop} {x1 : Int32} {x2 : Int32} (h : (((hb_fI w 1 1 0) ≤ (hb_fI w 3 4 0)) → hb_O yX10_at cX10_at 2 (some .int) d [hb_r 1 0 0, hb_i (hb_fI w 3 4 0)] w (fun rv w1 => hb_R yX7_step cX7_step 4 none (d + 1) 71 [some (hb_r 3 0 0), some (hb_i x1), some (hb_i x2), none] (rv.toList ++ [hb_r 3 0 0]) w1 Q)) ∧ ((¬ (hb_fI w 1 1 0) ≤ (hb_fI w 3 4 0)) → hb_O yX10_at cX10_at 2 (some .int) d [hb_r 1 0 0, hb_i (hb_fI w 3 4 0)] w (fun rv w1 => hb_R yX7_step cX7_step 4 none (d + 1) 40 [some (hb_r 3 0 0), some (hb_i x1), some (hb_i x2), none] (rv.toList ++ []) w1 Q))) : hb_R yX7_step cX7_step 4 none (d + 1) 15 [some (hb_r 3 0 0), some (hb_i x1), some (hb_i x2), none] [] w Q := by
  refine hb_aload_n (pc := 15) (i := 0) dX7_step_15 rfl rfl ?_
  refine hb_getIx (pc := 16) (x := hb_fI w 3 4 0) dX7_step_16 fw_X7_31 cw_7 rfl (by decide) rfl rfl ?_
  refine hb_aload_n (pc := 19) (i := 0) dX7_step_19 rfl rfl ?_
  refine hb_getR (pc := 20) (g1 := 0) dX7_step_20 fw_X7_9 cw_7 rfl (by decide) rfl (by decide) rfl ?_
  refine hb_getIx (pc := 23) (x := hb_fI w 1 1 0) dX7_step_23 fw_X7_34 cw_10 rfl (by decide) rfl rfl ?_
  refine hb_icmp_ge (pc := 26) (tgt := 59) dX7_step_26 (by decide) (fun c1 => ?_) (fun c1 => ?_)
  · have ht1 := h.1 c1
    refine hb_aload_n (pc := 59) (i := 0) dX7_step_59 rfl rfl ?_
    refine hb_aload_n (pc := 60) (i := 0) dX7_step_60 rfl rfl ?_
    refine hb_getR (pc := 61) (g1 := 0) dX7_step_61 fw_X7_9 cw_7 rfl (by decide) rfl (by decide) rfl ?_
    refine hb_aload_n (pc := 64) (i := 0) dX7_step_64 rfl rfl ?_
    refine hb_getIx (pc := 65) (x := hb_fI w 3 4 0) dX7_step_65 fw_X7_31 cw_7 rfl (by decide) rfl rfl ?_
    exact hb_callV (pc := 68) (As := [hb_i (hb_fI w 3 4 0)]) (st := [hb_r 3 0 0]) dX7_step_68 ml_X7_39 mf_X10_at mi_X10_at (ci := 10) rfl rfl (by decide) rfl rfl (Nat.le_of_ble_eq_true rfl) (Nat.le_of_ble_eq_true rfl) ht1 (fun _ _ q => q)
  · have ht1 := h.2 c1
    refine hb_aload_n (pc := 29) (i := 0) dX7_step_29 rfl rfl ?_
    refine hb_getR (pc := 30) (g1 := 0) dX7_step_30 fw_X7_9 cw_7 rfl (by decide) rfl (by decide) rfl ?_
    refine hb_aload_n (pc := 33) (i := 0) dX7_step_33 rfl rfl ?_
    refine hb_getIx (pc := 34) (x := hb_fI w 3 4 0) dX7_step_34 fw_X7_31 cw_7 rfl (by decide) rfl rfl ?_
    exact hb_callV (pc := 37) (As := [hb_i (hb_fI w 3 4 0)]) (st := []) dX7_step_37 ml_X7_39 mf_X10_at mi_X10_at (ci := 10) rfl rfl (by decide) rfl rfl (Nat.le_of_ble_eq_true rfl) (Nat.le_of_ble_eq_true rfl) ht1 (fun _ _ q => q)
set_option maxRecDepth 20000 in
theorem bk_X7_step_40 {d : Nat} {w : hb_W} {Q : Option hb_V → hb_W → Prop} {x1 : Int32} {x2 : Int32} {xs0 : Int32} (h : hb_O yX7_isBlank cX7_isBlank 1 (some .boolean) d [hb_i xs0] w (fun rv w1 => hb_R yX7_step cX7_step 4 none (d + 1) 43 [some (hb_r 3 0 0), some (hb_i x1), some (hb_i x2), none] (rv.toList ++ []) w1 Q)) : hb_R yX7_step cX7_step 4 none (d + 1) 40 [some (hb_r 3 0 0), some (hb_i x1), some (hb_i x2), none] [hb_i xs0] w Q := by
  exact hb_callS (pc := 40) (As := [hb_i xs0]) (st := []) dX7_step_40 ml_X7_43 mf_X7_isBlank ms_X7_isBlank rfl rfl (Nat.le_of_ble_eq_true rfl) (Nat.le_of_ble_eq_true rfl) h (fun _ _ q => q)
set_option maxRecDepth 20000 in
theorem bk_X7_step_43 {d : Nat} {w : hb_W} {Q : Option hb_V → hb_W → Prop} {x1 : Int32} {x2 : Int32} {xs0 : Int32} (h : ((xs0 = 0) → hb_O yX10_at cX10_at 2 (some .int) d [hb_r 1 0 0, hb_i (hb_fI w 3 4 0)] w (fun rv w1 => hb_R yX7_step cX7_step 4 none (d + 1) 71 [some (hb_r 3 0 0), some (hb_i x1), some (hb_i x2), none] (rv.toList ++ [hb_r 3 0 0]) w1 Q)) ∧ ((¬ xs0 = 0) → hb_R yX7_step cX7_step 4 none (d + 1) 15 [some (hb_r 3 0 0), some (hb_i x1), some (hb_i x2), none] [] (hb_pI w 3 4 0 ((hb_fI w 3 4 0) + (1 : Int32))) Q)) : hb_R yX7_step cX7_step 4 none (d + 1) 43 [some (hb_r 3 0 0), some (hb_i x1), some (hb_i x2), none] [hb_i xs0] w Q := by
  refine hb_if_eq (pc := 43) (tgt := 59) dX7_step_43 (by decide) (fun c1 => ?_) (fun c1 => ?_)
  · have ht1 := h.1 c1
    refine hb_aload_n (pc := 59) (i := 0) dX7_step_59 rfl rfl ?_
    refine hb_aload_n (pc := 60) (i := 0) dX7_step_60 rfl rfl ?_
    refine hb_getR (pc := 61) (g1 := 0) dX7_step_61 fw_X7_9 cw_7 rfl (by decide) rfl (by decide) rfl ?_
    refine hb_aload_n (pc := 64) (i := 0) dX7_step_64 rfl rfl ?_
    refine hb_getIx (pc := 65) (x := hb_fI w 3 4 0) dX7_step_65 fw_X7_31 cw_7 rfl (by decide) rfl rfl ?_
    exact hb_callV (pc := 68) (As := [hb_i (hb_fI w 3 4 0)]) (st := [hb_r 3 0 0]) dX7_step_68 ml_X7_39 mf_X10_at mi_X10_at (ci := 10) rfl rfl (by decide) rfl rfl (Nat.le_of_ble_eq_true rfl) (Nat.le_of_ble_eq_true rfl) ht1 (fun _ _ q => q)
  · have ht1 := h.2 c1
    refine hb_aload_n (pc := 46) (i := 0) dX7_step_46 rfl rfl ?_
    refine hb_dupr (pc := 47) dX7_step_47 ?_
    refine hb_getIx (pc := 48) (x := hb_fI w 3 4 0) dX7_step_48 fw_X7_31 cw_7 rfl (by decide) rfl rfl ?_
    refine hb_iconst (pc := 51) (v := 1) dX7_step_51 (by decide) ?_
    refine hb_iadd (pc := 52) dX7_step_52 ?_
    refine hb_putI (pc := 53) dX7_step_53 fw_X7_31 cw_7 pw_7_4 rfl (by decide) rfl rfl rfl ?_
    refine hb_goto (pc := 56) (tgt := 15) dX7_step_56 (by decide) ?_
    exact ht1
set_option maxRecDepth 20000 in
theorem bk_X7_step_71 {d : Nat} {w : hb_W} {Q : Option hb_V → hb_W → Prop} {x1 : Int32} {x2 : Int32} {xs1 : Int32} (h : hb_O yX7_kindOf cX7_kindOf 1 (some .int) d [hb_i xs1] w (fun rv w1 => hb_R yX7_step cX7_step 4 none (d + 1) 74 [some (hb_r 3 0 0), some (hb_i x1), some (hb_i x2), none] (rv.toList ++ [hb_r 3 0 0]) w1 Q)) : hb_R yX7_step cX7_step 4 none (d + 1) 71 [some (hb_r 3 0 0), some (hb_i x1), some (hb_i x2), none] [hb_i xs1, hb_r 3 0 0] w Q := by
  exact hb_callS (pc := 71) (As := [hb_i xs1]) (st := [hb_r 3 0 0]) dX7_step_71 ml_X7_47 mf_X7_kindOf ms_X7_kindOf rfl rfl (Nat.le_of_ble_eq_true rfl) (Nat.le_of_ble_eq_true rfl) h (fun _ _ q => q)
set_option maxRecDepth 20000 in
theorem bk_X7_step_74 {d : Nat} {w : hb_W} {Q : Option hb_V → hb_W → Prop} {x1 : Int32} {x2 : Int32} {xs1 : Int32} (h : ((xs1 = (1 : Int32)) → hb_R yX7_step cX7_step 4 none (d + 1) 117 [some (hb_r 3 0 0), some (hb_i x1), some (hb_i x2), some (hb_i (1 : Int32))] [] (hb_pI (hb_pI (hb_pI (hb_pI w 3 1 0 xs1) 3 5 0 (hb_fI w 3 4 0)) 3 2 0 (0 : Int32)) 3 3 0 (0 : Int32)) Q) ∧ ((¬ xs1 = (1 : Int32)) → ((¬ xs1 = (2 : Int32)) → hb_R yX7_step cX7_step 4 none (d + 1) 117 [some (hb_r 3 0 0), some (hb_i x1), some (hb_i x2), some (hb_i (0 : Int32))] [] (hb_pI (hb_pI (hb_pI (hb_pI w 3 1 0 xs1) 3 5 0 (hb_fI w 3 4 0)) 3 2 0 (0 : Int32)) 3 3 0 (0 : Int32)) Q) ∧ ((xs1 = (2 : Int32)) → hb_R yX7_step cX7_step 4 none (d + 1) 117 [some (hb_r 3 0 0), some (hb_i x1), some (hb_i x2), some (hb_i (1 : Int32))] [] (hb_pI (hb_pI (hb_pI (hb_pI w 3 1 0 xs1) 3 5 0 (hb_fI w 3 4 0)) 3 2 0 (0 : Int32)) 3 3 0 (0 : Int32)) Q))) : hb_R yX7_step cX7_step 4 none (d + 1) 74 [some (hb_r 3 0 0), some (hb_i x1), some (hb_i x2), none] [hb_i xs1, hb_r 3 0 0] w Q := by
  refine hb_putI (pc := 74) dX7_step_74 fw_X7_19 cw_7 pw_7_1 rfl (by decide) rfl rfl rfl ?_
  refine hb_aload_n (pc := 77) (i := 0) dX7_step_77 rfl rfl ?_
  refine hb_getIx (pc := 78) (x := xs1) dX7_step_78 fw_X7_19 cw_7 rfl (by decide) rfl rfl ?_
  refine hb_iconst (pc := 81) (v := 1) dX7_step_81 (by decide) ?_
  refine hb_icmp_eq (pc := 82) (tgt := 93) dX7_step_82 (by decide) (fun c1 => ?_) (fun c1 => ?_)
  · have ht1 := h.1 c1
    refine hb_iconst (pc := 93) (v := 1) dX7_step_93 (by decide) ?_
    refine hb_goto (pc := 94) (tgt := 98) dX7_step_94 (by decide) ?_
    refine hb_istore_n (pc := 98) (i := 3) (ls1 := [some (hb_r 3 0 0), some (hb_i x1), some (hb_i x2), some (hb_i (1 : Int32))]) dX7_step_98 rfl (by decide) rfl ?_
    refine hb_aload_n (pc := 99) (i := 0) dX7_step_99 rfl rfl ?_
    refine hb_aload_n (pc := 100) (i := 0) dX7_step_100 rfl rfl ?_
    refine hb_getIx (pc := 101) (x := hb_fI w 3 4 0) dX7_step_101 fw_X7_31 cw_7 rfl (by decide) rfl rfl ?_
    refine hb_putI (pc := 104) dX7_step_104 fw_X7_22 cw_7 pw_7_5 rfl (by decide) rfl rfl rfl ?_
    refine hb_aload_n (pc := 107) (i := 0) dX7_step_107 rfl rfl ?_
    refine hb_iconst (pc := 108) (v := 0) dX7_step_108 (by decide) ?_
    refine hb_putI (pc := 109) dX7_step_109 fw_X7_50 cw_7 pw_7_2 rfl (by decide) rfl rfl rfl ?_
    refine hb_aload_n (pc := 112) (i := 0) dX7_step_112 rfl rfl ?_
    refine hb_iconst (pc := 113) (v := 0) dX7_step_113 (by decide) ?_
    refine hb_putI (pc := 114) dX7_step_114 fw_X7_53 cw_7 pw_7_3 rfl (by decide) rfl rfl rfl ?_
    exact ht1
  · have ht1 := h.2 c1
    refine hb_aload_n (pc := 85) (i := 0) dX7_step_85 rfl rfl ?_
    refine hb_getIx (pc := 86) (x := xs1) dX7_step_86 fw_X7_19 cw_7 rfl (by decide) rfl rfl ?_
    refine hb_iconst (pc := 89) (v := 2) dX7_step_89 (by decide) ?_
    refine hb_icmp_ne (pc := 90) (tgt := 97) dX7_step_90 (by decide) (fun c2 => ?_) (fun c2 => ?_)
    · have ht2 := ht1.1 c2
      refine hb_iconst (pc := 97) (v := 0) dX7_step_97 (by decide) ?_
      refine hb_istore_n (pc := 98) (i := 3) (ls1 := [some (hb_r 3 0 0), some (hb_i x1), some (hb_i x2), some (hb_i (0 : Int32))]) dX7_step_98 rfl (by decide) rfl ?_
      refine hb_aload_n (pc := 99) (i := 0) dX7_step_99 rfl rfl ?_
      refine hb_aload_n (pc := 100) (i := 0) dX7_step_100 rfl rfl ?_
      refine hb_getIx (pc := 101) (x := hb_fI w 3 4 0) dX7_step_101 fw_X7_31 cw_7 rfl (by decide) rfl rfl ?_
      refine hb_putI (pc := 104) dX7_step_104 fw_X7_22 cw_7 pw_7_5 rfl (by decide) rfl rfl rfl ?_
      refine hb_aload_n (pc := 107) (i := 0) dX7_step_107 rfl rfl ?_
      refine hb_iconst (pc := 108) (v := 0) dX7_step_108 (by decide) ?_
      refine hb_putI (pc := 109) dX7_step_109 fw_X7_50 cw_7 pw_7_2 rfl (by decide) rfl rfl rfl ?_
      refine hb_aload_n (pc := 112) (i := 0) dX7_step_112 rfl rfl ?_
      refine hb_iconst (pc := 113) (v := 0) dX7_step_113 (by decide) ?_
      refine hb_putI (pc := 114) dX7_step_114 fw_X7_53 cw_7 pw_7_3 rfl (by decide) rfl rfl rfl ?_
      exact ht2
    · have ht2 := ht1.2 c2
      refine hb_iconst (pc := 93) (v := 1) dX7_step_93 (by decide) ?_
      refine hb_goto (pc := 94) (tgt := 98) dX7_step_94 (by decide) ?_
      refine hb_istore_n (pc := 98) (i := 3) (ls1 := [some (hb_r 3 0 0), some (hb_i x1), some (hb_i x2), some (hb_i (1 : Int32))]) dX7_step_98 rfl (by decide) rfl ?_
      refine hb_aload_n (pc := 99) (i := 0) dX7_step_99 rfl rfl ?_
      refine hb_aload_n (pc := 100) (i := 0) dX7_step_100 rfl rfl ?_
      refine hb_getIx (pc := 101) (x := hb_fI w 3 4 0) dX7_step_101 fw_X7_31 cw_7 rfl (by decide) rfl rfl ?_
      refine hb_putI (pc := 104) dX7_step_104 fw_X7_22 cw_7 pw_7_5 rfl (by decide) rfl rfl rfl ?_
      refine hb_aload_n (pc := 107) (i := 0) dX7_step_107 rfl rfl ?_
      refine hb_iconst (pc := 108) (v := 0) dX7_step_108 (by decide) ?_
      refine hb_putI (pc := 109) dX7_step_109 fw_X7_50 cw_7 pw_7_2 rfl (by decide) rfl rfl rfl ?_
      refine hb_aload_n (pc := 112) (i := 0) dX7_step_112 rfl rfl ?_
      refine hb_iconst (pc := 113) (v := 0) dX7_step_113 (by decide) ?_
      refine hb_putI (pc := 114) dX7_step_114 fw_X7_53 cw_7 pw_7_3 rfl (by decide) rfl rfl rfl ?_
      exact ht2
set_option maxRecDepth 20000 in
theorem bk_X7_step_117 {d : Nat} {w : hb_W} {Q : Option hb_V → hb_W → Prop} {x1 : Int32} {x2 : Int32} {x3 : Int32} (h : (((hb_fI w 1 1 0) ≤ (hb_fI w 3 5 0)) → ((¬ (hb_fI w 3 4 0) = x2) → hb_R yX7_step cX7_step 4 none (d + 1) 264 [some (hb_r 3 0 0), some (hb_i x1), some (hb_i x2), some (hb_i x3)] [] w Q) ∧ (((hb_fI w 3 4 0) = x2) → ((x3 = 0) → hb_R yX7_step cX7_step 4 none (d + 1) 264 [some (hb_r 3 0 0), some (hb_i x1), some (hb_i x2), some (hb_i x3)] [] w Q) ∧ ((¬ x3 = 0) → ((x1 = (hb_fI w 3 1 0)) → hb_R yX7_step cX7_step 4 none (d + 1) 264 [some (hb_r 3 0 0), some (hb_i x1), some (hb_i x2), some (hb_i x3)] [] w Q) ∧ ((¬ x1 = (hb_fI w 3 1 0)) → ((x1 = (1 : Int32)) → hb_R yX7_step cX7_step 4 none (d + 1) 264 [some (hb_r 3 0 0), some (hb_i x1), some (hb_i x2), some (hb_i x3)] [] (hb_pI w 3 1 0 (4 : Int32)) Q) ∧ ((¬ x1 = (1 : Int32)) → ((¬ x1 = (2 : Int32)) → hb_R yX7_step cX7_step 4 none (d + 1) 264 [some (hb_r 3 0 0), some (hb_i x1), some (hb_i x2), some (hb_i x3)] [] w Q) ∧ ((x1 = (2 : Int32)) → hb_R yX7_step cX7_step 4 none (d + 1) 264 [some (hb_r 3 0 0), some (hb_i x1), some (hb_i x2), some (hb_i x3)] [] (hb_pI w 3 1 0 (4 : Int32)) Q)))))) ∧ ((¬ (hb_fI w 1 1 0) ≤ (hb_fI w 3 5 0)) → (((hb_fI w 3 5 0) = (hb_fI w 3 4 0)) → hb_O yX10_at cX10_at 2 (some .int) d [hb_r 1 0 0, hb_i (hb_fI w 3 5 0)] w (fun rv w1 => hb_R yX7_step cX7_step 4 none (d + 1) 186 [some (hb_r 3 0 0), some (hb_i x1), some (hb_i x2), some (hb_i x3)] (rv.toList ++ [hb_i ((hb_fI w 3 2 0) * (32 : Int32)), hb_r 3 0 0]) w1 Q)) ∧ ((¬ (hb_fI w 3 5 0) = (hb_fI w 3 4 0)) → ((x3 = 0) → ((¬ (hb_fI w 3 4 0) = x2) → hb_R yX7_step cX7_step 4 none (d + 1) 264 [some (hb_r 3 0 0), some (hb_i x1), some (hb_i x2), some (hb_i x3)] [] w Q) ∧ (((hb_fI w 3 4 0) = x2) → ((x3 = 0) → hb_R yX7_step cX7_step 4 none (d + 1) 264 [some (hb_r 3 0 0), some (hb_i x1), some (hb_i x2), some (hb_i x3)] [] w Q) ∧ ((¬ x3 = 0) → ((x1 = (hb_fI w 3 1 0)) → hb_R yX7_step cX7_step 4 none (d + 1) 264 [some (hb_r 3 0 0), some (hb_i x1), some (hb_i x2), some (hb_i x3)] [] w Q) ∧ ((¬ x1 = (hb_fI w 3 1 0)) → ((x1 = (1 : Int32)) → hb_R yX7_step cX7_step 4 none (d + 1) 264 [some (hb_r 3 0 0), some (hb_i x1), some (hb_i x2), some (hb_i x3)] [] (hb_pI w 3 1 0 (4 : Int32)) Q) ∧ ((¬ x1 = (1 : Int32)) → ((¬ x1 = (2 : Int32)) → hb_R yX7_step cX7_step 4 none (d + 1) 264 [some (hb_r 3 0 0), some (hb_i x1), some (hb_i x2), some (hb_i x3)] [] w Q) ∧ ((x1 = (2 : Int32)) → hb_R yX7_step cX7_step 4 none (d + 1) 264 [some (hb_r 3 0 0), some (hb_i x1), some (hb_i x2), some (hb_i x3)] [] (hb_pI w 3 1 0 (4 : Int32)) Q)))))) ∧ ((¬ x3 = 0) → hb_O yX10_at cX10_at 2 (some .int) d [hb_r 1 0 0, hb_i (hb_fI w 3 5 0)] w (fun rv w1 => hb_R yX7_step cX7_step 4 none (d + 1) 157 [some (hb_r 3 0 0), some (hb_i x1), some (hb_i x2), some (hb_i x3)] (rv.toList ++ []) w1 Q))))) : hb_R yX7_step cX7_step 4 none (d + 1) 117 [some (hb_r 3 0 0), some (hb_i x1), some (hb_i x2), some (hb_i x3)] [] w Q := by
  refine hb_aload_n (pc := 117) (i := 0) dX7_step_117 rfl rfl ?_
  refine hb_getIx (pc := 118) (x := hb_fI w 3 5 0) dX7_step_118 fw_X7_22 cw_7 rfl (by decide) rfl rfl ?_
  refine hb_aload_n (pc := 121) (i := 0) dX7_step_121 rfl rfl ?_
  refine hb_getR (pc := 122) (g1 := 0) dX7_step_122 fw_X7_9 cw_7 rfl (by decide) rfl (by decide) rfl ?_
  refine hb_getIx (pc := 125) (x := hb_fI w 1 1 0) dX7_step_125 fw_X7_34 cw_10 rfl (by decide) rfl rfl ?_
  refine hb_icmp_ge (pc := 128) (tgt := 229) dX7_step_128 (by decide) (fun c1 => ?_) (fun c1 => ?_)
  · have ht1 := h.1 c1
    refine hb_aload_n (pc := 229) (i := 0) dX7_step_229 rfl rfl ?_
    refine hb_getIx (pc := 230) (x := hb_fI w 3 4 0) dX7_step_230 fw_X7_31 cw_7 rfl (by decide) rfl rfl ?_
    refine hb_iload_n (pc := 233) (i := 2) dX7_step_233 rfl rfl ?_
    refine hb_icmp_ne (pc := 234) (tgt := 264) dX7_step_234 (by decide) (fun c2 => ?_) (fun c2 => ?_)
    · have ht2 := ht1.1 c2
      exact ht2
    · have ht2 := ht1.2 c2
      refine hb_iload_n (pc := 237) (i := 3) dX7_step_237 rfl rfl ?_
      refine hb_if_eq (pc := 238) (tgt := 264) dX7_step_238 (by decide) (fun c3 => ?_) (fun c3 => ?_)
      · have ht3 := ht2.1 c3
        exact ht3
      · have ht3 := ht2.2 c3
        refine hb_iload_n (pc := 241) (i := 1) dX7_step_241 rfl rfl ?_
        refine hb_aload_n (pc := 242) (i := 0) dX7_step_242 rfl rfl ?_
        refine hb_getIx (pc := 243) (x := hb_fI w 3 1 0) dX7_step_243 fw_X7_19 cw_7 rfl (by decide) rfl rfl ?_
        refine hb_icmp_eq (pc := 246) (tgt := 264) dX7_step_246 (by decide) (fun c4 => ?_) (fun c4 => ?_)
        · have ht4 := ht3.1 c4
          exact ht4
        · have ht4 := ht3.2 c4
          refine hb_iload_n (pc := 249) (i := 1) dX7_step_249 rfl rfl ?_
          refine hb_iconst (pc := 250) (v := 1) dX7_step_250 (by decide) ?_
          refine hb_icmp_eq (pc := 251) (tgt := 259) dX7_step_251 (by decide) (fun c5 => ?_) (fun c5 => ?_)
          · have ht5 := ht4.1 c5
            refine hb_aload_n (pc := 259) (i := 0) dX7_step_259 rfl rfl ?_
            refine hb_iconst (pc := 260) (v := 4) dX7_step_260 (by decide) ?_
            refine hb_putI (pc := 261) dX7_step_261 fw_X7_19 cw_7 pw_7_1 rfl (by decide) rfl rfl rfl ?_
            exact ht5
          · have ht5 := ht4.2 c5
            refine hb_iload_n (pc := 254) (i := 1) dX7_step_254 rfl rfl ?_
            refine hb_iconst (pc := 255) (v := 2) dX7_step_255 (by decide) ?_
            refine hb_icmp_ne (pc := 256) (tgt := 264) dX7_step_256 (by decide) (fun c6 => ?_) (fun c6 => ?_)
            · have ht6 := ht5.1 c6
              exact ht6
            · have ht6 := ht5.2 c6
              refine hb_aload_n (pc := 259) (i := 0) dX7_step_259 rfl rfl ?_
              refine hb_iconst (pc := 260) (v := 4) dX7_step_260 (by decide) ?_
              refine hb_putI (pc := 261) dX7_step_261 fw_X7_19 cw_7 pw_7_1 rfl (by decide) rfl rfl rfl ?_
              exact ht6
  · have ht1 := h.2 c1
    refine hb_aload_n (pc := 131) (i := 0) dX7_step_131 rfl rfl ?_
    refine hb_getIx (pc := 132) (x := hb_fI w 3 5 0) dX7_step_132 fw_X7_22 cw_7 rfl (by decide) rfl rfl ?_
    refine hb_aload_n (pc := 135) (i := 0) dX7_step_135 rfl rfl ?_
    refine hb_getIx (pc := 136) (x := hb_fI w 3 4 0) dX7_step_136 fw_X7_31 cw_7 rfl (by decide) rfl rfl ?_
    refine hb_icmp_eq (pc := 139) (tgt := 167) dX7_step_139 (by decide) (fun c7 => ?_) (fun c7 => ?_)
    · have ht7 := ht1.1 c7
      refine hb_aload_n (pc := 167) (i := 0) dX7_step_167 rfl rfl ?_
      refine hb_aload_n (pc := 168) (i := 0) dX7_step_168 rfl rfl ?_
      refine hb_getIx (pc := 169) (x := hb_fI w 3 2 0) dX7_step_169 fw_X7_50 cw_7 rfl (by decide) rfl rfl ?_
      refine hb_bipush (pc := 172) (v := 32) dX7_step_172 (by decide) ?_
      refine hb_imul (pc := 174) dX7_step_174 ?_
      refine hb_aload_n (pc := 175) (i := 0) dX7_step_175 rfl rfl ?_
      refine hb_getR (pc := 176) (g1 := 0) dX7_step_176 fw_X7_9 cw_7 rfl (by decide) rfl (by decide) rfl ?_
      refine hb_aload_n (pc := 179) (i := 0) dX7_step_179 rfl rfl ?_
      refine hb_getIx (pc := 180) (x := hb_fI w 3 5 0) dX7_step_180 fw_X7_22 cw_7 rfl (by decide) rfl rfl ?_
      exact hb_callV (pc := 183) (As := [hb_i (hb_fI w 3 5 0)]) (st := [hb_i ((hb_fI w 3 2 0) * (32 : Int32)), hb_r 3 0 0]) dX7_step_183 ml_X7_39 mf_X10_at mi_X10_at (ci := 10) rfl rfl (by decide) rfl rfl (Nat.le_of_ble_eq_true rfl) (Nat.le_of_ble_eq_true rfl) ht7 (fun _ _ q => q)
    · have ht7 := ht1.2 c7
      refine hb_iload_n (pc := 142) (i := 3) dX7_step_142 rfl rfl ?_
      refine hb_if_eq (pc := 143) (tgt := 229) dX7_step_143 (by decide) (fun c8 => ?_) (fun c8 => ?_)
      · have ht8 := ht7.1 c8
        refine hb_aload_n (pc := 229) (i := 0) dX7_step_229 rfl rfl ?_
        refine hb_getIx (pc := 230) (x := hb_fI w 3 4 0) dX7_step_230 fw_X7_31 cw_7 rfl (by decide) rfl rfl ?_
        refine hb_iload_n (pc := 233) (i := 2) dX7_step_233 rfl rfl ?_
        refine hb_icmp_ne (pc := 234) (tgt := 264) dX7_step_234 (by decide) (fun c9 => ?_) (fun c9 => ?_)
        · have ht9 := ht8.1 c9
          exact ht9
        · have ht9 := ht8.2 c9
          refine hb_iload_n (pc := 237) (i := 3) dX7_step_237 rfl rfl ?_
          refine hb_if_eq (pc := 238) (tgt := 264) dX7_step_238 (by decide) (fun c10 => ?_) (fun c10 => ?_)
          · have ht10 := ht9.1 c10
            exact ht10
          · have ht10 := ht9.2 c10
            refine hb_iload_n (pc := 241) (i := 1) dX7_step_241 rfl rfl ?_
            refine hb_aload_n (pc := 242) (i := 0) dX7_step_242 rfl rfl ?_
            refine hb_getIx (pc := 243) (x := hb_fI w 3 1 0) dX7_step_243 fw_X7_19 cw_7 rfl (by decide) rfl rfl ?_
            refine hb_icmp_eq (pc := 246) (tgt := 264) dX7_step_246 (by decide) (fun c11 => ?_) (fun c11 => ?_)
            · have ht11 := ht10.1 c11
              exact ht11
            · have ht11 := ht10.2 c11
              refine hb_iload_n (pc := 249) (i := 1) dX7_step_249 rfl rfl ?_
              refine hb_iconst (pc := 250) (v := 1) dX7_step_250 (by decide) ?_
              refine hb_icmp_eq (pc := 251) (tgt := 259) dX7_step_251 (by decide) (fun c12 => ?_) (fun c12 => ?_)
              · have ht12 := ht11.1 c12
                refine hb_aload_n (pc := 259) (i := 0) dX7_step_259 rfl rfl ?_
                refine hb_iconst (pc := 260) (v := 4) dX7_step_260 (by decide) ?_
                refine hb_putI (pc := 261) dX7_step_261 fw_X7_19 cw_7 pw_7_1 rfl (by decide) rfl rfl rfl ?_
                exact ht12
              · have ht12 := ht11.2 c12
                refine hb_iload_n (pc := 254) (i := 1) dX7_step_254 rfl rfl ?_
                refine hb_iconst (pc := 255) (v := 2) dX7_step_255 (by decide) ?_
                refine hb_icmp_ne (pc := 256) (tgt := 264) dX7_step_256 (by decide) (fun c13 => ?_) (fun c13 => ?_)
                · have ht13 := ht12.1 c13
                  exact ht13
                · have ht13 := ht12.2 c13
                  refine hb_aload_n (pc := 259) (i := 0) dX7_step_259 rfl rfl ?_
                  refine hb_iconst (pc := 260) (v := 4) dX7_step_260 (by decide) ?_
                  refine hb_putI (pc := 261) dX7_step_261 fw_X7_19 cw_7 pw_7_1 rfl (by decide) rfl rfl rfl ?_
                  exact ht13
      · have ht8 := ht7.2 c8
        refine hb_aload_n (pc := 146) (i := 0) dX7_step_146 rfl rfl ?_
        refine hb_getR (pc := 147) (g1 := 0) dX7_step_147 fw_X7_9 cw_7 rfl (by decide) rfl (by decide) rfl ?_
        refine hb_aload_n (pc := 150) (i := 0) dX7_step_150 rfl rfl ?_
        refine hb_getIx (pc := 151) (x := hb_fI w 3 5 0) dX7_step_151 fw_X7_22 cw_7 rfl (by decide) rfl rfl ?_
        exact hb_callV (pc := 154) (As := [hb_i (hb_fI w 3 5 0)]) (st := []) dX7_step_154 ml_X7_39 mf_X10_at mi_X10_at (ci := 10) rfl rfl (by decide) rfl rfl (Nat.le_of_ble_eq_true rfl) (Nat.le_of_ble_eq_true rfl) ht8 (fun _ _ q => q)
set_option maxRecDepth 20000 in
theorem bk_X7_step_157 {d : Nat} {w : hb_W} {Q : Option hb_V → hb_W → Prop} {x1 : Int32} {x2 : Int32} {x3 : Int32} {xs0 : Int32} (h : hb_O yX7_kindOf cX7_kindOf 1 (some .int) d [hb_i xs0] w (fun rv w1 => hb_R yX7_step cX7_step 4 none (d + 1) 160 [some (hb_r 3 0 0), some (hb_i x1), some (hb_i x2), some (hb_i x3)] (rv.toList ++ []) w1 Q)) : hb_R yX7_step cX7_step 4 none (d + 1) 157 [some (hb_r 3 0 0), some (hb_i x1), some (hb_i x2), some (hb_i x3)] [hb_i xs0] w Q := by
  exact hb_callS (pc := 157) (As := [hb_i xs0]) (st := []) dX7_step_157 ml_X7_47 mf_X7_kindOf ms_X7_kindOf rfl rfl (Nat.le_of_ble_eq_true rfl) (Nat.le_of_ble_eq_true rfl) h (fun _ _ q => q)
set_option maxRecDepth 20000 in
theorem bk_X7_step_160 {d : Nat} {w : hb_W} {Q : Option hb_V → hb_W → Prop} {x1 : Int32} {x2 : Int32} {x3 : Int32} {xs0 : Int32} (h : ((¬ xs0 = (hb_fI w 3 1 0)) → ((¬ (hb_fI w 3 4 0) = x2) → hb_R yX7_step cX7_step 4 none (d + 1) 264 [some (hb_r 3 0 0), some (hb_i x1), some (hb_i x2), some (hb_i x3)] [] w Q) ∧ (((hb_fI w 3 4 0) = x2) → ((x3 = 0) → hb_R yX7_step cX7_step 4 none (d + 1) 264 [some (hb_r 3 0 0), some (hb_i x1), some (hb_i x2), some (hb_i x3)] [] w Q) ∧ ((¬ x3 = 0) → ((x1 = (hb_fI w 3 1 0)) → hb_R yX7_step cX7_step 4 none (d + 1) 264 [some (hb_r 3 0 0), some (hb_i x1), some (hb_i x2), some (hb_i x3)] [] w Q) ∧ ((¬ x1 = (hb_fI w 3 1 0)) → ((x1 = (1 : Int32)) → hb_R yX7_step cX7_step 4 none (d + 1) 264 [some (hb_r 3 0 0), some (hb_i x1), some (hb_i x2), some (hb_i x3)] [] (hb_pI w 3 1 0 (4 : Int32)) Q) ∧ ((¬ x1 = (1 : Int32)) → ((¬ x1 = (2 : Int32)) → hb_R yX7_step cX7_step 4 none (d + 1) 264 [some (hb_r 3 0 0), some (hb_i x1), some (hb_i x2), some (hb_i x3)] [] w Q) ∧ ((x1 = (2 : Int32)) → hb_R yX7_step cX7_step 4 none (d + 1) 264 [some (hb_r 3 0 0), some (hb_i x1), some (hb_i x2), some (hb_i x3)] [] (hb_pI w 3 1 0 (4 : Int32)) Q)))))) ∧ ((xs0 = (hb_fI w 3 1 0)) → hb_O yX10_at cX10_at 2 (some .int) d [hb_r 1 0 0, hb_i (hb_fI w 3 5 0)] w (fun rv w1 => hb_R yX7_step cX7_step 4 none (d + 1) 186 [some (hb_r 3 0 0), some (hb_i x1), some (hb_i x2), some (hb_i x3)] (rv.toList ++ [hb_i ((hb_fI w 3 2 0) * (32 : Int32)), hb_r 3 0 0]) w1 Q))) : hb_R yX7_step cX7_step 4 none (d + 1) 160 [some (hb_r 3 0 0), some (hb_i x1), some (hb_i x2), some (hb_i x3)] [hb_i xs0] w Q := by
  refine hb_aload_n (pc := 160) (i := 0) dX7_step_160 rfl rfl ?_
  refine hb_getIx (pc := 161) (x := hb_fI w 3 1 0) dX7_step_161 fw_X7_19 cw_7 rfl (by decide) rfl rfl ?_
  refine hb_icmp_ne (pc := 164) (tgt := 229) dX7_step_164 (by decide) (fun c1 => ?_) (fun c1 => ?_)
  · have ht1 := h.1 c1
    refine hb_aload_n (pc := 229) (i := 0) dX7_step_229 rfl rfl ?_
    refine hb_getIx (pc := 230) (x := hb_fI w 3 4 0) dX7_step_230 fw_X7_31 cw_7 rfl (by decide) rfl rfl ?_
    refine hb_iload_n (pc := 233) (i := 2) dX7_step_233 rfl rfl ?_
    refine hb_icmp_ne (pc := 234) (tgt := 264) dX7_step_234 (by decide) (fun c2 => ?_) (fun c2 => ?_)
    · have ht2 := ht1.1 c2
      exact ht2
    · have ht2 := ht1.2 c2
      refine hb_iload_n (pc := 237) (i := 3) dX7_step_237 rfl rfl ?_
      refine hb_if_eq (pc := 238) (tgt := 264) dX7_step_238 (by decide) (fun c3 => ?_) (fun c3 => ?_)
      · have ht3 := ht2.1 c3
        exact ht3
      · have ht3 := ht2.2 c3
        refine hb_iload_n (pc := 241) (i := 1) dX7_step_241 rfl rfl ?_
        refine hb_aload_n (pc := 242) (i := 0) dX7_step_242 rfl rfl ?_
        refine hb_getIx (pc := 243) (x := hb_fI w 3 1 0) dX7_step_243 fw_X7_19 cw_7 rfl (by decide) rfl rfl ?_
        refine hb_icmp_eq (pc := 246) (tgt := 264) dX7_step_246 (by decide) (fun c4 => ?_) (fun c4 => ?_)
        · have ht4 := ht3.1 c4
          exact ht4
        · have ht4 := ht3.2 c4
          refine hb_iload_n (pc := 249) (i := 1) dX7_step_249 rfl rfl ?_
          refine hb_iconst (pc := 250) (v := 1) dX7_step_250 (by decide) ?_
          refine hb_icmp_eq (pc := 251) (tgt := 259) dX7_step_251 (by decide) (fun c5 => ?_) (fun c5 => ?_)
          · have ht5 := ht4.1 c5
            refine hb_aload_n (pc := 259) (i := 0) dX7_step_259 rfl rfl ?_
            refine hb_iconst (pc := 260) (v := 4) dX7_step_260 (by decide) ?_
            refine hb_putI (pc := 261) dX7_step_261 fw_X7_19 cw_7 pw_7_1 rfl (by decide) rfl rfl rfl ?_
            exact ht5
          · have ht5 := ht4.2 c5
            refine hb_iload_n (pc := 254) (i := 1) dX7_step_254 rfl rfl ?_
            refine hb_iconst (pc := 255) (v := 2) dX7_step_255 (by decide) ?_
            refine hb_icmp_ne (pc := 256) (tgt := 264) dX7_step_256 (by decide) (fun c6 => ?_) (fun c6 => ?_)
            · have ht6 := ht5.1 c6
              exact ht6
            · have ht6 := ht5.2 c6
              refine hb_aload_n (pc := 259) (i := 0) dX7_step_259 rfl rfl ?_
              refine hb_iconst (pc := 260) (v := 4) dX7_step_260 (by decide) ?_
              refine hb_putI (pc := 261) dX7_step_261 fw_X7_19 cw_7 pw_7_1 rfl (by decide) rfl rfl rfl ?_
              exact ht6
  · have ht1 := h.2 c1
    refine hb_aload_n (pc := 167) (i := 0) dX7_step_167 rfl rfl ?_
    refine hb_aload_n (pc := 168) (i := 0) dX7_step_168 rfl rfl ?_
    refine hb_getIx (pc := 169) (x := hb_fI w 3 2 0) dX7_step_169 fw_X7_50 cw_7 rfl (by decide) rfl rfl ?_
    refine hb_bipush (pc := 172) (v := 32) dX7_step_172 (by decide) ?_
    refine hb_imul (pc := 174) dX7_step_174 ?_
    refine hb_aload_n (pc := 175) (i := 0) dX7_step_175 rfl rfl ?_
    refine hb_getR (pc := 176) (g1 := 0) dX7_step_176 fw_X7_9 cw_7 rfl (by decide) rfl (by decide) rfl ?_
    refine hb_aload_n (pc := 179) (i := 0) dX7_step_179 rfl rfl ?_
    refine hb_getIx (pc := 180) (x := hb_fI w 3 5 0) dX7_step_180 fw_X7_22 cw_7 rfl (by decide) rfl rfl ?_
    exact hb_callV (pc := 183) (As := [hb_i (hb_fI w 3 5 0)]) (st := [hb_i ((hb_fI w 3 2 0) * (32 : Int32)), hb_r 3 0 0]) dX7_step_183 ml_X7_39 mf_X10_at mi_X10_at (ci := 10) rfl rfl (by decide) rfl rfl (Nat.le_of_ble_eq_true rfl) (Nat.le_of_ble_eq_true rfl) ht1 (fun _ _ q => q)
set_option maxRecDepth 20000 in
theorem bk_X7_step_186 {d : Nat} {w : hb_W} {Q : Option hb_V → hb_W → Prop} {x1 : Int32} {x2 : Int32} {x3 : Int32} {xs1 : Int32} {xs2 : Int32} (h : hb_O yX10_at cX10_at 2 (some .int) d [hb_r 1 0 0, hb_i (hb_fI w 3 5 0)] (hb_pI w 3 2 0 (xs1 + xs2)) (fun rv w1 => hb_R yX7_step cX7_step 4 none (d + 1) 209 [some (hb_r 3 0 0), some (hb_i x1), some (hb_i x2), some (hb_i x3)] (rv.toList ++ [hb_i ((hb_fI w 3 3 0) * (10 : Int32)), hb_r 3 0 0]) w1 Q)) : hb_R yX7_step cX7_step 4 none (d + 1) 186 [some (hb_r 3 0 0), some (hb_i x1), some (hb_i x2), some (hb_i x3)] [hb_i xs2, hb_i xs1, hb_r 3 0 0] w Q := by
  refine hb_iadd (pc := 186) dX7_step_186 ?_
  refine hb_putI (pc := 187) dX7_step_187 fw_X7_50 cw_7 pw_7_2 rfl (by decide) rfl rfl rfl ?_
  refine hb_aload_n (pc := 190) (i := 0) dX7_step_190 rfl rfl ?_
  refine hb_aload_n (pc := 191) (i := 0) dX7_step_191 rfl rfl ?_
  refine hb_getIx (pc := 192) (x := hb_fI w 3 3 0) dX7_step_192 fw_X7_53 cw_7 rfl (by decide) rfl rfl ?_
  refine hb_bipush (pc := 195) (v := 10) dX7_step_195 (by decide) ?_
  refine hb_imul (pc := 197) dX7_step_197 ?_
  refine hb_aload_n (pc := 198) (i := 0) dX7_step_198 rfl rfl ?_
  refine hb_getR (pc := 199) (g1 := 0) dX7_step_199 fw_X7_9 cw_7 rfl (by decide) rfl (by decide) rfl ?_
  refine hb_aload_n (pc := 202) (i := 0) dX7_step_202 rfl rfl ?_
  refine hb_getIx (pc := 203) (x := hb_fI w 3 5 0) dX7_step_203 fw_X7_22 cw_7 rfl (by decide) rfl rfl ?_
  exact hb_callV (pc := 206) (As := [hb_i (hb_fI w 3 5 0)]) (st := [hb_i ((hb_fI w 3 3 0) * (10 : Int32)), hb_r 3 0 0]) dX7_step_206 ml_X7_39 mf_X10_at mi_X10_at (ci := 10) rfl rfl (by decide) rfl rfl (Nat.le_of_ble_eq_true rfl) (Nat.le_of_ble_eq_true rfl) h (fun _ _ q => q)
set_option maxRecDepth 20000 in
theorem bk_X7_step_209 {d : Nat} {w : hb_W} {Q : Option hb_V → hb_W → Prop} {x1 : Int32} {x2 : Int32} {x3 : Int32} {xs1 : Int32} {xs2 : Int32} (h : hb_R yX7_step cX7_step 4 none (d + 1) 117 [some (hb_r 3 0 0), some (hb_i x1), some (hb_i x2), some (hb_i x3)] [] (hb_pI (hb_pI w 3 3 0 (xs1 + (xs2 - (48 : Int32)))) 3 5 0 ((hb_fI w 3 5 0) + (1 : Int32))) Q) : hb_R yX7_step cX7_step 4 none (d + 1) 209 [some (hb_r 3 0 0), some (hb_i x1), some (hb_i x2), some (hb_i x3)] [hb_i xs2, hb_i xs1, hb_r 3 0 0] w Q := by
  refine hb_bipush (pc := 209) (v := 48) dX7_step_209 (by decide) ?_
  refine hb_isub (pc := 211) dX7_step_211 ?_
  refine hb_iadd (pc := 212) dX7_step_212 ?_
  refine hb_putI (pc := 213) dX7_step_213 fw_X7_53 cw_7 pw_7_3 rfl (by decide) rfl rfl rfl ?_
  refine hb_aload_n (pc := 216) (i := 0) dX7_step_216 rfl rfl ?_
  refine hb_dupr (pc := 217) dX7_step_217 ?_
  refine hb_getIx (pc := 218) (x := hb_fI w 3 5 0) dX7_step_218 fw_X7_22 cw_7 rfl (by decide) rfl rfl ?_
  refine hb_iconst (pc := 221) (v := 1) dX7_step_221 (by decide) ?_
  refine hb_iadd (pc := 222) dX7_step_222 ?_
  refine hb_putI (pc := 223) dX7_step_223 fw_X7_22 cw_7 pw_7_5 rfl (by decide) rfl rfl rfl ?_
  refine hb_goto (pc := 226) (tgt := 117) dX7_step_226 (by decide) ?_
  exact h
set_option maxRecDepth 20000 in
theorem bk_X7_step_264 {d : Nat} {w : hb_W} {Q : Option hb_V → hb_W → Prop} {x1 : Int32} {x2 : Int32} {x3 : Int32} (h : ((¬ (hb_fI w 3 1 0) = (1 : Int32)) → hb_R yX7_step cX7_step 4 none (d + 1) 285 [some (hb_r 3 0 0), some (hb_i x1), some (hb_i x2), some (hb_i x3)] [] w Q) ∧ (((hb_fI w 3 1 0) = (1 : Int32)) → ((((hb_fI w 3 5 0) - (hb_fI w 3 4 0)) ≤ (5 : Int32)) → hb_R yX7_step cX7_step 4 none (d + 1) 290 [some (hb_r 3 0 0), some (hb_i x1), some (hb_i x2), some (hb_i x3)] [] w Q) ∧ ((¬ ((hb_fI w 3 5 0) - (hb_fI w 3 4 0)) ≤ (5 : Int32)) → hb_R yX7_step cX7_step 4 none (d + 1) 285 [some (hb_r 3 0 0), some (hb_i x1), some (hb_i x2), some (hb_i x3)] [] w Q))) : hb_R yX7_step cX7_step 4 none (d + 1) 264 [some (hb_r 3 0 0), some (hb_i x1), some (hb_i x2), some (hb_i x3)] [] w Q := by
  refine hb_aload_n (pc := 264) (i := 0) dX7_step_264 rfl rfl ?_
  refine hb_getIx (pc := 265) (x := hb_fI w 3 1 0) dX7_step_265 fw_X7_19 cw_7 rfl (by decide) rfl rfl ?_
  refine hb_iconst (pc := 268) (v := 1) dX7_step_268 (by decide) ?_
  refine hb_icmp_ne (pc := 269) (tgt := 285) dX7_step_269 (by decide) (fun c1 => ?_) (fun c1 => ?_)
  · have ht1 := h.1 c1
    exact ht1
  · have ht1 := h.2 c1
    refine hb_aload_n (pc := 272) (i := 0) dX7_step_272 rfl rfl ?_
    refine hb_getIx (pc := 273) (x := hb_fI w 3 5 0) dX7_step_273 fw_X7_22 cw_7 rfl (by decide) rfl rfl ?_
    refine hb_aload_n (pc := 276) (i := 0) dX7_step_276 rfl rfl ?_
    refine hb_getIx (pc := 277) (x := hb_fI w 3 4 0) dX7_step_277 fw_X7_31 cw_7 rfl (by decide) rfl rfl ?_
    refine hb_isub (pc := 280) dX7_step_280 ?_
    refine hb_iconst (pc := 281) (v := 5) dX7_step_281 (by decide) ?_
    refine hb_icmp_le (pc := 282) (tgt := 290) dX7_step_282 (by decide) (fun c2 => ?_) (fun c2 => ?_)
    · have ht2 := ht1.1 c2
      exact ht2
    · have ht2 := ht1.2 c2
      exact ht2
set_option maxRecDepth 20000 in
theorem bk_X7_step_285 {d : Nat} {w : hb_W} {Q : Option hb_V → hb_W → Prop} {x1 : Int32} {x2 : Int32} {x3 : Int32} (h : hb_R yX7_step cX7_step 4 none (d + 1) 290 [some (hb_r 3 0 0), some (hb_i x1), some (hb_i x2), some (hb_i x3)] [] (hb_pI w 3 2 0 (0 : Int32)) Q) : hb_R yX7_step cX7_step 4 none (d + 1) 285 [some (hb_r 3 0 0), some (hb_i x1), some (hb_i x2), some (hb_i x3)] [] w Q := by
  refine hb_aload_n (pc := 285) (i := 0) dX7_step_285 rfl rfl ?_
  refine hb_iconst (pc := 286) (v := 0) dX7_step_286 (by decide) ?_
  refine hb_putI (pc := 287) dX7_step_287 fw_X7_50 cw_7 pw_7_2 rfl (by decide) rfl rfl rfl ?_
  exact h
set_option maxRecDepth 20000 in
theorem bk_X7_step_290 {d : Nat} {w : hb_W} {Q : Option hb_V → hb_W → Prop} {x1 : Int32} {x2 : Int32} {x3 : Int32} (h : Q none w) : hb_R yX7_step cX7_step 4 none (d + 1) 290 [some (hb_r 3 0 0), some (hb_i x1), some (hb_i x2), some (hb_i x3)] [] w Q := by
  exact hb_vret (pc := 290) dX7_step_290 rfl h
theorem dX7_isSign_0 : decode cX7_isSign 0 = .ok (.aload_n 0, 1) := by decide +kernel
theorem dX7_isSign_1 : decode cX7_isSign 1 = .ok (.getfield 19, 3) := by decide +kernel
theorem dX7_isSign_4 : decode cX7_isSign 4 = .ok (.iconst 3, 1) := by decide +kernel
theorem dX7_isSign_5 : decode cX7_isSign 5 = .ok (.if_icmp .ne 22, 3) := by decide +kernel
theorem dX7_isSign_8 : decode cX7_isSign 8 = .ok (.aload_n 0, 1) := by decide +kernel
theorem dX7_isSign_9 : decode cX7_isSign 9 = .ok (.getfield 9, 3) := by decide +kernel
theorem dX7_isSign_12 : decode cX7_isSign 12 = .ok (.aload_n 0, 1) := by decide +kernel
theorem dX7_isSign_13 : decode cX7_isSign 13 = .ok (.getfield 31, 3) := by decide +kernel
theorem dX7_isSign_16 : decode cX7_isSign 16 = .ok (.invokevirtual 39, 3) := by decide +kernel
theorem dX7_isSign_19 : decode cX7_isSign 19 = .ok (.iload_n 1, 1) := by decide +kernel
theorem dX7_isSign_20 : decode cX7_isSign 20 = .ok (.if_icmp .ne 7, 3) := by decide +kernel
theorem dX7_isSign_23 : decode cX7_isSign 23 = .ok (.iconst 1, 1) := by decide +kernel
theorem dX7_isSign_24 : decode cX7_isSign 24 = .ok (.goto 4, 3) := by decide +kernel
theorem dX7_isSign_27 : decode cX7_isSign 27 = .ok (.iconst 0, 1) := by decide +kernel
theorem dX7_isSign_28 : decode cX7_isSign 28 = .ok (.ireturn, 1) := by decide +kernel
set_option maxRecDepth 20000 in
theorem bk_X7_isSign_0 {d : Nat} {w : hb_W} {Q : Option hb_V → hb_W → Prop} {x1 : Int32} (h : ((¬ (hb_fI w 3 1 0) = (3 : Int32)) → Q (some (hb_i (0 : Int32))) w) ∧ (((hb_fI w 3 1 0) = (3 : Int32)) → hb_O yX10_at cX10_at 2 (some .int) d [hb_r 1 0 0, hb_i (hb_fI w 3 4 0)] w (fun rv w1 => hb_R yX7_isSign cX7_isSign 2 (some .boolean) (d + 1) 19 [some (hb_r 3 0 0), some (hb_i x1)] (rv.toList ++ []) w1 Q))) : hb_R yX7_isSign cX7_isSign 2 (some .boolean) (d + 1) 0 [some (hb_r 3 0 0), some (hb_i x1)] [] w Q := by
  refine hb_aload_n (pc := 0) (i := 0) dX7_isSign_0 rfl rfl ?_
  refine hb_getIx (pc := 1) (x := hb_fI w 3 1 0) dX7_isSign_1 fw_X7_19 cw_7 rfl (by decide) rfl rfl ?_
  refine hb_iconst (pc := 4) (v := 3) dX7_isSign_4 (by decide) ?_
  refine hb_icmp_ne (pc := 5) (tgt := 27) dX7_isSign_5 (by decide) (fun c1 => ?_) (fun c1 => ?_)
  · have ht1 := h.1 c1
    refine hb_iconst (pc := 27) (v := 0) dX7_isSign_27 (by decide) ?_
    exact hb_zret (pc := 28) dX7_isSign_28 rfl (Or.inl rfl) ht1
  · have ht1 := h.2 c1
    refine hb_aload_n (pc := 8) (i := 0) dX7_isSign_8 rfl rfl ?_
    refine hb_getR (pc := 9) (g1 := 0) dX7_isSign_9 fw_X7_9 cw_7 rfl (by decide) rfl (by decide) rfl ?_
    refine hb_aload_n (pc := 12) (i := 0) dX7_isSign_12 rfl rfl ?_
    refine hb_getIx (pc := 13) (x := hb_fI w 3 4 0) dX7_isSign_13 fw_X7_31 cw_7 rfl (by decide) rfl rfl ?_
    exact hb_callV (pc := 16) (As := [hb_i (hb_fI w 3 4 0)]) (st := []) dX7_isSign_16 ml_X7_39 mf_X10_at mi_X10_at (ci := 10) rfl rfl (by decide) rfl rfl (Nat.le_of_ble_eq_true rfl) (Nat.le_of_ble_eq_true rfl) ht1 (fun _ _ q => q)
set_option maxRecDepth 20000 in
theorem bk_X7_isSign_19 {d : Nat} {w : hb_W} {Q : Option hb_V → hb_W → Prop} {x1 : Int32} {xs0 : Int32} (h : ((¬ xs0 = x1) → Q (some (hb_i (0 : Int32))) w) ∧ ((xs0 = x1) → Q (some (hb_i (1 : Int32))) w)) : hb_R yX7_isSign cX7_isSign 2 (some .boolean) (d + 1) 19 [some (hb_r 3 0 0), some (hb_i x1)] [hb_i xs0] w Q := by
  refine hb_iload_n (pc := 19) (i := 1) dX7_isSign_19 rfl rfl ?_
  refine hb_icmp_ne (pc := 20) (tgt := 27) dX7_isSign_20 (by decide) (fun c1 => ?_) (fun c1 => ?_)
  · have ht1 := h.1 c1
    refine hb_iconst (pc := 27) (v := 0) dX7_isSign_27 (by decide) ?_
    exact hb_zret (pc := 28) dX7_isSign_28 rfl (Or.inl rfl) ht1
  · have ht1 := h.2 c1
    refine hb_iconst (pc := 23) (v := 1) dX7_isSign_23 (by decide) ?_
    refine hb_goto (pc := 24) (tgt := 28) dX7_isSign_24 (by decide) ?_
    exact hb_zret (pc := 28) dX7_isSign_28 rfl (Or.inr rfl) ht1
theorem dX7_takeWord_0 : decode cX7_takeWord 0 = .ok (.aload_n 0, 1) := by decide +kernel
theorem dX7_takeWord_1 : decode cX7_takeWord 1 = .ok (.getfield 50, 3) := by decide +kernel
theorem dX7_takeWord_4 : decode cX7_takeWord 4 = .ok (.iload_n 1, 1) := by decide +kernel
theorem dX7_takeWord_5 : decode cX7_takeWord 5 = .ok (.if_icmp .eq 13, 3) := by decide +kernel
theorem dX7_takeWord_8 : decode cX7_takeWord 8 = .ok (.aload_n 0, 1) := by decide +kernel
theorem dX7_takeWord_9 : decode cX7_takeWord 9 = .ok (.iconst 1, 1) := by decide +kernel
theorem dX7_takeWord_10 : decode cX7_takeWord 10 = .ok (.aload_n 0, 1) := by decide +kernel
theorem dX7_takeWord_11 : decode cX7_takeWord 11 = .ok (.getfield 31, 3) := by decide +kernel
theorem dX7_takeWord_14 : decode cX7_takeWord 14 = .ok (.invokevirtual 56, 3) := by decide +kernel
theorem dX7_takeWord_17 : decode cX7_takeWord 17 = .ok (.ireturn, 1) := by decide +kernel
theorem dX7_takeWord_18 : decode cX7_takeWord 18 = .ok (.aload_n 0, 1) := by decide +kernel
theorem dX7_takeWord_19 : decode cX7_takeWord 19 = .ok (.invokevirtual 28, 3) := by decide +kernel
theorem dX7_takeWord_22 : decode cX7_takeWord 22 = .ok (.iconst 1, 1) := by decide +kernel
theorem dX7_takeWord_23 : decode cX7_takeWord 23 = .ok (.ireturn, 1) := by decide +kernel
set_option maxRecDepth 20000 in
theorem bk_X7_takeWord_0 {d : Nat} {w : hb_W} {Q : Option hb_V → hb_W → Prop} {x1 : Int32} (h : (((hb_fI w 3 2 0) = x1) → hb_O yX7_step cX7_step 4 none d [hb_r 3 0 0] w (fun rv w1 => hb_R yX7_takeWord cX7_takeWord 2 (some .boolean) (d + 1) 22 [some (hb_r 3 0 0), some (hb_i x1)] (rv.toList ++ []) w1 Q)) ∧ ((¬ (hb_fI w 3 2 0) = x1) → hb_O yX7_stop cX7_stop 3 (some .boolean) d [hb_r 3 0 0, hb_i (1 : Int32), hb_i (hb_fI w 3 4 0)] w (fun rv w1 => hb_R yX7_takeWord cX7_takeWord 2 (some .boolean) (d + 1) 17 [some (hb_r 3 0 0), some (hb_i x1)] (rv.toList ++ []) w1 Q))) : hb_R yX7_takeWord cX7_takeWord 2 (some .boolean) (d + 1) 0 [some (hb_r 3 0 0), some (hb_i x1)] [] w Q := by
  refine hb_aload_n (pc := 0) (i := 0) dX7_takeWord_0 rfl rfl ?_
  refine hb_getIx (pc := 1) (x := hb_fI w 3 2 0) dX7_takeWord_1 fw_X7_50 cw_7 rfl (by decide) rfl rfl ?_
  refine hb_iload_n (pc := 4) (i := 1) dX7_takeWord_4 rfl rfl ?_
  refine hb_icmp_eq (pc := 5) (tgt := 18) dX7_takeWord_5 (by decide) (fun c1 => ?_) (fun c1 => ?_)
  · have ht1 := h.1 c1
    refine hb_aload_n (pc := 18) (i := 0) dX7_takeWord_18 rfl rfl ?_
    exact hb_callV (pc := 19) (As := []) (st := []) dX7_takeWord_19 ml_X7_28 mf_X7_step mi_X7_step (ci := 7) rfl rfl (by decide) rfl rfl (Nat.le_of_ble_eq_true rfl) (Nat.le_of_ble_eq_true rfl) ht1 (fun _ _ q => q)
  · have ht1 := h.2 c1
    refine hb_aload_n (pc := 8) (i := 0) dX7_takeWord_8 rfl rfl ?_
    refine hb_iconst (pc := 9) (v := 1) dX7_takeWord_9 (by decide) ?_
    refine hb_aload_n (pc := 10) (i := 0) dX7_takeWord_10 rfl rfl ?_
    refine hb_getIx (pc := 11) (x := hb_fI w 3 4 0) dX7_takeWord_11 fw_X7_31 cw_7 rfl (by decide) rfl rfl ?_
    exact hb_callV (pc := 14) (As := [hb_i (1 : Int32), hb_i (hb_fI w 3 4 0)]) (st := []) dX7_takeWord_14 ml_X7_56 mf_X7_stop mi_X7_stop (ci := 7) rfl rfl (by decide) rfl rfl (Nat.le_of_ble_eq_true rfl) (Nat.le_of_ble_eq_true rfl) ht1 (fun _ _ q => q)
set_option maxRecDepth 20000 in
theorem bk_X7_takeWord_17 {d : Nat} {w : hb_W} {Q : Option hb_V → hb_W → Prop} {x1 : Int32} {xs0 : Int32} (h : (xs0 = 0 ∨ xs0 = 1) ∧ Q (some (hb_i xs0)) w) : hb_R yX7_takeWord cX7_takeWord 2 (some .boolean) (d + 1) 17 [some (hb_r 3 0 0), some (hb_i x1)] [hb_i xs0] w Q := by
  exact hb_zret (pc := 17) dX7_takeWord_17 rfl h.1 h.2
set_option maxRecDepth 20000 in
theorem bk_X7_takeWord_22 {d : Nat} {w : hb_W} {Q : Option hb_V → hb_W → Prop} {x1 : Int32} (h : Q (some (hb_i (1 : Int32))) w) : hb_R yX7_takeWord cX7_takeWord 2 (some .boolean) (d + 1) 22 [some (hb_r 3 0 0), some (hb_i x1)] [] w Q := by
  refine hb_iconst (pc := 22) (v := 1) dX7_takeWord_22 (by decide) ?_
  exact hb_zret (pc := 23) dX7_takeWord_23 rfl (Or.inr rfl) h
theorem dX7_takeSign_0 : decode cX7_takeSign 0 = .ok (.aload_n 0, 1) := by decide +kernel
theorem dX7_takeSign_1 : decode cX7_takeSign 1 = .ok (.iload_n 1, 1) := by decide +kernel
theorem dX7_takeSign_2 : decode cX7_takeSign 2 = .ok (.invokevirtual 60, 3) := by decide +kernel
theorem dX7_takeSign_5 : decode cX7_takeSign 5 = .ok (.ifCond .ne 13, 3) := by decide +kernel
theorem dX7_takeSign_8 : decode cX7_takeSign 8 = .ok (.aload_n 0, 1) := by decide +kernel
theorem dX7_takeSign_9 : decode cX7_takeSign 9 = .ok (.iconst 1, 1) := by decide +kernel
theorem dX7_takeSign_10 : decode cX7_takeSign 10 = .ok (.aload_n 0, 1) := by decide +kernel
theorem dX7_takeSign_11 : decode cX7_takeSign 11 = .ok (.getfield 31, 3) := by decide +kernel
theorem dX7_takeSign_14 : decode cX7_takeSign 14 = .ok (.invokevirtual 56, 3) := by decide +kernel
theorem dX7_takeSign_17 : decode cX7_takeSign 17 = .ok (.ireturn, 1) := by decide +kernel
theorem dX7_takeSign_18 : decode cX7_takeSign 18 = .ok (.aload_n 0, 1) := by decide +kernel
theorem dX7_takeSign_19 : decode cX7_takeSign 19 = .ok (.invokevirtual 28, 3) := by decide +kernel
theorem dX7_takeSign_22 : decode cX7_takeSign 22 = .ok (.iconst 1, 1) := by decide +kernel
theorem dX7_takeSign_23 : decode cX7_takeSign 23 = .ok (.ireturn, 1) := by decide +kernel
set_option maxRecDepth 20000 in
theorem bk_X7_takeSign_0 {d : Nat} {w : hb_W} {Q : Option hb_V → hb_W → Prop} {x1 : Int32} (h : hb_O yX7_isSign cX7_isSign 2 (some .boolean) d [hb_r 3 0 0, hb_i x1] w (fun rv w1 => hb_R yX7_takeSign cX7_takeSign 2 (some .boolean) (d + 1) 5 [some (hb_r 3 0 0), some (hb_i x1)] (rv.toList ++ []) w1 Q)) : hb_R yX7_takeSign cX7_takeSign 2 (some .boolean) (d + 1) 0 [some (hb_r 3 0 0), some (hb_i x1)] [] w Q := by
  refine hb_aload_n (pc := 0) (i := 0) dX7_takeSign_0 rfl rfl ?_
  refine hb_iload_n (pc := 1) (i := 1) dX7_takeSign_1 rfl rfl ?_
  exact hb_callV (pc := 2) (As := [hb_i x1]) (st := []) dX7_takeSign_2 ml_X7_60 mf_X7_isSign mi_X7_isSign (ci := 7) rfl rfl (by decide) rfl rfl (Nat.le_of_ble_eq_true rfl) (Nat.le_of_ble_eq_true rfl) h (fun _ _ q => q)
set_option maxRecDepth 20000 in
theorem bk_X7_takeSign_5 {d : Nat} {w : hb_W} {Q : Option hb_V → hb_W → Prop} {x1 : Int32} {xs0 : Int32} (h : ((¬ xs0 = 0) → hb_O yX7_step cX7_step 4 none d [hb_r 3 0 0] w (fun rv w1 => hb_R yX7_takeSign cX7_takeSign 2 (some .boolean) (d + 1) 22 [some (hb_r 3 0 0), some (hb_i x1)] (rv.toList ++ []) w1 Q)) ∧ ((xs0 = 0) → hb_O yX7_stop cX7_stop 3 (some .boolean) d [hb_r 3 0 0, hb_i (1 : Int32), hb_i (hb_fI w 3 4 0)] w (fun rv w1 => hb_R yX7_takeSign cX7_takeSign 2 (some .boolean) (d + 1) 17 [some (hb_r 3 0 0), some (hb_i x1)] (rv.toList ++ []) w1 Q))) : hb_R yX7_takeSign cX7_takeSign 2 (some .boolean) (d + 1) 5 [some (hb_r 3 0 0), some (hb_i x1)] [hb_i xs0] w Q := by
  refine hb_if_ne (pc := 5) (tgt := 18) dX7_takeSign_5 (by decide) (fun c1 => ?_) (fun c1 => ?_)
  · have ht1 := h.1 c1
    refine hb_aload_n (pc := 18) (i := 0) dX7_takeSign_18 rfl rfl ?_
    exact hb_callV (pc := 19) (As := []) (st := []) dX7_takeSign_19 ml_X7_28 mf_X7_step mi_X7_step (ci := 7) rfl rfl (by decide) rfl rfl (Nat.le_of_ble_eq_true rfl) (Nat.le_of_ble_eq_true rfl) ht1 (fun _ _ q => q)
  · have ht1 := h.2 c1
    refine hb_aload_n (pc := 8) (i := 0) dX7_takeSign_8 rfl rfl ?_
    refine hb_iconst (pc := 9) (v := 1) dX7_takeSign_9 (by decide) ?_
    refine hb_aload_n (pc := 10) (i := 0) dX7_takeSign_10 rfl rfl ?_
    refine hb_getIx (pc := 11) (x := hb_fI w 3 4 0) dX7_takeSign_11 fw_X7_31 cw_7 rfl (by decide) rfl rfl ?_
    exact hb_callV (pc := 14) (As := [hb_i (1 : Int32), hb_i (hb_fI w 3 4 0)]) (st := []) dX7_takeSign_14 ml_X7_56 mf_X7_stop mi_X7_stop (ci := 7) rfl rfl (by decide) rfl rfl (Nat.le_of_ble_eq_true rfl) (Nat.le_of_ble_eq_true rfl) ht1 (fun _ _ q => q)
set_option maxRecDepth 20000 in
theorem bk_X7_takeSign_17 {d : Nat} {w : hb_W} {Q : Option hb_V → hb_W → Prop} {x1 : Int32} {xs0 : Int32} (h : (xs0 = 0 ∨ xs0 = 1) ∧ Q (some (hb_i xs0)) w) : hb_R yX7_takeSign cX7_takeSign 2 (some .boolean) (d + 1) 17 [some (hb_r 3 0 0), some (hb_i x1)] [hb_i xs0] w Q := by
  exact hb_zret (pc := 17) dX7_takeSign_17 rfl h.1 h.2
set_option maxRecDepth 20000 in
theorem bk_X7_takeSign_22 {d : Nat} {w : hb_W} {Q : Option hb_V → hb_W → Prop} {x1 : Int32} (h : Q (some (hb_i (1 : Int32))) w) : hb_R yX7_takeSign cX7_takeSign 2 (some .boolean) (d + 1) 22 [some (hb_r 3 0 0), some (hb_i x1)] [] w Q := by
  refine hb_iconst (pc := 22) (v := 1) dX7_takeSign_22 (by decide) ?_
  exact hb_zret (pc := 23) dX7_takeSign_23 rfl (Or.inr rfl) h
theorem dX7_takeNumber_0 : decode cX7_takeNumber 0 = .ok (.aload_n 0, 1) := by decide +kernel
theorem dX7_takeNumber_1 : decode cX7_takeNumber 1 = .ok (.getfield 19, 3) := by decide +kernel
theorem dX7_takeNumber_4 : decode cX7_takeNumber 4 = .ok (.iconst 2, 1) := by decide +kernel
theorem dX7_takeNumber_5 : decode cX7_takeNumber 5 = .ok (.if_icmp .eq 15, 3) := by decide +kernel
theorem dX7_takeNumber_8 : decode cX7_takeNumber 8 = .ok (.aload_n 0, 1) := by decide +kernel
theorem dX7_takeNumber_9 : decode cX7_takeNumber 9 = .ok (.iconst 1, 1) := by decide +kernel
theorem dX7_takeNumber_10 : decode cX7_takeNumber 10 = .ok (.aload_n 0, 1) := by decide +kernel
theorem dX7_takeNumber_11 : decode cX7_takeNumber 11 = .ok (.getfield 31, 3) := by decide +kernel
theorem dX7_takeNumber_14 : decode cX7_takeNumber 14 = .ok (.invokevirtual 56, 3) := by decide +kernel
theorem dX7_takeNumber_17 : decode cX7_takeNumber 17 = .ok (.pop, 1) := by decide +kernel
theorem dX7_takeNumber_18 : decode cX7_takeNumber 18 = .ok (.iconst (-1), 1) := by decide +kernel
theorem dX7_takeNumber_19 : decode cX7_takeNumber 19 = .ok (.ireturn, 1) := by decide +kernel
theorem dX7_takeNumber_20 : decode cX7_takeNumber 20 = .ok (.aload_n 0, 1) := by decide +kernel
theorem dX7_takeNumber_21 : decode cX7_takeNumber 21 = .ok (.getfield 22, 3) := by decide +kernel
theorem dX7_takeNumber_24 : decode cX7_takeNumber 24 = .ok (.aload_n 0, 1) := by decide +kernel
theorem dX7_takeNumber_25 : decode cX7_takeNumber 25 = .ok (.getfield 31, 3) := by decide +kernel
theorem dX7_takeNumber_28 : decode cX7_takeNumber 28 = .ok (.isub, 1) := by decide +kernel
theorem dX7_takeNumber_29 : decode cX7_takeNumber 29 = .ok (.iconst 4, 1) := by decide +kernel
theorem dX7_takeNumber_30 : decode cX7_takeNumber 30 = .ok (.if_icmp .le 17, 3) := by decide +kernel
theorem dX7_takeNumber_33 : decode cX7_takeNumber 33 = .ok (.aload_n 0, 1) := by decide +kernel
theorem dX7_takeNumber_34 : decode cX7_takeNumber 34 = .ok (.iconst 1, 1) := by decide +kernel
theorem dX7_takeNumber_35 : decode cX7_takeNumber 35 = .ok (.aload_n 0, 1) := by decide +kernel
theorem dX7_takeNumber_36 : decode cX7_takeNumber 36 = .ok (.getfield 31, 3) := by decide +kernel
theorem dX7_takeNumber_39 : decode cX7_takeNumber 39 = .ok (.iconst 4, 1) := by decide +kernel
theorem dX7_takeNumber_40 : decode cX7_takeNumber 40 = .ok (.iadd, 1) := by decide +kernel
theorem dX7_takeNumber_41 : decode cX7_takeNumber 41 = .ok (.invokevirtual 56, 3) := by decide +kernel
theorem dX7_takeNumber_44 : decode cX7_takeNumber 44 = .ok (.pop, 1) := by decide +kernel
theorem dX7_takeNumber_45 : decode cX7_takeNumber 45 = .ok (.iconst (-1), 1) := by decide +kernel
theorem dX7_takeNumber_46 : decode cX7_takeNumber 46 = .ok (.ireturn, 1) := by decide +kernel
theorem dX7_takeNumber_47 : decode cX7_takeNumber 47 = .ok (.aload_n 0, 1) := by decide +kernel
theorem dX7_takeNumber_48 : decode cX7_takeNumber 48 = .ok (.getfield 53, 3) := by decide +kernel
theorem dX7_takeNumber_51 : decode cX7_takeNumber 51 = .ok (.istore_n 3, 1) := by decide +kernel
theorem dX7_takeNumber_52 : decode cX7_takeNumber 52 = .ok (.iload_n 3, 1) := by decide +kernel
theorem dX7_takeNumber_53 : decode cX7_takeNumber 53 = .ok (.iload_n 1, 1) := by decide +kernel
theorem dX7_takeNumber_54 : decode cX7_takeNumber 54 = .ok (.if_icmp .lt 8, 3) := by decide +kernel
theorem dX7_takeNumber_57 : decode cX7_takeNumber 57 = .ok (.iload_n 3, 1) := by decide +kernel
theorem dX7_takeNumber_58 : decode cX7_takeNumber 58 = .ok (.iload_n 2, 1) := by decide +kernel
theorem dX7_takeNumber_59 : decode cX7_takeNumber 59 = .ok (.if_icmp .le 15, 3) := by decide +kernel
theorem dX7_takeNumber_62 : decode cX7_takeNumber 62 = .ok (.aload_n 0, 1) := by decide +kernel
theorem dX7_takeNumber_63 : decode cX7_takeNumber 63 = .ok (.iconst 2, 1) := by decide +kernel
theorem dX7_takeNumber_64 : decode cX7_takeNumber 64 = .ok (.aload_n 0, 1) := by decide +kernel
theorem dX7_takeNumber_65 : decode cX7_takeNumber 65 = .ok (.getfield 31, 3) := by decide +kernel
theorem dX7_takeNumber_68 : decode cX7_takeNumber 68 = .ok (.invokevirtual 56, 3) := by decide +kernel
theorem dX7_takeNumber_71 : decode cX7_takeNumber 71 = .ok (.pop, 1) := by decide +kernel
theorem dX7_takeNumber_72 : decode cX7_takeNumber 72 = .ok (.iconst (-1), 1) := by decide +kernel
theorem dX7_takeNumber_73 : decode cX7_takeNumber 73 = .ok (.ireturn, 1) := by decide +kernel
theorem dX7_takeNumber_74 : decode cX7_takeNumber 74 = .ok (.aload_n 0, 1) := by decide +kernel
theorem dX7_takeNumber_75 : decode cX7_takeNumber 75 = .ok (.invokevirtual 28, 3) := by decide +kernel
theorem dX7_takeNumber_78 : decode cX7_takeNumber 78 = .ok (.iload_n 3, 1) := by decide +kernel
theorem dX7_takeNumber_79 : decode cX7_takeNumber 79 = .ok (.ireturn, 1) := by decide +kernel
set_option maxRecDepth 20000 in
theorem bk_X7_takeNumber_0 {d : Nat} {w : hb_W} {Q : Option hb_V → hb_W → Prop} {x1 : Int32} {x2 : Int32} (h : (((hb_fI w 3 1 0) = (2 : Int32)) → ((((hb_fI w 3 5 0) - (hb_fI w 3 4 0)) ≤ (4 : Int32)) → (((hb_fI w 3 3 0) < x1) → hb_O yX7_stop cX7_stop 3 (some .boolean) d [hb_r 3 0 0, hb_i (2 : Int32), hb_i (hb_fI w 3 4 0)] w (fun rv w1 => hb_R yX7_takeNumber cX7_takeNumber 4 (some .int) (d + 1) 71 [some (hb_r 3 0 0), some (hb_i x1), some (hb_i x2), some (hb_i (hb_fI w 3 3 0))] (rv.toList ++ []) w1 Q)) ∧ ((¬ (hb_fI w 3 3 0) < x1) → (((hb_fI w 3 3 0) ≤ x2) → hb_O yX7_step cX7_step 4 none d [hb_r 3 0 0] w (fun rv w1 => hb_R yX7_takeNumber cX7_takeNumber 4 (some .int) (d + 1) 78 [some (hb_r 3 0 0), some (hb_i x1), some (hb_i x2), some (hb_i (hb_fI w 3 3 0))] (rv.toList ++ []) w1 Q)) ∧ ((¬ (hb_fI w 3 3 0) ≤ x2) → hb_O yX7_stop cX7_stop 3 (some .boolean) d [hb_r 3 0 0, hb_i (2 : Int32), hb_i (hb_fI w 3 4 0)] w (fun rv w1 => hb_R yX7_takeNumber cX7_takeNumber 4 (some .int) (d + 1) 71 [some (hb_r 3 0 0), some (hb_i x1), some (hb_i x2), some (hb_i (hb_fI w 3 3 0))] (rv.toList ++ []) w1 Q)))) ∧ ((¬ ((hb_fI w 3 5 0) - (hb_fI w 3 4 0)) ≤ (4 : Int32)) → hb_O yX7_stop cX7_stop 3 (some .boolean) d [hb_r 3 0 0, hb_i (1 : Int32), hb_i ((hb_fI w 3 4 0) + (4 : Int32))] w (fun rv w1 => hb_R yX7_takeNumber cX7_takeNumber 4 (some .int) (d + 1) 44 [some (hb_r 3 0 0), some (hb_i x1), some (hb_i x2), none] (rv.toList ++ []) w1 Q))) ∧ ((¬ (hb_fI w 3 1 0) = (2 : Int32)) → hb_O yX7_stop cX7_stop 3 (some .boolean) d [hb_r 3 0 0, hb_i (1 : Int32), hb_i (hb_fI w 3 4 0)] w (fun rv w1 => hb_R yX7_takeNumber cX7_takeNumber 4 (some .int) (d + 1) 17 [some (hb_r 3 0 0), some (hb_i x1), some (hb_i x2), none] (rv.toList ++ []) w1 Q))) : hb_R yX7_takeNumber cX7_takeNumber 4 (some .int) (d + 1) 0 [some (hb_r 3 0 0), some (hb_i x1), some (hb_i x2), none] [] w Q := by
  refine hb_aload_n (pc := 0) (i := 0) dX7_takeNumber_0 rfl rfl ?_
  refine hb_getIx (pc := 1) (x := hb_fI w 3 1 0) dX7_takeNumber_1 fw_X7_19 cw_7 rfl (by decide) rfl rfl ?_
  refine hb_iconst (pc := 4) (v := 2) dX7_takeNumber_4 (by decide) ?_
  refine hb_icmp_eq (pc := 5) (tgt := 20) dX7_takeNumber_5 (by decide) (fun c1 => ?_) (fun c1 => ?_)
  · have ht1 := h.1 c1
    refine hb_aload_n (pc := 20) (i := 0) dX7_takeNumber_20 rfl rfl ?_
    refine hb_getIx (pc := 21) (x := hb_fI w 3 5 0) dX7_takeNumber_21 fw_X7_22 cw_7 rfl (by decide) rfl rfl ?_
    refine hb_aload_n (pc := 24) (i := 0) dX7_takeNumber_24 rfl rfl ?_
    refine hb_getIx (pc := 25) (x := hb_fI w 3 4 0) dX7_takeNumber_25 fw_X7_31 cw_7 rfl (by decide) rfl rfl ?_
    refine hb_isub (pc := 28) dX7_takeNumber_28 ?_
    refine hb_iconst (pc := 29) (v := 4) dX7_takeNumber_29 (by decide) ?_
    refine hb_icmp_le (pc := 30) (tgt := 47) dX7_takeNumber_30 (by decide) (fun c2 => ?_) (fun c2 => ?_)
    · have ht2 := ht1.1 c2
      refine hb_aload_n (pc := 47) (i := 0) dX7_takeNumber_47 rfl rfl ?_
      refine hb_getIx (pc := 48) (x := hb_fI w 3 3 0) dX7_takeNumber_48 fw_X7_53 cw_7 rfl (by decide) rfl rfl ?_
      refine hb_istore_n (pc := 51) (i := 3) (ls1 := [some (hb_r 3 0 0), some (hb_i x1), some (hb_i x2), some (hb_i (hb_fI w 3 3 0))]) dX7_takeNumber_51 rfl (by decide) rfl ?_
      refine hb_iload_n (pc := 52) (i := 3) dX7_takeNumber_52 rfl rfl ?_
      refine hb_iload_n (pc := 53) (i := 1) dX7_takeNumber_53 rfl rfl ?_
      refine hb_icmp_lt (pc := 54) (tgt := 62) dX7_takeNumber_54 (by decide) (fun c3 => ?_) (fun c3 => ?_)
      · have ht3 := ht2.1 c3
        refine hb_aload_n (pc := 62) (i := 0) dX7_takeNumber_62 rfl rfl ?_
        refine hb_iconst (pc := 63) (v := 2) dX7_takeNumber_63 (by decide) ?_
        refine hb_aload_n (pc := 64) (i := 0) dX7_takeNumber_64 rfl rfl ?_
        refine hb_getIx (pc := 65) (x := hb_fI w 3 4 0) dX7_takeNumber_65 fw_X7_31 cw_7 rfl (by decide) rfl rfl ?_
        exact hb_callV (pc := 68) (As := [hb_i (2 : Int32), hb_i (hb_fI w 3 4 0)]) (st := []) dX7_takeNumber_68 ml_X7_56 mf_X7_stop mi_X7_stop (ci := 7) rfl rfl (by decide) rfl rfl (Nat.le_of_ble_eq_true rfl) (Nat.le_of_ble_eq_true rfl) ht3 (fun _ _ q => q)
      · have ht3 := ht2.2 c3
        refine hb_iload_n (pc := 57) (i := 3) dX7_takeNumber_57 rfl rfl ?_
        refine hb_iload_n (pc := 58) (i := 2) dX7_takeNumber_58 rfl rfl ?_
        refine hb_icmp_le (pc := 59) (tgt := 74) dX7_takeNumber_59 (by decide) (fun c4 => ?_) (fun c4 => ?_)
        · have ht4 := ht3.1 c4
          refine hb_aload_n (pc := 74) (i := 0) dX7_takeNumber_74 rfl rfl ?_
          exact hb_callV (pc := 75) (As := []) (st := []) dX7_takeNumber_75 ml_X7_28 mf_X7_step mi_X7_step (ci := 7) rfl rfl (by decide) rfl rfl (Nat.le_of_ble_eq_true rfl) (Nat.le_of_ble_eq_true rfl) ht4 (fun _ _ q => q)
        · have ht4 := ht3.2 c4
          refine hb_aload_n (pc := 62) (i := 0) dX7_takeNumber_62 rfl rfl ?_
          refine hb_iconst (pc := 63) (v := 2) dX7_takeNumber_63 (by decide) ?_
          refine hb_aload_n (pc := 64) (i := 0) dX7_takeNumber_64 rfl rfl ?_
          refine hb_getIx (pc := 65) (x := hb_fI w 3 4 0) dX7_takeNumber_65 fw_X7_31 cw_7 rfl (by decide) rfl rfl ?_
          exact hb_callV (pc := 68) (As := [hb_i (2 : Int32), hb_i (hb_fI w 3 4 0)]) (st := []) dX7_takeNumber_68 ml_X7_56 mf_X7_stop mi_X7_stop (ci := 7) rfl rfl (by decide) rfl rfl (Nat.le_of_ble_eq_true rfl) (Nat.le_of_ble_eq_true rfl) ht4 (fun _ _ q => q)
    · have ht2 := ht1.2 c2
      refine hb_aload_n (pc := 33) (i := 0) dX7_takeNumber_33 rfl rfl ?_
      refine hb_iconst (pc := 34) (v := 1) dX7_takeNumber_34 (by decide) ?_
      refine hb_aload_n (pc := 35) (i := 0) dX7_takeNumber_35 rfl rfl ?_
      refine hb_getIx (pc := 36) (x := hb_fI w 3 4 0) dX7_takeNumber_36 fw_X7_31 cw_7 rfl (by decide) rfl rfl ?_
      refine hb_iconst (pc := 39) (v := 4) dX7_takeNumber_39 (by decide) ?_
      refine hb_iadd (pc := 40) dX7_takeNumber_40 ?_
      exact hb_callV (pc := 41) (As := [hb_i (1 : Int32), hb_i ((hb_fI w 3 4 0) + (4 : Int32))]) (st := []) dX7_takeNumber_41 ml_X7_56 mf_X7_stop mi_X7_stop (ci := 7) rfl rfl (by decide) rfl rfl (Nat.le_of_ble_eq_true rfl) (Nat.le_of_ble_eq_true rfl) ht2 (fun _ _ q => q)
  · have ht1 := h.2 c1
    refine hb_aload_n (pc := 8) (i := 0) dX7_takeNumber_8 rfl rfl ?_
    refine hb_iconst (pc := 9) (v := 1) dX7_takeNumber_9 (by decide) ?_
    refine hb_aload_n (pc := 10) (i := 0) dX7_takeNumber_10 rfl rfl ?_
    refine hb_getIx (pc := 11) (x := hb_fI w 3 4 0) dX7_takeNumber_11 fw_X7_31 cw_7 rfl (by decide) rfl rfl ?_
    exact hb_callV (pc := 14) (As := [hb_i (1 : Int32), hb_i (hb_fI w 3 4 0)]) (st := []) dX7_takeNumber_14 ml_X7_56 mf_X7_stop mi_X7_stop (ci := 7) rfl rfl (by decide) rfl rfl (Nat.le_of_ble_eq_true rfl) (Nat.le_of_ble_eq_true rfl) ht1 (fun _ _ q => q)
set_option maxRecDepth 20000 in
theorem bk_X7_takeNumber_17 {d : Nat} {w : hb_W} {Q : Option hb_V → hb_W → Prop} {x1 : Int32} {x2 : Int32} {xs0 : Int32} (h : Q (some (hb_i (-1 : Int32))) w) : hb_R yX7_takeNumber cX7_takeNumber 4 (some .int) (d + 1) 17 [some (hb_r 3 0 0), some (hb_i x1), some (hb_i x2), none] [hb_i xs0] w Q := by
  refine hb_pop (pc := 17) dX7_takeNumber_17 ?_
  refine hb_iconst (pc := 18) (v := -1) dX7_takeNumber_18 (by decide) ?_
  exact hb_iret (pc := 19) dX7_takeNumber_19 rfl h
set_option maxRecDepth 20000 in
theorem bk_X7_takeNumber_44 {d : Nat} {w : hb_W} {Q : Option hb_V → hb_W → Prop} {x1 : Int32} {x2 : Int32} {xs0 : Int32} (h : Q (some (hb_i (-1 : Int32))) w) : hb_R yX7_takeNumber cX7_takeNumber 4 (some .int) (d + 1) 44 [some (hb_r 3 0 0), some (hb_i x1), some (hb_i x2), none] [hb_i xs0] w Q := by
  refine hb_pop (pc := 44) dX7_takeNumber_44 ?_
  refine hb_iconst (pc := 45) (v := -1) dX7_takeNumber_45 (by decide) ?_
  exact hb_iret (pc := 46) dX7_takeNumber_46 rfl h
set_option maxRecDepth 20000 in
theorem bk_X7_takeNumber_71 {d : Nat} {w : hb_W} {Q : Option hb_V → hb_W → Prop} {x1 : Int32} {x2 : Int32} {x3 : Int32} {xs0 : Int32} (h : Q (some (hb_i (-1 : Int32))) w) : hb_R yX7_takeNumber cX7_takeNumber 4 (some .int) (d + 1) 71 [some (hb_r 3 0 0), some (hb_i x1), some (hb_i x2), some (hb_i x3)] [hb_i xs0] w Q := by
  refine hb_pop (pc := 71) dX7_takeNumber_71 ?_
  refine hb_iconst (pc := 72) (v := -1) dX7_takeNumber_72 (by decide) ?_
  exact hb_iret (pc := 73) dX7_takeNumber_73 rfl h
set_option maxRecDepth 20000 in
theorem bk_X7_takeNumber_78 {d : Nat} {w : hb_W} {Q : Option hb_V → hb_W → Prop} {x1 : Int32} {x2 : Int32} {x3 : Int32} (h : Q (some (hb_i x3)) w) : hb_R yX7_takeNumber cX7_takeNumber 4 (some .int) (d + 1) 78 [some (hb_r 3 0 0), some (hb_i x1), some (hb_i x2), some (hb_i x3)] [] w Q := by
  refine hb_iload_n (pc := 78) (i := 3) dX7_takeNumber_78 rfl rfl ?_
  exact hb_iret (pc := 79) dX7_takeNumber_79 rfl h
theorem dX7_stop_0 : decode cX7_stop 0 = .ok (.aload_n 0, 1) := by decide +kernel
theorem dX7_stop_1 : decode cX7_stop 1 = .ok (.getfield 25, 3) := by decide +kernel
theorem dX7_stop_4 : decode cX7_stop 4 = .ok (.ifCond .ne 13, 3) := by decide +kernel
theorem dX7_stop_7 : decode cX7_stop 7 = .ok (.aload_n 0, 1) := by decide +kernel
theorem dX7_stop_8 : decode cX7_stop 8 = .ok (.iload_n 1, 1) := by decide +kernel
theorem dX7_stop_9 : decode cX7_stop 9 = .ok (.putfield 25, 3) := by decide +kernel
theorem dX7_stop_12 : decode cX7_stop 12 = .ok (.aload_n 0, 1) := by decide +kernel
theorem dX7_stop_13 : decode cX7_stop 13 = .ok (.iload_n 2, 1) := by decide +kernel
theorem dX7_stop_14 : decode cX7_stop 14 = .ok (.putfield 15, 3) := by decide +kernel
theorem dX7_stop_17 : decode cX7_stop 17 = .ok (.iconst 0, 1) := by decide +kernel
theorem dX7_stop_18 : decode cX7_stop 18 = .ok (.ireturn, 1) := by decide +kernel
set_option maxRecDepth 20000 in
theorem bk_X7_stop_0 {d : Nat} {w : hb_W} {Q : Option hb_V → hb_W → Prop} {x1 : Int32} {x2 : Int32} (h : ((¬ (hb_fI w 3 6 0) = 0) → Q (some (hb_i (0 : Int32))) w) ∧ (((hb_fI w 3 6 0) = 0) → Q (some (hb_i (0 : Int32))) (hb_pI (hb_pI w 3 6 0 x1) 3 7 0 x2))) : hb_R yX7_stop cX7_stop 3 (some .boolean) d 0 [some (hb_r 3 0 0), some (hb_i x1), some (hb_i x2)] [] w Q := by
  refine hb_aload_n (pc := 0) (i := 0) dX7_stop_0 rfl rfl ?_
  refine hb_getIx (pc := 1) (x := hb_fI w 3 6 0) dX7_stop_1 fw_X7_25 cw_7 rfl (by decide) rfl rfl ?_
  refine hb_if_ne (pc := 4) (tgt := 17) dX7_stop_4 (by decide) (fun c1 => ?_) (fun c1 => ?_)
  · have ht1 := h.1 c1
    refine hb_iconst (pc := 17) (v := 0) dX7_stop_17 (by decide) ?_
    exact hb_zret (pc := 18) dX7_stop_18 rfl (Or.inl rfl) ht1
  · have ht1 := h.2 c1
    refine hb_aload_n (pc := 7) (i := 0) dX7_stop_7 rfl rfl ?_
    refine hb_iload_n (pc := 8) (i := 1) dX7_stop_8 rfl rfl ?_
    refine hb_putI (pc := 9) dX7_stop_9 fw_X7_25 cw_7 pw_7_6 rfl (by decide) rfl rfl rfl ?_
    refine hb_aload_n (pc := 12) (i := 0) dX7_stop_12 rfl rfl ?_
    refine hb_iload_n (pc := 13) (i := 2) dX7_stop_13 rfl rfl ?_
    refine hb_putI (pc := 14) dX7_stop_14 fw_X7_15 cw_7 pw_7_7 rfl (by decide) rfl rfl rfl ?_
    refine hb_iconst (pc := 17) (v := 0) dX7_stop_17 (by decide) ?_
    exact hb_zret (pc := 18) dX7_stop_18 rfl (Or.inl rfl) ht1
theorem dX7_isBlank_0 : decode cX7_isBlank 0 = .ok (.iload_n 0, 1) := by decide +kernel
theorem dX7_isBlank_1 : decode cX7_isBlank 1 = .ok (.bipush 10, 2) := by decide +kernel
theorem dX7_isBlank_3 : decode cX7_isBlank 3 = .ok (.if_icmp .eq 9, 3) := by decide +kernel
theorem dX7_isBlank_6 : decode cX7_isBlank 6 = .ok (.iload_n 0, 1) := by decide +kernel
theorem dX7_isBlank_7 : decode cX7_isBlank 7 = .ok (.bipush 32, 2) := by decide +kernel
theorem dX7_isBlank_9 : decode cX7_isBlank 9 = .ok (.if_icmp .ne 7, 3) := by decide +kernel
theorem dX7_isBlank_12 : decode cX7_isBlank 12 = .ok (.iconst 1, 1) := by decide +kernel
theorem dX7_isBlank_13 : decode cX7_isBlank 13 = .ok (.goto 4, 3) := by decide +kernel
theorem dX7_isBlank_16 : decode cX7_isBlank 16 = .ok (.iconst 0, 1) := by decide +kernel
theorem dX7_isBlank_17 : decode cX7_isBlank 17 = .ok (.ireturn, 1) := by decide +kernel
set_option maxRecDepth 20000 in
theorem bk_X7_isBlank_0 {d : Nat} {w : hb_W} {Q : Option hb_V → hb_W → Prop} {x0 : Int32} (h : ((x0 = (10 : Int32)) → Q (some (hb_i (1 : Int32))) w) ∧ ((¬ x0 = (10 : Int32)) → ((¬ x0 = (32 : Int32)) → Q (some (hb_i (0 : Int32))) w) ∧ ((x0 = (32 : Int32)) → Q (some (hb_i (1 : Int32))) w))) : hb_R yX7_isBlank cX7_isBlank 1 (some .boolean) d 0 [some (hb_i x0)] [] w Q := by
  refine hb_iload_n (pc := 0) (i := 0) dX7_isBlank_0 rfl rfl ?_
  refine hb_bipush (pc := 1) (v := 10) dX7_isBlank_1 (by decide) ?_
  refine hb_icmp_eq (pc := 3) (tgt := 12) dX7_isBlank_3 (by decide) (fun c1 => ?_) (fun c1 => ?_)
  · have ht1 := h.1 c1
    refine hb_iconst (pc := 12) (v := 1) dX7_isBlank_12 (by decide) ?_
    refine hb_goto (pc := 13) (tgt := 17) dX7_isBlank_13 (by decide) ?_
    exact hb_zret (pc := 17) dX7_isBlank_17 rfl (Or.inr rfl) ht1
  · have ht1 := h.2 c1
    refine hb_iload_n (pc := 6) (i := 0) dX7_isBlank_6 rfl rfl ?_
    refine hb_bipush (pc := 7) (v := 32) dX7_isBlank_7 (by decide) ?_
    refine hb_icmp_ne (pc := 9) (tgt := 16) dX7_isBlank_9 (by decide) (fun c2 => ?_) (fun c2 => ?_)
    · have ht2 := ht1.1 c2
      refine hb_iconst (pc := 16) (v := 0) dX7_isBlank_16 (by decide) ?_
      exact hb_zret (pc := 17) dX7_isBlank_17 rfl (Or.inl rfl) ht2
    · have ht2 := ht1.2 c2
      refine hb_iconst (pc := 12) (v := 1) dX7_isBlank_12 (by decide) ?_
      refine hb_goto (pc := 13) (tgt := 17) dX7_isBlank_13 (by decide) ?_
      exact hb_zret (pc := 17) dX7_isBlank_17 rfl (Or.inr rfl) ht2
theorem dX7_kindOf_0 : decode cX7_kindOf 0 = .ok (.iload_n 0, 1) := by decide +kernel
theorem dX7_kindOf_1 : decode cX7_kindOf 1 = .ok (.iconst (-1), 1) := by decide +kernel
theorem dX7_kindOf_2 : decode cX7_kindOf 2 = .ok (.if_icmp .ne 5, 3) := by decide +kernel
theorem dX7_kindOf_5 : decode cX7_kindOf 5 = .ok (.iconst 0, 1) := by decide +kernel
theorem dX7_kindOf_6 : decode cX7_kindOf 6 = .ok (.ireturn, 1) := by decide +kernel
theorem dX7_kindOf_7 : decode cX7_kindOf 7 = .ok (.iload_n 0, 1) := by decide +kernel
theorem dX7_kindOf_8 : decode cX7_kindOf 8 = .ok (.bipush 97, 2) := by decide +kernel
theorem dX7_kindOf_10 : decode cX7_kindOf 10 = .ok (.if_icmp .lt 11, 3) := by decide +kernel
theorem dX7_kindOf_13 : decode cX7_kindOf 13 = .ok (.iload_n 0, 1) := by decide +kernel
theorem dX7_kindOf_14 : decode cX7_kindOf 14 = .ok (.bipush 122, 2) := by decide +kernel
theorem dX7_kindOf_16 : decode cX7_kindOf 16 = .ok (.if_icmp .gt 5, 3) := by decide +kernel
theorem dX7_kindOf_19 : decode cX7_kindOf 19 = .ok (.iconst 1, 1) := by decide +kernel
theorem dX7_kindOf_20 : decode cX7_kindOf 20 = .ok (.ireturn, 1) := by decide +kernel
theorem dX7_kindOf_21 : decode cX7_kindOf 21 = .ok (.iload_n 0, 1) := by decide +kernel
theorem dX7_kindOf_22 : decode cX7_kindOf 22 = .ok (.bipush 48, 2) := by decide +kernel
theorem dX7_kindOf_24 : decode cX7_kindOf 24 = .ok (.if_icmp .lt 13, 3) := by decide +kernel
theorem dX7_kindOf_27 : decode cX7_kindOf 27 = .ok (.iload_n 0, 1) := by decide +kernel
theorem dX7_kindOf_28 : decode cX7_kindOf 28 = .ok (.bipush 57, 2) := by decide +kernel
theorem dX7_kindOf_30 : decode cX7_kindOf 30 = .ok (.if_icmp .gt 7, 3) := by decide +kernel
theorem dX7_kindOf_33 : decode cX7_kindOf 33 = .ok (.iconst 2, 1) := by decide +kernel
theorem dX7_kindOf_34 : decode cX7_kindOf 34 = .ok (.goto 4, 3) := by decide +kernel
theorem dX7_kindOf_37 : decode cX7_kindOf 37 = .ok (.iconst 3, 1) := by decide +kernel
theorem dX7_kindOf_38 : decode cX7_kindOf 38 = .ok (.ireturn, 1) := by decide +kernel
set_option maxRecDepth 20000 in
theorem bk_X7_kindOf_0 {d : Nat} {w : hb_W} {Q : Option hb_V → hb_W → Prop} {x0 : Int32} (h : ((¬ x0 = (-1 : Int32)) → ((x0 < (97 : Int32)) → ((x0 < (48 : Int32)) → Q (some (hb_i (3 : Int32))) w) ∧ ((¬ x0 < (48 : Int32)) → (((57 : Int32) < x0) → Q (some (hb_i (3 : Int32))) w) ∧ ((¬ (57 : Int32) < x0) → Q (some (hb_i (2 : Int32))) w))) ∧ ((¬ x0 < (97 : Int32)) → (((122 : Int32) < x0) → ((x0 < (48 : Int32)) → Q (some (hb_i (3 : Int32))) w) ∧ ((¬ x0 < (48 : Int32)) → (((57 : Int32) < x0) → Q (some (hb_i (3 : Int32))) w) ∧ ((¬ (57 : Int32) < x0) → Q (some (hb_i (2 : Int32))) w))) ∧ ((¬ (122 : Int32) < x0) → Q (some (hb_i (1 : Int32))) w))) ∧ ((x0 = (-1 : Int32)) → Q (some (hb_i (0 : Int32))) w)) : hb_R yX7_kindOf cX7_kindOf 1 (some .int) d 0 [some (hb_i x0)] [] w Q := by
  refine hb_iload_n (pc := 0) (i := 0) dX7_kindOf_0 rfl rfl ?_
  refine hb_iconst (pc := 1) (v := -1) dX7_kindOf_1 (by decide) ?_
  refine hb_icmp_ne (pc := 2) (tgt := 7) dX7_kindOf_2 (by decide) (fun c1 => ?_) (fun c1 => ?_)
  · have ht1 := h.1 c1
    refine hb_iload_n (pc := 7) (i := 0) dX7_kindOf_7 rfl rfl ?_
    refine hb_bipush (pc := 8) (v := 97) dX7_kindOf_8 (by decide) ?_
    refine hb_icmp_lt (pc := 10) (tgt := 21) dX7_kindOf_10 (by decide) (fun c2 => ?_) (fun c2 => ?_)
    · have ht2 := ht1.1 c2
      refine hb_iload_n (pc := 21) (i := 0) dX7_kindOf_21 rfl rfl ?_
      refine hb_bipush (pc := 22) (v := 48) dX7_kindOf_22 (by decide) ?_
      refine hb_icmp_lt (pc := 24) (tgt := 37) dX7_kindOf_24 (by decide) (fun c3 => ?_) (fun c3 => ?_)
      · have ht3 := ht2.1 c3
        refine hb_iconst (pc := 37) (v := 3) dX7_kindOf_37 (by decide) ?_
        exact hb_iret (pc := 38) dX7_kindOf_38 rfl ht3
      · have ht3 := ht2.2 c3
        refine hb_iload_n (pc := 27) (i := 0) dX7_kindOf_27 rfl rfl ?_
        refine hb_bipush (pc := 28) (v := 57) dX7_kindOf_28 (by decide) ?_
        refine hb_icmp_gt (pc := 30) (tgt := 37) dX7_kindOf_30 (by decide) (fun c4 => ?_) (fun c4 => ?_)
        · have ht4 := ht3.1 c4
          refine hb_iconst (pc := 37) (v := 3) dX7_kindOf_37 (by decide) ?_
          exact hb_iret (pc := 38) dX7_kindOf_38 rfl ht4
        · have ht4 := ht3.2 c4
          refine hb_iconst (pc := 33) (v := 2) dX7_kindOf_33 (by decide) ?_
          refine hb_goto (pc := 34) (tgt := 38) dX7_kindOf_34 (by decide) ?_
          exact hb_iret (pc := 38) dX7_kindOf_38 rfl ht4
    · have ht2 := ht1.2 c2
      refine hb_iload_n (pc := 13) (i := 0) dX7_kindOf_13 rfl rfl ?_
      refine hb_bipush (pc := 14) (v := 122) dX7_kindOf_14 (by decide) ?_
      refine hb_icmp_gt (pc := 16) (tgt := 21) dX7_kindOf_16 (by decide) (fun c5 => ?_) (fun c5 => ?_)
      · have ht5 := ht2.1 c5
        refine hb_iload_n (pc := 21) (i := 0) dX7_kindOf_21 rfl rfl ?_
        refine hb_bipush (pc := 22) (v := 48) dX7_kindOf_22 (by decide) ?_
        refine hb_icmp_lt (pc := 24) (tgt := 37) dX7_kindOf_24 (by decide) (fun c6 => ?_) (fun c6 => ?_)
        · have ht6 := ht5.1 c6
          refine hb_iconst (pc := 37) (v := 3) dX7_kindOf_37 (by decide) ?_
          exact hb_iret (pc := 38) dX7_kindOf_38 rfl ht6
        · have ht6 := ht5.2 c6
          refine hb_iload_n (pc := 27) (i := 0) dX7_kindOf_27 rfl rfl ?_
          refine hb_bipush (pc := 28) (v := 57) dX7_kindOf_28 (by decide) ?_
          refine hb_icmp_gt (pc := 30) (tgt := 37) dX7_kindOf_30 (by decide) (fun c7 => ?_) (fun c7 => ?_)
          · have ht7 := ht6.1 c7
            refine hb_iconst (pc := 37) (v := 3) dX7_kindOf_37 (by decide) ?_
            exact hb_iret (pc := 38) dX7_kindOf_38 rfl ht7
          · have ht7 := ht6.2 c7
            refine hb_iconst (pc := 33) (v := 2) dX7_kindOf_33 (by decide) ?_
            refine hb_goto (pc := 34) (tgt := 38) dX7_kindOf_34 (by decide) ?_
            exact hb_iret (pc := 38) dX7_kindOf_38 rfl ht7
      · have ht5 := ht2.2 c5
        refine hb_iconst (pc := 19) (v := 1) dX7_kindOf_19 (by decide) ?_
        exact hb_iret (pc := 20) dX7_kindOf_20 rfl ht5
  · have ht1 := h.2 c1
    refine hb_iconst (pc := 5) (v := 0) dX7_kindOf_5 (by decide) ?_
    exact hb_iret (pc := 6) dX7_kindOf_6 rfl ht1
