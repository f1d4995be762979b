theorem dX12_oftenOf_0 : decode cX12_oftenOf 0 = .ok (.iconst 0, 1) := by decide +kernel
theorem dX12_oftenOf_1 : decode cX12_oftenOf 1 = .ok (.istore_n 2, 1) := by decide +kernel
theorem dX12_oftenOf_2 : decode cX12_oftenOf 2 = .ok (.iload_n 2, 1) := by decide +kernel
theorem dX12_oftenOf_3 : decode cX12_oftenOf 3 = .ok (.aload_n 0, 1) := by decide +kernel
theorem dX12_oftenOf_4 : decode cX12_oftenOf 4 = .ok (.getfield 358, 3) := by decide +kernel
theorem dX12_oftenOf_7 : decode cX12_oftenOf 7 = .ok (.if_icmp .ge 35, 3) := by decide +kernel
theorem dX12_oftenOf_10 : decode cX12_oftenOf 10 = .ok (.aload_n 0, 1) := by decide +kernel
theorem dX12_oftenOf_11 : decode cX12_oftenOf 11 = .ok (.getfield 87, 3) := by decide +kernel
theorem dX12_oftenOf_14 : decode cX12_oftenOf 14 = .ok (.iload_n 2, 1) := by decide +kernel
theorem dX12_oftenOf_15 : decode cX12_oftenOf 15 = .ok (.iaload, 1) := by decide +kernel
theorem dX12_oftenOf_16 : decode cX12_oftenOf 16 = .ok (.ifCond .le 20, 3) := by decide +kernel
theorem dX12_oftenOf_19 : decode cX12_oftenOf 19 = .ok (.aload_n 0, 1) := by decide +kernel
theorem dX12_oftenOf_20 : decode cX12_oftenOf 20 = .ok (.getfield 84, 3) := by decide +kernel
theorem dX12_oftenOf_23 : decode cX12_oftenOf 23 = .ok (.iload_n 2, 1) := by decide +kernel
theorem dX12_oftenOf_24 : decode cX12_oftenOf 24 = .ok (.iaload, 1) := by decide +kernel
theorem dX12_oftenOf_25 : decode cX12_oftenOf 25 = .ok (.iload_n 1, 1) := by decide +kernel
theorem dX12_oftenOf_26 : decode cX12_oftenOf 26 = .ok (.if_icmp .ne 10, 3) := by decide +kernel
theorem dX12_oftenOf_29 : decode cX12_oftenOf 29 = .ok (.aload_n 0, 1) := by decide +kernel
theorem dX12_oftenOf_30 : decode cX12_oftenOf 30 = .ok (.getfield 87, 3) := by decide +kernel
theorem dX12_oftenOf_33 : decode cX12_oftenOf 33 = .ok (.iload_n 2, 1) := by decide +kernel
theorem dX12_oftenOf_34 : decode cX12_oftenOf 34 = .ok (.iaload, 1) := by decide +kernel
theorem dX12_oftenOf_35 : decode cX12_oftenOf 35 = .ok (.ireturn, 1) := by decide +kernel
theorem dX12_oftenOf_36 : decode cX12_oftenOf 36 = .ok (.iinc 2 1, 3) := by decide +kernel
theorem dX12_oftenOf_39 : decode cX12_oftenOf 39 = .ok (.goto (-37), 3) := by decide +kernel
theorem dX12_oftenOf_42 : decode cX12_oftenOf 42 = .ok (.iconst 0, 1) := by decide +kernel
theorem dX12_oftenOf_43 : decode cX12_oftenOf 43 = .ok (.ireturn, 1) := by decide +kernel
set_option maxRecDepth 20000 in
theorem bk_X12_oftenOf_0 {d : Nat} {w : hb_W} {Q : Option hb_V → hb_W → Prop} {x1 : Int32} (h : hb_R yX12_oftenOf cX12_oftenOf 3 (some .int) d 2 [some (hb_r 12 0 0), some (hb_i x1), some (hb_i (0 : Int32))] [] w Q) : hb_R yX12_oftenOf cX12_oftenOf 3 (some .int) d 0 [some (hb_r 12 0 0), some (hb_i x1), none] [] w Q := by
  refine hb_iconst (pc := 0) (v := 0) dX12_oftenOf_0 (by decide) ?_
  refine hb_istore_n (pc := 1) (i := 2) (ls1 := [some (hb_r 12 0 0), some (hb_i x1), some (hb_i (0 : Int32))]) dX12_oftenOf_1 rfl (by decide) rfl ?_
  exact h
set_option maxRecDepth 20000 in
theorem bk_X12_oftenOf_2 {d : Nat} {w : hb_W} {Q : Option hb_V → hb_W → Prop} {x1 : Int32} {x2 : Int32} (h : (((hb_fI w 12 39 0) ≤ x2) → Q (some (hb_i (0 : Int32))) w) ∧ ((¬ (hb_fI w 12 39 0) ≤ x2) → vp_in x2 9 ∧ ((((hb_aI w 12 25 0 x2.toNatClampNeg) ≤ 0) → hb_R yX12_oftenOf cX12_oftenOf 3 (some .int) d 2 [some (hb_r 12 0 0), some (hb_i x1), some (hb_i (x2 + (1 : Int32)))] [] w Q) ∧ ((¬ (hb_aI w 12 25 0 x2.toNatClampNeg) ≤ 0) → vp_in x2 9 ∧ (((¬ (hb_aI w 12 24 0 x2.toNatClampNeg) = x1) → hb_R yX12_oftenOf cX12_oftenOf 3 (some .int) d 2 [some (hb_r 12 0 0), some (hb_i x1), some (hb_i (x2 + (1 : Int32)))] [] w Q) ∧ (((hb_aI w 12 24 0 x2.toNatClampNeg) = x1) → vp_in x2 9 ∧ (Q (some (hb_i (hb_aI w 12 25 0 x2.toNatClampNeg))) w))))))) : hb_R yX12_oftenOf cX12_oftenOf 3 (some .int) d 2 [some (hb_r 12 0 0), some (hb_i x1), some (hb_i x2)] [] w Q := by
  refine hb_iload_n (pc := 2) (i := 2) dX12_oftenOf_2 rfl rfl ?_
  refine hb_aload_n (pc := 3) (i := 0) dX12_oftenOf_3 rfl rfl ?_
  refine hb_getIx (pc := 4) (x := hb_fI w 12 39 0) dX12_oftenOf_4 fw_X12_358 cw_12 rfl (by decide) rfl rfl ?_
  refine hb_icmp_ge (pc := 7) (tgt := 42) dX12_oftenOf_7 (by decide) (fun c1 => ?_) (fun c1 => ?_)
  · have ht1 := h.1 c1
    refine hb_iconst (pc := 42) (v := 0) dX12_oftenOf_42 (by decide) ?_
    exact hb_iret (pc := 43) dX12_oftenOf_43 rfl ht1
  · have ht1 := h.2 c1
    refine hb_aload_n (pc := 10) (i := 0) dX12_oftenOf_10 rfl rfl ?_
    refine hb_getR (pc := 11) (g1 := 0) dX12_oftenOf_11 fw_X12_87 cw_12 rfl (by decide) rfl (by decide) rfl ?_
    refine hb_iload_n (pc := 14) (i := 2) dX12_oftenOf_14 rfl rfl ?_
    obtain ⟨ho2, hr2⟩ := ht1
    refine hb_ialdx (pc := 15) (x := hb_aI w 12 25 0 x2.toNatClampNeg) dX12_oftenOf_15 rfl (by decide) ho2 rfl ?_
    refine hb_if_le (pc := 16) (tgt := 36) dX12_oftenOf_16 (by decide) (fun c3 => ?_) (fun c3 => ?_)
    · have ht3 := hr2.1 c3
      refine hb_iinc (pc := 36) (v := x2 + (1 : Int32)) (ls1 := [some (hb_r 12 0 0), some (hb_i x1), some (hb_i (x2 + (1 : Int32)))]) dX12_oftenOf_36 rfl rfl (by decide) rfl ?_
      refine hb_goto (pc := 39) (tgt := 2) dX12_oftenOf_39 (by decide) ?_
      exact ht3
    · have ht3 := hr2.2 c3
      refine hb_aload_n (pc := 19) (i := 0) dX12_oftenOf_19 rfl rfl ?_
      refine hb_getR (pc := 20) (g1 := 0) dX12_oftenOf_20 fw_X12_84 cw_12 rfl (by decide) rfl (by decide) rfl ?_
      refine hb_iload_n (pc := 23) (i := 2) dX12_oftenOf_23 rfl rfl ?_
      obtain ⟨ho4, hr4⟩ := ht3
      refine hb_ialdx (pc := 24) (x := hb_aI w 12 24 0 x2.toNatClampNeg) dX12_oftenOf_24 rfl (by decide) ho4 rfl ?_
      refine hb_iload_n (pc := 25) (i := 1) dX12_oftenOf_25 rfl rfl ?_
      refine hb_icmp_ne (pc := 26) (tgt := 36) dX12_oftenOf_26 (by decide) (fun c5 => ?_) (fun c5 => ?_)
      · have ht5 := hr4.1 c5
        refine hb_iinc (pc := 36) (v := x2 + (1 : Int32)) (ls1 := [some (hb_r 12 0 0), some (hb_i x1), some (hb_i (x2 + (1 : Int32)))]) dX12_oftenOf_36 rfl rfl (by decide) rfl ?_
        refine hb_goto (pc := 39) (tgt := 2) dX12_oftenOf_39 (by decide) ?_
        exact ht5
      · have ht5 := hr4.2 c5
        refine hb_aload_n (pc := 29) (i := 0) dX12_oftenOf_29 rfl rfl ?_
        refine hb_getR (pc := 30) (g1 := 0) dX12_oftenOf_30 fw_X12_87 cw_12 rfl (by decide) rfl (by decide) rfl ?_
        refine hb_iload_n (pc := 33) (i := 2) dX12_oftenOf_33 rfl rfl ?_
        obtain ⟨ho6, hr6⟩ := ht5
        refine hb_ialdx (pc := 34) (x := hb_aI w 12 25 0 x2.toNatClampNeg) dX12_oftenOf_34 rfl (by decide) ho6 rfl ?_
        exact hb_iret (pc := 35) dX12_oftenOf_35 rfl hr6
theorem dX12_oftenSaid_0 : decode cX12_oftenSaid 0 = .ok (.iconst (-1), 1) := by decide +kernel
theorem dX12_oftenSaid_1 : decode cX12_oftenSaid 1 = .ok (.istore_n 1, 1) := by decide +kernel
theorem dX12_oftenSaid_2 : decode cX12_oftenSaid 2 = .ok (.iconst 0, 1) := by decide +kernel
theorem dX12_oftenSaid_3 : decode cX12_oftenSaid 3 = .ok (.istore_n 2, 1) := by decide +kernel
theorem dX12_oftenSaid_4 : decode cX12_oftenSaid 4 = .ok (.iload_n 2, 1) := by decide +kernel
theorem dX12_oftenSaid_5 : decode cX12_oftenSaid 5 = .ok (.aload_n 0, 1) := by decide +kernel
theorem dX12_oftenSaid_6 : decode cX12_oftenSaid 6 = .ok (.getfield 358, 3) := by decide +kernel
theorem dX12_oftenSaid_9 : decode cX12_oftenSaid 9 = .ok (.if_icmp .ge 35, 3) := by decide +kernel
theorem dX12_oftenSaid_12 : decode cX12_oftenSaid 12 = .ok (.aload_n 0, 1) := by decide +kernel
theorem dX12_oftenSaid_13 : decode cX12_oftenSaid 13 = .ok (.getfield 87, 3) := by decide +kernel
theorem dX12_oftenSaid_16 : decode cX12_oftenSaid 16 = .ok (.iload_n 2, 1) := by decide +kernel
theorem dX12_oftenSaid_17 : decode cX12_oftenSaid 17 = .ok (.iaload, 1) := by decide +kernel
theorem dX12_oftenSaid_18 : decode cX12_oftenSaid 18 = .ok (.iload_n 1, 1) := by decide +kernel
theorem dX12_oftenSaid_19 : decode cX12_oftenSaid 19 = .ok (.iconst (-1), 1) := by decide +kernel
theorem dX12_oftenSaid_20 : decode cX12_oftenSaid 20 = .ok (.if_icmp .ne 7, 3) := by decide +kernel
theorem dX12_oftenSaid_23 : decode cX12_oftenSaid 23 = .ok (.iconst 0, 1) := by decide +kernel
theorem dX12_oftenSaid_24 : decode cX12_oftenSaid 24 = .ok (.goto 9, 3) := by decide +kernel
theorem dX12_oftenSaid_27 : decode cX12_oftenSaid 27 = .ok (.aload_n 0, 1) := by decide +kernel
theorem dX12_oftenSaid_28 : decode cX12_oftenSaid 28 = .ok (.getfield 87, 3) := by decide +kernel
theorem dX12_oftenSaid_31 : decode cX12_oftenSaid 31 = .ok (.iload_n 1, 1) := by decide +kernel
theorem dX12_oftenSaid_32 : decode cX12_oftenSaid 32 = .ok (.iaload, 1) := by decide +kernel
theorem dX12_oftenSaid_33 : decode cX12_oftenSaid 33 = .ok (.if_icmp .le 5, 3) := by decide +kernel
theorem dX12_oftenSaid_36 : decode cX12_oftenSaid 36 = .ok (.iload_n 2, 1) := by decide +kernel
theorem dX12_oftenSaid_37 : decode cX12_oftenSaid 37 = .ok (.istore_n 1, 1) := by decide +kernel
theorem dX12_oftenSaid_38 : decode cX12_oftenSaid 38 = .ok (.iinc 2 1, 3) := by decide +kernel
theorem dX12_oftenSaid_41 : decode cX12_oftenSaid 41 = .ok (.goto (-37), 3) := by decide +kernel
theorem dX12_oftenSaid_44 : decode cX12_oftenSaid 44 = .ok (.iload_n 1, 1) := by decide +kernel
theorem dX12_oftenSaid_45 : decode cX12_oftenSaid 45 = .ok (.iconst (-1), 1) := by decide +kernel
theorem dX12_oftenSaid_46 : decode cX12_oftenSaid 46 = .ok (.if_icmp .ne 7, 3) := by decide +kernel
theorem dX12_oftenSaid_49 : decode cX12_oftenSaid 49 = .ok (.iconst (-1), 1) := by decide +kernel
theorem dX12_oftenSaid_50 : decode cX12_oftenSaid 50 = .ok (.goto 9, 3) := by decide +kernel
theorem dX12_oftenSaid_53 : decode cX12_oftenSaid 53 = .ok (.aload_n 0, 1) := by decide +kernel
theorem dX12_oftenSaid_54 : decode cX12_oftenSaid 54 = .ok (.getfield 84, 3) := by decide +kernel
theorem dX12_oftenSaid_57 : decode cX12_oftenSaid 57 = .ok (.iload_n 1, 1) := by decide +kernel
theorem dX12_oftenSaid_58 : decode cX12_oftenSaid 58 = .ok (.iaload, 1) := by decide +kernel
theorem dX12_oftenSaid_59 : decode cX12_oftenSaid 59 = .ok (.ireturn, 1) := by decide +kernel
set_option maxRecDepth 20000 in
theorem bk_X12_oftenSaid_0 {d : Nat} {w : hb_W} {Q : Option hb_V → hb_W → Prop} (h : hb_R yX12_oftenSaid cX12_oftenSaid 3 (some .int) d 4 [some (hb_r 12 0 0), some (hb_i (-1 : Int32)), some (hb_i (0 : Int32))] [] w Q) : hb_R yX12_oftenSaid cX12_oftenSaid 3 (some .int) d 0 [some (hb_r 12 0 0), none, none] [] w Q := by
  refine hb_iconst (pc := 0) (v := -1) dX12_oftenSaid_0 (by decide) ?_
  refine hb_istore_n (pc := 1) (i := 1) (ls1 := [some (hb_r 12 0 0), some (hb_i (-1 : Int32)), none]) dX12_oftenSaid_1 rfl (by decide) rfl ?_
  refine hb_iconst (pc := 2) (v := 0) dX12_oftenSaid_2 (by decide) ?_
  refine hb_istore_n (pc := 3) (i := 2) (ls1 := [some (hb_r 12 0 0), some (hb_i (-1 : Int32)), some (hb_i (0 : Int32))]) dX12_oftenSaid_3 rfl (by decide) rfl ?_
  exact h
set_option maxRecDepth 20000 in
theorem bk_X12_oftenSaid_4 {d : Nat} {w : hb_W} {Q : Option hb_V → hb_W → Prop} {x1 : Int32} {x2 : Int32} (h : (((hb_fI w 12 39 0) ≤ x2) → ((¬ x1 = (-1 : Int32)) → vp_in x1 9 ∧ (Q (some (hb_i (hb_aI w 12 24 0 x1.toNatClampNeg))) w)) ∧ ((x1 = (-1 : Int32)) → Q (some (hb_i (-1 : Int32))) w)) ∧ ((¬ (hb_fI w 12 39 0) ≤ x2) → vp_in x2 9 ∧ (((¬ x1 = (-1 : Int32)) → vp_in x1 9 ∧ ((((hb_aI w 12 25 0 x2.toNatClampNeg) ≤ (hb_aI w 12 25 0 x1.toNatClampNeg)) → hb_R yX12_oftenSaid cX12_oftenSaid 3 (some .int) d 4 [some (hb_r 12 0 0), some (hb_i x1), some (hb_i (x2 + (1 : Int32)))] [] w Q) ∧ ((¬ (hb_aI w 12 25 0 x2.toNatClampNeg) ≤ (hb_aI w 12 25 0 x1.toNatClampNeg)) → hb_R yX12_oftenSaid cX12_oftenSaid 3 (some .int) d 4 [some (hb_r 12 0 0), some (hb_i x2), some (hb_i (x2 + (1 : Int32)))] [] w Q))) ∧ ((x1 = (-1 : Int32)) → (((hb_aI w 12 25 0 x2.toNatClampNeg) ≤ (0 : Int32)) → hb_R yX12_oftenSaid cX12_oftenSaid 3 (some .int) d 4 [some (hb_r 12 0 0), some (hb_i x1), some (hb_i (x2 + (1 : Int32)))] [] w Q) ∧ ((¬ (hb_aI w 12 25 0 x2.toNatClampNeg) ≤ (0 : Int32)) → hb_R yX12_oftenSaid cX12_oftenSaid 3 (some .int) d 4 [some (hb_r 12 0 0), some (hb_i x2), some (hb_i (x2 + (1 : Int32)))] [] w Q))))) : hb_R yX12_oftenSaid cX12_oftenSaid 3 (some .int) d 4 [some (hb_r 12 0 0), some (hb_i x1), some (hb_i x2)] [] w Q := by
  refine hb_iload_n (pc := 4) (i := 2) dX12_oftenSaid_4 rfl rfl ?_
  refine hb_aload_n (pc := 5) (i := 0) dX12_oftenSaid_5 rfl rfl ?_
  refine hb_getIx (pc := 6) (x := hb_fI w 12 39 0) dX12_oftenSaid_6 fw_X12_358 cw_12 rfl (by decide) rfl rfl ?_
  refine hb_icmp_ge (pc := 9) (tgt := 44) dX12_oftenSaid_9 (by decide) (fun c1 => ?_) (fun c1 => ?_)
  · have ht1 := h.1 c1
    refine hb_iload_n (pc := 44) (i := 1) dX12_oftenSaid_44 rfl rfl ?_
    refine hb_iconst (pc := 45) (v := -1) dX12_oftenSaid_45 (by decide) ?_
    refine hb_icmp_ne (pc := 46) (tgt := 53) dX12_oftenSaid_46 (by decide) (fun c2 => ?_) (fun c2 => ?_)
    · have ht2 := ht1.1 c2
      refine hb_aload_n (pc := 53) (i := 0) dX12_oftenSaid_53 rfl rfl ?_
      refine hb_getR (pc := 54) (g1 := 0) dX12_oftenSaid_54 fw_X12_84 cw_12 rfl (by decide) rfl (by decide) rfl ?_
      refine hb_iload_n (pc := 57) (i := 1) dX12_oftenSaid_57 rfl rfl ?_
      obtain ⟨ho3, hr3⟩ := ht2
      refine hb_ialdx (pc := 58) (x := hb_aI w 12 24 0 x1.toNatClampNeg) dX12_oftenSaid_58 rfl (by decide) ho3 rfl ?_
      exact hb_iret (pc := 59) dX12_oftenSaid_59 rfl hr3
    · have ht2 := ht1.2 c2
      refine hb_iconst (pc := 49) (v := -1) dX12_oftenSaid_49 (by decide) ?_
      refine hb_goto (pc := 50) (tgt := 59) dX12_oftenSaid_50 (by decide) ?_
      exact hb_iret (pc := 59) dX12_oftenSaid_59 rfl ht2
  · have ht1 := h.2 c1
    refine hb_aload_n (pc := 12) (i := 0) dX12_oftenSaid_12 rfl rfl ?_
    refine hb_getR (pc := 13) (g1 := 0) dX12_oftenSaid_13 fw_X12_87 cw_12 rfl (by decide) rfl (by decide) rfl ?_
    refine hb_iload_n (pc := 16) (i := 2) dX12_oftenSaid_16 rfl rfl ?_
    obtain ⟨ho4, hr4⟩ := ht1
    refine hb_ialdx (pc := 17) (x := hb_aI w 12 25 0 x2.toNatClampNeg) dX12_oftenSaid_17 rfl (by decide) ho4 rfl ?_
    refine hb_iload_n (pc := 18) (i := 1) dX12_oftenSaid_18 rfl rfl ?_
    refine hb_iconst (pc := 19) (v := -1) dX12_oftenSaid_19 (by decide) ?_
    refine hb_icmp_ne (pc := 20) (tgt := 27) dX12_oftenSaid_20 (by decide) (fun c5 => ?_) (fun c5 => ?_)
    · have ht5 := hr4.1 c5
      refine hb_aload_n (pc := 27) (i := 0) dX12_oftenSaid_27 rfl rfl ?_
      refine hb_getR (pc := 28) (g1 := 0) dX12_oftenSaid_28 fw_X12_87 cw_12 rfl (by decide) rfl (by decide) rfl ?_
      refine hb_iload_n (pc := 31) (i := 1) dX12_oftenSaid_31 rfl rfl ?_
      obtain ⟨ho6, hr6⟩ := ht5
      refine hb_ialdx (pc := 32) (x := hb_aI w 12 25 0 x1.toNatClampNeg) dX12_oftenSaid_32 rfl (by decide) ho6 rfl ?_
      refine hb_icmp_le (pc := 33) (tgt := 38) dX12_oftenSaid_33 (by decide) (fun c7 => ?_) (fun c7 => ?_)
      · have ht7 := hr6.1 c7
        refine hb_iinc (pc := 38) (v := x2 + (1 : Int32)) (ls1 := [some (hb_r 12 0 0), some (hb_i x1), some (hb_i (x2 + (1 : Int32)))]) dX12_oftenSaid_38 rfl rfl (by decide) rfl ?_
        refine hb_goto (pc := 41) (tgt := 4) dX12_oftenSaid_41 (by decide) ?_
        exact ht7
      · have ht7 := hr6.2 c7
        refine hb_iload_n (pc := 36) (i := 2) dX12_oftenSaid_36 rfl rfl ?_
        refine hb_istore_n (pc := 37) (i := 1) (ls1 := [some (hb_r 12 0 0), some (hb_i x2), some (hb_i x2)]) dX12_oftenSaid_37 rfl (by decide) rfl ?_
        refine hb_iinc (pc := 38) (v := x2 + (1 : Int32)) (ls1 := [some (hb_r 12 0 0), some (hb_i x2), some (hb_i (x2 + (1 : Int32)))]) dX12_oftenSaid_38 rfl rfl (by decide) rfl ?_
        refine hb_goto (pc := 41) (tgt := 4) dX12_oftenSaid_41 (by decide) ?_
        exact ht7
    · have ht5 := hr4.2 c5
      refine hb_iconst (pc := 23) (v := 0) dX12_oftenSaid_23 (by decide) ?_
      refine hb_goto (pc := 24) (tgt := 33) dX12_oftenSaid_24 (by decide) ?_
      refine hb_icmp_le (pc := 33) (tgt := 38) dX12_oftenSaid_33 (by decide) (fun c8 => ?_) (fun c8 => ?_)
      · have ht8 := ht5.1 c8
        refine hb_iinc (pc := 38) (v := x2 + (1 : Int32)) (ls1 := [some (hb_r 12 0 0), some (hb_i x1), some (hb_i (x2 + (1 : Int32)))]) dX12_oftenSaid_38 rfl rfl (by decide) rfl ?_
        refine hb_goto (pc := 41) (tgt := 4) dX12_oftenSaid_41 (by decide) ?_
        exact ht8
      · have ht8 := ht5.2 c8
        refine hb_iload_n (pc := 36) (i := 2) dX12_oftenSaid_36 rfl rfl ?_
        refine hb_istore_n (pc := 37) (i := 1) (ls1 := [some (hb_r 12 0 0), some (hb_i x2), some (hb_i x2)]) dX12_oftenSaid_37 rfl (by decide) rfl ?_
        refine hb_iinc (pc := 38) (v := x2 + (1 : Int32)) (ls1 := [some (hb_r 12 0 0), some (hb_i x2), some (hb_i (x2 + (1 : Int32)))]) dX12_oftenSaid_38 rfl rfl (by decide) rfl ?_
        refine hb_goto (pc := 41) (tgt := 4) dX12_oftenSaid_41 (by decide) ?_
        exact ht8
theorem dX12_apart_0 : decode cX12_apart 0 = .ok (.iload_n 0, 1) := by decide +kernel
theorem dX12_apart_1 : decode cX12_apart 1 = .ok (.iload_n 1, 1) := by decide +kernel
theorem dX12_apart_2 : decode cX12_apart 2 = .ok (.if_icmp .ge 9, 3) := by decide +kernel
theorem dX12_apart_5 : decode cX12_apart 5 = .ok (.iload_n 1, 1) := by decide +kernel
theorem dX12_apart_6 : decode cX12_apart 6 = .ok (.iload_n 0, 1) := by decide +kernel
theorem dX12_apart_7 : decode cX12_apart 7 = .ok (.isub, 1) := by decide +kernel
theorem dX12_apart_8 : decode cX12_apart 8 = .ok (.goto 6, 3) := by decide +kernel
theorem dX12_apart_11 : decode cX12_apart 11 = .ok (.iload_n 0, 1) := by decide +kernel
theorem dX12_apart_12 : decode cX12_apart 12 = .ok (.iload_n 1, 1) := by decide +kernel
theorem dX12_apart_13 : decode cX12_apart 13 = .ok (.isub, 1) := by decide +kernel
theorem dX12_apart_14 : decode cX12_apart 14 = .ok (.ireturn, 1) := by decide +kernel
set_option maxRecDepth 20000 in
theorem bk_X12_apart_0 {d : Nat} {w : hb_W} {Q : Option hb_V → hb_W → Prop} {x0 : Int32} {x1 : Int32} (h : ((x1 ≤ x0) → Q (some (hb_i (x0 - x1))) w) ∧ ((¬ x1 ≤ x0) → Q (some (hb_i (x1 - x0))) w)) : hb_R yX12_apart cX12_apart 2 (some .int) d 0 [some (hb_i x0), some (hb_i x1)] [] w Q := by
  refine hb_iload_n (pc := 0) (i := 0) dX12_apart_0 rfl rfl ?_
  refine hb_iload_n (pc := 1) (i := 1) dX12_apart_1 rfl rfl ?_
  refine hb_icmp_ge (pc := 2) (tgt := 11) dX12_apart_2 (by decide) (fun c1 => ?_) (fun c1 => ?_)
  · have ht1 := h.1 c1
    refine hb_iload_n (pc := 11) (i := 0) dX12_apart_11 rfl rfl ?_
    refine hb_iload_n (pc := 12) (i := 1) dX12_apart_12 rfl rfl ?_
    refine hb_isub (pc := 13) dX12_apart_13 ?_
    exact hb_iret (pc := 14) dX12_apart_14 rfl ht1
  · have ht1 := h.2 c1
    refine hb_iload_n (pc := 5) (i := 1) dX12_apart_5 rfl rfl ?_
    refine hb_iload_n (pc := 6) (i := 0) dX12_apart_6 rfl rfl ?_
    refine hb_isub (pc := 7) dX12_apart_7 ?_
    refine hb_goto (pc := 8) (tgt := 14) dX12_apart_8 (by decide) ?_
    exact hb_iret (pc := 14) dX12_apart_14 rfl ht1
theorem dX12_overtold_0 : decode cX12_overtold 0 = .ok (.iconst 0, 1) := by decide +kernel
theorem dX12_overtold_1 : decode cX12_overtold 1 = .ok (.istore_n 1, 1) := by decide +kernel
theorem dX12_overtold_2 : decode cX12_overtold 2 = .ok (.iconst 0, 1) := by decide +kernel
theorem dX12_overtold_3 : decode cX12_overtold 3 = .ok (.istore_n 2, 1) := by decide +kernel
theorem dX12_overtold_4 : decode cX12_overtold 4 = .ok (.iload_n 2, 1) := by decide +kernel
theorem dX12_overtold_5 : decode cX12_overtold 5 = .ok (.bipush 64, 2) := by decide +kernel
theorem dX12_overtold_7 : decode cX12_overtold 7 = .ok (.if_icmp .ge 29, 3) := by decide +kernel
theorem dX12_overtold_10 : decode cX12_overtold 10 = .ok (.aload_n 0, 1) := by decide +kernel
theorem dX12_overtold_11 : decode cX12_overtold 11 = .ok (.iload_n 2, 1) := by decide +kernel
theorem dX12_overtold_12 : decode cX12_overtold 12 = .ok (.invokevirtual 396, 3) := by decide +kernel
theorem dX12_overtold_15 : decode cX12_overtold 15 = .ok (.aload_n 0, 1) := by decide +kernel
theorem dX12_overtold_16 : decode cX12_overtold 16 = .ok (.getfield 75, 3) := by decide +kernel
theorem dX12_overtold_19 : decode cX12_overtold 19 = .ok (.iload_n 2, 1) := by decide +kernel
theorem dX12_overtold_20 : decode cX12_overtold 20 = .ok (.iaload, 1) := by decide +kernel
theorem dX12_overtold_21 : decode cX12_overtold 21 = .ok (.isub, 1) := by decide +kernel
theorem dX12_overtold_22 : decode cX12_overtold 22 = .ok (.istore_n 3, 1) := by decide +kernel
theorem dX12_overtold_23 : decode cX12_overtold 23 = .ok (.iload_n 3, 1) := by decide +kernel
theorem dX12_overtold_24 : decode cX12_overtold 24 = .ok (.iload_n 1, 1) := by decide +kernel
theorem dX12_overtold_25 : decode cX12_overtold 25 = .ok (.if_icmp .le 5, 3) := by decide +kernel
theorem dX12_overtold_28 : decode cX12_overtold 28 = .ok (.iload_n 3, 1) := by decide +kernel
theorem dX12_overtold_29 : decode cX12_overtold 29 = .ok (.istore_n 1, 1) := by decide +kernel
theorem dX12_overtold_30 : decode cX12_overtold 30 = .ok (.iinc 2 1, 3) := by decide +kernel
theorem dX12_overtold_33 : decode cX12_overtold 33 = .ok (.goto (-29), 3) := by decide +kernel
theorem dX12_overtold_36 : decode cX12_overtold 36 = .ok (.iload_n 1, 1) := by decide +kernel
theorem dX12_overtold_37 : decode cX12_overtold 37 = .ok (.ireturn, 1) := by decide +kernel
set_option maxRecDepth 20000 in
theorem bk_X12_overtold_0 {d : Nat} {w : hb_W} {Q : Option hb_V → hb_W → Prop} (h : hb_R yX12_overtold cX12_overtold 4 (some .int) (d + 1) 4 [some (hb_r 12 0 0), some (hb_i (0 : Int32)), some (hb_i (0 : Int32)), none] [] w Q) : hb_R yX12_overtold cX12_overtold 4 (some .int) (d + 1) 0 [some (hb_r 12 0 0), none, none, none] [] w Q := by
  refine hb_iconst (pc := 0) (v := 0) dX12_overtold_0 (by decide) ?_
  refine hb_istore_n (pc := 1) (i := 1) (ls1 := [some (hb_r 12 0 0), some (hb_i (0 : Int32)), none, none]) dX12_overtold_1 rfl (by decide) rfl ?_
  refine hb_iconst (pc := 2) (v := 0) dX12_overtold_2 (by decide) ?_
  refine hb_istore_n (pc := 3) (i := 2) (ls1 := [some (hb_r 12 0 0), some (hb_i (0 : Int32)), some (hb_i (0 : Int32)), none]) dX12_overtold_3 rfl (by decide) rfl ?_
  exact h
set_option maxRecDepth 20000 in
theorem bk_X12_overtold_4 {d : Nat} {w : hb_W} {Q : Option hb_V → hb_W → Prop} {x1 : Int32} {x2 : Int32} (h : (((64 : Int32) ≤ x2) → Q (some (hb_i x1)) w) ∧ ((¬ (64 : Int32) ≤ x2) → hb_O yX12_toldOf cX12_toldOf 5 (some .int) d [hb_r 12 0 0, hb_i x2] w (fun rv w1 => hb_R yX12_overtold cX12_overtold 4 (some .int) (d + 1) 15 [some (hb_r 12 0 0), some (hb_i x1), some (hb_i x2), none] (rv.toList ++ []) w1 Q))) : hb_R yX12_overtold cX12_overtold 4 (some .int) (d + 1) 4 [some (hb_r 12 0 0), some (hb_i x1), some (hb_i x2), none] [] w Q := by
  refine hb_iload_n (pc := 4) (i := 2) dX12_overtold_4 rfl rfl ?_
  refine hb_bipush (pc := 5) (v := 64) dX12_overtold_5 (by decide) ?_
  refine hb_icmp_ge (pc := 7) (tgt := 36) dX12_overtold_7 (by decide) (fun c1 => ?_) (fun c1 => ?_)
  · have ht1 := h.1 c1
    refine hb_iload_n (pc := 36) (i := 1) dX12_overtold_36 rfl rfl ?_
    exact hb_iret (pc := 37) dX12_overtold_37 rfl ht1
  · have ht1 := h.2 c1
    refine hb_aload_n (pc := 10) (i := 0) dX12_overtold_10 rfl rfl ?_
    refine hb_iload_n (pc := 11) (i := 2) dX12_overtold_11 rfl rfl ?_
    exact hb_callV (pc := 12) (As := [hb_i x2]) (st := []) dX12_overtold_12 ml_X12_396 mf_X12_toldOf mi_X12_toldOf (ci := 12) rfl rfl (by decide) rfl rfl (Nat.le_of_ble_eq_true rfl) (Nat.le_of_ble_eq_true rfl) ht1 (fun _ _ q => q)
set_option maxRecDepth 20000 in
theorem bk_X12_overtold_15 {d : Nat} {w : hb_W} {Q : Option hb_V → hb_W → Prop} {x1 : Int32} {x2 : Int32} {xs0 : Int32} (h : vp_in x2 64 ∧ ((((xs0 - (hb_aI w 12 21 0 x2.toNatClampNeg)) ≤ x1) → hb_R yX12_overtold cX12_overtold 4 (some .int) (d + 1) 4 [some (hb_r 12 0 0), some (hb_i x1), some (hb_i (x2 + (1 : Int32))), some (hb_i (xs0 - (hb_aI w 12 21 0 x2.toNatClampNeg)))] [] w Q) ∧ ((¬ (xs0 - (hb_aI w 12 21 0 x2.toNatClampNeg)) ≤ x1) → hb_R yX12_overtold cX12_overtold 4 (some .int) (d + 1) 4 [some (hb_r 12 0 0), some (hb_i (xs0 - (hb_aI w 12 21 0 x2.toNatClampNeg))), some (hb_i (x2 + (1 : Int32))), some (hb_i (xs0 - (hb_aI w 12 21 0 x2.toNatClampNeg)))] [] w Q))) : hb_R yX12_overtold cX12_overtold 4 (some .int) (d + 1) 15 [some (hb_r 12 0 0), some (hb_i x1), some (hb_i x2), none] [hb_i xs0] w Q := by
  refine hb_aload_n (pc := 15) (i := 0) dX12_overtold_15 rfl rfl ?_
  refine hb_getR (pc := 16) (g1 := 0) dX12_overtold_16 fw_X12_75 cw_12 rfl (by decide) rfl (by decide) rfl ?_
  refine hb_iload_n (pc := 19) (i := 2) dX12_overtold_19 rfl rfl ?_
  obtain ⟨ho1, hr1⟩ := h
  refine hb_ialdx (pc := 20) (x := hb_aI w 12 21 0 x2.toNatClampNeg) dX12_overtold_20 rfl (by decide) ho1 rfl ?_
  refine hb_isub (pc := 21) dX12_overtold_21 ?_
  refine hb_istore_n (pc := 22) (i := 3) (ls1 := [some (hb_r 12 0 0), some (hb_i x1), some (hb_i x2), some (hb_i (xs0 - (hb_aI w 12 21 0 x2.toNatClampNeg)))]) dX12_overtold_22 rfl (by decide) rfl ?_
  refine hb_iload_n (pc := 23) (i := 3) dX12_overtold_23 rfl rfl ?_
  refine hb_iload_n (pc := 24) (i := 1) dX12_overtold_24 rfl rfl ?_
  refine hb_icmp_le (pc := 25) (tgt := 30) dX12_overtold_25 (by decide) (fun c2 => ?_) (fun c2 => ?_)
  · have ht2 := hr1.1 c2
    refine hb_iinc (pc := 30) (v := x2 + (1 : Int32)) (ls1 := [some (hb_r 12 0 0), some (hb_i x1), some (hb_i (x2 + (1 : Int32))), some (hb_i (xs0 - (hb_aI w 12 21 0 x2.toNatClampNeg)))]) dX12_overtold_30 rfl rfl (by decide) rfl ?_
    refine hb_goto (pc := 33) (tgt := 4) dX12_overtold_33 (by decide) ?_
    exact ht2
  · have ht2 := hr1.2 c2
    refine hb_iload_n (pc := 28) (i := 3) dX12_overtold_28 rfl rfl ?_
    refine hb_istore_n (pc := 29) (i := 1) (ls1 := [some (hb_r 12 0 0), some (hb_i (xs0 - (hb_aI w 12 21 0 x2.toNatClampNeg))), some (hb_i x2), some (hb_i (xs0 - (hb_aI w 12 21 0 x2.toNatClampNeg)))]) dX12_overtold_29 rfl (by decide) rfl ?_
    refine hb_iinc (pc := 30) (v := x2 + (1 : Int32)) (ls1 := [some (hb_r 12 0 0), some (hb_i (xs0 - (hb_aI w 12 21 0 x2.toNatClampNeg))), some (hb_i (x2 + (1 : Int32))), some (hb_i (xs0 - (hb_aI w 12 21 0 x2.toNatClampNeg)))]) dX12_overtold_30 rfl rfl (by decide) rfl ?_
    refine hb_goto (pc := 33) (tgt := 4) dX12_overtold_33 (by decide) ?_
    exact ht2
theorem dX12_wrongly_0 : decode cX12_wrongly 0 = .ok (.iconst 0, 1) := by decide +kernel
theorem dX12_wrongly_1 : decode cX12_wrongly 1 = .ok (.istore_n 1, 1) := by decide +kernel
theorem dX12_wrongly_2 : decode cX12_wrongly 2 = .ok (.iconst 0, 1) := by decide +kernel
theorem dX12_wrongly_3 : decode cX12_wrongly 3 = .ok (.istore_n 2, 1) := by decide +kernel
theorem dX12_wrongly_4 : decode cX12_wrongly 4 = .ok (.iload_n 2, 1) := by decide +kernel
theorem dX12_wrongly_5 : decode cX12_wrongly 5 = .ok (.bipush 64, 2) := by decide +kernel
theorem dX12_wrongly_7 : decode cX12_wrongly 7 = .ok (.if_icmp .ge 29, 3) := by decide +kernel
theorem dX12_wrongly_10 : decode cX12_wrongly 10 = .ok (.aload_n 0, 1) := by decide +kernel
theorem dX12_wrongly_11 : decode cX12_wrongly 11 = .ok (.getfield 75, 3) := by decide +kernel
theorem dX12_wrongly_14 : decode cX12_wrongly 14 = .ok (.iload_n 2, 1) := by decide +kernel
theorem dX12_wrongly_15 : decode cX12_wrongly 15 = .ok (.iaload, 1) := by decide +kernel
theorem dX12_wrongly_16 : decode cX12_wrongly 16 = .ok (.ifCond .ne 14, 3) := by decide +kernel
theorem dX12_wrongly_19 : decode cX12_wrongly 19 = .ok (.aload_n 0, 1) := by decide +kernel
theorem dX12_wrongly_20 : decode cX12_wrongly 20 = .ok (.iload_n 2, 1) := by decide +kernel
theorem dX12_wrongly_21 : decode cX12_wrongly 21 = .ok (.invokevirtual 399, 3) := by decide +kernel
theorem dX12_wrongly_24 : decode cX12_wrongly 24 = .ok (.ifCond .eq 6, 3) := by decide +kernel
theorem dX12_wrongly_27 : decode cX12_wrongly 27 = .ok (.iinc 1 1, 3) := by decide +kernel
theorem dX12_wrongly_30 : decode cX12_wrongly 30 = .ok (.iinc 2 1, 3) := by decide +kernel
theorem dX12_wrongly_33 : decode cX12_wrongly 33 = .ok (.goto (-29), 3) := by decide +kernel
theorem dX12_wrongly_36 : decode cX12_wrongly 36 = .ok (.iload_n 1, 1) := by decide +kernel
theorem dX12_wrongly_37 : decode cX12_wrongly 37 = .ok (.ireturn, 1) := by decide +kernel
set_option maxRecDepth 20000 in
theorem bk_X12_wrongly_0 {d : Nat} {w : hb_W} {Q : Option hb_V → hb_W → Prop} (h : hb_R yX12_wrongly cX12_wrongly 3 (some .int) (d + 1) 4 [some (hb_r 12 0 0), some (hb_i (0 : Int32)), some (hb_i (0 : Int32))] [] w Q) : hb_R yX12_wrongly cX12_wrongly 3 (some .int) (d + 1) 0 [some (hb_r 12 0 0), none, none] [] w Q := by
  refine hb_iconst (pc := 0) (v := 0) dX12_wrongly_0 (by decide) ?_
  refine hb_istore_n (pc := 1) (i := 1) (ls1 := [some (hb_r 12 0 0), some (hb_i (0 : Int32)), none]) dX12_wrongly_1 rfl (by decide) rfl ?_
  refine hb_iconst (pc := 2) (v := 0) dX12_wrongly_2 (by decide) ?_
  refine hb_istore_n (pc := 3) (i := 2) (ls1 := [some (hb_r 12 0 0), some (hb_i (0 : Int32)), some (hb_i (0 : Int32))]) dX12_wrongly_3 rfl (by decide) rfl ?_
  exact h
set_option maxRecDepth 20000 in
theorem bk_X12_wrongly_4 {d : Nat} {w : hb_W} {Q : Option hb_V → hb_W → Prop} {x1 : Int32} {x2 : Int32} (h : (((64 : Int32) ≤ x2) → Q (some (hb_i x1)) w) ∧ ((¬ (64 : Int32) ≤ x2) → vp_in x2 64 ∧ (((¬ (hb_aI w 12 21 0 x2.toNatClampNeg) = 0) → hb_R yX12_wrongly cX12_wrongly 3 (some .int) (d + 1) 4 [some (hb_r 12 0 0), some (hb_i x1), some (hb_i (x2 + (1 : Int32)))] [] w Q) ∧ (((hb_aI w 12 21 0 x2.toNatClampNeg) = 0) → hb_O yX12_wasThere cX12_wasThere 2 (some .boolean) d [hb_r 12 0 0, hb_i x2] w (fun rv w1 => hb_R yX12_wrongly cX12_wrongly 3 (some .int) (d + 1) 24 [some (hb_r 12 0 0), some (hb_i x1), some (hb_i x2)] (rv.toList ++ []) w1 Q))))) : hb_R yX12_wrongly cX12_wrongly 3 (some .int) (d + 1) 4 [some (hb_r 12 0 0), some (hb_i x1), some (hb_i x2)] [] w Q := by
  refine hb_iload_n (pc := 4) (i := 2) dX12_wrongly_4 rfl rfl ?_
  refine hb_bipush (pc := 5) (v := 64) dX12_wrongly_5 (by decide) ?_
  refine hb_icmp_ge (pc := 7) (tgt := 36) dX12_wrongly_7 (by decide) (fun c1 => ?_) (fun c1 => ?_)
  · have ht1 := h.1 c1
    refine hb_iload_n (pc := 36) (i := 1) dX12_wrongly_36 rfl rfl ?_
    exact hb_iret (pc := 37) dX12_wrongly_37 rfl ht1
  · have ht1 := h.2 c1
    refine hb_aload_n (pc := 10) (i := 0) dX12_wrongly_10 rfl rfl ?_
    refine hb_getR (pc := 11) (g1 := 0) dX12_wrongly_11 fw_X12_75 cw_12 rfl (by decide) rfl (by decide) rfl ?_
    refine hb_iload_n (pc := 14) (i := 2) dX12_wrongly_14 rfl rfl ?_
    obtain ⟨ho2, hr2⟩ := ht1
    refine hb_ialdx (pc := 15) (x := hb_aI w 12 21 0 x2.toNatClampNeg) dX12_wrongly_15 rfl (by decide) ho2 rfl ?_
    refine hb_if_ne (pc := 16) (tgt := 30) dX12_wrongly_16 (by decide) (fun c3 => ?_) (fun c3 => ?_)
    · have ht3 := hr2.1 c3
      refine hb_iinc (pc := 30) (v := x2 + (1 : Int32)) (ls1 := [some (hb_r 12 0 0), some (hb_i x1), some (hb_i (x2 + (1 : Int32)))]) dX12_wrongly_30 rfl rfl (by decide) rfl ?_
      refine hb_goto (pc := 33) (tgt := 4) dX12_wrongly_33 (by decide) ?_
      exact ht3
    · have ht3 := hr2.2 c3
      refine hb_aload_n (pc := 19) (i := 0) dX12_wrongly_19 rfl rfl ?_
      refine hb_iload_n (pc := 20) (i := 2) dX12_wrongly_20 rfl rfl ?_
      exact hb_callV (pc := 21) (As := [hb_i x2]) (st := []) dX12_wrongly_21 ml_X12_399 mf_X12_wasThere mi_X12_wasThere (ci := 12) rfl rfl (by decide) rfl rfl (Nat.le_of_ble_eq_true rfl) (Nat.le_of_ble_eq_true rfl) ht3 (fun _ _ q => q)
set_option maxRecDepth 20000 in
theorem bk_X12_wrongly_24 {d : Nat} {w : hb_W} {Q : Option hb_V → hb_W → Prop} {x1 : Int32} {x2 : Int32} {xs0 : Int32} (h : ((xs0 = 0) → hb_R yX12_wrongly cX12_wrongly 3 (some .int) (d + 1) 4 [some (hb_r 12 0 0), some (hb_i x1), some (hb_i (x2 + (1 : Int32)))] [] w Q) ∧ ((¬ xs0 = 0) → hb_R yX12_wrongly cX12_wrongly 3 (some .int) (d + 1) 4 [some (hb_r 12 0 0), some (hb_i (x1 + (1 : Int32))), some (hb_i (x2 + (1 : Int32)))] [] w Q)) : hb_R yX12_wrongly cX12_wrongly 3 (some .int) (d + 1) 24 [some (hb_r 12 0 0), some (hb_i x1), some (hb_i x2)] [hb_i xs0] w Q := by
  refine hb_if_eq (pc := 24) (tgt := 30) dX12_wrongly_24 (by decide) (fun c1 => ?_) (fun c1 => ?_)
  · have ht1 := h.1 c1
    refine hb_iinc (pc := 30) (v := x2 + (1 : Int32)) (ls1 := [some (hb_r 12 0 0), some (hb_i x1), some (hb_i (x2 + (1 : Int32)))]) dX12_wrongly_30 rfl rfl (by decide) rfl ?_
    refine hb_goto (pc := 33) (tgt := 4) dX12_wrongly_33 (by decide) ?_
    exact ht1
  · have ht1 := h.2 c1
    refine hb_iinc (pc := 27) (v := x1 + (1 : Int32)) (ls1 := [some (hb_r 12 0 0), some (hb_i (x1 + (1 : Int32))), some (hb_i x2)]) dX12_wrongly_27 rfl rfl (by decide) rfl ?_
    refine hb_iinc (pc := 30) (v := x2 + (1 : Int32)) (ls1 := [some (hb_r 12 0 0), some (hb_i (x1 + (1 : Int32))), some (hb_i (x2 + (1 : Int32)))]) dX12_wrongly_30 rfl rfl (by decide) rfl ?_
    refine hb_goto (pc := 33) (tgt := 4) dX12_wrongly_33 (by decide) ?_
    exact ht1
theorem dX12_oftenOut_0 : decode cX12_oftenOut 0 = .ok (.aload_n 0, 1) := by decide +kernel
theorem dX12_oftenOut_1 : decode cX12_oftenOut 1 = .ok (.invokevirtual 402, 3) := by decide +kernel
theorem dX12_oftenOut_4 : decode cX12_oftenOut 4 = .ok (.istore_n 1, 1) := by decide +kernel
theorem dX12_oftenOut_5 : decode cX12_oftenOut 5 = .ok (.iload_n 1, 1) := by decide +kernel
theorem dX12_oftenOut_6 : decode cX12_oftenOut 6 = .ok (.iconst (-1), 1) := by decide +kernel
theorem dX12_oftenOut_7 : decode cX12_oftenOut 7 = .ok (.if_icmp .ne 7, 3) := by decide +kernel
theorem dX12_oftenOut_10 : decode cX12_oftenOut 10 = .ok (.iconst 0, 1) := by decide +kernel
theorem dX12_oftenOut_11 : decode cX12_oftenOut 11 = .ok (.goto 17, 3) := by decide +kernel
theorem dX12_oftenOut_14 : decode cX12_oftenOut 14 = .ok (.aload_n 0, 1) := by decide +kernel
theorem dX12_oftenOut_15 : decode cX12_oftenOut 15 = .ok (.iload_n 1, 1) := by decide +kernel
theorem dX12_oftenOut_16 : decode cX12_oftenOut 16 = .ok (.invokevirtual 405, 3) := by decide +kernel
theorem dX12_oftenOut_19 : decode cX12_oftenOut 19 = .ok (.aload_n 0, 1) := by decide +kernel
theorem dX12_oftenOut_20 : decode cX12_oftenOut 20 = .ok (.getfield 75, 3) := by decide +kernel
theorem dX12_oftenOut_23 : decode cX12_oftenOut 23 = .ok (.iload_n 1, 1) := by decide +kernel
theorem dX12_oftenOut_24 : decode cX12_oftenOut 24 = .ok (.iaload, 1) := by decide +kernel
theorem dX12_oftenOut_25 : decode cX12_oftenOut 25 = .ok (.invokestatic 408, 3) := by decide +kernel
theorem dX12_oftenOut_28 : decode cX12_oftenOut 28 = .ok (.ireturn, 1) := by decide +kernel
set_option maxRecDepth 20000 in
theorem bk_X12_oftenOut_0 {d : Nat} {w : hb_W} {Q : Option hb_V → hb_W → Prop} (h : hb_O yX12_oftenest cX12_oftenest 3 (some .int) d [hb_r 12 0 0] w (fun rv w1 => hb_R yX12_oftenOut cX12_oftenOut 2 (some .int) (d + 1) 4 [some (hb_r 12 0 0), none] (rv.toList ++ []) w1 Q)) : hb_R yX12_oftenOut cX12_oftenOut 2 (some .int) (d + 1) 0 [some (hb_r 12 0 0), none] [] w Q := by
  refine hb_aload_n (pc := 0) (i := 0) dX12_oftenOut_0 rfl rfl ?_
  exact hb_callV (pc := 1) (As := []) (st := []) dX12_oftenOut_1 ml_X12_402 mf_X12_oftenest mi_X12_oftenest (ci := 12) rfl rfl (by decide) rfl rfl (Nat.le_of_ble_eq_true rfl) (Nat.le_of_ble_eq_true rfl) h (fun _ _ q => q)
set_option maxRecDepth 20000 in
theorem bk_X12_oftenOut_4 {d : Nat} {w : hb_W} {Q : Option hb_V → hb_W → Prop} {xs0 : Int32} (h : ((¬ xs0 = (-1 : Int32)) → hb_O yX12_oftenOf cX12_oftenOf 3 (some .int) d [hb_r 12 0 0, hb_i xs0] w (fun rv w1 => hb_R yX12_oftenOut cX12_oftenOut 2 (some .int) (d + 1) 19 [some (hb_r 12 0 0), some (hb_i xs0)] (rv.toList ++ []) w1 Q)) ∧ ((xs0 = (-1 : Int32)) → hb_R yX12_oftenOut cX12_oftenOut 2 (some .int) (d + 1) 28 [some (hb_r 12 0 0), some (hb_i xs0)] [hb_i (0 : Int32)] w Q)) : hb_R yX12_oftenOut cX12_oftenOut 2 (some .int) (d + 1) 4 [some (hb_r 12 0 0), none] [hb_i xs0] w Q := by
  refine hb_istore_n (pc := 4) (i := 1) (ls1 := [some (hb_r 12 0 0), some (hb_i xs0)]) dX12_oftenOut_4 rfl (by decide) rfl ?_
  refine hb_iload_n (pc := 5) (i := 1) dX12_oftenOut_5 rfl rfl ?_
  refine hb_iconst (pc := 6) (v := -1) dX12_oftenOut_6 (by decide) ?_
  refine hb_icmp_ne (pc := 7) (tgt := 14) dX12_oftenOut_7 (by decide) (fun c1 => ?_) (fun c1 => ?_)
  · have ht1 := h.1 c1
    refine hb_aload_n (pc := 14) (i := 0) dX12_oftenOut_14 rfl rfl ?_
    refine hb_iload_n (pc := 15) (i := 1) dX12_oftenOut_15 rfl rfl ?_
    exact hb_callV (pc := 16) (As := [hb_i xs0]) (st := []) dX12_oftenOut_16 ml_X12_405 mf_X12_oftenOf mi_X12_oftenOf (ci := 12) rfl rfl (by decide) rfl rfl (Nat.le_of_ble_eq_true rfl) (Nat.le_of_ble_eq_true rfl) ht1 (fun _ _ q => q)
  · have ht1 := h.2 c1
    refine hb_iconst (pc := 10) (v := 0) dX12_oftenOut_10 (by decide) ?_
    refine hb_goto (pc := 11) (tgt := 28) dX12_oftenOut_11 (by decide) ?_
    exact ht1
set_option maxRecDepth 20000 in
theorem bk_X12_oftenOut_19 {d : Nat} {w : hb_W} {Q : Option hb_V → hb_W → Prop} {x1 : Int32} {xs0 : Int32} (h : vp_in x1 64 ∧ (hb_O yX12_apart cX12_apart 2 (some .int) d [hb_i xs0, hb_i (hb_aI w 12 21 0 x1.toNatClampNeg)] w (fun rv w1 => hb_R yX12_oftenOut cX12_oftenOut 2 (some .int) (d + 1) 28 [some (hb_r 12 0 0), some (hb_i x1)] (rv.toList ++ []) w1 Q))) : hb_R yX12_oftenOut cX12_oftenOut 2 (some .int) (d + 1) 19 [some (hb_r 12 0 0), some (hb_i x1)] [hb_i xs0] w Q := by
  refine hb_aload_n (pc := 19) (i := 0) dX12_oftenOut_19 rfl rfl ?_
  refine hb_getR (pc := 20) (g1 := 0) dX12_oftenOut_20 fw_X12_75 cw_12 rfl (by decide) rfl (by decide) rfl ?_
  refine hb_iload_n (pc := 23) (i := 1) dX12_oftenOut_23 rfl rfl ?_
  obtain ⟨ho1, hr1⟩ := h
  refine hb_ialdx (pc := 24) (x := hb_aI w 12 21 0 x1.toNatClampNeg) dX12_oftenOut_24 rfl (by decide) ho1 rfl ?_
  exact hb_callS (pc := 25) (As := [hb_i xs0, hb_i (hb_aI w 12 21 0 x1.toNatClampNeg)]) (st := []) dX12_oftenOut_25 ml_X12_408 mf_X12_apart ms_X12_apart rfl rfl (Nat.le_of_ble_eq_true rfl) (Nat.le_of_ble_eq_true rfl) hr1 (fun _ _ q => q)
set_option maxRecDepth 20000 in
theorem bk_X12_oftenOut_28 {d : Nat} {w : hb_W} {Q : Option hb_V → hb_W → Prop} {x1 : Int32} {xs0 : Int32} (h : Q (some (hb_i xs0)) w) : hb_R yX12_oftenOut cX12_oftenOut 2 (some .int) (d + 1) 28 [some (hb_r 12 0 0), some (hb_i x1)] [hb_i xs0] w Q := by
  exact hb_iret (pc := 28) dX12_oftenOut_28 rfl h
theorem dX12_outBy_0 : decode cX12_outBy 0 = .ok (.iload_n 1, 1) := by decide +kernel
theorem dX12_outBy_1 : decode cX12_outBy 1 = .ok (.tableswitch 81 0 4 #[35, 47, 59, 64, 69], 35) := by decide +kernel
theorem dX12_outBy_36 : decode cX12_outBy 36 = .ok (.aload_n 0, 1) := by decide +kernel
theorem dX12_outBy_37 : decode cX12_outBy 37 = .ok (.invokevirtual 411, 3) := by decide +kernel
theorem dX12_outBy_40 : decode cX12_outBy 40 = .ok (.aload_n 0, 1) := by decide +kernel
theorem dX12_outBy_41 : decode cX12_outBy 41 = .ok (.invokevirtual 414, 3) := by decide +kernel
theorem dX12_outBy_44 : decode cX12_outBy 44 = .ok (.invokestatic 408, 3) := by decide +kernel
theorem dX12_outBy_47 : decode cX12_outBy 47 = .ok (.ireturn, 1) := by decide +kernel
theorem dX12_outBy_48 : decode cX12_outBy 48 = .ok (.aload_n 0, 1) := by decide +kernel
theorem dX12_outBy_49 : decode cX12_outBy 49 = .ok (.invokevirtual 417, 3) := by decide +kernel
theorem dX12_outBy_52 : decode cX12_outBy 52 = .ok (.aload_n 0, 1) := by decide +kernel
theorem dX12_outBy_53 : decode cX12_outBy 53 = .ok (.invokevirtual 414, 3) := by decide +kernel
theorem dX12_outBy_56 : decode cX12_outBy 56 = .ok (.invokestatic 408, 3) := by decide +kernel
theorem dX12_outBy_59 : decode cX12_outBy 59 = .ok (.ireturn, 1) := by decide +kernel
theorem dX12_outBy_60 : decode cX12_outBy 60 = .ok (.aload_n 0, 1) := by decide +kernel
theorem dX12_outBy_61 : decode cX12_outBy 61 = .ok (.invokevirtual 420, 3) := by decide +kernel
theorem dX12_outBy_64 : decode cX12_outBy 64 = .ok (.ireturn, 1) := by decide +kernel
theorem dX12_outBy_65 : decode cX12_outBy 65 = .ok (.aload_n 0, 1) := by decide +kernel
theorem dX12_outBy_66 : decode cX12_outBy 66 = .ok (.invokevirtual 423, 3) := by decide +kernel
theorem dX12_outBy_69 : decode cX12_outBy 69 = .ok (.ireturn, 1) := by decide +kernel
theorem dX12_outBy_70 : decode cX12_outBy 70 = .ok (.aload_n 0, 1) := by decide +kernel
theorem dX12_outBy_71 : decode cX12_outBy 71 = .ok (.invokevirtual 426, 3) := by decide +kernel
theorem dX12_outBy_74 : decode cX12_outBy 74 = .ok (.aload_n 0, 1) := by decide +kernel
theorem dX12_outBy_75 : decode cX12_outBy 75 = .ok (.invokevirtual 429, 3) := by decide +kernel
theorem dX12_outBy_78 : decode cX12_outBy 78 = .ok (.invokestatic 408, 3) := by decide +kernel
theorem dX12_outBy_81 : decode cX12_outBy 81 = .ok (.ireturn, 1) := by decide +kernel
theorem dX12_outBy_82 : decode cX12_outBy 82 = .ok (.aload_n 0, 1) := by decide +kernel
theorem dX12_outBy_83 : decode cX12_outBy 83 = .ok (.invokevirtual 432, 3) := by decide +kernel
theorem dX12_outBy_86 : decode cX12_outBy 86 = .ok (.ireturn, 1) := by decide +kernel
set_option maxRecDepth 20000 in
theorem bk_X12_outBy_0 {d : Nat} {w : hb_W} {Q : Option hb_V → hb_W → Prop} {x1 : Int32} (h : (x1 = (0 : Int32) → hb_O yX12_unlikeSaid cX12_unlikeSaid 2 (some .int) d [hb_r 12 0 0] w (fun rv w1 => hb_R yX12_outBy cX12_outBy 2 (some .int) (d + 1) 40 [some (hb_r 12 0 0), some (hb_i x1)] (rv.toList ++ []) w1 Q)) ∧ (x1 = (1 : Int32) → hb_O yX12_runsSaid cX12_runsSaid 1 (some .int) d [hb_r 12 0 0] w (fun rv w1 => hb_R yX12_outBy cX12_outBy 2 (some .int) (d + 1) 52 [some (hb_r 12 0 0), some (hb_i x1)] (rv.toList ++ []) w1 Q)) ∧ (x1 = (2 : Int32) → hb_O yX12_overtold cX12_overtold 4 (some .int) d [hb_r 12 0 0] w (fun rv w1 => hb_R yX12_outBy cX12_outBy 2 (some .int) (d + 1) 64 [some (hb_r 12 0 0), some (hb_i x1)] (rv.toList ++ []) w1 Q)) ∧ (x1 = (3 : Int32) → hb_O yX12_wrongly cX12_wrongly 3 (some .int) d [hb_r 12 0 0] w (fun rv w1 => hb_R yX12_outBy cX12_outBy 2 (some .int) (d + 1) 69 [some (hb_r 12 0 0), some (hb_i x1)] (rv.toList ++ []) w1 Q)) ∧ (x1 = (4 : Int32) → hb_O yX12_middleSaid cX12_middleSaid 3 (some .int) d [hb_r 12 0 0] w (fun rv w1 => hb_R yX12_outBy cX12_outBy 2 (some .int) (d + 1) 74 [some (hb_r 12 0 0), some (hb_i x1)] (rv.toList ++ []) w1 Q)) ∧ (¬ x1 = (0 : Int32) → ¬ x1 = (1 : Int32) → ¬ x1 = (2 : Int32) → ¬ x1 = (3 : Int32) → ¬ x1 = (4 : Int32) → hb_O yX12_oftenOut cX12_oftenOut 2 (some .int) d [hb_r 12 0 0] w (fun rv w1 => hb_R yX12_outBy cX12_outBy 2 (some .int) (d + 1) 86 [some (hb_r 12 0 0), some (hb_i x1)] (rv.toList ++ []) w1 Q))) : hb_R yX12_outBy cX12_outBy 2 (some .int) (d + 1) 0 [some (hb_r 12 0 0), some (hb_i x1)] [] w Q := by
  refine hb_iload_n (pc := 0) (i := 1) dX12_outBy_0 rfl rfl ?_
  by_cases e1_0 : x1 = (0 : Int32)
  · have hk1_0 := h.1 e1_0
    have ei : x1.toInt = 0 := by rw [e1_0]; rfl
    refine hb_tabIn (pc := 1) (tgt := 36) (off := 35) dX12_outBy_1 (by rw [ei]; decide) (by rw [ei]; decide) (by rw [ei]; rfl) (by decide) ?_
    refine hb_aload_n (pc := 36) (i := 0) dX12_outBy_36 rfl rfl ?_
    exact hb_callV (pc := 37) (As := []) (st := []) dX12_outBy_37 ml_X12_411 mf_X12_unlikeSaid mi_X12_unlikeSaid (ci := 12) rfl rfl (by decide) rfl rfl (Nat.le_of_ble_eq_true rfl) (Nat.le_of_ble_eq_true rfl) hk1_0 (fun _ _ q => q)
  by_cases e1_1 : x1 = (1 : Int32)
  · have hk1_1 := h.2.1 e1_1
    have ei : x1.toInt = 1 := by rw [e1_1]; rfl
    refine hb_tabIn (pc := 1) (tgt := 48) (off := 47) dX12_outBy_1 (by rw [ei]; decide) (by rw [ei]; decide) (by rw [ei]; rfl) (by decide) ?_
    refine hb_aload_n (pc := 48) (i := 0) dX12_outBy_48 rfl rfl ?_
    exact hb_callV (pc := 49) (As := []) (st := []) dX12_outBy_49 ml_X12_417 mf_X12_runsSaid mi_X12_runsSaid (ci := 12) rfl rfl (by decide) rfl rfl (Nat.le_of_ble_eq_true rfl) (Nat.le_of_ble_eq_true rfl) hk1_1 (fun _ _ q => q)
  by_cases e1_2 : x1 = (2 : Int32)
  · have hk1_2 := h.2.2.1 e1_2
    have ei : x1.toInt = 2 := by rw [e1_2]; rfl
    refine hb_tabIn (pc := 1) (tgt := 60) (off := 59) dX12_outBy_1 (by rw [ei]; decide) (by rw [ei]; decide) (by rw [ei]; rfl) (by decide) ?_
    refine hb_aload_n (pc := 60) (i := 0) dX12_outBy_60 rfl rfl ?_
    exact hb_callV (pc := 61) (As := []) (st := []) dX12_outBy_61 ml_X12_420 mf_X12_overtold mi_X12_overtold (ci := 12) rfl rfl (by decide) rfl rfl (Nat.le_of_ble_eq_true rfl) (Nat.le_of_ble_eq_true rfl) hk1_2 (fun _ _ q => q)
  by_cases e1_3 : x1 = (3 : Int32)
  · have hk1_3 := h.2.2.2.1 e1_3
    have ei : x1.toInt = 3 := by rw [e1_3]; rfl
    refine hb_tabIn (pc := 1) (tgt := 65) (off := 64) dX12_outBy_1 (by rw [ei]; decide) (by rw [ei]; decide) (by rw [ei]; rfl) (by decide) ?_
    refine hb_aload_n (pc := 65) (i := 0) dX12_outBy_65 rfl rfl ?_
    exact hb_callV (pc := 66) (As := []) (st := []) dX12_outBy_66 ml_X12_423 mf_X12_wrongly mi_X12_wrongly (ci := 12) rfl rfl (by decide) rfl rfl (Nat.le_of_ble_eq_true rfl) (Nat.le_of_ble_eq_true rfl) hk1_3 (fun _ _ q => q)
  by_cases e1_4 : x1 = (4 : Int32)
  · have hk1_4 := h.2.2.2.2.1 e1_4
    have ei : x1.toInt = 4 := by rw [e1_4]; rfl
    refine hb_tabIn (pc := 1) (tgt := 70) (off := 69) dX12_outBy_1 (by rw [ei]; decide) (by rw [ei]; decide) (by rw [ei]; rfl) (by decide) ?_
    refine hb_aload_n (pc := 70) (i := 0) dX12_outBy_70 rfl rfl ?_
    exact hb_callV (pc := 71) (As := []) (st := []) dX12_outBy_71 ml_X12_426 mf_X12_middleSaid mi_X12_middleSaid (ci := 12) rfl rfl (by decide) rfl rfl (Nat.le_of_ble_eq_true rfl) (Nat.le_of_ble_eq_true rfl) hk1_4 (fun _ _ q => q)
  have hk1_d := h.2.2.2.2.2 e1_0 e1_1 e1_2 e1_3 e1_4
  have n1_0 := lv_neT (a := 0) e1_0 rfl
  have n1_1 := lv_neT (a := 1) e1_1 rfl
  have n1_2 := lv_neT (a := 2) e1_2 rfl
  have n1_3 := lv_neT (a := 3) e1_3 rfl
  have n1_4 := lv_neT (a := 4) e1_4 rfl
  refine hb_tabOut (pc := 1) (tgt := 82) dX12_outBy_1 (by omega) (by decide) ?_
  refine hb_aload_n (pc := 82) (i := 0) dX12_outBy_82 rfl rfl ?_
  exact hb_callV (pc := 83) (As := []) (st := []) dX12_outBy_83 ml_X12_432 mf_X12_oftenOut mi_X12_oftenOut (ci := 12) rfl rfl (by decide) rfl rfl (Nat.le_of_ble_eq_true rfl) (Nat.le_of_ble_eq_true rfl) hk1_d (fun _ _ q => q)
set_option maxRecDepth 20000 in
theorem bk_X12_outBy_40 {d : Nat} {w : hb_W} {Q : Option hb_V → hb_W → Prop} {x1 : Int32} {xs0 : Int32} (h : hb_O yX12_unlikeMany cX12_unlikeMany 3 (some .int) d [hb_r 12 0 0] w (fun rv w1 => hb_R yX12_outBy cX12_outBy 2 (some .int) (d + 1) 44 [some (hb_r 12 0 0), some (hb_i x1)] (rv.toList ++ [hb_i xs0]) w1 Q)) : hb_R yX12_outBy cX12_outBy 2 (some .int) (d + 1) 40 [some (hb_r 12 0 0), some (hb_i x1)] [hb_i xs0] w Q := by
  refine hb_aload_n (pc := 40) (i := 0) dX12_outBy_40 rfl rfl ?_
  exact hb_callV (pc := 41) (As := []) (st := [hb_i xs0]) dX12_outBy_41 ml_X12_414 mf_X12_unlikeMany mi_X12_unlikeMany (ci := 12) rfl rfl (by decide) rfl rfl (Nat.le_of_ble_eq_true rfl) (Nat.le_of_ble_eq_true rfl) h (fun _ _ q => q)
set_option maxRecDepth 20000 in
theorem bk_X12_outBy_44 {d : Nat} {w : hb_W} {Q : Option hb_V → hb_W → Prop} {x1 : Int32} {xs0 : Int32} {xs1 : Int32} (h : hb_O yX12_apart cX12_apart 2 (some .int) d [hb_i xs0, hb_i xs1] w (fun rv w1 => hb_R yX12_outBy cX12_outBy 2 (some .int) (d + 1) 47 [some (hb_r 12 0 0), some (hb_i x1)] (rv.toList ++ []) w1 Q)) : hb_R yX12_outBy cX12_outBy 2 (some .int) (d + 1) 44 [some (hb_r 12 0 0), some (hb_i x1)] [hb_i xs1, hb_i xs0] w Q := by
  exact hb_callS (pc := 44) (As := [hb_i xs0, hb_i xs1]) (st := []) dX12_outBy_44 ml_X12_408 mf_X12_apart ms_X12_apart rfl rfl (Nat.le_of_ble_eq_true rfl) (Nat.le_of_ble_eq_true rfl) h (fun _ _ q => q)
set_option maxRecDepth 20000 in
theorem bk_X12_outBy_47 {d : Nat} {w : hb_W} {Q : Option hb_V → hb_W → Prop} {x1 : Int32} {xs0 : Int32} (h : Q (some (hb_i xs0)) w) : hb_R yX12_outBy cX12_outBy 2 (some .int) (d + 1) 47 [some (hb_r 12 0 0), some (hb_i x1)] [hb_i xs0] w Q := by
  exact hb_iret (pc := 47) dX12_outBy_47 rfl h
set_option maxRecDepth 20000 in
theorem bk_X12_outBy_52 {d : Nat} {w : hb_W} {Q : Option hb_V → hb_W → Prop} {x1 : Int32} {xs0 : Int32} (h : hb_O yX12_unlikeMany cX12_unlikeMany 3 (some .int) d [hb_r 12 0 0] w (fun rv w1 => hb_R yX12_outBy cX12_outBy 2 (some .int) (d + 1) 56 [some (hb_r 12 0 0), some (hb_i x1)] (rv.toList ++ [hb_i xs0]) w1 Q)) : hb_R yX12_outBy cX12_outBy 2 (some .int) (d + 1) 52 [some (hb_r 12 0 0), some (hb_i x1)] [hb_i xs0] w Q := by
  refine hb_aload_n (pc := 52) (i := 0) dX12_outBy_52 rfl rfl ?_
  exact hb_callV (pc := 53) (As := []) (st := [hb_i xs0]) dX12_outBy_53 ml_X12_414 mf_X12_unlikeMany mi_X12_unlikeMany (ci := 12) rfl rfl (by decide) rfl rfl (Nat.le_of_ble_eq_true rfl) (Nat.le_of_ble_eq_true rfl) h (fun _ _ q => q)
set_option maxRecDepth 20000 in
theorem bk_X12_outBy_56 {d : Nat} {w : hb_W} {Q : Option hb_V → hb_W → Prop} {x1 : Int32} {xs0 : Int32} {xs1 : Int32} (h : hb_O yX12_apart cX12_apart 2 (some .int) d [hb_i xs0, hb_i xs1] w (fun rv w1 => hb_R yX12_outBy cX12_outBy 2 (some .int) (d + 1) 59 [some (hb_r 12 0 0), some (hb_i x1)] (rv.toList ++ []) w1 Q)) : hb_R yX12_outBy cX12_outBy 2 (some .int) (d + 1) 56 [some (hb_r 12 0 0), some (hb_i x1)] [hb_i xs1, hb_i xs0] w Q := by
  exact hb_callS (pc := 56) (As := [hb_i xs0, hb_i xs1]) (st := []) dX12_outBy_56 ml_X12_408 mf_X12_apart ms_X12_apart rfl rfl (Nat.le_of_ble_eq_true rfl) (Nat.le_of_ble_eq_true rfl) h (fun _ _ q => q)
set_option maxRecDepth 20000 in
theorem bk_X12_outBy_59 {d : Nat} {w : hb_W} {Q : Option hb_V → hb_W → Prop} {x1 : Int32} {xs0 : Int32} (h : Q (some (hb_i xs0)) w) : hb_R yX12_outBy cX12_outBy 2 (some .int) (d + 1) 59 [some (hb_r 12 0 0), some (hb_i x1)] [hb_i xs0] w Q := by
  exact hb_iret (pc := 59) dX12_outBy_59 rfl h
set_option maxRecDepth 20000 in
theorem bk_X12_outBy_64 {d : Nat} {w : hb_W} {Q : Option hb_V → hb_W → Prop} {x1 : Int32} {xs0 : Int32} (h : Q (some (hb_i xs0)) w) : hb_R yX12_outBy cX12_outBy 2 (some .int) (d + 1) 64 [some (hb_r 12 0 0), some (hb_i x1)] [hb_i xs0] w Q := by
  exact hb_iret (pc := 64) dX12_outBy_64 rfl h
set_option maxRecDepth 20000 in
theorem bk_X12_outBy_69 {d : Nat} {w : hb_W} {Q : Option hb_V → hb_W → Prop} {x1 : Int32} {xs0 : Int32} (h : Q (some (hb_i xs0)) w) : hb_R yX12_outBy cX12_outBy 2 (some .int) (d + 1) 69 [some (hb_r 12 0 0), some (hb_i x1)] [hb_i xs0] w Q := by
  exact hb_iret (pc := 69) dX12_outBy_69 rfl h
set_option maxRecDepth 20000 in
theorem bk_X12_outBy_74 {d : Nat} {w : hb_W} {Q : Option hb_V → hb_W → Prop} {x1 : Int32} {xs0 : Int32} (h : hb_O yX12_middleGift cX12_middleGift 3 (some .int) d [hb_r 12 0 0] w (fun rv w1 => hb_R yX12_outBy cX12_outBy 2 (some .int) (d + 1) 78 [some (hb_r 12 0 0), some (hb_i x1)] (rv.toList ++ [hb_i xs0]) w1 Q)) : hb_R yX12_outBy cX12_outBy 2 (some .int) (d + 1) 74 [some (hb_r 12 0 0), some (hb_i x1)] [hb_i xs0] w Q := by
  refine hb_aload_n (pc := 74) (i := 0) dX12_outBy_74 rfl rfl ?_
  exact hb_callV (pc := 75) (As := []) (st := [hb_i xs0]) dX12_outBy_75 ml_X12_429 mf_X12_middleGift mi_X12_middleGift (ci := 12) rfl rfl (by decide) rfl rfl (Nat.le_of_ble_eq_true rfl) (Nat.le_of_ble_eq_true rfl) h (fun _ _ q => q)
set_option maxRecDepth 20000 in
theorem bk_X12_outBy_78 {d : Nat} {w : hb_W} {Q : Option hb_V → hb_W → Prop} {x1 : Int32} {xs0 : Int32} {xs1 : Int32} (h : hb_O yX12_apart cX12_apart 2 (some .int) d [hb_i xs0, hb_i xs1] w (fun rv w1 => hb_R yX12_outBy cX12_outBy 2 (some .int) (d + 1) 81 [some (hb_r 12 0 0), some (hb_i x1)] (rv.toList ++ []) w1 Q)) : hb_R yX12_outBy cX12_outBy 2 (some .int) (d + 1) 78 [some (hb_r 12 0 0), some (hb_i x1)] [hb_i xs1, hb_i xs0] w Q := by
  exact hb_callS (pc := 78) (As := [hb_i xs0, hb_i xs1]) (st := []) dX12_outBy_78 ml_X12_408 mf_X12_apart ms_X12_apart rfl rfl (Nat.le_of_ble_eq_true rfl) (Nat.le_of_ble_eq_true rfl) h (fun _ _ q => q)
set_option maxRecDepth 20000 in
theorem bk_X12_outBy_81 {d : Nat} {w : hb_W} {Q : Option hb_V → hb_W → Prop} {x1 : Int32} {xs0 : Int32} (h : Q (some (hb_i xs0)) w) : hb_R yX12_outBy cX12_outBy 2 (some .int) (d + 1) 81 [some (hb_r 12 0 0), some (hb_i x1)] [hb_i xs0] w Q := by
  exact hb_iret (pc := 81) dX12_outBy_81 rfl h
set_option maxRecDepth 20000 in
theorem bk_X12_outBy_86 {d : Nat} {w : hb_W} {Q : Option hb_V → hb_W → Prop} {x1 : Int32} {xs0 : Int32} (h : Q (some (hb_i xs0)) w) : hb_R yX12_outBy cX12_outBy 2 (some .int) (d + 1) 86 [some (hb_r 12 0 0), some (hb_i x1)] [hb_i xs0] w Q := by
  exact hb_iret (pc := 86) dX12_outBy_86 rfl h
theorem dX12_wouldPass_0 : decode cX12_wouldPass 0 = .ok (.iconst 0, 1) := by decide +kernel
theorem dX12_wouldPass_1 : decode cX12_wouldPass 1 = .ok (.istore_n 1, 1) := by decide +kernel
theorem dX12_wouldPass_2 : decode cX12_wouldPass 2 = .ok (.iconst 0, 1) := by decide +kernel
theorem dX12_wouldPass_3 : decode cX12_wouldPass 3 = .ok (.istore_n 2, 1) := by decide +kernel
theorem dX12_wouldPass_4 : decode cX12_wouldPass 4 = .ok (.iload_n 2, 1) := by decide +kernel
theorem dX12_wouldPass_5 : decode cX12_wouldPass 5 = .ok (.aload_n 0, 1) := by decide +kernel
theorem dX12_wouldPass_6 : decode cX12_wouldPass 6 = .ok (.getfield 306, 3) := by decide +kernel
theorem dX12_wouldPass_9 : decode cX12_wouldPass 9 = .ok (.if_icmp .ge 23, 3) := by decide +kernel
theorem dX12_wouldPass_12 : decode cX12_wouldPass 12 = .ok (.iload_n 1, 1) := by decide +kernel
theorem dX12_wouldPass_13 : decode cX12_wouldPass 13 = .ok (.aload_n 0, 1) := by decide +kernel
theorem dX12_wouldPass_14 : decode cX12_wouldPass 14 = .ok (.getfield 54, 3) := by decide +kernel
theorem dX12_wouldPass_17 : decode cX12_wouldPass 17 = .ok (.bipush 80, 2) := by decide +kernel
theorem dX12_wouldPass_19 : decode cX12_wouldPass 19 = .ok (.iconst 4, 1) := by decide +kernel
theorem dX12_wouldPass_20 : decode cX12_wouldPass 20 = .ok (.iload_n 2, 1) := by decide +kernel
theorem dX12_wouldPass_21 : decode cX12_wouldPass 21 = .ok (.imul, 1) := by decide +kernel
theorem dX12_wouldPass_22 : decode cX12_wouldPass 22 = .ok (.iadd, 1) := by decide +kernel
theorem dX12_wouldPass_23 : decode cX12_wouldPass 23 = .ok (.iaload, 1) := by decide +kernel
theorem dX12_wouldPass_24 : decode cX12_wouldPass 24 = .ok (.iadd, 1) := by decide +kernel
theorem dX12_wouldPass_25 : decode cX12_wouldPass 25 = .ok (.istore_n 1, 1) := by decide +kernel
theorem dX12_wouldPass_26 : decode cX12_wouldPass 26 = .ok (.iinc 2 1, 3) := by decide +kernel
theorem dX12_wouldPass_29 : decode cX12_wouldPass 29 = .ok (.goto (-25), 3) := by decide +kernel
theorem dX12_wouldPass_32 : decode cX12_wouldPass 32 = .ok (.iload_n 1, 1) := by decide +kernel
theorem dX12_wouldPass_33 : decode cX12_wouldPass 33 = .ok (.ireturn, 1) := by decide +kernel
set_option maxRecDepth 20000 in
theorem bk_X12_wouldPass_0 {d : Nat} {w : hb_W} {Q : Option hb_V → hb_W → Prop} (h : hb_R yX12_wouldPass cX12_wouldPass 3 (some .int) d 4 [some (hb_r 12 0 0), some (hb_i (0 : Int32)), some (hb_i (0 : Int32))] [] w Q) : hb_R yX12_wouldPass cX12_wouldPass 3 (some .int) d 0 [some (hb_r 12 0 0), none, none] [] w Q := by
  refine hb_iconst (pc := 0) (v := 0) dX12_wouldPass_0 (by decide) ?_
  refine hb_istore_n (pc := 1) (i := 1) (ls1 := [some (hb_r 12 0 0), some (hb_i (0 : Int32)), none]) dX12_wouldPass_1 rfl (by decide) rfl ?_
  refine hb_iconst (pc := 2) (v := 0) dX12_wouldPass_2 (by decide) ?_
  refine hb_istore_n (pc := 3) (i := 2) (ls1 := [some (hb_r 12 0 0), some (hb_i (0 : Int32)), some (hb_i (0 : Int32))]) dX12_wouldPass_3 rfl (by decide) rfl ?_
  exact h
set_option maxRecDepth 20000 in
theorem bk_X12_wouldPass_4 {d : Nat} {w : hb_W} {Q : Option hb_V → hb_W → Prop} {x1 : Int32} {x2 : Int32} (h : (((hb_fI w 12 23 0) ≤ x2) → Q (some (hb_i x1)) w) ∧ ((¬ (hb_fI w 12 23 0) ≤ x2) → vp_in ((80 : Int32) + ((4 : Int32) * x2)) 160 ∧ (hb_R yX12_wouldPass cX12_wouldPass 3 (some .int) d 4 [some (hb_r 12 0 0), some (hb_i (x1 + (hb_aI w 12 14 0 ((80 : Int32) + ((4 : Int32) * x2)).toNatClampNeg))), some (hb_i (x2 + (1 : Int32)))] [] w Q))) : hb_R yX12_wouldPass cX12_wouldPass 3 (some .int) d 4 [some (hb_r 12 0 0), some (hb_i x1), some (hb_i x2)] [] w Q := by
  refine hb_iload_n (pc := 4) (i := 2) dX12_wouldPass_4 rfl rfl ?_
  refine hb_aload_n (pc := 5) (i := 0) dX12_wouldPass_5 rfl rfl ?_
  refine hb_getIx (pc := 6) (x := hb_fI w 12 23 0) dX12_wouldPass_6 fw_X12_306 cw_12 rfl (by decide) rfl rfl ?_
  refine hb_icmp_ge (pc := 9) (tgt := 32) dX12_wouldPass_9 (by decide) (fun c1 => ?_) (fun c1 => ?_)
  · have ht1 := h.1 c1
    refine hb_iload_n (pc := 32) (i := 1) dX12_wouldPass_32 rfl rfl ?_
    exact hb_iret (pc := 33) dX12_wouldPass_33 rfl ht1
  · have ht1 := h.2 c1
    refine hb_iload_n (pc := 12) (i := 1) dX12_wouldPass_12 rfl rfl ?_
    refine hb_aload_n (pc := 13) (i := 0) dX12_wouldPass_13 rfl rfl ?_
    refine hb_getR (pc := 14) (g1 := 0) dX12_wouldPass_14 fw_X12_54 cw_12 rfl (by decide) rfl (by decide) rfl ?_
    refine hb_bipush (pc := 17) (v := 80) dX12_wouldPass_17 (by decide) ?_
    refine hb_iconst (pc := 19) (v := 4) dX12_wouldPass_19 (by decide) ?_
    refine hb_iload_n (pc := 20) (i := 2) dX12_wouldPass_20 rfl rfl ?_
    refine hb_imul (pc := 21) dX12_wouldPass_21 ?_
    refine hb_iadd (pc := 22) dX12_wouldPass_22 ?_
    obtain ⟨ho2, hr2⟩ := ht1
    refine hb_ialdx (pc := 23) (x := hb_aI w 12 14 0 ((80 : Int32) + ((4 : Int32) * x2)).toNatClampNeg) dX12_wouldPass_23 rfl (by decide) ho2 rfl ?_
    refine hb_iadd (pc := 24) dX12_wouldPass_24 ?_
    refine hb_istore_n (pc := 25) (i := 1) (ls1 := [some (hb_r 12 0 0), some (hb_i (x1 + (hb_aI w 12 14 0 ((80 : Int32) + ((4 : Int32) * x2)).toNatClampNeg))), some (hb_i x2)]) dX12_wouldPass_25 rfl (by decide) rfl ?_
    refine hb_iinc (pc := 26) (v := x2 + (1 : Int32)) (ls1 := [some (hb_r 12 0 0), some (hb_i (x1 + (hb_aI w 12 14 0 ((80 : Int32) + ((4 : Int32) * x2)).toNatClampNeg))), some (hb_i (x2 + (1 : Int32)))]) dX12_wouldPass_26 rfl rfl (by decide) rfl ?_
    refine hb_goto (pc := 29) (tgt := 4) dX12_wouldPass_29 (by decide) ?_
    exact hr2
theorem dX12_hoodMany_0 : decode cX12_hoodMany 0 = .ok (.iconst 0, 1) := by decide +kernel
theorem dX12_hoodMany_1 : decode cX12_hoodMany 1 = .ok (.istore_n 1, 1) := by decide +kernel
theorem dX12_hoodMany_2 : decode cX12_hoodMany 2 = .ok (.iload_n 1, 1) := by decide +kernel
theorem dX12_hoodMany_3 : decode cX12_hoodMany 3 = .ok (.bipush 64, 2) := by decide +kernel
theorem dX12_hoodMany_5 : decode cX12_hoodMany 5 = .ok (.if_icmp .ge 16, 3) := by decide +kernel
theorem dX12_hoodMany_8 : decode cX12_hoodMany 8 = .ok (.aload_n 0, 1) := by decide +kernel
theorem dX12_hoodMany_9 : decode cX12_hoodMany 9 = .ok (.getfield 75, 3) := by decide +kernel
theorem dX12_hoodMany_12 : decode cX12_hoodMany 12 = .ok (.iload_n 1, 1) := by decide +kernel
theorem dX12_hoodMany_13 : decode cX12_hoodMany 13 = .ok (.iconst 0, 1) := by decide +kernel
theorem dX12_hoodMany_14 : decode cX12_hoodMany 14 = .ok (.iastore, 1) := by decide +kernel
theorem dX12_hoodMany_15 : decode cX12_hoodMany 15 = .ok (.iinc 1 1, 3) := by decide +kernel
theorem dX12_hoodMany_18 : decode cX12_hoodMany 18 = .ok (.goto (-16), 3) := by decide +kernel
theorem dX12_hoodMany_21 : decode cX12_hoodMany 21 = .ok (.iconst 0, 1) := by decide +kernel
theorem dX12_hoodMany_22 : decode cX12_hoodMany 22 = .ok (.istore_n 1, 1) := by decide +kernel
theorem dX12_hoodMany_23 : decode cX12_hoodMany 23 = .ok (.iload_n 1, 1) := by decide +kernel
theorem dX12_hoodMany_24 : decode cX12_hoodMany 24 = .ok (.aload_n 0, 1) := by decide +kernel
theorem dX12_hoodMany_25 : decode cX12_hoodMany 25 = .ok (.getfield 66, 3) := by decide +kernel
theorem dX12_hoodMany_28 : decode cX12_hoodMany 28 = .ok (.iconst 1, 1) := by decide +kernel
theorem dX12_hoodMany_29 : decode cX12_hoodMany 29 = .ok (.iaload, 1) := by decide +kernel
theorem dX12_hoodMany_30 : decode cX12_hoodMany 30 = .ok (.if_icmp .ge 23, 3) := by decide +kernel
theorem dX12_hoodMany_33 : decode cX12_hoodMany 33 = .ok (.aload_n 0, 1) := by decide +kernel
theorem dX12_hoodMany_34 : decode cX12_hoodMany 34 = .ok (.getfield 75, 3) := by decide +kernel
theorem dX12_hoodMany_37 : decode cX12_hoodMany 37 = .ok (.aload_n 0, 1) := by decide +kernel
theorem dX12_hoodMany_38 : decode cX12_hoodMany 38 = .ok (.iload_n 1, 1) := by decide +kernel
theorem dX12_hoodMany_39 : decode cX12_hoodMany 39 = .ok (.invokevirtual 384, 3) := by decide +kernel
theorem dX12_hoodMany_42 : decode cX12_hoodMany 42 = .ok (.dup2, 1) := by decide +kernel
theorem dX12_hoodMany_43 : decode cX12_hoodMany 43 = .ok (.iaload, 1) := by decide +kernel
theorem dX12_hoodMany_44 : decode cX12_hoodMany 44 = .ok (.iconst 1, 1) := by decide +kernel
theorem dX12_hoodMany_45 : decode cX12_hoodMany 45 = .ok (.iadd, 1) := by decide +kernel
theorem dX12_hoodMany_46 : decode cX12_hoodMany 46 = .ok (.iastore, 1) := by decide +kernel
theorem dX12_hoodMany_47 : decode cX12_hoodMany 47 = .ok (.iinc 1 1, 3) := by decide +kernel
theorem dX12_hoodMany_50 : decode cX12_hoodMany 50 = .ok (.goto (-27), 3) := by decide +kernel
theorem dX12_hoodMany_53 : decode cX12_hoodMany 53 = .ok (.aload_n 0, 1) := by decide +kernel
theorem dX12_hoodMany_54 : decode cX12_hoodMany 54 = .ok (.invokevirtual 414, 3) := by decide +kernel
theorem dX12_hoodMany_57 : decode cX12_hoodMany 57 = .ok (.ireturn, 1) := by decide +kernel
set_option maxRecDepth 20000 in
theorem bk_X12_hoodMany_0 {d : Nat} {w : hb_W} {Q : Option hb_V → hb_W → Prop} (h : hb_R yX12_hoodMany cX12_hoodMany 2 (some .int) (d + 1) 2 [some (hb_r 12 0 0), some (hb_i (0 : Int32))] [] w Q) : hb_R yX12_hoodMany cX12_hoodMany 2 (some .int) (d + 1) 0 [some (hb_r 12 0 0), none] [] w Q := by
  refine hb_iconst (pc := 0) (v := 0) dX12_hoodMany_0 (by decide) ?_
  refine hb_istore_n (pc := 1) (i := 1) (ls1 := [some (hb_r 12 0 0), some (hb_i (0 : Int32))]) dX12_hoodMany_1 rfl (by decide) rfl ?_
  exact h
set_option maxRecDepth 20000 in
theorem bk_X12_hoodMany_2 {d : Nat} {w : hb_W} {Q : Option hb_V → hb_W → Prop} {x1 : Int32} (h : (((64 : Int32) ≤ x1) → hb_R yX12_hoodMany cX12_hoodMany 2 (some .int) (d + 1) 23 [some (hb_r 12 0 0), some (hb_i (0 : Int32))] [] w Q) ∧ ((¬ (64 : Int32) ≤ x1) → vp_in x1 64 ∧ (hb_R yX12_hoodMany cX12_hoodMany 2 (some .int) (d + 1) 2 [some (hb_r 12 0 0), some (hb_i (x1 + (1 : Int32)))] [] (hb_sI w 12 21 0 (upd (hb_aI w 12 21 0) x1.toNatClampNeg (0 : Int32))) Q))) : hb_R yX12_hoodMany cX12_hoodMany 2 (some .int) (d + 1) 2 [some (hb_r 12 0 0), some (hb_i x1)] [] w Q := by
  refine hb_iload_n (pc := 2) (i := 1) dX12_hoodMany_2 rfl rfl ?_
  refine hb_bipush (pc := 3) (v := 64) dX12_hoodMany_3 (by decide) ?_
  refine hb_icmp_ge (pc := 5) (tgt := 21) dX12_hoodMany_5 (by decide) (fun c1 => ?_) (fun c1 => ?_)
  · have ht1 := h.1 c1
    refine hb_iconst (pc := 21) (v := 0) dX12_hoodMany_21 (by decide) ?_
    refine hb_istore_n (pc := 22) (i := 1) (ls1 := [some (hb_r 12 0 0), some (hb_i (0 : Int32))]) dX12_hoodMany_22 rfl (by decide) rfl ?_
    exact ht1
  · have ht1 := h.2 c1
    refine hb_aload_n (pc := 8) (i := 0) dX12_hoodMany_8 rfl rfl ?_
    refine hb_getR (pc := 9) (g1 := 0) dX12_hoodMany_9 fw_X12_75 cw_12 rfl (by decide) rfl (by decide) rfl ?_
    refine hb_iload_n (pc := 12) (i := 1) dX12_hoodMany_12 rfl rfl ?_
    refine hb_iconst (pc := 13) (v := 0) dX12_hoodMany_13 (by decide) ?_
    obtain ⟨ho2, hr2⟩ := ht1
    refine hb_iastx (pc := 14) (f := upd (hb_aI w 12 21 0) x1.toNatClampNeg (0 : Int32)) dX12_hoodMany_14 rfl (by decide) ho2 rfl ?_
    refine hb_iinc (pc := 15) (v := x1 + (1 : Int32)) (ls1 := [some (hb_r 12 0 0), some (hb_i (x1 + (1 : Int32)))]) dX12_hoodMany_15 rfl rfl (by decide) rfl ?_
    refine hb_goto (pc := 18) (tgt := 2) dX12_hoodMany_18 (by decide) ?_
    exact hr2
set_option maxRecDepth 20000 in
theorem bk_X12_hoodMany_23 {d : Nat} {w : hb_W} {Q : Option hb_V → hb_W → Prop} {x1 : Int32} (h : (((hb_aI w 12 18 0 (1 : Int32).toNatClampNeg) ≤ x1) → hb_O yX12_unlikeMany cX12_unlikeMany 3 (some .int) d [hb_r 12 0 0] w (fun rv w1 => hb_R yX12_hoodMany cX12_hoodMany 2 (some .int) (d + 1) 57 [some (hb_r 12 0 0), some (hb_i x1)] (rv.toList ++ []) w1 Q)) ∧ ((¬ (hb_aI w 12 18 0 (1 : Int32).toNatClampNeg) ≤ x1) → hb_O yX12_hoodOf cX12_hoodOf 2 (some .int) d [hb_r 12 0 0, hb_i x1] w (fun rv w1 => hb_R yX12_hoodMany cX12_hoodMany 2 (some .int) (d + 1) 42 [some (hb_r 12 0 0), some (hb_i x1)] (rv.toList ++ [hb_r 12 0 21]) w1 Q))) : hb_R yX12_hoodMany cX12_hoodMany 2 (some .int) (d + 1) 23 [some (hb_r 12 0 0), some (hb_i x1)] [] w Q := by
  refine hb_iload_n (pc := 23) (i := 1) dX12_hoodMany_23 rfl rfl ?_
  refine hb_aload_n (pc := 24) (i := 0) dX12_hoodMany_24 rfl rfl ?_
  refine hb_getR (pc := 25) (g1 := 0) dX12_hoodMany_25 fw_X12_66 cw_12 rfl (by decide) rfl (by decide) rfl ?_
  refine hb_iconst (pc := 28) (v := 1) dX12_hoodMany_28 (by decide) ?_
  refine hb_ialdx (pc := 29) (x := hb_aI w 12 18 0 (1 : Int32).toNatClampNeg) dX12_hoodMany_29 (n := 11) rfl (by decide) (by unfold vp_in; decide) rfl ?_
  refine hb_icmp_ge (pc := 30) (tgt := 53) dX12_hoodMany_30 (by decide) (fun c1 => ?_) (fun c1 => ?_)
  · have ht1 := h.1 c1
    refine hb_aload_n (pc := 53) (i := 0) dX12_hoodMany_53 rfl rfl ?_
    exact hb_callV (pc := 54) (As := []) (st := []) dX12_hoodMany_54 ml_X12_414 mf_X12_unlikeMany mi_X12_unlikeMany (ci := 12) rfl rfl (by decide) rfl rfl (Nat.le_of_ble_eq_true rfl) (Nat.le_of_ble_eq_true rfl) ht1 (fun _ _ q => q)
  · have ht1 := h.2 c1
    refine hb_aload_n (pc := 33) (i := 0) dX12_hoodMany_33 rfl rfl ?_
    refine hb_getR (pc := 34) (g1 := 0) dX12_hoodMany_34 fw_X12_75 cw_12 rfl (by decide) rfl (by decide) rfl ?_
    refine hb_aload_n (pc := 37) (i := 0) dX12_hoodMany_37 rfl rfl ?_
    refine hb_iload_n (pc := 38) (i := 1) dX12_hoodMany_38 rfl rfl ?_
    exact hb_callV (pc := 39) (As := [hb_i x1]) (st := [hb_r 12 0 21]) dX12_hoodMany_39 ml_X12_384 mf_X12_hoodOf mi_X12_hoodOf (ci := 12) rfl rfl (by decide) rfl rfl (Nat.le_of_ble_eq_true rfl) (Nat.le_of_ble_eq_true rfl) ht1 (fun _ _ q => q)
set_option maxRecDepth 20000 in
theorem bk_X12_hoodMany_42 {d : Nat} {w : hb_W} {Q : Option hb_V → hb_W → Prop} {x1 : Int32} {xs1 : Int32} (h : vp_in xs1 64 ∧ (vp_in xs1 64 ∧ (hb_R yX12_hoodMany cX12_hoodMany 2 (some .int) (d + 1) 23 [some (hb_r 12 0 0), some (hb_i (x1 + (1 : Int32)))] [] (hb_sI w 12 21 0 (upd (hb_aI w 12 21 0) xs1.toNatClampNeg ((hb_aI w 12 21 0 xs1.toNatClampNeg) + (1 : Int32)))) Q))) : hb_R yX12_hoodMany cX12_hoodMany 2 (some .int) (d + 1) 42 [some (hb_r 12 0 0), some (hb_i x1)] [hb_i xs1, hb_r 12 0 21] w Q := by
  refine hb_dup2ir (pc := 42) dX12_hoodMany_42 ?_
  obtain ⟨ho1, hr1⟩ := h
  refine hb_ialdx (pc := 43) (x := hb_aI w 12 21 0 xs1.toNatClampNeg) dX12_hoodMany_43 rfl (by decide) ho1 rfl ?_
  refine hb_iconst (pc := 44) (v := 1) dX12_hoodMany_44 (by decide) ?_
  refine hb_iadd (pc := 45) dX12_hoodMany_45 ?_
  obtain ⟨ho2, hr2⟩ := hr1
  refine hb_iastx (pc := 46) (f := upd (hb_aI w 12 21 0) xs1.toNatClampNeg ((hb_aI w 12 21 0 xs1.toNatClampNeg) + (1 : Int32))) dX12_hoodMany_46 rfl (by decide) ho2 rfl ?_
  refine hb_iinc (pc := 47) (v := x1 + (1 : Int32)) (ls1 := [some (hb_r 12 0 0), some (hb_i (x1 + (1 : Int32)))]) dX12_hoodMany_47 rfl rfl (by decide) rfl ?_
  refine hb_goto (pc := 50) (tgt := 23) dX12_hoodMany_50 (by decide) ?_
  exact hr2
set_option maxRecDepth 20000 in
theorem bk_X12_hoodMany_57 {d : Nat} {w : hb_W} {Q : Option hb_V → hb_W → Prop} {x1 : Int32} {xs0 : Int32} (h : Q (some (hb_i xs0)) w) : hb_R yX12_hoodMany cX12_hoodMany 2 (some .int) (d + 1) 57 [some (hb_r 12 0 0), some (hb_i x1)] [hb_i xs0] w Q := by
  exact hb_iret (pc := 57) dX12_hoodMany_57 rfl h
theorem dX12_has_0 : decode cX12_has 0 = .ok (.iload_n 1, 1) := by decide +kernel
theorem dX12_has_1 : decode cX12_has 1 = .ok (.tableswitch 85 0 7 #[47, 47, 56, 61, 66, 66, 75, 80], 47) := by decide +kernel
theorem dX12_has_48 : decode cX12_has 48 = .ok (.aload_n 0, 1) := by decide +kernel
theorem dX12_has_49 : decode cX12_has 49 = .ok (.getfield 51, 3) := by decide +kernel
theorem dX12_has_52 : decode cX12_has 52 = .ok (.iconst 2, 1) := by decide +kernel
theorem dX12_has_53 : decode cX12_has 53 = .ok (.iload_n 1, 1) := by decide +kernel
theorem dX12_has_54 : decode cX12_has 54 = .ok (.iadd, 1) := by decide +kernel
theorem dX12_has_55 : decode cX12_has 55 = .ok (.iaload, 1) := by decide +kernel
theorem dX12_has_56 : decode cX12_has 56 = .ok (.ireturn, 1) := by decide +kernel
theorem dX12_has_57 : decode cX12_has 57 = .ok (.aload_n 0, 1) := by decide +kernel
theorem dX12_has_58 : decode cX12_has 58 = .ok (.getfield 306, 3) := by decide +kernel
theorem dX12_has_61 : decode cX12_has 61 = .ok (.ireturn, 1) := by decide +kernel
theorem dX12_has_62 : decode cX12_has 62 = .ok (.aload_n 0, 1) := by decide +kernel
theorem dX12_has_63 : decode cX12_has 63 = .ok (.invokevirtual 435, 3) := by decide +kernel
theorem dX12_has_66 : decode cX12_has 66 = .ok (.ireturn, 1) := by decide +kernel
theorem dX12_has_67 : decode cX12_has 67 = .ok (.aload_n 0, 1) := by decide +kernel
theorem dX12_has_68 : decode cX12_has 68 = .ok (.getfield 66, 3) := by decide +kernel
theorem dX12_has_71 : decode cX12_has 71 = .ok (.iload_n 1, 1) := by decide +kernel
theorem dX12_has_72 : decode cX12_has 72 = .ok (.iconst 4, 1) := by decide +kernel
theorem dX12_has_73 : decode cX12_has 73 = .ok (.isub, 1) := by decide +kernel
theorem dX12_has_74 : decode cX12_has 74 = .ok (.iaload, 1) := by decide +kernel
theorem dX12_has_75 : decode cX12_has 75 = .ok (.ireturn, 1) := by decide +kernel
theorem dX12_has_76 : decode cX12_has 76 = .ok (.aload_n 0, 1) := by decide +kernel
theorem dX12_has_77 : decode cX12_has 77 = .ok (.invokevirtual 438, 3) := by decide +kernel
theorem dX12_has_80 : decode cX12_has 80 = .ok (.ireturn, 1) := by decide +kernel
theorem dX12_has_81 : decode cX12_has 81 = .ok (.aload_n 0, 1) := by decide +kernel
theorem dX12_has_82 : decode cX12_has 82 = .ok (.getfield 309, 3) := by decide +kernel
theorem dX12_has_85 : decode cX12_has 85 = .ok (.ireturn, 1) := by decide +kernel
theorem dX12_has_86 : decode cX12_has 86 = .ok (.iconst (-1), 1) := by decide +kernel
theorem dX12_has_87 : decode cX12_has 87 = .ok (.ireturn, 1) := by decide +kernel
set_option maxRecDepth 20000 in
theorem bk_X12_has_0 {d : Nat} {w : hb_W} {Q : Option hb_V → hb_W → Prop} {x1 : Int32} (h : (x1 = (0 : Int32) → vp_in ((2 : Int32) + x1) 6 ∧ (Q (some (hb_i (hb_aI w 12 13 0 ((2 : Int32) + x1).toNatClampNeg))) w)) ∧ (x1 = (1 : Int32) → vp_in ((2 : Int32) + x1) 6 ∧ (Q (some (hb_i (hb_aI w 12 13 0 ((2 : Int32) + x1).toNatClampNeg))) w)) ∧ (x1 = (2 : Int32) → Q (some (hb_i (hb_fI w 12 23 0))) w) ∧ (x1 = (3 : Int32) → hb_O yX12_wouldPass cX12_wouldPass 3 (some .int) d [hb_r 12 0 0] w (fun rv w1 => hb_R yX12_has cX12_has 2 (some .int) (d + 1) 66 [some (hb_r 12 0 0), some (hb_i x1)] (rv.toList ++ []) w1 Q)) ∧ (x1 = (4 : Int32) → vp_in (x1 - (4 : Int32)) 11 ∧ (Q (some (hb_i (hb_aI w 12 18 0 (x1 - (4 : Int32)).toNatClampNeg))) w)) ∧ (x1 = (5 : Int32) → vp_in (x1 - (4 : Int32)) 11 ∧ (Q (some (hb_i (hb_aI w 12 18 0 (x1 - (4 : Int32)).toNatClampNeg))) w)) ∧ (x1 = (6 : Int32) → hb_O yX12_hoodMany cX12_hoodMany 2 (some .int) d [hb_r 12 0 0] w (fun rv w1 => hb_R yX12_has cX12_has 2 (some .int) (d + 1) 80 [some (hb_r 12 0 0), some (hb_i x1)] (rv.toList ++ []) w1 Q)) ∧ (x1 = (7 : Int32) → Q (some (hb_i (hb_fI w 12 55 0))) w) ∧ (¬ x1 = (0 : Int32) → ¬ x1 = (1 : Int32) → ¬ x1 = (2 : Int32) → ¬ x1 = (3 : Int32) → ¬ x1 = (4 : Int32) → ¬ x1 = (5 : Int32) → ¬ x1 = (6 : Int32) → ¬ x1 = (7 : Int32) → Q (some (hb_i (-1 : Int32))) w)) : hb_R yX12_has cX12_has 2 (some .int) (d + 1) 0 [some (hb_r 12 0 0), some (hb_i x1)] [] w Q := by
  refine hb_iload_n (pc := 0) (i := 1) dX12_has_0 rfl rfl ?_
  by_cases e1_0 : x1 = (0 : Int32)
  · have hk1_0 := h.1 e1_0
    have ei : x1.toInt = 0 := by rw [e1_0]; rfl
    refine hb_tabIn (pc := 1) (tgt := 48) (off := 47) dX12_has_1 (by rw [ei]; decide) (by rw [ei]; decide) (by rw [ei]; rfl) (by decide) ?_
    refine hb_aload_n (pc := 48) (i := 0) dX12_has_48 rfl rfl ?_
    refine hb_getR (pc := 49) (g1 := 0) dX12_has_49 fw_X12_51 cw_12 rfl (by decide) rfl (by decide) rfl ?_
    refine hb_iconst (pc := 52) (v := 2) dX12_has_52 (by decide) ?_
    refine hb_iload_n (pc := 53) (i := 1) dX12_has_53 rfl rfl ?_
    refine hb_iadd (pc := 54) dX12_has_54 ?_
    obtain ⟨ho2, hr2⟩ := hk1_0
    refine hb_ialdx (pc := 55) (x := hb_aI w 12 13 0 ((2 : Int32) + x1).toNatClampNeg) dX12_has_55 rfl (by decide) ho2 rfl ?_
    exact hb_iret (pc := 56) dX12_has_56 rfl hr2
  by_cases e1_1 : x1 = (1 : Int32)
  · have hk1_1 := h.2.1 e1_1
    have ei : x1.toInt = 1 := by rw [e1_1]; rfl
    refine hb_tabIn (pc := 1) (tgt := 48) (off := 47) dX12_has_1 (by rw [ei]; decide) (by rw [ei]; decide) (by rw [ei]; rfl) (by decide) ?_
    refine hb_aload_n (pc := 48) (i := 0) dX12_has_48 rfl rfl ?_
    refine hb_getR (pc := 49) (g1 := 0) dX12_has_49 fw_X12_51 cw_12 rfl (by decide) rfl (by decide) rfl ?_
    refine hb_iconst (pc := 52) (v := 2) dX12_has_52 (by decide) ?_
    refine hb_iload_n (pc := 53) (i := 1) dX12_has_53 rfl rfl ?_
    refine hb_iadd (pc := 54) dX12_has_54 ?_
    obtain ⟨ho3, hr3⟩ := hk1_1
    refine hb_ialdx (pc := 55) (x := hb_aI w 12 13 0 ((2 : Int32) + x1).toNatClampNeg) dX12_has_55 rfl (by decide) ho3 rfl ?_
    exact hb_iret (pc := 56) dX12_has_56 rfl hr3
  by_cases e1_2 : x1 = (2 : Int32)
  · have hk1_2 := h.2.2.1 e1_2
    have ei : x1.toInt = 2 := by rw [e1_2]; rfl
    refine hb_tabIn (pc := 1) (tgt := 57) (off := 56) dX12_has_1 (by rw [ei]; decide) (by rw [ei]; decide) (by rw [ei]; rfl) (by decide) ?_
    refine hb_aload_n (pc := 57) (i := 0) dX12_has_57 rfl rfl ?_
    refine hb_getIx (pc := 58) (x := hb_fI w 12 23 0) dX12_has_58 fw_X12_306 cw_12 rfl (by decide) rfl rfl ?_
    exact hb_iret (pc := 61) dX12_has_61 rfl hk1_2
  by_cases e1_3 : x1 = (3 : Int32)
  · have hk1_3 := h.2.2.2.1 e1_3
    have ei : x1.toInt = 3 := by rw [e1_3]; rfl
    refine hb_tabIn (pc := 1) (tgt := 62) (off := 61) dX12_has_1 (by rw [ei]; decide) (by rw [ei]; decide) (by rw [ei]; rfl) (by decide) ?_
    refine hb_aload_n (pc := 62) (i := 0) dX12_has_62 rfl rfl ?_
    exact hb_callV (pc := 63) (As := []) (st := []) dX12_has_63 ml_X12_435 mf_X12_wouldPass mi_X12_wouldPass (ci := 12) rfl rfl (by decide) rfl rfl (Nat.le_of_ble_eq_true rfl) (Nat.le_of_ble_eq_true rfl) hk1_3 (fun _ _ q => q)
  by_cases e1_4 : x1 = (4 : Int32)
  · have hk1_4 := h.2.2.2.2.1 e1_4
    have ei : x1.toInt = 4 := by rw [e1_4]; rfl
    refine hb_tabIn (pc := 1) (tgt := 67) (off := 66) dX12_has_1 (by rw [ei]; decide) (by rw [ei]; decide) (by rw [ei]; rfl) (by decide) ?_
    refine hb_aload_n (pc := 67) (i := 0) dX12_has_67 rfl rfl ?_
    refine hb_getR (pc := 68) (g1 := 0) dX12_has_68 fw_X12_66 cw_12 rfl (by decide) rfl (by decide) rfl ?_
    refine hb_iload_n (pc := 71) (i := 1) dX12_has_71 rfl rfl ?_
    refine hb_iconst (pc := 72) (v := 4) dX12_has_72 (by decide) ?_
    refine hb_isub (pc := 73) dX12_has_73 ?_
    obtain ⟨ho4, hr4⟩ := hk1_4
    refine hb_ialdx (pc := 74) (x := hb_aI w 12 18 0 (x1 - (4 : Int32)).toNatClampNeg) dX12_has_74 rfl (by decide) ho4 rfl ?_
    exact hb_iret (pc := 75) dX12_has_75 rfl hr4
  by_cases e1_5 : x1 = (5 : Int32)
  · have hk1_5 := h.2.2.2.2.2.1 e1_5
    have ei : x1.toInt = 5 := by rw [e1_5]; rfl
    refine hb_tabIn (pc := 1) (tgt := 67) (off := 66) dX12_has_1 (by rw [ei]; decide) (by rw [ei]; decide) (by rw [ei]; rfl) (by decide) ?_
    refine hb_aload_n (pc := 67) (i := 0) dX12_has_67 rfl rfl ?_
    refine hb_getR (pc := 68) (g1 := 0) dX12_has_68 fw_X12_66 cw_12 rfl (by decide) rfl (by decide) rfl ?_
    refine hb_iload_n (pc := 71) (i := 1) dX12_has_71 rfl rfl ?_
    refine hb_iconst (pc := 72) (v := 4) dX12_has_72 (by decide) ?_
    refine hb_isub (pc := 73) dX12_has_73 ?_
    obtain ⟨ho5, hr5⟩ := hk1_5
    refine hb_ialdx (pc := 74) (x := hb_aI w 12 18 0 (x1 - (4 : Int32)).toNatClampNeg) dX12_has_74 rfl (by decide) ho5 rfl ?_
    exact hb_iret (pc := 75) dX12_has_75 rfl hr5
  by_cases e1_6 : x1 = (6 : Int32)
  · have hk1_6 := h.2.2.2.2.2.2.1 e1_6
    have ei : x1.toInt = 6 := by rw [e1_6]; rfl
    refine hb_tabIn (pc := 1) (tgt := 76) (off := 75) dX12_has_1 (by rw [ei]; decide) (by rw [ei]; decide) (by rw [ei]; rfl) (by decide) ?_
    refine hb_aload_n (pc := 76) (i := 0) dX12_has_76 rfl rfl ?_
    exact hb_callV (pc := 77) (As := []) (st := []) dX12_has_77 ml_X12_438 mf_X12_hoodMany mi_X12_hoodMany (ci := 12) rfl rfl (by decide) rfl rfl (Nat.le_of_ble_eq_true rfl) (Nat.le_of_ble_eq_true rfl) hk1_6 (fun _ _ q => q)
  by_cases e1_7 : x1 = (7 : Int32)
  · have hk1_7 := h.2.2.2.2.2.2.2.1 e1_7
    have ei : x1.toInt = 7 := by rw [e1_7]; rfl
    refine hb_tabIn (pc := 1) (tgt := 81) (off := 80) dX12_has_1 (by rw [ei]; decide) (by rw [ei]; decide) (by rw [ei]; rfl) (by decide) ?_
    refine hb_aload_n (pc := 81) (i := 0) dX12_has_81 rfl rfl ?_
    refine hb_getIx (pc := 82) (x := hb_fI w 12 55 0) dX12_has_82 fw_X12_309 cw_12 rfl (by decide) rfl rfl ?_
    exact hb_iret (pc := 85) dX12_has_85 rfl hk1_7
  have hk1_d := h.2.2.2.2.2.2.2.2 e1_0 e1_1 e1_2 e1_3 e1_4 e1_5 e1_6 e1_7
  have n1_0 := lv_neT (a := 0) e1_0 rfl
  have n1_1 := lv_neT (a := 1) e1_1 rfl
  have n1_2 := lv_neT (a := 2) e1_2 rfl
  have n1_3 := lv_neT (a := 3) e1_3 rfl
  have n1_4 := lv_neT (a := 4) e1_4 rfl
  have n1_5 := lv_neT (a := 5) e1_5 rfl
  have n1_6 := lv_neT (a := 6) e1_6 rfl
  have n1_7 := lv_neT (a := 7) e1_7 rfl
  refine hb_tabOut (pc := 1) (tgt := 86) dX12_has_1 (by omega) (by decide) ?_
  refine hb_iconst (pc := 86) (v := -1) dX12_has_86 (by decide) ?_
  exact hb_iret (pc := 87) dX12_has_87 rfl hk1_d
set_option maxRecDepth 20000 in
theorem bk_X12_has_66 {d : Nat} {w : hb_W} {Q : Option hb_V → hb_W → Prop} {x1 : Int32} {xs0 : Int32} (h : Q (some (hb_i xs0)) w) : hb_R yX12_has cX12_has 2 (some .int) (d + 1) 66 [some (hb_r 12 0 0), some (hb_i x1)] [hb_i xs0] w Q := by
  exact hb_iret (pc := 66) dX12_has_66 rfl h
set_option maxRecDepth 20000 in
theorem bk_X12_has_80 {d : Nat} {w : hb_W} {Q : Option hb_V → hb_W → Prop} {x1 : Int32} {xs0 : Int32} (h : Q (some (hb_i xs0)) w) : hb_R yX12_has cX12_has 2 (some .int) (d + 1) 80 [some (hb_r 12 0 0), some (hb_i x1)] [hb_i xs0] w Q := by
  exact hb_iret (pc := 80) dX12_has_80 rfl h
theorem dX12_mark_0 : decode cX12_mark 0 = .ok (.aload_n 0, 1) := by decide +kernel
theorem dX12_mark_1 : decode cX12_mark 1 = .ok (.getfield 302, 3) := by decide +kernel
theorem dX12_mark_4 : decode cX12_mark 4 = .ok (.ifCond .eq 38, 3) := by decide +kernel
theorem dX12_mark_7 : decode cX12_mark 7 = .ok (.aload_n 0, 1) := by decide +kernel
theorem dX12_mark_8 : decode cX12_mark 8 = .ok (.iload_n 1, 1) := by decide +kernel
theorem dX12_mark_9 : decode cX12_mark 9 = .ok (.invokevirtual 441, 3) := by decide +kernel
theorem dX12_mark_12 : decode cX12_mark 12 = .ok (.ifCond .eq 30, 3) := by decide +kernel
theorem dX12_mark_15 : decode cX12_mark 15 = .ok (.iload_n 2, 1) := by decide +kernel
theorem dX12_mark_16 : decode cX12_mark 16 = .ok (.i2l, 1) := by decide +kernel
theorem dX12_mark_17 : decode cX12_mark 17 = .ok (.lconst 0, 1) := by decide +kernel
theorem dX12_mark_18 : decode cX12_mark 18 = .ok (.ldc2_w 444, 3) := by decide +kernel
theorem dX12_mark_21 : decode cX12_mark 21 = .ok (.invokestatic 238, 3) := by decide +kernel
theorem dX12_mark_24 : decode cX12_mark 24 = .ok (.ifCond .eq 18, 3) := by decide +kernel
theorem dX12_mark_27 : decode cX12_mark 27 = .ok (.aload_n 0, 1) := by decide +kernel
theorem dX12_mark_28 : decode cX12_mark 28 = .ok (.iload_n 1, 1) := by decide +kernel
theorem dX12_mark_29 : decode cX12_mark 29 = .ok (.iload_n 2, 1) := by decide +kernel
theorem dX12_mark_30 : decode cX12_mark 30 = .ok (.aload_n 0, 1) := by decide +kernel
theorem dX12_mark_31 : decode cX12_mark 31 = .ok (.getfield 66, 3) := by decide +kernel
theorem dX12_mark_34 : decode cX12_mark 34 = .ok (.iconst 0, 1) := by decide +kernel
theorem dX12_mark_35 : decode cX12_mark 35 = .ok (.iaload, 1) := by decide +kernel
theorem dX12_mark_36 : decode cX12_mark 36 = .ok (.invokevirtual 351, 3) := by decide +kernel
theorem dX12_mark_39 : decode cX12_mark 39 = .ok (.goto 4, 3) := by decide +kernel
theorem dX12_mark_42 : decode cX12_mark 42 = .ok (.iconst (-1), 1) := by decide +kernel
theorem dX12_mark_43 : decode cX12_mark 43 = .ok (.ireturn, 1) := by decide +kernel
set_option maxRecDepth 20000 in
theorem bk_X12_mark_0 {d : Nat} {w : hb_W} {Q : Option hb_V → hb_W → Prop} {x1 : Int32} {x2 : Int32} (h : (((hb_fI w 12 30 0) = 0) → Q (some (hb_i (-1 : Int32))) w) ∧ ((¬ (hb_fI w 12 30 0) = 0) → hb_O yX12_isHood cX12_isHood 2 (some .boolean) d [hb_r 12 0 0, hb_i x1] w (fun rv w1 => hb_R yX12_mark cX12_mark 3 (some .int) (d + 1) 12 [some (hb_r 12 0 0), some (hb_i x1), some (hb_i x2)] (rv.toList ++ []) w1 Q))) : hb_R yX12_mark cX12_mark 3 (some .int) (d + 1) 0 [some (hb_r 12 0 0), some (hb_i x1), some (hb_i x2)] [] w Q := by
  refine hb_aload_n (pc := 0) (i := 0) dX12_mark_0 rfl rfl ?_
  refine hb_getIx (pc := 1) (x := hb_fI w 12 30 0) dX12_mark_1 fw_X12_302 cw_12 rfl (by decide) rfl rfl ?_
  refine hb_if_eq (pc := 4) (tgt := 42) dX12_mark_4 (by decide) (fun c1 => ?_) (fun c1 => ?_)
  · have ht1 := h.1 c1
    refine hb_iconst (pc := 42) (v := -1) dX12_mark_42 (by decide) ?_
    exact hb_iret (pc := 43) dX12_mark_43 rfl ht1
  · have ht1 := h.2 c1
    refine hb_aload_n (pc := 7) (i := 0) dX12_mark_7 rfl rfl ?_
    refine hb_iload_n (pc := 8) (i := 1) dX12_mark_8 rfl rfl ?_
    exact hb_callV (pc := 9) (As := [hb_i x1]) (st := []) dX12_mark_9 ml_X12_441 mf_X12_isHood mi_X12_isHood (ci := 12) rfl rfl (by decide) rfl rfl (Nat.le_of_ble_eq_true rfl) (Nat.le_of_ble_eq_true rfl) ht1 (fun _ _ q => q)
set_option maxRecDepth 20000 in
theorem bk_X12_mark_12 {d : Nat} {w : hb_W} {Q : Option hb_V → hb_W → Prop} {x1 : Int32} {x2 : Int32} {xs0 : Int32} (h : ((xs0 = 0) → Q (some (hb_i (-1 : Int32))) w) ∧ ((¬ xs0 = 0) → hb_O yX12_isIn cX12_isIn 6 (some .boolean) d [hb_l x2.toInt64, hb_l (0 : Int64), hb_l (8 : Int64)] w (fun rv w1 => hb_R yX12_mark cX12_mark 3 (some .int) (d + 1) 24 [some (hb_r 12 0 0), some (hb_i x1), some (hb_i x2)] (rv.toList ++ []) w1 Q))) : hb_R yX12_mark cX12_mark 3 (some .int) (d + 1) 12 [some (hb_r 12 0 0), some (hb_i x1), some (hb_i x2)] [hb_i xs0] w Q := by
  refine hb_if_eq (pc := 12) (tgt := 42) dX12_mark_12 (by decide) (fun c1 => ?_) (fun c1 => ?_)
  · have ht1 := h.1 c1
    refine hb_iconst (pc := 42) (v := -1) dX12_mark_42 (by decide) ?_
    exact hb_iret (pc := 43) dX12_mark_43 rfl ht1
  · have ht1 := h.2 c1
    refine hb_iload_n (pc := 15) (i := 2) dX12_mark_15 rfl rfl ?_
    refine hb_i2l (pc := 16) dX12_mark_16 ?_
    refine hb_lconst (pc := 17) (v := 0) dX12_mark_17 (by decide) ?_
    refine hb_ldc2 (pc := 18) (v := 8) dX12_mark_18 kc_X12_444 ?_
    exact hb_callS (pc := 21) (As := [hb_l x2.toInt64, hb_l (0 : Int64), hb_l (8 : Int64)]) (st := []) dX12_mark_21 ml_X12_238 mf_X12_isIn ms_X12_isIn rfl rfl (Nat.le_of_ble_eq_true rfl) (Nat.le_of_ble_eq_true rfl) ht1 (fun _ _ q => q)
set_option maxRecDepth 20000 in
theorem bk_X12_mark_24 {d : Nat} {w : hb_W} {Q : Option hb_V → hb_W → Prop} {x1 : Int32} {x2 : Int32} {xs0 : Int32} (h : ((xs0 = 0) → Q (some (hb_i (-1 : Int32))) w) ∧ ((¬ xs0 = 0) → hb_O yX12_markOf cX12_markOf 8 (some .int) d [hb_r 12 0 0, hb_i x1, hb_i x2, hb_i (hb_aI w 12 18 0 (0 : Int32).toNatClampNeg)] w (fun rv w1 => hb_R yX12_mark cX12_mark 3 (some .int) (d + 1) 39 [some (hb_r 12 0 0), some (hb_i x1), some (hb_i x2)] (rv.toList ++ []) w1 Q))) : hb_R yX12_mark cX12_mark 3 (some .int) (d + 1) 24 [some (hb_r 12 0 0), some (hb_i x1), some (hb_i x2)] [hb_i xs0] w Q := by
  refine hb_if_eq (pc := 24) (tgt := 42) dX12_mark_24 (by decide) (fun c1 => ?_) (fun c1 => ?_)
  · have ht1 := h.1 c1
    refine hb_iconst (pc := 42) (v := -1) dX12_mark_42 (by decide) ?_
    exact hb_iret (pc := 43) dX12_mark_43 rfl ht1
  · have ht1 := h.2 c1
    refine hb_aload_n (pc := 27) (i := 0) dX12_mark_27 rfl rfl ?_
    refine hb_iload_n (pc := 28) (i := 1) dX12_mark_28 rfl rfl ?_
    refine hb_iload_n (pc := 29) (i := 2) dX12_mark_29 rfl rfl ?_
    refine hb_aload_n (pc := 30) (i := 0) dX12_mark_30 rfl rfl ?_
    refine hb_getR (pc := 31) (g1 := 0) dX12_mark_31 fw_X12_66 cw_12 rfl (by decide) rfl (by decide) rfl ?_
    refine hb_iconst (pc := 34) (v := 0) dX12_mark_34 (by decide) ?_
    refine hb_ialdx (pc := 35) (x := hb_aI w 12 18 0 (0 : Int32).toNatClampNeg) dX12_mark_35 (n := 11) rfl (by decide) (by unfold vp_in; decide) rfl ?_
    exact hb_callV (pc := 36) (As := [hb_i x1, hb_i x2, hb_i (hb_aI w 12 18 0 (0 : Int32).toNatClampNeg)]) (st := []) dX12_mark_36 ml_X12_351 mf_X12_markOf mi_X12_markOf (ci := 12) rfl rfl (by decide) rfl rfl (Nat.le_of_ble_eq_true rfl) (Nat.le_of_ble_eq_true rfl) ht1 (fun _ _ q => q)
set_option maxRecDepth 20000 in
theorem bk_X12_mark_39 {d : Nat} {w : hb_W} {Q : Option hb_V → hb_W → Prop} {x1 : Int32} {x2 : Int32} {xs0 : Int32} (h : Q (some (hb_i xs0)) w) : hb_R yX12_mark cX12_mark 3 (some .int) (d + 1) 39 [some (hb_r 12 0 0), some (hb_i x1), some (hb_i x2)] [hb_i xs0] w Q := by
  refine hb_goto (pc := 39) (tgt := 43) dX12_mark_39 (by decide) ?_
  exact hb_iret (pc := 43) dX12_mark_43 rfl h
theorem dX12_passed_0 : decode cX12_passed 0 = .ok (.iload_n 1, 1) := by decide +kernel
theorem dX12_passed_1 : decode cX12_passed 1 = .ok (.i2l, 1) := by decide +kernel
theorem dX12_passed_2 : decode cX12_passed 2 = .ok (.lconst 0, 1) := by decide +kernel
theorem dX12_passed_3 : decode cX12_passed 3 = .ok (.aload_n 0, 1) := by decide +kernel
theorem dX12_passed_4 : decode cX12_passed 4 = .ok (.getfield 66, 3) := by decide +kernel
theorem dX12_passed_7 : decode cX12_passed 7 = .ok (.iconst 1, 1) := by decide +kernel
theorem dX12_passed_8 : decode cX12_passed 8 = .ok (.iaload, 1) := by decide +kernel
theorem dX12_passed_9 : decode cX12_passed 9 = .ok (.iconst 1, 1) := by decide +kernel
theorem dX12_passed_10 : decode cX12_passed 10 = .ok (.isub, 1) := by decide +kernel
theorem dX12_passed_11 : decode cX12_passed 11 = .ok (.i2l, 1) := by decide +kernel
theorem dX12_passed_12 : decode cX12_passed 12 = .ok (.invokestatic 238, 3) := by decide +kernel
theorem dX12_passed_15 : decode cX12_passed 15 = .ok (.ifCond .eq 28, 3) := by decide +kernel
theorem dX12_passed_18 : decode cX12_passed 18 = .ok (.iload_n 2, 1) := by decide +kernel
theorem dX12_passed_19 : decode cX12_passed 19 = .ok (.i2l, 1) := by decide +kernel
theorem dX12_passed_20 : decode cX12_passed 20 = .ok (.lconst 0, 1) := by decide +kernel
theorem dX12_passed_21 : decode cX12_passed 21 = .ok (.ldc2_w 312, 3) := by decide +kernel
theorem dX12_passed_24 : decode cX12_passed 24 = .ok (.invokestatic 238, 3) := by decide +kernel
theorem dX12_passed_27 : decode cX12_passed 27 = .ok (.ifCond .eq 16, 3) := by decide +kernel
theorem dX12_passed_30 : decode cX12_passed 30 = .ok (.aload_n 0, 1) := by decide +kernel
theorem dX12_passed_31 : decode cX12_passed 31 = .ok (.getfield 69, 3) := by decide +kernel
theorem dX12_passed_34 : decode cX12_passed 34 = .ok (.iconst 3, 1) := by decide +kernel
theorem dX12_passed_35 : decode cX12_passed 35 = .ok (.iload_n 1, 1) := by decide +kernel
theorem dX12_passed_36 : decode cX12_passed 36 = .ok (.imul, 1) := by decide +kernel
theorem dX12_passed_37 : decode cX12_passed 37 = .ok (.iload_n 2, 1) := by decide +kernel
theorem dX12_passed_38 : decode cX12_passed 38 = .ok (.iadd, 1) := by decide +kernel
theorem dX12_passed_39 : decode cX12_passed 39 = .ok (.iaload, 1) := by decide +kernel
theorem dX12_passed_40 : decode cX12_passed 40 = .ok (.goto 4, 3) := by decide +kernel
theorem dX12_passed_43 : decode cX12_passed 43 = .ok (.iconst (-1), 1) := by decide +kernel
theorem dX12_passed_44 : decode cX12_passed 44 = .ok (.ireturn, 1) := by decide +kernel
set_option maxRecDepth 20000 in
theorem bk_X12_passed_0 {d : Nat} {w : hb_W} {Q : Option hb_V → hb_W → Prop} {x1 : Int32} {x2 : Int32} (h : hb_O yX12_isIn cX12_isIn 6 (some .boolean) d [hb_l x1.toInt64, hb_l (0 : Int64), hb_l (((hb_aI w 12 18 0 (1 : Int32).toNatClampNeg) - (1 : Int32)).toInt64)] w (fun rv w1 => hb_R yX12_passed cX12_passed 3 (some .int) (d + 1) 15 [some (hb_r 12 0 0), some (hb_i x1), some (hb_i x2)] (rv.toList ++ []) w1 Q)) : hb_R yX12_passed cX12_passed 3 (some .int) (d + 1) 0 [some (hb_r 12 0 0), some (hb_i x1), some (hb_i x2)] [] w Q := by
  refine hb_iload_n (pc := 0) (i := 1) dX12_passed_0 rfl rfl ?_
  refine hb_i2l (pc := 1) dX12_passed_1 ?_
  refine hb_lconst (pc := 2) (v := 0) dX12_passed_2 (by decide) ?_
  refine hb_aload_n (pc := 3) (i := 0) dX12_passed_3 rfl rfl ?_
  refine hb_getR (pc := 4) (g1 := 0) dX12_passed_4 fw_X12_66 cw_12 rfl (by decide) rfl (by decide) rfl ?_
  refine hb_iconst (pc := 7) (v := 1) dX12_passed_7 (by decide) ?_
  refine hb_ialdx (pc := 8) (x := hb_aI w 12 18 0 (1 : Int32).toNatClampNeg) dX12_passed_8 (n := 11) rfl (by decide) (by unfold vp_in; decide) rfl ?_
  refine hb_iconst (pc := 9) (v := 1) dX12_passed_9 (by decide) ?_
  refine hb_isub (pc := 10) dX12_passed_10 ?_
  refine hb_i2l (pc := 11) dX12_passed_11 ?_
  exact hb_callS (pc := 12) (As := [hb_l x1.toInt64, hb_l (0 : Int64), hb_l (((hb_aI w 12 18 0 (1 : Int32).toNatClampNeg) - (1 : Int32)).toInt64)]) (st := []) dX12_passed_12 ml_X12_238 mf_X12_isIn ms_X12_isIn rfl rfl (Nat.le_of_ble_eq_true rfl) (Nat.le_of_ble_eq_true rfl) h (fun _ _ q => q)
set_option maxRecDepth 20000 in
theorem bk_X12_passed_15 {d : Nat} {w : hb_W} {Q : Option hb_V → hb_W → Prop} {x1 : Int32} {x2 : Int32} {xs0 : Int32} (h : ((xs0 = 0) → Q (some (hb_i (-1 : Int32))) w) ∧ ((¬ xs0 = 0) → hb_O yX12_isIn cX12_isIn 6 (some .boolean) d [hb_l x2.toInt64, hb_l (0 : Int64), hb_l (2 : Int64)] w (fun rv w1 => hb_R yX12_passed cX12_passed 3 (some .int) (d + 1) 27 [some (hb_r 12 0 0), some (hb_i x1), some (hb_i x2)] (rv.toList ++ []) w1 Q))) : hb_R yX12_passed cX12_passed 3 (some .int) (d + 1) 15 [some (hb_r 12 0 0), some (hb_i x1), some (hb_i x2)] [hb_i xs0] w Q := by
  refine hb_if_eq (pc := 15) (tgt := 43) dX12_passed_15 (by decide) (fun c1 => ?_) (fun c1 => ?_)
  · have ht1 := h.1 c1
    refine hb_iconst (pc := 43) (v := -1) dX12_passed_43 (by decide) ?_
    exact hb_iret (pc := 44) dX12_passed_44 rfl ht1
  · have ht1 := h.2 c1
    refine hb_iload_n (pc := 18) (i := 2) dX12_passed_18 rfl rfl ?_
    refine hb_i2l (pc := 19) dX12_passed_19 ?_
    refine hb_lconst (pc := 20) (v := 0) dX12_passed_20 (by decide) ?_
    refine hb_ldc2 (pc := 21) (v := 2) dX12_passed_21 kc_X12_312 ?_
    exact hb_callS (pc := 24) (As := [hb_l x2.toInt64, hb_l (0 : Int64), hb_l (2 : Int64)]) (st := []) dX12_passed_24 ml_X12_238 mf_X12_isIn ms_X12_isIn rfl rfl (Nat.le_of_ble_eq_true rfl) (Nat.le_of_ble_eq_true rfl) ht1 (fun _ _ q => q)
set_option maxRecDepth 20000 in
theorem bk_X12_passed_27 {d : Nat} {w : hb_W} {Q : Option hb_V → hb_W → Prop} {x1 : Int32} {x2 : Int32} {xs0 : Int32} (h : ((xs0 = 0) → Q (some (hb_i (-1 : Int32))) w) ∧ ((¬ xs0 = 0) → vp_in (((3 : Int32) * x1) + x2) 1203 ∧ (Q (some (hb_i (hb_aI w 12 19 0 (((3 : Int32) * x1) + x2).toNatClampNeg))) w))) : hb_R yX12_passed cX12_passed 3 (some .int) (d + 1) 27 [some (hb_r 12 0 0), some (hb_i x1), some (hb_i x2)] [hb_i xs0] w Q := by
  refine hb_if_eq (pc := 27) (tgt := 43) dX12_passed_27 (by decide) (fun c1 => ?_) (fun c1 => ?_)
  · have ht1 := h.1 c1
    refine hb_iconst (pc := 43) (v := -1) dX12_passed_43 (by decide) ?_
    exact hb_iret (pc := 44) dX12_passed_44 rfl ht1
  · have ht1 := h.2 c1
    refine hb_aload_n (pc := 30) (i := 0) dX12_passed_30 rfl rfl ?_
    refine hb_getR (pc := 31) (g1 := 0) dX12_passed_31 fw_X12_69 cw_12 rfl (by decide) rfl (by decide) rfl ?_
    refine hb_iconst (pc := 34) (v := 3) dX12_passed_34 (by decide) ?_
    refine hb_iload_n (pc := 35) (i := 1) dX12_passed_35 rfl rfl ?_
    refine hb_imul (pc := 36) dX12_passed_36 ?_
    refine hb_iload_n (pc := 37) (i := 2) dX12_passed_37 rfl rfl ?_
    refine hb_iadd (pc := 38) dX12_passed_38 ?_
    obtain ⟨ho2, hr2⟩ := ht1
    refine hb_ialdx (pc := 39) (x := hb_aI w 12 19 0 (((3 : Int32) * x1) + x2).toNatClampNeg) dX12_passed_39 rfl (by decide) ho2 rfl ?_
    refine hb_goto (pc := 40) (tgt := 44) dX12_passed_40 (by decide) ?_
    exact hb_iret (pc := 44) dX12_passed_44 rfl hr2
theorem dX12_least_0 : decode cX12_least 0 = .ok (.aload_n 0, 1) := by decide +kernel
theorem dX12_least_1 : decode cX12_least 1 = .ok (.iload_n 1, 1) := by decide +kernel
theorem dX12_least_2 : decode cX12_least 2 = .ok (.invokevirtual 446, 3) := by decide +kernel
theorem dX12_least_5 : decode cX12_least 5 = .ok (.ifCond .ne 5, 3) := by decide +kernel
theorem dX12_least_8 : decode cX12_least 8 = .ok (.iconst (-1), 1) := by decide +kernel
theorem dX12_least_9 : decode cX12_least 9 = .ok (.ireturn, 1) := by decide +kernel
theorem dX12_least_10 : decode cX12_least 10 = .ok (.aload_n 0, 1) := by decide +kernel
theorem dX12_least_11 : decode cX12_least 11 = .ok (.iload_n 1, 1) := by decide +kernel
theorem dX12_least_12 : decode cX12_least 12 = .ok (.invokevirtual 449, 3) := by decide +kernel
theorem dX12_least_15 : decode cX12_least 15 = .ok (.iload_n 2, 1) := by decide +kernel
theorem dX12_least_16 : decode cX12_least 16 = .ok (.i2l, 1) := by decide +kernel
theorem dX12_least_17 : decode cX12_least 17 = .ok (.lconst 0, 1) := by decide +kernel
theorem dX12_least_18 : decode cX12_least 18 = .ok (.aload_n 0, 1) := by decide +kernel
theorem dX12_least_19 : decode cX12_least 19 = .ok (.getfield 355, 3) := by decide +kernel
theorem dX12_least_22 : decode cX12_least 22 = .ok (.iconst 1, 1) := by decide +kernel
theorem dX12_least_23 : decode cX12_least 23 = .ok (.isub, 1) := by decide +kernel
theorem dX12_least_24 : decode cX12_least 24 = .ok (.i2l, 1) := by decide +kernel
theorem dX12_least_25 : decode cX12_least 25 = .ok (.invokestatic 238, 3) := by decide +kernel
theorem dX12_least_28 : decode cX12_least 28 = .ok (.ifCond .eq 12, 3) := by decide +kernel
theorem dX12_least_31 : decode cX12_least 31 = .ok (.aload_n 0, 1) := by decide +kernel
theorem dX12_least_32 : decode cX12_least 32 = .ok (.getfield 81, 3) := by decide +kernel
theorem dX12_least_35 : decode cX12_least 35 = .ok (.iload_n 2, 1) := by decide +kernel
theorem dX12_least_36 : decode cX12_least 36 = .ok (.iaload, 1) := by decide +kernel
theorem dX12_least_37 : decode cX12_least 37 = .ok (.goto 4, 3) := by decide +kernel
theorem dX12_least_40 : decode cX12_least 40 = .ok (.iconst (-1), 1) := by decide +kernel
theorem dX12_least_41 : decode cX12_least 41 = .ok (.ireturn, 1) := by decide +kernel
set_option maxRecDepth 20000 in
theorem bk_X12_least_0 {d : Nat} {w : hb_W} {Q : Option hb_V → hb_W → Prop} {x1 : Int32} {x2 : Int32} (h : hb_O yX12_isBook cX12_isBook 2 (some .boolean) d [hb_r 12 0 0, hb_i x1] w (fun rv w1 => hb_R yX12_least cX12_least 3 (some .int) (d + 1) 5 [some (hb_r 12 0 0), some (hb_i x1), some (hb_i x2)] (rv.toList ++ []) w1 Q)) : hb_R yX12_least cX12_least 3 (some .int) (d + 1) 0 [some (hb_r 12 0 0), some (hb_i x1), some (hb_i x2)] [] w Q := by
  refine hb_aload_n (pc := 0) (i := 0) dX12_least_0 rfl rfl ?_
  refine hb_iload_n (pc := 1) (i := 1) dX12_least_1 rfl rfl ?_
  exact hb_callV (pc := 2) (As := [hb_i x1]) (st := []) dX12_least_2 ml_X12_446 mf_X12_isBook mi_X12_isBook (ci := 12) rfl rfl (by decide) rfl rfl (Nat.le_of_ble_eq_true rfl) (Nat.le_of_ble_eq_true rfl) h (fun _ _ q => q)
set_option maxRecDepth 20000 in
theorem bk_X12_least_5 {d : Nat} {w : hb_W} {Q : Option hb_V → hb_W → Prop} {x1 : Int32} {x2 : Int32} {xs0 : Int32} (h : ((¬ xs0 = 0) → hb_O yX12_lays cX12_lays 2 none d [hb_r 12 0 0, hb_i x1] w (fun rv w1 => hb_R yX12_least cX12_least 3 (some .int) (d + 1) 15 [some (hb_r 12 0 0), some (hb_i x1), some (hb_i x2)] (rv.toList ++ []) w1 Q)) ∧ ((xs0 = 0) → Q (some (hb_i (-1 : Int32))) w)) : hb_R yX12_least cX12_least 3 (some .int) (d + 1) 5 [some (hb_r 12 0 0), some (hb_i x1), some (hb_i x2)] [hb_i xs0] w Q := by
  refine hb_if_ne (pc := 5) (tgt := 10) dX12_least_5 (by decide) (fun c1 => ?_) (fun c1 => ?_)
  · have ht1 := h.1 c1
    refine hb_aload_n (pc := 10) (i := 0) dX12_least_10 rfl rfl ?_
    refine hb_iload_n (pc := 11) (i := 1) dX12_least_11 rfl rfl ?_
    exact hb_callV (pc := 12) (As := [hb_i x1]) (st := []) dX12_least_12 ml_X12_449 mf_X12_lays mi_X12_lays (ci := 12) rfl rfl (by decide) rfl rfl (Nat.le_of_ble_eq_true rfl) (Nat.le_of_ble_eq_true rfl) ht1 (fun _ _ q => q)
  · have ht1 := h.2 c1
    refine hb_iconst (pc := 8) (v := -1) dX12_least_8 (by decide) ?_
    exact hb_iret (pc := 9) dX12_least_9 rfl ht1
set_option maxRecDepth 20000 in
theorem bk_X12_least_15 {d : Nat} {w : hb_W} {Q : Option hb_V → hb_W → Prop} {x1 : Int32} {x2 : Int32} (h : hb_O yX12_isIn cX12_isIn 6 (some .boolean) d [hb_l x2.toInt64, hb_l (0 : Int64), hb_l (((hb_fI w 12 44 0) - (1 : Int32)).toInt64)] w (fun rv w1 => hb_R yX12_least cX12_least 3 (some .int) (d + 1) 28 [some (hb_r 12 0 0), some (hb_i x1), some (hb_i x2)] (rv.toList ++ []) w1 Q)) : hb_R yX12_least cX12_least 3 (some .int) (d + 1) 15 [some (hb_r 12 0 0), some (hb_i x1), some (hb_i x2)] [] w Q := by
  refine hb_iload_n (pc := 15) (i := 2) dX12_least_15 rfl rfl ?_
  refine hb_i2l (pc := 16) dX12_least_16 ?_
  refine hb_lconst (pc := 17) (v := 0) dX12_least_17 (by decide) ?_
  refine hb_aload_n (pc := 18) (i := 0) dX12_least_18 rfl rfl ?_
  refine hb_getIx (pc := 19) (x := hb_fI w 12 44 0) dX12_least_19 fw_X12_355 cw_12 rfl (by decide) rfl rfl ?_
  refine hb_iconst (pc := 22) (v := 1) dX12_least_22 (by decide) ?_
  refine hb_isub (pc := 23) dX12_least_23 ?_
  refine hb_i2l (pc := 24) dX12_least_24 ?_
  exact hb_callS (pc := 25) (As := [hb_l x2.toInt64, hb_l (0 : Int64), hb_l (((hb_fI w 12 44 0) - (1 : Int32)).toInt64)]) (st := []) dX12_least_25 ml_X12_238 mf_X12_isIn ms_X12_isIn rfl rfl (Nat.le_of_ble_eq_true rfl) (Nat.le_of_ble_eq_true rfl) h (fun _ _ q => q)
set_option maxRecDepth 20000 in
theorem bk_X12_least_28 {d : Nat} {w : hb_W} {Q : Option hb_V → hb_W → Prop} {x1 : Int32} {x2 : Int32} {xs0 : Int32} (h : ((xs0 = 0) → Q (some (hb_i (-1 : Int32))) w) ∧ ((¬ xs0 = 0) → vp_in x2 10 ∧ (Q (some (hb_i (hb_aI w 12 23 0 x2.toNatClampNeg))) w))) : hb_R yX12_least cX12_least 3 (some .int) (d + 1) 28 [some (hb_r 12 0 0), some (hb_i x1), some (hb_i x2)] [hb_i xs0] w Q := by
  refine hb_if_eq (pc := 28) (tgt := 40) dX12_least_28 (by decide) (fun c1 => ?_) (fun c1 => ?_)
  · have ht1 := h.1 c1
    refine hb_iconst (pc := 40) (v := -1) dX12_least_40 (by decide) ?_
    exact hb_iret (pc := 41) dX12_least_41 rfl ht1
  · have ht1 := h.2 c1
    refine hb_aload_n (pc := 31) (i := 0) dX12_least_31 rfl rfl ?_
    refine hb_getR (pc := 32) (g1 := 0) dX12_least_32 fw_X12_81 cw_12 rfl (by decide) rfl (by decide) rfl ?_
    refine hb_iload_n (pc := 35) (i := 2) dX12_least_35 rfl rfl ?_
    obtain ⟨ho2, hr2⟩ := ht1
    refine hb_ialdx (pc := 36) (x := hb_aI w 12 23 0 x2.toNatClampNeg) dX12_least_36 rfl (by decide) ho2 rfl ?_
    refine hb_goto (pc := 37) (tgt := 41) dX12_least_37 (by decide) ?_
    exact hb_iret (pc := 41) dX12_least_41 rfl hr2
theorem dX12_run_0 : decode cX12_run 0 = .ok (.aload_n 0, 1) := by decide +kernel
theorem dX12_run_1 : decode cX12_run 1 = .ok (.iload_n 1, 1) := by decide +kernel
theorem dX12_run_2 : decode cX12_run 2 = .ok (.invokevirtual 446, 3) := by decide +kernel
theorem dX12_run_5 : decode cX12_run 5 = .ok (.ifCond .ne 5, 3) := by decide +kernel
theorem dX12_run_8 : decode cX12_run 8 = .ok (.iconst (-1), 1) := by decide +kernel
theorem dX12_run_9 : decode cX12_run 9 = .ok (.ireturn, 1) := by decide +kernel
theorem dX12_run_10 : decode cX12_run 10 = .ok (.aload_n 0, 1) := by decide +kernel
theorem dX12_run_11 : decode cX12_run 11 = .ok (.iload_n 1, 1) := by decide +kernel
theorem dX12_run_12 : decode cX12_run 12 = .ok (.invokevirtual 449, 3) := by decide +kernel
theorem dX12_run_15 : decode cX12_run 15 = .ok (.aload_n 0, 1) := by decide +kernel
theorem dX12_run_16 : decode cX12_run 16 = .ok (.getfield 374, 3) := by decide +kernel
theorem dX12_run_19 : decode cX12_run 19 = .ok (.ireturn, 1) := by decide +kernel
set_option maxRecDepth 20000 in
theorem bk_X12_run_0 {d : Nat} {w : hb_W} {Q : Option hb_V → hb_W → Prop} {x1 : Int32} (h : hb_O yX12_isBook cX12_isBook 2 (some .boolean) d [hb_r 12 0 0, hb_i x1] w (fun rv w1 => hb_R yX12_run cX12_run 2 (some .int) (d + 1) 5 [some (hb_r 12 0 0), some (hb_i x1)] (rv.toList ++ []) w1 Q)) : hb_R yX12_run cX12_run 2 (some .int) (d + 1) 0 [some (hb_r 12 0 0), some (hb_i x1)] [] w Q := by
  refine hb_aload_n (pc := 0) (i := 0) dX12_run_0 rfl rfl ?_
  refine hb_iload_n (pc := 1) (i := 1) dX12_run_1 rfl rfl ?_
  exact hb_callV (pc := 2) (As := [hb_i x1]) (st := []) dX12_run_2 ml_X12_446 mf_X12_isBook mi_X12_isBook (ci := 12) rfl rfl (by decide) rfl rfl (Nat.le_of_ble_eq_true rfl) (Nat.le_of_ble_eq_true rfl) h (fun _ _ q => q)
set_option maxRecDepth 20000 in
theorem bk_X12_run_5 {d : Nat} {w : hb_W} {Q : Option hb_V → hb_W → Prop} {x1 : Int32} {xs0 : Int32} (h : ((¬ xs0 = 0) → hb_O yX12_lays cX12_lays 2 none d [hb_r 12 0 0, hb_i x1] w (fun rv w1 => hb_R yX12_run cX12_run 2 (some .int) (d + 1) 15 [some (hb_r 12 0 0), some (hb_i x1)] (rv.toList ++ []) w1 Q)) ∧ ((xs0 = 0) → Q (some (hb_i (-1 : Int32))) w)) : hb_R yX12_run cX12_run 2 (some .int) (d + 1) 5 [some (hb_r 12 0 0), some (hb_i x1)] [hb_i xs0] w Q := by
  refine hb_if_ne (pc := 5) (tgt := 10) dX12_run_5 (by decide) (fun c1 => ?_) (fun c1 => ?_)
  · have ht1 := h.1 c1
    refine hb_aload_n (pc := 10) (i := 0) dX12_run_10 rfl rfl ?_
    refine hb_iload_n (pc := 11) (i := 1) dX12_run_11 rfl rfl ?_
    exact hb_callV (pc := 12) (As := [hb_i x1]) (st := []) dX12_run_12 ml_X12_449 mf_X12_lays mi_X12_lays (ci := 12) rfl rfl (by decide) rfl rfl (Nat.le_of_ble_eq_true rfl) (Nat.le_of_ble_eq_true rfl) ht1 (fun _ _ q => q)
  · have ht1 := h.2 c1
    refine hb_iconst (pc := 8) (v := -1) dX12_run_8 (by decide) ?_
    exact hb_iret (pc := 9) dX12_run_9 rfl ht1
set_option maxRecDepth 20000 in
theorem bk_X12_run_15 {d : Nat} {w : hb_W} {Q : Option hb_V → hb_W → Prop} {x1 : Int32} (h : Q (some (hb_i (hb_fI w 12 45 0))) w) : hb_R yX12_run cX12_run 2 (some .int) (d + 1) 15 [some (hb_r 12 0 0), some (hb_i x1)] [] w Q := by
  refine hb_aload_n (pc := 15) (i := 0) dX12_run_15 rfl rfl ?_
  refine hb_getIx (pc := 16) (x := hb_fI w 12 45 0) dX12_run_16 fw_X12_374 cw_12 rfl (by decide) rfl rfl ?_
  exact hb_iret (pc := 19) dX12_run_19 rfl h
theorem dX12_often_0 : decode cX12_often 0 = .ok (.aload_n 0, 1) := by decide +kernel
theorem dX12_often_1 : decode cX12_often 1 = .ok (.iload_n 1, 1) := by decide +kernel
theorem dX12_often_2 : decode cX12_often 2 = .ok (.invokevirtual 446, 3) := by decide +kernel
theorem dX12_often_5 : decode cX12_often 5 = .ok (.ifCond .eq 13, 3) := by decide +kernel
theorem dX12_often_8 : decode cX12_often 8 = .ok (.iload_n 3, 1) := by decide +kernel
theorem dX12_often_9 : decode cX12_often 9 = .ok (.i2l, 1) := by decide +kernel
theorem dX12_often_10 : decode cX12_often 10 = .ok (.lconst 0, 1) := by decide +kernel
theorem dX12_often_11 : decode cX12_often 11 = .ok (.lconst 1, 1) := by decide +kernel
theorem dX12_often_12 : decode cX12_often 12 = .ok (.invokestatic 238, 3) := by decide +kernel
theorem dX12_often_15 : decode cX12_often 15 = .ok (.ifCond .ne 5, 3) := by decide +kernel
theorem dX12_often_18 : decode cX12_often 18 = .ok (.iconst (-1), 1) := by decide +kernel
theorem dX12_often_19 : decode cX12_often 19 = .ok (.ireturn, 1) := by decide +kernel
theorem dX12_often_20 : decode cX12_often 20 = .ok (.aload_n 0, 1) := by decide +kernel
theorem dX12_often_21 : decode cX12_often 21 = .ok (.iload_n 1, 1) := by decide +kernel
theorem dX12_often_22 : decode cX12_often 22 = .ok (.invokevirtual 449, 3) := by decide +kernel
theorem dX12_often_25 : decode cX12_often 25 = .ok (.iload_n 2, 1) := by decide +kernel
theorem dX12_often_26 : decode cX12_often 26 = .ok (.i2l, 1) := by decide +kernel
theorem dX12_often_27 : decode cX12_often 27 = .ok (.lconst 0, 1) := by decide +kernel
theorem dX12_often_28 : decode cX12_often 28 = .ok (.aload_n 0, 1) := by decide +kernel
theorem dX12_often_29 : decode cX12_often 29 = .ok (.getfield 358, 3) := by decide +kernel
theorem dX12_often_32 : decode cX12_often 32 = .ok (.iconst 1, 1) := by decide +kernel
theorem dX12_often_33 : decode cX12_often 33 = .ok (.isub, 1) := by decide +kernel
theorem dX12_often_34 : decode cX12_often 34 = .ok (.i2l, 1) := by decide +kernel
theorem dX12_often_35 : decode cX12_often 35 = .ok (.invokestatic 238, 3) := by decide +kernel
theorem dX12_often_38 : decode cX12_often 38 = .ok (.ifCond .eq 12, 3) := by decide +kernel
theorem dX12_often_41 : decode cX12_often 41 = .ok (.aload_n 0, 1) := by decide +kernel
theorem dX12_often_42 : decode cX12_often 42 = .ok (.getfield 87, 3) := by decide +kernel
theorem dX12_often_45 : decode cX12_often 45 = .ok (.iload_n 2, 1) := by decide +kernel
theorem dX12_often_46 : decode cX12_often 46 = .ok (.iaload, 1) := by decide +kernel
theorem dX12_often_47 : decode cX12_often 47 = .ok (.ifCond .ne 5, 3) := by decide +kernel
theorem dX12_often_50 : decode cX12_often 50 = .ok (.iconst (-1), 1) := by decide +kernel
theorem dX12_often_51 : decode cX12_often 51 = .ok (.ireturn, 1) := by decide +kernel
theorem dX12_often_52 : decode cX12_often 52 = .ok (.iload_n 3, 1) := by decide +kernel
theorem dX12_often_53 : decode cX12_often 53 = .ok (.ifCond .ne 12, 3) := by decide +kernel
theorem dX12_often_56 : decode cX12_often 56 = .ok (.aload_n 0, 1) := by decide +kernel
theorem dX12_often_57 : decode cX12_often 57 = .ok (.getfield 84, 3) := by decide +kernel
theorem dX12_often_60 : decode cX12_often 60 = .ok (.iload_n 2, 1) := by decide +kernel
theorem dX12_often_61 : decode cX12_often 61 = .ok (.iaload, 1) := by decide +kernel
theorem dX12_often_62 : decode cX12_often 62 = .ok (.goto 9, 3) := by decide +kernel
theorem dX12_often_65 : decode cX12_often 65 = .ok (.aload_n 0, 1) := by decide +kernel
theorem dX12_often_66 : decode cX12_often 66 = .ok (.getfield 87, 3) := by decide +kernel
theorem dX12_often_69 : decode cX12_often 69 = .ok (.iload_n 2, 1) := by decide +kernel
theorem dX12_often_70 : decode cX12_often 70 = .ok (.iaload, 1) := by decide +kernel
theorem dX12_often_71 : decode cX12_often 71 = .ok (.ireturn, 1) := by decide +kernel
set_option maxRecDepth 20000 in
theorem bk_X12_often_0 {d : Nat} {w : hb_W} {Q : Option hb_V → hb_W → Prop} {x1 : Int32} {x2 : Int32} {x3 : Int32} (h : hb_O yX12_isBook cX12_isBook 2 (some .boolean) d [hb_r 12 0 0, hb_i x1] w (fun rv w1 => hb_R yX12_often cX12_often 4 (some .int) (d + 1) 5 [some (hb_r 12 0 0), some (hb_i x1), some (hb_i x2), some (hb_i x3)] (rv.toList ++ []) w1 Q)) : hb_R yX12_often cX12_often 4 (some .int) (d + 1) 0 [some (hb_r 12 0 0), some (hb_i x1), some (hb_i x2), some (hb_i x3)] [] w Q := by
  refine hb_aload_n (pc := 0) (i := 0) dX12_often_0 rfl rfl ?_
  refine hb_iload_n (pc := 1) (i := 1) dX12_often_1 rfl rfl ?_
  exact hb_callV (pc := 2) (As := [hb_i x1]) (st := []) dX12_often_2 ml_X12_446 mf_X12_isBook mi_X12_isBook (ci := 12) rfl rfl (by decide) rfl rfl (Nat.le_of_ble_eq_true rfl) (Nat.le_of_ble_eq_true rfl) h (fun _ _ q => q)
set_option maxRecDepth 20000 in
theorem bk_X12_often_5 {d : Nat} {w : hb_W} {Q : Option hb_V → hb_W → Prop} {x1 : Int32} {x2 : Int32} {x3 : Int32} {xs0 : Int32} (h : ((xs0 = 0) → Q (some (hb_i (-1 : Int32))) w) ∧ ((¬ xs0 = 0) → hb_O yX12_isIn cX12_isIn 6 (some .boolean) d [hb_l x3.toInt64, hb_l (0 : Int64), hb_l (1 : Int64)] w (fun rv w1 => hb_R yX12_often cX12_often 4 (some .int) (d + 1) 15 [some (hb_r 12 0 0), some (hb_i x1), some (hb_i x2), some (hb_i x3)] (rv.toList ++ []) w1 Q))) : hb_R yX12_often cX12_often 4 (some .int) (d + 1) 5 [some (hb_r 12 0 0), some (hb_i x1), some (hb_i x2), some (hb_i x3)] [hb_i xs0] w Q := by
  refine hb_if_eq (pc := 5) (tgt := 18) dX12_often_5 (by decide) (fun c1 => ?_) (fun c1 => ?_)
  · have ht1 := h.1 c1
    refine hb_iconst (pc := 18) (v := -1) dX12_often_18 (by decide) ?_
    exact hb_iret (pc := 19) dX12_often_19 rfl ht1
  · have ht1 := h.2 c1
    refine hb_iload_n (pc := 8) (i := 3) dX12_often_8 rfl rfl ?_
    refine hb_i2l (pc := 9) dX12_often_9 ?_
    refine hb_lconst (pc := 10) (v := 0) dX12_often_10 (by decide) ?_
    refine hb_lconst (pc := 11) (v := 1) dX12_often_11 (by decide) ?_
    exact hb_callS (pc := 12) (As := [hb_l x3.toInt64, hb_l (0 : Int64), hb_l (1 : Int64)]) (st := []) dX12_often_12 ml_X12_238 mf_X12_isIn ms_X12_isIn rfl rfl (Nat.le_of_ble_eq_true rfl) (Nat.le_of_ble_eq_true rfl) ht1 (fun _ _ q => q)
set_option maxRecDepth 20000 in
theorem bk_X12_often_15 {d : Nat} {w : hb_W} {Q : Option hb_V → hb_W → Prop} {x1 : Int32} {x2 : Int32} {x3 : Int32} {xs0 : Int32} (h : ((¬ xs0 = 0) → hb_O yX12_lays cX12_lays 2 none d [hb_r 12 0 0, hb_i x1] w (fun rv w1 => hb_R yX12_often cX12_often 4 (some .int) (d + 1) 25 [some (hb_r 12 0 0), some (hb_i x1), some (hb_i x2), some (hb_i x3)] (rv.toList ++ []) w1 Q)) ∧ ((xs0 = 0) → Q (some (hb_i (-1 : Int32))) w)) : hb_R yX12_often cX12_often 4 (some .int) (d + 1) 15 [some (hb_r 12 0 0), some (hb_i x1), some (hb_i x2), some (hb_i x3)] [hb_i xs0] w Q := by
  refine hb_if_ne (pc := 15) (tgt := 20) dX12_often_15 (by decide) (fun c1 => ?_) (fun c1 => ?_)
  · have ht1 := h.1 c1
    refine hb_aload_n (pc := 20) (i := 0) dX12_often_20 rfl rfl ?_
    refine hb_iload_n (pc := 21) (i := 1) dX12_often_21 rfl rfl ?_
    exact hb_callV (pc := 22) (As := [hb_i x1]) (st := []) dX12_often_22 ml_X12_449 mf_X12_lays mi_X12_lays (ci := 12) rfl rfl (by decide) rfl rfl (Nat.le_of_ble_eq_true rfl) (Nat.le_of_ble_eq_true rfl) ht1 (fun _ _ q => q)
  · have ht1 := h.2 c1
    refine hb_iconst (pc := 18) (v := -1) dX12_often_18 (by decide) ?_
    exact hb_iret (pc := 19) dX12_often_19 rfl ht1
set_option maxRecDepth 20000 in
theorem bk_X12_often_25 {d : Nat} {w : hb_W} {Q : Option hb_V → hb_W → Prop} {x1 : Int32} {x2 : Int32} {x3 : Int32} (h : hb_O yX12_isIn cX12_isIn 6 (some .boolean) d [hb_l x2.toInt64, hb_l (0 : Int64), hb_l (((hb_fI w 12 39 0) - (1 : Int32)).toInt64)] w (fun rv w1 => hb_R yX12_often cX12_often 4 (some .int) (d + 1) 38 [some (hb_r 12 0 0), some (hb_i x1), some (hb_i x2), some (hb_i x3)] (rv.toList ++ []) w1 Q)) : hb_R yX12_often cX12_often 4 (some .int) (d + 1) 25 [some (hb_r 12 0 0), some (hb_i x1), some (hb_i x2), some (hb_i x3)] [] w Q := by
  refine hb_iload_n (pc := 25) (i := 2) dX12_often_25 rfl rfl ?_
  refine hb_i2l (pc := 26) dX12_often_26 ?_
  refine hb_lconst (pc := 27) (v := 0) dX12_often_27 (by decide) ?_
  refine hb_aload_n (pc := 28) (i := 0) dX12_often_28 rfl rfl ?_
  refine hb_getIx (pc := 29) (x := hb_fI w 12 39 0) dX12_often_29 fw_X12_358 cw_12 rfl (by decide) rfl rfl ?_
  refine hb_iconst (pc := 32) (v := 1) dX12_often_32 (by decide) ?_
  refine hb_isub (pc := 33) dX12_often_33 ?_
  refine hb_i2l (pc := 34) dX12_often_34 ?_
  exact hb_callS (pc := 35) (As := [hb_l x2.toInt64, hb_l (0 : Int64), hb_l (((hb_fI w 12 39 0) - (1 : Int32)).toInt64)]) (st := []) dX12_often_35 ml_X12_238 mf_X12_isIn ms_X12_isIn rfl rfl (Nat.le_of_ble_eq_true rfl) (Nat.le_of_ble_eq_true rfl) h (fun _ _ q => q)
set_option maxRecDepth 20000 in
theorem bk_X12_often_38 {d : Nat} {w : hb_W} {Q : Option hb_V → hb_W → Prop} {x1 : Int32} {x2 : Int32} {x3 : Int32} {xs0 : Int32} (h : ((xs0 = 0) → Q (some (hb_i (-1 : Int32))) w) ∧ ((¬ xs0 = 0) → vp_in x2 9 ∧ (((¬ (hb_aI w 12 25 0 x2.toNatClampNeg) = 0) → ((¬ x3 = 0) → vp_in x2 9 ∧ (Q (some (hb_i (hb_aI w 12 25 0 x2.toNatClampNeg))) w)) ∧ ((x3 = 0) → vp_in x2 9 ∧ (Q (some (hb_i (hb_aI w 12 24 0 x2.toNatClampNeg))) w))) ∧ (((hb_aI w 12 25 0 x2.toNatClampNeg) = 0) → Q (some (hb_i (-1 : Int32))) w)))) : hb_R yX12_often cX12_often 4 (some .int) (d + 1) 38 [some (hb_r 12 0 0), some (hb_i x1), some (hb_i x2), some (hb_i x3)] [hb_i xs0] w Q := by
  refine hb_if_eq (pc := 38) (tgt := 50) dX12_often_38 (by decide) (fun c1 => ?_) (fun c1 => ?_)
  · have ht1 := h.1 c1
    refine hb_iconst (pc := 50) (v := -1) dX12_often_50 (by decide) ?_
    exact hb_iret (pc := 51) dX12_often_51 rfl ht1
  · have ht1 := h.2 c1
    refine hb_aload_n (pc := 41) (i := 0) dX12_often_41 rfl rfl ?_
    refine hb_getR (pc := 42) (g1 := 0) dX12_often_42 fw_X12_87 cw_12 rfl (by decide) rfl (by decide) rfl ?_
    refine hb_iload_n (pc := 45) (i := 2) dX12_often_45 rfl rfl ?_
    obtain ⟨ho2, hr2⟩ := ht1
    refine hb_ialdx (pc := 46) (x := hb_aI w 12 25 0 x2.toNatClampNeg) dX12_often_46 rfl (by decide) ho2 rfl ?_
    refine hb_if_ne (pc := 47) (tgt := 52) dX12_often_47 (by decide) (fun c3 => ?_) (fun c3 => ?_)
    · have ht3 := hr2.1 c3
      refine hb_iload_n (pc := 52) (i := 3) dX12_often_52 rfl rfl ?_
      refine hb_if_ne (pc := 53) (tgt := 65) dX12_often_53 (by decide) (fun c4 => ?_) (fun c4 => ?_)
      · have ht4 := ht3.1 c4
        refine hb_aload_n (pc := 65) (i := 0) dX12_often_65 rfl rfl ?_
        refine hb_getR (pc := 66) (g1 := 0) dX12_often_66 fw_X12_87 cw_12 rfl (by decide) rfl (by decide) rfl ?_
        refine hb_iload_n (pc := 69) (i := 2) dX12_often_69 rfl rfl ?_
        obtain ⟨ho5, hr5⟩ := ht4
        refine hb_ialdx (pc := 70) (x := hb_aI w 12 25 0 x2.toNatClampNeg) dX12_often_70 rfl (by decide) ho5 rfl ?_
        exact hb_iret (pc := 71) dX12_often_71 rfl hr5
      · have ht4 := ht3.2 c4
        refine hb_aload_n (pc := 56) (i := 0) dX12_often_56 rfl rfl ?_
        refine hb_getR (pc := 57) (g1 := 0) dX12_often_57 fw_X12_84 cw_12 rfl (by decide) rfl (by decide) rfl ?_
        refine hb_iload_n (pc := 60) (i := 2) dX12_often_60 rfl rfl ?_
        obtain ⟨ho6, hr6⟩ := ht4
        refine hb_ialdx (pc := 61) (x := hb_aI w 12 24 0 x2.toNatClampNeg) dX12_often_61 rfl (by decide) ho6 rfl ?_
        refine hb_goto (pc := 62) (tgt := 71) dX12_often_62 (by decide) ?_
        exact hb_iret (pc := 71) dX12_often_71 rfl hr6
    · have ht3 := hr2.2 c3
      refine hb_iconst (pc := 50) (v := -1) dX12_often_50 (by decide) ?_
      exact hb_iret (pc := 51) dX12_often_51 rfl ht3
theorem dX12_rowMany_0 : decode cX12_rowMany 0 = .ok (.aload_n 0, 1) := by decide +kernel
theorem dX12_rowMany_1 : decode cX12_rowMany 1 = .ok (.getfield 51, 3) := by decide +kernel
theorem dX12_rowMany_4 : decode cX12_rowMany 4 = .ok (.iconst 3, 1) := by decide +kernel
theorem dX12_rowMany_5 : decode cX12_rowMany 5 = .ok (.iaload, 1) := by decide +kernel
theorem dX12_rowMany_6 : decode cX12_rowMany 6 = .ok (.ireturn, 1) := by decide +kernel
set_option maxRecDepth 20000 in
theorem bk_X12_rowMany_0 {d : Nat} {w : hb_W} {Q : Option hb_V → hb_W → Prop} (h : Q (some (hb_i (hb_aI w 12 13 0 (3 : Int32).toNatClampNeg))) w) : hb_R yX12_rowMany cX12_rowMany 1 (some .int) d 0 [some (hb_r 12 0 0)] [] w Q := by
  refine hb_aload_n (pc := 0) (i := 0) dX12_rowMany_0 rfl rfl ?_
  refine hb_getR (pc := 1) (g1 := 0) dX12_rowMany_1 fw_X12_51 cw_12 rfl (by decide) rfl (by decide) rfl ?_
  refine hb_iconst (pc := 4) (v := 3) dX12_rowMany_4 (by decide) ?_
  refine hb_ialdx (pc := 5) (x := hb_aI w 12 13 0 (3 : Int32).toNatClampNeg) dX12_rowMany_5 (n := 6) rfl (by decide) (by unfold vp_in; decide) rfl ?_
  exact hb_iret (pc := 6) dX12_rowMany_6 rfl h
theorem dX12_crossed_0 : decode cX12_crossed 0 = .ok (.aload_n 0, 1) := by decide +kernel
theorem dX12_crossed_1 : decode cX12_crossed 1 = .ok (.iload_n 1, 1) := by decide +kernel
theorem dX12_crossed_2 : decode cX12_crossed 2 = .ok (.invokevirtual 446, 3) := by decide +kernel
theorem dX12_crossed_5 : decode cX12_crossed 5 = .ok (.ifCond .ne 5, 3) := by decide +kernel
theorem dX12_crossed_8 : decode cX12_crossed 8 = .ok (.iconst (-1), 1) := by decide +kernel
theorem dX12_crossed_9 : decode cX12_crossed 9 = .ok (.ireturn, 1) := by decide +kernel
theorem dX12_crossed_10 : decode cX12_crossed 10 = .ok (.aload_n 0, 1) := by decide +kernel
theorem dX12_crossed_11 : decode cX12_crossed 11 = .ok (.iload_n 1, 1) := by decide +kernel
theorem dX12_crossed_12 : decode cX12_crossed 12 = .ok (.invokevirtual 449, 3) := by decide +kernel
theorem dX12_crossed_15 : decode cX12_crossed 15 = .ok (.iload_n 2, 1) := by decide +kernel
theorem dX12_crossed_16 : decode cX12_crossed 16 = .ok (.i2l, 1) := by decide +kernel
theorem dX12_crossed_17 : decode cX12_crossed 17 = .ok (.lconst 0, 1) := by decide +kernel
theorem dX12_crossed_18 : decode cX12_crossed 18 = .ok (.aload_n 0, 1) := by decide +kernel
theorem dX12_crossed_19 : decode cX12_crossed 19 = .ok (.invokevirtual 452, 3) := by decide +kernel
theorem dX12_crossed_22 : decode cX12_crossed 22 = .ok (.iconst 1, 1) := by decide +kernel
theorem dX12_crossed_23 : decode cX12_crossed 23 = .ok (.isub, 1) := by decide +kernel
theorem dX12_crossed_24 : decode cX12_crossed 24 = .ok (.i2l, 1) := by decide +kernel
theorem dX12_crossed_25 : decode cX12_crossed 25 = .ok (.invokestatic 238, 3) := by decide +kernel
theorem dX12_crossed_28 : decode cX12_crossed 28 = .ok (.ifCond .eq 33, 3) := by decide +kernel
theorem dX12_crossed_31 : decode cX12_crossed 31 = .ok (.iload_n 3, 1) := by decide +kernel
theorem dX12_crossed_32 : decode cX12_crossed 32 = .ok (.i2l, 1) := by decide +kernel
theorem dX12_crossed_33 : decode cX12_crossed 33 = .ok (.lconst 0, 1) := by decide +kernel
theorem dX12_crossed_34 : decode cX12_crossed 34 = .ok (.aload_n 0, 1) := by decide +kernel
theorem dX12_crossed_35 : decode cX12_crossed 35 = .ok (.getfield 358, 3) := by decide +kernel
theorem dX12_crossed_38 : decode cX12_crossed 38 = .ok (.iconst 1, 1) := by decide +kernel
theorem dX12_crossed_39 : decode cX12_crossed 39 = .ok (.isub, 1) := by decide +kernel
theorem dX12_crossed_40 : decode cX12_crossed 40 = .ok (.i2l, 1) := by decide +kernel
theorem dX12_crossed_41 : decode cX12_crossed 41 = .ok (.invokestatic 238, 3) := by decide +kernel
theorem dX12_crossed_44 : decode cX12_crossed 44 = .ok (.ifCond .eq 17, 3) := by decide +kernel
theorem dX12_crossed_47 : decode cX12_crossed 47 = .ok (.aload_n 0, 1) := by decide +kernel
theorem dX12_crossed_48 : decode cX12_crossed 48 = .ok (.getfield 90, 3) := by decide +kernel
theorem dX12_crossed_51 : decode cX12_crossed 51 = .ok (.bipush 9, 2) := by decide +kernel
theorem dX12_crossed_53 : decode cX12_crossed 53 = .ok (.iload_n 2, 1) := by decide +kernel
theorem dX12_crossed_54 : decode cX12_crossed 54 = .ok (.imul, 1) := by decide +kernel
theorem dX12_crossed_55 : decode cX12_crossed 55 = .ok (.iload_n 3, 1) := by decide +kernel
theorem dX12_crossed_56 : decode cX12_crossed 56 = .ok (.iadd, 1) := by decide +kernel
theorem dX12_crossed_57 : decode cX12_crossed 57 = .ok (.iaload, 1) := by decide +kernel
theorem dX12_crossed_58 : decode cX12_crossed 58 = .ok (.goto 4, 3) := by decide +kernel
theorem dX12_crossed_61 : decode cX12_crossed 61 = .ok (.iconst (-1), 1) := by decide +kernel
theorem dX12_crossed_62 : decode cX12_crossed 62 = .ok (.ireturn, 1) := by decide +kernel
set_option maxRecDepth 20000 in
theorem bk_X12_crossed_0 {d : Nat} {w : hb_W} {Q : Option hb_V → hb_W → Prop} {x1 : Int32} {x2 : Int32} {x3 : Int32} (h : hb_O yX12_isBook cX12_isBook 2 (some .boolean) d [hb_r 12 0 0, hb_i x1] w (fun rv w1 => hb_R yX12_crossed cX12_crossed 4 (some .int) (d + 1) 5 [some (hb_r 12 0 0), some (hb_i x1), some (hb_i x2), some (hb_i x3)] (rv.toList ++ []) w1 Q)) : hb_R yX12_crossed cX12_crossed 4 (some .int) (d + 1) 0 [some (hb_r 12 0 0), some (hb_i x1), some (hb_i x2), some (hb_i x3)] [] w Q := by
  refine hb_aload_n (pc := 0) (i := 0) dX12_crossed_0 rfl rfl ?_
  refine hb_iload_n (pc := 1) (i := 1) dX12_crossed_1 rfl rfl ?_
  exact hb_callV (pc := 2) (As := [hb_i x1]) (st := []) dX12_crossed_2 ml_X12_446 mf_X12_isBook mi_X12_isBook (ci := 12) rfl rfl (by decide) rfl rfl (Nat.le_of_ble_eq_true rfl) (Nat.le_of_ble_eq_true rfl) h (fun _ _ q => q)
set_option maxRecDepth 20000 in
theorem bk_X12_crossed_5 {d : Nat} {w : hb_W} {Q : Option hb_V → hb_W → Prop} {x1 : Int32} {x2 : Int32} {x3 : Int32} {xs0 : Int32} (h : ((¬ xs0 = 0) → hb_O yX12_lays cX12_lays 2 none d [hb_r 12 0 0, hb_i x1] w (fun rv w1 => hb_R yX12_crossed cX12_crossed 4 (some .int) (d + 1) 15 [some (hb_r 12 0 0), some (hb_i x1), some (hb_i x2), some (hb_i x3)] (rv.toList ++ []) w1 Q)) ∧ ((xs0 = 0) → Q (some (hb_i (-1 : Int32))) w)) : hb_R yX12_crossed cX12_crossed 4 (some .int) (d + 1) 5 [some (hb_r 12 0 0), some (hb_i x1), some (hb_i x2), some (hb_i x3)] [hb_i xs0] w Q := by
  refine hb_if_ne (pc := 5) (tgt := 10) dX12_crossed_5 (by decide) (fun c1 => ?_) (fun c1 => ?_)
  · have ht1 := h.1 c1
    refine hb_aload_n (pc := 10) (i := 0) dX12_crossed_10 rfl rfl ?_
    refine hb_iload_n (pc := 11) (i := 1) dX12_crossed_11 rfl rfl ?_
    exact hb_callV (pc := 12) (As := [hb_i x1]) (st := []) dX12_crossed_12 ml_X12_449 mf_X12_lays mi_X12_lays (ci := 12) rfl rfl (by decide) rfl rfl (Nat.le_of_ble_eq_true rfl) (Nat.le_of_ble_eq_true rfl) ht1 (fun _ _ q => q)
  · have ht1 := h.2 c1
    refine hb_iconst (pc := 8) (v := -1) dX12_crossed_8 (by decide) ?_
    exact hb_iret (pc := 9) dX12_crossed_9 rfl ht1
set_option maxRecDepth 20000 in
theorem bk_X12_crossed_15 {d : Nat} {w : hb_W} {Q : Option hb_V → hb_W → Prop} {x1 : Int32} {x2 : Int32} {x3 : Int32} (h : hb_O yX12_rowMany cX12_rowMany 1 (some .int) d [hb_r 12 0 0] w (fun rv w1 => hb_R yX12_crossed cX12_crossed 4 (some .int) (d + 1) 22 [some (hb_r 12 0 0), some (hb_i x1), some (hb_i x2), some (hb_i x3)] (rv.toList ++ [hb_l (0 : Int64), hb_l x2.toInt64]) w1 Q)) : hb_R yX12_crossed cX12_crossed 4 (some .int) (d + 1) 15 [some (hb_r 12 0 0), some (hb_i x1), some (hb_i x2), some (hb_i x3)] [] w Q := by
  refine hb_iload_n (pc := 15) (i := 2) dX12_crossed_15 rfl rfl ?_
  refine hb_i2l (pc := 16) dX12_crossed_16 ?_
  refine hb_lconst (pc := 17) (v := 0) dX12_crossed_17 (by decide) ?_
  refine hb_aload_n (pc := 18) (i := 0) dX12_crossed_18 rfl rfl ?_
  exact hb_callV (pc := 19) (As := []) (st := [hb_l (0 : Int64), hb_l x2.toInt64]) dX12_crossed_19 ml_X12_452 mf_X12_rowMany mi_X12_rowMany (ci := 12) rfl rfl (by decide) rfl rfl (Nat.le_of_ble_eq_true rfl) (Nat.le_of_ble_eq_true rfl) h (fun _ _ q => q)
set_option maxRecDepth 20000 in
theorem bk_X12_crossed_22 {d : Nat} {w : hb_W} {Q : Option hb_V → hb_W → Prop} {x1 : Int32} {x2 : Int32} {x3 : Int32} {ls0 : Int64} {ls1 : Int64} {xs2 : Int32} (h : hb_O yX12_isIn cX12_isIn 6 (some .boolean) d [hb_l ls0, hb_l ls1, hb_l ((xs2 - (1 : Int32)).toInt64)] w (fun rv w1 => hb_R yX12_crossed cX12_crossed 4 (some .int) (d + 1) 28 [some (hb_r 12 0 0), some (hb_i x1), some (hb_i x2), some (hb_i x3)] (rv.toList ++ []) w1 Q)) : hb_R yX12_crossed cX12_crossed 4 (some .int) (d + 1) 22 [some (hb_r 12 0 0), some (hb_i x1), some (hb_i x2), some (hb_i x3)] [hb_i xs2, hb_l ls1, hb_l ls0] w Q := by
  refine hb_iconst (pc := 22) (v := 1) dX12_crossed_22 (by decide) ?_
  refine hb_isub (pc := 23) dX12_crossed_23 ?_
  refine hb_i2l (pc := 24) dX12_crossed_24 ?_
  exact hb_callS (pc := 25) (As := [hb_l ls0, hb_l ls1, hb_l ((xs2 - (1 : Int32)).toInt64)]) (st := []) dX12_crossed_25 ml_X12_238 mf_X12_isIn ms_X12_isIn rfl rfl (Nat.le_of_ble_eq_true rfl) (Nat.le_of_ble_eq_true rfl) h (fun _ _ q => q)
set_option maxRecDepth 20000 in
theorem bk_X12_crossed_28 {d : Nat} {w : hb_W} {Q : Option hb_V → hb_W → Prop} {x1 : Int32} {x2 : Int32} {x3 : Int32} {xs0 : Int32} (h : ((xs0 = 0) → Q (some (hb_i (-1 : Int32))) w) ∧ ((¬ xs0 = 0) → hb_O yX12_isIn cX12_isIn 6 (some .boolean) d [hb_l x3.toInt64, hb_l (0 : Int64), hb_l (((hb_fI w 12 39 0) - (1 : Int32)).toInt64)] w (fun rv w1 => hb_R yX12_crossed cX12_crossed 4 (some .int) (d + 1) 44 [some (hb_r 12 0 0), some (hb_i x1), some (hb_i x2), some (hb_i x3)] (rv.toList ++ []) w1 Q))) : hb_R yX12_crossed cX12_crossed 4 (some .int) (d + 1) 28 [some (hb_r 12 0 0), some (hb_i x1), some (hb_i x2), some (hb_i x3)] [hb_i xs0] w Q := by
  refine hb_if_eq (pc := 28) (tgt := 61) dX12_crossed_28 (by decide) (fun c1 => ?_) (fun c1 => ?_)
  · have ht1 := h.1 c1
    refine hb_iconst (pc := 61) (v := -1) dX12_crossed_61 (by decide) ?_
    exact hb_iret (pc := 62) dX12_crossed_62 rfl ht1
  · have ht1 := h.2 c1
    refine hb_iload_n (pc := 31) (i := 3) dX12_crossed_31 rfl rfl ?_
    refine hb_i2l (pc := 32) dX12_crossed_32 ?_
    refine hb_lconst (pc := 33) (v := 0) dX12_crossed_33 (by decide) ?_
    refine hb_aload_n (pc := 34) (i := 0) dX12_crossed_34 rfl rfl ?_
    refine hb_getIx (pc := 35) (x := hb_fI w 12 39 0) dX12_crossed_35 fw_X12_358 cw_12 rfl (by decide) rfl rfl ?_
    refine hb_iconst (pc := 38) (v := 1) dX12_crossed_38 (by decide) ?_
    refine hb_isub (pc := 39) dX12_crossed_39 ?_
    refine hb_i2l (pc := 40) dX12_crossed_40 ?_
    exact hb_callS (pc := 41) (As := [hb_l x3.toInt64, hb_l (0 : Int64), hb_l (((hb_fI w 12 39 0) - (1 : Int32)).toInt64)]) (st := []) dX12_crossed_41 ml_X12_238 mf_X12_isIn ms_X12_isIn rfl rfl (Nat.le_of_ble_eq_true rfl) (Nat.le_of_ble_eq_true rfl) ht1 (fun _ _ q => q)
set_option maxRecDepth 20000 in
theorem bk_X12_crossed_44 {d : Nat} {w : hb_W} {Q : Option hb_V → hb_W → Prop} {x1 : Int32} {x2 : Int32} {x3 : Int32} {xs0 : Int32} (h : ((xs0 = 0) → Q (some (hb_i (-1 : Int32))) w) ∧ ((¬ xs0 = 0) → vp_in (((9 : Int32) * x2) + x3) 27 ∧ (Q (some (hb_i (hb_aI w 12 26 0 (((9 : Int32) * x2) + x3).toNatClampNeg))) w))) : hb_R yX12_crossed cX12_crossed 4 (some .int) (d + 1) 44 [some (hb_r 12 0 0), some (hb_i x1), some (hb_i x2), some (hb_i x3)] [hb_i xs0] w Q := by
  refine hb_if_eq (pc := 44) (tgt := 61) dX12_crossed_44 (by decide) (fun c1 => ?_) (fun c1 => ?_)
  · have ht1 := h.1 c1
    refine hb_iconst (pc := 61) (v := -1) dX12_crossed_61 (by decide) ?_
    exact hb_iret (pc := 62) dX12_crossed_62 rfl ht1
  · have ht1 := h.2 c1
    refine hb_aload_n (pc := 47) (i := 0) dX12_crossed_47 rfl rfl ?_
    refine hb_getR (pc := 48) (g1 := 0) dX12_crossed_48 fw_X12_90 cw_12 rfl (by decide) rfl (by decide) rfl ?_
    refine hb_bipush (pc := 51) (v := 9) dX12_crossed_51 (by decide) ?_
    refine hb_iload_n (pc := 53) (i := 2) dX12_crossed_53 rfl rfl ?_
    refine hb_imul (pc := 54) dX12_crossed_54 ?_
    refine hb_iload_n (pc := 55) (i := 3) dX12_crossed_55 rfl rfl ?_
    refine hb_iadd (pc := 56) dX12_crossed_56 ?_
    obtain ⟨ho2, hr2⟩ := ht1
    refine hb_ialdx (pc := 57) (x := hb_aI w 12 26 0 (((9 : Int32) * x2) + x3).toNatClampNeg) dX12_crossed_57 rfl (by decide) ho2 rfl ?_
    refine hb_goto (pc := 58) (tgt := 62) dX12_crossed_58 (by decide) ?_
    exact hb_iret (pc := 62) dX12_crossed_62 rfl hr2
theorem dX12_bit_0 : decode cX12_bit 0 = .ok (.aload_n 0, 1) := by decide +kernel
theorem dX12_bit_1 : decode cX12_bit 1 = .ok (.iload_n 1, 1) := by decide +kernel
theorem dX12_bit_2 : decode cX12_bit 2 = .ok (.invokevirtual 446, 3) := by decide +kernel
theorem dX12_bit_5 : decode cX12_bit 5 = .ok (.ifCond .ne 5, 3) := by decide +kernel
theorem dX12_bit_8 : decode cX12_bit 8 = .ok (.iconst (-1), 1) := by decide +kernel
theorem dX12_bit_9 : decode cX12_bit 9 = .ok (.ireturn, 1) := by decide +kernel
theorem dX12_bit_10 : decode cX12_bit 10 = .ok (.aload_n 0, 1) := by decide +kernel
theorem dX12_bit_11 : decode cX12_bit 11 = .ok (.iload_n 1, 1) := by decide +kernel
theorem dX12_bit_12 : decode cX12_bit 12 = .ok (.invokevirtual 449, 3) := by decide +kernel
theorem dX12_bit_15 : decode cX12_bit 15 = .ok (.iload_n 2, 1) := by decide +kernel
theorem dX12_bit_16 : decode cX12_bit 16 = .ok (.i2l, 1) := by decide +kernel
theorem dX12_bit_17 : decode cX12_bit 17 = .ok (.lconst 0, 1) := by decide +kernel
theorem dX12_bit_18 : decode cX12_bit 18 = .ok (.bipush 8, 2) := by decide +kernel
theorem dX12_bit_20 : decode cX12_bit 20 = .ok (.aload_n 0, 1) := by decide +kernel
theorem dX12_bit_21 : decode cX12_bit 21 = .ok (.getfield 358, 3) := by decide +kernel
theorem dX12_bit_24 : decode cX12_bit 24 = .ok (.imul, 1) := by decide +kernel
theorem dX12_bit_25 : decode cX12_bit 25 = .ok (.iconst 1, 1) := by decide +kernel
theorem dX12_bit_26 : decode cX12_bit 26 = .ok (.isub, 1) := by decide +kernel
theorem dX12_bit_27 : decode cX12_bit 27 = .ok (.i2l, 1) := by decide +kernel
theorem dX12_bit_28 : decode cX12_bit 28 = .ok (.invokestatic 238, 3) := by decide +kernel
theorem dX12_bit_31 : decode cX12_bit 31 = .ok (.ifCond .ne 7, 3) := by decide +kernel
theorem dX12_bit_34 : decode cX12_bit 34 = .ok (.iconst (-1), 1) := by decide +kernel
theorem dX12_bit_35 : decode cX12_bit 35 = .ok (.goto 17, 3) := by decide +kernel
theorem dX12_bit_38 : decode cX12_bit 38 = .ok (.aload_n 0, 1) := by decide +kernel
theorem dX12_bit_39 : decode cX12_bit 39 = .ok (.getfield 93, 3) := by decide +kernel
theorem dX12_bit_42 : decode cX12_bit 42 = .ok (.iload_n 2, 1) := by decide +kernel
theorem dX12_bit_43 : decode cX12_bit 43 = .ok (.baload, 1) := by decide +kernel
theorem dX12_bit_44 : decode cX12_bit 44 = .ok (.ifCond .eq 7, 3) := by decide +kernel
theorem dX12_bit_47 : decode cX12_bit 47 = .ok (.iconst 1, 1) := by decide +kernel
theorem dX12_bit_48 : decode cX12_bit 48 = .ok (.goto 4, 3) := by decide +kernel
theorem dX12_bit_51 : decode cX12_bit 51 = .ok (.iconst 0, 1) := by decide +kernel
theorem dX12_bit_52 : decode cX12_bit 52 = .ok (.ireturn, 1) := by decide +kernel
set_option maxRecDepth 20000 in
theorem bk_X12_bit_0 {d : Nat} {w : hb_W} {Q : Option hb_V → hb_W → Prop} {x1 : Int32} {x2 : Int32} (h : hb_O yX12_isBook cX12_isBook 2 (some .boolean) d [hb_r 12 0 0, hb_i x1] w (fun rv w1 => hb_R yX12_bit cX12_bit 3 (some .int) (d + 1) 5 [some (hb_r 12 0 0), some (hb_i x1), some (hb_i x2)] (rv.toList ++ []) w1 Q)) : hb_R yX12_bit cX12_bit 3 (some .int) (d + 1) 0 [some (hb_r 12 0 0), some (hb_i x1), some (hb_i x2)] [] w Q := by
  refine hb_aload_n (pc := 0) (i := 0) dX12_bit_0 rfl rfl ?_
  refine hb_iload_n (pc := 1) (i := 1) dX12_bit_1 rfl rfl ?_
  exact hb_callV (pc := 2) (As := [hb_i x1]) (st := []) dX12_bit_2 ml_X12_446 mf_X12_isBook mi_X12_isBook (ci := 12) rfl rfl (by decide) rfl rfl (Nat.le_of_ble_eq_true rfl) (Nat.le_of_ble_eq_true rfl) h (fun _ _ q => q)
set_option maxRecDepth 20000 in
theorem bk_X12_bit_5 {d : Nat} {w : hb_W} {Q : Option hb_V → hb_W → Prop} {x1 : Int32} {x2 : Int32} {xs0 : Int32} (h : ((¬ xs0 = 0) → hb_O yX12_lays cX12_lays 2 none d [hb_r 12 0 0, hb_i x1] w (fun rv w1 => hb_R yX12_bit cX12_bit 3 (some .int) (d + 1) 15 [some (hb_r 12 0 0), some (hb_i x1), some (hb_i x2)] (rv.toList ++ []) w1 Q)) ∧ ((xs0 = 0) → Q (some (hb_i (-1 : Int32))) w)) : hb_R yX12_bit cX12_bit 3 (some .int) (d + 1) 5 [some (hb_r 12 0 0), some (hb_i x1), some (hb_i x2)] [hb_i xs0] w Q := by
  refine hb_if_ne (pc := 5) (tgt := 10) dX12_bit_5 (by decide) (fun c1 => ?_) (fun c1 => ?_)
  · have ht1 := h.1 c1
    refine hb_aload_n (pc := 10) (i := 0) dX12_bit_10 rfl rfl ?_
    refine hb_iload_n (pc := 11) (i := 1) dX12_bit_11 rfl rfl ?_
    exact hb_callV (pc := 12) (As := [hb_i x1]) (st := []) dX12_bit_12 ml_X12_449 mf_X12_lays mi_X12_lays (ci := 12) rfl rfl (by decide) rfl rfl (Nat.le_of_ble_eq_true rfl) (Nat.le_of_ble_eq_true rfl) ht1 (fun _ _ q => q)
  · have ht1 := h.2 c1
    refine hb_iconst (pc := 8) (v := -1) dX12_bit_8 (by decide) ?_
    exact hb_iret (pc := 9) dX12_bit_9 rfl ht1
set_option maxRecDepth 20000 in
theorem bk_X12_bit_15 {d : Nat} {w : hb_W} {Q : Option hb_V → hb_W → Prop} {x1 : Int32} {x2 : Int32} (h : hb_O yX12_isIn cX12_isIn 6 (some .boolean) d [hb_l x2.toInt64, hb_l (0 : Int64), hb_l ((((8 : Int32) * (hb_fI w 12 39 0)) - (1 : Int32)).toInt64)] w (fun rv w1 => hb_R yX12_bit cX12_bit 3 (some .int) (d + 1) 31 [some (hb_r 12 0 0), some (hb_i x1), some (hb_i x2)] (rv.toList ++ []) w1 Q)) : hb_R yX12_bit cX12_bit 3 (some .int) (d + 1) 15 [some (hb_r 12 0 0), some (hb_i x1), some (hb_i x2)] [] w Q := by
  refine hb_iload_n (pc := 15) (i := 2) dX12_bit_15 rfl rfl ?_
  refine hb_i2l (pc := 16) dX12_bit_16 ?_
  refine hb_lconst (pc := 17) (v := 0) dX12_bit_17 (by decide) ?_
  refine hb_bipush (pc := 18) (v := 8) dX12_bit_18 (by decide) ?_
  refine hb_aload_n (pc := 20) (i := 0) dX12_bit_20 rfl rfl ?_
  refine hb_getIx (pc := 21) (x := hb_fI w 12 39 0) dX12_bit_21 fw_X12_358 cw_12 rfl (by decide) rfl rfl ?_
  refine hb_imul (pc := 24) dX12_bit_24 ?_
  refine hb_iconst (pc := 25) (v := 1) dX12_bit_25 (by decide) ?_
  refine hb_isub (pc := 26) dX12_bit_26 ?_
  refine hb_i2l (pc := 27) dX12_bit_27 ?_
  exact hb_callS (pc := 28) (As := [hb_l x2.toInt64, hb_l (0 : Int64), hb_l ((((8 : Int32) * (hb_fI w 12 39 0)) - (1 : Int32)).toInt64)]) (st := []) dX12_bit_28 ml_X12_238 mf_X12_isIn ms_X12_isIn rfl rfl (Nat.le_of_ble_eq_true rfl) (Nat.le_of_ble_eq_true rfl) h (fun _ _ q => q)
set_option maxRecDepth 20000 in
theorem bk_X12_bit_31 {d : Nat} {w : hb_W} {Q : Option hb_V → hb_W → Prop} {x1 : Int32} {x2 : Int32} {xs0 : Int32} (h : ((¬ xs0 = 0) → vp_in x2 72 ∧ ((((hb_aI w 12 27 0 x2.toNatClampNeg) = 0) → Q (some (hb_i (0 : Int32))) w) ∧ ((¬ (hb_aI w 12 27 0 x2.toNatClampNeg) = 0) → Q (some (hb_i (1 : Int32))) w))) ∧ ((xs0 = 0) → Q (some (hb_i (-1 : Int32))) w)) : hb_R yX12_bit cX12_bit 3 (some .int) (d + 1) 31 [some (hb_r 12 0 0), some (hb_i x1), some (hb_i x2)] [hb_i xs0] w Q := by
  refine hb_if_ne (pc := 31) (tgt := 38) dX12_bit_31 (by decide) (fun c1 => ?_) (fun c1 => ?_)
  · have ht1 := h.1 c1
    refine hb_aload_n (pc := 38) (i := 0) dX12_bit_38 rfl rfl ?_
    refine hb_getR (pc := 39) (g1 := 0) dX12_bit_39 fw_X12_93 cw_12 rfl (by decide) rfl (by decide) rfl ?_
    refine hb_iload_n (pc := 42) (i := 2) dX12_bit_42 rfl rfl ?_
    obtain ⟨ho2, hr2⟩ := ht1
    refine hb_zaldx (pc := 43) (x := hb_aI w 12 27 0 x2.toNatClampNeg) dX12_bit_43 rfl (by decide) ho2 rfl ?_
    refine hb_if_eq (pc := 44) (tgt := 51) dX12_bit_44 (by decide) (fun c3 => ?_) (fun c3 => ?_)
    · have ht3 := hr2.1 c3
      refine hb_iconst (pc := 51) (v := 0) dX12_bit_51 (by decide) ?_
      exact hb_iret (pc := 52) dX12_bit_52 rfl ht3
    · have ht3 := hr2.2 c3
      refine hb_iconst (pc := 47) (v := 1) dX12_bit_47 (by decide) ?_
      refine hb_goto (pc := 48) (tgt := 52) dX12_bit_48 (by decide) ?_
      exact hb_iret (pc := 52) dX12_bit_52 rfl ht3
  · have ht1 := h.2 c1
    refine hb_iconst (pc := 34) (v := -1) dX12_bit_34 (by decide) ?_
    refine hb_goto (pc := 35) (tgt := 52) dX12_bit_35 (by decide) ?_
    exact hb_iret (pc := 52) dX12_bit_52 rfl ht1
theorem dX12_bin_0 : decode cX12_bin 0 = .ok (.aload_n 0, 1) := by decide +kernel
theorem dX12_bin_1 : decode cX12_bin 1 = .ok (.iload_n 1, 1) := by decide +kernel
theorem dX12_bin_2 : decode cX12_bin 2 = .ok (.invokevirtual 446, 3) := by decide +kernel
theorem dX12_bin_5 : decode cX12_bin 5 = .ok (.ifCond .ne 5, 3) := by decide +kernel
theorem dX12_bin_8 : decode cX12_bin 8 = .ok (.iconst (-1), 1) := by decide +kernel
theorem dX12_bin_9 : decode cX12_bin 9 = .ok (.ireturn, 1) := by decide +kernel
theorem dX12_bin_10 : decode cX12_bin 10 = .ok (.aload_n 0, 1) := by decide +kernel
theorem dX12_bin_11 : decode cX12_bin 11 = .ok (.iload_n 1, 1) := by decide +kernel
theorem dX12_bin_12 : decode cX12_bin 12 = .ok (.invokevirtual 449, 3) := by decide +kernel
theorem dX12_bin_15 : decode cX12_bin 15 = .ok (.iload_n 2, 1) := by decide +kernel
theorem dX12_bin_16 : decode cX12_bin 16 = .ok (.i2l, 1) := by decide +kernel
theorem dX12_bin_17 : decode cX12_bin 17 = .ok (.lconst 0, 1) := by decide +kernel
theorem dX12_bin_18 : decode cX12_bin 18 = .ok (.aload_n 0, 1) := by decide +kernel
theorem dX12_bin_19 : decode cX12_bin 19 = .ok (.getfield 358, 3) := by decide +kernel
theorem dX12_bin_22 : decode cX12_bin 22 = .ok (.iconst 1, 1) := by decide +kernel
theorem dX12_bin_23 : decode cX12_bin 23 = .ok (.isub, 1) := by decide +kernel
theorem dX12_bin_24 : decode cX12_bin 24 = .ok (.i2l, 1) := by decide +kernel
theorem dX12_bin_25 : decode cX12_bin 25 = .ok (.invokestatic 238, 3) := by decide +kernel
theorem dX12_bin_28 : decode cX12_bin 28 = .ok (.ifCond .eq 12, 3) := by decide +kernel
theorem dX12_bin_31 : decode cX12_bin 31 = .ok (.aload_n 0, 1) := by decide +kernel
theorem dX12_bin_32 : decode cX12_bin 32 = .ok (.getfield 97, 3) := by decide +kernel
theorem dX12_bin_35 : decode cX12_bin 35 = .ok (.iload_n 2, 1) := by decide +kernel
theorem dX12_bin_36 : decode cX12_bin 36 = .ok (.iaload, 1) := by decide +kernel
theorem dX12_bin_37 : decode cX12_bin 37 = .ok (.goto 4, 3) := by decide +kernel
theorem dX12_bin_40 : decode cX12_bin 40 = .ok (.iconst (-1), 1) := by decide +kernel
theorem dX12_bin_41 : decode cX12_bin 41 = .ok (.ireturn, 1) := by decide +kernel
set_option maxRecDepth 20000 in
theorem bk_X12_bin_0 {d : Nat} {w : hb_W} {Q : Option hb_V → hb_W → Prop} {x1 : Int32} {x2 : Int32} (h : hb_O yX12_isBook cX12_isBook 2 (some .boolean) d [hb_r 12 0 0, hb_i x1] w (fun rv w1 => hb_R yX12_bin cX12_bin 3 (some .int) (d + 1) 5 [some (hb_r 12 0 0), some (hb_i x1), some (hb_i x2)] (rv.toList ++ []) w1 Q)) : hb_R yX12_bin cX12_bin 3 (some .int) (d + 1) 0 [some (hb_r 12 0 0), some (hb_i x1), some (hb_i x2)] [] w Q := by
  refine hb_aload_n (pc := 0) (i := 0) dX12_bin_0 rfl rfl ?_
  refine hb_iload_n (pc := 1) (i := 1) dX12_bin_1 rfl rfl ?_
  exact hb_callV (pc := 2) (As := [hb_i x1]) (st := []) dX12_bin_2 ml_X12_446 mf_X12_isBook mi_X12_isBook (ci := 12) rfl rfl (by decide) rfl rfl (Nat.le_of_ble_eq_true rfl) (Nat.le_of_ble_eq_true rfl) h (fun _ _ q => q)
set_option maxRecDepth 20000 in
theorem bk_X12_bin_5 {d : Nat} {w : hb_W} {Q : Option hb_V → hb_W → Prop} {x1 : Int32} {x2 : Int32} {xs0 : Int32} (h : ((¬ xs0 = 0) → hb_O yX12_lays cX12_lays 2 none d [hb_r 12 0 0, hb_i x1] w (fun rv w1 => hb_R yX12_bin cX12_bin 3 (some .int) (d + 1) 15 [some (hb_r 12 0 0), some (hb_i x1), some (hb_i x2)] (rv.toList ++ []) w1 Q)) ∧ ((xs0 = 0) → Q (some (hb_i (-1 : Int32))) w)) : hb_R yX12_bin cX12_bin 3 (some .int) (d + 1) 5 [some (hb_r 12 0 0), some (hb_i x1), some (hb_i x2)] [hb_i xs0] w Q := by
  refine hb_if_ne (pc := 5) (tgt := 10) dX12_bin_5 (by decide) (fun c1 => ?_) (fun c1 => ?_)
  · have ht1 := h.1 c1
    refine hb_aload_n (pc := 10) (i := 0) dX12_bin_10 rfl rfl ?_
    refine hb_iload_n (pc := 11) (i := 1) dX12_bin_11 rfl rfl ?_
    exact hb_callV (pc := 12) (As := [hb_i x1]) (st := []) dX12_bin_12 ml_X12_449 mf_X12_lays mi_X12_lays (ci := 12) rfl rfl (by decide) rfl rfl (Nat.le_of_ble_eq_true rfl) (Nat.le_of_ble_eq_true rfl) ht1 (fun _ _ q => q)
  · have ht1 := h.2 c1
    refine hb_iconst (pc := 8) (v := -1) dX12_bin_8 (by decide) ?_
    exact hb_iret (pc := 9) dX12_bin_9 rfl ht1
set_option maxRecDepth 20000 in
theorem bk_X12_bin_15 {d : Nat} {w : hb_W} {Q : Option hb_V → hb_W → Prop} {x1 : Int32} {x2 : Int32} (h : hb_O yX12_isIn cX12_isIn 6 (some .boolean) d [hb_l x2.toInt64, hb_l (0 : Int64), hb_l (((hb_fI w 12 39 0) - (1 : Int32)).toInt64)] w (fun rv w1 => hb_R yX12_bin cX12_bin 3 (some .int) (d + 1) 28 [some (hb_r 12 0 0), some (hb_i x1), some (hb_i x2)] (rv.toList ++ []) w1 Q)) : hb_R yX12_bin cX12_bin 3 (some .int) (d + 1) 15 [some (hb_r 12 0 0), some (hb_i x1), some (hb_i x2)] [] w Q := by
  refine hb_iload_n (pc := 15) (i := 2) dX12_bin_15 rfl rfl ?_
  refine hb_i2l (pc := 16) dX12_bin_16 ?_
  refine hb_lconst (pc := 17) (v := 0) dX12_bin_17 (by decide) ?_
  refine hb_aload_n (pc := 18) (i := 0) dX12_bin_18 rfl rfl ?_
  refine hb_getIx (pc := 19) (x := hb_fI w 12 39 0) dX12_bin_19 fw_X12_358 cw_12 rfl (by decide) rfl rfl ?_
  refine hb_iconst (pc := 22) (v := 1) dX12_bin_22 (by decide) ?_
  refine hb_isub (pc := 23) dX12_bin_23 ?_
  refine hb_i2l (pc := 24) dX12_bin_24 ?_
  exact hb_callS (pc := 25) (As := [hb_l x2.toInt64, hb_l (0 : Int64), hb_l (((hb_fI w 12 39 0) - (1 : Int32)).toInt64)]) (st := []) dX12_bin_25 ml_X12_238 mf_X12_isIn ms_X12_isIn rfl rfl (Nat.le_of_ble_eq_true rfl) (Nat.le_of_ble_eq_true rfl) h (fun _ _ q => q)
set_option maxRecDepth 20000 in
theorem bk_X12_bin_28 {d : Nat} {w : hb_W} {Q : Option hb_V → hb_W → Prop} {x1 : Int32} {x2 : Int32} {xs0 : Int32} (h : ((xs0 = 0) → Q (some (hb_i (-1 : Int32))) w) ∧ ((¬ xs0 = 0) → vp_in x2 9 ∧ (Q (some (hb_i (hb_aI w 12 28 0 x2.toNatClampNeg))) w))) : hb_R yX12_bin cX12_bin 3 (some .int) (d + 1) 28 [some (hb_r 12 0 0), some (hb_i x1), some (hb_i x2)] [hb_i xs0] w Q := by
  refine hb_if_eq (pc := 28) (tgt := 40) dX12_bin_28 (by decide) (fun c1 => ?_) (fun c1 => ?_)
  · have ht1 := h.1 c1
    refine hb_iconst (pc := 40) (v := -1) dX12_bin_40 (by decide) ?_
    exact hb_iret (pc := 41) dX12_bin_41 rfl ht1
  · have ht1 := h.2 c1
    refine hb_aload_n (pc := 31) (i := 0) dX12_bin_31 rfl rfl ?_
    refine hb_getR (pc := 32) (g1 := 0) dX12_bin_32 fw_X12_97 cw_12 rfl (by decide) rfl (by decide) rfl ?_
    refine hb_iload_n (pc := 35) (i := 2) dX12_bin_35 rfl rfl ?_
    obtain ⟨ho2, hr2⟩ := ht1
    refine hb_ialdx (pc := 36) (x := hb_aI w 12 28 0 x2.toNatClampNeg) dX12_bin_36 rfl (by decide) ho2 rfl ?_
    refine hb_goto (pc := 37) (tgt := 41) dX12_bin_37 (by decide) ?_
    exact hb_iret (pc := 41) dX12_bin_41 rfl hr2
theorem dX12_sign_0 : decode cX12_sign 0 = .ok (.aload_n 0, 1) := by decide +kernel
theorem dX12_sign_1 : decode cX12_sign 1 = .ok (.iload_n 1, 1) := by decide +kernel
theorem dX12_sign_2 : decode cX12_sign 2 = .ok (.invokevirtual 446, 3) := by decide +kernel
theorem dX12_sign_5 : decode cX12_sign 5 = .ok (.ifCond .ne 5, 3) := by decide +kernel
theorem dX12_sign_8 : decode cX12_sign 8 = .ok (.iconst (-1), 1) := by decide +kernel
theorem dX12_sign_9 : decode cX12_sign 9 = .ok (.ireturn, 1) := by decide +kernel
theorem dX12_sign_10 : decode cX12_sign 10 = .ok (.aload_n 0, 1) := by decide +kernel
theorem dX12_sign_11 : decode cX12_sign 11 = .ok (.iload_n 1, 1) := by decide +kernel
theorem dX12_sign_12 : decode cX12_sign 12 = .ok (.invokevirtual 449, 3) := by decide +kernel
theorem dX12_sign_15 : decode cX12_sign 15 = .ok (.iload_n 2, 1) := by decide +kernel
theorem dX12_sign_16 : decode cX12_sign 16 = .ok (.i2l, 1) := by decide +kernel
theorem dX12_sign_17 : decode cX12_sign 17 = .ok (.lconst 0, 1) := by decide +kernel
theorem dX12_sign_18 : decode cX12_sign 18 = .ok (.aload_n 0, 1) := by decide +kernel
theorem dX12_sign_19 : decode cX12_sign 19 = .ok (.getfield 358, 3) := by decide +kernel
theorem dX12_sign_22 : decode cX12_sign 22 = .ok (.iconst 1, 1) := by decide +kernel
theorem dX12_sign_23 : decode cX12_sign 23 = .ok (.isub, 1) := by decide +kernel
theorem dX12_sign_24 : decode cX12_sign 24 = .ok (.i2l, 1) := by decide +kernel
theorem dX12_sign_25 : decode cX12_sign 25 = .ok (.invokestatic 238, 3) := by decide +kernel
theorem dX12_sign_28 : decode cX12_sign 28 = .ok (.ifCond .eq 12, 3) := by decide +kernel
theorem dX12_sign_31 : decode cX12_sign 31 = .ok (.aload_n 0, 1) := by decide +kernel
theorem dX12_sign_32 : decode cX12_sign 32 = .ok (.getfield 100, 3) := by decide +kernel
theorem dX12_sign_35 : decode cX12_sign 35 = .ok (.iload_n 2, 1) := by decide +kernel
theorem dX12_sign_36 : decode cX12_sign 36 = .ok (.iaload, 1) := by decide +kernel
theorem dX12_sign_37 : decode cX12_sign 37 = .ok (.goto 4, 3) := by decide +kernel
theorem dX12_sign_40 : decode cX12_sign 40 = .ok (.iconst (-1), 1) := by decide +kernel
theorem dX12_sign_41 : decode cX12_sign 41 = .ok (.ireturn, 1) := by decide +kernel
set_option maxRecDepth 20000 in
theorem bk_X12_sign_0 {d : Nat} {w : hb_W} {Q : Option hb_V → hb_W → Prop} {x1 : Int32} {x2 : Int32} (h : hb_O yX12_isBook cX12_isBook 2 (some .boolean) d [hb_r 12 0 0, hb_i x1] w (fun rv w1 => hb_R yX12_sign cX12_sign 3 (some .int) (d + 1) 5 [some (hb_r 12 0 0), some (hb_i x1), some (hb_i x2)] (rv.toList ++ []) w1 Q)) : hb_R yX12_sign cX12_sign 3 (some .int) (d + 1) 0 [some (hb_r 12 0 0), some (hb_i x1), some (hb_i x2)] [] w Q := by
  refine hb_aload_n (pc := 0) (i := 0) dX12_sign_0 rfl rfl ?_
  refine hb_iload_n (pc := 1) (i := 1) dX12_sign_1 rfl rfl ?_
  exact hb_callV (pc := 2) (As := [hb_i x1]) (st := []) dX12_sign_2 ml_X12_446 mf_X12_isBook mi_X12_isBook (ci := 12) rfl rfl (by decide) rfl rfl (Nat.le_of_ble_eq_true rfl) (Nat.le_of_ble_eq_true rfl) h (fun _ _ q => q)
set_option maxRecDepth 20000 in
theorem bk_X12_sign_5 {d : Nat} {w : hb_W} {Q : Option hb_V → hb_W → Prop} {x1 : Int32} {x2 : Int32} {xs0 : Int32} (h : ((¬ xs0 = 0) → hb_O yX12_lays cX12_lays 2 none d [hb_r 12 0 0, hb_i x1] w (fun rv w1 => hb_R yX12_sign cX12_sign 3 (some .int) (d + 1) 15 [some (hb_r 12 0 0), some (hb_i x1), some (hb_i x2)] (rv.toList ++ []) w1 Q)) ∧ ((xs0 = 0) → Q (some (hb_i (-1 : Int32))) w)) : hb_R yX12_sign cX12_sign 3 (some .int) (d + 1) 5 [some (hb_r 12 0 0), some (hb_i x1), some (hb_i x2)] [hb_i xs0] w Q := by
  refine hb_if_ne (pc := 5) (tgt := 10) dX12_sign_5 (by decide) (fun c1 => ?_) (fun c1 => ?_)
  · have ht1 := h.1 c1
    refine hb_aload_n (pc := 10) (i := 0) dX12_sign_10 rfl rfl ?_
    refine hb_iload_n (pc := 11) (i := 1) dX12_sign_11 rfl rfl ?_
    exact hb_callV (pc := 12) (As := [hb_i x1]) (st := []) dX12_sign_12 ml_X12_449 mf_X12_lays mi_X12_lays (ci := 12) rfl rfl (by decide) rfl rfl (Nat.le_of_ble_eq_true rfl) (Nat.le_of_ble_eq_true rfl) ht1 (fun _ _ q => q)
  · have ht1 := h.2 c1
    refine hb_iconst (pc := 8) (v := -1) dX12_sign_8 (by decide) ?_
    exact hb_iret (pc := 9) dX12_sign_9 rfl ht1
set_option maxRecDepth 20000 in
theorem bk_X12_sign_15 {d : Nat} {w : hb_W} {Q : Option hb_V → hb_W → Prop} {x1 : Int32} {x2 : Int32} (h : hb_O yX12_isIn cX12_isIn 6 (some .boolean) d [hb_l x2.toInt64, hb_l (0 : Int64), hb_l (((hb_fI w 12 39 0) - (1 : Int32)).toInt64)] w (fun rv w1 => hb_R yX12_sign cX12_sign 3 (some .int) (d + 1) 28 [some (hb_r 12 0 0), some (hb_i x1), some (hb_i x2)] (rv.toList ++ []) w1 Q)) : hb_R yX12_sign cX12_sign 3 (some .int) (d + 1) 15 [some (hb_r 12 0 0), some (hb_i x1), some (hb_i x2)] [] w Q := by
  refine hb_iload_n (pc := 15) (i := 2) dX12_sign_15 rfl rfl ?_
  refine hb_i2l (pc := 16) dX12_sign_16 ?_
  refine hb_lconst (pc := 17) (v := 0) dX12_sign_17 (by decide) ?_
  refine hb_aload_n (pc := 18) (i := 0) dX12_sign_18 rfl rfl ?_
  refine hb_getIx (pc := 19) (x := hb_fI w 12 39 0) dX12_sign_19 fw_X12_358 cw_12 rfl (by decide) rfl rfl ?_
  refine hb_iconst (pc := 22) (v := 1) dX12_sign_22 (by decide) ?_
  refine hb_isub (pc := 23) dX12_sign_23 ?_
  refine hb_i2l (pc := 24) dX12_sign_24 ?_
  exact hb_callS (pc := 25) (As := [hb_l x2.toInt64, hb_l (0 : Int64), hb_l (((hb_fI w 12 39 0) - (1 : Int32)).toInt64)]) (st := []) dX12_sign_25 ml_X12_238 mf_X12_isIn ms_X12_isIn rfl rfl (Nat.le_of_ble_eq_true rfl) (Nat.le_of_ble_eq_true rfl) h (fun _ _ q => q)
set_option maxRecDepth 20000 in
theorem bk_X12_sign_28 {d : Nat} {w : hb_W} {Q : Option hb_V → hb_W → Prop} {x1 : Int32} {x2 : Int32} {xs0 : Int32} (h : ((xs0 = 0) → Q (some (hb_i (-1 : Int32))) w) ∧ ((¬ xs0 = 0) → vp_in x2 9 ∧ (Q (some (hb_i (hb_aI w 12 29 0 x2.toNatClampNeg))) w))) : hb_R yX12_sign cX12_sign 3 (some .int) (d + 1) 28 [some (hb_r 12 0 0), some (hb_i x1), some (hb_i x2)] [hb_i xs0] w Q := by
  refine hb_if_eq (pc := 28) (tgt := 40) dX12_sign_28 (by decide) (fun c1 => ?_) (fun c1 => ?_)
  · have ht1 := h.1 c1
    refine hb_iconst (pc := 40) (v := -1) dX12_sign_40 (by decide) ?_
    exact hb_iret (pc := 41) dX12_sign_41 rfl ht1
  · have ht1 := h.2 c1
    refine hb_aload_n (pc := 31) (i := 0) dX12_sign_31 rfl rfl ?_
    refine hb_getR (pc := 32) (g1 := 0) dX12_sign_32 fw_X12_100 cw_12 rfl (by decide) rfl (by decide) rfl ?_
    refine hb_iload_n (pc := 35) (i := 2) dX12_sign_35 rfl rfl ?_
    obtain ⟨ho2, hr2⟩ := ht1
    refine hb_ialdx (pc := 36) (x := hb_aI w 12 29 0 x2.toNatClampNeg) dX12_sign_36 rfl (by decide) ho2 rfl ?_
    refine hb_goto (pc := 37) (tgt := 41) dX12_sign_37 (by decide) ?_
    exact hb_iret (pc := 41) dX12_sign_41 rfl hr2
theorem dX12_lot_0 : decode cX12_lot 0 = .ok (.aload_n 0, 1) := by decide +kernel
theorem dX12_lot_1 : decode cX12_lot 1 = .ok (.getfield 302, 3) := by decide +kernel
theorem dX12_lot_4 : decode cX12_lot 4 = .ok (.ifCond .eq 32, 3) := by decide +kernel
theorem dX12_lot_7 : decode cX12_lot 7 = .ok (.iload_n 1, 1) := by decide +kernel
theorem dX12_lot_8 : decode cX12_lot 8 = .ok (.i2l, 1) := by decide +kernel
theorem dX12_lot_9 : decode cX12_lot 9 = .ok (.lconst 0, 1) := by decide +kernel
theorem dX12_lot_10 : decode cX12_lot 10 = .ok (.aload_n 0, 1) := by decide +kernel
theorem dX12_lot_11 : decode cX12_lot 11 = .ok (.getfield 51, 3) := by decide +kernel
theorem dX12_lot_14 : decode cX12_lot 14 = .ok (.iconst 2, 1) := by decide +kernel
theorem dX12_lot_15 : decode cX12_lot 15 = .ok (.iaload, 1) := by decide +kernel
theorem dX12_lot_16 : decode cX12_lot 16 = .ok (.iconst 1, 1) := by decide +kernel
theorem dX12_lot_17 : decode cX12_lot 17 = .ok (.isub, 1) := by decide +kernel
theorem dX12_lot_18 : decode cX12_lot 18 = .ok (.i2l, 1) := by decide +kernel
theorem dX12_lot_19 : decode cX12_lot 19 = .ok (.invokestatic 238, 3) := by decide +kernel
theorem dX12_lot_22 : decode cX12_lot 22 = .ok (.ifCond .eq 14, 3) := by decide +kernel
theorem dX12_lot_25 : decode cX12_lot 25 = .ok (.aload_n 0, 1) := by decide +kernel
theorem dX12_lot_26 : decode cX12_lot 26 = .ok (.getfield 66, 3) := by decide +kernel
theorem dX12_lot_29 : decode cX12_lot 29 = .ok (.iconst 2, 1) := by decide +kernel
theorem dX12_lot_30 : decode cX12_lot 30 = .ok (.iload_n 1, 1) := by decide +kernel
theorem dX12_lot_31 : decode cX12_lot 31 = .ok (.iadd, 1) := by decide +kernel
theorem dX12_lot_32 : decode cX12_lot 32 = .ok (.iaload, 1) := by decide +kernel
theorem dX12_lot_33 : decode cX12_lot 33 = .ok (.goto 4, 3) := by decide +kernel
theorem dX12_lot_36 : decode cX12_lot 36 = .ok (.iconst (-1), 1) := by decide +kernel
theorem dX12_lot_37 : decode cX12_lot 37 = .ok (.ireturn, 1) := by decide +kernel
set_option maxRecDepth 20000 in
theorem bk_X12_lot_0 {d : Nat} {w : hb_W} {Q : Option hb_V → hb_W → Prop} {x1 : Int32} (h : (((hb_fI w 12 30 0) = 0) → Q (some (hb_i (-1 : Int32))) w) ∧ ((¬ (hb_fI w 12 30 0) = 0) → hb_O yX12_isIn cX12_isIn 6 (some .boolean) d [hb_l x1.toInt64, hb_l (0 : Int64), hb_l (((hb_aI w 12 13 0 (2 : Int32).toNatClampNeg) - (1 : Int32)).toInt64)] w (fun rv w1 => hb_R yX12_lot cX12_lot 2 (some .int) (d + 1) 22 [some (hb_r 12 0 0), some (hb_i x1)] (rv.toList ++ []) w1 Q))) : hb_R yX12_lot cX12_lot 2 (some .int) (d + 1) 0 [some (hb_r 12 0 0), some (hb_i x1)] [] w Q := by
  refine hb_aload_n (pc := 0) (i := 0) dX12_lot_0 rfl rfl ?_
  refine hb_getIx (pc := 1) (x := hb_fI w 12 30 0) dX12_lot_1 fw_X12_302 cw_12 rfl (by decide) rfl rfl ?_
  refine hb_if_eq (pc := 4) (tgt := 36) dX12_lot_4 (by decide) (fun c1 => ?_) (fun c1 => ?_)
  · have ht1 := h.1 c1
    refine hb_iconst (pc := 36) (v := -1) dX12_lot_36 (by decide) ?_
    exact hb_iret (pc := 37) dX12_lot_37 rfl ht1
  · have ht1 := h.2 c1
    refine hb_iload_n (pc := 7) (i := 1) dX12_lot_7 rfl rfl ?_
    refine hb_i2l (pc := 8) dX12_lot_8 ?_
    refine hb_lconst (pc := 9) (v := 0) dX12_lot_9 (by decide) ?_
    refine hb_aload_n (pc := 10) (i := 0) dX12_lot_10 rfl rfl ?_
    refine hb_getR (pc := 11) (g1 := 0) dX12_lot_11 fw_X12_51 cw_12 rfl (by decide) rfl (by decide) rfl ?_
    refine hb_iconst (pc := 14) (v := 2) dX12_lot_14 (by decide) ?_
    refine hb_ialdx (pc := 15) (x := hb_aI w 12 13 0 (2 : Int32).toNatClampNeg) dX12_lot_15 (n := 6) rfl (by decide) (by unfold vp_in; decide) rfl ?_
    refine hb_iconst (pc := 16) (v := 1) dX12_lot_16 (by decide) ?_
    refine hb_isub (pc := 17) dX12_lot_17 ?_
    refine hb_i2l (pc := 18) dX12_lot_18 ?_
    exact hb_callS (pc := 19) (As := [hb_l x1.toInt64, hb_l (0 : Int64), hb_l (((hb_aI w 12 13 0 (2 : Int32).toNatClampNeg) - (1 : Int32)).toInt64)]) (st := []) dX12_lot_19 ml_X12_238 mf_X12_isIn ms_X12_isIn rfl rfl (Nat.le_of_ble_eq_true rfl) (Nat.le_of_ble_eq_true rfl) ht1 (fun _ _ q => q)
set_option maxRecDepth 20000 in
theorem bk_X12_lot_22 {d : Nat} {w : hb_W} {Q : Option hb_V → hb_W → Prop} {x1 : Int32} {xs0 : Int32} (h : ((xs0 = 0) → Q (some (hb_i (-1 : Int32))) w) ∧ ((¬ xs0 = 0) → vp_in ((2 : Int32) + x1) 11 ∧ (Q (some (hb_i (hb_aI w 12 18 0 ((2 : Int32) + x1).toNatClampNeg))) w))) : hb_R yX12_lot cX12_lot 2 (some .int) (d + 1) 22 [some (hb_r 12 0 0), some (hb_i x1)] [hb_i xs0] w Q := by
  refine hb_if_eq (pc := 22) (tgt := 36) dX12_lot_22 (by decide) (fun c1 => ?_) (fun c1 => ?_)
  · have ht1 := h.1 c1
    refine hb_iconst (pc := 36) (v := -1) dX12_lot_36 (by decide) ?_
    exact hb_iret (pc := 37) dX12_lot_37 rfl ht1
  · have ht1 := h.2 c1
    refine hb_aload_n (pc := 25) (i := 0) dX12_lot_25 rfl rfl ?_
    refine hb_getR (pc := 26) (g1 := 0) dX12_lot_26 fw_X12_66 cw_12 rfl (by decide) rfl (by decide) rfl ?_
    refine hb_iconst (pc := 29) (v := 2) dX12_lot_29 (by decide) ?_
    refine hb_iload_n (pc := 30) (i := 1) dX12_lot_30 rfl rfl ?_
    refine hb_iadd (pc := 31) dX12_lot_31 ?_
    obtain ⟨ho2, hr2⟩ := ht1
    refine hb_ialdx (pc := 32) (x := hb_aI w 12 18 0 ((2 : Int32) + x1).toNatClampNeg) dX12_lot_32 rfl (by decide) ho2 rfl ?_
    refine hb_goto (pc := 33) (tgt := 37) dX12_lot_33 (by decide) ?_
    exact hb_iret (pc := 37) dX12_lot_37 rfl hr2
theorem dX12_says_0 : decode cX12_says 0 = .ok (.aload_n 0, 1) := by decide +kernel
theorem dX12_says_1 : decode cX12_says 1 = .ok (.iload_n 1, 1) := by decide +kernel
theorem dX12_says_2 : decode cX12_says 2 = .ok (.invokevirtual 446, 3) := by decide +kernel
theorem dX12_says_5 : decode cX12_says 5 = .ok (.ifCond .ne 5, 3) := by decide +kernel
theorem dX12_says_8 : decode cX12_says 8 = .ok (.iconst (-1), 1) := by decide +kernel
theorem dX12_says_9 : decode cX12_says 9 = .ok (.ireturn, 1) := by decide +kernel
theorem dX12_says_10 : decode cX12_says 10 = .ok (.aload_n 0, 1) := by decide +kernel
theorem dX12_says_11 : decode cX12_says 11 = .ok (.iload_n 1, 1) := by decide +kernel
theorem dX12_says_12 : decode cX12_says 12 = .ok (.invokevirtual 449, 3) := by decide +kernel
theorem dX12_says_15 : decode cX12_says 15 = .ok (.iload_n 2, 1) := by decide +kernel
theorem dX12_says_16 : decode cX12_says 16 = .ok (.tableswitch 52 0 3 #[32, 37, 42, 47], 32) := by decide +kernel
theorem dX12_says_48 : decode cX12_says 48 = .ok (.aload_n 0, 1) := by decide +kernel
theorem dX12_says_49 : decode cX12_says 49 = .ok (.invokevirtual 411, 3) := by decide +kernel
theorem dX12_says_52 : decode cX12_says 52 = .ok (.ireturn, 1) := by decide +kernel
theorem dX12_says_53 : decode cX12_says 53 = .ok (.aload_n 0, 1) := by decide +kernel
theorem dX12_says_54 : decode cX12_says 54 = .ok (.invokevirtual 417, 3) := by decide +kernel
theorem dX12_says_57 : decode cX12_says 57 = .ok (.ireturn, 1) := by decide +kernel
theorem dX12_says_58 : decode cX12_says 58 = .ok (.aload_n 0, 1) := by decide +kernel
theorem dX12_says_59 : decode cX12_says 59 = .ok (.invokevirtual 426, 3) := by decide +kernel
theorem dX12_says_62 : decode cX12_says 62 = .ok (.ireturn, 1) := by decide +kernel
theorem dX12_says_63 : decode cX12_says 63 = .ok (.aload_n 0, 1) := by decide +kernel
theorem dX12_says_64 : decode cX12_says 64 = .ok (.invokevirtual 455, 3) := by decide +kernel
theorem dX12_says_67 : decode cX12_says 67 = .ok (.ireturn, 1) := by decide +kernel
theorem dX12_says_68 : decode cX12_says 68 = .ok (.iconst (-1), 1) := by decide +kernel
theorem dX12_says_69 : decode cX12_says 69 = .ok (.ireturn, 1) := by decide +kernel
set_option maxRecDepth 20000 in
theorem bk_X12_says_0 {d : Nat} {w : hb_W} {Q : Option hb_V → hb_W → Prop} {x1 : Int32} {x2 : Int32} (h : hb_O yX12_isBook cX12_isBook 2 (some .boolean) d [hb_r 12 0 0, hb_i x1] w (fun rv w1 => hb_R yX12_says cX12_says 3 (some .int) (d + 1) 5 [some (hb_r 12 0 0), some (hb_i x1), some (hb_i x2)] (rv.toList ++ []) w1 Q)) : hb_R yX12_says cX12_says 3 (some .int) (d + 1) 0 [some (hb_r 12 0 0), some (hb_i x1), some (hb_i x2)] [] w Q := by
  refine hb_aload_n (pc := 0) (i := 0) dX12_says_0 rfl rfl ?_
  refine hb_iload_n (pc := 1) (i := 1) dX12_says_1 rfl rfl ?_
  exact hb_callV (pc := 2) (As := [hb_i x1]) (st := []) dX12_says_2 ml_X12_446 mf_X12_isBook mi_X12_isBook (ci := 12) rfl rfl (by decide) rfl rfl (Nat.le_of_ble_eq_true rfl) (Nat.le_of_ble_eq_true rfl) h (fun _ _ q => q)
set_option maxRecDepth 20000 in
theorem bk_X12_says_5 {d : Nat} {w : hb_W} {Q : Option hb_V → hb_W → Prop} {x1 : Int32} {x2 : Int32} {xs0 : Int32} (h : ((¬ xs0 = 0) → hb_O yX12_lays cX12_lays 2 none d [hb_r 12 0 0, hb_i x1] w (fun rv w1 => hb_R yX12_says cX12_says 3 (some .int) (d + 1) 15 [some (hb_r 12 0 0), some (hb_i x1), some (hb_i x2)] (rv.toList ++ []) w1 Q)) ∧ ((xs0 = 0) → Q (some (hb_i (-1 : Int32))) w)) : hb_R yX12_says cX12_says 3 (some .int) (d + 1) 5 [some (hb_r 12 0 0), some (hb_i x1), some (hb_i x2)] [hb_i xs0] w Q := by
  refine hb_if_ne (pc := 5) (tgt := 10) dX12_says_5 (by decide) (fun c1 => ?_) (fun c1 => ?_)
  · have ht1 := h.1 c1
    refine hb_aload_n (pc := 10) (i := 0) dX12_says_10 rfl rfl ?_
    refine hb_iload_n (pc := 11) (i := 1) dX12_says_11 rfl rfl ?_
    exact hb_callV (pc := 12) (As := [hb_i x1]) (st := []) dX12_says_12 ml_X12_449 mf_X12_lays mi_X12_lays (ci := 12) rfl rfl (by decide) rfl rfl (Nat.le_of_ble_eq_true rfl) (Nat.le_of_ble_eq_true rfl) ht1 (fun _ _ q => q)
  · have ht1 := h.2 c1
    refine hb_iconst (pc := 8) (v := -1) dX12_says_8 (by decide) ?_
    exact hb_iret (pc := 9) dX12_says_9 rfl ht1
set_option maxRecDepth 20000 in
theorem bk_X12_says_15 {d : Nat} {w : hb_W} {Q : Option hb_V → hb_W → Prop} {x1 : Int32} {x2 : Int32} (h : (x2 = (0 : Int32) → hb_O yX12_unlikeSaid cX12_unlikeSaid 2 (some .int) d [hb_r 12 0 0] w (fun rv w1 => hb_R yX12_says cX12_says 3 (some .int) (d + 1) 52 [some (hb_r 12 0 0), some (hb_i x1), some (hb_i x2)] (rv.toList ++ []) w1 Q)) ∧ (x2 = (1 : Int32) → hb_O yX12_runsSaid cX12_runsSaid 1 (some .int) d [hb_r 12 0 0] w (fun rv w1 => hb_R yX12_says cX12_says 3 (some .int) (d + 1) 57 [some (hb_r 12 0 0), some (hb_i x1), some (hb_i x2)] (rv.toList ++ []) w1 Q)) ∧ (x2 = (2 : Int32) → hb_O yX12_middleSaid cX12_middleSaid 3 (some .int) d [hb_r 12 0 0] w (fun rv w1 => hb_R yX12_says cX12_says 3 (some .int) (d + 1) 62 [some (hb_r 12 0 0), some (hb_i x1), some (hb_i x2)] (rv.toList ++ []) w1 Q)) ∧ (x2 = (3 : Int32) → hb_O yX12_oftenSaid cX12_oftenSaid 3 (some .int) d [hb_r 12 0 0] w (fun rv w1 => hb_R yX12_says cX12_says 3 (some .int) (d + 1) 67 [some (hb_r 12 0 0), some (hb_i x1), some (hb_i x2)] (rv.toList ++ []) w1 Q)) ∧ (¬ x2 = (0 : Int32) → ¬ x2 = (1 : Int32) → ¬ x2 = (2 : Int32) → ¬ x2 = (3 : Int32) → Q (some (hb_i (-1 : Int32))) w)) : hb_R yX12_says cX12_says 3 (some .int) (d + 1) 15 [some (hb_r 12 0 0), some (hb_i x1), some (hb_i x2)] [] w Q := by
  refine hb_iload_n (pc := 15) (i := 2) dX12_says_15 rfl rfl ?_
  by_cases e1_0 : x2 = (0 : Int32)
  · have hk1_0 := h.1 e1_0
    have ei : x2.toInt = 0 := by rw [e1_0]; rfl
    refine hb_tabIn (pc := 16) (tgt := 48) (off := 32) dX12_says_16 (by rw [ei]; decide) (by rw [ei]; decide) (by rw [ei]; rfl) (by decide) ?_
    refine hb_aload_n (pc := 48) (i := 0) dX12_says_48 rfl rfl ?_
    exact hb_callV (pc := 49) (As := []) (st := []) dX12_says_49 ml_X12_411 mf_X12_unlikeSaid mi_X12_unlikeSaid (ci := 12) rfl rfl (by decide) rfl rfl (Nat.le_of_ble_eq_true rfl) (Nat.le_of_ble_eq_true rfl) hk1_0 (fun _ _ q => q)
  by_cases e1_1 : x2 = (1 : Int32)
  · have hk1_1 := h.2.1 e1_1
    have ei : x2.toInt = 1 := by rw [e1_1]; rfl
    refine hb_tabIn (pc := 16) (tgt := 53) (off := 37) dX12_says_16 (by rw [ei]; decide) (by rw [ei]; decide) (by rw [ei]; rfl) (by decide) ?_
    refine hb_aload_n (pc := 53) (i := 0) dX12_says_53 rfl rfl ?_
    exact hb_callV (pc := 54) (As := []) (st := []) dX12_says_54 ml_X12_417 mf_X12_runsSaid mi_X12_runsSaid (ci := 12) rfl rfl (by decide) rfl rfl (Nat.le_of_ble_eq_true rfl) (Nat.le_of_ble_eq_true rfl) hk1_1 (fun _ _ q => q)
  by_cases e1_2 : x2 = (2 : Int32)
  · have hk1_2 := h.2.2.1 e1_2
    have ei : x2.toInt = 2 := by rw [e1_2]; rfl
    refine hb_tabIn (pc := 16) (tgt := 58) (off := 42) dX12_says_16 (by rw [ei]; decide) (by rw [ei]; decide) (by rw [ei]; rfl) (by decide) ?_
    refine hb_aload_n (pc := 58) (i := 0) dX12_says_58 rfl rfl ?_
    exact hb_callV (pc := 59) (As := []) (st := []) dX12_says_59 ml_X12_426 mf_X12_middleSaid mi_X12_middleSaid (ci := 12) rfl rfl (by decide) rfl rfl (Nat.le_of_ble_eq_true rfl) (Nat.le_of_ble_eq_true rfl) hk1_2 (fun _ _ q => q)
  by_cases e1_3 : x2 = (3 : Int32)
  · have hk1_3 := h.2.2.2.1 e1_3
    have ei : x2.toInt = 3 := by rw [e1_3]; rfl
    refine hb_tabIn (pc := 16) (tgt := 63) (off := 47) dX12_says_16 (by rw [ei]; decide) (by rw [ei]; decide) (by rw [ei]; rfl) (by decide) ?_
    refine hb_aload_n (pc := 63) (i := 0) dX12_says_63 rfl rfl ?_
    exact hb_callV (pc := 64) (As := []) (st := []) dX12_says_64 ml_X12_455 mf_X12_oftenSaid mi_X12_oftenSaid (ci := 12) rfl rfl (by decide) rfl rfl (Nat.le_of_ble_eq_true rfl) (Nat.le_of_ble_eq_true rfl) hk1_3 (fun _ _ q => q)
  have hk1_d := h.2.2.2.2 e1_0 e1_1 e1_2 e1_3
  have n1_0 := lv_neT (a := 0) e1_0 rfl
  have n1_1 := lv_neT (a := 1) e1_1 rfl
  have n1_2 := lv_neT (a := 2) e1_2 rfl
  have n1_3 := lv_neT (a := 3) e1_3 rfl
  refine hb_tabOut (pc := 16) (tgt := 68) dX12_says_16 (by omega) (by decide) ?_
  refine hb_iconst (pc := 68) (v := -1) dX12_says_68 (by decide) ?_
  exact hb_iret (pc := 69) dX12_says_69 rfl hk1_d
set_option maxRecDepth 20000 in
theorem bk_X12_says_52 {d : Nat} {w : hb_W} {Q : Option hb_V → hb_W → Prop} {x1 : Int32} {x2 : Int32} {xs0 : Int32} (h : Q (some (hb_i xs0)) w) : hb_R yX12_says cX12_says 3 (some .int) (d + 1) 52 [some (hb_r 12 0 0), some (hb_i x1), some (hb_i x2)] [hb_i xs0] w Q := by
  exact hb_iret (pc := 52) dX12_says_52 rfl h
set_option maxRecDepth 20000 in
theorem bk_X12_says_57 {d : Nat} {w : hb_W} {Q : Option hb_V → hb_W → Prop} {x1 : Int32} {x2 : Int32} {xs0 : Int32} (h : Q (some (hb_i xs0)) w) : hb_R yX12_says cX12_says 3 (some .int) (d + 1) 57 [some (hb_r 12 0 0), some (hb_i x1), some (hb_i x2)] [hb_i xs0] w Q := by
  exact hb_iret (pc := 57) dX12_says_57 rfl h
set_option maxRecDepth 20000 in
theorem bk_X12_says_62 {d : Nat} {w : hb_W} {Q : Option hb_V → hb_W → Prop} {x1 : Int32} {x2 : Int32} {xs0 : Int32} (h : Q (some (hb_i xs0)) w) : hb_R yX12_says cX12_says 3 (some .int) (d + 1) 62 [some (hb_r 12 0 0), some (hb_i x1), some (hb_i x2)] [hb_i xs0] w Q := by
  exact hb_iret (pc := 62) dX12_says_62 rfl h
set_option maxRecDepth 20000 in
theorem bk_X12_says_67 {d : Nat} {w : hb_W} {Q : Option hb_V → hb_W → Prop} {x1 : Int32} {x2 : Int32} {xs0 : Int32} (h : Q (some (hb_i xs0)) w) : hb_R yX12_says cX12_says 3 (some .int) (d + 1) 67 [some (hb_r 12 0 0), some (hb_i x1), some (hb_i x2)] [hb_i xs0] w Q := by
  exact hb_iret (pc := 67) dX12_says_67 rfl h
