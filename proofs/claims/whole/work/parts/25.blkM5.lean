theorem dX12_qFloor_0 : decode cX12_qFloor 0 = .ok (.lload_n 2, 1) := by decide +kernel
theorem dX12_qFloor_1 : decode cX12_qFloor 1 = .ok (.lconst 0, 1) := by decide +kernel
theorem dX12_qFloor_2 : decode cX12_qFloor 2 = .ok (.lcmp, 1) := by decide +kernel
theorem dX12_qFloor_3 : decode cX12_qFloor 3 = .ok (.ifCond .ne 5, 3) := by decide +kernel
theorem dX12_qFloor_6 : decode cX12_qFloor 6 = .ok (.lconst 0, 1) := by decide +kernel
theorem dX12_qFloor_7 : decode cX12_qFloor 7 = .ok (.lreturn, 1) := by decide +kernel
theorem dX12_qFloor_8 : decode cX12_qFloor 8 = .ok (.lload_n 0, 1) := by decide +kernel
theorem dX12_qFloor_9 : decode cX12_qFloor 9 = .ok (.lload_n 2, 1) := by decide +kernel
theorem dX12_qFloor_10 : decode cX12_qFloor 10 = .ok (.ldiv, 1) := by decide +kernel
theorem dX12_qFloor_11 : decode cX12_qFloor 11 = .ok (.lstore 4, 2) := by decide +kernel
theorem dX12_qFloor_13 : decode cX12_qFloor 13 = .ok (.lload_n 0, 1) := by decide +kernel
theorem dX12_qFloor_14 : decode cX12_qFloor 14 = .ok (.lload_n 2, 1) := by decide +kernel
theorem dX12_qFloor_15 : decode cX12_qFloor 15 = .ok (.lrem, 1) := by decide +kernel
theorem dX12_qFloor_16 : decode cX12_qFloor 16 = .ok (.lconst 0, 1) := by decide +kernel
theorem dX12_qFloor_17 : decode cX12_qFloor 17 = .ok (.lcmp, 1) := by decide +kernel
theorem dX12_qFloor_18 : decode cX12_qFloor 18 = .ok (.ifCond .eq 35, 3) := by decide +kernel
theorem dX12_qFloor_21 : decode cX12_qFloor 21 = .ok (.lload_n 0, 1) := by decide +kernel
theorem dX12_qFloor_22 : decode cX12_qFloor 22 = .ok (.lconst 0, 1) := by decide +kernel
theorem dX12_qFloor_23 : decode cX12_qFloor 23 = .ok (.lcmp, 1) := by decide +kernel
theorem dX12_qFloor_24 : decode cX12_qFloor 24 = .ok (.ifCond .ge 7, 3) := by decide +kernel
theorem dX12_qFloor_27 : decode cX12_qFloor 27 = .ok (.iconst 1, 1) := by decide +kernel
theorem dX12_qFloor_28 : decode cX12_qFloor 28 = .ok (.goto 4, 3) := by decide +kernel
theorem dX12_qFloor_31 : decode cX12_qFloor 31 = .ok (.iconst 0, 1) := by decide +kernel
theorem dX12_qFloor_32 : decode cX12_qFloor 32 = .ok (.lload_n 2, 1) := by decide +kernel
theorem dX12_qFloor_33 : decode cX12_qFloor 33 = .ok (.lconst 0, 1) := by decide +kernel
theorem dX12_qFloor_34 : decode cX12_qFloor 34 = .ok (.lcmp, 1) := by decide +kernel
theorem dX12_qFloor_35 : decode cX12_qFloor 35 = .ok (.ifCond .ge 7, 3) := by decide +kernel
theorem dX12_qFloor_38 : decode cX12_qFloor 38 = .ok (.iconst 1, 1) := by decide +kernel
theorem dX12_qFloor_39 : decode cX12_qFloor 39 = .ok (.goto 4, 3) := by decide +kernel
theorem dX12_qFloor_42 : decode cX12_qFloor 42 = .ok (.iconst 0, 1) := by decide +kernel
theorem dX12_qFloor_43 : decode cX12_qFloor 43 = .ok (.if_icmp .eq 10, 3) := by decide +kernel
theorem dX12_qFloor_46 : decode cX12_qFloor 46 = .ok (.lload 4, 2) := by decide +kernel
theorem dX12_qFloor_48 : decode cX12_qFloor 48 = .ok (.lconst 1, 1) := by decide +kernel
theorem dX12_qFloor_49 : decode cX12_qFloor 49 = .ok (.lsub, 1) := by decide +kernel
theorem dX12_qFloor_50 : decode cX12_qFloor 50 = .ok (.goto 5, 3) := by decide +kernel
theorem dX12_qFloor_53 : decode cX12_qFloor 53 = .ok (.lload 4, 2) := by decide +kernel
theorem dX12_qFloor_55 : decode cX12_qFloor 55 = .ok (.lreturn, 1) := by decide +kernel
set_option maxRecDepth 20000 in
theorem bk_X12_qFloor_0 {d : Nat} {w : hb_W} {Q : Option hb_V → hb_W → Prop} {l0 : Int64} {l2 : Int64} (h : ((¬ (lg_cmp l2 (0 : Int64)) = 0) → ¬ l2 = 0 ∧ (¬ l2 = 0 ∧ ((((lg_cmp (l0 - l0 / l2 * l2) (0 : Int64)) = 0) → Q (some (hb_l (l0 / l2))) w) ∧ ((¬ (lg_cmp (l0 - l0 / l2 * l2) (0 : Int64)) = 0) → ((0 ≤ (lg_cmp l0 (0 : Int64))) → ((0 ≤ (lg_cmp l2 (0 : Int64))) → (((0 : Int32) = (0 : Int32)) → Q (some (hb_l (l0 / l2))) w) ∧ ((¬ (0 : Int32) = (0 : Int32)) → Q (some (hb_l ((l0 / l2) - (1 : Int64)))) w)) ∧ ((¬ 0 ≤ (lg_cmp l2 (0 : Int64))) → (((0 : Int32) = (1 : Int32)) → Q (some (hb_l (l0 / l2))) w) ∧ ((¬ (0 : Int32) = (1 : Int32)) → Q (some (hb_l ((l0 / l2) - (1 : Int64)))) w))) ∧ ((¬ 0 ≤ (lg_cmp l0 (0 : Int64))) → ((0 ≤ (lg_cmp l2 (0 : Int64))) → (((1 : Int32) = (0 : Int32)) → Q (some (hb_l (l0 / l2))) w) ∧ ((¬ (1 : Int32) = (0 : Int32)) → Q (some (hb_l ((l0 / l2) - (1 : Int64)))) w)) ∧ ((¬ 0 ≤ (lg_cmp l2 (0 : Int64))) → (((1 : Int32) = (1 : Int32)) → Q (some (hb_l (l0 / l2))) w) ∧ ((¬ (1 : Int32) = (1 : Int32)) → Q (some (hb_l ((l0 / l2) - (1 : Int64)))) w))))))) ∧ (((lg_cmp l2 (0 : Int64)) = 0) → Q (some (hb_l (0 : Int64))) w)) : hb_R yX12_qFloor cX12_qFloor 6 (some .long) d 0 [some (hb_l l0), none, some (hb_l l2), none, none, none] [] w Q := by
  refine hb_lload_n (pc := 0) (i := 2) dX12_qFloor_0 rfl rfl ?_
  refine hb_lconst (pc := 1) (v := 0) dX12_qFloor_1 (by decide) ?_
  refine hb_lcmp (pc := 2) dX12_qFloor_2 ?_
  refine hb_if_ne (pc := 3) (tgt := 8) dX12_qFloor_3 (by decide) (fun c1 => ?_) (fun c1 => ?_)
  · have ht1 := h.1 c1
    refine hb_lload_n (pc := 8) (i := 0) dX12_qFloor_8 rfl rfl ?_
    refine hb_lload_n (pc := 9) (i := 2) dX12_qFloor_9 rfl rfl ?_
    obtain ⟨ho2, hr2⟩ := ht1
    refine hb_ldiv (pc := 10) dX12_qFloor_10 ho2 ?_
    refine hb_lstore (pc := 11) (i := 4) (ls1 := [some (hb_l l0), none, some (hb_l l2), none, some (hb_l (l0 / l2)), none]) dX12_qFloor_11 (by decide) rfl ?_
    refine hb_lload_n (pc := 13) (i := 0) dX12_qFloor_13 rfl rfl ?_
    refine hb_lload_n (pc := 14) (i := 2) dX12_qFloor_14 rfl rfl ?_
    obtain ⟨ho3, hr3⟩ := hr2
    refine hb_lrem (pc := 15) dX12_qFloor_15 ho3 ?_
    refine hb_lconst (pc := 16) (v := 0) dX12_qFloor_16 (by decide) ?_
    refine hb_lcmp (pc := 17) dX12_qFloor_17 ?_
    refine hb_if_eq (pc := 18) (tgt := 53) dX12_qFloor_18 (by decide) (fun c4 => ?_) (fun c4 => ?_)
    · have ht4 := hr3.1 c4
      refine hb_lload (pc := 53) dX12_qFloor_53 rfl ?_
      exact hb_lret (pc := 55) dX12_qFloor_55 rfl ht4
    · have ht4 := hr3.2 c4
      refine hb_lload_n (pc := 21) (i := 0) dX12_qFloor_21 rfl rfl ?_
      refine hb_lconst (pc := 22) (v := 0) dX12_qFloor_22 (by decide) ?_
      refine hb_lcmp (pc := 23) dX12_qFloor_23 ?_
      refine hb_if_ge (pc := 24) (tgt := 31) dX12_qFloor_24 (by decide) (fun c5 => ?_) (fun c5 => ?_)
      · have ht5 := ht4.1 c5
        refine hb_iconst (pc := 31) (v := 0) dX12_qFloor_31 (by decide) ?_
        refine hb_lload_n (pc := 32) (i := 2) dX12_qFloor_32 rfl rfl ?_
        refine hb_lconst (pc := 33) (v := 0) dX12_qFloor_33 (by decide) ?_
        refine hb_lcmp (pc := 34) dX12_qFloor_34 ?_
        refine hb_if_ge (pc := 35) (tgt := 42) dX12_qFloor_35 (by decide) (fun c6 => ?_) (fun c6 => ?_)
        · have ht6 := ht5.1 c6
          refine hb_iconst (pc := 42) (v := 0) dX12_qFloor_42 (by decide) ?_
          refine hb_icmp_eq (pc := 43) (tgt := 53) dX12_qFloor_43 (by decide) (fun c7 => ?_) (fun c7 => ?_)
          · have ht7 := ht6.1 c7
            refine hb_lload (pc := 53) dX12_qFloor_53 rfl ?_
            exact hb_lret (pc := 55) dX12_qFloor_55 rfl ht7
          · have ht7 := ht6.2 c7
            refine hb_lload (pc := 46) dX12_qFloor_46 rfl ?_
            refine hb_lconst (pc := 48) (v := 1) dX12_qFloor_48 (by decide) ?_
            refine hb_lsub (pc := 49) dX12_qFloor_49 ?_
            refine hb_goto (pc := 50) (tgt := 55) dX12_qFloor_50 (by decide) ?_
            exact hb_lret (pc := 55) dX12_qFloor_55 rfl ht7
        · have ht6 := ht5.2 c6
          refine hb_iconst (pc := 38) (v := 1) dX12_qFloor_38 (by decide) ?_
          refine hb_goto (pc := 39) (tgt := 43) dX12_qFloor_39 (by decide) ?_
          refine hb_icmp_eq (pc := 43) (tgt := 53) dX12_qFloor_43 (by decide) (fun c8 => ?_) (fun c8 => ?_)
          · have ht8 := ht6.1 c8
            refine hb_lload (pc := 53) dX12_qFloor_53 rfl ?_
            exact hb_lret (pc := 55) dX12_qFloor_55 rfl ht8
          · have ht8 := ht6.2 c8
            refine hb_lload (pc := 46) dX12_qFloor_46 rfl ?_
            refine hb_lconst (pc := 48) (v := 1) dX12_qFloor_48 (by decide) ?_
            refine hb_lsub (pc := 49) dX12_qFloor_49 ?_
            refine hb_goto (pc := 50) (tgt := 55) dX12_qFloor_50 (by decide) ?_
            exact hb_lret (pc := 55) dX12_qFloor_55 rfl ht8
      · have ht5 := ht4.2 c5
        refine hb_iconst (pc := 27) (v := 1) dX12_qFloor_27 (by decide) ?_
        refine hb_goto (pc := 28) (tgt := 32) dX12_qFloor_28 (by decide) ?_
        refine hb_lload_n (pc := 32) (i := 2) dX12_qFloor_32 rfl rfl ?_
        refine hb_lconst (pc := 33) (v := 0) dX12_qFloor_33 (by decide) ?_
        refine hb_lcmp (pc := 34) dX12_qFloor_34 ?_
        refine hb_if_ge (pc := 35) (tgt := 42) dX12_qFloor_35 (by decide) (fun c9 => ?_) (fun c9 => ?_)
        · have ht9 := ht5.1 c9
          refine hb_iconst (pc := 42) (v := 0) dX12_qFloor_42 (by decide) ?_
          refine hb_icmp_eq (pc := 43) (tgt := 53) dX12_qFloor_43 (by decide) (fun c10 => ?_) (fun c10 => ?_)
          · have ht10 := ht9.1 c10
            refine hb_lload (pc := 53) dX12_qFloor_53 rfl ?_
            exact hb_lret (pc := 55) dX12_qFloor_55 rfl ht10
          · have ht10 := ht9.2 c10
            refine hb_lload (pc := 46) dX12_qFloor_46 rfl ?_
            refine hb_lconst (pc := 48) (v := 1) dX12_qFloor_48 (by decide) ?_
            refine hb_lsub (pc := 49) dX12_qFloor_49 ?_
            refine hb_goto (pc := 50) (tgt := 55) dX12_qFloor_50 (by decide) ?_
            exact hb_lret (pc := 55) dX12_qFloor_55 rfl ht10
        · have ht9 := ht5.2 c9
          refine hb_iconst (pc := 38) (v := 1) dX12_qFloor_38 (by decide) ?_
          refine hb_goto (pc := 39) (tgt := 43) dX12_qFloor_39 (by decide) ?_
          refine hb_icmp_eq (pc := 43) (tgt := 53) dX12_qFloor_43 (by decide) (fun c11 => ?_) (fun c11 => ?_)
          · have ht11 := ht9.1 c11
            refine hb_lload (pc := 53) dX12_qFloor_53 rfl ?_
            exact hb_lret (pc := 55) dX12_qFloor_55 rfl ht11
          · have ht11 := ht9.2 c11
            refine hb_lload (pc := 46) dX12_qFloor_46 rfl ?_
            refine hb_lconst (pc := 48) (v := 1) dX12_qFloor_48 (by decide) ?_
            refine hb_lsub (pc := 49) dX12_qFloor_49 ?_
            refine hb_goto (pc := 50) (tgt := 55) dX12_qFloor_50 (by decide) ?_
            exact hb_lret (pc := 55) dX12_qFloor_55 rfl ht11
  · have ht1 := h.2 c1
    refine hb_lconst (pc := 6) (v := 0) dX12_qFloor_6 (by decide) ?_
    exact hb_lret (pc := 7) dX12_qFloor_7 rfl ht1
theorem dX12_qPuts_0 : decode cX12_qPuts 0 = .ok (.aload_n 0, 1) := by decide +kernel
theorem dX12_qPuts_1 : decode cX12_qPuts 1 = .ok (.getfield 185, 3) := by decide +kernel
theorem dX12_qPuts_4 : decode cX12_qPuts 4 = .ok (.aload_n 0, 1) := by decide +kernel
theorem dX12_qPuts_5 : decode cX12_qPuts 5 = .ok (.getfield 316, 3) := by decide +kernel
theorem dX12_qPuts_8 : decode cX12_qPuts 8 = .ok (.lload_n 1, 1) := by decide +kernel
theorem dX12_qPuts_9 : decode cX12_qPuts 9 = .ok (.lastore, 1) := by decide +kernel
theorem dX12_qPuts_10 : decode cX12_qPuts 10 = .ok (.aload_n 0, 1) := by decide +kernel
theorem dX12_qPuts_11 : decode cX12_qPuts 11 = .ok (.dup, 1) := by decide +kernel
theorem dX12_qPuts_12 : decode cX12_qPuts 12 = .ok (.getfield 316, 3) := by decide +kernel
theorem dX12_qPuts_15 : decode cX12_qPuts 15 = .ok (.iconst 1, 1) := by decide +kernel
theorem dX12_qPuts_16 : decode cX12_qPuts 16 = .ok (.iadd, 1) := by decide +kernel
theorem dX12_qPuts_17 : decode cX12_qPuts 17 = .ok (.putfield 316, 3) := by decide +kernel
theorem dX12_qPuts_20 : decode cX12_qPuts 20 = .ok (.return_, 1) := by decide +kernel
set_option maxRecDepth 20000 in
theorem bk_X12_qPuts_0 {d : Nat} {w : hb_W} {Q : Option hb_V → hb_W → Prop} {l1 : Int64} (h : vp_in (hb_fI w 12 86 0) 1700 ∧ (Q none (hb_pI (hb_sL w 12 56 0 (vp_updL (hb_aL w 12 56 0) (hb_fI w 12 86 0).toNatClampNeg l1)) 12 86 0 ((hb_fI w 12 86 0) + (1 : Int32))))) : hb_R yX12_qPuts cX12_qPuts 3 none d 0 [some (hb_r 12 0 0), some (hb_l l1), none] [] w Q := by
  refine hb_aload_n (pc := 0) (i := 0) dX12_qPuts_0 rfl rfl ?_
  refine hb_getR (pc := 1) (g1 := 0) dX12_qPuts_1 fw_X12_185 cw_12 rfl (by decide) rfl (by decide) rfl ?_
  refine hb_aload_n (pc := 4) (i := 0) dX12_qPuts_4 rfl rfl ?_
  refine hb_getIx (pc := 5) (x := hb_fI w 12 86 0) dX12_qPuts_5 fw_X12_316 cw_12 rfl (by decide) rfl rfl ?_
  refine hb_lload_n (pc := 8) (i := 1) dX12_qPuts_8 rfl rfl ?_
  obtain ⟨ho1, hr1⟩ := h
  refine hb_lastx (pc := 9) (f := vp_updL (hb_aL w 12 56 0) (hb_fI w 12 86 0).toNatClampNeg l1) dX12_qPuts_9 rfl (by decide) ho1 rfl ?_
  refine hb_aload_n (pc := 10) (i := 0) dX12_qPuts_10 rfl rfl ?_
  refine hb_dupr (pc := 11) dX12_qPuts_11 ?_
  refine hb_getIx (pc := 12) (x := hb_fI w 12 86 0) dX12_qPuts_12 fw_X12_316 cw_12 rfl (by decide) rfl rfl ?_
  refine hb_iconst (pc := 15) (v := 1) dX12_qPuts_15 (by decide) ?_
  refine hb_iadd (pc := 16) dX12_qPuts_16 ?_
  refine hb_putI (pc := 17) dX12_qPuts_17 fw_X12_316 cw_12 pw_12_86 rfl (by decide) rfl rfl rfl ?_
  exact hb_vret (pc := 20) dX12_qPuts_20 rfl hr1
theorem dX12_qJoins_0 : decode cX12_qJoins 0 = .ok (.aload_n 0, 1) := by decide +kernel
theorem dX12_qJoins_1 : decode cX12_qJoins 1 = .ok (.getfield 185, 3) := by decide +kernel
theorem dX12_qJoins_4 : decode cX12_qJoins 4 = .ok (.aload_n 0, 1) := by decide +kernel
theorem dX12_qJoins_5 : decode cX12_qJoins 5 = .ok (.getfield 316, 3) := by decide +kernel
theorem dX12_qJoins_8 : decode cX12_qJoins 8 = .ok (.iconst 1, 1) := by decide +kernel
theorem dX12_qJoins_9 : decode cX12_qJoins 9 = .ok (.isub, 1) := by decide +kernel
theorem dX12_qJoins_10 : decode cX12_qJoins 10 = .ok (.laload, 1) := by decide +kernel
theorem dX12_qJoins_11 : decode cX12_qJoins 11 = .ok (.lstore_n 2, 1) := by decide +kernel
theorem dX12_qJoins_12 : decode cX12_qJoins 12 = .ok (.aload_n 0, 1) := by decide +kernel
theorem dX12_qJoins_13 : decode cX12_qJoins 13 = .ok (.getfield 185, 3) := by decide +kernel
theorem dX12_qJoins_16 : decode cX12_qJoins 16 = .ok (.aload_n 0, 1) := by decide +kernel
theorem dX12_qJoins_17 : decode cX12_qJoins 17 = .ok (.getfield 316, 3) := by decide +kernel
theorem dX12_qJoins_20 : decode cX12_qJoins 20 = .ok (.iconst 2, 1) := by decide +kernel
theorem dX12_qJoins_21 : decode cX12_qJoins 21 = .ok (.isub, 1) := by decide +kernel
theorem dX12_qJoins_22 : decode cX12_qJoins 22 = .ok (.laload, 1) := by decide +kernel
theorem dX12_qJoins_23 : decode cX12_qJoins 23 = .ok (.lstore 4, 2) := by decide +kernel
theorem dX12_qJoins_25 : decode cX12_qJoins 25 = .ok (.aload_n 0, 1) := by decide +kernel
theorem dX12_qJoins_26 : decode cX12_qJoins 26 = .ok (.dup, 1) := by decide +kernel
theorem dX12_qJoins_27 : decode cX12_qJoins 27 = .ok (.getfield 316, 3) := by decide +kernel
theorem dX12_qJoins_30 : decode cX12_qJoins 30 = .ok (.iconst 2, 1) := by decide +kernel
theorem dX12_qJoins_31 : decode cX12_qJoins 31 = .ok (.isub, 1) := by decide +kernel
theorem dX12_qJoins_32 : decode cX12_qJoins 32 = .ok (.putfield 316, 3) := by decide +kernel
theorem dX12_qJoins_35 : decode cX12_qJoins 35 = .ok (.iload_n 1, 1) := by decide +kernel
theorem dX12_qJoins_36 : decode cX12_qJoins 36 = .ok (.tableswitch 219 1 10 #[56, 70, 84, 98, 111, 131, 151, 170, 189, 208], 56) := by decide +kernel
theorem dX12_qJoins_92 : decode cX12_qJoins 92 = .ok (.aload_n 0, 1) := by decide +kernel
theorem dX12_qJoins_93 : decode cX12_qJoins 93 = .ok (.lload 4, 2) := by decide +kernel
theorem dX12_qJoins_95 : decode cX12_qJoins 95 = .ok (.lload_n 2, 1) := by decide +kernel
theorem dX12_qJoins_96 : decode cX12_qJoins 96 = .ok (.ladd, 1) := by decide +kernel
theorem dX12_qJoins_97 : decode cX12_qJoins 97 = .ok (.invokestatic 562, 3) := by decide +kernel
theorem dX12_qJoins_100 : decode cX12_qJoins 100 = .ok (.invokevirtual 319, 3) := by decide +kernel
theorem dX12_qJoins_103 : decode cX12_qJoins 103 = .ok (.goto 170, 3) := by decide +kernel
theorem dX12_qJoins_106 : decode cX12_qJoins 106 = .ok (.aload_n 0, 1) := by decide +kernel
theorem dX12_qJoins_107 : decode cX12_qJoins 107 = .ok (.lload 4, 2) := by decide +kernel
theorem dX12_qJoins_109 : decode cX12_qJoins 109 = .ok (.lload_n 2, 1) := by decide +kernel
theorem dX12_qJoins_110 : decode cX12_qJoins 110 = .ok (.lsub, 1) := by decide +kernel
theorem dX12_qJoins_111 : decode cX12_qJoins 111 = .ok (.invokestatic 562, 3) := by decide +kernel
theorem dX12_qJoins_114 : decode cX12_qJoins 114 = .ok (.invokevirtual 319, 3) := by decide +kernel
theorem dX12_qJoins_117 : decode cX12_qJoins 117 = .ok (.goto 156, 3) := by decide +kernel
theorem dX12_qJoins_120 : decode cX12_qJoins 120 = .ok (.aload_n 0, 1) := by decide +kernel
theorem dX12_qJoins_121 : decode cX12_qJoins 121 = .ok (.lload 4, 2) := by decide +kernel
theorem dX12_qJoins_123 : decode cX12_qJoins 123 = .ok (.lload_n 2, 1) := by decide +kernel
theorem dX12_qJoins_124 : decode cX12_qJoins 124 = .ok (.lmul, 1) := by decide +kernel
theorem dX12_qJoins_125 : decode cX12_qJoins 125 = .ok (.invokestatic 562, 3) := by decide +kernel
theorem dX12_qJoins_128 : decode cX12_qJoins 128 = .ok (.invokevirtual 319, 3) := by decide +kernel
theorem dX12_qJoins_131 : decode cX12_qJoins 131 = .ok (.goto 142, 3) := by decide +kernel
theorem dX12_qJoins_134 : decode cX12_qJoins 134 = .ok (.aload_n 0, 1) := by decide +kernel
theorem dX12_qJoins_135 : decode cX12_qJoins 135 = .ok (.lload 4, 2) := by decide +kernel
theorem dX12_qJoins_137 : decode cX12_qJoins 137 = .ok (.lload_n 2, 1) := by decide +kernel
theorem dX12_qJoins_138 : decode cX12_qJoins 138 = .ok (.invokestatic 566, 3) := by decide +kernel
theorem dX12_qJoins_141 : decode cX12_qJoins 141 = .ok (.invokevirtual 319, 3) := by decide +kernel
theorem dX12_qJoins_144 : decode cX12_qJoins 144 = .ok (.goto 129, 3) := by decide +kernel
theorem dX12_qJoins_147 : decode cX12_qJoins 147 = .ok (.aload_n 0, 1) := by decide +kernel
theorem dX12_qJoins_148 : decode cX12_qJoins 148 = .ok (.lload 4, 2) := by decide +kernel
theorem dX12_qJoins_150 : decode cX12_qJoins 150 = .ok (.lload_n 2, 1) := by decide +kernel
theorem dX12_qJoins_151 : decode cX12_qJoins 151 = .ok (.lcmp, 1) := by decide +kernel
theorem dX12_qJoins_152 : decode cX12_qJoins 152 = .ok (.ifCond .ge 8, 3) := by decide +kernel
theorem dX12_qJoins_155 : decode cX12_qJoins 155 = .ok (.lload 4, 2) := by decide +kernel
theorem dX12_qJoins_157 : decode cX12_qJoins 157 = .ok (.goto 4, 3) := by decide +kernel
theorem dX12_qJoins_160 : decode cX12_qJoins 160 = .ok (.lload_n 2, 1) := by decide +kernel
theorem dX12_qJoins_161 : decode cX12_qJoins 161 = .ok (.invokevirtual 319, 3) := by decide +kernel
theorem dX12_qJoins_164 : decode cX12_qJoins 164 = .ok (.goto 109, 3) := by decide +kernel
theorem dX12_qJoins_167 : decode cX12_qJoins 167 = .ok (.aload_n 0, 1) := by decide +kernel
theorem dX12_qJoins_168 : decode cX12_qJoins 168 = .ok (.lload 4, 2) := by decide +kernel
theorem dX12_qJoins_170 : decode cX12_qJoins 170 = .ok (.lload_n 2, 1) := by decide +kernel
theorem dX12_qJoins_171 : decode cX12_qJoins 171 = .ok (.lcmp, 1) := by decide +kernel
theorem dX12_qJoins_172 : decode cX12_qJoins 172 = .ok (.ifCond .le 8, 3) := by decide +kernel
theorem dX12_qJoins_175 : decode cX12_qJoins 175 = .ok (.lload 4, 2) := by decide +kernel
theorem dX12_qJoins_177 : decode cX12_qJoins 177 = .ok (.goto 4, 3) := by decide +kernel
theorem dX12_qJoins_180 : decode cX12_qJoins 180 = .ok (.lload_n 2, 1) := by decide +kernel
theorem dX12_qJoins_181 : decode cX12_qJoins 181 = .ok (.invokevirtual 319, 3) := by decide +kernel
theorem dX12_qJoins_184 : decode cX12_qJoins 184 = .ok (.goto 89, 3) := by decide +kernel
theorem dX12_qJoins_187 : decode cX12_qJoins 187 = .ok (.aload_n 0, 1) := by decide +kernel
theorem dX12_qJoins_188 : decode cX12_qJoins 188 = .ok (.lload 4, 2) := by decide +kernel
theorem dX12_qJoins_190 : decode cX12_qJoins 190 = .ok (.lload_n 2, 1) := by decide +kernel
theorem dX12_qJoins_191 : decode cX12_qJoins 191 = .ok (.lcmp, 1) := by decide +kernel
theorem dX12_qJoins_192 : decode cX12_qJoins 192 = .ok (.ifCond .ge 7, 3) := by decide +kernel
theorem dX12_qJoins_195 : decode cX12_qJoins 195 = .ok (.lconst 1, 1) := by decide +kernel
theorem dX12_qJoins_196 : decode cX12_qJoins 196 = .ok (.goto 4, 3) := by decide +kernel
theorem dX12_qJoins_199 : decode cX12_qJoins 199 = .ok (.lconst 0, 1) := by decide +kernel
theorem dX12_qJoins_200 : decode cX12_qJoins 200 = .ok (.invokevirtual 319, 3) := by decide +kernel
theorem dX12_qJoins_203 : decode cX12_qJoins 203 = .ok (.goto 70, 3) := by decide +kernel
theorem dX12_qJoins_206 : decode cX12_qJoins 206 = .ok (.aload_n 0, 1) := by decide +kernel
theorem dX12_qJoins_207 : decode cX12_qJoins 207 = .ok (.lload 4, 2) := by decide +kernel
theorem dX12_qJoins_209 : decode cX12_qJoins 209 = .ok (.lload_n 2, 1) := by decide +kernel
theorem dX12_qJoins_210 : decode cX12_qJoins 210 = .ok (.lcmp, 1) := by decide +kernel
theorem dX12_qJoins_211 : decode cX12_qJoins 211 = .ok (.ifCond .le 7, 3) := by decide +kernel
theorem dX12_qJoins_214 : decode cX12_qJoins 214 = .ok (.lconst 1, 1) := by decide +kernel
theorem dX12_qJoins_215 : decode cX12_qJoins 215 = .ok (.goto 4, 3) := by decide +kernel
theorem dX12_qJoins_218 : decode cX12_qJoins 218 = .ok (.lconst 0, 1) := by decide +kernel
theorem dX12_qJoins_219 : decode cX12_qJoins 219 = .ok (.invokevirtual 319, 3) := by decide +kernel
theorem dX12_qJoins_222 : decode cX12_qJoins 222 = .ok (.goto 51, 3) := by decide +kernel
theorem dX12_qJoins_225 : decode cX12_qJoins 225 = .ok (.aload_n 0, 1) := by decide +kernel
theorem dX12_qJoins_226 : decode cX12_qJoins 226 = .ok (.lload 4, 2) := by decide +kernel
theorem dX12_qJoins_228 : decode cX12_qJoins 228 = .ok (.lload_n 2, 1) := by decide +kernel
theorem dX12_qJoins_229 : decode cX12_qJoins 229 = .ok (.lcmp, 1) := by decide +kernel
theorem dX12_qJoins_230 : decode cX12_qJoins 230 = .ok (.ifCond .ne 7, 3) := by decide +kernel
theorem dX12_qJoins_233 : decode cX12_qJoins 233 = .ok (.lconst 1, 1) := by decide +kernel
theorem dX12_qJoins_234 : decode cX12_qJoins 234 = .ok (.goto 4, 3) := by decide +kernel
theorem dX12_qJoins_237 : decode cX12_qJoins 237 = .ok (.lconst 0, 1) := by decide +kernel
theorem dX12_qJoins_238 : decode cX12_qJoins 238 = .ok (.invokevirtual 319, 3) := by decide +kernel
theorem dX12_qJoins_241 : decode cX12_qJoins 241 = .ok (.goto 32, 3) := by decide +kernel
theorem dX12_qJoins_244 : decode cX12_qJoins 244 = .ok (.aload_n 0, 1) := by decide +kernel
theorem dX12_qJoins_245 : decode cX12_qJoins 245 = .ok (.lload 4, 2) := by decide +kernel
theorem dX12_qJoins_247 : decode cX12_qJoins 247 = .ok (.lload_n 2, 1) := by decide +kernel
theorem dX12_qJoins_248 : decode cX12_qJoins 248 = .ok (.lmul, 1) := by decide +kernel
theorem dX12_qJoins_249 : decode cX12_qJoins 249 = .ok (.invokevirtual 319, 3) := by decide +kernel
theorem dX12_qJoins_252 : decode cX12_qJoins 252 = .ok (.goto 21, 3) := by decide +kernel
theorem dX12_qJoins_255 : decode cX12_qJoins 255 = .ok (.aload_n 0, 1) := by decide +kernel
theorem dX12_qJoins_256 : decode cX12_qJoins 256 = .ok (.lload 4, 2) := by decide +kernel
theorem dX12_qJoins_258 : decode cX12_qJoins 258 = .ok (.lload_n 2, 1) := by decide +kernel
theorem dX12_qJoins_259 : decode cX12_qJoins 259 = .ok (.ladd, 1) := by decide +kernel
theorem dX12_qJoins_260 : decode cX12_qJoins 260 = .ok (.lconst 0, 1) := by decide +kernel
theorem dX12_qJoins_261 : decode cX12_qJoins 261 = .ok (.lcmp, 1) := by decide +kernel
theorem dX12_qJoins_262 : decode cX12_qJoins 262 = .ok (.ifCond .le 7, 3) := by decide +kernel
theorem dX12_qJoins_265 : decode cX12_qJoins 265 = .ok (.lconst 1, 1) := by decide +kernel
theorem dX12_qJoins_266 : decode cX12_qJoins 266 = .ok (.goto 4, 3) := by decide +kernel
theorem dX12_qJoins_269 : decode cX12_qJoins 269 = .ok (.lconst 0, 1) := by decide +kernel
theorem dX12_qJoins_270 : decode cX12_qJoins 270 = .ok (.invokevirtual 319, 3) := by decide +kernel
theorem dX12_qJoins_273 : decode cX12_qJoins 273 = .ok (.return_, 1) := by decide +kernel
set_option maxRecDepth 20000 in
theorem bk_X12_qJoins_0 {d : Nat} {w : hb_W} {Q : Option hb_V → hb_W → Prop} {x1 : Int32} (h : vp_in ((hb_fI w 12 86 0) - (1 : Int32)) 1700 ∧ (vp_in ((hb_fI w 12 86 0) - (2 : Int32)) 1700 ∧ ((x1 = (1 : Int32) → hb_O yX12_qClip cX12_qClip 2 (some .long) d [hb_l ((hb_aL w 12 56 0 ((hb_fI w 12 86 0) - (2 : Int32)).toNatClampNeg) + (hb_aL w 12 56 0 ((hb_fI w 12 86 0) - (1 : Int32)).toNatClampNeg))] (hb_pI w 12 86 0 ((hb_fI w 12 86 0) - (2 : Int32))) (fun rv w1 => hb_R yX12_qJoins cX12_qJoins 6 none (d + 1) 100 [some (hb_r 12 0 0), some (hb_i x1), some (hb_l (hb_aL w 12 56 0 ((hb_fI w 12 86 0) - (1 : Int32)).toNatClampNeg)), none, some (hb_l (hb_aL w 12 56 0 ((hb_fI w 12 86 0) - (2 : Int32)).toNatClampNeg)), none] (rv.toList ++ [hb_r 12 0 0]) w1 Q)) ∧ (x1 = (2 : Int32) → hb_O yX12_qClip cX12_qClip 2 (some .long) d [hb_l ((hb_aL w 12 56 0 ((hb_fI w 12 86 0) - (2 : Int32)).toNatClampNeg) - (hb_aL w 12 56 0 ((hb_fI w 12 86 0) - (1 : Int32)).toNatClampNeg))] (hb_pI w 12 86 0 ((hb_fI w 12 86 0) - (2 : Int32))) (fun rv w1 => hb_R yX12_qJoins cX12_qJoins 6 none (d + 1) 114 [some (hb_r 12 0 0), some (hb_i x1), some (hb_l (hb_aL w 12 56 0 ((hb_fI w 12 86 0) - (1 : Int32)).toNatClampNeg)), none, some (hb_l (hb_aL w 12 56 0 ((hb_fI w 12 86 0) - (2 : Int32)).toNatClampNeg)), none] (rv.toList ++ [hb_r 12 0 0]) w1 Q)) ∧ (x1 = (3 : Int32) → hb_O yX12_qClip cX12_qClip 2 (some .long) d [hb_l ((hb_aL w 12 56 0 ((hb_fI w 12 86 0) - (2 : Int32)).toNatClampNeg) * (hb_aL w 12 56 0 ((hb_fI w 12 86 0) - (1 : Int32)).toNatClampNeg))] (hb_pI w 12 86 0 ((hb_fI w 12 86 0) - (2 : Int32))) (fun rv w1 => hb_R yX12_qJoins cX12_qJoins 6 none (d + 1) 128 [some (hb_r 12 0 0), some (hb_i x1), some (hb_l (hb_aL w 12 56 0 ((hb_fI w 12 86 0) - (1 : Int32)).toNatClampNeg)), none, some (hb_l (hb_aL w 12 56 0 ((hb_fI w 12 86 0) - (2 : Int32)).toNatClampNeg)), none] (rv.toList ++ [hb_r 12 0 0]) w1 Q)) ∧ (x1 = (4 : Int32) → hb_O yX12_qFloor cX12_qFloor 6 (some .long) d [hb_l (hb_aL w 12 56 0 ((hb_fI w 12 86 0) - (2 : Int32)).toNatClampNeg), hb_l (hb_aL w 12 56 0 ((hb_fI w 12 86 0) - (1 : Int32)).toNatClampNeg)] (hb_pI w 12 86 0 ((hb_fI w 12 86 0) - (2 : Int32))) (fun rv w1 => hb_R yX12_qJoins cX12_qJoins 6 none (d + 1) 141 [some (hb_r 12 0 0), some (hb_i x1), some (hb_l (hb_aL w 12 56 0 ((hb_fI w 12 86 0) - (1 : Int32)).toNatClampNeg)), none, some (hb_l (hb_aL w 12 56 0 ((hb_fI w 12 86 0) - (2 : Int32)).toNatClampNeg)), none] (rv.toList ++ [hb_r 12 0 0]) w1 Q)) ∧ (x1 = (5 : Int32) → ((0 ≤ (lg_cmp (hb_aL w 12 56 0 ((hb_fI w 12 86 0) - (2 : Int32)).toNatClampNeg) (hb_aL w 12 56 0 ((hb_fI w 12 86 0) - (1 : Int32)).toNatClampNeg))) → hb_R yX12_qJoins cX12_qJoins 6 none (d + 1) 161 [some (hb_r 12 0 0), some (hb_i x1), some (hb_l (hb_aL w 12 56 0 ((hb_fI w 12 86 0) - (1 : Int32)).toNatClampNeg)), none, some (hb_l (hb_aL w 12 56 0 ((hb_fI w 12 86 0) - (2 : Int32)).toNatClampNeg)), none] [hb_l (hb_aL w 12 56 0 ((hb_fI w 12 86 0) - (1 : Int32)).toNatClampNeg), hb_r 12 0 0] (hb_pI w 12 86 0 ((hb_fI w 12 86 0) - (2 : Int32))) Q) ∧ ((¬ 0 ≤ (lg_cmp (hb_aL w 12 56 0 ((hb_fI w 12 86 0) - (2 : Int32)).toNatClampNeg) (hb_aL w 12 56 0 ((hb_fI w 12 86 0) - (1 : Int32)).toNatClampNeg))) → hb_R yX12_qJoins cX12_qJoins 6 none (d + 1) 161 [some (hb_r 12 0 0), some (hb_i x1), some (hb_l (hb_aL w 12 56 0 ((hb_fI w 12 86 0) - (1 : Int32)).toNatClampNeg)), none, some (hb_l (hb_aL w 12 56 0 ((hb_fI w 12 86 0) - (2 : Int32)).toNatClampNeg)), none] [hb_l (hb_aL w 12 56 0 ((hb_fI w 12 86 0) - (2 : Int32)).toNatClampNeg), hb_r 12 0 0] (hb_pI w 12 86 0 ((hb_fI w 12 86 0) - (2 : Int32))) Q)) ∧ (x1 = (6 : Int32) → (((lg_cmp (hb_aL w 12 56 0 ((hb_fI w 12 86 0) - (2 : Int32)).toNatClampNeg) (hb_aL w 12 56 0 ((hb_fI w 12 86 0) - (1 : Int32)).toNatClampNeg)) ≤ 0) → hb_R yX12_qJoins cX12_qJoins 6 none (d + 1) 181 [some (hb_r 12 0 0), some (hb_i x1), some (hb_l (hb_aL w 12 56 0 ((hb_fI w 12 86 0) - (1 : Int32)).toNatClampNeg)), none, some (hb_l (hb_aL w 12 56 0 ((hb_fI w 12 86 0) - (2 : Int32)).toNatClampNeg)), none] [hb_l (hb_aL w 12 56 0 ((hb_fI w 12 86 0) - (1 : Int32)).toNatClampNeg), hb_r 12 0 0] (hb_pI w 12 86 0 ((hb_fI w 12 86 0) - (2 : Int32))) Q) ∧ ((¬ (lg_cmp (hb_aL w 12 56 0 ((hb_fI w 12 86 0) - (2 : Int32)).toNatClampNeg) (hb_aL w 12 56 0 ((hb_fI w 12 86 0) - (1 : Int32)).toNatClampNeg)) ≤ 0) → hb_R yX12_qJoins cX12_qJoins 6 none (d + 1) 181 [some (hb_r 12 0 0), some (hb_i x1), some (hb_l (hb_aL w 12 56 0 ((hb_fI w 12 86 0) - (1 : Int32)).toNatClampNeg)), none, some (hb_l (hb_aL w 12 56 0 ((hb_fI w 12 86 0) - (2 : Int32)).toNatClampNeg)), none] [hb_l (hb_aL w 12 56 0 ((hb_fI w 12 86 0) - (2 : Int32)).toNatClampNeg), hb_r 12 0 0] (hb_pI w 12 86 0 ((hb_fI w 12 86 0) - (2 : Int32))) Q)) ∧ (x1 = (7 : Int32) → ((0 ≤ (lg_cmp (hb_aL w 12 56 0 ((hb_fI w 12 86 0) - (2 : Int32)).toNatClampNeg) (hb_aL w 12 56 0 ((hb_fI w 12 86 0) - (1 : Int32)).toNatClampNeg))) → hb_R yX12_qJoins cX12_qJoins 6 none (d + 1) 200 [some (hb_r 12 0 0), some (hb_i x1), some (hb_l (hb_aL w 12 56 0 ((hb_fI w 12 86 0) - (1 : Int32)).toNatClampNeg)), none, some (hb_l (hb_aL w 12 56 0 ((hb_fI w 12 86 0) - (2 : Int32)).toNatClampNeg)), none] [hb_l (0 : Int64), hb_r 12 0 0] (hb_pI w 12 86 0 ((hb_fI w 12 86 0) - (2 : Int32))) Q) ∧ ((¬ 0 ≤ (lg_cmp (hb_aL w 12 56 0 ((hb_fI w 12 86 0) - (2 : Int32)).toNatClampNeg) (hb_aL w 12 56 0 ((hb_fI w 12 86 0) - (1 : Int32)).toNatClampNeg))) → hb_R yX12_qJoins cX12_qJoins 6 none (d + 1) 200 [some (hb_r 12 0 0), some (hb_i x1), some (hb_l (hb_aL w 12 56 0 ((hb_fI w 12 86 0) - (1 : Int32)).toNatClampNeg)), none, some (hb_l (hb_aL w 12 56 0 ((hb_fI w 12 86 0) - (2 : Int32)).toNatClampNeg)), none] [hb_l (1 : Int64), hb_r 12 0 0] (hb_pI w 12 86 0 ((hb_fI w 12 86 0) - (2 : Int32))) Q)) ∧ (x1 = (8 : Int32) → (((lg_cmp (hb_aL w 12 56 0 ((hb_fI w 12 86 0) - (2 : Int32)).toNatClampNeg) (hb_aL w 12 56 0 ((hb_fI w 12 86 0) - (1 : Int32)).toNatClampNeg)) ≤ 0) → hb_R yX12_qJoins cX12_qJoins 6 none (d + 1) 219 [some (hb_r 12 0 0), some (hb_i x1), some (hb_l (hb_aL w 12 56 0 ((hb_fI w 12 86 0) - (1 : Int32)).toNatClampNeg)), none, some (hb_l (hb_aL w 12 56 0 ((hb_fI w 12 86 0) - (2 : Int32)).toNatClampNeg)), none] [hb_l (0 : Int64), hb_r 12 0 0] (hb_pI w 12 86 0 ((hb_fI w 12 86 0) - (2 : Int32))) Q) ∧ ((¬ (lg_cmp (hb_aL w 12 56 0 ((hb_fI w 12 86 0) - (2 : Int32)).toNatClampNeg) (hb_aL w 12 56 0 ((hb_fI w 12 86 0) - (1 : Int32)).toNatClampNeg)) ≤ 0) → hb_R yX12_qJoins cX12_qJoins 6 none (d + 1) 219 [some (hb_r 12 0 0), some (hb_i x1), some (hb_l (hb_aL w 12 56 0 ((hb_fI w 12 86 0) - (1 : Int32)).toNatClampNeg)), none, some (hb_l (hb_aL w 12 56 0 ((hb_fI w 12 86 0) - (2 : Int32)).toNatClampNeg)), none] [hb_l (1 : Int64), hb_r 12 0 0] (hb_pI w 12 86 0 ((hb_fI w 12 86 0) - (2 : Int32))) Q)) ∧ (x1 = (9 : Int32) → ((¬ (lg_cmp (hb_aL w 12 56 0 ((hb_fI w 12 86 0) - (2 : Int32)).toNatClampNeg) (hb_aL w 12 56 0 ((hb_fI w 12 86 0) - (1 : Int32)).toNatClampNeg)) = 0) → hb_R yX12_qJoins cX12_qJoins 6 none (d + 1) 238 [some (hb_r 12 0 0), some (hb_i x1), some (hb_l (hb_aL w 12 56 0 ((hb_fI w 12 86 0) - (1 : Int32)).toNatClampNeg)), none, some (hb_l (hb_aL w 12 56 0 ((hb_fI w 12 86 0) - (2 : Int32)).toNatClampNeg)), none] [hb_l (0 : Int64), hb_r 12 0 0] (hb_pI w 12 86 0 ((hb_fI w 12 86 0) - (2 : Int32))) Q) ∧ (((lg_cmp (hb_aL w 12 56 0 ((hb_fI w 12 86 0) - (2 : Int32)).toNatClampNeg) (hb_aL w 12 56 0 ((hb_fI w 12 86 0) - (1 : Int32)).toNatClampNeg)) = 0) → hb_R yX12_qJoins cX12_qJoins 6 none (d + 1) 238 [some (hb_r 12 0 0), some (hb_i x1), some (hb_l (hb_aL w 12 56 0 ((hb_fI w 12 86 0) - (1 : Int32)).toNatClampNeg)), none, some (hb_l (hb_aL w 12 56 0 ((hb_fI w 12 86 0) - (2 : Int32)).toNatClampNeg)), none] [hb_l (1 : Int64), hb_r 12 0 0] (hb_pI w 12 86 0 ((hb_fI w 12 86 0) - (2 : Int32))) Q)) ∧ (x1 = (10 : Int32) → hb_O yX12_qPuts cX12_qPuts 3 none d [hb_r 12 0 0, hb_l ((hb_aL w 12 56 0 ((hb_fI w 12 86 0) - (2 : Int32)).toNatClampNeg) * (hb_aL w 12 56 0 ((hb_fI w 12 86 0) - (1 : Int32)).toNatClampNeg))] (hb_pI w 12 86 0 ((hb_fI w 12 86 0) - (2 : Int32))) (fun rv w1 => hb_R yX12_qJoins cX12_qJoins 6 none (d + 1) 252 [some (hb_r 12 0 0), some (hb_i x1), some (hb_l (hb_aL w 12 56 0 ((hb_fI w 12 86 0) - (1 : Int32)).toNatClampNeg)), none, some (hb_l (hb_aL w 12 56 0 ((hb_fI w 12 86 0) - (2 : Int32)).toNatClampNeg)), none] (rv.toList ++ []) w1 Q)) ∧ (¬ x1 = (1 : Int32) → ¬ x1 = (2 : Int32) → ¬ x1 = (3 : Int32) → ¬ x1 = (4 : Int32) → ¬ x1 = (5 : Int32) → ¬ x1 = (6 : Int32) → ¬ x1 = (7 : Int32) → ¬ x1 = (8 : Int32) → ¬ x1 = (9 : Int32) → ¬ x1 = (10 : Int32) → (((lg_cmp ((hb_aL w 12 56 0 ((hb_fI w 12 86 0) - (2 : Int32)).toNatClampNeg) + (hb_aL w 12 56 0 ((hb_fI w 12 86 0) - (1 : Int32)).toNatClampNeg)) (0 : Int64)) ≤ 0) → hb_R yX12_qJoins cX12_qJoins 6 none (d + 1) 270 [some (hb_r 12 0 0), some (hb_i x1), some (hb_l (hb_aL w 12 56 0 ((hb_fI w 12 86 0) - (1 : Int32)).toNatClampNeg)), none, some (hb_l (hb_aL w 12 56 0 ((hb_fI w 12 86 0) - (2 : Int32)).toNatClampNeg)), none] [hb_l (0 : Int64), hb_r 12 0 0] (hb_pI w 12 86 0 ((hb_fI w 12 86 0) - (2 : Int32))) Q) ∧ ((¬ (lg_cmp ((hb_aL w 12 56 0 ((hb_fI w 12 86 0) - (2 : Int32)).toNatClampNeg) + (hb_aL w 12 56 0 ((hb_fI w 12 86 0) - (1 : Int32)).toNatClampNeg)) (0 : Int64)) ≤ 0) → hb_R yX12_qJoins cX12_qJoins 6 none (d + 1) 270 [some (hb_r 12 0 0), some (hb_i x1), some (hb_l (hb_aL w 12 56 0 ((hb_fI w 12 86 0) - (1 : Int32)).toNatClampNeg)), none, some (hb_l (hb_aL w 12 56 0 ((hb_fI w 12 86 0) - (2 : Int32)).toNatClampNeg)), none] [hb_l (1 : Int64), hb_r 12 0 0] (hb_pI w 12 86 0 ((hb_fI w 12 86 0) - (2 : Int32))) Q))))) : hb_R yX12_qJoins cX12_qJoins 6 none (d + 1) 0 [some (hb_r 12 0 0), some (hb_i x1), none, none, none, none] [] w Q := by
  refine hb_aload_n (pc := 0) (i := 0) dX12_qJoins_0 rfl rfl ?_
  refine hb_getR (pc := 1) (g1 := 0) dX12_qJoins_1 fw_X12_185 cw_12 rfl (by decide) rfl (by decide) rfl ?_
  refine hb_aload_n (pc := 4) (i := 0) dX12_qJoins_4 rfl rfl ?_
  refine hb_getIx (pc := 5) (x := hb_fI w 12 86 0) dX12_qJoins_5 fw_X12_316 cw_12 rfl (by decide) rfl rfl ?_
  refine hb_iconst (pc := 8) (v := 1) dX12_qJoins_8 (by decide) ?_
  refine hb_isub (pc := 9) dX12_qJoins_9 ?_
  obtain ⟨ho1, hr1⟩ := h
  refine hb_laldx (pc := 10) (x := hb_aL w 12 56 0 ((hb_fI w 12 86 0) - (1 : Int32)).toNatClampNeg) dX12_qJoins_10 rfl (by decide) ho1 rfl ?_
  refine hb_lstore_n (pc := 11) (i := 2) (ls1 := [some (hb_r 12 0 0), some (hb_i x1), some (hb_l (hb_aL w 12 56 0 ((hb_fI w 12 86 0) - (1 : Int32)).toNatClampNeg)), none, none, none]) dX12_qJoins_11 rfl (by decide) rfl ?_
  refine hb_aload_n (pc := 12) (i := 0) dX12_qJoins_12 rfl rfl ?_
  refine hb_getR (pc := 13) (g1 := 0) dX12_qJoins_13 fw_X12_185 cw_12 rfl (by decide) rfl (by decide) rfl ?_
  refine hb_aload_n (pc := 16) (i := 0) dX12_qJoins_16 rfl rfl ?_
  refine hb_getIx (pc := 17) (x := hb_fI w 12 86 0) dX12_qJoins_17 fw_X12_316 cw_12 rfl (by decide) rfl rfl ?_
  refine hb_iconst (pc := 20) (v := 2) dX12_qJoins_20 (by decide) ?_
  refine hb_isub (pc := 21) dX12_qJoins_21 ?_
  obtain ⟨ho2, hr2⟩ := hr1
  refine hb_laldx (pc := 22) (x := hb_aL w 12 56 0 ((hb_fI w 12 86 0) - (2 : Int32)).toNatClampNeg) dX12_qJoins_22 rfl (by decide) ho2 rfl ?_
  refine hb_lstore (pc := 23) (i := 4) (ls1 := [some (hb_r 12 0 0), some (hb_i x1), some (hb_l (hb_aL w 12 56 0 ((hb_fI w 12 86 0) - (1 : Int32)).toNatClampNeg)), none, some (hb_l (hb_aL w 12 56 0 ((hb_fI w 12 86 0) - (2 : Int32)).toNatClampNeg)), none]) dX12_qJoins_23 (by decide) rfl ?_
  refine hb_aload_n (pc := 25) (i := 0) dX12_qJoins_25 rfl rfl ?_
  refine hb_dupr (pc := 26) dX12_qJoins_26 ?_
  refine hb_getIx (pc := 27) (x := hb_fI w 12 86 0) dX12_qJoins_27 fw_X12_316 cw_12 rfl (by decide) rfl rfl ?_
  refine hb_iconst (pc := 30) (v := 2) dX12_qJoins_30 (by decide) ?_
  refine hb_isub (pc := 31) dX12_qJoins_31 ?_
  refine hb_putI (pc := 32) dX12_qJoins_32 fw_X12_316 cw_12 pw_12_86 rfl (by decide) rfl rfl rfl ?_
  refine hb_iload_n (pc := 35) (i := 1) dX12_qJoins_35 rfl rfl ?_
  by_cases e3_0 : x1 = (1 : Int32)
  · have hk3_0 := hr2.1 e3_0
    have ei : x1.toInt = 1 := by rw [e3_0]; rfl
    refine hb_tabIn (pc := 36) (tgt := 92) (off := 56) dX12_qJoins_36 (by rw [ei]; decide) (by rw [ei]; decide) (by rw [ei]; rfl) (by decide) ?_
    refine hb_aload_n (pc := 92) (i := 0) dX12_qJoins_92 rfl rfl ?_
    refine hb_lload (pc := 93) dX12_qJoins_93 rfl ?_
    refine hb_lload_n (pc := 95) (i := 2) dX12_qJoins_95 rfl rfl ?_
    refine hb_ladd (pc := 96) dX12_qJoins_96 ?_
    exact hb_callS (pc := 97) (As := [hb_l ((hb_aL w 12 56 0 ((hb_fI w 12 86 0) - (2 : Int32)).toNatClampNeg) + (hb_aL w 12 56 0 ((hb_fI w 12 86 0) - (1 : Int32)).toNatClampNeg))]) (st := [hb_r 12 0 0]) dX12_qJoins_97 ml_X12_562 mf_X12_qClip ms_X12_qClip rfl rfl (Nat.le_of_ble_eq_true rfl) (Nat.le_of_ble_eq_true rfl) hk3_0 (fun _ _ q => q)
  by_cases e3_1 : x1 = (2 : Int32)
  · have hk3_1 := hr2.2.1 e3_1
    have ei : x1.toInt = 2 := by rw [e3_1]; rfl
    refine hb_tabIn (pc := 36) (tgt := 106) (off := 70) dX12_qJoins_36 (by rw [ei]; decide) (by rw [ei]; decide) (by rw [ei]; rfl) (by decide) ?_
    refine hb_aload_n (pc := 106) (i := 0) dX12_qJoins_106 rfl rfl ?_
    refine hb_lload (pc := 107) dX12_qJoins_107 rfl ?_
    refine hb_lload_n (pc := 109) (i := 2) dX12_qJoins_109 rfl rfl ?_
    refine hb_lsub (pc := 110) dX12_qJoins_110 ?_
    exact hb_callS (pc := 111) (As := [hb_l ((hb_aL w 12 56 0 ((hb_fI w 12 86 0) - (2 : Int32)).toNatClampNeg) - (hb_aL w 12 56 0 ((hb_fI w 12 86 0) - (1 : Int32)).toNatClampNeg))]) (st := [hb_r 12 0 0]) dX12_qJoins_111 ml_X12_562 mf_X12_qClip ms_X12_qClip rfl rfl (Nat.le_of_ble_eq_true rfl) (Nat.le_of_ble_eq_true rfl) hk3_1 (fun _ _ q => q)
  by_cases e3_2 : x1 = (3 : Int32)
  · have hk3_2 := hr2.2.2.1 e3_2
    have ei : x1.toInt = 3 := by rw [e3_2]; rfl
    refine hb_tabIn (pc := 36) (tgt := 120) (off := 84) dX12_qJoins_36 (by rw [ei]; decide) (by rw [ei]; decide) (by rw [ei]; rfl) (by decide) ?_
    refine hb_aload_n (pc := 120) (i := 0) dX12_qJoins_120 rfl rfl ?_
    refine hb_lload (pc := 121) dX12_qJoins_121 rfl ?_
    refine hb_lload_n (pc := 123) (i := 2) dX12_qJoins_123 rfl rfl ?_
    refine hb_lmul (pc := 124) dX12_qJoins_124 ?_
    exact hb_callS (pc := 125) (As := [hb_l ((hb_aL w 12 56 0 ((hb_fI w 12 86 0) - (2 : Int32)).toNatClampNeg) * (hb_aL w 12 56 0 ((hb_fI w 12 86 0) - (1 : Int32)).toNatClampNeg))]) (st := [hb_r 12 0 0]) dX12_qJoins_125 ml_X12_562 mf_X12_qClip ms_X12_qClip rfl rfl (Nat.le_of_ble_eq_true rfl) (Nat.le_of_ble_eq_true rfl) hk3_2 (fun _ _ q => q)
  by_cases e3_3 : x1 = (4 : Int32)
  · have hk3_3 := hr2.2.2.2.1 e3_3
    have ei : x1.toInt = 4 := by rw [e3_3]; rfl
    refine hb_tabIn (pc := 36) (tgt := 134) (off := 98) dX12_qJoins_36 (by rw [ei]; decide) (by rw [ei]; decide) (by rw [ei]; rfl) (by decide) ?_
    refine hb_aload_n (pc := 134) (i := 0) dX12_qJoins_134 rfl rfl ?_
    refine hb_lload (pc := 135) dX12_qJoins_135 rfl ?_
    refine hb_lload_n (pc := 137) (i := 2) dX12_qJoins_137 rfl rfl ?_
    exact hb_callS (pc := 138) (As := [hb_l (hb_aL w 12 56 0 ((hb_fI w 12 86 0) - (2 : Int32)).toNatClampNeg), hb_l (hb_aL w 12 56 0 ((hb_fI w 12 86 0) - (1 : Int32)).toNatClampNeg)]) (st := [hb_r 12 0 0]) dX12_qJoins_138 ml_X12_566 mf_X12_qFloor ms_X12_qFloor rfl rfl (Nat.le_of_ble_eq_true rfl) (Nat.le_of_ble_eq_true rfl) hk3_3 (fun _ _ q => q)
  by_cases e3_4 : x1 = (5 : Int32)
  · have hk3_4 := hr2.2.2.2.2.1 e3_4
    have ei : x1.toInt = 5 := by rw [e3_4]; rfl
    refine hb_tabIn (pc := 36) (tgt := 147) (off := 111) dX12_qJoins_36 (by rw [ei]; decide) (by rw [ei]; decide) (by rw [ei]; rfl) (by decide) ?_
    refine hb_aload_n (pc := 147) (i := 0) dX12_qJoins_147 rfl rfl ?_
    refine hb_lload (pc := 148) dX12_qJoins_148 rfl ?_
    refine hb_lload_n (pc := 150) (i := 2) dX12_qJoins_150 rfl rfl ?_
    refine hb_lcmp (pc := 151) dX12_qJoins_151 ?_
    refine hb_if_ge (pc := 152) (tgt := 160) dX12_qJoins_152 (by decide) (fun c4 => ?_) (fun c4 => ?_)
    · have ht4 := hk3_4.1 c4
      refine hb_lload_n (pc := 160) (i := 2) dX12_qJoins_160 rfl rfl ?_
      exact ht4
    · have ht4 := hk3_4.2 c4
      refine hb_lload (pc := 155) dX12_qJoins_155 rfl ?_
      refine hb_goto (pc := 157) (tgt := 161) dX12_qJoins_157 (by decide) ?_
      exact ht4
  by_cases e3_5 : x1 = (6 : Int32)
  · have hk3_5 := hr2.2.2.2.2.2.1 e3_5
    have ei : x1.toInt = 6 := by rw [e3_5]; rfl
    refine hb_tabIn (pc := 36) (tgt := 167) (off := 131) dX12_qJoins_36 (by rw [ei]; decide) (by rw [ei]; decide) (by rw [ei]; rfl) (by decide) ?_
    refine hb_aload_n (pc := 167) (i := 0) dX12_qJoins_167 rfl rfl ?_
    refine hb_lload (pc := 168) dX12_qJoins_168 rfl ?_
    refine hb_lload_n (pc := 170) (i := 2) dX12_qJoins_170 rfl rfl ?_
    refine hb_lcmp (pc := 171) dX12_qJoins_171 ?_
    refine hb_if_le (pc := 172) (tgt := 180) dX12_qJoins_172 (by decide) (fun c5 => ?_) (fun c5 => ?_)
    · have ht5 := hk3_5.1 c5
      refine hb_lload_n (pc := 180) (i := 2) dX12_qJoins_180 rfl rfl ?_
      exact ht5
    · have ht5 := hk3_5.2 c5
      refine hb_lload (pc := 175) dX12_qJoins_175 rfl ?_
      refine hb_goto (pc := 177) (tgt := 181) dX12_qJoins_177 (by decide) ?_
      exact ht5
  by_cases e3_6 : x1 = (7 : Int32)
  · have hk3_6 := hr2.2.2.2.2.2.2.1 e3_6
    have ei : x1.toInt = 7 := by rw [e3_6]; rfl
    refine hb_tabIn (pc := 36) (tgt := 187) (off := 151) dX12_qJoins_36 (by rw [ei]; decide) (by rw [ei]; decide) (by rw [ei]; rfl) (by decide) ?_
    refine hb_aload_n (pc := 187) (i := 0) dX12_qJoins_187 rfl rfl ?_
    refine hb_lload (pc := 188) dX12_qJoins_188 rfl ?_
    refine hb_lload_n (pc := 190) (i := 2) dX12_qJoins_190 rfl rfl ?_
    refine hb_lcmp (pc := 191) dX12_qJoins_191 ?_
    refine hb_if_ge (pc := 192) (tgt := 199) dX12_qJoins_192 (by decide) (fun c6 => ?_) (fun c6 => ?_)
    · have ht6 := hk3_6.1 c6
      refine hb_lconst (pc := 199) (v := 0) dX12_qJoins_199 (by decide) ?_
      exact ht6
    · have ht6 := hk3_6.2 c6
      refine hb_lconst (pc := 195) (v := 1) dX12_qJoins_195 (by decide) ?_
      refine hb_goto (pc := 196) (tgt := 200) dX12_qJoins_196 (by decide) ?_
      exact ht6
  by_cases e3_7 : x1 = (8 : Int32)
  · have hk3_7 := hr2.2.2.2.2.2.2.2.1 e3_7
    have ei : x1.toInt = 8 := by rw [e3_7]; rfl
    refine hb_tabIn (pc := 36) (tgt := 206) (off := 170) dX12_qJoins_36 (by rw [ei]; decide) (by rw [ei]; decide) (by rw [ei]; rfl) (by decide) ?_
    refine hb_aload_n (pc := 206) (i := 0) dX12_qJoins_206 rfl rfl ?_
    refine hb_lload (pc := 207) dX12_qJoins_207 rfl ?_
    refine hb_lload_n (pc := 209) (i := 2) dX12_qJoins_209 rfl rfl ?_
    refine hb_lcmp (pc := 210) dX12_qJoins_210 ?_
    refine hb_if_le (pc := 211) (tgt := 218) dX12_qJoins_211 (by decide) (fun c7 => ?_) (fun c7 => ?_)
    · have ht7 := hk3_7.1 c7
      refine hb_lconst (pc := 218) (v := 0) dX12_qJoins_218 (by decide) ?_
      exact ht7
    · have ht7 := hk3_7.2 c7
      refine hb_lconst (pc := 214) (v := 1) dX12_qJoins_214 (by decide) ?_
      refine hb_goto (pc := 215) (tgt := 219) dX12_qJoins_215 (by decide) ?_
      exact ht7
  by_cases e3_8 : x1 = (9 : Int32)
  · have hk3_8 := hr2.2.2.2.2.2.2.2.2.1 e3_8
    have ei : x1.toInt = 9 := by rw [e3_8]; rfl
    refine hb_tabIn (pc := 36) (tgt := 225) (off := 189) dX12_qJoins_36 (by rw [ei]; decide) (by rw [ei]; decide) (by rw [ei]; rfl) (by decide) ?_
    refine hb_aload_n (pc := 225) (i := 0) dX12_qJoins_225 rfl rfl ?_
    refine hb_lload (pc := 226) dX12_qJoins_226 rfl ?_
    refine hb_lload_n (pc := 228) (i := 2) dX12_qJoins_228 rfl rfl ?_
    refine hb_lcmp (pc := 229) dX12_qJoins_229 ?_
    refine hb_if_ne (pc := 230) (tgt := 237) dX12_qJoins_230 (by decide) (fun c8 => ?_) (fun c8 => ?_)
    · have ht8 := hk3_8.1 c8
      refine hb_lconst (pc := 237) (v := 0) dX12_qJoins_237 (by decide) ?_
      exact ht8
    · have ht8 := hk3_8.2 c8
      refine hb_lconst (pc := 233) (v := 1) dX12_qJoins_233 (by decide) ?_
      refine hb_goto (pc := 234) (tgt := 238) dX12_qJoins_234 (by decide) ?_
      exact ht8
  by_cases e3_9 : x1 = (10 : Int32)
  · have hk3_9 := hr2.2.2.2.2.2.2.2.2.2.1 e3_9
    have ei : x1.toInt = 10 := by rw [e3_9]; rfl
    refine hb_tabIn (pc := 36) (tgt := 244) (off := 208) dX12_qJoins_36 (by rw [ei]; decide) (by rw [ei]; decide) (by rw [ei]; rfl) (by decide) ?_
    refine hb_aload_n (pc := 244) (i := 0) dX12_qJoins_244 rfl rfl ?_
    refine hb_lload (pc := 245) dX12_qJoins_245 rfl ?_
    refine hb_lload_n (pc := 247) (i := 2) dX12_qJoins_247 rfl rfl ?_
    refine hb_lmul (pc := 248) dX12_qJoins_248 ?_
    exact hb_callV (pc := 249) (As := [hb_l ((hb_aL w 12 56 0 ((hb_fI w 12 86 0) - (2 : Int32)).toNatClampNeg) * (hb_aL w 12 56 0 ((hb_fI w 12 86 0) - (1 : Int32)).toNatClampNeg))]) (st := []) dX12_qJoins_249 ml_X12_319 mf_X12_qPuts mi_X12_qPuts (ci := 12) rfl rfl (by decide) rfl rfl (Nat.le_of_ble_eq_true rfl) (Nat.le_of_ble_eq_true rfl) hk3_9 (fun _ _ q => q)
  have hk3_d := hr2.2.2.2.2.2.2.2.2.2.2 e3_0 e3_1 e3_2 e3_3 e3_4 e3_5 e3_6 e3_7 e3_8 e3_9
  have n3_0 := lv_neT (a := 1) e3_0 rfl
  have n3_1 := lv_neT (a := 2) e3_1 rfl
  have n3_2 := lv_neT (a := 3) e3_2 rfl
  have n3_3 := lv_neT (a := 4) e3_3 rfl
  have n3_4 := lv_neT (a := 5) e3_4 rfl
  have n3_5 := lv_neT (a := 6) e3_5 rfl
  have n3_6 := lv_neT (a := 7) e3_6 rfl
  have n3_7 := lv_neT (a := 8) e3_7 rfl
  have n3_8 := lv_neT (a := 9) e3_8 rfl
  have n3_9 := lv_neT (a := 10) e3_9 rfl
  refine hb_tabOut (pc := 36) (tgt := 255) dX12_qJoins_36 (by omega) (by decide) ?_
  refine hb_aload_n (pc := 255) (i := 0) dX12_qJoins_255 rfl rfl ?_
  refine hb_lload (pc := 256) dX12_qJoins_256 rfl ?_
  refine hb_lload_n (pc := 258) (i := 2) dX12_qJoins_258 rfl rfl ?_
  refine hb_ladd (pc := 259) dX12_qJoins_259 ?_
  refine hb_lconst (pc := 260) (v := 0) dX12_qJoins_260 (by decide) ?_
  refine hb_lcmp (pc := 261) dX12_qJoins_261 ?_
  refine hb_if_le (pc := 262) (tgt := 269) dX12_qJoins_262 (by decide) (fun c9 => ?_) (fun c9 => ?_)
  · have ht9 := hk3_d.1 c9
    refine hb_lconst (pc := 269) (v := 0) dX12_qJoins_269 (by decide) ?_
    exact ht9
  · have ht9 := hk3_d.2 c9
    refine hb_lconst (pc := 265) (v := 1) dX12_qJoins_265 (by decide) ?_
    refine hb_goto (pc := 266) (tgt := 270) dX12_qJoins_266 (by decide) ?_
    exact ht9
set_option maxRecDepth 20000 in
theorem bk_X12_qJoins_100 {d : Nat} {w : hb_W} {Q : Option hb_V → hb_W → Prop} {x1 : Int32} {l2 : Int64} {l4 : Int64} {ls1 : Int64} (h : hb_O yX12_qPuts cX12_qPuts 3 none d [hb_r 12 0 0, hb_l ls1] w (fun rv w1 => hb_R yX12_qJoins cX12_qJoins 6 none (d + 1) 103 [some (hb_r 12 0 0), some (hb_i x1), some (hb_l l2), none, some (hb_l l4), none] (rv.toList ++ []) w1 Q)) : hb_R yX12_qJoins cX12_qJoins 6 none (d + 1) 100 [some (hb_r 12 0 0), some (hb_i x1), some (hb_l l2), none, some (hb_l l4), none] [hb_l ls1, hb_r 12 0 0] w Q := by
  exact hb_callV (pc := 100) (As := [hb_l ls1]) (st := []) dX12_qJoins_100 ml_X12_319 mf_X12_qPuts mi_X12_qPuts (ci := 12) rfl rfl (by decide) rfl rfl (Nat.le_of_ble_eq_true rfl) (Nat.le_of_ble_eq_true rfl) h (fun _ _ q => q)
set_option maxRecDepth 20000 in
theorem bk_X12_qJoins_103 {d : Nat} {w : hb_W} {Q : Option hb_V → hb_W → Prop} {x1 : Int32} {l2 : Int64} {l4 : Int64} (h : hb_R yX12_qJoins cX12_qJoins 6 none (d + 1) 273 [some (hb_r 12 0 0), some (hb_i x1), some (hb_l l2), none, some (hb_l l4), none] [] w Q) : hb_R yX12_qJoins cX12_qJoins 6 none (d + 1) 103 [some (hb_r 12 0 0), some (hb_i x1), some (hb_l l2), none, some (hb_l l4), none] [] w Q := by
  refine hb_goto (pc := 103) (tgt := 273) dX12_qJoins_103 (by decide) ?_
  exact h
set_option maxRecDepth 20000 in
theorem bk_X12_qJoins_114 {d : Nat} {w : hb_W} {Q : Option hb_V → hb_W → Prop} {x1 : Int32} {l2 : Int64} {l4 : Int64} {ls1 : Int64} (h : hb_O yX12_qPuts cX12_qPuts 3 none d [hb_r 12 0 0, hb_l ls1] w (fun rv w1 => hb_R yX12_qJoins cX12_qJoins 6 none (d + 1) 117 [some (hb_r 12 0 0), some (hb_i x1), some (hb_l l2), none, some (hb_l l4), none] (rv.toList ++ []) w1 Q)) : hb_R yX12_qJoins cX12_qJoins 6 none (d + 1) 114 [some (hb_r 12 0 0), some (hb_i x1), some (hb_l l2), none, some (hb_l l4), none] [hb_l ls1, hb_r 12 0 0] w Q := by
  exact hb_callV (pc := 114) (As := [hb_l ls1]) (st := []) dX12_qJoins_114 ml_X12_319 mf_X12_qPuts mi_X12_qPuts (ci := 12) rfl rfl (by decide) rfl rfl (Nat.le_of_ble_eq_true rfl) (Nat.le_of_ble_eq_true rfl) h (fun _ _ q => q)
set_option maxRecDepth 20000 in
theorem bk_X12_qJoins_117 {d : Nat} {w : hb_W} {Q : Option hb_V → hb_W → Prop} {x1 : Int32} {l2 : Int64} {l4 : Int64} (h : hb_R yX12_qJoins cX12_qJoins 6 none (d + 1) 273 [some (hb_r 12 0 0), some (hb_i x1), some (hb_l l2), none, some (hb_l l4), none] [] w Q) : hb_R yX12_qJoins cX12_qJoins 6 none (d + 1) 117 [some (hb_r 12 0 0), some (hb_i x1), some (hb_l l2), none, some (hb_l l4), none] [] w Q := by
  refine hb_goto (pc := 117) (tgt := 273) dX12_qJoins_117 (by decide) ?_
  exact h
set_option maxRecDepth 20000 in
theorem bk_X12_qJoins_128 {d : Nat} {w : hb_W} {Q : Option hb_V → hb_W → Prop} {x1 : Int32} {l2 : Int64} {l4 : Int64} {ls1 : Int64} (h : hb_O yX12_qPuts cX12_qPuts 3 none d [hb_r 12 0 0, hb_l ls1] w (fun rv w1 => hb_R yX12_qJoins cX12_qJoins 6 none (d + 1) 131 [some (hb_r 12 0 0), some (hb_i x1), some (hb_l l2), none, some (hb_l l4), none] (rv.toList ++ []) w1 Q)) : hb_R yX12_qJoins cX12_qJoins 6 none (d + 1) 128 [some (hb_r 12 0 0), some (hb_i x1), some (hb_l l2), none, some (hb_l l4), none] [hb_l ls1, hb_r 12 0 0] w Q := by
  exact hb_callV (pc := 128) (As := [hb_l ls1]) (st := []) dX12_qJoins_128 ml_X12_319 mf_X12_qPuts mi_X12_qPuts (ci := 12) rfl rfl (by decide) rfl rfl (Nat.le_of_ble_eq_true rfl) (Nat.le_of_ble_eq_true rfl) h (fun _ _ q => q)
set_option maxRecDepth 20000 in
theorem bk_X12_qJoins_131 {d : Nat} {w : hb_W} {Q : Option hb_V → hb_W → Prop} {x1 : Int32} {l2 : Int64} {l4 : Int64} (h : hb_R yX12_qJoins cX12_qJoins 6 none (d + 1) 273 [some (hb_r 12 0 0), some (hb_i x1), some (hb_l l2), none, some (hb_l l4), none] [] w Q) : hb_R yX12_qJoins cX12_qJoins 6 none (d + 1) 131 [some (hb_r 12 0 0), some (hb_i x1), some (hb_l l2), none, some (hb_l l4), none] [] w Q := by
  refine hb_goto (pc := 131) (tgt := 273) dX12_qJoins_131 (by decide) ?_
  exact h
set_option maxRecDepth 20000 in
theorem bk_X12_qJoins_141 {d : Nat} {w : hb_W} {Q : Option hb_V → hb_W → Prop} {x1 : Int32} {l2 : Int64} {l4 : Int64} {ls1 : Int64} (h : hb_O yX12_qPuts cX12_qPuts 3 none d [hb_r 12 0 0, hb_l ls1] w (fun rv w1 => hb_R yX12_qJoins cX12_qJoins 6 none (d + 1) 144 [some (hb_r 12 0 0), some (hb_i x1), some (hb_l l2), none, some (hb_l l4), none] (rv.toList ++ []) w1 Q)) : hb_R yX12_qJoins cX12_qJoins 6 none (d + 1) 141 [some (hb_r 12 0 0), some (hb_i x1), some (hb_l l2), none, some (hb_l l4), none] [hb_l ls1, hb_r 12 0 0] w Q := by
  exact hb_callV (pc := 141) (As := [hb_l ls1]) (st := []) dX12_qJoins_141 ml_X12_319 mf_X12_qPuts mi_X12_qPuts (ci := 12) rfl rfl (by decide) rfl rfl (Nat.le_of_ble_eq_true rfl) (Nat.le_of_ble_eq_true rfl) h (fun _ _ q => q)
set_option maxRecDepth 20000 in
theorem bk_X12_qJoins_144 {d : Nat} {w : hb_W} {Q : Option hb_V → hb_W → Prop} {x1 : Int32} {l2 : Int64} {l4 : Int64} (h : hb_R yX12_qJoins cX12_qJoins 6 none (d + 1) 273 [some (hb_r 12 0 0), some (hb_i x1), some (hb_l l2), none, some (hb_l l4), none] [] w Q) : hb_R yX12_qJoins cX12_qJoins 6 none (d + 1) 144 [some (hb_r 12 0 0), some (hb_i x1), some (hb_l l2), none, some (hb_l l4), none] [] w Q := by
  refine hb_goto (pc := 144) (tgt := 273) dX12_qJoins_144 (by decide) ?_
  exact h
set_option maxRecDepth 20000 in
theorem bk_X12_qJoins_161 {d : Nat} {w : hb_W} {Q : Option hb_V → hb_W → Prop} {x1 : Int32} {l2 : Int64} {l4 : Int64} {ls1 : Int64} (h : hb_O yX12_qPuts cX12_qPuts 3 none d [hb_r 12 0 0, hb_l ls1] w (fun rv w1 => hb_R yX12_qJoins cX12_qJoins 6 none (d + 1) 164 [some (hb_r 12 0 0), some (hb_i x1), some (hb_l l2), none, some (hb_l l4), none] (rv.toList ++ []) w1 Q)) : hb_R yX12_qJoins cX12_qJoins 6 none (d + 1) 161 [some (hb_r 12 0 0), some (hb_i x1), some (hb_l l2), none, some (hb_l l4), none] [hb_l ls1, hb_r 12 0 0] w Q := by
  exact hb_callV (pc := 161) (As := [hb_l ls1]) (st := []) dX12_qJoins_161 ml_X12_319 mf_X12_qPuts mi_X12_qPuts (ci := 12) rfl rfl (by decide) rfl rfl (Nat.le_of_ble_eq_true rfl) (Nat.le_of_ble_eq_true rfl) h (fun _ _ q => q)
set_option maxRecDepth 20000 in
theorem bk_X12_qJoins_164 {d : Nat} {w : hb_W} {Q : Option hb_V → hb_W → Prop} {x1 : Int32} {l2 : Int64} {l4 : Int64} (h : hb_R yX12_qJoins cX12_qJoins 6 none (d + 1) 273 [some (hb_r 12 0 0), some (hb_i x1), some (hb_l l2), none, some (hb_l l4), none] [] w Q) : hb_R yX12_qJoins cX12_qJoins 6 none (d + 1) 164 [some (hb_r 12 0 0), some (hb_i x1), some (hb_l l2), none, some (hb_l l4), none] [] w Q := by
  refine hb_goto (pc := 164) (tgt := 273) dX12_qJoins_164 (by decide) ?_
  exact h
set_option maxRecDepth 20000 in
theorem bk_X12_qJoins_181 {d : Nat} {w : hb_W} {Q : Option hb_V → hb_W → Prop} {x1 : Int32} {l2 : Int64} {l4 : Int64} {ls1 : Int64} (h : hb_O yX12_qPuts cX12_qPuts 3 none d [hb_r 12 0 0, hb_l ls1] w (fun rv w1 => hb_R yX12_qJoins cX12_qJoins 6 none (d + 1) 184 [some (hb_r 12 0 0), some (hb_i x1), some (hb_l l2), none, some (hb_l l4), none] (rv.toList ++ []) w1 Q)) : hb_R yX12_qJoins cX12_qJoins 6 none (d + 1) 181 [some (hb_r 12 0 0), some (hb_i x1), some (hb_l l2), none, some (hb_l l4), none] [hb_l ls1, hb_r 12 0 0] w Q := by
  exact hb_callV (pc := 181) (As := [hb_l ls1]) (st := []) dX12_qJoins_181 ml_X12_319 mf_X12_qPuts mi_X12_qPuts (ci := 12) rfl rfl (by decide) rfl rfl (Nat.le_of_ble_eq_true rfl) (Nat.le_of_ble_eq_true rfl) h (fun _ _ q => q)
set_option maxRecDepth 20000 in
theorem bk_X12_qJoins_184 {d : Nat} {w : hb_W} {Q : Option hb_V → hb_W → Prop} {x1 : Int32} {l2 : Int64} {l4 : Int64} (h : hb_R yX12_qJoins cX12_qJoins 6 none (d + 1) 273 [some (hb_r 12 0 0), some (hb_i x1), some (hb_l l2), none, some (hb_l l4), none] [] w Q) : hb_R yX12_qJoins cX12_qJoins 6 none (d + 1) 184 [some (hb_r 12 0 0), some (hb_i x1), some (hb_l l2), none, some (hb_l l4), none] [] w Q := by
  refine hb_goto (pc := 184) (tgt := 273) dX12_qJoins_184 (by decide) ?_
  exact h
set_option maxRecDepth 20000 in
theorem bk_X12_qJoins_200 {d : Nat} {w : hb_W} {Q : Option hb_V → hb_W → Prop} {x1 : Int32} {l2 : Int64} {l4 : Int64} {ls1 : Int64} (h : hb_O yX12_qPuts cX12_qPuts 3 none d [hb_r 12 0 0, hb_l ls1] w (fun rv w1 => hb_R yX12_qJoins cX12_qJoins 6 none (d + 1) 203 [some (hb_r 12 0 0), some (hb_i x1), some (hb_l l2), none, some (hb_l l4), none] (rv.toList ++ []) w1 Q)) : hb_R yX12_qJoins cX12_qJoins 6 none (d + 1) 200 [some (hb_r 12 0 0), some (hb_i x1), some (hb_l l2), none, some (hb_l l4), none] [hb_l ls1, hb_r 12 0 0] w Q := by
  exact hb_callV (pc := 200) (As := [hb_l ls1]) (st := []) dX12_qJoins_200 ml_X12_319 mf_X12_qPuts mi_X12_qPuts (ci := 12) rfl rfl (by decide) rfl rfl (Nat.le_of_ble_eq_true rfl) (Nat.le_of_ble_eq_true rfl) h (fun _ _ q => q)
set_option maxRecDepth 20000 in
theorem bk_X12_qJoins_203 {d : Nat} {w : hb_W} {Q : Option hb_V → hb_W → Prop} {x1 : Int32} {l2 : Int64} {l4 : Int64} (h : hb_R yX12_qJoins cX12_qJoins 6 none (d + 1) 273 [some (hb_r 12 0 0), some (hb_i x1), some (hb_l l2), none, some (hb_l l4), none] [] w Q) : hb_R yX12_qJoins cX12_qJoins 6 none (d + 1) 203 [some (hb_r 12 0 0), some (hb_i x1), some (hb_l l2), none, some (hb_l l4), none] [] w Q := by
  refine hb_goto (pc := 203) (tgt := 273) dX12_qJoins_203 (by decide) ?_
  exact h
set_option maxRecDepth 20000 in
theorem bk_X12_qJoins_219 {d : Nat} {w : hb_W} {Q : Option hb_V → hb_W → Prop} {x1 : Int32} {l2 : Int64} {l4 : Int64} {ls1 : Int64} (h : hb_O yX12_qPuts cX12_qPuts 3 none d [hb_r 12 0 0, hb_l ls1] w (fun rv w1 => hb_R yX12_qJoins cX12_qJoins 6 none (d + 1) 222 [some (hb_r 12 0 0), some (hb_i x1), some (hb_l l2), none, some (hb_l l4), none] (rv.toList ++ []) w1 Q)) : hb_R yX12_qJoins cX12_qJoins 6 none (d + 1) 219 [some (hb_r 12 0 0), some (hb_i x1), some (hb_l l2), none, some (hb_l l4), none] [hb_l ls1, hb_r 12 0 0] w Q := by
  exact hb_callV (pc := 219) (As := [hb_l ls1]) (st := []) dX12_qJoins_219 ml_X12_319 mf_X12_qPuts mi_X12_qPuts (ci := 12) rfl rfl (by decide) rfl rfl (Nat.le_of_ble_eq_true rfl) (Nat.le_of_ble_eq_true rfl) h (fun _ _ q => q)
set_option maxRecDepth 20000 in
theorem bk_X12_qJoins_222 {d : Nat} {w : hb_W} {Q : Option hb_V → hb_W → Prop} {x1 : Int32} {l2 : Int64} {l4 : Int64} (h : hb_R yX12_qJoins cX12_qJoins 6 none (d + 1) 273 [some (hb_r 12 0 0), some (hb_i x1), some (hb_l l2), none, some (hb_l l4), none] [] w Q) : hb_R yX12_qJoins cX12_qJoins 6 none (d + 1) 222 [some (hb_r 12 0 0), some (hb_i x1), some (hb_l l2), none, some (hb_l l4), none] [] w Q := by
  refine hb_goto (pc := 222) (tgt := 273) dX12_qJoins_222 (by decide) ?_
  exact h
set_option maxRecDepth 20000 in
theorem bk_X12_qJoins_238 {d : Nat} {w : hb_W} {Q : Option hb_V → hb_W → Prop} {x1 : Int32} {l2 : Int64} {l4 : Int64} {ls1 : Int64} (h : hb_O yX12_qPuts cX12_qPuts 3 none d [hb_r 12 0 0, hb_l ls1] w (fun rv w1 => hb_R yX12_qJoins cX12_qJoins 6 none (d + 1) 241 [some (hb_r 12 0 0), some (hb_i x1), some (hb_l l2), none, some (hb_l l4), none] (rv.toList ++ []) w1 Q)) : hb_R yX12_qJoins cX12_qJoins 6 none (d + 1) 238 [some (hb_r 12 0 0), some (hb_i x1), some (hb_l l2), none, some (hb_l l4), none] [hb_l ls1, hb_r 12 0 0] w Q := by
  exact hb_callV (pc := 238) (As := [hb_l ls1]) (st := []) dX12_qJoins_238 ml_X12_319 mf_X12_qPuts mi_X12_qPuts (ci := 12) rfl rfl (by decide) rfl rfl (Nat.le_of_ble_eq_true rfl) (Nat.le_of_ble_eq_true rfl) h (fun _ _ q => q)
set_option maxRecDepth 20000 in
theorem bk_X12_qJoins_241 {d : Nat} {w : hb_W} {Q : Option hb_V → hb_W → Prop} {x1 : Int32} {l2 : Int64} {l4 : Int64} (h : hb_R yX12_qJoins cX12_qJoins 6 none (d + 1) 273 [some (hb_r 12 0 0), some (hb_i x1), some (hb_l l2), none, some (hb_l l4), none] [] w Q) : hb_R yX12_qJoins cX12_qJoins 6 none (d + 1) 241 [some (hb_r 12 0 0), some (hb_i x1), some (hb_l l2), none, some (hb_l l4), none] [] w Q := by
  refine hb_goto (pc := 241) (tgt := 273) dX12_qJoins_241 (by decide) ?_
  exact h
set_option maxRecDepth 20000 in
theorem bk_X12_qJoins_252 {d : Nat} {w : hb_W} {Q : Option hb_V → hb_W → Prop} {x1 : Int32} {l2 : Int64} {l4 : Int64} (h : hb_R yX12_qJoins cX12_qJoins 6 none (d + 1) 273 [some (hb_r 12 0 0), some (hb_i x1), some (hb_l l2), none, some (hb_l l4), none] [] w Q) : hb_R yX12_qJoins cX12_qJoins 6 none (d + 1) 252 [some (hb_r 12 0 0), some (hb_i x1), some (hb_l l2), none, some (hb_l l4), none] [] w Q := by
  refine hb_goto (pc := 252) (tgt := 273) dX12_qJoins_252 (by decide) ?_
  exact h
set_option maxRecDepth 20000 in
theorem bk_X12_qJoins_270 {d : Nat} {w : hb_W} {Q : Option hb_V → hb_W → Prop} {x1 : Int32} {l2 : Int64} {l4 : Int64} {ls1 : Int64} (h : hb_O yX12_qPuts cX12_qPuts 3 none d [hb_r 12 0 0, hb_l ls1] w (fun rv w1 => hb_R yX12_qJoins cX12_qJoins 6 none (d + 1) 273 [some (hb_r 12 0 0), some (hb_i x1), some (hb_l l2), none, some (hb_l l4), none] (rv.toList ++ []) w1 Q)) : hb_R yX12_qJoins cX12_qJoins 6 none (d + 1) 270 [some (hb_r 12 0 0), some (hb_i x1), some (hb_l l2), none, some (hb_l l4), none] [hb_l ls1, hb_r 12 0 0] w Q := by
  exact hb_callV (pc := 270) (As := [hb_l ls1]) (st := []) dX12_qJoins_270 ml_X12_319 mf_X12_qPuts mi_X12_qPuts (ci := 12) rfl rfl (by decide) rfl rfl (Nat.le_of_ble_eq_true rfl) (Nat.le_of_ble_eq_true rfl) h (fun _ _ q => q)
set_option maxRecDepth 20000 in
theorem bk_X12_qJoins_273 {d : Nat} {w : hb_W} {Q : Option hb_V → hb_W → Prop} {x1 : Int32} {l2 : Int64} {l4 : Int64} (h : Q none w) : hb_R yX12_qJoins cX12_qJoins 6 none (d + 1) 273 [some (hb_r 12 0 0), some (hb_i x1), some (hb_l l2), none, some (hb_l l4), none] [] w Q := by
  exact hb_vret (pc := 273) dX12_qJoins_273 rfl h
theorem dX12_qPartOf_0 : decode cX12_qPartOf 0 = .ok (.iload_n 1, 1) := by decide +kernel
theorem dX12_qPartOf_1 : decode cX12_qPartOf 1 = .ok (.tableswitch 110 0 5 #[39, 58, 64, 70, 94, 102], 39) := by decide +kernel
theorem dX12_qPartOf_40 : decode cX12_qPartOf 40 = .ok (.aload_n 0, 1) := by decide +kernel
theorem dX12_qPartOf_41 : decode cX12_qPartOf 41 = .ok (.getfield 242, 3) := by decide +kernel
theorem dX12_qPartOf_44 : decode cX12_qPartOf 44 = .ok (.iconst 2, 1) := by decide +kernel
theorem dX12_qPartOf_45 : decode cX12_qPartOf 45 = .ok (.if_icmp .ne 8, 3) := by decide +kernel
theorem dX12_qPartOf_48 : decode cX12_qPartOf 48 = .ok (.iload_n 2, 1) := by decide +kernel
theorem dX12_qPartOf_49 : decode cX12_qPartOf 49 = .ok (.i2l, 1) := by decide +kernel
theorem dX12_qPartOf_50 : decode cX12_qPartOf 50 = .ok (.goto 8, 3) := by decide +kernel
theorem dX12_qPartOf_53 : decode cX12_qPartOf 53 = .ok (.aload_n 0, 1) := by decide +kernel
theorem dX12_qPartOf_54 : decode cX12_qPartOf 54 = .ok (.getfield 330, 3) := by decide +kernel
theorem dX12_qPartOf_57 : decode cX12_qPartOf 57 = .ok (.i2l, 1) := by decide +kernel
theorem dX12_qPartOf_58 : decode cX12_qPartOf 58 = .ok (.lreturn, 1) := by decide +kernel
theorem dX12_qPartOf_59 : decode cX12_qPartOf 59 = .ok (.aload_n 0, 1) := by decide +kernel
theorem dX12_qPartOf_60 : decode cX12_qPartOf 60 = .ok (.getfield 497, 3) := by decide +kernel
theorem dX12_qPartOf_63 : decode cX12_qPartOf 63 = .ok (.i2l, 1) := by decide +kernel
theorem dX12_qPartOf_64 : decode cX12_qPartOf 64 = .ok (.lreturn, 1) := by decide +kernel
theorem dX12_qPartOf_65 : decode cX12_qPartOf 65 = .ok (.aload_n 0, 1) := by decide +kernel
theorem dX12_qPartOf_66 : decode cX12_qPartOf 66 = .ok (.getfield 333, 3) := by decide +kernel
theorem dX12_qPartOf_69 : decode cX12_qPartOf 69 = .ok (.i2l, 1) := by decide +kernel
theorem dX12_qPartOf_70 : decode cX12_qPartOf 70 = .ok (.lreturn, 1) := by decide +kernel
theorem dX12_qPartOf_71 : decode cX12_qPartOf 71 = .ok (.aload_n 0, 1) := by decide +kernel
theorem dX12_qPartOf_72 : decode cX12_qPartOf 72 = .ok (.getfield 242, 3) := by decide +kernel
theorem dX12_qPartOf_75 : decode cX12_qPartOf 75 = .ok (.iconst 2, 1) := by decide +kernel
theorem dX12_qPartOf_76 : decode cX12_qPartOf 76 = .ok (.if_icmp .ne 13, 3) := by decide +kernel
theorem dX12_qPartOf_79 : decode cX12_qPartOf 79 = .ok (.aload_n 0, 1) := by decide +kernel
theorem dX12_qPartOf_80 : decode cX12_qPartOf 80 = .ok (.getfield 66, 3) := by decide +kernel
theorem dX12_qPartOf_83 : decode cX12_qPartOf 83 = .ok (.iconst 0, 1) := by decide +kernel
theorem dX12_qPartOf_84 : decode cX12_qPartOf 84 = .ok (.iaload, 1) := by decide +kernel
theorem dX12_qPartOf_85 : decode cX12_qPartOf 85 = .ok (.i2l, 1) := by decide +kernel
theorem dX12_qPartOf_86 : decode cX12_qPartOf 86 = .ok (.goto 8, 3) := by decide +kernel
theorem dX12_qPartOf_89 : decode cX12_qPartOf 89 = .ok (.aload_n 0, 1) := by decide +kernel
theorem dX12_qPartOf_90 : decode cX12_qPartOf 90 = .ok (.getfield 336, 3) := by decide +kernel
theorem dX12_qPartOf_93 : decode cX12_qPartOf 93 = .ok (.i2l, 1) := by decide +kernel
theorem dX12_qPartOf_94 : decode cX12_qPartOf 94 = .ok (.lreturn, 1) := by decide +kernel
theorem dX12_qPartOf_95 : decode cX12_qPartOf 95 = .ok (.aload_n 0, 1) := by decide +kernel
theorem dX12_qPartOf_96 : decode cX12_qPartOf 96 = .ok (.getfield 75, 3) := by decide +kernel
theorem dX12_qPartOf_99 : decode cX12_qPartOf 99 = .ok (.iload_n 2, 1) := by decide +kernel
theorem dX12_qPartOf_100 : decode cX12_qPartOf 100 = .ok (.iaload, 1) := by decide +kernel
theorem dX12_qPartOf_101 : decode cX12_qPartOf 101 = .ok (.i2l, 1) := by decide +kernel
theorem dX12_qPartOf_102 : decode cX12_qPartOf 102 = .ok (.lreturn, 1) := by decide +kernel
theorem dX12_qPartOf_103 : decode cX12_qPartOf 103 = .ok (.aload_n 0, 1) := by decide +kernel
theorem dX12_qPartOf_104 : decode cX12_qPartOf 104 = .ok (.getfield 78, 3) := by decide +kernel
theorem dX12_qPartOf_107 : decode cX12_qPartOf 107 = .ok (.iload_n 2, 1) := by decide +kernel
theorem dX12_qPartOf_108 : decode cX12_qPartOf 108 = .ok (.iaload, 1) := by decide +kernel
theorem dX12_qPartOf_109 : decode cX12_qPartOf 109 = .ok (.i2l, 1) := by decide +kernel
theorem dX12_qPartOf_110 : decode cX12_qPartOf 110 = .ok (.lreturn, 1) := by decide +kernel
theorem dX12_qPartOf_111 : decode cX12_qPartOf 111 = .ok (.aload_n 0, 1) := by decide +kernel
theorem dX12_qPartOf_112 : decode cX12_qPartOf 112 = .ok (.iload_n 2, 1) := by decide +kernel
theorem dX12_qPartOf_113 : decode cX12_qPartOf 113 = .ok (.invokevirtual 570, 3) := by decide +kernel
theorem dX12_qPartOf_116 : decode cX12_qPartOf 116 = .ok (.lreturn, 1) := by decide +kernel
set_option maxRecDepth 20000 in
theorem bk_X12_qPartOf_0 {d : Nat} {w : hb_W} {Q : Option hb_V → hb_W → Prop} {x1 : Int32} {x2 : Int32} (h : (x1 = (0 : Int32) → ((¬ (hb_fI w 12 31 0) = (2 : Int32)) → Q (some (hb_l ((hb_fI w 12 34 0).toInt64))) w) ∧ (((hb_fI w 12 31 0) = (2 : Int32)) → Q (some (hb_l x2.toInt64)) w)) ∧ (x1 = (1 : Int32) → Q (some (hb_l ((hb_fI w 12 35 0).toInt64))) w) ∧ (x1 = (2 : Int32) → Q (some (hb_l ((hb_fI w 12 36 0).toInt64))) w) ∧ (x1 = (3 : Int32) → ((¬ (hb_fI w 12 31 0) = (2 : Int32)) → Q (some (hb_l ((hb_fI w 12 37 0).toInt64))) w) ∧ (((hb_fI w 12 31 0) = (2 : Int32)) → Q (some (hb_l ((hb_aI w 12 18 0 (0 : Int32).toNatClampNeg).toInt64))) w)) ∧ (x1 = (4 : Int32) → vp_in x2 64 ∧ (Q (some (hb_l ((hb_aI w 12 21 0 x2.toNatClampNeg).toInt64))) w)) ∧ (x1 = (5 : Int32) → vp_in x2 64 ∧ (Q (some (hb_l ((hb_aI w 12 22 0 x2.toNatClampNeg).toInt64))) w)) ∧ (¬ x1 = (0 : Int32) → ¬ x1 = (1 : Int32) → ¬ x1 = (2 : Int32) → ¬ x1 = (3 : Int32) → ¬ x1 = (4 : Int32) → ¬ x1 = (5 : Int32) → hb_O yX12_giftsOf cX12_giftsOf 5 (some .long) d [hb_r 12 0 0, hb_i x2] w (fun rv w1 => hb_R yX12_qPartOf cX12_qPartOf 3 (some .long) (d + 1) 116 [some (hb_r 12 0 0), some (hb_i x1), some (hb_i x2)] (rv.toList ++ []) w1 Q))) : hb_R yX12_qPartOf cX12_qPartOf 3 (some .long) (d + 1) 0 [some (hb_r 12 0 0), some (hb_i x1), some (hb_i x2)] [] w Q := by
  refine hb_iload_n (pc := 0) (i := 1) dX12_qPartOf_0 rfl rfl ?_
  by_cases e1_0 : x1 = (0 : Int32)
  · have hk1_0 := h.1 e1_0
    have ei : x1.toInt = 0 := by rw [e1_0]; rfl
    refine hb_tabIn (pc := 1) (tgt := 40) (off := 39) dX12_qPartOf_1 (by rw [ei]; decide) (by rw [ei]; decide) (by rw [ei]; rfl) (by decide) ?_
    refine hb_aload_n (pc := 40) (i := 0) dX12_qPartOf_40 rfl rfl ?_
    refine hb_getIx (pc := 41) (x := hb_fI w 12 31 0) dX12_qPartOf_41 fw_X12_242 cw_12 rfl (by decide) rfl rfl ?_
    refine hb_iconst (pc := 44) (v := 2) dX12_qPartOf_44 (by decide) ?_
    refine hb_icmp_ne (pc := 45) (tgt := 53) dX12_qPartOf_45 (by decide) (fun c2 => ?_) (fun c2 => ?_)
    · have ht2 := hk1_0.1 c2
      refine hb_aload_n (pc := 53) (i := 0) dX12_qPartOf_53 rfl rfl ?_
      refine hb_getIx (pc := 54) (x := hb_fI w 12 34 0) dX12_qPartOf_54 fw_X12_330 cw_12 rfl (by decide) rfl rfl ?_
      refine hb_i2l (pc := 57) dX12_qPartOf_57 ?_
      exact hb_lret (pc := 58) dX12_qPartOf_58 rfl ht2
    · have ht2 := hk1_0.2 c2
      refine hb_iload_n (pc := 48) (i := 2) dX12_qPartOf_48 rfl rfl ?_
      refine hb_i2l (pc := 49) dX12_qPartOf_49 ?_
      refine hb_goto (pc := 50) (tgt := 58) dX12_qPartOf_50 (by decide) ?_
      exact hb_lret (pc := 58) dX12_qPartOf_58 rfl ht2
  by_cases e1_1 : x1 = (1 : Int32)
  · have hk1_1 := h.2.1 e1_1
    have ei : x1.toInt = 1 := by rw [e1_1]; rfl
    refine hb_tabIn (pc := 1) (tgt := 59) (off := 58) dX12_qPartOf_1 (by rw [ei]; decide) (by rw [ei]; decide) (by rw [ei]; rfl) (by decide) ?_
    refine hb_aload_n (pc := 59) (i := 0) dX12_qPartOf_59 rfl rfl ?_
    refine hb_getIx (pc := 60) (x := hb_fI w 12 35 0) dX12_qPartOf_60 fw_X12_497 cw_12 rfl (by decide) rfl rfl ?_
    refine hb_i2l (pc := 63) dX12_qPartOf_63 ?_
    exact hb_lret (pc := 64) dX12_qPartOf_64 rfl hk1_1
  by_cases e1_2 : x1 = (2 : Int32)
  · have hk1_2 := h.2.2.1 e1_2
    have ei : x1.toInt = 2 := by rw [e1_2]; rfl
    refine hb_tabIn (pc := 1) (tgt := 65) (off := 64) dX12_qPartOf_1 (by rw [ei]; decide) (by rw [ei]; decide) (by rw [ei]; rfl) (by decide) ?_
    refine hb_aload_n (pc := 65) (i := 0) dX12_qPartOf_65 rfl rfl ?_
    refine hb_getIx (pc := 66) (x := hb_fI w 12 36 0) dX12_qPartOf_66 fw_X12_333 cw_12 rfl (by decide) rfl rfl ?_
    refine hb_i2l (pc := 69) dX12_qPartOf_69 ?_
    exact hb_lret (pc := 70) dX12_qPartOf_70 rfl hk1_2
  by_cases e1_3 : x1 = (3 : Int32)
  · have hk1_3 := h.2.2.2.1 e1_3
    have ei : x1.toInt = 3 := by rw [e1_3]; rfl
    refine hb_tabIn (pc := 1) (tgt := 71) (off := 70) dX12_qPartOf_1 (by rw [ei]; decide) (by rw [ei]; decide) (by rw [ei]; rfl) (by decide) ?_
    refine hb_aload_n (pc := 71) (i := 0) dX12_qPartOf_71 rfl rfl ?_
    refine hb_getIx (pc := 72) (x := hb_fI w 12 31 0) dX12_qPartOf_72 fw_X12_242 cw_12 rfl (by decide) rfl rfl ?_
    refine hb_iconst (pc := 75) (v := 2) dX12_qPartOf_75 (by decide) ?_
    refine hb_icmp_ne (pc := 76) (tgt := 89) dX12_qPartOf_76 (by decide) (fun c3 => ?_) (fun c3 => ?_)
    · have ht3 := hk1_3.1 c3
      refine hb_aload_n (pc := 89) (i := 0) dX12_qPartOf_89 rfl rfl ?_
      refine hb_getIx (pc := 90) (x := hb_fI w 12 37 0) dX12_qPartOf_90 fw_X12_336 cw_12 rfl (by decide) rfl rfl ?_
      refine hb_i2l (pc := 93) dX12_qPartOf_93 ?_
      exact hb_lret (pc := 94) dX12_qPartOf_94 rfl ht3
    · have ht3 := hk1_3.2 c3
      refine hb_aload_n (pc := 79) (i := 0) dX12_qPartOf_79 rfl rfl ?_
      refine hb_getR (pc := 80) (g1 := 0) dX12_qPartOf_80 fw_X12_66 cw_12 rfl (by decide) rfl (by decide) rfl ?_
      refine hb_iconst (pc := 83) (v := 0) dX12_qPartOf_83 (by decide) ?_
      refine hb_ialdx (pc := 84) (x := hb_aI w 12 18 0 (0 : Int32).toNatClampNeg) dX12_qPartOf_84 (n := 11) rfl (by decide) (by unfold vp_in; decide) rfl ?_
      refine hb_i2l (pc := 85) dX12_qPartOf_85 ?_
      refine hb_goto (pc := 86) (tgt := 94) dX12_qPartOf_86 (by decide) ?_
      exact hb_lret (pc := 94) dX12_qPartOf_94 rfl ht3
  by_cases e1_4 : x1 = (4 : Int32)
  · have hk1_4 := h.2.2.2.2.1 e1_4
    have ei : x1.toInt = 4 := by rw [e1_4]; rfl
    refine hb_tabIn (pc := 1) (tgt := 95) (off := 94) dX12_qPartOf_1 (by rw [ei]; decide) (by rw [ei]; decide) (by rw [ei]; rfl) (by decide) ?_
    refine hb_aload_n (pc := 95) (i := 0) dX12_qPartOf_95 rfl rfl ?_
    refine hb_getR (pc := 96) (g1 := 0) dX12_qPartOf_96 fw_X12_75 cw_12 rfl (by decide) rfl (by decide) rfl ?_
    refine hb_iload_n (pc := 99) (i := 2) dX12_qPartOf_99 rfl rfl ?_
    obtain ⟨ho4, hr4⟩ := hk1_4
    refine hb_ialdx (pc := 100) (x := hb_aI w 12 21 0 x2.toNatClampNeg) dX12_qPartOf_100 rfl (by decide) ho4 rfl ?_
    refine hb_i2l (pc := 101) dX12_qPartOf_101 ?_
    exact hb_lret (pc := 102) dX12_qPartOf_102 rfl hr4
  by_cases e1_5 : x1 = (5 : Int32)
  · have hk1_5 := h.2.2.2.2.2.1 e1_5
    have ei : x1.toInt = 5 := by rw [e1_5]; rfl
    refine hb_tabIn (pc := 1) (tgt := 103) (off := 102) dX12_qPartOf_1 (by rw [ei]; decide) (by rw [ei]; decide) (by rw [ei]; rfl) (by decide) ?_
    refine hb_aload_n (pc := 103) (i := 0) dX12_qPartOf_103 rfl rfl ?_
    refine hb_getR (pc := 104) (g1 := 0) dX12_qPartOf_104 fw_X12_78 cw_12 rfl (by decide) rfl (by decide) rfl ?_
    refine hb_iload_n (pc := 107) (i := 2) dX12_qPartOf_107 rfl rfl ?_
    obtain ⟨ho5, hr5⟩ := hk1_5
    refine hb_ialdx (pc := 108) (x := hb_aI w 12 22 0 x2.toNatClampNeg) dX12_qPartOf_108 rfl (by decide) ho5 rfl ?_
    refine hb_i2l (pc := 109) dX12_qPartOf_109 ?_
    exact hb_lret (pc := 110) dX12_qPartOf_110 rfl hr5
  have hk1_d := h.2.2.2.2.2.2 e1_0 e1_1 e1_2 e1_3 e1_4 e1_5
  have n1_0 := lv_neT (a := 0) e1_0 rfl
  have n1_1 := lv_neT (a := 1) e1_1 rfl
  have n1_2 := lv_neT (a := 2) e1_2 rfl
  have n1_3 := lv_neT (a := 3) e1_3 rfl
  have n1_4 := lv_neT (a := 4) e1_4 rfl
  have n1_5 := lv_neT (a := 5) e1_5 rfl
  refine hb_tabOut (pc := 1) (tgt := 111) dX12_qPartOf_1 (by omega) (by decide) ?_
  refine hb_aload_n (pc := 111) (i := 0) dX12_qPartOf_111 rfl rfl ?_
  refine hb_iload_n (pc := 112) (i := 2) dX12_qPartOf_112 rfl rfl ?_
  exact hb_callV (pc := 113) (As := [hb_i x2]) (st := []) dX12_qPartOf_113 ml_X12_570 mf_X12_giftsOf mi_X12_giftsOf (ci := 12) rfl rfl (by decide) rfl rfl (Nat.le_of_ble_eq_true rfl) (Nat.le_of_ble_eq_true rfl) hk1_d (fun _ _ q => q)
set_option maxRecDepth 20000 in
theorem bk_X12_qPartOf_116 {d : Nat} {w : hb_W} {Q : Option hb_V → hb_W → Prop} {x1 : Int32} {x2 : Int32} {ls0 : Int64} (h : Q (some (hb_l ls0)) w) : hb_R yX12_qPartOf cX12_qPartOf 3 (some .long) (d + 1) 116 [some (hb_r 12 0 0), some (hb_i x1), some (hb_i x2)] [hb_l ls0] w Q := by
  exact hb_lret (pc := 116) dX12_qPartOf_116 rfl h
theorem dX12_qOf_0 : decode cX12_qOf 0 = .ok (.iload_n 1, 1) := by decide +kernel
theorem dX12_qOf_1 : decode cX12_qOf 1 = .ok (.lookupswitch 49 #[(0, 19)], 19) := by decide +kernel
theorem dX12_qOf_20 : decode cX12_qOf 20 = .ok (.lload_n 2, 1) := by decide +kernel
theorem dX12_qOf_21 : decode cX12_qOf 21 = .ok (.lconst 0, 1) := by decide +kernel
theorem dX12_qOf_22 : decode cX12_qOf 22 = .ok (.ldc2_w 444, 3) := by decide +kernel
theorem dX12_qOf_25 : decode cX12_qOf 25 = .ok (.invokestatic 238, 3) := by decide +kernel
theorem dX12_qOf_28 : decode cX12_qOf 28 = .ok (.ifCond .eq 20, 3) := by decide +kernel
theorem dX12_qOf_31 : decode cX12_qOf 31 = .ok (.aload_n 0, 1) := by decide +kernel
theorem dX12_qOf_32 : decode cX12_qOf 32 = .ok (.getfield 72, 3) := by decide +kernel
theorem dX12_qOf_35 : decode cX12_qOf 35 = .ok (.bipush 9, 2) := by decide +kernel
theorem dX12_qOf_37 : decode cX12_qOf 37 = .ok (.iload 4, 2) := by decide +kernel
theorem dX12_qOf_39 : decode cX12_qOf 39 = .ok (.imul, 1) := by decide +kernel
theorem dX12_qOf_40 : decode cX12_qOf 40 = .ok (.lload_n 2, 1) := by decide +kernel
theorem dX12_qOf_41 : decode cX12_qOf 41 = .ok (.l2i, 1) := by decide +kernel
theorem dX12_qOf_42 : decode cX12_qOf 42 = .ok (.iadd, 1) := by decide +kernel
theorem dX12_qOf_43 : decode cX12_qOf 43 = .ok (.iaload, 1) := by decide +kernel
theorem dX12_qOf_44 : decode cX12_qOf 44 = .ok (.i2l, 1) := by decide +kernel
theorem dX12_qOf_45 : decode cX12_qOf 45 = .ok (.goto 4, 3) := by decide +kernel
theorem dX12_qOf_48 : decode cX12_qOf 48 = .ok (.lconst 0, 1) := by decide +kernel
theorem dX12_qOf_49 : decode cX12_qOf 49 = .ok (.lreturn, 1) := by decide +kernel
theorem dX12_qOf_50 : decode cX12_qOf 50 = .ok (.lload_n 2, 1) := by decide +kernel
theorem dX12_qOf_51 : decode cX12_qOf 51 = .ok (.lconst 0, 1) := by decide +kernel
theorem dX12_qOf_52 : decode cX12_qOf 52 = .ok (.lconst 1, 1) := by decide +kernel
theorem dX12_qOf_53 : decode cX12_qOf 53 = .ok (.invokestatic 238, 3) := by decide +kernel
theorem dX12_qOf_56 : decode cX12_qOf 56 = .ok (.ifCond .eq 15, 3) := by decide +kernel
theorem dX12_qOf_59 : decode cX12_qOf 59 = .ok (.aload_n 0, 1) := by decide +kernel
theorem dX12_qOf_60 : decode cX12_qOf 60 = .ok (.iload 4, 2) := by decide +kernel
theorem dX12_qOf_62 : decode cX12_qOf 62 = .ok (.lload_n 2, 1) := by decide +kernel
theorem dX12_qOf_63 : decode cX12_qOf 63 = .ok (.l2i, 1) := by decide +kernel
theorem dX12_qOf_64 : decode cX12_qOf 64 = .ok (.invokevirtual 573, 3) := by decide +kernel
theorem dX12_qOf_67 : decode cX12_qOf 67 = .ok (.i2l, 1) := by decide +kernel
theorem dX12_qOf_68 : decode cX12_qOf 68 = .ok (.goto 4, 3) := by decide +kernel
theorem dX12_qOf_71 : decode cX12_qOf 71 = .ok (.lconst 0, 1) := by decide +kernel
theorem dX12_qOf_72 : decode cX12_qOf 72 = .ok (.lreturn, 1) := by decide +kernel
set_option maxRecDepth 20000 in
theorem bk_X12_qOf_0 {d : Nat} {w : hb_W} {Q : Option hb_V → hb_W → Prop} {x1 : Int32} {l2 : Int64} {x4 : Int32} (h : (x1 = (0 : Int32) → hb_O yX12_isIn cX12_isIn 6 (some .boolean) d [hb_l l2, hb_l (0 : Int64), hb_l (8 : Int64)] w (fun rv w1 => hb_R yX12_qOf cX12_qOf 5 (some .long) (d + 1) 28 [some (hb_r 12 0 0), some (hb_i x1), some (hb_l l2), none, some (hb_i x4)] (rv.toList ++ []) w1 Q)) ∧ (¬ x1 = (0 : Int32) → hb_O yX12_isIn cX12_isIn 6 (some .boolean) d [hb_l l2, hb_l (0 : Int64), hb_l (1 : Int64)] w (fun rv w1 => hb_R yX12_qOf cX12_qOf 5 (some .long) (d + 1) 56 [some (hb_r 12 0 0), some (hb_i x1), some (hb_l l2), none, some (hb_i x4)] (rv.toList ++ []) w1 Q))) : hb_R yX12_qOf cX12_qOf 5 (some .long) (d + 1) 0 [some (hb_r 12 0 0), some (hb_i x1), some (hb_l l2), none, some (hb_i x4)] [] w Q := by
  refine hb_iload_n (pc := 0) (i := 1) dX12_qOf_0 rfl rfl ?_
  by_cases e1_0 : x1 = (0 : Int32)
  · have hk1_0 := h.1 e1_0
    have ei : x1.toInt = 0 := by rw [e1_0]; rfl
    refine hb_look (pc := 1) (tgt := 20) (off := 19) dX12_qOf_1 (by decide +kernel) (by rw [ei]; decide +kernel) (by decide) ?_
    refine hb_lload_n (pc := 20) (i := 2) dX12_qOf_20 rfl rfl ?_
    refine hb_lconst (pc := 21) (v := 0) dX12_qOf_21 (by decide) ?_
    refine hb_ldc2 (pc := 22) (v := 8) dX12_qOf_22 kc_X12_444 ?_
    exact hb_callS (pc := 25) (As := [hb_l l2, hb_l (0 : Int64), hb_l (8 : Int64)]) (st := []) dX12_qOf_25 ml_X12_238 mf_X12_isIn ms_X12_isIn rfl rfl (Nat.le_of_ble_eq_true rfl) (Nat.le_of_ble_eq_true rfl) hk1_0 (fun _ _ q => q)
  have hk1_d := h.2 e1_0
  refine hb_look (pc := 1) (tgt := 50) (off := 49) dX12_qOf_1 (by decide +kernel) (by show Op.lookupswitch.offset [(0, 19)] _ _ = _; rw [lv_osw (k := (0 : Int32)) (a := 0) e1_0 (by decide)]; rfl) (by decide) ?_
  refine hb_lload_n (pc := 50) (i := 2) dX12_qOf_50 rfl rfl ?_
  refine hb_lconst (pc := 51) (v := 0) dX12_qOf_51 (by decide) ?_
  refine hb_lconst (pc := 52) (v := 1) dX12_qOf_52 (by decide) ?_
  exact hb_callS (pc := 53) (As := [hb_l l2, hb_l (0 : Int64), hb_l (1 : Int64)]) (st := []) dX12_qOf_53 ml_X12_238 mf_X12_isIn ms_X12_isIn rfl rfl (Nat.le_of_ble_eq_true rfl) (Nat.le_of_ble_eq_true rfl) hk1_d (fun _ _ q => q)
set_option maxRecDepth 20000 in
theorem bk_X12_qOf_28 {d : Nat} {w : hb_W} {Q : Option hb_V → hb_W → Prop} {x1 : Int32} {l2 : Int64} {x4 : Int32} {xs0 : Int32} (h : ((xs0 = 0) → Q (some (hb_l (0 : Int64))) w) ∧ ((¬ xs0 = 0) → vp_in (((9 : Int32) * x4) + l2.toInt32) 576 ∧ (Q (some (hb_l ((hb_aI w 12 20 0 (((9 : Int32) * x4) + l2.toInt32).toNatClampNeg).toInt64))) w))) : hb_R yX12_qOf cX12_qOf 5 (some .long) (d + 1) 28 [some (hb_r 12 0 0), some (hb_i x1), some (hb_l l2), none, some (hb_i x4)] [hb_i xs0] w Q := by
  refine hb_if_eq (pc := 28) (tgt := 48) dX12_qOf_28 (by decide) (fun c1 => ?_) (fun c1 => ?_)
  · have ht1 := h.1 c1
    refine hb_lconst (pc := 48) (v := 0) dX12_qOf_48 (by decide) ?_
    exact hb_lret (pc := 49) dX12_qOf_49 rfl ht1
  · have ht1 := h.2 c1
    refine hb_aload_n (pc := 31) (i := 0) dX12_qOf_31 rfl rfl ?_
    refine hb_getR (pc := 32) (g1 := 0) dX12_qOf_32 fw_X12_72 cw_12 rfl (by decide) rfl (by decide) rfl ?_
    refine hb_bipush (pc := 35) (v := 9) dX12_qOf_35 (by decide) ?_
    refine hb_iload (pc := 37) dX12_qOf_37 rfl ?_
    refine hb_imul (pc := 39) dX12_qOf_39 ?_
    refine hb_lload_n (pc := 40) (i := 2) dX12_qOf_40 rfl rfl ?_
    refine hb_l2i (pc := 41) dX12_qOf_41 ?_
    refine hb_iadd (pc := 42) dX12_qOf_42 ?_
    obtain ⟨ho2, hr2⟩ := ht1
    refine hb_ialdx (pc := 43) (x := hb_aI w 12 20 0 (((9 : Int32) * x4) + l2.toInt32).toNatClampNeg) dX12_qOf_43 rfl (by decide) ho2 rfl ?_
    refine hb_i2l (pc := 44) dX12_qOf_44 ?_
    refine hb_goto (pc := 45) (tgt := 49) dX12_qOf_45 (by decide) ?_
    exact hb_lret (pc := 49) dX12_qOf_49 rfl hr2
set_option maxRecDepth 20000 in
theorem bk_X12_qOf_56 {d : Nat} {w : hb_W} {Q : Option hb_V → hb_W → Prop} {x1 : Int32} {l2 : Int64} {x4 : Int32} {xs0 : Int32} (h : ((xs0 = 0) → Q (some (hb_l (0 : Int64))) w) ∧ ((¬ xs0 = 0) → hb_O yX12_timesAt cX12_timesAt 5 (some .int) d [hb_r 12 0 0, hb_i x4, hb_i l2.toInt32] w (fun rv w1 => hb_R yX12_qOf cX12_qOf 5 (some .long) (d + 1) 67 [some (hb_r 12 0 0), some (hb_i x1), some (hb_l l2), none, some (hb_i x4)] (rv.toList ++ []) w1 Q))) : hb_R yX12_qOf cX12_qOf 5 (some .long) (d + 1) 56 [some (hb_r 12 0 0), some (hb_i x1), some (hb_l l2), none, some (hb_i x4)] [hb_i xs0] w Q := by
  refine hb_if_eq (pc := 56) (tgt := 71) dX12_qOf_56 (by decide) (fun c1 => ?_) (fun c1 => ?_)
  · have ht1 := h.1 c1
    refine hb_lconst (pc := 71) (v := 0) dX12_qOf_71 (by decide) ?_
    exact hb_lret (pc := 72) dX12_qOf_72 rfl ht1
  · have ht1 := h.2 c1
    refine hb_aload_n (pc := 59) (i := 0) dX12_qOf_59 rfl rfl ?_
    refine hb_iload (pc := 60) dX12_qOf_60 rfl ?_
    refine hb_lload_n (pc := 62) (i := 2) dX12_qOf_62 rfl rfl ?_
    refine hb_l2i (pc := 63) dX12_qOf_63 ?_
    exact hb_callV (pc := 64) (As := [hb_i x4, hb_i l2.toInt32]) (st := []) dX12_qOf_64 ml_X12_573 mf_X12_timesAt mi_X12_timesAt (ci := 12) rfl rfl (by decide) rfl rfl (Nat.le_of_ble_eq_true rfl) (Nat.le_of_ble_eq_true rfl) ht1 (fun _ _ q => q)
set_option maxRecDepth 20000 in
theorem bk_X12_qOf_67 {d : Nat} {w : hb_W} {Q : Option hb_V → hb_W → Prop} {x1 : Int32} {l2 : Int64} {x4 : Int32} {xs0 : Int32} (h : Q (some (hb_l xs0.toInt64)) w) : hb_R yX12_qOf cX12_qOf 5 (some .long) (d + 1) 67 [some (hb_r 12 0 0), some (hb_i x1), some (hb_l l2), none, some (hb_i x4)] [hb_i xs0] w Q := by
  refine hb_i2l (pc := 67) dX12_qOf_67 ?_
  refine hb_goto (pc := 68) (tgt := 72) dX12_qOf_68 (by decide) ?_
  exact hb_lret (pc := 72) dX12_qOf_72 rfl h
theorem dX12_qTold_0 : decode cX12_qTold 0 = .ok (.aload_n 0, 1) := by decide +kernel
theorem dX12_qTold_1 : decode cX12_qTold 1 = .ok (.iconst 0, 1) := by decide +kernel
theorem dX12_qTold_2 : decode cX12_qTold 2 = .ok (.putfield 316, 3) := by decide +kernel
theorem dX12_qTold_5 : decode cX12_qTold 5 = .ok (.iconst 0, 1) := by decide +kernel
theorem dX12_qTold_6 : decode cX12_qTold 6 = .ok (.istore_n 2, 1) := by decide +kernel
theorem dX12_qTold_7 : decode cX12_qTold 7 = .ok (.iload_n 2, 1) := by decide +kernel
theorem dX12_qTold_8 : decode cX12_qTold 8 = .ok (.aload_n 0, 1) := by decide +kernel
theorem dX12_qTold_9 : decode cX12_qTold 9 = .ok (.getfield 257, 3) := by decide +kernel
theorem dX12_qTold_12 : decode cX12_qTold 12 = .ok (.if_icmp .ge 156, 3) := by decide +kernel
theorem dX12_qTold_15 : decode cX12_qTold 15 = .ok (.aload_n 0, 1) := by decide +kernel
theorem dX12_qTold_16 : decode cX12_qTold 16 = .ok (.getfield 179, 3) := by decide +kernel
theorem dX12_qTold_19 : decode cX12_qTold 19 = .ok (.iload_n 2, 1) := by decide +kernel
theorem dX12_qTold_20 : decode cX12_qTold 20 = .ok (.iaload, 1) := by decide +kernel
theorem dX12_qTold_21 : decode cX12_qTold 21 = .ok (.istore_n 3, 1) := by decide +kernel
theorem dX12_qTold_22 : decode cX12_qTold 22 = .ok (.iload_n 3, 1) := by decide +kernel
theorem dX12_qTold_23 : decode cX12_qTold 23 = .ok (.sipush 1000, 3) := by decide +kernel
theorem dX12_qTold_26 : decode cX12_qTold 26 = .ok (.if_icmp .lt 16, 3) := by decide +kernel
theorem dX12_qTold_29 : decode cX12_qTold 29 = .ok (.aload_n 0, 1) := by decide +kernel
theorem dX12_qTold_30 : decode cX12_qTold 30 = .ok (.iload_n 3, 1) := by decide +kernel
theorem dX12_qTold_31 : decode cX12_qTold 31 = .ok (.sipush 1000, 3) := by decide +kernel
theorem dX12_qTold_34 : decode cX12_qTold 34 = .ok (.isub, 1) := by decide +kernel
theorem dX12_qTold_35 : decode cX12_qTold 35 = .ok (.i2l, 1) := by decide +kernel
theorem dX12_qTold_36 : decode cX12_qTold 36 = .ok (.invokevirtual 319, 3) := by decide +kernel
theorem dX12_qTold_39 : decode cX12_qTold 39 = .ok (.goto 123, 3) := by decide +kernel
theorem dX12_qTold_42 : decode cX12_qTold 42 = .ok (.iload_n 3, 1) := by decide +kernel
theorem dX12_qTold_43 : decode cX12_qTold 43 = .ok (.bipush 60, 2) := by decide +kernel
theorem dX12_qTold_45 : decode cX12_qTold 45 = .ok (.if_icmp .lt 40, 3) := by decide +kernel
theorem dX12_qTold_48 : decode cX12_qTold 48 = .ok (.aload_n 0, 1) := by decide +kernel
theorem dX12_qTold_49 : decode cX12_qTold 49 = .ok (.getfield 185, 3) := by decide +kernel
theorem dX12_qTold_52 : decode cX12_qTold 52 = .ok (.aload_n 0, 1) := by decide +kernel
theorem dX12_qTold_53 : decode cX12_qTold 53 = .ok (.getfield 316, 3) := by decide +kernel
theorem dX12_qTold_56 : decode cX12_qTold 56 = .ok (.iconst 1, 1) := by decide +kernel
theorem dX12_qTold_57 : decode cX12_qTold 57 = .ok (.isub, 1) := by decide +kernel
theorem dX12_qTold_58 : decode cX12_qTold 58 = .ok (.aload_n 0, 1) := by decide +kernel
theorem dX12_qTold_59 : decode cX12_qTold 59 = .ok (.iload_n 3, 1) := by decide +kernel
theorem dX12_qTold_60 : decode cX12_qTold 60 = .ok (.bipush 60, 2) := by decide +kernel
theorem dX12_qTold_62 : decode cX12_qTold 62 = .ok (.isub, 1) := by decide +kernel
theorem dX12_qTold_63 : decode cX12_qTold 63 = .ok (.aload_n 0, 1) := by decide +kernel
theorem dX12_qTold_64 : decode cX12_qTold 64 = .ok (.getfield 185, 3) := by decide +kernel
theorem dX12_qTold_67 : decode cX12_qTold 67 = .ok (.aload_n 0, 1) := by decide +kernel
theorem dX12_qTold_68 : decode cX12_qTold 68 = .ok (.getfield 316, 3) := by decide +kernel
theorem dX12_qTold_71 : decode cX12_qTold 71 = .ok (.iconst 1, 1) := by decide +kernel
theorem dX12_qTold_72 : decode cX12_qTold 72 = .ok (.isub, 1) := by decide +kernel
theorem dX12_qTold_73 : decode cX12_qTold 73 = .ok (.laload, 1) := by decide +kernel
theorem dX12_qTold_74 : decode cX12_qTold 74 = .ok (.iload_n 1, 1) := by decide +kernel
theorem dX12_qTold_75 : decode cX12_qTold 75 = .ok (.invokevirtual 576, 3) := by decide +kernel
theorem dX12_qTold_78 : decode cX12_qTold 78 = .ok (.invokestatic 562, 3) := by decide +kernel
theorem dX12_qTold_81 : decode cX12_qTold 81 = .ok (.lastore, 1) := by decide +kernel
theorem dX12_qTold_82 : decode cX12_qTold 82 = .ok (.goto 80, 3) := by decide +kernel
theorem dX12_qTold_85 : decode cX12_qTold 85 = .ok (.iload_n 3, 1) := by decide +kernel
theorem dX12_qTold_86 : decode cX12_qTold 86 = .ok (.bipush 40, 2) := by decide +kernel
theorem dX12_qTold_88 : decode cX12_qTold 88 = .ok (.if_icmp .lt 22, 3) := by decide +kernel
theorem dX12_qTold_91 : decode cX12_qTold 91 = .ok (.aload_n 0, 1) := by decide +kernel
theorem dX12_qTold_92 : decode cX12_qTold 92 = .ok (.aload_n 0, 1) := by decide +kernel
theorem dX12_qTold_93 : decode cX12_qTold 93 = .ok (.iload_n 3, 1) := by decide +kernel
theorem dX12_qTold_94 : decode cX12_qTold 94 = .ok (.bipush 40, 2) := by decide +kernel
theorem dX12_qTold_96 : decode cX12_qTold 96 = .ok (.isub, 1) := by decide +kernel
theorem dX12_qTold_97 : decode cX12_qTold 97 = .ok (.iload_n 1, 1) := by decide +kernel
theorem dX12_qTold_98 : decode cX12_qTold 98 = .ok (.invokevirtual 323, 3) := by decide +kernel
theorem dX12_qTold_101 : decode cX12_qTold 101 = .ok (.invokestatic 562, 3) := by decide +kernel
theorem dX12_qTold_104 : decode cX12_qTold 104 = .ok (.invokevirtual 319, 3) := by decide +kernel
theorem dX12_qTold_107 : decode cX12_qTold 107 = .ok (.goto 55, 3) := by decide +kernel
theorem dX12_qTold_110 : decode cX12_qTold 110 = .ok (.iload_n 3, 1) := by decide +kernel
theorem dX12_qTold_111 : decode cX12_qTold 111 = .ok (.bipush 13, 2) := by decide +kernel
theorem dX12_qTold_113 : decode cX12_qTold 113 = .ok (.if_icmp .ne 11, 3) := by decide +kernel
theorem dX12_qTold_116 : decode cX12_qTold 116 = .ok (.aload_n 0, 1) := by decide +kernel
theorem dX12_qTold_117 : decode cX12_qTold 117 = .ok (.lconst 1, 1) := by decide +kernel
theorem dX12_qTold_118 : decode cX12_qTold 118 = .ok (.invokevirtual 319, 3) := by decide +kernel
theorem dX12_qTold_121 : decode cX12_qTold 121 = .ok (.goto 41, 3) := by decide +kernel
theorem dX12_qTold_124 : decode cX12_qTold 124 = .ok (.iload_n 3, 1) := by decide +kernel
theorem dX12_qTold_125 : decode cX12_qTold 125 = .ok (.bipush 12, 2) := by decide +kernel
theorem dX12_qTold_127 : decode cX12_qTold 127 = .ok (.if_icmp .ne 30, 3) := by decide +kernel
theorem dX12_qTold_130 : decode cX12_qTold 130 = .ok (.aload_n 0, 1) := by decide +kernel
theorem dX12_qTold_131 : decode cX12_qTold 131 = .ok (.getfield 185, 3) := by decide +kernel
theorem dX12_qTold_134 : decode cX12_qTold 134 = .ok (.aload_n 0, 1) := by decide +kernel
theorem dX12_qTold_135 : decode cX12_qTold 135 = .ok (.getfield 316, 3) := by decide +kernel
theorem dX12_qTold_138 : decode cX12_qTold 138 = .ok (.iconst 1, 1) := by decide +kernel
theorem dX12_qTold_139 : decode cX12_qTold 139 = .ok (.isub, 1) := by decide +kernel
theorem dX12_qTold_140 : decode cX12_qTold 140 = .ok (.lconst 1, 1) := by decide +kernel
theorem dX12_qTold_141 : decode cX12_qTold 141 = .ok (.aload_n 0, 1) := by decide +kernel
theorem dX12_qTold_142 : decode cX12_qTold 142 = .ok (.getfield 185, 3) := by decide +kernel
theorem dX12_qTold_145 : decode cX12_qTold 145 = .ok (.aload_n 0, 1) := by decide +kernel
theorem dX12_qTold_146 : decode cX12_qTold 146 = .ok (.getfield 316, 3) := by decide +kernel
theorem dX12_qTold_149 : decode cX12_qTold 149 = .ok (.iconst 1, 1) := by decide +kernel
theorem dX12_qTold_150 : decode cX12_qTold 150 = .ok (.isub, 1) := by decide +kernel
theorem dX12_qTold_151 : decode cX12_qTold 151 = .ok (.laload, 1) := by decide +kernel
theorem dX12_qTold_152 : decode cX12_qTold 152 = .ok (.lsub, 1) := by decide +kernel
theorem dX12_qTold_153 : decode cX12_qTold 153 = .ok (.lastore, 1) := by decide +kernel
theorem dX12_qTold_154 : decode cX12_qTold 154 = .ok (.goto 8, 3) := by decide +kernel
theorem dX12_qTold_157 : decode cX12_qTold 157 = .ok (.aload_n 0, 1) := by decide +kernel
theorem dX12_qTold_158 : decode cX12_qTold 158 = .ok (.iload_n 3, 1) := by decide +kernel
theorem dX12_qTold_159 : decode cX12_qTold 159 = .ok (.invokevirtual 327, 3) := by decide +kernel
theorem dX12_qTold_162 : decode cX12_qTold 162 = .ok (.iinc 2 1, 3) := by decide +kernel
theorem dX12_qTold_165 : decode cX12_qTold 165 = .ok (.goto (-158), 3) := by decide +kernel
theorem dX12_qTold_168 : decode cX12_qTold 168 = .ok (.aload_n 0, 1) := by decide +kernel
theorem dX12_qTold_169 : decode cX12_qTold 169 = .ok (.getfield 185, 3) := by decide +kernel
theorem dX12_qTold_172 : decode cX12_qTold 172 = .ok (.iconst 0, 1) := by decide +kernel
theorem dX12_qTold_173 : decode cX12_qTold 173 = .ok (.laload, 1) := by decide +kernel
theorem dX12_qTold_174 : decode cX12_qTold 174 = .ok (.lreturn, 1) := by decide +kernel
set_option maxRecDepth 20000 in
theorem bk_X12_qTold_0 {d : Nat} {w : hb_W} {Q : Option hb_V → hb_W → Prop} {x1 : Int32} (h : hb_R yX12_qTold cX12_qTold 4 (some .long) (d + 1) 7 [some (hb_r 12 0 0), some (hb_i x1), some (hb_i (0 : Int32)), none] [] (hb_pI w 12 86 0 (0 : Int32)) Q) : hb_R yX12_qTold cX12_qTold 4 (some .long) (d + 1) 0 [some (hb_r 12 0 0), some (hb_i x1), none, none] [] w Q := by
  refine hb_aload_n (pc := 0) (i := 0) dX12_qTold_0 rfl rfl ?_
  refine hb_iconst (pc := 1) (v := 0) dX12_qTold_1 (by decide) ?_
  refine hb_putI (pc := 2) dX12_qTold_2 fw_X12_316 cw_12 pw_12_86 rfl (by decide) rfl rfl rfl ?_
  refine hb_iconst (pc := 5) (v := 0) dX12_qTold_5 (by decide) ?_
  refine hb_istore_n (pc := 6) (i := 2) (ls1 := [some (hb_r 12 0 0), some (hb_i x1), some (hb_i (0 : Int32)), none]) dX12_qTold_6 rfl (by decide) rfl ?_
  exact h
set_option maxRecDepth 20000 in
theorem bk_X12_qTold_7 {d : Nat} {w : hb_W} {Q : Option hb_V → hb_W → Prop} {x1 : Int32} {x2 : Int32} (h : (((hb_fI w 12 80 0) ≤ x2) → Q (some (hb_l (hb_aL w 12 56 0 (0 : Int32).toNatClampNeg))) w) ∧ ((¬ (hb_fI w 12 80 0) ≤ x2) → vp_in x2 1700 ∧ ((((hb_aI w 12 54 0 x2.toNatClampNeg) < (1000 : Int32)) → (((hb_aI w 12 54 0 x2.toNatClampNeg) < (60 : Int32)) → (((hb_aI w 12 54 0 x2.toNatClampNeg) < (40 : Int32)) → ((¬ (hb_aI w 12 54 0 x2.toNatClampNeg) = (13 : Int32)) → ((¬ (hb_aI w 12 54 0 x2.toNatClampNeg) = (12 : Int32)) → hb_O yX12_qJoins cX12_qJoins 6 none d [hb_r 12 0 0, hb_i (hb_aI w 12 54 0 x2.toNatClampNeg)] w (fun rv w1 => hb_R yX12_qTold cX12_qTold 4 (some .long) (d + 1) 162 [some (hb_r 12 0 0), some (hb_i x1), some (hb_i x2), some (hb_i (hb_aI w 12 54 0 x2.toNatClampNeg))] (rv.toList ++ []) w1 Q)) ∧ (((hb_aI w 12 54 0 x2.toNatClampNeg) = (12 : Int32)) → vp_in ((hb_fI w 12 86 0) - (1 : Int32)) 1700 ∧ (vp_in ((hb_fI w 12 86 0) - (1 : Int32)) 1700 ∧ (hb_R yX12_qTold cX12_qTold 4 (some .long) (d + 1) 162 [some (hb_r 12 0 0), some (hb_i x1), some (hb_i x2), some (hb_i (hb_aI w 12 54 0 x2.toNatClampNeg))] [] (hb_sL w 12 56 0 (vp_updL (hb_aL w 12 56 0) ((hb_fI w 12 86 0) - (1 : Int32)).toNatClampNeg ((1 : Int64) - (hb_aL w 12 56 0 ((hb_fI w 12 86 0) - (1 : Int32)).toNatClampNeg)))) Q)))) ∧ (((hb_aI w 12 54 0 x2.toNatClampNeg) = (13 : Int32)) → hb_O yX12_qPuts cX12_qPuts 3 none d [hb_r 12 0 0, hb_l (1 : Int64)] w (fun rv w1 => hb_R yX12_qTold cX12_qTold 4 (some .long) (d + 1) 121 [some (hb_r 12 0 0), some (hb_i x1), some (hb_i x2), some (hb_i (hb_aI w 12 54 0 x2.toNatClampNeg))] (rv.toList ++ []) w1 Q))) ∧ ((¬ (hb_aI w 12 54 0 x2.toNatClampNeg) < (40 : Int32)) → hb_O yX12_qPartOf cX12_qPartOf 3 (some .long) d [hb_r 12 0 0, hb_i ((hb_aI w 12 54 0 x2.toNatClampNeg) - (40 : Int32)), hb_i x1] w (fun rv w1 => hb_R yX12_qTold cX12_qTold 4 (some .long) (d + 1) 101 [some (hb_r 12 0 0), some (hb_i x1), some (hb_i x2), some (hb_i (hb_aI w 12 54 0 x2.toNatClampNeg))] (rv.toList ++ [hb_r 12 0 0]) w1 Q))) ∧ ((¬ (hb_aI w 12 54 0 x2.toNatClampNeg) < (60 : Int32)) → vp_in ((hb_fI w 12 86 0) - (1 : Int32)) 1700 ∧ (hb_O yX12_qOf cX12_qOf 5 (some .long) d [hb_r 12 0 0, hb_i ((hb_aI w 12 54 0 x2.toNatClampNeg) - (60 : Int32)), hb_l (hb_aL w 12 56 0 ((hb_fI w 12 86 0) - (1 : Int32)).toNatClampNeg), hb_i x1] w (fun rv w1 => hb_R yX12_qTold cX12_qTold 4 (some .long) (d + 1) 78 [some (hb_r 12 0 0), some (hb_i x1), some (hb_i x2), some (hb_i (hb_aI w 12 54 0 x2.toNatClampNeg))] (rv.toList ++ [hb_i ((hb_fI w 12 86 0) - (1 : Int32)), hb_r 12 0 56]) w1 Q)))) ∧ ((¬ (hb_aI w 12 54 0 x2.toNatClampNeg) < (1000 : Int32)) → hb_O yX12_qPuts cX12_qPuts 3 none d [hb_r 12 0 0, hb_l (((hb_aI w 12 54 0 x2.toNatClampNeg) - (1000 : Int32)).toInt64)] w (fun rv w1 => hb_R yX12_qTold cX12_qTold 4 (some .long) (d + 1) 39 [some (hb_r 12 0 0), some (hb_i x1), some (hb_i x2), some (hb_i (hb_aI w 12 54 0 x2.toNatClampNeg))] (rv.toList ++ []) w1 Q))))) : hb_R yX12_qTold cX12_qTold 4 (some .long) (d + 1) 7 [some (hb_r 12 0 0), some (hb_i x1), some (hb_i x2), none] [] w Q := by
  refine hb_iload_n (pc := 7) (i := 2) dX12_qTold_7 rfl rfl ?_
  refine hb_aload_n (pc := 8) (i := 0) dX12_qTold_8 rfl rfl ?_
  refine hb_getIx (pc := 9) (x := hb_fI w 12 80 0) dX12_qTold_9 fw_X12_257 cw_12 rfl (by decide) rfl rfl ?_
  refine hb_icmp_ge (pc := 12) (tgt := 168) dX12_qTold_12 (by decide) (fun c1 => ?_) (fun c1 => ?_)
  · have ht1 := h.1 c1
    refine hb_aload_n (pc := 168) (i := 0) dX12_qTold_168 rfl rfl ?_
    refine hb_getR (pc := 169) (g1 := 0) dX12_qTold_169 fw_X12_185 cw_12 rfl (by decide) rfl (by decide) rfl ?_
    refine hb_iconst (pc := 172) (v := 0) dX12_qTold_172 (by decide) ?_
    refine hb_laldx (pc := 173) (x := hb_aL w 12 56 0 (0 : Int32).toNatClampNeg) dX12_qTold_173 (n := 1700) rfl (by decide) (by unfold vp_in; decide) rfl ?_
    exact hb_lret (pc := 174) dX12_qTold_174 rfl ht1
  · have ht1 := h.2 c1
    refine hb_aload_n (pc := 15) (i := 0) dX12_qTold_15 rfl rfl ?_
    refine hb_getR (pc := 16) (g1 := 0) dX12_qTold_16 fw_X12_179 cw_12 rfl (by decide) rfl (by decide) rfl ?_
    refine hb_iload_n (pc := 19) (i := 2) dX12_qTold_19 rfl rfl ?_
    obtain ⟨ho2, hr2⟩ := ht1
    refine hb_ialdx (pc := 20) (x := hb_aI w 12 54 0 x2.toNatClampNeg) dX12_qTold_20 rfl (by decide) ho2 rfl ?_
    refine hb_istore_n (pc := 21) (i := 3) (ls1 := [some (hb_r 12 0 0), some (hb_i x1), some (hb_i x2), some (hb_i (hb_aI w 12 54 0 x2.toNatClampNeg))]) dX12_qTold_21 rfl (by decide) rfl ?_
    refine hb_iload_n (pc := 22) (i := 3) dX12_qTold_22 rfl rfl ?_
    refine hb_sipush (pc := 23) (v := 1000) dX12_qTold_23 (by decide) ?_
    refine hb_icmp_lt (pc := 26) (tgt := 42) dX12_qTold_26 (by decide) (fun c3 => ?_) (fun c3 => ?_)
    · have ht3 := hr2.1 c3
      refine hb_iload_n (pc := 42) (i := 3) dX12_qTold_42 rfl rfl ?_
      refine hb_bipush (pc := 43) (v := 60) dX12_qTold_43 (by decide) ?_
      refine hb_icmp_lt (pc := 45) (tgt := 85) dX12_qTold_45 (by decide) (fun c4 => ?_) (fun c4 => ?_)
      · have ht4 := ht3.1 c4
        refine hb_iload_n (pc := 85) (i := 3) dX12_qTold_85 rfl rfl ?_
        refine hb_bipush (pc := 86) (v := 40) dX12_qTold_86 (by decide) ?_
        refine hb_icmp_lt (pc := 88) (tgt := 110) dX12_qTold_88 (by decide) (fun c5 => ?_) (fun c5 => ?_)
        · have ht5 := ht4.1 c5
          refine hb_iload_n (pc := 110) (i := 3) dX12_qTold_110 rfl rfl ?_
          refine hb_bipush (pc := 111) (v := 13) dX12_qTold_111 (by decide) ?_
          refine hb_icmp_ne (pc := 113) (tgt := 124) dX12_qTold_113 (by decide) (fun c6 => ?_) (fun c6 => ?_)
          · have ht6 := ht5.1 c6
            refine hb_iload_n (pc := 124) (i := 3) dX12_qTold_124 rfl rfl ?_
            refine hb_bipush (pc := 125) (v := 12) dX12_qTold_125 (by decide) ?_
            refine hb_icmp_ne (pc := 127) (tgt := 157) dX12_qTold_127 (by decide) (fun c7 => ?_) (fun c7 => ?_)
            · have ht7 := ht6.1 c7
              refine hb_aload_n (pc := 157) (i := 0) dX12_qTold_157 rfl rfl ?_
              refine hb_iload_n (pc := 158) (i := 3) dX12_qTold_158 rfl rfl ?_
              exact hb_callV (pc := 159) (As := [hb_i (hb_aI w 12 54 0 x2.toNatClampNeg)]) (st := []) dX12_qTold_159 ml_X12_327 mf_X12_qJoins mi_X12_qJoins (ci := 12) rfl rfl (by decide) rfl rfl (Nat.le_of_ble_eq_true rfl) (Nat.le_of_ble_eq_true rfl) ht7 (fun _ _ q => q)
            · have ht7 := ht6.2 c7
              refine hb_aload_n (pc := 130) (i := 0) dX12_qTold_130 rfl rfl ?_
              refine hb_getR (pc := 131) (g1 := 0) dX12_qTold_131 fw_X12_185 cw_12 rfl (by decide) rfl (by decide) rfl ?_
              refine hb_aload_n (pc := 134) (i := 0) dX12_qTold_134 rfl rfl ?_
              refine hb_getIx (pc := 135) (x := hb_fI w 12 86 0) dX12_qTold_135 fw_X12_316 cw_12 rfl (by decide) rfl rfl ?_
              refine hb_iconst (pc := 138) (v := 1) dX12_qTold_138 (by decide) ?_
              refine hb_isub (pc := 139) dX12_qTold_139 ?_
              refine hb_lconst (pc := 140) (v := 1) dX12_qTold_140 (by decide) ?_
              refine hb_aload_n (pc := 141) (i := 0) dX12_qTold_141 rfl rfl ?_
              refine hb_getR (pc := 142) (g1 := 0) dX12_qTold_142 fw_X12_185 cw_12 rfl (by decide) rfl (by decide) rfl ?_
              refine hb_aload_n (pc := 145) (i := 0) dX12_qTold_145 rfl rfl ?_
              refine hb_getIx (pc := 146) (x := hb_fI w 12 86 0) dX12_qTold_146 fw_X12_316 cw_12 rfl (by decide) rfl rfl ?_
              refine hb_iconst (pc := 149) (v := 1) dX12_qTold_149 (by decide) ?_
              refine hb_isub (pc := 150) dX12_qTold_150 ?_
              obtain ⟨ho8, hr8⟩ := ht7
              refine hb_laldx (pc := 151) (x := hb_aL w 12 56 0 ((hb_fI w 12 86 0) - (1 : Int32)).toNatClampNeg) dX12_qTold_151 rfl (by decide) ho8 rfl ?_
              refine hb_lsub (pc := 152) dX12_qTold_152 ?_
              obtain ⟨ho9, hr9⟩ := hr8
              refine hb_lastx (pc := 153) (f := vp_updL (hb_aL w 12 56 0) ((hb_fI w 12 86 0) - (1 : Int32)).toNatClampNeg ((1 : Int64) - (hb_aL w 12 56 0 ((hb_fI w 12 86 0) - (1 : Int32)).toNatClampNeg))) dX12_qTold_153 rfl (by decide) ho9 rfl ?_
              refine hb_goto (pc := 154) (tgt := 162) dX12_qTold_154 (by decide) ?_
              exact hr9
          · have ht6 := ht5.2 c6
            refine hb_aload_n (pc := 116) (i := 0) dX12_qTold_116 rfl rfl ?_
            refine hb_lconst (pc := 117) (v := 1) dX12_qTold_117 (by decide) ?_
            exact hb_callV (pc := 118) (As := [hb_l (1 : Int64)]) (st := []) dX12_qTold_118 ml_X12_319 mf_X12_qPuts mi_X12_qPuts (ci := 12) rfl rfl (by decide) rfl rfl (Nat.le_of_ble_eq_true rfl) (Nat.le_of_ble_eq_true rfl) ht6 (fun _ _ q => q)
        · have ht5 := ht4.2 c5
          refine hb_aload_n (pc := 91) (i := 0) dX12_qTold_91 rfl rfl ?_
          refine hb_aload_n (pc := 92) (i := 0) dX12_qTold_92 rfl rfl ?_
          refine hb_iload_n (pc := 93) (i := 3) dX12_qTold_93 rfl rfl ?_
          refine hb_bipush (pc := 94) (v := 40) dX12_qTold_94 (by decide) ?_
          refine hb_isub (pc := 96) dX12_qTold_96 ?_
          refine hb_iload_n (pc := 97) (i := 1) dX12_qTold_97 rfl rfl ?_
          exact hb_callV (pc := 98) (As := [hb_i ((hb_aI w 12 54 0 x2.toNatClampNeg) - (40 : Int32)), hb_i x1]) (st := [hb_r 12 0 0]) dX12_qTold_98 ml_X12_323 mf_X12_qPartOf mi_X12_qPartOf (ci := 12) rfl rfl (by decide) rfl rfl (Nat.le_of_ble_eq_true rfl) (Nat.le_of_ble_eq_true rfl) ht5 (fun _ _ q => q)
      · have ht4 := ht3.2 c4
        refine hb_aload_n (pc := 48) (i := 0) dX12_qTold_48 rfl rfl ?_
        refine hb_getR (pc := 49) (g1 := 0) dX12_qTold_49 fw_X12_185 cw_12 rfl (by decide) rfl (by decide) rfl ?_
        refine hb_aload_n (pc := 52) (i := 0) dX12_qTold_52 rfl rfl ?_
        refine hb_getIx (pc := 53) (x := hb_fI w 12 86 0) dX12_qTold_53 fw_X12_316 cw_12 rfl (by decide) rfl rfl ?_
        refine hb_iconst (pc := 56) (v := 1) dX12_qTold_56 (by decide) ?_
        refine hb_isub (pc := 57) dX12_qTold_57 ?_
        refine hb_aload_n (pc := 58) (i := 0) dX12_qTold_58 rfl rfl ?_
        refine hb_iload_n (pc := 59) (i := 3) dX12_qTold_59 rfl rfl ?_
        refine hb_bipush (pc := 60) (v := 60) dX12_qTold_60 (by decide) ?_
        refine hb_isub (pc := 62) dX12_qTold_62 ?_
        refine hb_aload_n (pc := 63) (i := 0) dX12_qTold_63 rfl rfl ?_
        refine hb_getR (pc := 64) (g1 := 0) dX12_qTold_64 fw_X12_185 cw_12 rfl (by decide) rfl (by decide) rfl ?_
        refine hb_aload_n (pc := 67) (i := 0) dX12_qTold_67 rfl rfl ?_
        refine hb_getIx (pc := 68) (x := hb_fI w 12 86 0) dX12_qTold_68 fw_X12_316 cw_12 rfl (by decide) rfl rfl ?_
        refine hb_iconst (pc := 71) (v := 1) dX12_qTold_71 (by decide) ?_
        refine hb_isub (pc := 72) dX12_qTold_72 ?_
        obtain ⟨ho10, hr10⟩ := ht4
        refine hb_laldx (pc := 73) (x := hb_aL w 12 56 0 ((hb_fI w 12 86 0) - (1 : Int32)).toNatClampNeg) dX12_qTold_73 rfl (by decide) ho10 rfl ?_
        refine hb_iload_n (pc := 74) (i := 1) dX12_qTold_74 rfl rfl ?_
        exact hb_callV (pc := 75) (As := [hb_i ((hb_aI w 12 54 0 x2.toNatClampNeg) - (60 : Int32)), hb_l (hb_aL w 12 56 0 ((hb_fI w 12 86 0) - (1 : Int32)).toNatClampNeg), hb_i x1]) (st := [hb_i ((hb_fI w 12 86 0) - (1 : Int32)), hb_r 12 0 56]) dX12_qTold_75 ml_X12_576 mf_X12_qOf mi_X12_qOf (ci := 12) rfl rfl (by decide) rfl rfl (Nat.le_of_ble_eq_true rfl) (Nat.le_of_ble_eq_true rfl) hr10 (fun _ _ q => q)
    · have ht3 := hr2.2 c3
      refine hb_aload_n (pc := 29) (i := 0) dX12_qTold_29 rfl rfl ?_
      refine hb_iload_n (pc := 30) (i := 3) dX12_qTold_30 rfl rfl ?_
      refine hb_sipush (pc := 31) (v := 1000) dX12_qTold_31 (by decide) ?_
      refine hb_isub (pc := 34) dX12_qTold_34 ?_
      refine hb_i2l (pc := 35) dX12_qTold_35 ?_
      exact hb_callV (pc := 36) (As := [hb_l (((hb_aI w 12 54 0 x2.toNatClampNeg) - (1000 : Int32)).toInt64)]) (st := []) dX12_qTold_36 ml_X12_319 mf_X12_qPuts mi_X12_qPuts (ci := 12) rfl rfl (by decide) rfl rfl (Nat.le_of_ble_eq_true rfl) (Nat.le_of_ble_eq_true rfl) ht3 (fun _ _ q => q)
set_option maxRecDepth 20000 in
theorem bk_X12_qTold_39 {d : Nat} {w : hb_W} {Q : Option hb_V → hb_W → Prop} {x1 : Int32} {x2 : Int32} {x3 : Int32} (h : hb_R yX12_qTold cX12_qTold 4 (some .long) (d + 1) 162 [some (hb_r 12 0 0), some (hb_i x1), some (hb_i x2), some (hb_i x3)] [] w Q) : hb_R yX12_qTold cX12_qTold 4 (some .long) (d + 1) 39 [some (hb_r 12 0 0), some (hb_i x1), some (hb_i x2), some (hb_i x3)] [] w Q := by
  refine hb_goto (pc := 39) (tgt := 162) dX12_qTold_39 (by decide) ?_
  exact h
set_option maxRecDepth 20000 in
theorem bk_X12_qTold_78 {d : Nat} {w : hb_W} {Q : Option hb_V → hb_W → Prop} {x1 : Int32} {x2 : Int32} {x3 : Int32} {xs1 : Int32} {ls2 : Int64} (h : hb_O yX12_qClip cX12_qClip 2 (some .long) d [hb_l ls2] w (fun rv w1 => hb_R yX12_qTold cX12_qTold 4 (some .long) (d + 1) 81 [some (hb_r 12 0 0), some (hb_i x1), some (hb_i x2), some (hb_i x3)] (rv.toList ++ [hb_i xs1, hb_r 12 0 56]) w1 Q)) : hb_R yX12_qTold cX12_qTold 4 (some .long) (d + 1) 78 [some (hb_r 12 0 0), some (hb_i x1), some (hb_i x2), some (hb_i x3)] [hb_l ls2, hb_i xs1, hb_r 12 0 56] w Q := by
  exact hb_callS (pc := 78) (As := [hb_l ls2]) (st := [hb_i xs1, hb_r 12 0 56]) dX12_qTold_78 ml_X12_562 mf_X12_qClip ms_X12_qClip rfl rfl (Nat.le_of_ble_eq_true rfl) (Nat.le_of_ble_eq_true rfl) h (fun _ _ q => q)
set_option maxRecDepth 20000 in
theorem bk_X12_qTold_81 {d : Nat} {w : hb_W} {Q : Option hb_V → hb_W → Prop} {x1 : Int32} {x2 : Int32} {x3 : Int32} {xs1 : Int32} {ls2 : Int64} (h : vp_in xs1 1700 ∧ (hb_R yX12_qTold cX12_qTold 4 (some .long) (d + 1) 162 [some (hb_r 12 0 0), some (hb_i x1), some (hb_i x2), some (hb_i x3)] [] (hb_sL w 12 56 0 (vp_updL (hb_aL w 12 56 0) xs1.toNatClampNeg ls2)) Q)) : hb_R yX12_qTold cX12_qTold 4 (some .long) (d + 1) 81 [some (hb_r 12 0 0), some (hb_i x1), some (hb_i x2), some (hb_i x3)] [hb_l ls2, hb_i xs1, hb_r 12 0 56] w Q := by
  obtain ⟨ho1, hr1⟩ := h
  refine hb_lastx (pc := 81) (f := vp_updL (hb_aL w 12 56 0) xs1.toNatClampNeg ls2) dX12_qTold_81 rfl (by decide) ho1 rfl ?_
  refine hb_goto (pc := 82) (tgt := 162) dX12_qTold_82 (by decide) ?_
  exact hr1
set_option maxRecDepth 20000 in
theorem bk_X12_qTold_101 {d : Nat} {w : hb_W} {Q : Option hb_V → hb_W → Prop} {x1 : Int32} {x2 : Int32} {x3 : Int32} {ls1 : Int64} (h : hb_O yX12_qClip cX12_qClip 2 (some .long) d [hb_l ls1] w (fun rv w1 => hb_R yX12_qTold cX12_qTold 4 (some .long) (d + 1) 104 [some (hb_r 12 0 0), some (hb_i x1), some (hb_i x2), some (hb_i x3)] (rv.toList ++ [hb_r 12 0 0]) w1 Q)) : hb_R yX12_qTold cX12_qTold 4 (some .long) (d + 1) 101 [some (hb_r 12 0 0), some (hb_i x1), some (hb_i x2), some (hb_i x3)] [hb_l ls1, hb_r 12 0 0] w Q := by
  exact hb_callS (pc := 101) (As := [hb_l ls1]) (st := [hb_r 12 0 0]) dX12_qTold_101 ml_X12_562 mf_X12_qClip ms_X12_qClip rfl rfl (Nat.le_of_ble_eq_true rfl) (Nat.le_of_ble_eq_true rfl) h (fun _ _ q => q)
set_option maxRecDepth 20000 in
theorem bk_X12_qTold_104 {d : Nat} {w : hb_W} {Q : Option hb_V → hb_W → Prop} {x1 : Int32} {x2 : Int32} {x3 : Int32} {ls1 : Int64} (h : hb_O yX12_qPuts cX12_qPuts 3 none d [hb_r 12 0 0, hb_l ls1] w (fun rv w1 => hb_R yX12_qTold cX12_qTold 4 (some .long) (d + 1) 107 [some (hb_r 12 0 0), some (hb_i x1), some (hb_i x2), some (hb_i x3)] (rv.toList ++ []) w1 Q)) : hb_R yX12_qTold cX12_qTold 4 (some .long) (d + 1) 104 [some (hb_r 12 0 0), some (hb_i x1), some (hb_i x2), some (hb_i x3)] [hb_l ls1, hb_r 12 0 0] w Q := by
  exact hb_callV (pc := 104) (As := [hb_l ls1]) (st := []) dX12_qTold_104 ml_X12_319 mf_X12_qPuts mi_X12_qPuts (ci := 12) rfl rfl (by decide) rfl rfl (Nat.le_of_ble_eq_true rfl) (Nat.le_of_ble_eq_true rfl) h (fun _ _ q => q)
set_option maxRecDepth 20000 in
theorem bk_X12_qTold_107 {d : Nat} {w : hb_W} {Q : Option hb_V → hb_W → Prop} {x1 : Int32} {x2 : Int32} {x3 : Int32} (h : hb_R yX12_qTold cX12_qTold 4 (some .long) (d + 1) 162 [some (hb_r 12 0 0), some (hb_i x1), some (hb_i x2), some (hb_i x3)] [] w Q) : hb_R yX12_qTold cX12_qTold 4 (some .long) (d + 1) 107 [some (hb_r 12 0 0), some (hb_i x1), some (hb_i x2), some (hb_i x3)] [] w Q := by
  refine hb_goto (pc := 107) (tgt := 162) dX12_qTold_107 (by decide) ?_
  exact h
set_option maxRecDepth 20000 in
theorem bk_X12_qTold_121 {d : Nat} {w : hb_W} {Q : Option hb_V → hb_W → Prop} {x1 : Int32} {x2 : Int32} {x3 : Int32} (h : hb_R yX12_qTold cX12_qTold 4 (some .long) (d + 1) 162 [some (hb_r 12 0 0), some (hb_i x1), some (hb_i x2), some (hb_i x3)] [] w Q) : hb_R yX12_qTold cX12_qTold 4 (some .long) (d + 1) 121 [some (hb_r 12 0 0), some (hb_i x1), some (hb_i x2), some (hb_i x3)] [] w Q := by
  refine hb_goto (pc := 121) (tgt := 162) dX12_qTold_121 (by decide) ?_
  exact h
set_option maxRecDepth 20000 in
theorem bk_X12_qTold_162 {d : Nat} {w : hb_W} {Q : Option hb_V → hb_W → Prop} {x1 : Int32} {x2 : Int32} {x3 : Int32} (h : hb_R yX12_qTold cX12_qTold 4 (some .long) (d + 1) 7 [some (hb_r 12 0 0), some (hb_i x1), some (hb_i (x2 + (1 : Int32))), some (hb_i x3)] [] w Q) : hb_R yX12_qTold cX12_qTold 4 (some .long) (d + 1) 162 [some (hb_r 12 0 0), some (hb_i x1), some (hb_i x2), some (hb_i x3)] [] w Q := by
  refine hb_iinc (pc := 162) (v := x2 + (1 : Int32)) (ls1 := [some (hb_r 12 0 0), some (hb_i x1), some (hb_i (x2 + (1 : Int32))), some (hb_i x3)]) dX12_qTold_162 rfl rfl (by decide) rfl ?_
  refine hb_goto (pc := 165) (tgt := 7) dX12_qTold_165 (by decide) ?_
  exact h
theorem dX12_qKind_0 : decode cX12_qKind 0 = .ok (.aload_n 0, 1) := by decide +kernel
theorem dX12_qKind_1 : decode cX12_qKind 1 = .ok (.aload_n 0, 1) := by decide +kernel
theorem dX12_qKind_2 : decode cX12_qKind 2 = .ok (.getfield 116, 3) := by decide +kernel
theorem dX12_qKind_5 : decode cX12_qKind 5 = .ok (.invokevirtual 222, 3) := by decide +kernel
theorem dX12_qKind_8 : decode cX12_qKind 8 = .ok (.ifCond .eq 7, 3) := by decide +kernel
theorem dX12_qKind_11 : decode cX12_qKind 11 = .ok (.iconst 0, 1) := by decide +kernel
theorem dX12_qKind_12 : decode cX12_qKind 12 = .ok (.goto 64, 3) := by decide +kernel
theorem dX12_qKind_15 : decode cX12_qKind 15 = .ok (.aload_n 0, 1) := by decide +kernel
theorem dX12_qKind_16 : decode cX12_qKind 16 = .ok (.aload_n 0, 1) := by decide +kernel
theorem dX12_qKind_17 : decode cX12_qKind 17 = .ok (.getfield 119, 3) := by decide +kernel
theorem dX12_qKind_20 : decode cX12_qKind 20 = .ok (.invokevirtual 222, 3) := by decide +kernel
theorem dX12_qKind_23 : decode cX12_qKind 23 = .ok (.ifCond .eq 7, 3) := by decide +kernel
theorem dX12_qKind_26 : decode cX12_qKind 26 = .ok (.iconst 1, 1) := by decide +kernel
theorem dX12_qKind_27 : decode cX12_qKind 27 = .ok (.goto 49, 3) := by decide +kernel
theorem dX12_qKind_30 : decode cX12_qKind 30 = .ok (.aload_n 0, 1) := by decide +kernel
theorem dX12_qKind_31 : decode cX12_qKind 31 = .ok (.aload_n 0, 1) := by decide +kernel
theorem dX12_qKind_32 : decode cX12_qKind 32 = .ok (.getfield 122, 3) := by decide +kernel
theorem dX12_qKind_35 : decode cX12_qKind 35 = .ok (.invokevirtual 222, 3) := by decide +kernel
theorem dX12_qKind_38 : decode cX12_qKind 38 = .ok (.ifCond .eq 7, 3) := by decide +kernel
theorem dX12_qKind_41 : decode cX12_qKind 41 = .ok (.iconst 2, 1) := by decide +kernel
theorem dX12_qKind_42 : decode cX12_qKind 42 = .ok (.goto 34, 3) := by decide +kernel
theorem dX12_qKind_45 : decode cX12_qKind 45 = .ok (.aload_n 0, 1) := by decide +kernel
theorem dX12_qKind_46 : decode cX12_qKind 46 = .ok (.aload_n 0, 1) := by decide +kernel
theorem dX12_qKind_47 : decode cX12_qKind 47 = .ok (.getfield 125, 3) := by decide +kernel
theorem dX12_qKind_50 : decode cX12_qKind 50 = .ok (.invokevirtual 222, 3) := by decide +kernel
theorem dX12_qKind_53 : decode cX12_qKind 53 = .ok (.ifCond .eq 7, 3) := by decide +kernel
theorem dX12_qKind_56 : decode cX12_qKind 56 = .ok (.iconst 3, 1) := by decide +kernel
theorem dX12_qKind_57 : decode cX12_qKind 57 = .ok (.goto 19, 3) := by decide +kernel
theorem dX12_qKind_60 : decode cX12_qKind 60 = .ok (.aload_n 0, 1) := by decide +kernel
theorem dX12_qKind_61 : decode cX12_qKind 61 = .ok (.aload_n 0, 1) := by decide +kernel
theorem dX12_qKind_62 : decode cX12_qKind 62 = .ok (.getfield 128, 3) := by decide +kernel
theorem dX12_qKind_65 : decode cX12_qKind 65 = .ok (.invokevirtual 222, 3) := by decide +kernel
theorem dX12_qKind_68 : decode cX12_qKind 68 = .ok (.ifCond .eq 7, 3) := by decide +kernel
theorem dX12_qKind_71 : decode cX12_qKind 71 = .ok (.iconst 4, 1) := by decide +kernel
theorem dX12_qKind_72 : decode cX12_qKind 72 = .ok (.goto 4, 3) := by decide +kernel
theorem dX12_qKind_75 : decode cX12_qKind 75 = .ok (.iconst 5, 1) := by decide +kernel
theorem dX12_qKind_76 : decode cX12_qKind 76 = .ok (.istore_n 1, 1) := by decide +kernel
theorem dX12_qKind_77 : decode cX12_qKind 77 = .ok (.iload_n 1, 1) := by decide +kernel
theorem dX12_qKind_78 : decode cX12_qKind 78 = .ok (.iconst 5, 1) := by decide +kernel
theorem dX12_qKind_79 : decode cX12_qKind 79 = .ok (.if_icmp .ne 11, 3) := by decide +kernel
theorem dX12_qKind_82 : decode cX12_qKind 82 = .ok (.aload_n 0, 1) := by decide +kernel
theorem dX12_qKind_83 : decode cX12_qKind 83 = .ok (.aload_n 0, 1) := by decide +kernel
theorem dX12_qKind_84 : decode cX12_qKind 84 = .ok (.getfield 131, 3) := by decide +kernel
theorem dX12_qKind_87 : decode cX12_qKind 87 = .ok (.invokevirtual 245, 3) := by decide +kernel
theorem dX12_qKind_90 : decode cX12_qKind 90 = .ok (.iload_n 1, 1) := by decide +kernel
theorem dX12_qKind_91 : decode cX12_qKind 91 = .ok (.ireturn, 1) := by decide +kernel
set_option maxRecDepth 20000 in
theorem bk_X12_qKind_0 {d : Nat} {w : hb_W} {Q : Option hb_V → hb_W → Prop} (h : hb_O yX12_takes cX12_takes 2 (some .boolean) d [hb_r 12 0 0, hb_r 12 0 33] w (fun rv w1 => hb_R yX12_qKind cX12_qKind 2 (some .int) (d + 1) 8 [some (hb_r 12 0 0), none] (rv.toList ++ []) w1 Q)) : hb_R yX12_qKind cX12_qKind 2 (some .int) (d + 1) 0 [some (hb_r 12 0 0), none] [] w Q := by
  refine hb_aload_n (pc := 0) (i := 0) dX12_qKind_0 rfl rfl ?_
  refine hb_aload_n (pc := 1) (i := 0) dX12_qKind_1 rfl rfl ?_
  refine hb_getR (pc := 2) (g1 := 0) dX12_qKind_2 fw_X12_116 cw_12 rfl (by decide) rfl (by decide) rfl ?_
  exact hb_callV (pc := 5) (As := [hb_r 12 0 33]) (st := []) dX12_qKind_5 ml_X12_222 mf_X12_takes mi_X12_takes (ci := 12) rfl rfl (by decide) rfl rfl (Nat.le_of_ble_eq_true rfl) (Nat.le_of_ble_eq_true rfl) h (fun _ _ q => q)
set_option maxRecDepth 20000 in
theorem bk_X12_qKind_8 {d : Nat} {w : hb_W} {Q : Option hb_V → hb_W → Prop} {xs0 : Int32} (h : ((xs0 = 0) → hb_O yX12_takes cX12_takes 2 (some .boolean) d [hb_r 12 0 0, hb_r 12 0 34] w (fun rv w1 => hb_R yX12_qKind cX12_qKind 2 (some .int) (d + 1) 23 [some (hb_r 12 0 0), none] (rv.toList ++ []) w1 Q)) ∧ ((¬ xs0 = 0) → ((¬ (0 : Int32) = (5 : Int32)) → hb_R yX12_qKind cX12_qKind 2 (some .int) (d + 1) 90 [some (hb_r 12 0 0), some (hb_i (0 : Int32))] [] w Q) ∧ (((0 : Int32) = (5 : Int32)) → hb_O yX12_asks cX12_asks 2 none d [hb_r 12 0 0, hb_r 12 0 38] w (fun rv w1 => hb_R yX12_qKind cX12_qKind 2 (some .int) (d + 1) 90 [some (hb_r 12 0 0), some (hb_i (0 : Int32))] (rv.toList ++ []) w1 Q)))) : hb_R yX12_qKind cX12_qKind 2 (some .int) (d + 1) 8 [some (hb_r 12 0 0), none] [hb_i xs0] w Q := by
  refine hb_if_eq (pc := 8) (tgt := 15) dX12_qKind_8 (by decide) (fun c1 => ?_) (fun c1 => ?_)
  · have ht1 := h.1 c1
    refine hb_aload_n (pc := 15) (i := 0) dX12_qKind_15 rfl rfl ?_
    refine hb_aload_n (pc := 16) (i := 0) dX12_qKind_16 rfl rfl ?_
    refine hb_getR (pc := 17) (g1 := 0) dX12_qKind_17 fw_X12_119 cw_12 rfl (by decide) rfl (by decide) rfl ?_
    exact hb_callV (pc := 20) (As := [hb_r 12 0 34]) (st := []) dX12_qKind_20 ml_X12_222 mf_X12_takes mi_X12_takes (ci := 12) rfl rfl (by decide) rfl rfl (Nat.le_of_ble_eq_true rfl) (Nat.le_of_ble_eq_true rfl) ht1 (fun _ _ q => q)
  · have ht1 := h.2 c1
    refine hb_iconst (pc := 11) (v := 0) dX12_qKind_11 (by decide) ?_
    refine hb_goto (pc := 12) (tgt := 76) dX12_qKind_12 (by decide) ?_
    refine hb_istore_n (pc := 76) (i := 1) (ls1 := [some (hb_r 12 0 0), some (hb_i (0 : Int32))]) dX12_qKind_76 rfl (by decide) rfl ?_
    refine hb_iload_n (pc := 77) (i := 1) dX12_qKind_77 rfl rfl ?_
    refine hb_iconst (pc := 78) (v := 5) dX12_qKind_78 (by decide) ?_
    refine hb_icmp_ne (pc := 79) (tgt := 90) dX12_qKind_79 (by decide) (fun c2 => ?_) (fun c2 => ?_)
    · have ht2 := ht1.1 c2
      exact ht2
    · have ht2 := ht1.2 c2
      refine hb_aload_n (pc := 82) (i := 0) dX12_qKind_82 rfl rfl ?_
      refine hb_aload_n (pc := 83) (i := 0) dX12_qKind_83 rfl rfl ?_
      refine hb_getR (pc := 84) (g1 := 0) dX12_qKind_84 fw_X12_131 cw_12 rfl (by decide) rfl (by decide) rfl ?_
      exact hb_callV (pc := 87) (As := [hb_r 12 0 38]) (st := []) dX12_qKind_87 ml_X12_245 mf_X12_asks mi_X12_asks (ci := 12) rfl rfl (by decide) rfl rfl (Nat.le_of_ble_eq_true rfl) (Nat.le_of_ble_eq_true rfl) ht2 (fun _ _ q => q)
set_option maxRecDepth 20000 in
theorem bk_X12_qKind_23 {d : Nat} {w : hb_W} {Q : Option hb_V → hb_W → Prop} {xs0 : Int32} (h : ((xs0 = 0) → hb_O yX12_takes cX12_takes 2 (some .boolean) d [hb_r 12 0 0, hb_r 12 0 35] w (fun rv w1 => hb_R yX12_qKind cX12_qKind 2 (some .int) (d + 1) 38 [some (hb_r 12 0 0), none] (rv.toList ++ []) w1 Q)) ∧ ((¬ xs0 = 0) → ((¬ (1 : Int32) = (5 : Int32)) → hb_R yX12_qKind cX12_qKind 2 (some .int) (d + 1) 90 [some (hb_r 12 0 0), some (hb_i (1 : Int32))] [] w Q) ∧ (((1 : Int32) = (5 : Int32)) → hb_O yX12_asks cX12_asks 2 none d [hb_r 12 0 0, hb_r 12 0 38] w (fun rv w1 => hb_R yX12_qKind cX12_qKind 2 (some .int) (d + 1) 90 [some (hb_r 12 0 0), some (hb_i (1 : Int32))] (rv.toList ++ []) w1 Q)))) : hb_R yX12_qKind cX12_qKind 2 (some .int) (d + 1) 23 [some (hb_r 12 0 0), none] [hb_i xs0] w Q := by
  refine hb_if_eq (pc := 23) (tgt := 30) dX12_qKind_23 (by decide) (fun c1 => ?_) (fun c1 => ?_)
  · have ht1 := h.1 c1
    refine hb_aload_n (pc := 30) (i := 0) dX12_qKind_30 rfl rfl ?_
    refine hb_aload_n (pc := 31) (i := 0) dX12_qKind_31 rfl rfl ?_
    refine hb_getR (pc := 32) (g1 := 0) dX12_qKind_32 fw_X12_122 cw_12 rfl (by decide) rfl (by decide) rfl ?_
    exact hb_callV (pc := 35) (As := [hb_r 12 0 35]) (st := []) dX12_qKind_35 ml_X12_222 mf_X12_takes mi_X12_takes (ci := 12) rfl rfl (by decide) rfl rfl (Nat.le_of_ble_eq_true rfl) (Nat.le_of_ble_eq_true rfl) ht1 (fun _ _ q => q)
  · have ht1 := h.2 c1
    refine hb_iconst (pc := 26) (v := 1) dX12_qKind_26 (by decide) ?_
    refine hb_goto (pc := 27) (tgt := 76) dX12_qKind_27 (by decide) ?_
    refine hb_istore_n (pc := 76) (i := 1) (ls1 := [some (hb_r 12 0 0), some (hb_i (1 : Int32))]) dX12_qKind_76 rfl (by decide) rfl ?_
    refine hb_iload_n (pc := 77) (i := 1) dX12_qKind_77 rfl rfl ?_
    refine hb_iconst (pc := 78) (v := 5) dX12_qKind_78 (by decide) ?_
    refine hb_icmp_ne (pc := 79) (tgt := 90) dX12_qKind_79 (by decide) (fun c2 => ?_) (fun c2 => ?_)
    · have ht2 := ht1.1 c2
      exact ht2
    · have ht2 := ht1.2 c2
      refine hb_aload_n (pc := 82) (i := 0) dX12_qKind_82 rfl rfl ?_
      refine hb_aload_n (pc := 83) (i := 0) dX12_qKind_83 rfl rfl ?_
      refine hb_getR (pc := 84) (g1 := 0) dX12_qKind_84 fw_X12_131 cw_12 rfl (by decide) rfl (by decide) rfl ?_
      exact hb_callV (pc := 87) (As := [hb_r 12 0 38]) (st := []) dX12_qKind_87 ml_X12_245 mf_X12_asks mi_X12_asks (ci := 12) rfl rfl (by decide) rfl rfl (Nat.le_of_ble_eq_true rfl) (Nat.le_of_ble_eq_true rfl) ht2 (fun _ _ q => q)
set_option maxRecDepth 20000 in
theorem bk_X12_qKind_38 {d : Nat} {w : hb_W} {Q : Option hb_V → hb_W → Prop} {xs0 : Int32} (h : ((xs0 = 0) → hb_O yX12_takes cX12_takes 2 (some .boolean) d [hb_r 12 0 0, hb_r 12 0 36] w (fun rv w1 => hb_R yX12_qKind cX12_qKind 2 (some .int) (d + 1) 53 [some (hb_r 12 0 0), none] (rv.toList ++ []) w1 Q)) ∧ ((¬ xs0 = 0) → ((¬ (2 : Int32) = (5 : Int32)) → hb_R yX12_qKind cX12_qKind 2 (some .int) (d + 1) 90 [some (hb_r 12 0 0), some (hb_i (2 : Int32))] [] w Q) ∧ (((2 : Int32) = (5 : Int32)) → hb_O yX12_asks cX12_asks 2 none d [hb_r 12 0 0, hb_r 12 0 38] w (fun rv w1 => hb_R yX12_qKind cX12_qKind 2 (some .int) (d + 1) 90 [some (hb_r 12 0 0), some (hb_i (2 : Int32))] (rv.toList ++ []) w1 Q)))) : hb_R yX12_qKind cX12_qKind 2 (some .int) (d + 1) 38 [some (hb_r 12 0 0), none] [hb_i xs0] w Q := by
  refine hb_if_eq (pc := 38) (tgt := 45) dX12_qKind_38 (by decide) (fun c1 => ?_) (fun c1 => ?_)
  · have ht1 := h.1 c1
    refine hb_aload_n (pc := 45) (i := 0) dX12_qKind_45 rfl rfl ?_
    refine hb_aload_n (pc := 46) (i := 0) dX12_qKind_46 rfl rfl ?_
    refine hb_getR (pc := 47) (g1 := 0) dX12_qKind_47 fw_X12_125 cw_12 rfl (by decide) rfl (by decide) rfl ?_
    exact hb_callV (pc := 50) (As := [hb_r 12 0 36]) (st := []) dX12_qKind_50 ml_X12_222 mf_X12_takes mi_X12_takes (ci := 12) rfl rfl (by decide) rfl rfl (Nat.le_of_ble_eq_true rfl) (Nat.le_of_ble_eq_true rfl) ht1 (fun _ _ q => q)
  · have ht1 := h.2 c1
    refine hb_iconst (pc := 41) (v := 2) dX12_qKind_41 (by decide) ?_
    refine hb_goto (pc := 42) (tgt := 76) dX12_qKind_42 (by decide) ?_
    refine hb_istore_n (pc := 76) (i := 1) (ls1 := [some (hb_r 12 0 0), some (hb_i (2 : Int32))]) dX12_qKind_76 rfl (by decide) rfl ?_
    refine hb_iload_n (pc := 77) (i := 1) dX12_qKind_77 rfl rfl ?_
    refine hb_iconst (pc := 78) (v := 5) dX12_qKind_78 (by decide) ?_
    refine hb_icmp_ne (pc := 79) (tgt := 90) dX12_qKind_79 (by decide) (fun c2 => ?_) (fun c2 => ?_)
    · have ht2 := ht1.1 c2
      exact ht2
    · have ht2 := ht1.2 c2
      refine hb_aload_n (pc := 82) (i := 0) dX12_qKind_82 rfl rfl ?_
      refine hb_aload_n (pc := 83) (i := 0) dX12_qKind_83 rfl rfl ?_
      refine hb_getR (pc := 84) (g1 := 0) dX12_qKind_84 fw_X12_131 cw_12 rfl (by decide) rfl (by decide) rfl ?_
      exact hb_callV (pc := 87) (As := [hb_r 12 0 38]) (st := []) dX12_qKind_87 ml_X12_245 mf_X12_asks mi_X12_asks (ci := 12) rfl rfl (by decide) rfl rfl (Nat.le_of_ble_eq_true rfl) (Nat.le_of_ble_eq_true rfl) ht2 (fun _ _ q => q)
set_option maxRecDepth 20000 in
theorem bk_X12_qKind_53 {d : Nat} {w : hb_W} {Q : Option hb_V → hb_W → Prop} {xs0 : Int32} (h : ((xs0 = 0) → hb_O yX12_takes cX12_takes 2 (some .boolean) d [hb_r 12 0 0, hb_r 12 0 37] w (fun rv w1 => hb_R yX12_qKind cX12_qKind 2 (some .int) (d + 1) 68 [some (hb_r 12 0 0), none] (rv.toList ++ []) w1 Q)) ∧ ((¬ xs0 = 0) → ((¬ (3 : Int32) = (5 : Int32)) → hb_R yX12_qKind cX12_qKind 2 (some .int) (d + 1) 90 [some (hb_r 12 0 0), some (hb_i (3 : Int32))] [] w Q) ∧ (((3 : Int32) = (5 : Int32)) → hb_O yX12_asks cX12_asks 2 none d [hb_r 12 0 0, hb_r 12 0 38] w (fun rv w1 => hb_R yX12_qKind cX12_qKind 2 (some .int) (d + 1) 90 [some (hb_r 12 0 0), some (hb_i (3 : Int32))] (rv.toList ++ []) w1 Q)))) : hb_R yX12_qKind cX12_qKind 2 (some .int) (d + 1) 53 [some (hb_r 12 0 0), none] [hb_i xs0] w Q := by
  refine hb_if_eq (pc := 53) (tgt := 60) dX12_qKind_53 (by decide) (fun c1 => ?_) (fun c1 => ?_)
  · have ht1 := h.1 c1
    refine hb_aload_n (pc := 60) (i := 0) dX12_qKind_60 rfl rfl ?_
    refine hb_aload_n (pc := 61) (i := 0) dX12_qKind_61 rfl rfl ?_
    refine hb_getR (pc := 62) (g1 := 0) dX12_qKind_62 fw_X12_128 cw_12 rfl (by decide) rfl (by decide) rfl ?_
    exact hb_callV (pc := 65) (As := [hb_r 12 0 37]) (st := []) dX12_qKind_65 ml_X12_222 mf_X12_takes mi_X12_takes (ci := 12) rfl rfl (by decide) rfl rfl (Nat.le_of_ble_eq_true rfl) (Nat.le_of_ble_eq_true rfl) ht1 (fun _ _ q => q)
  · have ht1 := h.2 c1
    refine hb_iconst (pc := 56) (v := 3) dX12_qKind_56 (by decide) ?_
    refine hb_goto (pc := 57) (tgt := 76) dX12_qKind_57 (by decide) ?_
    refine hb_istore_n (pc := 76) (i := 1) (ls1 := [some (hb_r 12 0 0), some (hb_i (3 : Int32))]) dX12_qKind_76 rfl (by decide) rfl ?_
    refine hb_iload_n (pc := 77) (i := 1) dX12_qKind_77 rfl rfl ?_
    refine hb_iconst (pc := 78) (v := 5) dX12_qKind_78 (by decide) ?_
    refine hb_icmp_ne (pc := 79) (tgt := 90) dX12_qKind_79 (by decide) (fun c2 => ?_) (fun c2 => ?_)
    · have ht2 := ht1.1 c2
      exact ht2
    · have ht2 := ht1.2 c2
      refine hb_aload_n (pc := 82) (i := 0) dX12_qKind_82 rfl rfl ?_
      refine hb_aload_n (pc := 83) (i := 0) dX12_qKind_83 rfl rfl ?_
      refine hb_getR (pc := 84) (g1 := 0) dX12_qKind_84 fw_X12_131 cw_12 rfl (by decide) rfl (by decide) rfl ?_
      exact hb_callV (pc := 87) (As := [hb_r 12 0 38]) (st := []) dX12_qKind_87 ml_X12_245 mf_X12_asks mi_X12_asks (ci := 12) rfl rfl (by decide) rfl rfl (Nat.le_of_ble_eq_true rfl) (Nat.le_of_ble_eq_true rfl) ht2 (fun _ _ q => q)
set_option maxRecDepth 20000 in
theorem bk_X12_qKind_68 {d : Nat} {w : hb_W} {Q : Option hb_V → hb_W → Prop} {xs0 : Int32} (h : ((xs0 = 0) → ((¬ (5 : Int32) = (5 : Int32)) → hb_R yX12_qKind cX12_qKind 2 (some .int) (d + 1) 90 [some (hb_r 12 0 0), some (hb_i (5 : Int32))] [] w Q) ∧ (((5 : Int32) = (5 : Int32)) → hb_O yX12_asks cX12_asks 2 none d [hb_r 12 0 0, hb_r 12 0 38] w (fun rv w1 => hb_R yX12_qKind cX12_qKind 2 (some .int) (d + 1) 90 [some (hb_r 12 0 0), some (hb_i (5 : Int32))] (rv.toList ++ []) w1 Q))) ∧ ((¬ xs0 = 0) → ((¬ (4 : Int32) = (5 : Int32)) → hb_R yX12_qKind cX12_qKind 2 (some .int) (d + 1) 90 [some (hb_r 12 0 0), some (hb_i (4 : Int32))] [] w Q) ∧ (((4 : Int32) = (5 : Int32)) → hb_O yX12_asks cX12_asks 2 none d [hb_r 12 0 0, hb_r 12 0 38] w (fun rv w1 => hb_R yX12_qKind cX12_qKind 2 (some .int) (d + 1) 90 [some (hb_r 12 0 0), some (hb_i (4 : Int32))] (rv.toList ++ []) w1 Q)))) : hb_R yX12_qKind cX12_qKind 2 (some .int) (d + 1) 68 [some (hb_r 12 0 0), none] [hb_i xs0] w Q := by
  refine hb_if_eq (pc := 68) (tgt := 75) dX12_qKind_68 (by decide) (fun c1 => ?_) (fun c1 => ?_)
  · have ht1 := h.1 c1
    refine hb_iconst (pc := 75) (v := 5) dX12_qKind_75 (by decide) ?_
    refine hb_istore_n (pc := 76) (i := 1) (ls1 := [some (hb_r 12 0 0), some (hb_i (5 : Int32))]) dX12_qKind_76 rfl (by decide) rfl ?_
    refine hb_iload_n (pc := 77) (i := 1) dX12_qKind_77 rfl rfl ?_
    refine hb_iconst (pc := 78) (v := 5) dX12_qKind_78 (by decide) ?_
    refine hb_icmp_ne (pc := 79) (tgt := 90) dX12_qKind_79 (by decide) (fun c2 => ?_) (fun c2 => ?_)
    · have ht2 := ht1.1 c2
      exact ht2
    · have ht2 := ht1.2 c2
      refine hb_aload_n (pc := 82) (i := 0) dX12_qKind_82 rfl rfl ?_
      refine hb_aload_n (pc := 83) (i := 0) dX12_qKind_83 rfl rfl ?_
      refine hb_getR (pc := 84) (g1 := 0) dX12_qKind_84 fw_X12_131 cw_12 rfl (by decide) rfl (by decide) rfl ?_
      exact hb_callV (pc := 87) (As := [hb_r 12 0 38]) (st := []) dX12_qKind_87 ml_X12_245 mf_X12_asks mi_X12_asks (ci := 12) rfl rfl (by decide) rfl rfl (Nat.le_of_ble_eq_true rfl) (Nat.le_of_ble_eq_true rfl) ht2 (fun _ _ q => q)
  · have ht1 := h.2 c1
    refine hb_iconst (pc := 71) (v := 4) dX12_qKind_71 (by decide) ?_
    refine hb_goto (pc := 72) (tgt := 76) dX12_qKind_72 (by decide) ?_
    refine hb_istore_n (pc := 76) (i := 1) (ls1 := [some (hb_r 12 0 0), some (hb_i (4 : Int32))]) dX12_qKind_76 rfl (by decide) rfl ?_
    refine hb_iload_n (pc := 77) (i := 1) dX12_qKind_77 rfl rfl ?_
    refine hb_iconst (pc := 78) (v := 5) dX12_qKind_78 (by decide) ?_
    refine hb_icmp_ne (pc := 79) (tgt := 90) dX12_qKind_79 (by decide) (fun c3 => ?_) (fun c3 => ?_)
    · have ht3 := ht1.1 c3
      exact ht3
    · have ht3 := ht1.2 c3
      refine hb_aload_n (pc := 82) (i := 0) dX12_qKind_82 rfl rfl ?_
      refine hb_aload_n (pc := 83) (i := 0) dX12_qKind_83 rfl rfl ?_
      refine hb_getR (pc := 84) (g1 := 0) dX12_qKind_84 fw_X12_131 cw_12 rfl (by decide) rfl (by decide) rfl ?_
      exact hb_callV (pc := 87) (As := [hb_r 12 0 38]) (st := []) dX12_qKind_87 ml_X12_245 mf_X12_asks mi_X12_asks (ci := 12) rfl rfl (by decide) rfl rfl (Nat.le_of_ble_eq_true rfl) (Nat.le_of_ble_eq_true rfl) ht3 (fun _ _ q => q)
set_option maxRecDepth 20000 in
theorem bk_X12_qKind_90 {d : Nat} {w : hb_W} {Q : Option hb_V → hb_W → Prop} {x1 : Int32} (h : Q (some (hb_i x1)) w) : hb_R yX12_qKind cX12_qKind 2 (some .int) (d + 1) 90 [some (hb_r 12 0 0), some (hb_i x1)] [] w Q := by
  refine hb_iload_n (pc := 90) (i := 1) dX12_qKind_90 rfl rfl ?_
  exact hb_iret (pc := 91) dX12_qKind_91 rfl h
theorem dX12_qTakes_0 : decode cX12_qTakes 0 = .ok (.iload_n 1, 1) := by decide +kernel
theorem dX12_qTakes_1 : decode cX12_qTakes 1 = .ok (.iconst 3, 1) := by decide +kernel
theorem dX12_qTakes_2 : decode cX12_qTakes 2 = .ok (.if_icmp .ge 13, 3) := by decide +kernel
theorem dX12_qTakes_5 : decode cX12_qTakes 5 = .ok (.lload_n 2, 1) := by decide +kernel
theorem dX12_qTakes_6 : decode cX12_qTakes 6 = .ok (.lconst 1, 1) := by decide +kernel
theorem dX12_qTakes_7 : decode cX12_qTakes 7 = .ok (.lcmp, 1) := by decide +kernel
theorem dX12_qTakes_8 : decode cX12_qTakes 8 = .ok (.ifCond .ne 7, 3) := by decide +kernel
theorem dX12_qTakes_11 : decode cX12_qTakes 11 = .ok (.iconst 1, 1) := by decide +kernel
theorem dX12_qTakes_12 : decode cX12_qTakes 12 = .ok (.goto 4, 3) := by decide +kernel
theorem dX12_qTakes_15 : decode cX12_qTakes 15 = .ok (.iconst 0, 1) := by decide +kernel
theorem dX12_qTakes_16 : decode cX12_qTakes 16 = .ok (.istore 5, 2) := by decide +kernel
theorem dX12_qTakes_18 : decode cX12_qTakes 18 = .ok (.iload_n 1, 1) := by decide +kernel
theorem dX12_qTakes_19 : decode cX12_qTakes 19 = .ok (.ifCond .ne 19, 3) := by decide +kernel
theorem dX12_qTakes_22 : decode cX12_qTakes 22 = .ok (.iload 5, 2) := by decide +kernel
theorem dX12_qTakes_24 : decode cX12_qTakes 24 = .ok (.ifCond .eq 14, 3) := by decide +kernel
theorem dX12_qTakes_27 : decode cX12_qTakes 27 = .ok (.aload_n 0, 1) := by decide +kernel
theorem dX12_qTakes_28 : decode cX12_qTakes 28 = .ok (.getfield 580, 3) := by decide +kernel
theorem dX12_qTakes_31 : decode cX12_qTakes 31 = .ok (.ldc2_w 583, 3) := by decide +kernel
theorem dX12_qTakes_34 : decode cX12_qTakes 34 = .ok (.lcmp, 1) := by decide +kernel
theorem dX12_qTakes_35 : decode cX12_qTakes 35 = .ok (.ifCond .eq 13, 3) := by decide +kernel
theorem dX12_qTakes_38 : decode cX12_qTakes 38 = .ok (.iload_n 1, 1) := by decide +kernel
theorem dX12_qTakes_39 : decode cX12_qTakes 39 = .ok (.iconst 1, 1) := by decide +kernel
theorem dX12_qTakes_40 : decode cX12_qTakes 40 = .ok (.if_icmp .ne 15, 3) := by decide +kernel
theorem dX12_qTakes_43 : decode cX12_qTakes 43 = .ok (.iload 5, 2) := by decide +kernel
theorem dX12_qTakes_45 : decode cX12_qTakes 45 = .ok (.ifCond .eq 10, 3) := by decide +kernel
theorem dX12_qTakes_48 : decode cX12_qTakes 48 = .ok (.aload_n 0, 1) := by decide +kernel
theorem dX12_qTakes_49 : decode cX12_qTakes 49 = .ok (.iload 4, 2) := by decide +kernel
theorem dX12_qTakes_51 : decode cX12_qTakes 51 = .ok (.i2l, 1) := by decide +kernel
theorem dX12_qTakes_52 : decode cX12_qTakes 52 = .ok (.putfield 580, 3) := by decide +kernel
theorem dX12_qTakes_55 : decode cX12_qTakes 55 = .ok (.iload_n 1, 1) := by decide +kernel
theorem dX12_qTakes_56 : decode cX12_qTakes 56 = .ok (.iconst 2, 1) := by decide +kernel
theorem dX12_qTakes_57 : decode cX12_qTakes 57 = .ok (.if_icmp .ne 18, 3) := by decide +kernel
theorem dX12_qTakes_60 : decode cX12_qTakes 60 = .ok (.iload 5, 2) := by decide +kernel
theorem dX12_qTakes_62 : decode cX12_qTakes 62 = .ok (.ifCond .eq 13, 3) := by decide +kernel
theorem dX12_qTakes_65 : decode cX12_qTakes 65 = .ok (.aload_n 0, 1) := by decide +kernel
theorem dX12_qTakes_66 : decode cX12_qTakes 66 = .ok (.dup, 1) := by decide +kernel
theorem dX12_qTakes_67 : decode cX12_qTakes 67 = .ok (.getfield 580, 3) := by decide +kernel
theorem dX12_qTakes_70 : decode cX12_qTakes 70 = .ok (.lconst 1, 1) := by decide +kernel
theorem dX12_qTakes_71 : decode cX12_qTakes 71 = .ok (.ladd, 1) := by decide +kernel
theorem dX12_qTakes_72 : decode cX12_qTakes 72 = .ok (.putfield 580, 3) := by decide +kernel
theorem dX12_qTakes_75 : decode cX12_qTakes 75 = .ok (.iload_n 1, 1) := by decide +kernel
theorem dX12_qTakes_76 : decode cX12_qTakes 76 = .ok (.iconst 3, 1) := by decide +kernel
theorem dX12_qTakes_77 : decode cX12_qTakes 77 = .ok (.if_icmp .ne 13, 3) := by decide +kernel
theorem dX12_qTakes_80 : decode cX12_qTakes 80 = .ok (.aload_n 0, 1) := by decide +kernel
theorem dX12_qTakes_81 : decode cX12_qTakes 81 = .ok (.dup, 1) := by decide +kernel
theorem dX12_qTakes_82 : decode cX12_qTakes 82 = .ok (.getfield 580, 3) := by decide +kernel
theorem dX12_qTakes_85 : decode cX12_qTakes 85 = .ok (.lload_n 2, 1) := by decide +kernel
theorem dX12_qTakes_86 : decode cX12_qTakes 86 = .ok (.ladd, 1) := by decide +kernel
theorem dX12_qTakes_87 : decode cX12_qTakes 87 = .ok (.putfield 580, 3) := by decide +kernel
theorem dX12_qTakes_90 : decode cX12_qTakes 90 = .ok (.iload_n 1, 1) := by decide +kernel
theorem dX12_qTakes_91 : decode cX12_qTakes 91 = .ok (.iconst 3, 1) := by decide +kernel
theorem dX12_qTakes_92 : decode cX12_qTakes 92 = .ok (.if_icmp .le 41, 3) := by decide +kernel
theorem dX12_qTakes_95 : decode cX12_qTakes 95 = .ok (.aload_n 0, 1) := by decide +kernel
theorem dX12_qTakes_96 : decode cX12_qTakes 96 = .ok (.getfield 585, 3) := by decide +kernel
theorem dX12_qTakes_99 : decode cX12_qTakes 99 = .ok (.ifCond .ne 29, 3) := by decide +kernel
theorem dX12_qTakes_102 : decode cX12_qTakes 102 = .ok (.iload_n 1, 1) := by decide +kernel
theorem dX12_qTakes_103 : decode cX12_qTakes 103 = .ok (.iconst 4, 1) := by decide +kernel
theorem dX12_qTakes_104 : decode cX12_qTakes 104 = .ok (.if_icmp .ne 15, 3) := by decide +kernel
theorem dX12_qTakes_107 : decode cX12_qTakes 107 = .ok (.lload_n 2, 1) := by decide +kernel
theorem dX12_qTakes_108 : decode cX12_qTakes 108 = .ok (.aload_n 0, 1) := by decide +kernel
theorem dX12_qTakes_109 : decode cX12_qTakes 109 = .ok (.getfield 580, 3) := by decide +kernel
theorem dX12_qTakes_112 : decode cX12_qTakes 112 = .ok (.lcmp, 1) := by decide +kernel
theorem dX12_qTakes_113 : decode cX12_qTakes 113 = .ok (.ifCond .le 20, 3) := by decide +kernel
theorem dX12_qTakes_116 : decode cX12_qTakes 116 = .ok (.goto 12, 3) := by decide +kernel
theorem dX12_qTakes_119 : decode cX12_qTakes 119 = .ok (.lload_n 2, 1) := by decide +kernel
theorem dX12_qTakes_120 : decode cX12_qTakes 120 = .ok (.aload_n 0, 1) := by decide +kernel
theorem dX12_qTakes_121 : decode cX12_qTakes 121 = .ok (.getfield 580, 3) := by decide +kernel
theorem dX12_qTakes_124 : decode cX12_qTakes 124 = .ok (.lcmp, 1) := by decide +kernel
theorem dX12_qTakes_125 : decode cX12_qTakes 125 = .ok (.ifCond .ge 8, 3) := by decide +kernel
theorem dX12_qTakes_128 : decode cX12_qTakes 128 = .ok (.aload_n 0, 1) := by decide +kernel
theorem dX12_qTakes_129 : decode cX12_qTakes 129 = .ok (.lload_n 2, 1) := by decide +kernel
theorem dX12_qTakes_130 : decode cX12_qTakes 130 = .ok (.putfield 580, 3) := by decide +kernel
theorem dX12_qTakes_133 : decode cX12_qTakes 133 = .ok (.aload_n 0, 1) := by decide +kernel
theorem dX12_qTakes_134 : decode cX12_qTakes 134 = .ok (.iconst 0, 1) := by decide +kernel
theorem dX12_qTakes_135 : decode cX12_qTakes 135 = .ok (.putfield 585, 3) := by decide +kernel
theorem dX12_qTakes_138 : decode cX12_qTakes 138 = .ok (.return_, 1) := by decide +kernel
set_option maxRecDepth 20000 in
theorem bk_X12_qTakes_0 {d : Nat} {w : hb_W} {Q : Option hb_V → hb_W → Prop} {x1 : Int32} {l2 : Int64} {x4 : Int32} (h : (((3 : Int32) ≤ x1) → ((¬ x1 = 0) → hb_R yX12_qTakes cX12_qTakes 6 none d 38 [some (hb_r 12 0 0), some (hb_i x1), some (hb_l l2), none, some (hb_i x4), some (hb_i (0 : Int32))] [] w Q) ∧ ((x1 = 0) → (((0 : Int32) = 0) → hb_R yX12_qTakes cX12_qTakes 6 none d 38 [some (hb_r 12 0 0), some (hb_i x1), some (hb_l l2), none, some (hb_i x4), some (hb_i (0 : Int32))] [] w Q) ∧ ((¬ (0 : Int32) = 0) → (((lg_cmp (hb_fL w 12 87 0) (-1 : Int64)) = 0) → hb_R yX12_qTakes cX12_qTakes 6 none d 48 [some (hb_r 12 0 0), some (hb_i x1), some (hb_l l2), none, some (hb_i x4), some (hb_i (0 : Int32))] [] w Q) ∧ ((¬ (lg_cmp (hb_fL w 12 87 0) (-1 : Int64)) = 0) → hb_R yX12_qTakes cX12_qTakes 6 none d 38 [some (hb_r 12 0 0), some (hb_i x1), some (hb_l l2), none, some (hb_i x4), some (hb_i (0 : Int32))] [] w Q)))) ∧ ((¬ (3 : Int32) ≤ x1) → ((¬ (lg_cmp l2 (1 : Int64)) = 0) → ((¬ x1 = 0) → hb_R yX12_qTakes cX12_qTakes 6 none d 38 [some (hb_r 12 0 0), some (hb_i x1), some (hb_l l2), none, some (hb_i x4), some (hb_i (0 : Int32))] [] w Q) ∧ ((x1 = 0) → (((0 : Int32) = 0) → hb_R yX12_qTakes cX12_qTakes 6 none d 38 [some (hb_r 12 0 0), some (hb_i x1), some (hb_l l2), none, some (hb_i x4), some (hb_i (0 : Int32))] [] w Q) ∧ ((¬ (0 : Int32) = 0) → (((lg_cmp (hb_fL w 12 87 0) (-1 : Int64)) = 0) → hb_R yX12_qTakes cX12_qTakes 6 none d 48 [some (hb_r 12 0 0), some (hb_i x1), some (hb_l l2), none, some (hb_i x4), some (hb_i (0 : Int32))] [] w Q) ∧ ((¬ (lg_cmp (hb_fL w 12 87 0) (-1 : Int64)) = 0) → hb_R yX12_qTakes cX12_qTakes 6 none d 38 [some (hb_r 12 0 0), some (hb_i x1), some (hb_l l2), none, some (hb_i x4), some (hb_i (0 : Int32))] [] w Q)))) ∧ (((lg_cmp l2 (1 : Int64)) = 0) → ((¬ x1 = 0) → hb_R yX12_qTakes cX12_qTakes 6 none d 38 [some (hb_r 12 0 0), some (hb_i x1), some (hb_l l2), none, some (hb_i x4), some (hb_i (1 : Int32))] [] w Q) ∧ ((x1 = 0) → (((1 : Int32) = 0) → hb_R yX12_qTakes cX12_qTakes 6 none d 38 [some (hb_r 12 0 0), some (hb_i x1), some (hb_l l2), none, some (hb_i x4), some (hb_i (1 : Int32))] [] w Q) ∧ ((¬ (1 : Int32) = 0) → (((lg_cmp (hb_fL w 12 87 0) (-1 : Int64)) = 0) → hb_R yX12_qTakes cX12_qTakes 6 none d 48 [some (hb_r 12 0 0), some (hb_i x1), some (hb_l l2), none, some (hb_i x4), some (hb_i (1 : Int32))] [] w Q) ∧ ((¬ (lg_cmp (hb_fL w 12 87 0) (-1 : Int64)) = 0) → hb_R yX12_qTakes cX12_qTakes 6 none d 38 [some (hb_r 12 0 0), some (hb_i x1), some (hb_l l2), none, some (hb_i x4), some (hb_i (1 : Int32))] [] w Q)))))) : hb_R yX12_qTakes cX12_qTakes 6 none d 0 [some (hb_r 12 0 0), some (hb_i x1), some (hb_l l2), none, some (hb_i x4), none] [] w Q := by
  refine hb_iload_n (pc := 0) (i := 1) dX12_qTakes_0 rfl rfl ?_
  refine hb_iconst (pc := 1) (v := 3) dX12_qTakes_1 (by decide) ?_
  refine hb_icmp_ge (pc := 2) (tgt := 15) dX12_qTakes_2 (by decide) (fun c1 => ?_) (fun c1 => ?_)
  · have ht1 := h.1 c1
    refine hb_iconst (pc := 15) (v := 0) dX12_qTakes_15 (by decide) ?_
    refine hb_istore (pc := 16) (i := 5) (ls1 := [some (hb_r 12 0 0), some (hb_i x1), some (hb_l l2), none, some (hb_i x4), some (hb_i (0 : Int32))]) dX12_qTakes_16 (by decide) rfl ?_
    refine hb_iload_n (pc := 18) (i := 1) dX12_qTakes_18 rfl rfl ?_
    refine hb_if_ne (pc := 19) (tgt := 38) dX12_qTakes_19 (by decide) (fun c2 => ?_) (fun c2 => ?_)
    · have ht2 := ht1.1 c2
      exact ht2
    · have ht2 := ht1.2 c2
      refine hb_iload (pc := 22) dX12_qTakes_22 rfl ?_
      refine hb_if_eq (pc := 24) (tgt := 38) dX12_qTakes_24 (by decide) (fun c3 => ?_) (fun c3 => ?_)
      · have ht3 := ht2.1 c3
        exact ht3
      · have ht3 := ht2.2 c3
        refine hb_aload_n (pc := 27) (i := 0) dX12_qTakes_27 rfl rfl ?_
        refine hb_getLx (pc := 28) (x := hb_fL w 12 87 0) dX12_qTakes_28 fw_X12_580 cw_12 rfl (by decide) rfl rfl ?_
        refine hb_ldc2 (pc := 31) (v := -1) dX12_qTakes_31 kc_X12_583 ?_
        refine hb_lcmp (pc := 34) dX12_qTakes_34 ?_
        refine hb_if_eq (pc := 35) (tgt := 48) dX12_qTakes_35 (by decide) (fun c4 => ?_) (fun c4 => ?_)
        · have ht4 := ht3.1 c4
          exact ht4
        · have ht4 := ht3.2 c4
          exact ht4
  · have ht1 := h.2 c1
    refine hb_lload_n (pc := 5) (i := 2) dX12_qTakes_5 rfl rfl ?_
    refine hb_lconst (pc := 6) (v := 1) dX12_qTakes_6 (by decide) ?_
    refine hb_lcmp (pc := 7) dX12_qTakes_7 ?_
    refine hb_if_ne (pc := 8) (tgt := 15) dX12_qTakes_8 (by decide) (fun c5 => ?_) (fun c5 => ?_)
    · have ht5 := ht1.1 c5
      refine hb_iconst (pc := 15) (v := 0) dX12_qTakes_15 (by decide) ?_
      refine hb_istore (pc := 16) (i := 5) (ls1 := [some (hb_r 12 0 0), some (hb_i x1), some (hb_l l2), none, some (hb_i x4), some (hb_i (0 : Int32))]) dX12_qTakes_16 (by decide) rfl ?_
      refine hb_iload_n (pc := 18) (i := 1) dX12_qTakes_18 rfl rfl ?_
      refine hb_if_ne (pc := 19) (tgt := 38) dX12_qTakes_19 (by decide) (fun c6 => ?_) (fun c6 => ?_)
      · have ht6 := ht5.1 c6
        exact ht6
      · have ht6 := ht5.2 c6
        refine hb_iload (pc := 22) dX12_qTakes_22 rfl ?_
        refine hb_if_eq (pc := 24) (tgt := 38) dX12_qTakes_24 (by decide) (fun c7 => ?_) (fun c7 => ?_)
        · have ht7 := ht6.1 c7
          exact ht7
        · have ht7 := ht6.2 c7
          refine hb_aload_n (pc := 27) (i := 0) dX12_qTakes_27 rfl rfl ?_
          refine hb_getLx (pc := 28) (x := hb_fL w 12 87 0) dX12_qTakes_28 fw_X12_580 cw_12 rfl (by decide) rfl rfl ?_
          refine hb_ldc2 (pc := 31) (v := -1) dX12_qTakes_31 kc_X12_583 ?_
          refine hb_lcmp (pc := 34) dX12_qTakes_34 ?_
          refine hb_if_eq (pc := 35) (tgt := 48) dX12_qTakes_35 (by decide) (fun c8 => ?_) (fun c8 => ?_)
          · have ht8 := ht7.1 c8
            exact ht8
          · have ht8 := ht7.2 c8
            exact ht8
    · have ht5 := ht1.2 c5
      refine hb_iconst (pc := 11) (v := 1) dX12_qTakes_11 (by decide) ?_
      refine hb_goto (pc := 12) (tgt := 16) dX12_qTakes_12 (by decide) ?_
      refine hb_istore (pc := 16) (i := 5) (ls1 := [some (hb_r 12 0 0), some (hb_i x1), some (hb_l l2), none, some (hb_i x4), some (hb_i (1 : Int32))]) dX12_qTakes_16 (by decide) rfl ?_
      refine hb_iload_n (pc := 18) (i := 1) dX12_qTakes_18 rfl rfl ?_
      refine hb_if_ne (pc := 19) (tgt := 38) dX12_qTakes_19 (by decide) (fun c9 => ?_) (fun c9 => ?_)
      · have ht9 := ht5.1 c9
        exact ht9
      · have ht9 := ht5.2 c9
        refine hb_iload (pc := 22) dX12_qTakes_22 rfl ?_
        refine hb_if_eq (pc := 24) (tgt := 38) dX12_qTakes_24 (by decide) (fun c10 => ?_) (fun c10 => ?_)
        · have ht10 := ht9.1 c10
          exact ht10
        · have ht10 := ht9.2 c10
          refine hb_aload_n (pc := 27) (i := 0) dX12_qTakes_27 rfl rfl ?_
          refine hb_getLx (pc := 28) (x := hb_fL w 12 87 0) dX12_qTakes_28 fw_X12_580 cw_12 rfl (by decide) rfl rfl ?_
          refine hb_ldc2 (pc := 31) (v := -1) dX12_qTakes_31 kc_X12_583 ?_
          refine hb_lcmp (pc := 34) dX12_qTakes_34 ?_
          refine hb_if_eq (pc := 35) (tgt := 48) dX12_qTakes_35 (by decide) (fun c11 => ?_) (fun c11 => ?_)
          · have ht11 := ht10.1 c11
            exact ht11
          · have ht11 := ht10.2 c11
            exact ht11
set_option maxRecDepth 20000 in
theorem bk_X12_qTakes_38 {d : Nat} {w : hb_W} {Q : Option hb_V → hb_W → Prop} {x1 : Int32} {l2 : Int64} {x4 : Int32} {x5 : Int32} (h : ((¬ x1 = (1 : Int32)) → hb_R yX12_qTakes cX12_qTakes 6 none d 55 [some (hb_r 12 0 0), some (hb_i x1), some (hb_l l2), none, some (hb_i x4), some (hb_i x5)] [] w Q) ∧ ((x1 = (1 : Int32)) → ((x5 = 0) → hb_R yX12_qTakes cX12_qTakes 6 none d 55 [some (hb_r 12 0 0), some (hb_i x1), some (hb_l l2), none, some (hb_i x4), some (hb_i x5)] [] w Q) ∧ ((¬ x5 = 0) → hb_R yX12_qTakes cX12_qTakes 6 none d 48 [some (hb_r 12 0 0), some (hb_i x1), some (hb_l l2), none, some (hb_i x4), some (hb_i x5)] [] w Q))) : hb_R yX12_qTakes cX12_qTakes 6 none d 38 [some (hb_r 12 0 0), some (hb_i x1), some (hb_l l2), none, some (hb_i x4), some (hb_i x5)] [] w Q := by
  refine hb_iload_n (pc := 38) (i := 1) dX12_qTakes_38 rfl rfl ?_
  refine hb_iconst (pc := 39) (v := 1) dX12_qTakes_39 (by decide) ?_
  refine hb_icmp_ne (pc := 40) (tgt := 55) dX12_qTakes_40 (by decide) (fun c1 => ?_) (fun c1 => ?_)
  · have ht1 := h.1 c1
    exact ht1
  · have ht1 := h.2 c1
    refine hb_iload (pc := 43) dX12_qTakes_43 rfl ?_
    refine hb_if_eq (pc := 45) (tgt := 55) dX12_qTakes_45 (by decide) (fun c2 => ?_) (fun c2 => ?_)
    · have ht2 := ht1.1 c2
      exact ht2
    · have ht2 := ht1.2 c2
      exact ht2
set_option maxRecDepth 20000 in
theorem bk_X12_qTakes_48 {d : Nat} {w : hb_W} {Q : Option hb_V → hb_W → Prop} {x1 : Int32} {l2 : Int64} {x4 : Int32} {x5 : Int32} (h : hb_R yX12_qTakes cX12_qTakes 6 none d 55 [some (hb_r 12 0 0), some (hb_i x1), some (hb_l l2), none, some (hb_i x4), some (hb_i x5)] [] (hb_pL w 12 87 0 x4.toInt64) Q) : hb_R yX12_qTakes cX12_qTakes 6 none d 48 [some (hb_r 12 0 0), some (hb_i x1), some (hb_l l2), none, some (hb_i x4), some (hb_i x5)] [] w Q := by
  refine hb_aload_n (pc := 48) (i := 0) dX12_qTakes_48 rfl rfl ?_
  refine hb_iload (pc := 49) dX12_qTakes_49 rfl ?_
  refine hb_i2l (pc := 51) dX12_qTakes_51 ?_
  refine hb_putL (pc := 52) dX12_qTakes_52 fw_X12_580 cw_12 pw_12_87 rfl (by decide) rfl rfl rfl ?_
  exact h
set_option maxRecDepth 20000 in
theorem bk_X12_qTakes_55 {d : Nat} {w : hb_W} {Q : Option hb_V → hb_W → Prop} {x1 : Int32} {l2 : Int64} {x4 : Int32} {x5 : Int32} (h : ((¬ x1 = (2 : Int32)) → hb_R yX12_qTakes cX12_qTakes 6 none d 75 [some (hb_r 12 0 0), some (hb_i x1), some (hb_l l2), none, some (hb_i x4), some (hb_i x5)] [] w Q) ∧ ((x1 = (2 : Int32)) → ((x5 = 0) → hb_R yX12_qTakes cX12_qTakes 6 none d 75 [some (hb_r 12 0 0), some (hb_i x1), some (hb_l l2), none, some (hb_i x4), some (hb_i x5)] [] w Q) ∧ ((¬ x5 = 0) → hb_R yX12_qTakes cX12_qTakes 6 none d 75 [some (hb_r 12 0 0), some (hb_i x1), some (hb_l l2), none, some (hb_i x4), some (hb_i x5)] [] (hb_pL w 12 87 0 ((hb_fL w 12 87 0) + (1 : Int64))) Q))) : hb_R yX12_qTakes cX12_qTakes 6 none d 55 [some (hb_r 12 0 0), some (hb_i x1), some (hb_l l2), none, some (hb_i x4), some (hb_i x5)] [] w Q := by
  refine hb_iload_n (pc := 55) (i := 1) dX12_qTakes_55 rfl rfl ?_
  refine hb_iconst (pc := 56) (v := 2) dX12_qTakes_56 (by decide) ?_
  refine hb_icmp_ne (pc := 57) (tgt := 75) dX12_qTakes_57 (by decide) (fun c1 => ?_) (fun c1 => ?_)
  · have ht1 := h.1 c1
    exact ht1
  · have ht1 := h.2 c1
    refine hb_iload (pc := 60) dX12_qTakes_60 rfl ?_
    refine hb_if_eq (pc := 62) (tgt := 75) dX12_qTakes_62 (by decide) (fun c2 => ?_) (fun c2 => ?_)
    · have ht2 := ht1.1 c2
      exact ht2
    · have ht2 := ht1.2 c2
      refine hb_aload_n (pc := 65) (i := 0) dX12_qTakes_65 rfl rfl ?_
      refine hb_dupr (pc := 66) dX12_qTakes_66 ?_
      refine hb_getLx (pc := 67) (x := hb_fL w 12 87 0) dX12_qTakes_67 fw_X12_580 cw_12 rfl (by decide) rfl rfl ?_
      refine hb_lconst (pc := 70) (v := 1) dX12_qTakes_70 (by decide) ?_
      refine hb_ladd (pc := 71) dX12_qTakes_71 ?_
      refine hb_putL (pc := 72) dX12_qTakes_72 fw_X12_580 cw_12 pw_12_87 rfl (by decide) rfl rfl rfl ?_
      exact ht2
set_option maxRecDepth 20000 in
theorem bk_X12_qTakes_75 {d : Nat} {w : hb_W} {Q : Option hb_V → hb_W → Prop} {x1 : Int32} {l2 : Int64} {x4 : Int32} {x5 : Int32} (h : ((¬ x1 = (3 : Int32)) → hb_R yX12_qTakes cX12_qTakes 6 none d 90 [some (hb_r 12 0 0), some (hb_i x1), some (hb_l l2), none, some (hb_i x4), some (hb_i x5)] [] w Q) ∧ ((x1 = (3 : Int32)) → hb_R yX12_qTakes cX12_qTakes 6 none d 90 [some (hb_r 12 0 0), some (hb_i x1), some (hb_l l2), none, some (hb_i x4), some (hb_i x5)] [] (hb_pL w 12 87 0 ((hb_fL w 12 87 0) + l2)) Q)) : hb_R yX12_qTakes cX12_qTakes 6 none d 75 [some (hb_r 12 0 0), some (hb_i x1), some (hb_l l2), none, some (hb_i x4), some (hb_i x5)] [] w Q := by
  refine hb_iload_n (pc := 75) (i := 1) dX12_qTakes_75 rfl rfl ?_
  refine hb_iconst (pc := 76) (v := 3) dX12_qTakes_76 (by decide) ?_
  refine hb_icmp_ne (pc := 77) (tgt := 90) dX12_qTakes_77 (by decide) (fun c1 => ?_) (fun c1 => ?_)
  · have ht1 := h.1 c1
    exact ht1
  · have ht1 := h.2 c1
    refine hb_aload_n (pc := 80) (i := 0) dX12_qTakes_80 rfl rfl ?_
    refine hb_dupr (pc := 81) dX12_qTakes_81 ?_
    refine hb_getLx (pc := 82) (x := hb_fL w 12 87 0) dX12_qTakes_82 fw_X12_580 cw_12 rfl (by decide) rfl rfl ?_
    refine hb_lload_n (pc := 85) (i := 2) dX12_qTakes_85 rfl rfl ?_
    refine hb_ladd (pc := 86) dX12_qTakes_86 ?_
    refine hb_putL (pc := 87) dX12_qTakes_87 fw_X12_580 cw_12 pw_12_87 rfl (by decide) rfl rfl rfl ?_
    exact ht1
set_option maxRecDepth 20000 in
theorem bk_X12_qTakes_90 {d : Nat} {w : hb_W} {Q : Option hb_V → hb_W → Prop} {x1 : Int32} {l2 : Int64} {x4 : Int32} {x5 : Int32} (h : ((x1 ≤ (3 : Int32)) → hb_R yX12_qTakes cX12_qTakes 6 none d 133 [some (hb_r 12 0 0), some (hb_i x1), some (hb_l l2), none, some (hb_i x4), some (hb_i x5)] [] w Q) ∧ ((¬ x1 ≤ (3 : Int32)) → ((¬ (hb_fI w 12 88 0) = 0) → hb_R yX12_qTakes cX12_qTakes 6 none d 128 [some (hb_r 12 0 0), some (hb_i x1), some (hb_l l2), none, some (hb_i x4), some (hb_i x5)] [] w Q) ∧ (((hb_fI w 12 88 0) = 0) → ((¬ x1 = (4 : Int32)) → ((0 ≤ (lg_cmp l2 (hb_fL w 12 87 0))) → hb_R yX12_qTakes cX12_qTakes 6 none d 133 [some (hb_r 12 0 0), some (hb_i x1), some (hb_l l2), none, some (hb_i x4), some (hb_i x5)] [] w Q) ∧ ((¬ 0 ≤ (lg_cmp l2 (hb_fL w 12 87 0))) → hb_R yX12_qTakes cX12_qTakes 6 none d 128 [some (hb_r 12 0 0), some (hb_i x1), some (hb_l l2), none, some (hb_i x4), some (hb_i x5)] [] w Q)) ∧ ((x1 = (4 : Int32)) → (((lg_cmp l2 (hb_fL w 12 87 0)) ≤ 0) → hb_R yX12_qTakes cX12_qTakes 6 none d 133 [some (hb_r 12 0 0), some (hb_i x1), some (hb_l l2), none, some (hb_i x4), some (hb_i x5)] [] w Q) ∧ ((¬ (lg_cmp l2 (hb_fL w 12 87 0)) ≤ 0) → hb_R yX12_qTakes cX12_qTakes 6 none d 128 [some (hb_r 12 0 0), some (hb_i x1), some (hb_l l2), none, some (hb_i x4), some (hb_i x5)] [] w Q))))) : hb_R yX12_qTakes cX12_qTakes 6 none d 90 [some (hb_r 12 0 0), some (hb_i x1), some (hb_l l2), none, some (hb_i x4), some (hb_i x5)] [] w Q := by
  refine hb_iload_n (pc := 90) (i := 1) dX12_qTakes_90 rfl rfl ?_
  refine hb_iconst (pc := 91) (v := 3) dX12_qTakes_91 (by decide) ?_
  refine hb_icmp_le (pc := 92) (tgt := 133) dX12_qTakes_92 (by decide) (fun c1 => ?_) (fun c1 => ?_)
  · have ht1 := h.1 c1
    exact ht1
  · have ht1 := h.2 c1
    refine hb_aload_n (pc := 95) (i := 0) dX12_qTakes_95 rfl rfl ?_
    refine hb_getIx (pc := 96) (x := hb_fI w 12 88 0) dX12_qTakes_96 fw_X12_585 cw_12 rfl (by decide) rfl rfl ?_
    refine hb_if_ne (pc := 99) (tgt := 128) dX12_qTakes_99 (by decide) (fun c2 => ?_) (fun c2 => ?_)
    · have ht2 := ht1.1 c2
      exact ht2
    · have ht2 := ht1.2 c2
      refine hb_iload_n (pc := 102) (i := 1) dX12_qTakes_102 rfl rfl ?_
      refine hb_iconst (pc := 103) (v := 4) dX12_qTakes_103 (by decide) ?_
      refine hb_icmp_ne (pc := 104) (tgt := 119) dX12_qTakes_104 (by decide) (fun c3 => ?_) (fun c3 => ?_)
      · have ht3 := ht2.1 c3
        refine hb_lload_n (pc := 119) (i := 2) dX12_qTakes_119 rfl rfl ?_
        refine hb_aload_n (pc := 120) (i := 0) dX12_qTakes_120 rfl rfl ?_
        refine hb_getLx (pc := 121) (x := hb_fL w 12 87 0) dX12_qTakes_121 fw_X12_580 cw_12 rfl (by decide) rfl rfl ?_
        refine hb_lcmp (pc := 124) dX12_qTakes_124 ?_
        refine hb_if_ge (pc := 125) (tgt := 133) dX12_qTakes_125 (by decide) (fun c4 => ?_) (fun c4 => ?_)
        · have ht4 := ht3.1 c4
          exact ht4
        · have ht4 := ht3.2 c4
          exact ht4
      · have ht3 := ht2.2 c3
        refine hb_lload_n (pc := 107) (i := 2) dX12_qTakes_107 rfl rfl ?_
        refine hb_aload_n (pc := 108) (i := 0) dX12_qTakes_108 rfl rfl ?_
        refine hb_getLx (pc := 109) (x := hb_fL w 12 87 0) dX12_qTakes_109 fw_X12_580 cw_12 rfl (by decide) rfl rfl ?_
        refine hb_lcmp (pc := 112) dX12_qTakes_112 ?_
        refine hb_if_le (pc := 113) (tgt := 133) dX12_qTakes_113 (by decide) (fun c5 => ?_) (fun c5 => ?_)
        · have ht5 := ht3.1 c5
          exact ht5
        · have ht5 := ht3.2 c5
          refine hb_goto (pc := 116) (tgt := 128) dX12_qTakes_116 (by decide) ?_
          exact ht5
set_option maxRecDepth 20000 in
theorem bk_X12_qTakes_128 {d : Nat} {w : hb_W} {Q : Option hb_V → hb_W → Prop} {x1 : Int32} {l2 : Int64} {x4 : Int32} {x5 : Int32} (h : hb_R yX12_qTakes cX12_qTakes 6 none d 133 [some (hb_r 12 0 0), some (hb_i x1), some (hb_l l2), none, some (hb_i x4), some (hb_i x5)] [] (hb_pL w 12 87 0 l2) Q) : hb_R yX12_qTakes cX12_qTakes 6 none d 128 [some (hb_r 12 0 0), some (hb_i x1), some (hb_l l2), none, some (hb_i x4), some (hb_i x5)] [] w Q := by
  refine hb_aload_n (pc := 128) (i := 0) dX12_qTakes_128 rfl rfl ?_
  refine hb_lload_n (pc := 129) (i := 2) dX12_qTakes_129 rfl rfl ?_
  refine hb_putL (pc := 130) dX12_qTakes_130 fw_X12_580 cw_12 pw_12_87 rfl (by decide) rfl rfl rfl ?_
  exact h
set_option maxRecDepth 20000 in
theorem bk_X12_qTakes_133 {d : Nat} {w : hb_W} {Q : Option hb_V → hb_W → Prop} {x1 : Int32} {l2 : Int64} {x4 : Int32} {x5 : Int32} (h : Q none (hb_pI w 12 88 0 (0 : Int32))) : hb_R yX12_qTakes cX12_qTakes 6 none d 133 [some (hb_r 12 0 0), some (hb_i x1), some (hb_l l2), none, some (hb_i x4), some (hb_i x5)] [] w Q := by
  refine hb_aload_n (pc := 133) (i := 0) dX12_qTakes_133 rfl rfl ?_
  refine hb_iconst (pc := 134) (v := 0) dX12_qTakes_134 (by decide) ?_
  refine hb_putI (pc := 135) dX12_qTakes_135 fw_X12_585 cw_12 pw_12_88 rfl (by decide) rfl rfl rfl ?_
  exact hb_vret (pc := 138) dX12_qTakes_138 rfl h
theorem dX12_ask_0 : decode cX12_ask 0 = .ok (.aload_n 0, 1) := by decide +kernel
theorem dX12_ask_1 : decode cX12_ask 1 = .ok (.getfield 302, 3) := by decide +kernel
theorem dX12_ask_4 : decode cX12_ask 4 = .ok (.ifCond .ne 12, 3) := by decide +kernel
theorem dX12_ask_7 : decode cX12_ask 7 = .ok (.aload_n 0, 1) := by decide +kernel
theorem dX12_ask_8 : decode cX12_ask 8 = .ok (.iconst 0, 1) := by decide +kernel
theorem dX12_ask_9 : decode cX12_ask 9 = .ok (.putfield 192, 3) := by decide +kernel
theorem dX12_ask_12 : decode cX12_ask 12 = .ok (.ldc2_w 588, 3) := by decide +kernel
theorem dX12_ask_15 : decode cX12_ask 15 = .ok (.lreturn, 1) := by decide +kernel
theorem dX12_ask_16 : decode cX12_ask 16 = .ok (.aload_n 0, 1) := by decide +kernel
theorem dX12_ask_17 : decode cX12_ask 17 = .ok (.aload_n 0, 1) := by decide +kernel
theorem dX12_ask_18 : decode cX12_ask 18 = .ok (.getfield 192, 3) := by decide +kernel
theorem dX12_ask_21 : decode cX12_ask 21 = .ok (.putfield 204, 3) := by decide +kernel
theorem dX12_ask_24 : decode cX12_ask 24 = .ok (.aload_n 0, 1) := by decide +kernel
theorem dX12_ask_25 : decode cX12_ask 25 = .ok (.iconst 0, 1) := by decide +kernel
theorem dX12_ask_26 : decode cX12_ask 26 = .ok (.putfield 192, 3) := by decide +kernel
theorem dX12_ask_29 : decode cX12_ask 29 = .ok (.aload_n 0, 1) := by decide +kernel
theorem dX12_ask_30 : decode cX12_ask 30 = .ok (.iconst 0, 1) := by decide +kernel
theorem dX12_ask_31 : decode cX12_ask 31 = .ok (.putfield 201, 3) := by decide +kernel
theorem dX12_ask_34 : decode cX12_ask 34 = .ok (.aload_n 0, 1) := by decide +kernel
theorem dX12_ask_35 : decode cX12_ask 35 = .ok (.iconst (-1), 1) := by decide +kernel
theorem dX12_ask_36 : decode cX12_ask 36 = .ok (.putfield 215, 3) := by decide +kernel
theorem dX12_ask_39 : decode cX12_ask 39 = .ok (.aload_n 0, 1) := by decide +kernel
theorem dX12_ask_40 : decode cX12_ask 40 = .ok (.iconst 0, 1) := by decide +kernel
theorem dX12_ask_41 : decode cX12_ask 41 = .ok (.putfield 195, 3) := by decide +kernel
theorem dX12_ask_44 : decode cX12_ask 44 = .ok (.aload_n 0, 1) := by decide +kernel
theorem dX12_ask_45 : decode cX12_ask 45 = .ok (.iconst (-1), 1) := by decide +kernel
theorem dX12_ask_46 : decode cX12_ask 46 = .ok (.putfield 198, 3) := by decide +kernel
theorem dX12_ask_49 : decode cX12_ask 49 = .ok (.aload_n 0, 1) := by decide +kernel
theorem dX12_ask_50 : decode cX12_ask 50 = .ok (.iconst 2, 1) := by decide +kernel
theorem dX12_ask_51 : decode cX12_ask 51 = .ok (.putfield 242, 3) := by decide +kernel
theorem dX12_ask_54 : decode cX12_ask 54 = .ok (.aload_n 0, 1) := by decide +kernel
theorem dX12_ask_55 : decode cX12_ask 55 = .ok (.iconst 0, 1) := by decide +kernel
theorem dX12_ask_56 : decode cX12_ask 56 = .ok (.putfield 257, 3) := by decide +kernel
theorem dX12_ask_59 : decode cX12_ask 59 = .ok (.aload_n 0, 1) := by decide +kernel
theorem dX12_ask_60 : decode cX12_ask 60 = .ok (.iconst 0, 1) := by decide +kernel
theorem dX12_ask_61 : decode cX12_ask 61 = .ok (.putfield 260, 3) := by decide +kernel
theorem dX12_ask_64 : decode cX12_ask 64 = .ok (.aload_n 0, 1) := by decide +kernel
theorem dX12_ask_65 : decode cX12_ask 65 = .ok (.iconst 0, 1) := by decide +kernel
theorem dX12_ask_66 : decode cX12_ask 66 = .ok (.putfield 263, 3) := by decide +kernel
theorem dX12_ask_69 : decode cX12_ask 69 = .ok (.aload_n 0, 1) := by decide +kernel
theorem dX12_ask_70 : decode cX12_ask 70 = .ok (.iconst 0, 1) := by decide +kernel
theorem dX12_ask_71 : decode cX12_ask 71 = .ok (.putfield 266, 3) := by decide +kernel
theorem dX12_ask_74 : decode cX12_ask 74 = .ok (.aload_n 0, 1) := by decide +kernel
theorem dX12_ask_75 : decode cX12_ask 75 = .ok (.invokevirtual 590, 3) := by decide +kernel
theorem dX12_ask_78 : decode cX12_ask 78 = .ok (.istore_n 1, 1) := by decide +kernel
theorem dX12_ask_79 : decode cX12_ask 79 = .ok (.aload_n 0, 1) := by decide +kernel
theorem dX12_ask_80 : decode cX12_ask 80 = .ok (.getfield 195, 3) := by decide +kernel
theorem dX12_ask_83 : decode cX12_ask 83 = .ok (.ifCond .ne 15, 3) := by decide +kernel
theorem dX12_ask_86 : decode cX12_ask 86 = .ok (.iload_n 1, 1) := by decide +kernel
theorem dX12_ask_87 : decode cX12_ask 87 = .ok (.iconst 3, 1) := by decide +kernel
theorem dX12_ask_88 : decode cX12_ask 88 = .ok (.if_icmp .ge 10, 3) := by decide +kernel
theorem dX12_ask_91 : decode cX12_ask 91 = .ok (.aload_n 0, 1) := by decide +kernel
theorem dX12_ask_92 : decode cX12_ask 92 = .ok (.invokevirtual 593, 3) := by decide +kernel
theorem dX12_ask_95 : decode cX12_ask 95 = .ok (.goto 14, 3) := by decide +kernel
theorem dX12_ask_98 : decode cX12_ask 98 = .ok (.aload_n 0, 1) := by decide +kernel
theorem dX12_ask_99 : decode cX12_ask 99 = .ok (.getfield 195, 3) := by decide +kernel
theorem dX12_ask_102 : decode cX12_ask 102 = .ok (.ifCond .ne 7, 3) := by decide +kernel
theorem dX12_ask_105 : decode cX12_ask 105 = .ok (.aload_n 0, 1) := by decide +kernel
theorem dX12_ask_106 : decode cX12_ask 106 = .ok (.invokevirtual 269, 3) := by decide +kernel
theorem dX12_ask_109 : decode cX12_ask 109 = .ok (.aload_n 0, 1) := by decide +kernel
theorem dX12_ask_110 : decode cX12_ask 110 = .ok (.getfield 195, 3) := by decide +kernel
theorem dX12_ask_113 : decode cX12_ask 113 = .ok (.ifCond .ne 20, 3) := by decide +kernel
theorem dX12_ask_116 : decode cX12_ask 116 = .ok (.aload_n 0, 1) := by decide +kernel
theorem dX12_ask_117 : decode cX12_ask 117 = .ok (.invokevirtual 207, 3) := by decide +kernel
theorem dX12_ask_120 : decode cX12_ask 120 = .ok (.iconst (-1), 1) := by decide +kernel
theorem dX12_ask_121 : decode cX12_ask 121 = .ok (.if_icmp .eq 12, 3) := by decide +kernel
theorem dX12_ask_124 : decode cX12_ask 124 = .ok (.aload_n 0, 1) := by decide +kernel
theorem dX12_ask_125 : decode cX12_ask 125 = .ok (.iconst 1, 1) := by decide +kernel
theorem dX12_ask_126 : decode cX12_ask 126 = .ok (.aload_n 0, 1) := by decide +kernel
theorem dX12_ask_127 : decode cX12_ask 127 = .ok (.getfield 201, 3) := by decide +kernel
theorem dX12_ask_130 : decode cX12_ask 130 = .ok (.invokevirtual 225, 3) := by decide +kernel
theorem dX12_ask_133 : decode cX12_ask 133 = .ok (.aload_n 0, 1) := by decide +kernel
theorem dX12_ask_134 : decode cX12_ask 134 = .ok (.aload_n 0, 1) := by decide +kernel
theorem dX12_ask_135 : decode cX12_ask 135 = .ok (.getfield 195, 3) := by decide +kernel
theorem dX12_ask_138 : decode cX12_ask 138 = .ok (.putfield 296, 3) := by decide +kernel
theorem dX12_ask_141 : decode cX12_ask 141 = .ok (.aload_n 0, 1) := by decide +kernel
theorem dX12_ask_142 : decode cX12_ask 142 = .ok (.aload_n 0, 1) := by decide +kernel
theorem dX12_ask_143 : decode cX12_ask 143 = .ok (.getfield 198, 3) := by decide +kernel
theorem dX12_ask_146 : decode cX12_ask 146 = .ok (.putfield 13, 3) := by decide +kernel
theorem dX12_ask_149 : decode cX12_ask 149 = .ok (.aload_n 0, 1) := by decide +kernel
theorem dX12_ask_150 : decode cX12_ask 150 = .ok (.getfield 195, 3) := by decide +kernel
theorem dX12_ask_153 : decode cX12_ask 153 = .ok (.ifCond .eq 7, 3) := by decide +kernel
theorem dX12_ask_156 : decode cX12_ask 156 = .ok (.ldc2_w 588, 3) := by decide +kernel
theorem dX12_ask_159 : decode cX12_ask 159 = .ok (.lreturn, 1) := by decide +kernel
theorem dX12_ask_160 : decode cX12_ask 160 = .ok (.aload_n 0, 1) := by decide +kernel
theorem dX12_ask_161 : decode cX12_ask 161 = .ok (.iload_n 1, 1) := by decide +kernel
theorem dX12_ask_162 : decode cX12_ask 162 = .ok (.iconst 2, 1) := by decide +kernel
theorem dX12_ask_163 : decode cX12_ask 163 = .ok (.if_icmp .ge 9, 3) := by decide +kernel
theorem dX12_ask_166 : decode cX12_ask 166 = .ok (.ldc2_w 583, 3) := by decide +kernel
theorem dX12_ask_169 : decode cX12_ask 169 = .ok (.goto 4, 3) := by decide +kernel
theorem dX12_ask_172 : decode cX12_ask 172 = .ok (.lconst 0, 1) := by decide +kernel
theorem dX12_ask_173 : decode cX12_ask 173 = .ok (.putfield 580, 3) := by decide +kernel
theorem dX12_ask_176 : decode cX12_ask 176 = .ok (.aload_n 0, 1) := by decide +kernel
theorem dX12_ask_177 : decode cX12_ask 177 = .ok (.iconst 1, 1) := by decide +kernel
theorem dX12_ask_178 : decode cX12_ask 178 = .ok (.putfield 585, 3) := by decide +kernel
theorem dX12_ask_181 : decode cX12_ask 181 = .ok (.aload_n 0, 1) := by decide +kernel
theorem dX12_ask_182 : decode cX12_ask 182 = .ok (.aload_n 0, 1) := by decide +kernel
theorem dX12_ask_183 : decode cX12_ask 183 = .ok (.getfield 66, 3) := by decide +kernel
theorem dX12_ask_186 : decode cX12_ask 186 = .ok (.iconst 0, 1) := by decide +kernel
theorem dX12_ask_187 : decode cX12_ask 187 = .ok (.iaload, 1) := by decide +kernel
theorem dX12_ask_188 : decode cX12_ask 188 = .ok (.invokevirtual 390, 3) := by decide +kernel
theorem dX12_ask_191 : decode cX12_ask 191 = .ok (.aload_n 0, 1) := by decide +kernel
theorem dX12_ask_192 : decode cX12_ask 192 = .ok (.iconst 2, 1) := by decide +kernel
theorem dX12_ask_193 : decode cX12_ask 193 = .ok (.aload_n 0, 1) := by decide +kernel
theorem dX12_ask_194 : decode cX12_ask 194 = .ok (.getfield 51, 3) := by decide +kernel
theorem dX12_ask_197 : decode cX12_ask 197 = .ok (.iconst 2, 1) := by decide +kernel
theorem dX12_ask_198 : decode cX12_ask 198 = .ok (.iaload, 1) := by decide +kernel
theorem dX12_ask_199 : decode cX12_ask 199 = .ok (.invokevirtual 393, 3) := by decide +kernel
theorem dX12_ask_202 : decode cX12_ask 202 = .ok (.iconst 0, 1) := by decide +kernel
theorem dX12_ask_203 : decode cX12_ask 203 = .ok (.istore_n 2, 1) := by decide +kernel
theorem dX12_ask_204 : decode cX12_ask 204 = .ok (.iload_n 2, 1) := by decide +kernel
theorem dX12_ask_205 : decode cX12_ask 205 = .ok (.bipush 64, 2) := by decide +kernel
theorem dX12_ask_207 : decode cX12_ask 207 = .ok (.if_icmp .ge 20, 3) := by decide +kernel
theorem dX12_ask_210 : decode cX12_ask 210 = .ok (.aload_n 0, 1) := by decide +kernel
theorem dX12_ask_211 : decode cX12_ask 211 = .ok (.getfield 78, 3) := by decide +kernel
theorem dX12_ask_214 : decode cX12_ask 214 = .ok (.iload_n 2, 1) := by decide +kernel
theorem dX12_ask_215 : decode cX12_ask 215 = .ok (.aload_n 0, 1) := by decide +kernel
theorem dX12_ask_216 : decode cX12_ask 216 = .ok (.iload_n 2, 1) := by decide +kernel
theorem dX12_ask_217 : decode cX12_ask 217 = .ok (.invokevirtual 396, 3) := by decide +kernel
theorem dX12_ask_220 : decode cX12_ask 220 = .ok (.iastore, 1) := by decide +kernel
theorem dX12_ask_221 : decode cX12_ask 221 = .ok (.iinc 2 1, 3) := by decide +kernel
theorem dX12_ask_224 : decode cX12_ask 224 = .ok (.goto (-20), 3) := by decide +kernel
theorem dX12_ask_227 : decode cX12_ask 227 = .ok (.aload_n 0, 1) := by decide +kernel
theorem dX12_ask_228 : decode cX12_ask 228 = .ok (.iconst 2, 1) := by decide +kernel
theorem dX12_ask_229 : decode cX12_ask 229 = .ok (.putfield 242, 3) := by decide +kernel
theorem dX12_ask_232 : decode cX12_ask 232 = .ok (.iconst 0, 1) := by decide +kernel
theorem dX12_ask_233 : decode cX12_ask 233 = .ok (.istore_n 2, 1) := by decide +kernel
theorem dX12_ask_234 : decode cX12_ask 234 = .ok (.iload_n 2, 1) := by decide +kernel
theorem dX12_ask_235 : decode cX12_ask 235 = .ok (.bipush 64, 2) := by decide +kernel
theorem dX12_ask_237 : decode cX12_ask 237 = .ok (.if_icmp .ge 29, 3) := by decide +kernel
theorem dX12_ask_240 : decode cX12_ask 240 = .ok (.aload_n 0, 1) := by decide +kernel
theorem dX12_ask_241 : decode cX12_ask 241 = .ok (.getfield 75, 3) := by decide +kernel
theorem dX12_ask_244 : decode cX12_ask 244 = .ok (.iload_n 2, 1) := by decide +kernel
theorem dX12_ask_245 : decode cX12_ask 245 = .ok (.iaload, 1) := by decide +kernel
theorem dX12_ask_246 : decode cX12_ask 246 = .ok (.ifCond .le 14, 3) := by decide +kernel
theorem dX12_ask_249 : decode cX12_ask 249 = .ok (.aload_n 0, 1) := by decide +kernel
theorem dX12_ask_250 : decode cX12_ask 250 = .ok (.iload_n 1, 1) := by decide +kernel
theorem dX12_ask_251 : decode cX12_ask 251 = .ok (.aload_n 0, 1) := by decide +kernel
theorem dX12_ask_252 : decode cX12_ask 252 = .ok (.iload_n 2, 1) := by decide +kernel
theorem dX12_ask_253 : decode cX12_ask 253 = .ok (.invokevirtual 596, 3) := by decide +kernel
theorem dX12_ask_256 : decode cX12_ask 256 = .ok (.iload_n 2, 1) := by decide +kernel
theorem dX12_ask_257 : decode cX12_ask 257 = .ok (.invokevirtual 599, 3) := by decide +kernel
theorem dX12_ask_260 : decode cX12_ask 260 = .ok (.iinc 2 1, 3) := by decide +kernel
theorem dX12_ask_263 : decode cX12_ask 263 = .ok (.goto (-29), 3) := by decide +kernel
theorem dX12_ask_266 : decode cX12_ask 266 = .ok (.aload_n 0, 1) := by decide +kernel
theorem dX12_ask_267 : decode cX12_ask 267 = .ok (.getfield 580, 3) := by decide +kernel
theorem dX12_ask_270 : decode cX12_ask 270 = .ok (.lreturn, 1) := by decide +kernel
set_option maxRecDepth 20000 in
theorem bk_X12_ask_0 {d : Nat} {w : hb_W} {Q : Option hb_V → hb_W → Prop} (h : ((¬ (hb_fI w 12 30 0) = 0) → hb_O yX12_qKind cX12_qKind 2 (some .int) d [hb_r 12 0 0] (hb_pI (hb_pI (hb_pI (hb_pI (hb_pI (hb_pI (hb_pI (hb_pI (hb_pI (hb_pI (hb_pI w 12 3 0 (hb_fI w 12 1 0)) 12 1 0 (0 : Int32)) 12 2 0 (0 : Int32)) 12 4 0 (-1 : Int32)) 12 5 0 (0 : Int32)) 12 6 0 (-1 : Int32)) 12 31 0 (2 : Int32)) 12 80 0 (0 : Int32)) 12 82 0 (0 : Int32)) 12 83 0 (0 : Int32)) 12 84 0 (0 : Int32)) (fun rv w1 => hb_R yX12_ask cX12_ask 3 (some .long) (d + 1) 78 [some (hb_r 12 0 0), none, none] (rv.toList ++ []) w1 Q)) ∧ (((hb_fI w 12 30 0) = 0) → Q (some (hb_l (-1000000000000000 : Int64))) (hb_pI w 12 1 0 (0 : Int32)))) : hb_R yX12_ask cX12_ask 3 (some .long) (d + 1) 0 [some (hb_r 12 0 0), none, none] [] w Q := by
  refine hb_aload_n (pc := 0) (i := 0) dX12_ask_0 rfl rfl ?_
  refine hb_getIx (pc := 1) (x := hb_fI w 12 30 0) dX12_ask_1 fw_X12_302 cw_12 rfl (by decide) rfl rfl ?_
  refine hb_if_ne (pc := 4) (tgt := 16) dX12_ask_4 (by decide) (fun c1 => ?_) (fun c1 => ?_)
  · have ht1 := h.1 c1
    refine hb_aload_n (pc := 16) (i := 0) dX12_ask_16 rfl rfl ?_
    refine hb_aload_n (pc := 17) (i := 0) dX12_ask_17 rfl rfl ?_
    refine hb_getIx (pc := 18) (x := hb_fI w 12 1 0) dX12_ask_18 fw_X12_192 cw_12 rfl (by decide) rfl rfl ?_
    refine hb_putI (pc := 21) dX12_ask_21 fw_X12_204 cw_12 pw_12_3 rfl (by decide) rfl rfl rfl ?_
    refine hb_aload_n (pc := 24) (i := 0) dX12_ask_24 rfl rfl ?_
    refine hb_iconst (pc := 25) (v := 0) dX12_ask_25 (by decide) ?_
    refine hb_putI (pc := 26) dX12_ask_26 fw_X12_192 cw_12 pw_12_1 rfl (by decide) rfl rfl rfl ?_
    refine hb_aload_n (pc := 29) (i := 0) dX12_ask_29 rfl rfl ?_
    refine hb_iconst (pc := 30) (v := 0) dX12_ask_30 (by decide) ?_
    refine hb_putI (pc := 31) dX12_ask_31 fw_X12_201 cw_12 pw_12_2 rfl (by decide) rfl rfl rfl ?_
    refine hb_aload_n (pc := 34) (i := 0) dX12_ask_34 rfl rfl ?_
    refine hb_iconst (pc := 35) (v := -1) dX12_ask_35 (by decide) ?_
    refine hb_putI (pc := 36) dX12_ask_36 fw_X12_215 cw_12 pw_12_4 rfl (by decide) rfl rfl rfl ?_
    refine hb_aload_n (pc := 39) (i := 0) dX12_ask_39 rfl rfl ?_
    refine hb_iconst (pc := 40) (v := 0) dX12_ask_40 (by decide) ?_
    refine hb_putI (pc := 41) dX12_ask_41 fw_X12_195 cw_12 pw_12_5 rfl (by decide) rfl rfl rfl ?_
    refine hb_aload_n (pc := 44) (i := 0) dX12_ask_44 rfl rfl ?_
    refine hb_iconst (pc := 45) (v := -1) dX12_ask_45 (by decide) ?_
    refine hb_putI (pc := 46) dX12_ask_46 fw_X12_198 cw_12 pw_12_6 rfl (by decide) rfl rfl rfl ?_
    refine hb_aload_n (pc := 49) (i := 0) dX12_ask_49 rfl rfl ?_
    refine hb_iconst (pc := 50) (v := 2) dX12_ask_50 (by decide) ?_
    refine hb_putI (pc := 51) dX12_ask_51 fw_X12_242 cw_12 pw_12_31 rfl (by decide) rfl rfl rfl ?_
    refine hb_aload_n (pc := 54) (i := 0) dX12_ask_54 rfl rfl ?_
    refine hb_iconst (pc := 55) (v := 0) dX12_ask_55 (by decide) ?_
    refine hb_putI (pc := 56) dX12_ask_56 fw_X12_257 cw_12 pw_12_80 rfl (by decide) rfl rfl rfl ?_
    refine hb_aload_n (pc := 59) (i := 0) dX12_ask_59 rfl rfl ?_
    refine hb_iconst (pc := 60) (v := 0) dX12_ask_60 (by decide) ?_
    refine hb_putI (pc := 61) dX12_ask_61 fw_X12_260 cw_12 pw_12_82 rfl (by decide) rfl rfl rfl ?_
    refine hb_aload_n (pc := 64) (i := 0) dX12_ask_64 rfl rfl ?_
    refine hb_iconst (pc := 65) (v := 0) dX12_ask_65 (by decide) ?_
    refine hb_putI (pc := 66) dX12_ask_66 fw_X12_263 cw_12 pw_12_83 rfl (by decide) rfl rfl rfl ?_
    refine hb_aload_n (pc := 69) (i := 0) dX12_ask_69 rfl rfl ?_
    refine hb_iconst (pc := 70) (v := 0) dX12_ask_70 (by decide) ?_
    refine hb_putI (pc := 71) dX12_ask_71 fw_X12_266 cw_12 pw_12_84 rfl (by decide) rfl rfl rfl ?_
    refine hb_aload_n (pc := 74) (i := 0) dX12_ask_74 rfl rfl ?_
    exact hb_callV (pc := 75) (As := []) (st := []) dX12_ask_75 ml_X12_590 mf_X12_qKind mi_X12_qKind (ci := 12) rfl rfl (by decide) rfl rfl (Nat.le_of_ble_eq_true rfl) (Nat.le_of_ble_eq_true rfl) ht1 (fun _ _ q => q)
  · have ht1 := h.2 c1
    refine hb_aload_n (pc := 7) (i := 0) dX12_ask_7 rfl rfl ?_
    refine hb_iconst (pc := 8) (v := 0) dX12_ask_8 (by decide) ?_
    refine hb_putI (pc := 9) dX12_ask_9 fw_X12_192 cw_12 pw_12_1 rfl (by decide) rfl rfl rfl ?_
    refine hb_ldc2 (pc := 12) (v := -1000000000000000) dX12_ask_12 kc_X12_588 ?_
    exact hb_lret (pc := 15) dX12_ask_15 rfl ht1
set_option maxRecDepth 20000 in
theorem bk_X12_ask_78 {d : Nat} {w : hb_W} {Q : Option hb_V → hb_W → Prop} {xs0 : Int32} (h : ((¬ (hb_fI w 12 5 0) = 0) → ((¬ (hb_fI w 12 5 0) = 0) → hb_R yX12_ask cX12_ask 3 (some .long) (d + 1) 109 [some (hb_r 12 0 0), some (hb_i xs0), none] [] w Q) ∧ (((hb_fI w 12 5 0) = 0) → hb_O yX12_qSums cX12_qSums 3 none d [hb_r 12 0 0] w (fun rv w1 => hb_R yX12_ask cX12_ask 3 (some .long) (d + 1) 109 [some (hb_r 12 0 0), some (hb_i xs0), none] (rv.toList ++ []) w1 Q))) ∧ (((hb_fI w 12 5 0) = 0) → (((3 : Int32) ≤ xs0) → ((¬ (hb_fI w 12 5 0) = 0) → hb_R yX12_ask cX12_ask 3 (some .long) (d + 1) 109 [some (hb_r 12 0 0), some (hb_i xs0), none] [] w Q) ∧ (((hb_fI w 12 5 0) = 0) → hb_O yX12_qSums cX12_qSums 3 none d [hb_r 12 0 0] w (fun rv w1 => hb_R yX12_ask cX12_ask 3 (some .long) (d + 1) 109 [some (hb_r 12 0 0), some (hb_i xs0), none] (rv.toList ++ []) w1 Q))) ∧ ((¬ (3 : Int32) ≤ xs0) → hb_O yX12_qTest cX12_qTest 3 none d [hb_r 12 0 0] w (fun rv w1 => hb_R yX12_ask cX12_ask 3 (some .long) (d + 1) 95 [some (hb_r 12 0 0), some (hb_i xs0), none] (rv.toList ++ []) w1 Q)))) : hb_R yX12_ask cX12_ask 3 (some .long) (d + 1) 78 [some (hb_r 12 0 0), none, none] [hb_i xs0] w Q := by
  refine hb_istore_n (pc := 78) (i := 1) (ls1 := [some (hb_r 12 0 0), some (hb_i xs0), none]) dX12_ask_78 rfl (by decide) rfl ?_
  refine hb_aload_n (pc := 79) (i := 0) dX12_ask_79 rfl rfl ?_
  refine hb_getIx (pc := 80) (x := hb_fI w 12 5 0) dX12_ask_80 fw_X12_195 cw_12 rfl (by decide) rfl rfl ?_
  refine hb_if_ne (pc := 83) (tgt := 98) dX12_ask_83 (by decide) (fun c1 => ?_) (fun c1 => ?_)
  · have ht1 := h.1 c1
    refine hb_aload_n (pc := 98) (i := 0) dX12_ask_98 rfl rfl ?_
    refine hb_getIx (pc := 99) (x := hb_fI w 12 5 0) dX12_ask_99 fw_X12_195 cw_12 rfl (by decide) rfl rfl ?_
    refine hb_if_ne (pc := 102) (tgt := 109) dX12_ask_102 (by decide) (fun c2 => ?_) (fun c2 => ?_)
    · have ht2 := ht1.1 c2
      exact ht2
    · have ht2 := ht1.2 c2
      refine hb_aload_n (pc := 105) (i := 0) dX12_ask_105 rfl rfl ?_
      exact hb_callV (pc := 106) (As := []) (st := []) dX12_ask_106 ml_X12_269 mf_X12_qSums mi_X12_qSums (ci := 12) rfl rfl (by decide) rfl rfl (Nat.le_of_ble_eq_true rfl) (Nat.le_of_ble_eq_true rfl) ht2 (fun _ _ q => q)
  · have ht1 := h.2 c1
    refine hb_iload_n (pc := 86) (i := 1) dX12_ask_86 rfl rfl ?_
    refine hb_iconst (pc := 87) (v := 3) dX12_ask_87 (by decide) ?_
    refine hb_icmp_ge (pc := 88) (tgt := 98) dX12_ask_88 (by decide) (fun c3 => ?_) (fun c3 => ?_)
    · have ht3 := ht1.1 c3
      refine hb_aload_n (pc := 98) (i := 0) dX12_ask_98 rfl rfl ?_
      refine hb_getIx (pc := 99) (x := hb_fI w 12 5 0) dX12_ask_99 fw_X12_195 cw_12 rfl (by decide) rfl rfl ?_
      refine hb_if_ne (pc := 102) (tgt := 109) dX12_ask_102 (by decide) (fun c4 => ?_) (fun c4 => ?_)
      · have ht4 := ht3.1 c4
        exact ht4
      · have ht4 := ht3.2 c4
        refine hb_aload_n (pc := 105) (i := 0) dX12_ask_105 rfl rfl ?_
        exact hb_callV (pc := 106) (As := []) (st := []) dX12_ask_106 ml_X12_269 mf_X12_qSums mi_X12_qSums (ci := 12) rfl rfl (by decide) rfl rfl (Nat.le_of_ble_eq_true rfl) (Nat.le_of_ble_eq_true rfl) ht4 (fun _ _ q => q)
    · have ht3 := ht1.2 c3
      refine hb_aload_n (pc := 91) (i := 0) dX12_ask_91 rfl rfl ?_
      exact hb_callV (pc := 92) (As := []) (st := []) dX12_ask_92 ml_X12_593 mf_X12_qTest mi_X12_qTest (ci := 12) rfl rfl (by decide) rfl rfl (Nat.le_of_ble_eq_true rfl) (Nat.le_of_ble_eq_true rfl) ht3 (fun _ _ q => q)
set_option maxRecDepth 20000 in
theorem bk_X12_ask_95 {d : Nat} {w : hb_W} {Q : Option hb_V → hb_W → Prop} {x1 : Int32} (h : hb_R yX12_ask cX12_ask 3 (some .long) (d + 1) 109 [some (hb_r 12 0 0), some (hb_i x1), none] [] w Q) : hb_R yX12_ask cX12_ask 3 (some .long) (d + 1) 95 [some (hb_r 12 0 0), some (hb_i x1), none] [] w Q := by
  refine hb_goto (pc := 95) (tgt := 109) dX12_ask_95 (by decide) ?_
  exact h
set_option maxRecDepth 20000 in
theorem bk_X12_ask_109 {d : Nat} {w : hb_W} {Q : Option hb_V → hb_W → Prop} {x1 : Int32} (h : ((¬ (hb_fI w 12 5 0) = 0) → hb_R yX12_ask cX12_ask 3 (some .long) (d + 1) 133 [some (hb_r 12 0 0), some (hb_i x1), none] [] w Q) ∧ (((hb_fI w 12 5 0) = 0) → hb_O yX12_look cX12_look 1 (some .int) d [hb_r 12 0 0] w (fun rv w1 => hb_R yX12_ask cX12_ask 3 (some .long) (d + 1) 120 [some (hb_r 12 0 0), some (hb_i x1), none] (rv.toList ++ []) w1 Q))) : hb_R yX12_ask cX12_ask 3 (some .long) (d + 1) 109 [some (hb_r 12 0 0), some (hb_i x1), none] [] w Q := by
  refine hb_aload_n (pc := 109) (i := 0) dX12_ask_109 rfl rfl ?_
  refine hb_getIx (pc := 110) (x := hb_fI w 12 5 0) dX12_ask_110 fw_X12_195 cw_12 rfl (by decide) rfl rfl ?_
  refine hb_if_ne (pc := 113) (tgt := 133) dX12_ask_113 (by decide) (fun c1 => ?_) (fun c1 => ?_)
  · have ht1 := h.1 c1
    exact ht1
  · have ht1 := h.2 c1
    refine hb_aload_n (pc := 116) (i := 0) dX12_ask_116 rfl rfl ?_
    exact hb_callV (pc := 117) (As := []) (st := []) dX12_ask_117 ml_X12_207 mf_X12_look mi_X12_look (ci := 12) rfl rfl (by decide) rfl rfl (Nat.le_of_ble_eq_true rfl) (Nat.le_of_ble_eq_true rfl) ht1 (fun _ _ q => q)
set_option maxRecDepth 20000 in
theorem bk_X12_ask_120 {d : Nat} {w : hb_W} {Q : Option hb_V → hb_W → Prop} {x1 : Int32} {xs0 : Int32} (h : ((xs0 = (-1 : Int32)) → hb_R yX12_ask cX12_ask 3 (some .long) (d + 1) 133 [some (hb_r 12 0 0), some (hb_i x1), none] [] w Q) ∧ ((¬ xs0 = (-1 : Int32)) → hb_O yX12_fail cX12_fail 3 none d [hb_r 12 0 0, hb_i (1 : Int32), hb_i (hb_fI w 12 2 0)] w (fun rv w1 => hb_R yX12_ask cX12_ask 3 (some .long) (d + 1) 133 [some (hb_r 12 0 0), some (hb_i x1), none] (rv.toList ++ []) w1 Q))) : hb_R yX12_ask cX12_ask 3 (some .long) (d + 1) 120 [some (hb_r 12 0 0), some (hb_i x1), none] [hb_i xs0] w Q := by
  refine hb_iconst (pc := 120) (v := -1) dX12_ask_120 (by decide) ?_
  refine hb_icmp_eq (pc := 121) (tgt := 133) dX12_ask_121 (by decide) (fun c1 => ?_) (fun c1 => ?_)
  · have ht1 := h.1 c1
    exact ht1
  · have ht1 := h.2 c1
    refine hb_aload_n (pc := 124) (i := 0) dX12_ask_124 rfl rfl ?_
    refine hb_iconst (pc := 125) (v := 1) dX12_ask_125 (by decide) ?_
    refine hb_aload_n (pc := 126) (i := 0) dX12_ask_126 rfl rfl ?_
    refine hb_getIx (pc := 127) (x := hb_fI w 12 2 0) dX12_ask_127 fw_X12_201 cw_12 rfl (by decide) rfl rfl ?_
    exact hb_callV (pc := 130) (As := [hb_i (1 : Int32), hb_i (hb_fI w 12 2 0)]) (st := []) dX12_ask_130 ml_X12_225 mf_X12_fail mi_X12_fail (ci := 12) rfl rfl (by decide) rfl rfl (Nat.le_of_ble_eq_true rfl) (Nat.le_of_ble_eq_true rfl) ht1 (fun _ _ q => q)
set_option maxRecDepth 20000 in
theorem bk_X12_ask_133 {d : Nat} {w : hb_W} {Q : Option hb_V → hb_W → Prop} {x1 : Int32} (h : (((hb_fI w 12 5 0) = 0) → (((2 : Int32) ≤ x1) → hb_O yX12_laysMarks cX12_laysMarks 4 none d [hb_r 12 0 0, hb_i (hb_aI w 12 18 0 (0 : Int32).toNatClampNeg)] (hb_pI (hb_pL (hb_pI (hb_pI w 12 7 0 (hb_fI w 12 5 0)) 12 8 0 (hb_fI w 12 6 0)) 12 87 0 (0 : Int64)) 12 88 0 (1 : Int32)) (fun rv w1 => hb_R yX12_ask cX12_ask 3 (some .long) (d + 1) 191 [some (hb_r 12 0 0), some (hb_i x1), none] (rv.toList ++ []) w1 Q)) ∧ ((¬ (2 : Int32) ≤ x1) → hb_O yX12_laysMarks cX12_laysMarks 4 none d [hb_r 12 0 0, hb_i (hb_aI w 12 18 0 (0 : Int32).toNatClampNeg)] (hb_pI (hb_pL (hb_pI (hb_pI w 12 7 0 (hb_fI w 12 5 0)) 12 8 0 (hb_fI w 12 6 0)) 12 87 0 (-1 : Int64)) 12 88 0 (1 : Int32)) (fun rv w1 => hb_R yX12_ask cX12_ask 3 (some .long) (d + 1) 191 [some (hb_r 12 0 0), some (hb_i x1), none] (rv.toList ++ []) w1 Q))) ∧ ((¬ (hb_fI w 12 5 0) = 0) → Q (some (hb_l (-1000000000000000 : Int64))) (hb_pI (hb_pI w 12 7 0 (hb_fI w 12 5 0)) 12 8 0 (hb_fI w 12 6 0)))) : hb_R yX12_ask cX12_ask 3 (some .long) (d + 1) 133 [some (hb_r 12 0 0), some (hb_i x1), none] [] w Q := by
  refine hb_aload_n (pc := 133) (i := 0) dX12_ask_133 rfl rfl ?_
  refine hb_aload_n (pc := 134) (i := 0) dX12_ask_134 rfl rfl ?_
  refine hb_getIx (pc := 135) (x := hb_fI w 12 5 0) dX12_ask_135 fw_X12_195 cw_12 rfl (by decide) rfl rfl ?_
  refine hb_putI (pc := 138) dX12_ask_138 fw_X12_296 cw_12 pw_12_7 rfl (by decide) rfl rfl rfl ?_
  refine hb_aload_n (pc := 141) (i := 0) dX12_ask_141 rfl rfl ?_
  refine hb_aload_n (pc := 142) (i := 0) dX12_ask_142 rfl rfl ?_
  refine hb_getIx (pc := 143) (x := hb_fI w 12 6 0) dX12_ask_143 fw_X12_198 cw_12 rfl (by decide) rfl rfl ?_
  refine hb_putI (pc := 146) dX12_ask_146 fw_X12_13 cw_12 pw_12_8 rfl (by decide) rfl rfl rfl ?_
  refine hb_aload_n (pc := 149) (i := 0) dX12_ask_149 rfl rfl ?_
  refine hb_getIx (pc := 150) (x := hb_fI w 12 5 0) dX12_ask_150 fw_X12_195 cw_12 rfl (by decide) rfl rfl ?_
  refine hb_if_eq (pc := 153) (tgt := 160) dX12_ask_153 (by decide) (fun c1 => ?_) (fun c1 => ?_)
  · have ht1 := h.1 c1
    refine hb_aload_n (pc := 160) (i := 0) dX12_ask_160 rfl rfl ?_
    refine hb_iload_n (pc := 161) (i := 1) dX12_ask_161 rfl rfl ?_
    refine hb_iconst (pc := 162) (v := 2) dX12_ask_162 (by decide) ?_
    refine hb_icmp_ge (pc := 163) (tgt := 172) dX12_ask_163 (by decide) (fun c2 => ?_) (fun c2 => ?_)
    · have ht2 := ht1.1 c2
      refine hb_lconst (pc := 172) (v := 0) dX12_ask_172 (by decide) ?_
      refine hb_putL (pc := 173) dX12_ask_173 fw_X12_580 cw_12 pw_12_87 rfl (by decide) rfl rfl rfl ?_
      refine hb_aload_n (pc := 176) (i := 0) dX12_ask_176 rfl rfl ?_
      refine hb_iconst (pc := 177) (v := 1) dX12_ask_177 (by decide) ?_
      refine hb_putI (pc := 178) dX12_ask_178 fw_X12_585 cw_12 pw_12_88 rfl (by decide) rfl rfl rfl ?_
      refine hb_aload_n (pc := 181) (i := 0) dX12_ask_181 rfl rfl ?_
      refine hb_aload_n (pc := 182) (i := 0) dX12_ask_182 rfl rfl ?_
      refine hb_getR (pc := 183) (g1 := 0) dX12_ask_183 fw_X12_66 cw_12 rfl (by decide) rfl (by decide) rfl ?_
      refine hb_iconst (pc := 186) (v := 0) dX12_ask_186 (by decide) ?_
      refine hb_ialdx (pc := 187) (x := hb_aI w 12 18 0 (0 : Int32).toNatClampNeg) dX12_ask_187 (n := 11) rfl (by decide) (by unfold vp_in; decide) rfl ?_
      exact hb_callV (pc := 188) (As := [hb_i (hb_aI w 12 18 0 (0 : Int32).toNatClampNeg)]) (st := []) dX12_ask_188 ml_X12_390 mf_X12_laysMarks mi_X12_laysMarks (ci := 12) rfl rfl (by decide) rfl rfl (Nat.le_of_ble_eq_true rfl) (Nat.le_of_ble_eq_true rfl) ht2 (fun _ _ q => q)
    · have ht2 := ht1.2 c2
      refine hb_ldc2 (pc := 166) (v := -1) dX12_ask_166 kc_X12_583 ?_
      refine hb_goto (pc := 169) (tgt := 173) dX12_ask_169 (by decide) ?_
      refine hb_putL (pc := 173) dX12_ask_173 fw_X12_580 cw_12 pw_12_87 rfl (by decide) rfl rfl rfl ?_
      refine hb_aload_n (pc := 176) (i := 0) dX12_ask_176 rfl rfl ?_
      refine hb_iconst (pc := 177) (v := 1) dX12_ask_177 (by decide) ?_
      refine hb_putI (pc := 178) dX12_ask_178 fw_X12_585 cw_12 pw_12_88 rfl (by decide) rfl rfl rfl ?_
      refine hb_aload_n (pc := 181) (i := 0) dX12_ask_181 rfl rfl ?_
      refine hb_aload_n (pc := 182) (i := 0) dX12_ask_182 rfl rfl ?_
      refine hb_getR (pc := 183) (g1 := 0) dX12_ask_183 fw_X12_66 cw_12 rfl (by decide) rfl (by decide) rfl ?_
      refine hb_iconst (pc := 186) (v := 0) dX12_ask_186 (by decide) ?_
      refine hb_ialdx (pc := 187) (x := hb_aI w 12 18 0 (0 : Int32).toNatClampNeg) dX12_ask_187 (n := 11) rfl (by decide) (by unfold vp_in; decide) rfl ?_
      exact hb_callV (pc := 188) (As := [hb_i (hb_aI w 12 18 0 (0 : Int32).toNatClampNeg)]) (st := []) dX12_ask_188 ml_X12_390 mf_X12_laysMarks mi_X12_laysMarks (ci := 12) rfl rfl (by decide) rfl rfl (Nat.le_of_ble_eq_true rfl) (Nat.le_of_ble_eq_true rfl) ht2 (fun _ _ q => q)
  · have ht1 := h.2 c1
    refine hb_ldc2 (pc := 156) (v := -1000000000000000) dX12_ask_156 kc_X12_588 ?_
    exact hb_lret (pc := 159) dX12_ask_159 rfl ht1
set_option maxRecDepth 20000 in
theorem bk_X12_ask_191 {d : Nat} {w : hb_W} {Q : Option hb_V → hb_W → Prop} {x1 : Int32} (h : hb_O yX12_laysBook cX12_laysBook 4 none d [hb_r 12 0 0, hb_i (2 : Int32), hb_i (hb_aI w 12 13 0 (2 : Int32).toNatClampNeg)] w (fun rv w1 => hb_R yX12_ask cX12_ask 3 (some .long) (d + 1) 202 [some (hb_r 12 0 0), some (hb_i x1), none] (rv.toList ++ []) w1 Q)) : hb_R yX12_ask cX12_ask 3 (some .long) (d + 1) 191 [some (hb_r 12 0 0), some (hb_i x1), none] [] w Q := by
  refine hb_aload_n (pc := 191) (i := 0) dX12_ask_191 rfl rfl ?_
  refine hb_iconst (pc := 192) (v := 2) dX12_ask_192 (by decide) ?_
  refine hb_aload_n (pc := 193) (i := 0) dX12_ask_193 rfl rfl ?_
  refine hb_getR (pc := 194) (g1 := 0) dX12_ask_194 fw_X12_51 cw_12 rfl (by decide) rfl (by decide) rfl ?_
  refine hb_iconst (pc := 197) (v := 2) dX12_ask_197 (by decide) ?_
  refine hb_ialdx (pc := 198) (x := hb_aI w 12 13 0 (2 : Int32).toNatClampNeg) dX12_ask_198 (n := 6) rfl (by decide) (by unfold vp_in; decide) rfl ?_
  exact hb_callV (pc := 199) (As := [hb_i (2 : Int32), hb_i (hb_aI w 12 13 0 (2 : Int32).toNatClampNeg)]) (st := []) dX12_ask_199 ml_X12_393 mf_X12_laysBook mi_X12_laysBook (ci := 12) rfl rfl (by decide) rfl rfl (Nat.le_of_ble_eq_true rfl) (Nat.le_of_ble_eq_true rfl) h (fun _ _ q => q)
set_option maxRecDepth 20000 in
theorem bk_X12_ask_202 {d : Nat} {w : hb_W} {Q : Option hb_V → hb_W → Prop} {x1 : Int32} (h : hb_R yX12_ask cX12_ask 3 (some .long) (d + 1) 204 [some (hb_r 12 0 0), some (hb_i x1), some (hb_i (0 : Int32))] [] w Q) : hb_R yX12_ask cX12_ask 3 (some .long) (d + 1) 202 [some (hb_r 12 0 0), some (hb_i x1), none] [] w Q := by
  refine hb_iconst (pc := 202) (v := 0) dX12_ask_202 (by decide) ?_
  refine hb_istore_n (pc := 203) (i := 2) (ls1 := [some (hb_r 12 0 0), some (hb_i x1), some (hb_i (0 : Int32))]) dX12_ask_203 rfl (by decide) rfl ?_
  exact h
set_option maxRecDepth 20000 in
theorem bk_X12_ask_204 {d : Nat} {w : hb_W} {Q : Option hb_V → hb_W → Prop} {x1 : Int32} {x2 : Int32} (h : (((64 : Int32) ≤ x2) → hb_R yX12_ask cX12_ask 3 (some .long) (d + 1) 234 [some (hb_r 12 0 0), some (hb_i x1), some (hb_i (0 : Int32))] [] (hb_pI w 12 31 0 (2 : Int32)) Q) ∧ ((¬ (64 : Int32) ≤ x2) → hb_O yX12_toldOf cX12_toldOf 5 (some .int) d [hb_r 12 0 0, hb_i x2] w (fun rv w1 => hb_R yX12_ask cX12_ask 3 (some .long) (d + 1) 220 [some (hb_r 12 0 0), some (hb_i x1), some (hb_i x2)] (rv.toList ++ [hb_i x2, hb_r 12 0 22]) w1 Q))) : hb_R yX12_ask cX12_ask 3 (some .long) (d + 1) 204 [some (hb_r 12 0 0), some (hb_i x1), some (hb_i x2)] [] w Q := by
  refine hb_iload_n (pc := 204) (i := 2) dX12_ask_204 rfl rfl ?_
  refine hb_bipush (pc := 205) (v := 64) dX12_ask_205 (by decide) ?_
  refine hb_icmp_ge (pc := 207) (tgt := 227) dX12_ask_207 (by decide) (fun c1 => ?_) (fun c1 => ?_)
  · have ht1 := h.1 c1
    refine hb_aload_n (pc := 227) (i := 0) dX12_ask_227 rfl rfl ?_
    refine hb_iconst (pc := 228) (v := 2) dX12_ask_228 (by decide) ?_
    refine hb_putI (pc := 229) dX12_ask_229 fw_X12_242 cw_12 pw_12_31 rfl (by decide) rfl rfl rfl ?_
    refine hb_iconst (pc := 232) (v := 0) dX12_ask_232 (by decide) ?_
    refine hb_istore_n (pc := 233) (i := 2) (ls1 := [some (hb_r 12 0 0), some (hb_i x1), some (hb_i (0 : Int32))]) dX12_ask_233 rfl (by decide) rfl ?_
    exact ht1
  · have ht1 := h.2 c1
    refine hb_aload_n (pc := 210) (i := 0) dX12_ask_210 rfl rfl ?_
    refine hb_getR (pc := 211) (g1 := 0) dX12_ask_211 fw_X12_78 cw_12 rfl (by decide) rfl (by decide) rfl ?_
    refine hb_iload_n (pc := 214) (i := 2) dX12_ask_214 rfl rfl ?_
    refine hb_aload_n (pc := 215) (i := 0) dX12_ask_215 rfl rfl ?_
    refine hb_iload_n (pc := 216) (i := 2) dX12_ask_216 rfl rfl ?_
    exact hb_callV (pc := 217) (As := [hb_i x2]) (st := [hb_i x2, hb_r 12 0 22]) dX12_ask_217 ml_X12_396 mf_X12_toldOf mi_X12_toldOf (ci := 12) rfl rfl (by decide) rfl rfl (Nat.le_of_ble_eq_true rfl) (Nat.le_of_ble_eq_true rfl) ht1 (fun _ _ q => q)
set_option maxRecDepth 20000 in
theorem bk_X12_ask_220 {d : Nat} {w : hb_W} {Q : Option hb_V → hb_W → Prop} {x1 : Int32} {x2 : Int32} {xs1 : Int32} {xs2 : Int32} (h : vp_in xs1 64 ∧ (hb_R yX12_ask cX12_ask 3 (some .long) (d + 1) 204 [some (hb_r 12 0 0), some (hb_i x1), some (hb_i (x2 + (1 : Int32)))] [] (hb_sI w 12 22 0 (upd (hb_aI w 12 22 0) xs1.toNatClampNeg xs2)) Q)) : hb_R yX12_ask cX12_ask 3 (some .long) (d + 1) 220 [some (hb_r 12 0 0), some (hb_i x1), some (hb_i x2)] [hb_i xs2, hb_i xs1, hb_r 12 0 22] w Q := by
  obtain ⟨ho1, hr1⟩ := h
  refine hb_iastx (pc := 220) (f := upd (hb_aI w 12 22 0) xs1.toNatClampNeg xs2) dX12_ask_220 rfl (by decide) ho1 rfl ?_
  refine hb_iinc (pc := 221) (v := x2 + (1 : Int32)) (ls1 := [some (hb_r 12 0 0), some (hb_i x1), some (hb_i (x2 + (1 : Int32)))]) dX12_ask_221 rfl rfl (by decide) rfl ?_
  refine hb_goto (pc := 224) (tgt := 204) dX12_ask_224 (by decide) ?_
  exact hr1
set_option maxRecDepth 20000 in
theorem bk_X12_ask_234 {d : Nat} {w : hb_W} {Q : Option hb_V → hb_W → Prop} {x1 : Int32} {x2 : Int32} (h : (((64 : Int32) ≤ x2) → Q (some (hb_l (hb_fL w 12 87 0))) w) ∧ ((¬ (64 : Int32) ≤ x2) → vp_in x2 64 ∧ ((((hb_aI w 12 21 0 x2.toNatClampNeg) ≤ 0) → hb_R yX12_ask cX12_ask 3 (some .long) (d + 1) 260 [some (hb_r 12 0 0), some (hb_i x1), some (hb_i x2)] [] w Q) ∧ ((¬ (hb_aI w 12 21 0 x2.toNatClampNeg) ≤ 0) → hb_O yX12_qTold cX12_qTold 4 (some .long) d [hb_r 12 0 0, hb_i x2] w (fun rv w1 => hb_R yX12_ask cX12_ask 3 (some .long) (d + 1) 256 [some (hb_r 12 0 0), some (hb_i x1), some (hb_i x2)] (rv.toList ++ [hb_i x1, hb_r 12 0 0]) w1 Q))))) : hb_R yX12_ask cX12_ask 3 (some .long) (d + 1) 234 [some (hb_r 12 0 0), some (hb_i x1), some (hb_i x2)] [] w Q := by
  refine hb_iload_n (pc := 234) (i := 2) dX12_ask_234 rfl rfl ?_
  refine hb_bipush (pc := 235) (v := 64) dX12_ask_235 (by decide) ?_
  refine hb_icmp_ge (pc := 237) (tgt := 266) dX12_ask_237 (by decide) (fun c1 => ?_) (fun c1 => ?_)
  · have ht1 := h.1 c1
    refine hb_aload_n (pc := 266) (i := 0) dX12_ask_266 rfl rfl ?_
    refine hb_getLx (pc := 267) (x := hb_fL w 12 87 0) dX12_ask_267 fw_X12_580 cw_12 rfl (by decide) rfl rfl ?_
    exact hb_lret (pc := 270) dX12_ask_270 rfl ht1
  · have ht1 := h.2 c1
    refine hb_aload_n (pc := 240) (i := 0) dX12_ask_240 rfl rfl ?_
    refine hb_getR (pc := 241) (g1 := 0) dX12_ask_241 fw_X12_75 cw_12 rfl (by decide) rfl (by decide) rfl ?_
    refine hb_iload_n (pc := 244) (i := 2) dX12_ask_244 rfl rfl ?_
    obtain ⟨ho2, hr2⟩ := ht1
    refine hb_ialdx (pc := 245) (x := hb_aI w 12 21 0 x2.toNatClampNeg) dX12_ask_245 rfl (by decide) ho2 rfl ?_
    refine hb_if_le (pc := 246) (tgt := 260) dX12_ask_246 (by decide) (fun c3 => ?_) (fun c3 => ?_)
    · have ht3 := hr2.1 c3
      exact ht3
    · have ht3 := hr2.2 c3
      refine hb_aload_n (pc := 249) (i := 0) dX12_ask_249 rfl rfl ?_
      refine hb_iload_n (pc := 250) (i := 1) dX12_ask_250 rfl rfl ?_
      refine hb_aload_n (pc := 251) (i := 0) dX12_ask_251 rfl rfl ?_
      refine hb_iload_n (pc := 252) (i := 2) dX12_ask_252 rfl rfl ?_
      exact hb_callV (pc := 253) (As := [hb_i x2]) (st := [hb_i x1, hb_r 12 0 0]) dX12_ask_253 ml_X12_596 mf_X12_qTold mi_X12_qTold (ci := 12) rfl rfl (by decide) rfl rfl (Nat.le_of_ble_eq_true rfl) (Nat.le_of_ble_eq_true rfl) ht3 (fun _ _ q => q)
set_option maxRecDepth 20000 in
theorem bk_X12_ask_256 {d : Nat} {w : hb_W} {Q : Option hb_V → hb_W → Prop} {x1 : Int32} {x2 : Int32} {xs1 : Int32} {ls2 : Int64} (h : hb_O yX12_qTakes cX12_qTakes 6 none d [hb_r 12 0 0, hb_i xs1, hb_l ls2, hb_i x2] w (fun rv w1 => hb_R yX12_ask cX12_ask 3 (some .long) (d + 1) 260 [some (hb_r 12 0 0), some (hb_i x1), some (hb_i x2)] (rv.toList ++ []) w1 Q)) : hb_R yX12_ask cX12_ask 3 (some .long) (d + 1) 256 [some (hb_r 12 0 0), some (hb_i x1), some (hb_i x2)] [hb_l ls2, hb_i xs1, hb_r 12 0 0] w Q := by
  refine hb_iload_n (pc := 256) (i := 2) dX12_ask_256 rfl rfl ?_
  exact hb_callV (pc := 257) (As := [hb_i xs1, hb_l ls2, hb_i x2]) (st := []) dX12_ask_257 ml_X12_599 mf_X12_qTakes mi_X12_qTakes (ci := 12) rfl rfl (by decide) rfl rfl (Nat.le_of_ble_eq_true rfl) (Nat.le_of_ble_eq_true rfl) h (fun _ _ q => q)
set_option maxRecDepth 20000 in
theorem bk_X12_ask_260 {d : Nat} {w : hb_W} {Q : Option hb_V → hb_W → Prop} {x1 : Int32} {x2 : Int32} (h : hb_R yX12_ask cX12_ask 3 (some .long) (d + 1) 234 [some (hb_r 12 0 0), some (hb_i x1), some (hb_i (x2 + (1 : Int32)))] [] w Q) : hb_R yX12_ask cX12_ask 3 (some .long) (d + 1) 260 [some (hb_r 12 0 0), some (hb_i x1), some (hb_i x2)] [] w Q := by
  refine hb_iinc (pc := 260) (v := x2 + (1 : Int32)) (ls1 := [some (hb_r 12 0 0), some (hb_i x1), some (hb_i (x2 + (1 : Int32)))]) dX12_ask_260 rfl rfl (by decide) rfl ?_
  refine hb_goto (pc := 263) (tgt := 234) dX12_ask_263 (by decide) ?_
  exact h
theorem dX12_checked_0 : decode cX12_checked 0 = .ok (.sipush 211, 3) := by decide +kernel
theorem dX12_checked_3 : decode cX12_checked 3 = .ok (.istore_n 2, 1) := by decide +kernel
theorem dX12_checked_4 : decode cX12_checked 4 = .ok (.iconst 0, 1) := by decide +kernel
theorem dX12_checked_5 : decode cX12_checked 5 = .ok (.istore_n 3, 1) := by decide +kernel
theorem dX12_checked_6 : decode cX12_checked 6 = .ok (.iload_n 3, 1) := by decide +kernel
theorem dX12_checked_7 : decode cX12_checked 7 = .ok (.iload_n 1, 1) := by decide +kernel
theorem dX12_checked_8 : decode cX12_checked 8 = .ok (.if_icmp .ge 21, 3) := by decide +kernel
theorem dX12_checked_11 : decode cX12_checked 11 = .ok (.iconst 3, 1) := by decide +kernel
theorem dX12_checked_12 : decode cX12_checked 12 = .ok (.iload_n 2, 1) := by decide +kernel
theorem dX12_checked_13 : decode cX12_checked 13 = .ok (.imul, 1) := by decide +kernel
theorem dX12_checked_14 : decode cX12_checked 14 = .ok (.aload_n 0, 1) := by decide +kernel
theorem dX12_checked_15 : decode cX12_checked 15 = .ok (.iload_n 3, 1) := by decide +kernel
theorem dX12_checked_16 : decode cX12_checked 16 = .ok (.iaload, 1) := by decide +kernel
theorem dX12_checked_17 : decode cX12_checked 17 = .ok (.iadd, 1) := by decide +kernel
theorem dX12_checked_18 : decode cX12_checked 18 = .ok (.sipush 251, 3) := by decide +kernel
theorem dX12_checked_21 : decode cX12_checked 21 = .ok (.irem, 1) := by decide +kernel
theorem dX12_checked_22 : decode cX12_checked 22 = .ok (.istore_n 2, 1) := by decide +kernel
theorem dX12_checked_23 : decode cX12_checked 23 = .ok (.iinc 3 1, 3) := by decide +kernel
theorem dX12_checked_26 : decode cX12_checked 26 = .ok (.goto (-20), 3) := by decide +kernel
theorem dX12_checked_29 : decode cX12_checked 29 = .ok (.iload_n 2, 1) := by decide +kernel
theorem dX12_checked_30 : decode cX12_checked 30 = .ok (.ireturn, 1) := by decide +kernel
set_option maxRecDepth 20000 in
theorem bk_X12_checked_0 {d : Nat} {w : hb_W} {Q : Option hb_V → hb_W → Prop} {t0 g0 j0 n0 : Nat} {x1 : Int32} (hs0 : hb_sh t0 j0 = some (.inr (0, n0))) (hg0 : g0 < hb_ct t0) (h : hb_R yX12_checked cX12_checked 4 (some .int) d 6 [some (hb_r t0 g0 j0), some (hb_i x1), some (hb_i (211 : Int32)), some (hb_i (0 : Int32))] [] w Q) : hb_R yX12_checked cX12_checked 4 (some .int) d 0 [some (hb_r t0 g0 j0), some (hb_i x1), none, none] [] w Q := by
  refine hb_sipush (pc := 0) (v := 211) dX12_checked_0 (by decide) ?_
  refine hb_istore_n (pc := 3) (i := 2) (ls1 := [some (hb_r t0 g0 j0), some (hb_i x1), some (hb_i (211 : Int32)), none]) dX12_checked_3 rfl (by decide) rfl ?_
  refine hb_iconst (pc := 4) (v := 0) dX12_checked_4 (by decide) ?_
  refine hb_istore_n (pc := 5) (i := 3) (ls1 := [some (hb_r t0 g0 j0), some (hb_i x1), some (hb_i (211 : Int32)), some (hb_i (0 : Int32))]) dX12_checked_5 rfl (by decide) rfl ?_
  exact h
set_option maxRecDepth 20000 in
theorem bk_X12_checked_6 {d : Nat} {w : hb_W} {Q : Option hb_V → hb_W → Prop} {t0 g0 j0 n0 : Nat} {x1 : Int32} {x2 : Int32} {x3 : Int32} (hs0 : hb_sh t0 j0 = some (.inr (0, n0))) (hg0 : g0 < hb_ct t0) (h : ((x1 ≤ x3) → Q (some (hb_i x2)) w) ∧ ((¬ x1 ≤ x3) → vp_in x3 n0 ∧ (hb_R yX12_checked cX12_checked 4 (some .int) d 6 [some (hb_r t0 g0 j0), some (hb_i x1), some (hb_i ((((3 : Int32) * x2) + (hb_aI w t0 j0 g0 x3.toNatClampNeg)) - (((3 : Int32) * x2) + (hb_aI w t0 j0 g0 x3.toNatClampNeg)) / (251 : Int32) * (251 : Int32))), some (hb_i (x3 + (1 : Int32)))] [] w Q))) : hb_R yX12_checked cX12_checked 4 (some .int) d 6 [some (hb_r t0 g0 j0), some (hb_i x1), some (hb_i x2), some (hb_i x3)] [] w Q := by
  refine hb_iload_n (pc := 6) (i := 3) dX12_checked_6 rfl rfl ?_
  refine hb_iload_n (pc := 7) (i := 1) dX12_checked_7 rfl rfl ?_
  refine hb_icmp_ge (pc := 8) (tgt := 29) dX12_checked_8 (by decide) (fun c1 => ?_) (fun c1 => ?_)
  · have ht1 := h.1 c1
    refine hb_iload_n (pc := 29) (i := 2) dX12_checked_29 rfl rfl ?_
    exact hb_iret (pc := 30) dX12_checked_30 rfl ht1
  · have ht1 := h.2 c1
    refine hb_iconst (pc := 11) (v := 3) dX12_checked_11 (by decide) ?_
    refine hb_iload_n (pc := 12) (i := 2) dX12_checked_12 rfl rfl ?_
    refine hb_imul (pc := 13) dX12_checked_13 ?_
    refine hb_aload_n (pc := 14) (i := 0) dX12_checked_14 rfl rfl ?_
    refine hb_iload_n (pc := 15) (i := 3) dX12_checked_15 rfl rfl ?_
    obtain ⟨ho2, hr2⟩ := ht1
    refine hb_ialdx (pc := 16) (x := hb_aI w t0 j0 g0 x3.toNatClampNeg) dX12_checked_16 hs0 hg0 ho2 rfl ?_
    refine hb_iadd (pc := 17) dX12_checked_17 ?_
    refine hb_sipush (pc := 18) (v := 251) dX12_checked_18 (by decide) ?_
    refine hb_irem (pc := 21) dX12_checked_21 (by decide) ?_
    refine hb_istore_n (pc := 22) (i := 2) (ls1 := [some (hb_r t0 g0 j0), some (hb_i x1), some (hb_i ((((3 : Int32) * x2) + (hb_aI w t0 j0 g0 x3.toNatClampNeg)) - (((3 : Int32) * x2) + (hb_aI w t0 j0 g0 x3.toNatClampNeg)) / (251 : Int32) * (251 : Int32))), some (hb_i x3)]) dX12_checked_22 rfl (by decide) rfl ?_
    refine hb_iinc (pc := 23) (v := x3 + (1 : Int32)) (ls1 := [some (hb_r t0 g0 j0), some (hb_i x1), some (hb_i ((((3 : Int32) * x2) + (hb_aI w t0 j0 g0 x3.toNatClampNeg)) - (((3 : Int32) * x2) + (hb_aI w t0 j0 g0 x3.toNatClampNeg)) / (251 : Int32) * (251 : Int32))), some (hb_i (x3 + (1 : Int32)))]) dX12_checked_23 rfl rfl (by decide) rfl ?_
    refine hb_goto (pc := 26) (tgt := 6) dX12_checked_26 (by decide) ?_
    exact hr2
theorem dX12_writes_0 : decode cX12_writes 0 = .ok (.aload_n 0, 1) := by decide +kernel
theorem dX12_writes_1 : decode cX12_writes 1 = .ok (.getfield 189, 3) := by decide +kernel
theorem dX12_writes_4 : decode cX12_writes 4 = .ok (.aload_n 0, 1) := by decide +kernel
theorem dX12_writes_5 : decode cX12_writes 5 = .ok (.getfield 603, 3) := by decide +kernel
theorem dX12_writes_8 : decode cX12_writes 8 = .ok (.iload_n 1, 1) := by decide +kernel
theorem dX12_writes_9 : decode cX12_writes 9 = .ok (.iastore, 1) := by decide +kernel
theorem dX12_writes_10 : decode cX12_writes 10 = .ok (.aload_n 0, 1) := by decide +kernel
theorem dX12_writes_11 : decode cX12_writes 11 = .ok (.dup, 1) := by decide +kernel
theorem dX12_writes_12 : decode cX12_writes 12 = .ok (.getfield 603, 3) := by decide +kernel
theorem dX12_writes_15 : decode cX12_writes 15 = .ok (.iconst 1, 1) := by decide +kernel
theorem dX12_writes_16 : decode cX12_writes 16 = .ok (.iadd, 1) := by decide +kernel
theorem dX12_writes_17 : decode cX12_writes 17 = .ok (.putfield 603, 3) := by decide +kernel
theorem dX12_writes_20 : decode cX12_writes 20 = .ok (.return_, 1) := by decide +kernel
set_option maxRecDepth 20000 in
theorem bk_X12_writes_0 {d : Nat} {w : hb_W} {Q : Option hb_V → hb_W → Prop} {x1 : Int32} (h : vp_in (hb_fI w 12 90 0) 1213 ∧ (Q none (hb_pI (hb_sI w 12 57 0 (upd (hb_aI w 12 57 0) (hb_fI w 12 90 0).toNatClampNeg x1)) 12 90 0 ((hb_fI w 12 90 0) + (1 : Int32))))) : hb_R yX12_writes cX12_writes 2 none d 0 [some (hb_r 12 0 0), some (hb_i x1)] [] w Q := by
  refine hb_aload_n (pc := 0) (i := 0) dX12_writes_0 rfl rfl ?_
  refine hb_getR (pc := 1) (g1 := 0) dX12_writes_1 fw_X12_189 cw_12 rfl (by decide) rfl (by decide) rfl ?_
  refine hb_aload_n (pc := 4) (i := 0) dX12_writes_4 rfl rfl ?_
  refine hb_getIx (pc := 5) (x := hb_fI w 12 90 0) dX12_writes_5 fw_X12_603 cw_12 rfl (by decide) rfl rfl ?_
  refine hb_iload_n (pc := 8) (i := 1) dX12_writes_8 rfl rfl ?_
  obtain ⟨ho1, hr1⟩ := h
  refine hb_iastx (pc := 9) (f := upd (hb_aI w 12 57 0) (hb_fI w 12 90 0).toNatClampNeg x1) dX12_writes_9 rfl (by decide) ho1 rfl ?_
  refine hb_aload_n (pc := 10) (i := 0) dX12_writes_10 rfl rfl ?_
  refine hb_dupr (pc := 11) dX12_writes_11 ?_
  refine hb_getIx (pc := 12) (x := hb_fI w 12 90 0) dX12_writes_12 fw_X12_603 cw_12 rfl (by decide) rfl rfl ?_
  refine hb_iconst (pc := 15) (v := 1) dX12_writes_15 (by decide) ?_
  refine hb_iadd (pc := 16) dX12_writes_16 ?_
  refine hb_putI (pc := 17) dX12_writes_17 fw_X12_603 cw_12 pw_12_90 rfl (by decide) rfl rfl rfl ?_
  exact hb_vret (pc := 20) dX12_writes_20 rfl hr1
theorem dX12_image_0 : decode cX12_image 0 = .ok (.aload_n 0, 1) := by decide +kernel
theorem dX12_image_1 : decode cX12_image 1 = .ok (.iconst 0, 1) := by decide +kernel
theorem dX12_image_2 : decode cX12_image 2 = .ok (.putfield 603, 3) := by decide +kernel
theorem dX12_image_5 : decode cX12_image 5 = .ok (.aload_n 0, 1) := by decide +kernel
theorem dX12_image_6 : decode cX12_image 6 = .ok (.aload_n 0, 1) := by decide +kernel
theorem dX12_image_7 : decode cX12_image 7 = .ok (.getfield 66, 3) := by decide +kernel
theorem dX12_image_10 : decode cX12_image 10 = .ok (.iconst 0, 1) := by decide +kernel
theorem dX12_image_11 : decode cX12_image 11 = .ok (.iaload, 1) := by decide +kernel
theorem dX12_image_12 : decode cX12_image 12 = .ok (.invokevirtual 606, 3) := by decide +kernel
theorem dX12_image_15 : decode cX12_image 15 = .ok (.aload_n 0, 1) := by decide +kernel
theorem dX12_image_16 : decode cX12_image 16 = .ok (.aload_n 0, 1) := by decide +kernel
theorem dX12_image_17 : decode cX12_image 17 = .ok (.getfield 66, 3) := by decide +kernel
theorem dX12_image_20 : decode cX12_image 20 = .ok (.iconst 1, 1) := by decide +kernel
theorem dX12_image_21 : decode cX12_image 21 = .ok (.iaload, 1) := by decide +kernel
theorem dX12_image_22 : decode cX12_image 22 = .ok (.sipush 256, 3) := by decide +kernel
theorem dX12_image_25 : decode cX12_image 25 = .ok (.idiv, 1) := by decide +kernel
theorem dX12_image_26 : decode cX12_image 26 = .ok (.invokevirtual 606, 3) := by decide +kernel
theorem dX12_image_29 : decode cX12_image 29 = .ok (.aload_n 0, 1) := by decide +kernel
theorem dX12_image_30 : decode cX12_image 30 = .ok (.aload_n 0, 1) := by decide +kernel
theorem dX12_image_31 : decode cX12_image 31 = .ok (.getfield 66, 3) := by decide +kernel
theorem dX12_image_34 : decode cX12_image 34 = .ok (.iconst 1, 1) := by decide +kernel
theorem dX12_image_35 : decode cX12_image 35 = .ok (.iaload, 1) := by decide +kernel
theorem dX12_image_36 : decode cX12_image 36 = .ok (.sipush 256, 3) := by decide +kernel
theorem dX12_image_39 : decode cX12_image 39 = .ok (.irem, 1) := by decide +kernel
theorem dX12_image_40 : decode cX12_image 40 = .ok (.invokevirtual 606, 3) := by decide +kernel
theorem dX12_image_43 : decode cX12_image 43 = .ok (.iconst 0, 1) := by decide +kernel
theorem dX12_image_44 : decode cX12_image 44 = .ok (.istore_n 1, 1) := by decide +kernel
theorem dX12_image_45 : decode cX12_image 45 = .ok (.iload_n 1, 1) := by decide +kernel
theorem dX12_image_46 : decode cX12_image 46 = .ok (.iconst 3, 1) := by decide +kernel
theorem dX12_image_47 : decode cX12_image 47 = .ok (.aload_n 0, 1) := by decide +kernel
theorem dX12_image_48 : decode cX12_image 48 = .ok (.getfield 66, 3) := by decide +kernel
theorem dX12_image_51 : decode cX12_image 51 = .ok (.iconst 1, 1) := by decide +kernel
theorem dX12_image_52 : decode cX12_image 52 = .ok (.iaload, 1) := by decide +kernel
theorem dX12_image_53 : decode cX12_image 53 = .ok (.imul, 1) := by decide +kernel
theorem dX12_image_54 : decode cX12_image 54 = .ok (.if_icmp .ge 19, 3) := by decide +kernel
theorem dX12_image_57 : decode cX12_image 57 = .ok (.aload_n 0, 1) := by decide +kernel
theorem dX12_image_58 : decode cX12_image 58 = .ok (.aload_n 0, 1) := by decide +kernel
theorem dX12_image_59 : decode cX12_image 59 = .ok (.getfield 69, 3) := by decide +kernel
theorem dX12_image_62 : decode cX12_image 62 = .ok (.iload_n 1, 1) := by decide +kernel
theorem dX12_image_63 : decode cX12_image 63 = .ok (.iaload, 1) := by decide +kernel
theorem dX12_image_64 : decode cX12_image 64 = .ok (.invokevirtual 606, 3) := by decide +kernel
theorem dX12_image_67 : decode cX12_image 67 = .ok (.iinc 1 1, 3) := by decide +kernel
theorem dX12_image_70 : decode cX12_image 70 = .ok (.goto (-25), 3) := by decide +kernel
theorem dX12_image_73 : decode cX12_image 73 = .ok (.iconst 0, 1) := by decide +kernel
theorem dX12_image_74 : decode cX12_image 74 = .ok (.istore_n 1, 1) := by decide +kernel
theorem dX12_image_75 : decode cX12_image 75 = .ok (.iload_n 1, 1) := by decide +kernel
theorem dX12_image_76 : decode cX12_image 76 = .ok (.aload_n 0, 1) := by decide +kernel
theorem dX12_image_77 : decode cX12_image 77 = .ok (.getfield 51, 3) := by decide +kernel
theorem dX12_image_80 : decode cX12_image 80 = .ok (.iconst 2, 1) := by decide +kernel
theorem dX12_image_81 : decode cX12_image 81 = .ok (.iaload, 1) := by decide +kernel
theorem dX12_image_82 : decode cX12_image 82 = .ok (.if_icmp .ge 39, 3) := by decide +kernel
theorem dX12_image_85 : decode cX12_image 85 = .ok (.aload_n 0, 1) := by decide +kernel
theorem dX12_image_86 : decode cX12_image 86 = .ok (.aload_n 0, 1) := by decide +kernel
theorem dX12_image_87 : decode cX12_image 87 = .ok (.getfield 66, 3) := by decide +kernel
theorem dX12_image_90 : decode cX12_image 90 = .ok (.iconst 2, 1) := by decide +kernel
theorem dX12_image_91 : decode cX12_image 91 = .ok (.iload_n 1, 1) := by decide +kernel
theorem dX12_image_92 : decode cX12_image 92 = .ok (.iadd, 1) := by decide +kernel
theorem dX12_image_93 : decode cX12_image 93 = .ok (.iaload, 1) := by decide +kernel
theorem dX12_image_94 : decode cX12_image 94 = .ok (.iconst (-1), 1) := by decide +kernel
theorem dX12_image_95 : decode cX12_image 95 = .ok (.if_icmp .ne 9, 3) := by decide +kernel
theorem dX12_image_98 : decode cX12_image 98 = .ok (.sipush 255, 3) := by decide +kernel
theorem dX12_image_101 : decode cX12_image 101 = .ok (.goto 11, 3) := by decide +kernel
theorem dX12_image_104 : decode cX12_image 104 = .ok (.aload_n 0, 1) := by decide +kernel
theorem dX12_image_105 : decode cX12_image 105 = .ok (.getfield 66, 3) := by decide +kernel
theorem dX12_image_108 : decode cX12_image 108 = .ok (.iconst 2, 1) := by decide +kernel
theorem dX12_image_109 : decode cX12_image 109 = .ok (.iload_n 1, 1) := by decide +kernel
theorem dX12_image_110 : decode cX12_image 110 = .ok (.iadd, 1) := by decide +kernel
theorem dX12_image_111 : decode cX12_image 111 = .ok (.iaload, 1) := by decide +kernel
theorem dX12_image_112 : decode cX12_image 112 = .ok (.invokevirtual 606, 3) := by decide +kernel
theorem dX12_image_115 : decode cX12_image 115 = .ok (.iinc 1 1, 3) := by decide +kernel
theorem dX12_image_118 : decode cX12_image 118 = .ok (.goto (-43), 3) := by decide +kernel
theorem dX12_image_121 : decode cX12_image 121 = .ok (.aload_n 0, 1) := by decide +kernel
theorem dX12_image_122 : decode cX12_image 122 = .ok (.aload_n 0, 1) := by decide +kernel
theorem dX12_image_123 : decode cX12_image 123 = .ok (.getfield 189, 3) := by decide +kernel
theorem dX12_image_126 : decode cX12_image 126 = .ok (.aload_n 0, 1) := by decide +kernel
theorem dX12_image_127 : decode cX12_image 127 = .ok (.getfield 603, 3) := by decide +kernel
theorem dX12_image_130 : decode cX12_image 130 = .ok (.invokestatic 609, 3) := by decide +kernel
theorem dX12_image_133 : decode cX12_image 133 = .ok (.invokevirtual 606, 3) := by decide +kernel
theorem dX12_image_136 : decode cX12_image 136 = .ok (.aload_n 0, 1) := by decide +kernel
theorem dX12_image_137 : decode cX12_image 137 = .ok (.getfield 603, 3) := by decide +kernel
theorem dX12_image_140 : decode cX12_image 140 = .ok (.ireturn, 1) := by decide +kernel
set_option maxRecDepth 20000 in
theorem bk_X12_image_0 {d : Nat} {w : hb_W} {Q : Option hb_V → hb_W → Prop} (h : hb_O yX12_writes cX12_writes 2 none d [hb_r 12 0 0, hb_i (hb_aI w 12 18 0 (0 : Int32).toNatClampNeg)] (hb_pI w 12 90 0 (0 : Int32)) (fun rv w1 => hb_R yX12_image cX12_image 2 (some .int) (d + 1) 15 [some (hb_r 12 0 0), none] (rv.toList ++ []) w1 Q)) : hb_R yX12_image cX12_image 2 (some .int) (d + 1) 0 [some (hb_r 12 0 0), none] [] w Q := by
  refine hb_aload_n (pc := 0) (i := 0) dX12_image_0 rfl rfl ?_
  refine hb_iconst (pc := 1) (v := 0) dX12_image_1 (by decide) ?_
  refine hb_putI (pc := 2) dX12_image_2 fw_X12_603 cw_12 pw_12_90 rfl (by decide) rfl rfl rfl ?_
  refine hb_aload_n (pc := 5) (i := 0) dX12_image_5 rfl rfl ?_
  refine hb_aload_n (pc := 6) (i := 0) dX12_image_6 rfl rfl ?_
  refine hb_getR (pc := 7) (g1 := 0) dX12_image_7 fw_X12_66 cw_12 rfl (by decide) rfl (by decide) rfl ?_
  refine hb_iconst (pc := 10) (v := 0) dX12_image_10 (by decide) ?_
  refine hb_ialdx (pc := 11) (x := hb_aI w 12 18 0 (0 : Int32).toNatClampNeg) dX12_image_11 (n := 11) rfl (by decide) (by unfold vp_in; decide) rfl ?_
  exact hb_callV (pc := 12) (As := [hb_i (hb_aI w 12 18 0 (0 : Int32).toNatClampNeg)]) (st := []) dX12_image_12 ml_X12_606 mf_X12_writes mi_X12_writes (ci := 12) rfl rfl (by decide) rfl rfl (Nat.le_of_ble_eq_true rfl) (Nat.le_of_ble_eq_true rfl) h (fun _ _ q => q)
set_option maxRecDepth 20000 in
theorem bk_X12_image_15 {d : Nat} {w : hb_W} {Q : Option hb_V → hb_W → Prop} (h : hb_O yX12_writes cX12_writes 2 none d [hb_r 12 0 0, hb_i ((hb_aI w 12 18 0 (1 : Int32).toNatClampNeg) / (256 : Int32))] w (fun rv w1 => hb_R yX12_image cX12_image 2 (some .int) (d + 1) 29 [some (hb_r 12 0 0), none] (rv.toList ++ []) w1 Q)) : hb_R yX12_image cX12_image 2 (some .int) (d + 1) 15 [some (hb_r 12 0 0), none] [] w Q := by
  refine hb_aload_n (pc := 15) (i := 0) dX12_image_15 rfl rfl ?_
  refine hb_aload_n (pc := 16) (i := 0) dX12_image_16 rfl rfl ?_
  refine hb_getR (pc := 17) (g1 := 0) dX12_image_17 fw_X12_66 cw_12 rfl (by decide) rfl (by decide) rfl ?_
  refine hb_iconst (pc := 20) (v := 1) dX12_image_20 (by decide) ?_
  refine hb_ialdx (pc := 21) (x := hb_aI w 12 18 0 (1 : Int32).toNatClampNeg) dX12_image_21 (n := 11) rfl (by decide) (by unfold vp_in; decide) rfl ?_
  refine hb_sipush (pc := 22) (v := 256) dX12_image_22 (by decide) ?_
  refine hb_idiv (pc := 25) dX12_image_25 (by decide) ?_
  exact hb_callV (pc := 26) (As := [hb_i ((hb_aI w 12 18 0 (1 : Int32).toNatClampNeg) / (256 : Int32))]) (st := []) dX12_image_26 ml_X12_606 mf_X12_writes mi_X12_writes (ci := 12) rfl rfl (by decide) rfl rfl (Nat.le_of_ble_eq_true rfl) (Nat.le_of_ble_eq_true rfl) h (fun _ _ q => q)
set_option maxRecDepth 20000 in
theorem bk_X12_image_29 {d : Nat} {w : hb_W} {Q : Option hb_V → hb_W → Prop} (h : hb_O yX12_writes cX12_writes 2 none d [hb_r 12 0 0, hb_i ((hb_aI w 12 18 0 (1 : Int32).toNatClampNeg) - (hb_aI w 12 18 0 (1 : Int32).toNatClampNeg) / (256 : Int32) * (256 : Int32))] w (fun rv w1 => hb_R yX12_image cX12_image 2 (some .int) (d + 1) 43 [some (hb_r 12 0 0), none] (rv.toList ++ []) w1 Q)) : hb_R yX12_image cX12_image 2 (some .int) (d + 1) 29 [some (hb_r 12 0 0), none] [] w Q := by
  refine hb_aload_n (pc := 29) (i := 0) dX12_image_29 rfl rfl ?_
  refine hb_aload_n (pc := 30) (i := 0) dX12_image_30 rfl rfl ?_
  refine hb_getR (pc := 31) (g1 := 0) dX12_image_31 fw_X12_66 cw_12 rfl (by decide) rfl (by decide) rfl ?_
  refine hb_iconst (pc := 34) (v := 1) dX12_image_34 (by decide) ?_
  refine hb_ialdx (pc := 35) (x := hb_aI w 12 18 0 (1 : Int32).toNatClampNeg) dX12_image_35 (n := 11) rfl (by decide) (by unfold vp_in; decide) rfl ?_
  refine hb_sipush (pc := 36) (v := 256) dX12_image_36 (by decide) ?_
  refine hb_irem (pc := 39) dX12_image_39 (by decide) ?_
  exact hb_callV (pc := 40) (As := [hb_i ((hb_aI w 12 18 0 (1 : Int32).toNatClampNeg) - (hb_aI w 12 18 0 (1 : Int32).toNatClampNeg) / (256 : Int32) * (256 : Int32))]) (st := []) dX12_image_40 ml_X12_606 mf_X12_writes mi_X12_writes (ci := 12) rfl rfl (by decide) rfl rfl (Nat.le_of_ble_eq_true rfl) (Nat.le_of_ble_eq_true rfl) h (fun _ _ q => q)
set_option maxRecDepth 20000 in
theorem bk_X12_image_43 {d : Nat} {w : hb_W} {Q : Option hb_V → hb_W → Prop} (h : hb_R yX12_image cX12_image 2 (some .int) (d + 1) 45 [some (hb_r 12 0 0), some (hb_i (0 : Int32))] [] w Q) : hb_R yX12_image cX12_image 2 (some .int) (d + 1) 43 [some (hb_r 12 0 0), none] [] w Q := by
  refine hb_iconst (pc := 43) (v := 0) dX12_image_43 (by decide) ?_
  refine hb_istore_n (pc := 44) (i := 1) (ls1 := [some (hb_r 12 0 0), some (hb_i (0 : Int32))]) dX12_image_44 rfl (by decide) rfl ?_
  exact h
set_option maxRecDepth 20000 in
theorem bk_X12_image_45 {d : Nat} {w : hb_W} {Q : Option hb_V → hb_W → Prop} {x1 : Int32} (h : ((((3 : Int32) * (hb_aI w 12 18 0 (1 : Int32).toNatClampNeg)) ≤ x1) → hb_R yX12_image cX12_image 2 (some .int) (d + 1) 75 [some (hb_r 12 0 0), some (hb_i (0 : Int32))] [] w Q) ∧ ((¬ ((3 : Int32) * (hb_aI w 12 18 0 (1 : Int32).toNatClampNeg)) ≤ x1) → vp_in x1 1203 ∧ (hb_O yX12_writes cX12_writes 2 none d [hb_r 12 0 0, hb_i (hb_aI w 12 19 0 x1.toNatClampNeg)] w (fun rv w1 => hb_R yX12_image cX12_image 2 (some .int) (d + 1) 67 [some (hb_r 12 0 0), some (hb_i x1)] (rv.toList ++ []) w1 Q)))) : hb_R yX12_image cX12_image 2 (some .int) (d + 1) 45 [some (hb_r 12 0 0), some (hb_i x1)] [] w Q := by
  refine hb_iload_n (pc := 45) (i := 1) dX12_image_45 rfl rfl ?_
  refine hb_iconst (pc := 46) (v := 3) dX12_image_46 (by decide) ?_
  refine hb_aload_n (pc := 47) (i := 0) dX12_image_47 rfl rfl ?_
  refine hb_getR (pc := 48) (g1 := 0) dX12_image_48 fw_X12_66 cw_12 rfl (by decide) rfl (by decide) rfl ?_
  refine hb_iconst (pc := 51) (v := 1) dX12_image_51 (by decide) ?_
  refine hb_ialdx (pc := 52) (x := hb_aI w 12 18 0 (1 : Int32).toNatClampNeg) dX12_image_52 (n := 11) rfl (by decide) (by unfold vp_in; decide) rfl ?_
  refine hb_imul (pc := 53) dX12_image_53 ?_
  refine hb_icmp_ge (pc := 54) (tgt := 73) dX12_image_54 (by decide) (fun c1 => ?_) (fun c1 => ?_)
  · have ht1 := h.1 c1
    refine hb_iconst (pc := 73) (v := 0) dX12_image_73 (by decide) ?_
    refine hb_istore_n (pc := 74) (i := 1) (ls1 := [some (hb_r 12 0 0), some (hb_i (0 : Int32))]) dX12_image_74 rfl (by decide) rfl ?_
    exact ht1
  · have ht1 := h.2 c1
    refine hb_aload_n (pc := 57) (i := 0) dX12_image_57 rfl rfl ?_
    refine hb_aload_n (pc := 58) (i := 0) dX12_image_58 rfl rfl ?_
    refine hb_getR (pc := 59) (g1 := 0) dX12_image_59 fw_X12_69 cw_12 rfl (by decide) rfl (by decide) rfl ?_
    refine hb_iload_n (pc := 62) (i := 1) dX12_image_62 rfl rfl ?_
    obtain ⟨ho2, hr2⟩ := ht1
    refine hb_ialdx (pc := 63) (x := hb_aI w 12 19 0 x1.toNatClampNeg) dX12_image_63 rfl (by decide) ho2 rfl ?_
    exact hb_callV (pc := 64) (As := [hb_i (hb_aI w 12 19 0 x1.toNatClampNeg)]) (st := []) dX12_image_64 ml_X12_606 mf_X12_writes mi_X12_writes (ci := 12) rfl rfl (by decide) rfl rfl (Nat.le_of_ble_eq_true rfl) (Nat.le_of_ble_eq_true rfl) hr2 (fun _ _ q => q)
set_option maxRecDepth 20000 in
theorem bk_X12_image_67 {d : Nat} {w : hb_W} {Q : Option hb_V → hb_W → Prop} {x1 : Int32} (h : hb_R yX12_image cX12_image 2 (some .int) (d + 1) 45 [some (hb_r 12 0 0), some (hb_i (x1 + (1 : Int32)))] [] w Q) : hb_R yX12_image cX12_image 2 (some .int) (d + 1) 67 [some (hb_r 12 0 0), some (hb_i x1)] [] w Q := by
  refine hb_iinc (pc := 67) (v := x1 + (1 : Int32)) (ls1 := [some (hb_r 12 0 0), some (hb_i (x1 + (1 : Int32)))]) dX12_image_67 rfl rfl (by decide) rfl ?_
  refine hb_goto (pc := 70) (tgt := 45) dX12_image_70 (by decide) ?_
  exact h
set_option maxRecDepth 20000 in
theorem bk_X12_image_75 {d : Nat} {w : hb_W} {Q : Option hb_V → hb_W → Prop} {x1 : Int32} (h : (((hb_aI w 12 13 0 (2 : Int32).toNatClampNeg) ≤ x1) → hb_O yX12_checked cX12_checked 4 (some .int) d [hb_r 12 0 57, hb_i (hb_fI w 12 90 0)] w (fun rv w1 => hb_R yX12_image cX12_image 2 (some .int) (d + 1) 133 [some (hb_r 12 0 0), some (hb_i x1)] (rv.toList ++ [hb_r 12 0 0]) w1 Q)) ∧ ((¬ (hb_aI w 12 13 0 (2 : Int32).toNatClampNeg) ≤ x1) → vp_in ((2 : Int32) + x1) 11 ∧ (((¬ (hb_aI w 12 18 0 ((2 : Int32) + x1).toNatClampNeg) = (-1 : Int32)) → vp_in ((2 : Int32) + x1) 11 ∧ (hb_O yX12_writes cX12_writes 2 none d [hb_r 12 0 0, hb_i (hb_aI w 12 18 0 ((2 : Int32) + x1).toNatClampNeg)] w (fun rv w1 => hb_R yX12_image cX12_image 2 (some .int) (d + 1) 115 [some (hb_r 12 0 0), some (hb_i x1)] (rv.toList ++ []) w1 Q))) ∧ (((hb_aI w 12 18 0 ((2 : Int32) + x1).toNatClampNeg) = (-1 : Int32)) → hb_O yX12_writes cX12_writes 2 none d [hb_r 12 0 0, hb_i (255 : Int32)] w (fun rv w1 => hb_R yX12_image cX12_image 2 (some .int) (d + 1) 115 [some (hb_r 12 0 0), some (hb_i x1)] (rv.toList ++ []) w1 Q))))) : hb_R yX12_image cX12_image 2 (some .int) (d + 1) 75 [some (hb_r 12 0 0), some (hb_i x1)] [] w Q := by
  refine hb_iload_n (pc := 75) (i := 1) dX12_image_75 rfl rfl ?_
  refine hb_aload_n (pc := 76) (i := 0) dX12_image_76 rfl rfl ?_
  refine hb_getR (pc := 77) (g1 := 0) dX12_image_77 fw_X12_51 cw_12 rfl (by decide) rfl (by decide) rfl ?_
  refine hb_iconst (pc := 80) (v := 2) dX12_image_80 (by decide) ?_
  refine hb_ialdx (pc := 81) (x := hb_aI w 12 13 0 (2 : Int32).toNatClampNeg) dX12_image_81 (n := 6) rfl (by decide) (by unfold vp_in; decide) rfl ?_
  refine hb_icmp_ge (pc := 82) (tgt := 121) dX12_image_82 (by decide) (fun c1 => ?_) (fun c1 => ?_)
  · have ht1 := h.1 c1
    refine hb_aload_n (pc := 121) (i := 0) dX12_image_121 rfl rfl ?_
    refine hb_aload_n (pc := 122) (i := 0) dX12_image_122 rfl rfl ?_
    refine hb_getR (pc := 123) (g1 := 0) dX12_image_123 fw_X12_189 cw_12 rfl (by decide) rfl (by decide) rfl ?_
    refine hb_aload_n (pc := 126) (i := 0) dX12_image_126 rfl rfl ?_
    refine hb_getIx (pc := 127) (x := hb_fI w 12 90 0) dX12_image_127 fw_X12_603 cw_12 rfl (by decide) rfl rfl ?_
    exact hb_callS (pc := 130) (As := [hb_r 12 0 57, hb_i (hb_fI w 12 90 0)]) (st := [hb_r 12 0 0]) dX12_image_130 ml_X12_609 mf_X12_checked ms_X12_checked rfl rfl (Nat.le_of_ble_eq_true rfl) (Nat.le_of_ble_eq_true rfl) ht1 (fun _ _ q => q)
  · have ht1 := h.2 c1
    refine hb_aload_n (pc := 85) (i := 0) dX12_image_85 rfl rfl ?_
    refine hb_aload_n (pc := 86) (i := 0) dX12_image_86 rfl rfl ?_
    refine hb_getR (pc := 87) (g1 := 0) dX12_image_87 fw_X12_66 cw_12 rfl (by decide) rfl (by decide) rfl ?_
    refine hb_iconst (pc := 90) (v := 2) dX12_image_90 (by decide) ?_
    refine hb_iload_n (pc := 91) (i := 1) dX12_image_91 rfl rfl ?_
    refine hb_iadd (pc := 92) dX12_image_92 ?_
    obtain ⟨ho2, hr2⟩ := ht1
    refine hb_ialdx (pc := 93) (x := hb_aI w 12 18 0 ((2 : Int32) + x1).toNatClampNeg) dX12_image_93 rfl (by decide) ho2 rfl ?_
    refine hb_iconst (pc := 94) (v := -1) dX12_image_94 (by decide) ?_
    refine hb_icmp_ne (pc := 95) (tgt := 104) dX12_image_95 (by decide) (fun c3 => ?_) (fun c3 => ?_)
    · have ht3 := hr2.1 c3
      refine hb_aload_n (pc := 104) (i := 0) dX12_image_104 rfl rfl ?_
      refine hb_getR (pc := 105) (g1 := 0) dX12_image_105 fw_X12_66 cw_12 rfl (by decide) rfl (by decide) rfl ?_
      refine hb_iconst (pc := 108) (v := 2) dX12_image_108 (by decide) ?_
      refine hb_iload_n (pc := 109) (i := 1) dX12_image_109 rfl rfl ?_
      refine hb_iadd (pc := 110) dX12_image_110 ?_
      obtain ⟨ho4, hr4⟩ := ht3
      refine hb_ialdx (pc := 111) (x := hb_aI w 12 18 0 ((2 : Int32) + x1).toNatClampNeg) dX12_image_111 rfl (by decide) ho4 rfl ?_
      exact hb_callV (pc := 112) (As := [hb_i (hb_aI w 12 18 0 ((2 : Int32) + x1).toNatClampNeg)]) (st := []) dX12_image_112 ml_X12_606 mf_X12_writes mi_X12_writes (ci := 12) rfl rfl (by decide) rfl rfl (Nat.le_of_ble_eq_true rfl) (Nat.le_of_ble_eq_true rfl) hr4 (fun _ _ q => q)
    · have ht3 := hr2.2 c3
      refine hb_sipush (pc := 98) (v := 255) dX12_image_98 (by decide) ?_
      refine hb_goto (pc := 101) (tgt := 112) dX12_image_101 (by decide) ?_
      exact hb_callV (pc := 112) (As := [hb_i (255 : Int32)]) (st := []) dX12_image_112 ml_X12_606 mf_X12_writes mi_X12_writes (ci := 12) rfl rfl (by decide) rfl rfl (Nat.le_of_ble_eq_true rfl) (Nat.le_of_ble_eq_true rfl) ht3 (fun _ _ q => q)
set_option maxRecDepth 20000 in
theorem bk_X12_image_115 {d : Nat} {w : hb_W} {Q : Option hb_V → hb_W → Prop} {x1 : Int32} (h : hb_R yX12_image cX12_image 2 (some .int) (d + 1) 75 [some (hb_r 12 0 0), some (hb_i (x1 + (1 : Int32)))] [] w Q) : hb_R yX12_image cX12_image 2 (some .int) (d + 1) 115 [some (hb_r 12 0 0), some (hb_i x1)] [] w Q := by
  refine hb_iinc (pc := 115) (v := x1 + (1 : Int32)) (ls1 := [some (hb_r 12 0 0), some (hb_i (x1 + (1 : Int32)))]) dX12_image_115 rfl rfl (by decide) rfl ?_
  refine hb_goto (pc := 118) (tgt := 75) dX12_image_118 (by decide) ?_
  exact h
set_option maxRecDepth 20000 in
theorem bk_X12_image_133 {d : Nat} {w : hb_W} {Q : Option hb_V → hb_W → Prop} {x1 : Int32} {xs1 : Int32} (h : hb_O yX12_writes cX12_writes 2 none d [hb_r 12 0 0, hb_i xs1] w (fun rv w1 => hb_R yX12_image cX12_image 2 (some .int) (d + 1) 136 [some (hb_r 12 0 0), some (hb_i x1)] (rv.toList ++ []) w1 Q)) : hb_R yX12_image cX12_image 2 (some .int) (d + 1) 133 [some (hb_r 12 0 0), some (hb_i x1)] [hb_i xs1, hb_r 12 0 0] w Q := by
  exact hb_callV (pc := 133) (As := [hb_i xs1]) (st := []) dX12_image_133 ml_X12_606 mf_X12_writes mi_X12_writes (ci := 12) rfl rfl (by decide) rfl rfl (Nat.le_of_ble_eq_true rfl) (Nat.le_of_ble_eq_true rfl) h (fun _ _ q => q)
set_option maxRecDepth 20000 in
theorem bk_X12_image_136 {d : Nat} {w : hb_W} {Q : Option hb_V → hb_W → Prop} {x1 : Int32} (h : Q (some (hb_i (hb_fI w 12 90 0))) w) : hb_R yX12_image cX12_image 2 (some .int) (d + 1) 136 [some (hb_r 12 0 0), some (hb_i x1)] [] w Q := by
  refine hb_aload_n (pc := 136) (i := 0) dX12_image_136 rfl rfl ?_
  refine hb_getIx (pc := 137) (x := hb_fI w 12 90 0) dX12_image_137 fw_X12_603 cw_12 rfl (by decide) rfl rfl ?_
  exact hb_iret (pc := 140) dX12_image_140 rfl h
theorem dX12_octet_0 : decode cX12_octet 0 = .ok (.iload_n 1, 1) := by decide +kernel
theorem dX12_octet_1 : decode cX12_octet 1 = .ok (.ifCond .lt 20, 3) := by decide +kernel
theorem dX12_octet_4 : decode cX12_octet 4 = .ok (.iload_n 1, 1) := by decide +kernel
theorem dX12_octet_5 : decode cX12_octet 5 = .ok (.aload_n 0, 1) := by decide +kernel
theorem dX12_octet_6 : decode cX12_octet 6 = .ok (.getfield 603, 3) := by decide +kernel
theorem dX12_octet_9 : decode cX12_octet 9 = .ok (.if_icmp .ge 12, 3) := by decide +kernel
theorem dX12_octet_12 : decode cX12_octet 12 = .ok (.aload_n 0, 1) := by decide +kernel
theorem dX12_octet_13 : decode cX12_octet 13 = .ok (.getfield 189, 3) := by decide +kernel
theorem dX12_octet_16 : decode cX12_octet 16 = .ok (.iload_n 1, 1) := by decide +kernel
theorem dX12_octet_17 : decode cX12_octet 17 = .ok (.iaload, 1) := by decide +kernel
theorem dX12_octet_18 : decode cX12_octet 18 = .ok (.goto 4, 3) := by decide +kernel
theorem dX12_octet_21 : decode cX12_octet 21 = .ok (.iconst (-1), 1) := by decide +kernel
theorem dX12_octet_22 : decode cX12_octet 22 = .ok (.ireturn, 1) := by decide +kernel
set_option maxRecDepth 20000 in
theorem bk_X12_octet_0 {d : Nat} {w : hb_W} {Q : Option hb_V → hb_W → Prop} {x1 : Int32} (h : ((x1 < 0) → Q (some (hb_i (-1 : Int32))) w) ∧ ((¬ x1 < 0) → (((hb_fI w 12 90 0) ≤ x1) → Q (some (hb_i (-1 : Int32))) w) ∧ ((¬ (hb_fI w 12 90 0) ≤ x1) → vp_in x1 1213 ∧ (Q (some (hb_i (hb_aI w 12 57 0 x1.toNatClampNeg))) w)))) : hb_R yX12_octet cX12_octet 2 (some .int) d 0 [some (hb_r 12 0 0), some (hb_i x1)] [] w Q := by
  refine hb_iload_n (pc := 0) (i := 1) dX12_octet_0 rfl rfl ?_
  refine hb_if_lt (pc := 1) (tgt := 21) dX12_octet_1 (by decide) (fun c1 => ?_) (fun c1 => ?_)
  · have ht1 := h.1 c1
    refine hb_iconst (pc := 21) (v := -1) dX12_octet_21 (by decide) ?_
    exact hb_iret (pc := 22) dX12_octet_22 rfl ht1
  · have ht1 := h.2 c1
    refine hb_iload_n (pc := 4) (i := 1) dX12_octet_4 rfl rfl ?_
    refine hb_aload_n (pc := 5) (i := 0) dX12_octet_5 rfl rfl ?_
    refine hb_getIx (pc := 6) (x := hb_fI w 12 90 0) dX12_octet_6 fw_X12_603 cw_12 rfl (by decide) rfl rfl ?_
    refine hb_icmp_ge (pc := 9) (tgt := 21) dX12_octet_9 (by decide) (fun c2 => ?_) (fun c2 => ?_)
    · have ht2 := ht1.1 c2
      refine hb_iconst (pc := 21) (v := -1) dX12_octet_21 (by decide) ?_
      exact hb_iret (pc := 22) dX12_octet_22 rfl ht2
    · have ht2 := ht1.2 c2
      refine hb_aload_n (pc := 12) (i := 0) dX12_octet_12 rfl rfl ?_
      refine hb_getR (pc := 13) (g1 := 0) dX12_octet_13 fw_X12_189 cw_12 rfl (by decide) rfl (by decide) rfl ?_
      refine hb_iload_n (pc := 16) (i := 1) dX12_octet_16 rfl rfl ?_
      obtain ⟨ho3, hr3⟩ := ht2
      refine hb_ialdx (pc := 17) (x := hb_aI w 12 57 0 x1.toNatClampNeg) dX12_octet_17 rfl (by decide) ho3 rfl ?_
      refine hb_goto (pc := 18) (tgt := 22) dX12_octet_18 (by decide) ?_
      exact hb_iret (pc := 22) dX12_octet_22 rfl hr3
theorem dX12_isLotTold_0 : decode cX12_isLotTold 0 = .ok (.iload_n 2, 1) := by decide +kernel
theorem dX12_isLotTold_1 : decode cX12_isLotTold 1 = .ok (.ifCond .ne 16, 3) := by decide +kernel
theorem dX12_isLotTold_4 : decode cX12_isLotTold 4 = .ok (.iload_n 1, 1) := by decide +kernel
theorem dX12_isLotTold_5 : decode cX12_isLotTold 5 = .ok (.sipush 255, 3) := by decide +kernel
theorem dX12_isLotTold_8 : decode cX12_isLotTold 8 = .ok (.if_icmp .ne 7, 3) := by decide +kernel
theorem dX12_isLotTold_11 : decode cX12_isLotTold 11 = .ok (.iconst 1, 1) := by decide +kernel
theorem dX12_isLotTold_12 : decode cX12_isLotTold 12 = .ok (.goto 4, 3) := by decide +kernel
theorem dX12_isLotTold_15 : decode cX12_isLotTold 15 = .ok (.iconst 0, 1) := by decide +kernel
theorem dX12_isLotTold_16 : decode cX12_isLotTold 16 = .ok (.ireturn, 1) := by decide +kernel
theorem dX12_isLotTold_17 : decode cX12_isLotTold 17 = .ok (.iconst 0, 1) := by decide +kernel
theorem dX12_isLotTold_18 : decode cX12_isLotTold 18 = .ok (.istore_n 3, 1) := by decide +kernel
theorem dX12_isLotTold_19 : decode cX12_isLotTold 19 = .ok (.iload_n 3, 1) := by decide +kernel
theorem dX12_isLotTold_20 : decode cX12_isLotTold 20 = .ok (.iload_n 2, 1) := by decide +kernel
theorem dX12_isLotTold_21 : decode cX12_isLotTold 21 = .ok (.if_icmp .ge 25, 3) := by decide +kernel
theorem dX12_isLotTold_24 : decode cX12_isLotTold 24 = .ok (.aload_n 0, 1) := by decide +kernel
theorem dX12_isLotTold_25 : decode cX12_isLotTold 25 = .ok (.getfield 7, 3) := by decide +kernel
theorem dX12_isLotTold_28 : decode cX12_isLotTold 28 = .ok (.iconst 3, 1) := by decide +kernel
theorem dX12_isLotTold_29 : decode cX12_isLotTold 29 = .ok (.iconst 3, 1) := by decide +kernel
theorem dX12_isLotTold_30 : decode cX12_isLotTold 30 = .ok (.iload_n 3, 1) := by decide +kernel
theorem dX12_isLotTold_31 : decode cX12_isLotTold 31 = .ok (.imul, 1) := by decide +kernel
theorem dX12_isLotTold_32 : decode cX12_isLotTold 32 = .ok (.iadd, 1) := by decide +kernel
theorem dX12_isLotTold_33 : decode cX12_isLotTold 33 = .ok (.iaload, 1) := by decide +kernel
theorem dX12_isLotTold_34 : decode cX12_isLotTold 34 = .ok (.iload_n 1, 1) := by decide +kernel
theorem dX12_isLotTold_35 : decode cX12_isLotTold 35 = .ok (.if_icmp .ne 5, 3) := by decide +kernel
theorem dX12_isLotTold_38 : decode cX12_isLotTold 38 = .ok (.iconst 1, 1) := by decide +kernel
theorem dX12_isLotTold_39 : decode cX12_isLotTold 39 = .ok (.ireturn, 1) := by decide +kernel
theorem dX12_isLotTold_40 : decode cX12_isLotTold 40 = .ok (.iinc 3 1, 3) := by decide +kernel
theorem dX12_isLotTold_43 : decode cX12_isLotTold 43 = .ok (.goto (-24), 3) := by decide +kernel
theorem dX12_isLotTold_46 : decode cX12_isLotTold 46 = .ok (.iconst 0, 1) := by decide +kernel
theorem dX12_isLotTold_47 : decode cX12_isLotTold 47 = .ok (.ireturn, 1) := by decide +kernel
set_option maxRecDepth 20000 in
theorem bk_X12_isLotTold_0 {d : Nat} {w : hb_W} {Q : Option hb_V → hb_W → Prop} {x1 : Int32} {x2 : Int32} (h : ((¬ x2 = 0) → hb_R yX12_isLotTold cX12_isLotTold 4 (some .boolean) d 19 [some (hb_r 12 0 0), some (hb_i x1), some (hb_i x2), some (hb_i (0 : Int32))] [] w Q) ∧ ((x2 = 0) → ((¬ x1 = (255 : Int32)) → Q (some (hb_i (0 : Int32))) w) ∧ ((x1 = (255 : Int32)) → Q (some (hb_i (1 : Int32))) w))) : hb_R yX12_isLotTold cX12_isLotTold 4 (some .boolean) d 0 [some (hb_r 12 0 0), some (hb_i x1), some (hb_i x2), none] [] w Q := by
  refine hb_iload_n (pc := 0) (i := 2) dX12_isLotTold_0 rfl rfl ?_
  refine hb_if_ne (pc := 1) (tgt := 17) dX12_isLotTold_1 (by decide) (fun c1 => ?_) (fun c1 => ?_)
  · have ht1 := h.1 c1
    refine hb_iconst (pc := 17) (v := 0) dX12_isLotTold_17 (by decide) ?_
    refine hb_istore_n (pc := 18) (i := 3) (ls1 := [some (hb_r 12 0 0), some (hb_i x1), some (hb_i x2), some (hb_i (0 : Int32))]) dX12_isLotTold_18 rfl (by decide) rfl ?_
    exact ht1
  · have ht1 := h.2 c1
    refine hb_iload_n (pc := 4) (i := 1) dX12_isLotTold_4 rfl rfl ?_
    refine hb_sipush (pc := 5) (v := 255) dX12_isLotTold_5 (by decide) ?_
    refine hb_icmp_ne (pc := 8) (tgt := 15) dX12_isLotTold_8 (by decide) (fun c2 => ?_) (fun c2 => ?_)
    · have ht2 := ht1.1 c2
      refine hb_iconst (pc := 15) (v := 0) dX12_isLotTold_15 (by decide) ?_
      exact hb_zret (pc := 16) dX12_isLotTold_16 rfl (Or.inl rfl) ht2
    · have ht2 := ht1.2 c2
      refine hb_iconst (pc := 11) (v := 1) dX12_isLotTold_11 (by decide) ?_
      refine hb_goto (pc := 12) (tgt := 16) dX12_isLotTold_12 (by decide) ?_
      exact hb_zret (pc := 16) dX12_isLotTold_16 rfl (Or.inr rfl) ht2
set_option maxRecDepth 20000 in
theorem bk_X12_isLotTold_19 {d : Nat} {w : hb_W} {Q : Option hb_V → hb_W → Prop} {x1 : Int32} {x2 : Int32} {x3 : Int32} (h : ((x2 ≤ x3) → Q (some (hb_i (0 : Int32))) w) ∧ ((¬ x2 ≤ x3) → vp_in ((3 : Int32) + ((3 : Int32) * x3)) 1600 ∧ (((¬ (hb_aI w 12 1 0 ((3 : Int32) + ((3 : Int32) * x3)).toNatClampNeg) = x1) → hb_R yX12_isLotTold cX12_isLotTold 4 (some .boolean) d 19 [some (hb_r 12 0 0), some (hb_i x1), some (hb_i x2), some (hb_i (x3 + (1 : Int32)))] [] w Q) ∧ (((hb_aI w 12 1 0 ((3 : Int32) + ((3 : Int32) * x3)).toNatClampNeg) = x1) → Q (some (hb_i (1 : Int32))) w)))) : hb_R yX12_isLotTold cX12_isLotTold 4 (some .boolean) d 19 [some (hb_r 12 0 0), some (hb_i x1), some (hb_i x2), some (hb_i x3)] [] w Q := by
  refine hb_iload_n (pc := 19) (i := 3) dX12_isLotTold_19 rfl rfl ?_
  refine hb_iload_n (pc := 20) (i := 2) dX12_isLotTold_20 rfl rfl ?_
  refine hb_icmp_ge (pc := 21) (tgt := 46) dX12_isLotTold_21 (by decide) (fun c1 => ?_) (fun c1 => ?_)
  · have ht1 := h.1 c1
    refine hb_iconst (pc := 46) (v := 0) dX12_isLotTold_46 (by decide) ?_
    exact hb_zret (pc := 47) dX12_isLotTold_47 rfl (Or.inl rfl) ht1
  · have ht1 := h.2 c1
    refine hb_aload_n (pc := 24) (i := 0) dX12_isLotTold_24 rfl rfl ?_
    refine hb_getR (pc := 25) (g1 := 0) dX12_isLotTold_25 fw_X12_7 cw_12 rfl (by decide) rfl (by decide) rfl ?_
    refine hb_iconst (pc := 28) (v := 3) dX12_isLotTold_28 (by decide) ?_
    refine hb_iconst (pc := 29) (v := 3) dX12_isLotTold_29 (by decide) ?_
    refine hb_iload_n (pc := 30) (i := 3) dX12_isLotTold_30 rfl rfl ?_
    refine hb_imul (pc := 31) dX12_isLotTold_31 ?_
    refine hb_iadd (pc := 32) dX12_isLotTold_32 ?_
    obtain ⟨ho2, hr2⟩ := ht1
    refine hb_ialdx (pc := 33) (x := hb_aI w 12 1 0 ((3 : Int32) + ((3 : Int32) * x3)).toNatClampNeg) dX12_isLotTold_33 rfl (by decide) ho2 rfl ?_
    refine hb_iload_n (pc := 34) (i := 1) dX12_isLotTold_34 rfl rfl ?_
    refine hb_icmp_ne (pc := 35) (tgt := 40) dX12_isLotTold_35 (by decide) (fun c3 => ?_) (fun c3 => ?_)
    · have ht3 := hr2.1 c3
      refine hb_iinc (pc := 40) (v := x3 + (1 : Int32)) (ls1 := [some (hb_r 12 0 0), some (hb_i x1), some (hb_i x2), some (hb_i (x3 + (1 : Int32)))]) dX12_isLotTold_40 rfl rfl (by decide) rfl ?_
      refine hb_goto (pc := 43) (tgt := 19) dX12_isLotTold_43 (by decide) ?_
      exact ht3
    · have ht3 := hr2.2 c3
      refine hb_iconst (pc := 38) (v := 1) dX12_isLotTold_38 (by decide) ?_
      exact hb_zret (pc := 39) dX12_isLotTold_39 rfl (Or.inr rfl) ht3
theorem dX12_isImage_0 : decode cX12_isImage 0 = .ok (.aload_n 0, 1) := by decide +kernel
theorem dX12_isImage_1 : decode cX12_isImage 1 = .ok (.getfield 302, 3) := by decide +kernel
theorem dX12_isImage_4 : decode cX12_isImage 4 = .ok (.ifCond .eq 40, 3) := by decide +kernel
theorem dX12_isImage_7 : decode cX12_isImage 7 = .ok (.iload_n 1, 1) := by decide +kernel
theorem dX12_isImage_8 : decode cX12_isImage 8 = .ok (.iconst 4, 1) := by decide +kernel
theorem dX12_isImage_9 : decode cX12_isImage 9 = .ok (.if_icmp .lt 35, 3) := by decide +kernel
theorem dX12_isImage_12 : decode cX12_isImage 12 = .ok (.aload_n 0, 1) := by decide +kernel
theorem dX12_isImage_13 : decode cX12_isImage 13 = .ok (.getfield 7, 3) := by decide +kernel
theorem dX12_isImage_16 : decode cX12_isImage 16 = .ok (.iload_n 1, 1) := by decide +kernel
theorem dX12_isImage_17 : decode cX12_isImage 17 = .ok (.iconst 1, 1) := by decide +kernel
theorem dX12_isImage_18 : decode cX12_isImage 18 = .ok (.isub, 1) := by decide +kernel
theorem dX12_isImage_19 : decode cX12_isImage 19 = .ok (.iaload, 1) := by decide +kernel
theorem dX12_isImage_20 : decode cX12_isImage 20 = .ok (.aload_n 0, 1) := by decide +kernel
theorem dX12_isImage_21 : decode cX12_isImage 21 = .ok (.getfield 7, 3) := by decide +kernel
theorem dX12_isImage_24 : decode cX12_isImage 24 = .ok (.iload_n 1, 1) := by decide +kernel
theorem dX12_isImage_25 : decode cX12_isImage 25 = .ok (.iconst 1, 1) := by decide +kernel
theorem dX12_isImage_26 : decode cX12_isImage 26 = .ok (.isub, 1) := by decide +kernel
theorem dX12_isImage_27 : decode cX12_isImage 27 = .ok (.invokestatic 609, 3) := by decide +kernel
theorem dX12_isImage_30 : decode cX12_isImage 30 = .ok (.if_icmp .ne 14, 3) := by decide +kernel
theorem dX12_isImage_33 : decode cX12_isImage 33 = .ok (.aload_n 0, 1) := by decide +kernel
theorem dX12_isImage_34 : decode cX12_isImage 34 = .ok (.getfield 7, 3) := by decide +kernel
theorem dX12_isImage_37 : decode cX12_isImage 37 = .ok (.iconst 0, 1) := by decide +kernel
theorem dX12_isImage_38 : decode cX12_isImage 38 = .ok (.iaload, 1) := by decide +kernel
theorem dX12_isImage_39 : decode cX12_isImage 39 = .ok (.bipush 99, 2) := by decide +kernel
theorem dX12_isImage_41 : decode cX12_isImage 41 = .ok (.if_icmp .le 5, 3) := by decide +kernel
theorem dX12_isImage_44 : decode cX12_isImage 44 = .ok (.iconst 0, 1) := by decide +kernel
theorem dX12_isImage_45 : decode cX12_isImage 45 = .ok (.ireturn, 1) := by decide +kernel
theorem dX12_isImage_46 : decode cX12_isImage 46 = .ok (.sipush 256, 3) := by decide +kernel
theorem dX12_isImage_49 : decode cX12_isImage 49 = .ok (.aload_n 0, 1) := by decide +kernel
theorem dX12_isImage_50 : decode cX12_isImage 50 = .ok (.getfield 7, 3) := by decide +kernel
theorem dX12_isImage_53 : decode cX12_isImage 53 = .ok (.iconst 1, 1) := by decide +kernel
theorem dX12_isImage_54 : decode cX12_isImage 54 = .ok (.iaload, 1) := by decide +kernel
theorem dX12_isImage_55 : decode cX12_isImage 55 = .ok (.imul, 1) := by decide +kernel
theorem dX12_isImage_56 : decode cX12_isImage 56 = .ok (.aload_n 0, 1) := by decide +kernel
theorem dX12_isImage_57 : decode cX12_isImage 57 = .ok (.getfield 7, 3) := by decide +kernel
theorem dX12_isImage_60 : decode cX12_isImage 60 = .ok (.iconst 2, 1) := by decide +kernel
theorem dX12_isImage_61 : decode cX12_isImage 61 = .ok (.iaload, 1) := by decide +kernel
theorem dX12_isImage_62 : decode cX12_isImage 62 = .ok (.iadd, 1) := by decide +kernel
theorem dX12_isImage_63 : decode cX12_isImage 63 = .ok (.istore_n 2, 1) := by decide +kernel
theorem dX12_isImage_64 : decode cX12_isImage 64 = .ok (.iconst 3, 1) := by decide +kernel
theorem dX12_isImage_65 : decode cX12_isImage 65 = .ok (.iconst 3, 1) := by decide +kernel
theorem dX12_isImage_66 : decode cX12_isImage 66 = .ok (.iload_n 2, 1) := by decide +kernel
theorem dX12_isImage_67 : decode cX12_isImage 67 = .ok (.imul, 1) := by decide +kernel
theorem dX12_isImage_68 : decode cX12_isImage 68 = .ok (.iadd, 1) := by decide +kernel
theorem dX12_isImage_69 : decode cX12_isImage 69 = .ok (.istore_n 3, 1) := by decide +kernel
theorem dX12_isImage_70 : decode cX12_isImage 70 = .ok (.iload_n 2, 1) := by decide +kernel
theorem dX12_isImage_71 : decode cX12_isImage 71 = .ok (.sipush 400, 3) := by decide +kernel
theorem dX12_isImage_74 : decode cX12_isImage 74 = .ok (.if_icmp .gt 17, 3) := by decide +kernel
theorem dX12_isImage_77 : decode cX12_isImage 77 = .ok (.iload_n 1, 1) := by decide +kernel
theorem dX12_isImage_78 : decode cX12_isImage 78 = .ok (.iload_n 3, 1) := by decide +kernel
theorem dX12_isImage_79 : decode cX12_isImage 79 = .ok (.aload_n 0, 1) := by decide +kernel
theorem dX12_isImage_80 : decode cX12_isImage 80 = .ok (.getfield 51, 3) := by decide +kernel
theorem dX12_isImage_83 : decode cX12_isImage 83 = .ok (.iconst 2, 1) := by decide +kernel
theorem dX12_isImage_84 : decode cX12_isImage 84 = .ok (.iaload, 1) := by decide +kernel
theorem dX12_isImage_85 : decode cX12_isImage 85 = .ok (.iadd, 1) := by decide +kernel
theorem dX12_isImage_86 : decode cX12_isImage 86 = .ok (.iconst 1, 1) := by decide +kernel
theorem dX12_isImage_87 : decode cX12_isImage 87 = .ok (.iadd, 1) := by decide +kernel
theorem dX12_isImage_88 : decode cX12_isImage 88 = .ok (.if_icmp .eq 5, 3) := by decide +kernel
theorem dX12_isImage_91 : decode cX12_isImage 91 = .ok (.iconst 0, 1) := by decide +kernel
theorem dX12_isImage_92 : decode cX12_isImage 92 = .ok (.ireturn, 1) := by decide +kernel
theorem dX12_isImage_93 : decode cX12_isImage 93 = .ok (.iconst 3, 1) := by decide +kernel
theorem dX12_isImage_94 : decode cX12_isImage 94 = .ok (.istore 4, 2) := by decide +kernel
theorem dX12_isImage_96 : decode cX12_isImage 96 = .ok (.iload 4, 2) := by decide +kernel
theorem dX12_isImage_98 : decode cX12_isImage 98 = .ok (.iload_n 3, 1) := by decide +kernel
theorem dX12_isImage_99 : decode cX12_isImage 99 = .ok (.if_icmp .ge 50, 3) := by decide +kernel
theorem dX12_isImage_102 : decode cX12_isImage 102 = .ok (.aload_n 0, 1) := by decide +kernel
theorem dX12_isImage_103 : decode cX12_isImage 103 = .ok (.getfield 7, 3) := by decide +kernel
theorem dX12_isImage_106 : decode cX12_isImage 106 = .ok (.iload 4, 2) := by decide +kernel
theorem dX12_isImage_108 : decode cX12_isImage 108 = .ok (.iaload, 1) := by decide +kernel
theorem dX12_isImage_109 : decode cX12_isImage 109 = .ok (.bipush 64, 2) := by decide +kernel
theorem dX12_isImage_111 : decode cX12_isImage 111 = .ok (.if_icmp .ge 30, 3) := by decide +kernel
theorem dX12_isImage_114 : decode cX12_isImage 114 = .ok (.aload_n 0, 1) := by decide +kernel
theorem dX12_isImage_115 : decode cX12_isImage 115 = .ok (.getfield 7, 3) := by decide +kernel
theorem dX12_isImage_118 : decode cX12_isImage 118 = .ok (.iload 4, 2) := by decide +kernel
theorem dX12_isImage_120 : decode cX12_isImage 120 = .ok (.iconst 1, 1) := by decide +kernel
theorem dX12_isImage_121 : decode cX12_isImage 121 = .ok (.iadd, 1) := by decide +kernel
theorem dX12_isImage_122 : decode cX12_isImage 122 = .ok (.iaload, 1) := by decide +kernel
theorem dX12_isImage_123 : decode cX12_isImage 123 = .ok (.bipush 99, 2) := by decide +kernel
theorem dX12_isImage_125 : decode cX12_isImage 125 = .ok (.if_icmp .gt 16, 3) := by decide +kernel
theorem dX12_isImage_128 : decode cX12_isImage 128 = .ok (.aload_n 0, 1) := by decide +kernel
theorem dX12_isImage_129 : decode cX12_isImage 129 = .ok (.getfield 7, 3) := by decide +kernel
theorem dX12_isImage_132 : decode cX12_isImage 132 = .ok (.iload 4, 2) := by decide +kernel
theorem dX12_isImage_134 : decode cX12_isImage 134 = .ok (.iconst 2, 1) := by decide +kernel
theorem dX12_isImage_135 : decode cX12_isImage 135 = .ok (.iadd, 1) := by decide +kernel
theorem dX12_isImage_136 : decode cX12_isImage 136 = .ok (.iaload, 1) := by decide +kernel
theorem dX12_isImage_137 : decode cX12_isImage 137 = .ok (.iconst 1, 1) := by decide +kernel
theorem dX12_isImage_138 : decode cX12_isImage 138 = .ok (.if_icmp .le 5, 3) := by decide +kernel
theorem dX12_isImage_141 : decode cX12_isImage 141 = .ok (.iconst 0, 1) := by decide +kernel
theorem dX12_isImage_142 : decode cX12_isImage 142 = .ok (.ireturn, 1) := by decide +kernel
theorem dX12_isImage_143 : decode cX12_isImage 143 = .ok (.iinc 4 3, 3) := by decide +kernel
theorem dX12_isImage_146 : decode cX12_isImage 146 = .ok (.goto (-50), 3) := by decide +kernel
theorem dX12_isImage_149 : decode cX12_isImage 149 = .ok (.iload_n 3, 1) := by decide +kernel
theorem dX12_isImage_150 : decode cX12_isImage 150 = .ok (.istore 4, 2) := by decide +kernel
theorem dX12_isImage_152 : decode cX12_isImage 152 = .ok (.iload 4, 2) := by decide +kernel
theorem dX12_isImage_154 : decode cX12_isImage 154 = .ok (.iload_n 1, 1) := by decide +kernel
theorem dX12_isImage_155 : decode cX12_isImage 155 = .ok (.iconst 1, 1) := by decide +kernel
theorem dX12_isImage_156 : decode cX12_isImage 156 = .ok (.isub, 1) := by decide +kernel
theorem dX12_isImage_157 : decode cX12_isImage 157 = .ok (.if_icmp .ge 26, 3) := by decide +kernel
theorem dX12_isImage_160 : decode cX12_isImage 160 = .ok (.aload_n 0, 1) := by decide +kernel
theorem dX12_isImage_161 : decode cX12_isImage 161 = .ok (.aload_n 0, 1) := by decide +kernel
theorem dX12_isImage_162 : decode cX12_isImage 162 = .ok (.getfield 7, 3) := by decide +kernel
theorem dX12_isImage_165 : decode cX12_isImage 165 = .ok (.iload 4, 2) := by decide +kernel
theorem dX12_isImage_167 : decode cX12_isImage 167 = .ok (.iaload, 1) := by decide +kernel
theorem dX12_isImage_168 : decode cX12_isImage 168 = .ok (.iload_n 2, 1) := by decide +kernel
theorem dX12_isImage_169 : decode cX12_isImage 169 = .ok (.invokevirtual 613, 3) := by decide +kernel
theorem dX12_isImage_172 : decode cX12_isImage 172 = .ok (.ifCond .ne 5, 3) := by decide +kernel
theorem dX12_isImage_175 : decode cX12_isImage 175 = .ok (.iconst 0, 1) := by decide +kernel
theorem dX12_isImage_176 : decode cX12_isImage 176 = .ok (.ireturn, 1) := by decide +kernel
theorem dX12_isImage_177 : decode cX12_isImage 177 = .ok (.iinc 4 1, 3) := by decide +kernel
theorem dX12_isImage_180 : decode cX12_isImage 180 = .ok (.goto (-28), 3) := by decide +kernel
theorem dX12_isImage_183 : decode cX12_isImage 183 = .ok (.iconst 1, 1) := by decide +kernel
theorem dX12_isImage_184 : decode cX12_isImage 184 = .ok (.ireturn, 1) := by decide +kernel
set_option maxRecDepth 20000 in
theorem bk_X12_isImage_0 {d : Nat} {w : hb_W} {Q : Option hb_V → hb_W → Prop} {x1 : Int32} (h : (((hb_fI w 12 30 0) = 0) → Q (some (hb_i (0 : Int32))) w) ∧ ((¬ (hb_fI w 12 30 0) = 0) → ((x1 < (4 : Int32)) → Q (some (hb_i (0 : Int32))) w) ∧ ((¬ x1 < (4 : Int32)) → vp_in (x1 - (1 : Int32)) 1600 ∧ (hb_O yX12_checked cX12_checked 4 (some .int) d [hb_r 12 0 1, hb_i (x1 - (1 : Int32))] w (fun rv w1 => hb_R yX12_isImage cX12_isImage 5 (some .boolean) (d + 1) 30 [some (hb_r 12 0 0), some (hb_i x1), none, none, none] (rv.toList ++ [hb_i (hb_aI w 12 1 0 (x1 - (1 : Int32)).toNatClampNeg)]) w1 Q))))) : hb_R yX12_isImage cX12_isImage 5 (some .boolean) (d + 1) 0 [some (hb_r 12 0 0), some (hb_i x1), none, none, none] [] w Q := by
  refine hb_aload_n (pc := 0) (i := 0) dX12_isImage_0 rfl rfl ?_
  refine hb_getIx (pc := 1) (x := hb_fI w 12 30 0) dX12_isImage_1 fw_X12_302 cw_12 rfl (by decide) rfl rfl ?_
  refine hb_if_eq (pc := 4) (tgt := 44) dX12_isImage_4 (by decide) (fun c1 => ?_) (fun c1 => ?_)
  · have ht1 := h.1 c1
    refine hb_iconst (pc := 44) (v := 0) dX12_isImage_44 (by decide) ?_
    exact hb_zret (pc := 45) dX12_isImage_45 rfl (Or.inl rfl) ht1
  · have ht1 := h.2 c1
    refine hb_iload_n (pc := 7) (i := 1) dX12_isImage_7 rfl rfl ?_
    refine hb_iconst (pc := 8) (v := 4) dX12_isImage_8 (by decide) ?_
    refine hb_icmp_lt (pc := 9) (tgt := 44) dX12_isImage_9 (by decide) (fun c2 => ?_) (fun c2 => ?_)
    · have ht2 := ht1.1 c2
      refine hb_iconst (pc := 44) (v := 0) dX12_isImage_44 (by decide) ?_
      exact hb_zret (pc := 45) dX12_isImage_45 rfl (Or.inl rfl) ht2
    · have ht2 := ht1.2 c2
      refine hb_aload_n (pc := 12) (i := 0) dX12_isImage_12 rfl rfl ?_
      refine hb_getR (pc := 13) (g1 := 0) dX12_isImage_13 fw_X12_7 cw_12 rfl (by decide) rfl (by decide) rfl ?_
      refine hb_iload_n (pc := 16) (i := 1) dX12_isImage_16 rfl rfl ?_
      refine hb_iconst (pc := 17) (v := 1) dX12_isImage_17 (by decide) ?_
      refine hb_isub (pc := 18) dX12_isImage_18 ?_
      obtain ⟨ho3, hr3⟩ := ht2
      refine hb_ialdx (pc := 19) (x := hb_aI w 12 1 0 (x1 - (1 : Int32)).toNatClampNeg) dX12_isImage_19 rfl (by decide) ho3 rfl ?_
      refine hb_aload_n (pc := 20) (i := 0) dX12_isImage_20 rfl rfl ?_
      refine hb_getR (pc := 21) (g1 := 0) dX12_isImage_21 fw_X12_7 cw_12 rfl (by decide) rfl (by decide) rfl ?_
      refine hb_iload_n (pc := 24) (i := 1) dX12_isImage_24 rfl rfl ?_
      refine hb_iconst (pc := 25) (v := 1) dX12_isImage_25 (by decide) ?_
      refine hb_isub (pc := 26) dX12_isImage_26 ?_
      exact hb_callS (pc := 27) (As := [hb_r 12 0 1, hb_i (x1 - (1 : Int32))]) (st := [hb_i (hb_aI w 12 1 0 (x1 - (1 : Int32)).toNatClampNeg)]) dX12_isImage_27 ml_X12_609 mf_X12_checked ms_X12_checked rfl rfl (Nat.le_of_ble_eq_true rfl) (Nat.le_of_ble_eq_true rfl) hr3 (fun _ _ q => q)
set_option maxRecDepth 20000 in
theorem bk_X12_isImage_30 {d : Nat} {w : hb_W} {Q : Option hb_V → hb_W → Prop} {x1 : Int32} {xs0 : Int32} {xs1 : Int32} (h : ((¬ xs0 = xs1) → Q (some (hb_i (0 : Int32))) w) ∧ ((xs0 = xs1) → (((hb_aI w 12 1 0 (0 : Int32).toNatClampNeg) ≤ (99 : Int32)) → (((400 : Int32) < (((256 : Int32) * (hb_aI w 12 1 0 (1 : Int32).toNatClampNeg)) + (hb_aI w 12 1 0 (2 : Int32).toNatClampNeg))) → Q (some (hb_i (0 : Int32))) w) ∧ ((¬ (400 : Int32) < (((256 : Int32) * (hb_aI w 12 1 0 (1 : Int32).toNatClampNeg)) + (hb_aI w 12 1 0 (2 : Int32).toNatClampNeg))) → ((x1 = ((((3 : Int32) + ((3 : Int32) * (((256 : Int32) * (hb_aI w 12 1 0 (1 : Int32).toNatClampNeg)) + (hb_aI w 12 1 0 (2 : Int32).toNatClampNeg)))) + (hb_aI w 12 13 0 (2 : Int32).toNatClampNeg)) + (1 : Int32))) → hb_R yX12_isImage cX12_isImage 5 (some .boolean) (d + 1) 96 [some (hb_r 12 0 0), some (hb_i x1), some (hb_i (((256 : Int32) * (hb_aI w 12 1 0 (1 : Int32).toNatClampNeg)) + (hb_aI w 12 1 0 (2 : Int32).toNatClampNeg))), some (hb_i ((3 : Int32) + ((3 : Int32) * (((256 : Int32) * (hb_aI w 12 1 0 (1 : Int32).toNatClampNeg)) + (hb_aI w 12 1 0 (2 : Int32).toNatClampNeg))))), some (hb_i (3 : Int32))] [] w Q) ∧ ((¬ x1 = ((((3 : Int32) + ((3 : Int32) * (((256 : Int32) * (hb_aI w 12 1 0 (1 : Int32).toNatClampNeg)) + (hb_aI w 12 1 0 (2 : Int32).toNatClampNeg)))) + (hb_aI w 12 13 0 (2 : Int32).toNatClampNeg)) + (1 : Int32))) → Q (some (hb_i (0 : Int32))) w))) ∧ ((¬ (hb_aI w 12 1 0 (0 : Int32).toNatClampNeg) ≤ (99 : Int32)) → Q (some (hb_i (0 : Int32))) w))) : hb_R yX12_isImage cX12_isImage 5 (some .boolean) (d + 1) 30 [some (hb_r 12 0 0), some (hb_i x1), none, none, none] [hb_i xs1, hb_i xs0] w Q := by
  refine hb_icmp_ne (pc := 30) (tgt := 44) dX12_isImage_30 (by decide) (fun c1 => ?_) (fun c1 => ?_)
  · have ht1 := h.1 c1
    refine hb_iconst (pc := 44) (v := 0) dX12_isImage_44 (by decide) ?_
    exact hb_zret (pc := 45) dX12_isImage_45 rfl (Or.inl rfl) ht1
  · have ht1 := h.2 c1
    refine hb_aload_n (pc := 33) (i := 0) dX12_isImage_33 rfl rfl ?_
    refine hb_getR (pc := 34) (g1 := 0) dX12_isImage_34 fw_X12_7 cw_12 rfl (by decide) rfl (by decide) rfl ?_
    refine hb_iconst (pc := 37) (v := 0) dX12_isImage_37 (by decide) ?_
    refine hb_ialdx (pc := 38) (x := hb_aI w 12 1 0 (0 : Int32).toNatClampNeg) dX12_isImage_38 (n := 1600) rfl (by decide) (by unfold vp_in; decide) rfl ?_
    refine hb_bipush (pc := 39) (v := 99) dX12_isImage_39 (by decide) ?_
    refine hb_icmp_le (pc := 41) (tgt := 46) dX12_isImage_41 (by decide) (fun c2 => ?_) (fun c2 => ?_)
    · have ht2 := ht1.1 c2
      refine hb_sipush (pc := 46) (v := 256) dX12_isImage_46 (by decide) ?_
      refine hb_aload_n (pc := 49) (i := 0) dX12_isImage_49 rfl rfl ?_
      refine hb_getR (pc := 50) (g1 := 0) dX12_isImage_50 fw_X12_7 cw_12 rfl (by decide) rfl (by decide) rfl ?_
      refine hb_iconst (pc := 53) (v := 1) dX12_isImage_53 (by decide) ?_
      refine hb_ialdx (pc := 54) (x := hb_aI w 12 1 0 (1 : Int32).toNatClampNeg) dX12_isImage_54 (n := 1600) rfl (by decide) (by unfold vp_in; decide) rfl ?_
      refine hb_imul (pc := 55) dX12_isImage_55 ?_
      refine hb_aload_n (pc := 56) (i := 0) dX12_isImage_56 rfl rfl ?_
      refine hb_getR (pc := 57) (g1 := 0) dX12_isImage_57 fw_X12_7 cw_12 rfl (by decide) rfl (by decide) rfl ?_
      refine hb_iconst (pc := 60) (v := 2) dX12_isImage_60 (by decide) ?_
      refine hb_ialdx (pc := 61) (x := hb_aI w 12 1 0 (2 : Int32).toNatClampNeg) dX12_isImage_61 (n := 1600) rfl (by decide) (by unfold vp_in; decide) rfl ?_
      refine hb_iadd (pc := 62) dX12_isImage_62 ?_
      refine hb_istore_n (pc := 63) (i := 2) (ls1 := [some (hb_r 12 0 0), some (hb_i x1), some (hb_i (((256 : Int32) * (hb_aI w 12 1 0 (1 : Int32).toNatClampNeg)) + (hb_aI w 12 1 0 (2 : Int32).toNatClampNeg))), none, none]) dX12_isImage_63 rfl (by decide) rfl ?_
      refine hb_iconst (pc := 64) (v := 3) dX12_isImage_64 (by decide) ?_
      refine hb_iconst (pc := 65) (v := 3) dX12_isImage_65 (by decide) ?_
      refine hb_iload_n (pc := 66) (i := 2) dX12_isImage_66 rfl rfl ?_
      refine hb_imul (pc := 67) dX12_isImage_67 ?_
      refine hb_iadd (pc := 68) dX12_isImage_68 ?_
      refine hb_istore_n (pc := 69) (i := 3) (ls1 := [some (hb_r 12 0 0), some (hb_i x1), some (hb_i (((256 : Int32) * (hb_aI w 12 1 0 (1 : Int32).toNatClampNeg)) + (hb_aI w 12 1 0 (2 : Int32).toNatClampNeg))), some (hb_i ((3 : Int32) + ((3 : Int32) * (((256 : Int32) * (hb_aI w 12 1 0 (1 : Int32).toNatClampNeg)) + (hb_aI w 12 1 0 (2 : Int32).toNatClampNeg))))), none]) dX12_isImage_69 rfl (by decide) rfl ?_
      refine hb_iload_n (pc := 70) (i := 2) dX12_isImage_70 rfl rfl ?_
      refine hb_sipush (pc := 71) (v := 400) dX12_isImage_71 (by decide) ?_
      refine hb_icmp_gt (pc := 74) (tgt := 91) dX12_isImage_74 (by decide) (fun c3 => ?_) (fun c3 => ?_)
      · have ht3 := ht2.1 c3
        refine hb_iconst (pc := 91) (v := 0) dX12_isImage_91 (by decide) ?_
        exact hb_zret (pc := 92) dX12_isImage_92 rfl (Or.inl rfl) ht3
      · have ht3 := ht2.2 c3
        refine hb_iload_n (pc := 77) (i := 1) dX12_isImage_77 rfl rfl ?_
        refine hb_iload_n (pc := 78) (i := 3) dX12_isImage_78 rfl rfl ?_
        refine hb_aload_n (pc := 79) (i := 0) dX12_isImage_79 rfl rfl ?_
        refine hb_getR (pc := 80) (g1 := 0) dX12_isImage_80 fw_X12_51 cw_12 rfl (by decide) rfl (by decide) rfl ?_
        refine hb_iconst (pc := 83) (v := 2) dX12_isImage_83 (by decide) ?_
        refine hb_ialdx (pc := 84) (x := hb_aI w 12 13 0 (2 : Int32).toNatClampNeg) dX12_isImage_84 (n := 6) rfl (by decide) (by unfold vp_in; decide) rfl ?_
        refine hb_iadd (pc := 85) dX12_isImage_85 ?_
        refine hb_iconst (pc := 86) (v := 1) dX12_isImage_86 (by decide) ?_
        refine hb_iadd (pc := 87) dX12_isImage_87 ?_
        refine hb_icmp_eq (pc := 88) (tgt := 93) dX12_isImage_88 (by decide) (fun c4 => ?_) (fun c4 => ?_)
        · have ht4 := ht3.1 c4
          refine hb_iconst (pc := 93) (v := 3) dX12_isImage_93 (by decide) ?_
          refine hb_istore (pc := 94) (i := 4) (ls1 := [some (hb_r 12 0 0), some (hb_i x1), some (hb_i (((256 : Int32) * (hb_aI w 12 1 0 (1 : Int32).toNatClampNeg)) + (hb_aI w 12 1 0 (2 : Int32).toNatClampNeg))), some (hb_i ((3 : Int32) + ((3 : Int32) * (((256 : Int32) * (hb_aI w 12 1 0 (1 : Int32).toNatClampNeg)) + (hb_aI w 12 1 0 (2 : Int32).toNatClampNeg))))), some (hb_i (3 : Int32))]) dX12_isImage_94 (by decide) rfl ?_
          exact ht4
        · have ht4 := ht3.2 c4
          refine hb_iconst (pc := 91) (v := 0) dX12_isImage_91 (by decide) ?_
          exact hb_zret (pc := 92) dX12_isImage_92 rfl (Or.inl rfl) ht4
    · have ht2 := ht1.2 c2
      refine hb_iconst (pc := 44) (v := 0) dX12_isImage_44 (by decide) ?_
      exact hb_zret (pc := 45) dX12_isImage_45 rfl (Or.inl rfl) ht2
set_option maxRecDepth 20000 in
theorem bk_X12_isImage_96 {d : Nat} {w : hb_W} {Q : Option hb_V → hb_W → Prop} {x1 : Int32} {x2 : Int32} {x3 : Int32} {x4 : Int32} (h : ((x3 ≤ x4) → hb_R yX12_isImage cX12_isImage 5 (some .boolean) (d + 1) 152 [some (hb_r 12 0 0), some (hb_i x1), some (hb_i x2), some (hb_i x3), some (hb_i x3)] [] w Q) ∧ ((¬ x3 ≤ x4) → vp_in x4 1600 ∧ ((((64 : Int32) ≤ (hb_aI w 12 1 0 x4.toNatClampNeg)) → Q (some (hb_i (0 : Int32))) w) ∧ ((¬ (64 : Int32) ≤ (hb_aI w 12 1 0 x4.toNatClampNeg)) → vp_in (x4 + (1 : Int32)) 1600 ∧ ((((99 : Int32) < (hb_aI w 12 1 0 (x4 + (1 : Int32)).toNatClampNeg)) → Q (some (hb_i (0 : Int32))) w) ∧ ((¬ (99 : Int32) < (hb_aI w 12 1 0 (x4 + (1 : Int32)).toNatClampNeg)) → vp_in (x4 + (2 : Int32)) 1600 ∧ ((((hb_aI w 12 1 0 (x4 + (2 : Int32)).toNatClampNeg) ≤ (1 : Int32)) → hb_R yX12_isImage cX12_isImage 5 (some .boolean) (d + 1) 96 [some (hb_r 12 0 0), some (hb_i x1), some (hb_i x2), some (hb_i x3), some (hb_i (x4 + (3 : Int32)))] [] w Q) ∧ ((¬ (hb_aI w 12 1 0 (x4 + (2 : Int32)).toNatClampNeg) ≤ (1 : Int32)) → Q (some (hb_i (0 : Int32))) w)))))))) : hb_R yX12_isImage cX12_isImage 5 (some .boolean) (d + 1) 96 [some (hb_r 12 0 0), some (hb_i x1), some (hb_i x2), some (hb_i x3), some (hb_i x4)] [] w Q := by
  refine hb_iload (pc := 96) dX12_isImage_96 rfl ?_
  refine hb_iload_n (pc := 98) (i := 3) dX12_isImage_98 rfl rfl ?_
  refine hb_icmp_ge (pc := 99) (tgt := 149) dX12_isImage_99 (by decide) (fun c1 => ?_) (fun c1 => ?_)
  · have ht1 := h.1 c1
    refine hb_iload_n (pc := 149) (i := 3) dX12_isImage_149 rfl rfl ?_
    refine hb_istore (pc := 150) (i := 4) (ls1 := [some (hb_r 12 0 0), some (hb_i x1), some (hb_i x2), some (hb_i x3), some (hb_i x3)]) dX12_isImage_150 (by decide) rfl ?_
    exact ht1
  · have ht1 := h.2 c1
    refine hb_aload_n (pc := 102) (i := 0) dX12_isImage_102 rfl rfl ?_
    refine hb_getR (pc := 103) (g1 := 0) dX12_isImage_103 fw_X12_7 cw_12 rfl (by decide) rfl (by decide) rfl ?_
    refine hb_iload (pc := 106) dX12_isImage_106 rfl ?_
    obtain ⟨ho2, hr2⟩ := ht1
    refine hb_ialdx (pc := 108) (x := hb_aI w 12 1 0 x4.toNatClampNeg) dX12_isImage_108 rfl (by decide) ho2 rfl ?_
    refine hb_bipush (pc := 109) (v := 64) dX12_isImage_109 (by decide) ?_
    refine hb_icmp_ge (pc := 111) (tgt := 141) dX12_isImage_111 (by decide) (fun c3 => ?_) (fun c3 => ?_)
    · have ht3 := hr2.1 c3
      refine hb_iconst (pc := 141) (v := 0) dX12_isImage_141 (by decide) ?_
      exact hb_zret (pc := 142) dX12_isImage_142 rfl (Or.inl rfl) ht3
    · have ht3 := hr2.2 c3
      refine hb_aload_n (pc := 114) (i := 0) dX12_isImage_114 rfl rfl ?_
      refine hb_getR (pc := 115) (g1 := 0) dX12_isImage_115 fw_X12_7 cw_12 rfl (by decide) rfl (by decide) rfl ?_
      refine hb_iload (pc := 118) dX12_isImage_118 rfl ?_
      refine hb_iconst (pc := 120) (v := 1) dX12_isImage_120 (by decide) ?_
      refine hb_iadd (pc := 121) dX12_isImage_121 ?_
      obtain ⟨ho4, hr4⟩ := ht3
      refine hb_ialdx (pc := 122) (x := hb_aI w 12 1 0 (x4 + (1 : Int32)).toNatClampNeg) dX12_isImage_122 rfl (by decide) ho4 rfl ?_
      refine hb_bipush (pc := 123) (v := 99) dX12_isImage_123 (by decide) ?_
      refine hb_icmp_gt (pc := 125) (tgt := 141) dX12_isImage_125 (by decide) (fun c5 => ?_) (fun c5 => ?_)
      · have ht5 := hr4.1 c5
        refine hb_iconst (pc := 141) (v := 0) dX12_isImage_141 (by decide) ?_
        exact hb_zret (pc := 142) dX12_isImage_142 rfl (Or.inl rfl) ht5
      · have ht5 := hr4.2 c5
        refine hb_aload_n (pc := 128) (i := 0) dX12_isImage_128 rfl rfl ?_
        refine hb_getR (pc := 129) (g1 := 0) dX12_isImage_129 fw_X12_7 cw_12 rfl (by decide) rfl (by decide) rfl ?_
        refine hb_iload (pc := 132) dX12_isImage_132 rfl ?_
        refine hb_iconst (pc := 134) (v := 2) dX12_isImage_134 (by decide) ?_
        refine hb_iadd (pc := 135) dX12_isImage_135 ?_
        obtain ⟨ho6, hr6⟩ := ht5
        refine hb_ialdx (pc := 136) (x := hb_aI w 12 1 0 (x4 + (2 : Int32)).toNatClampNeg) dX12_isImage_136 rfl (by decide) ho6 rfl ?_
        refine hb_iconst (pc := 137) (v := 1) dX12_isImage_137 (by decide) ?_
        refine hb_icmp_le (pc := 138) (tgt := 143) dX12_isImage_138 (by decide) (fun c7 => ?_) (fun c7 => ?_)
        · have ht7 := hr6.1 c7
          refine hb_iinc (pc := 143) (v := x4 + (3 : Int32)) (ls1 := [some (hb_r 12 0 0), some (hb_i x1), some (hb_i x2), some (hb_i x3), some (hb_i (x4 + (3 : Int32)))]) dX12_isImage_143 rfl rfl (by decide) rfl ?_
          refine hb_goto (pc := 146) (tgt := 96) dX12_isImage_146 (by decide) ?_
          exact ht7
        · have ht7 := hr6.2 c7
          refine hb_iconst (pc := 141) (v := 0) dX12_isImage_141 (by decide) ?_
          exact hb_zret (pc := 142) dX12_isImage_142 rfl (Or.inl rfl) ht7
set_option maxRecDepth 20000 in
theorem bk_X12_isImage_152 {d : Nat} {w : hb_W} {Q : Option hb_V → hb_W → Prop} {x1 : Int32} {x2 : Int32} {x3 : Int32} {x4 : Int32} (h : (((x1 - (1 : Int32)) ≤ x4) → Q (some (hb_i (1 : Int32))) w) ∧ ((¬ (x1 - (1 : Int32)) ≤ x4) → vp_in x4 1600 ∧ (hb_O yX12_isLotTold cX12_isLotTold 4 (some .boolean) d [hb_r 12 0 0, hb_i (hb_aI w 12 1 0 x4.toNatClampNeg), hb_i x2] w (fun rv w1 => hb_R yX12_isImage cX12_isImage 5 (some .boolean) (d + 1) 172 [some (hb_r 12 0 0), some (hb_i x1), some (hb_i x2), some (hb_i x3), some (hb_i x4)] (rv.toList ++ []) w1 Q)))) : hb_R yX12_isImage cX12_isImage 5 (some .boolean) (d + 1) 152 [some (hb_r 12 0 0), some (hb_i x1), some (hb_i x2), some (hb_i x3), some (hb_i x4)] [] w Q := by
  refine hb_iload (pc := 152) dX12_isImage_152 rfl ?_
  refine hb_iload_n (pc := 154) (i := 1) dX12_isImage_154 rfl rfl ?_
  refine hb_iconst (pc := 155) (v := 1) dX12_isImage_155 (by decide) ?_
  refine hb_isub (pc := 156) dX12_isImage_156 ?_
  refine hb_icmp_ge (pc := 157) (tgt := 183) dX12_isImage_157 (by decide) (fun c1 => ?_) (fun c1 => ?_)
  · have ht1 := h.1 c1
    refine hb_iconst (pc := 183) (v := 1) dX12_isImage_183 (by decide) ?_
    exact hb_zret (pc := 184) dX12_isImage_184 rfl (Or.inr rfl) ht1
  · have ht1 := h.2 c1
    refine hb_aload_n (pc := 160) (i := 0) dX12_isImage_160 rfl rfl ?_
    refine hb_aload_n (pc := 161) (i := 0) dX12_isImage_161 rfl rfl ?_
    refine hb_getR (pc := 162) (g1 := 0) dX12_isImage_162 fw_X12_7 cw_12 rfl (by decide) rfl (by decide) rfl ?_
    refine hb_iload (pc := 165) dX12_isImage_165 rfl ?_
    obtain ⟨ho2, hr2⟩ := ht1
    refine hb_ialdx (pc := 167) (x := hb_aI w 12 1 0 x4.toNatClampNeg) dX12_isImage_167 rfl (by decide) ho2 rfl ?_
    refine hb_iload_n (pc := 168) (i := 2) dX12_isImage_168 rfl rfl ?_
    exact hb_callV (pc := 169) (As := [hb_i (hb_aI w 12 1 0 x4.toNatClampNeg), hb_i x2]) (st := []) dX12_isImage_169 ml_X12_613 mf_X12_isLotTold mi_X12_isLotTold (ci := 12) rfl rfl (by decide) rfl rfl (Nat.le_of_ble_eq_true rfl) (Nat.le_of_ble_eq_true rfl) hr2 (fun _ _ q => q)
set_option maxRecDepth 20000 in
theorem bk_X12_isImage_172 {d : Nat} {w : hb_W} {Q : Option hb_V → hb_W → Prop} {x1 : Int32} {x2 : Int32} {x3 : Int32} {x4 : Int32} {xs0 : Int32} (h : ((¬ xs0 = 0) → hb_R yX12_isImage cX12_isImage 5 (some .boolean) (d + 1) 152 [some (hb_r 12 0 0), some (hb_i x1), some (hb_i x2), some (hb_i x3), some (hb_i (x4 + (1 : Int32)))] [] w Q) ∧ ((xs0 = 0) → Q (some (hb_i (0 : Int32))) w)) : hb_R yX12_isImage cX12_isImage 5 (some .boolean) (d + 1) 172 [some (hb_r 12 0 0), some (hb_i x1), some (hb_i x2), some (hb_i x3), some (hb_i x4)] [hb_i xs0] w Q := by
  refine hb_if_ne (pc := 172) (tgt := 177) dX12_isImage_172 (by decide) (fun c1 => ?_) (fun c1 => ?_)
  · have ht1 := h.1 c1
    refine hb_iinc (pc := 177) (v := x4 + (1 : Int32)) (ls1 := [some (hb_r 12 0 0), some (hb_i x1), some (hb_i x2), some (hb_i x3), some (hb_i (x4 + (1 : Int32)))]) dX12_isImage_177 rfl rfl (by decide) rfl ?_
    refine hb_goto (pc := 180) (tgt := 152) dX12_isImage_180 (by decide) ?_
    exact ht1
  · have ht1 := h.2 c1
    refine hb_iconst (pc := 175) (v := 0) dX12_isImage_175 (by decide) ?_
    exact hb_zret (pc := 176) dX12_isImage_176 rfl (Or.inl rfl) ht1
theorem dX12_on_0 : decode cX12_on 0 = .ok (.aload_n 0, 1) := by decide +kernel
theorem dX12_on_1 : decode cX12_on 1 = .ok (.getfield 192, 3) := by decide +kernel
theorem dX12_on_4 : decode cX12_on 4 = .ok (.istore_n 1, 1) := by decide +kernel
theorem dX12_on_5 : decode cX12_on 5 = .ok (.aload_n 0, 1) := by decide +kernel
theorem dX12_on_6 : decode cX12_on 6 = .ok (.iconst 0, 1) := by decide +kernel
theorem dX12_on_7 : decode cX12_on 7 = .ok (.putfield 192, 3) := by decide +kernel
theorem dX12_on_10 : decode cX12_on 10 = .ok (.aload_n 0, 1) := by decide +kernel
theorem dX12_on_11 : decode cX12_on 11 = .ok (.iload_n 1, 1) := by decide +kernel
theorem dX12_on_12 : decode cX12_on 12 = .ok (.invokevirtual 616, 3) := by decide +kernel
theorem dX12_on_15 : decode cX12_on 15 = .ok (.ifCond .ne 15, 3) := by decide +kernel
theorem dX12_on_18 : decode cX12_on 18 = .ok (.aload_n 0, 1) := by decide +kernel
theorem dX12_on_19 : decode cX12_on 19 = .ok (.getfield 17, 3) := by decide +kernel
theorem dX12_on_22 : decode cX12_on 22 = .ok (.iconst 5, 1) := by decide +kernel
theorem dX12_on_23 : decode cX12_on 23 = .ok (.dup2, 1) := by decide +kernel
theorem dX12_on_24 : decode cX12_on 24 = .ok (.iaload, 1) := by decide +kernel
theorem dX12_on_25 : decode cX12_on 25 = .ok (.iconst 1, 1) := by decide +kernel
theorem dX12_on_26 : decode cX12_on 26 = .ok (.iadd, 1) := by decide +kernel
theorem dX12_on_27 : decode cX12_on 27 = .ok (.iastore, 1) := by decide +kernel
theorem dX12_on_28 : decode cX12_on 28 = .ok (.iconst 0, 1) := by decide +kernel
theorem dX12_on_29 : decode cX12_on 29 = .ok (.ireturn, 1) := by decide +kernel
theorem dX12_on_30 : decode cX12_on 30 = .ok (.aload_n 0, 1) := by decide +kernel
theorem dX12_on_31 : decode cX12_on 31 = .ok (.getfield 66, 3) := by decide +kernel
theorem dX12_on_34 : decode cX12_on 34 = .ok (.iconst 0, 1) := by decide +kernel
theorem dX12_on_35 : decode cX12_on 35 = .ok (.aload_n 0, 1) := by decide +kernel
theorem dX12_on_36 : decode cX12_on 36 = .ok (.getfield 7, 3) := by decide +kernel
theorem dX12_on_39 : decode cX12_on 39 = .ok (.iconst 0, 1) := by decide +kernel
theorem dX12_on_40 : decode cX12_on 40 = .ok (.iaload, 1) := by decide +kernel
theorem dX12_on_41 : decode cX12_on 41 = .ok (.iastore, 1) := by decide +kernel
theorem dX12_on_42 : decode cX12_on 42 = .ok (.aload_n 0, 1) := by decide +kernel
theorem dX12_on_43 : decode cX12_on 43 = .ok (.getfield 66, 3) := by decide +kernel
theorem dX12_on_46 : decode cX12_on 46 = .ok (.iconst 1, 1) := by decide +kernel
theorem dX12_on_47 : decode cX12_on 47 = .ok (.sipush 256, 3) := by decide +kernel
theorem dX12_on_50 : decode cX12_on 50 = .ok (.aload_n 0, 1) := by decide +kernel
theorem dX12_on_51 : decode cX12_on 51 = .ok (.getfield 7, 3) := by decide +kernel
theorem dX12_on_54 : decode cX12_on 54 = .ok (.iconst 1, 1) := by decide +kernel
theorem dX12_on_55 : decode cX12_on 55 = .ok (.iaload, 1) := by decide +kernel
theorem dX12_on_56 : decode cX12_on 56 = .ok (.imul, 1) := by decide +kernel
theorem dX12_on_57 : decode cX12_on 57 = .ok (.aload_n 0, 1) := by decide +kernel
theorem dX12_on_58 : decode cX12_on 58 = .ok (.getfield 7, 3) := by decide +kernel
theorem dX12_on_61 : decode cX12_on 61 = .ok (.iconst 2, 1) := by decide +kernel
theorem dX12_on_62 : decode cX12_on 62 = .ok (.iaload, 1) := by decide +kernel
theorem dX12_on_63 : decode cX12_on 63 = .ok (.iadd, 1) := by decide +kernel
theorem dX12_on_64 : decode cX12_on 64 = .ok (.iastore, 1) := by decide +kernel
theorem dX12_on_65 : decode cX12_on 65 = .ok (.iconst 0, 1) := by decide +kernel
theorem dX12_on_66 : decode cX12_on 66 = .ok (.istore_n 2, 1) := by decide +kernel
theorem dX12_on_67 : decode cX12_on 67 = .ok (.iload_n 2, 1) := by decide +kernel
theorem dX12_on_68 : decode cX12_on 68 = .ok (.iconst 3, 1) := by decide +kernel
theorem dX12_on_69 : decode cX12_on 69 = .ok (.aload_n 0, 1) := by decide +kernel
theorem dX12_on_70 : decode cX12_on 70 = .ok (.getfield 66, 3) := by decide +kernel
theorem dX12_on_73 : decode cX12_on 73 = .ok (.iconst 1, 1) := by decide +kernel
theorem dX12_on_74 : decode cX12_on 74 = .ok (.iaload, 1) := by decide +kernel
theorem dX12_on_75 : decode cX12_on 75 = .ok (.imul, 1) := by decide +kernel
theorem dX12_on_76 : decode cX12_on 76 = .ok (.if_icmp .ge 23, 3) := by decide +kernel
theorem dX12_on_79 : decode cX12_on 79 = .ok (.aload_n 0, 1) := by decide +kernel
theorem dX12_on_80 : decode cX12_on 80 = .ok (.getfield 69, 3) := by decide +kernel
theorem dX12_on_83 : decode cX12_on 83 = .ok (.iload_n 2, 1) := by decide +kernel
theorem dX12_on_84 : decode cX12_on 84 = .ok (.aload_n 0, 1) := by decide +kernel
theorem dX12_on_85 : decode cX12_on 85 = .ok (.getfield 7, 3) := by decide +kernel
theorem dX12_on_88 : decode cX12_on 88 = .ok (.iconst 3, 1) := by decide +kernel
theorem dX12_on_89 : decode cX12_on 89 = .ok (.iload_n 2, 1) := by decide +kernel
theorem dX12_on_90 : decode cX12_on 90 = .ok (.iadd, 1) := by decide +kernel
theorem dX12_on_91 : decode cX12_on 91 = .ok (.iaload, 1) := by decide +kernel
theorem dX12_on_92 : decode cX12_on 92 = .ok (.iastore, 1) := by decide +kernel
theorem dX12_on_93 : decode cX12_on 93 = .ok (.iinc 2 1, 3) := by decide +kernel
theorem dX12_on_96 : decode cX12_on 96 = .ok (.goto (-29), 3) := by decide +kernel
theorem dX12_on_99 : decode cX12_on 99 = .ok (.iconst 0, 1) := by decide +kernel
theorem dX12_on_100 : decode cX12_on 100 = .ok (.istore_n 2, 1) := by decide +kernel
theorem dX12_on_101 : decode cX12_on 101 = .ok (.iload_n 2, 1) := by decide +kernel
theorem dX12_on_102 : decode cX12_on 102 = .ok (.aload_n 0, 1) := by decide +kernel
theorem dX12_on_103 : decode cX12_on 103 = .ok (.getfield 51, 3) := by decide +kernel
theorem dX12_on_106 : decode cX12_on 106 = .ok (.iconst 2, 1) := by decide +kernel
theorem dX12_on_107 : decode cX12_on 107 = .ok (.iaload, 1) := by decide +kernel
theorem dX12_on_108 : decode cX12_on 108 = .ok (.if_icmp .ge 47, 3) := by decide +kernel
theorem dX12_on_111 : decode cX12_on 111 = .ok (.aload_n 0, 1) := by decide +kernel
theorem dX12_on_112 : decode cX12_on 112 = .ok (.getfield 66, 3) := by decide +kernel
theorem dX12_on_115 : decode cX12_on 115 = .ok (.iconst 2, 1) := by decide +kernel
theorem dX12_on_116 : decode cX12_on 116 = .ok (.iload_n 2, 1) := by decide +kernel
theorem dX12_on_117 : decode cX12_on 117 = .ok (.iadd, 1) := by decide +kernel
theorem dX12_on_118 : decode cX12_on 118 = .ok (.aload_n 0, 1) := by decide +kernel
theorem dX12_on_119 : decode cX12_on 119 = .ok (.getfield 66, 3) := by decide +kernel
theorem dX12_on_122 : decode cX12_on 122 = .ok (.iconst 1, 1) := by decide +kernel
theorem dX12_on_123 : decode cX12_on 123 = .ok (.iaload, 1) := by decide +kernel
theorem dX12_on_124 : decode cX12_on 124 = .ok (.ifCond .ne 7, 3) := by decide +kernel
theorem dX12_on_127 : decode cX12_on 127 = .ok (.iconst (-1), 1) := by decide +kernel
theorem dX12_on_128 : decode cX12_on 128 = .ok (.goto 20, 3) := by decide +kernel
theorem dX12_on_131 : decode cX12_on 131 = .ok (.aload_n 0, 1) := by decide +kernel
theorem dX12_on_132 : decode cX12_on 132 = .ok (.getfield 7, 3) := by decide +kernel
theorem dX12_on_135 : decode cX12_on 135 = .ok (.iconst 3, 1) := by decide +kernel
theorem dX12_on_136 : decode cX12_on 136 = .ok (.iconst 3, 1) := by decide +kernel
theorem dX12_on_137 : decode cX12_on 137 = .ok (.aload_n 0, 1) := by decide +kernel
theorem dX12_on_138 : decode cX12_on 138 = .ok (.getfield 66, 3) := by decide +kernel
theorem dX12_on_141 : decode cX12_on 141 = .ok (.iconst 1, 1) := by decide +kernel
theorem dX12_on_142 : decode cX12_on 142 = .ok (.iaload, 1) := by decide +kernel
theorem dX12_on_143 : decode cX12_on 143 = .ok (.imul, 1) := by decide +kernel
theorem dX12_on_144 : decode cX12_on 144 = .ok (.iadd, 1) := by decide +kernel
theorem dX12_on_145 : decode cX12_on 145 = .ok (.iload_n 2, 1) := by decide +kernel
theorem dX12_on_146 : decode cX12_on 146 = .ok (.iadd, 1) := by decide +kernel
theorem dX12_on_147 : decode cX12_on 147 = .ok (.iaload, 1) := by decide +kernel
theorem dX12_on_148 : decode cX12_on 148 = .ok (.iastore, 1) := by decide +kernel
theorem dX12_on_149 : decode cX12_on 149 = .ok (.iinc 2 1, 3) := by decide +kernel
theorem dX12_on_152 : decode cX12_on 152 = .ok (.goto (-51), 3) := by decide +kernel
theorem dX12_on_155 : decode cX12_on 155 = .ok (.aload_n 0, 1) := by decide +kernel
theorem dX12_on_156 : decode cX12_on 156 = .ok (.iconst 0, 1) := by decide +kernel
theorem dX12_on_157 : decode cX12_on 157 = .ok (.putfield 309, 3) := by decide +kernel
theorem dX12_on_160 : decode cX12_on 160 = .ok (.iconst 1, 1) := by decide +kernel
theorem dX12_on_161 : decode cX12_on 161 = .ok (.ireturn, 1) := by decide +kernel
set_option maxRecDepth 20000 in
theorem bk_X12_on_0 {d : Nat} {w : hb_W} {Q : Option hb_V → hb_W → Prop} (h : hb_O yX12_isImage cX12_isImage 5 (some .boolean) d [hb_r 12 0 0, hb_i (hb_fI w 12 1 0)] (hb_pI w 12 1 0 (0 : Int32)) (fun rv w1 => hb_R yX12_on cX12_on 3 (some .boolean) (d + 1) 15 [some (hb_r 12 0 0), some (hb_i (hb_fI w 12 1 0)), none] (rv.toList ++ []) w1 Q)) : hb_R yX12_on cX12_on 3 (some .boolean) (d + 1) 0 [some (hb_r 12 0 0), none, none] [] w Q := by
  refine hb_aload_n (pc := 0) (i := 0) dX12_on_0 rfl rfl ?_
  refine hb_getIx (pc := 1) (x := hb_fI w 12 1 0) dX12_on_1 fw_X12_192 cw_12 rfl (by decide) rfl rfl ?_
  refine hb_istore_n (pc := 4) (i := 1) (ls1 := [some (hb_r 12 0 0), some (hb_i (hb_fI w 12 1 0)), none]) dX12_on_4 rfl (by decide) rfl ?_
  refine hb_aload_n (pc := 5) (i := 0) dX12_on_5 rfl rfl ?_
  refine hb_iconst (pc := 6) (v := 0) dX12_on_6 (by decide) ?_
  refine hb_putI (pc := 7) dX12_on_7 fw_X12_192 cw_12 pw_12_1 rfl (by decide) rfl rfl rfl ?_
  refine hb_aload_n (pc := 10) (i := 0) dX12_on_10 rfl rfl ?_
  refine hb_iload_n (pc := 11) (i := 1) dX12_on_11 rfl rfl ?_
  exact hb_callV (pc := 12) (As := [hb_i (hb_fI w 12 1 0)]) (st := []) dX12_on_12 ml_X12_616 mf_X12_isImage mi_X12_isImage (ci := 12) rfl rfl (by decide) rfl rfl (Nat.le_of_ble_eq_true rfl) (Nat.le_of_ble_eq_true rfl) h (fun _ _ q => q)
set_option maxRecDepth 20000 in
theorem bk_X12_on_15 {d : Nat} {w : hb_W} {Q : Option hb_V → hb_W → Prop} {x1 : Int32} {xs0 : Int32} (h : ((¬ xs0 = 0) → hb_R yX12_on cX12_on 3 (some .boolean) (d + 1) 67 [some (hb_r 12 0 0), some (hb_i x1), some (hb_i (0 : Int32))] [] (hb_sI (hb_sI w 12 18 0 (upd (hb_aI w 12 18 0) (0 : Int32).toNatClampNeg (hb_aI w 12 1 0 (0 : Int32).toNatClampNeg))) 12 18 0 (upd (upd (hb_aI w 12 18 0) (0 : Int32).toNatClampNeg (hb_aI w 12 1 0 (0 : Int32).toNatClampNeg)) (1 : Int32).toNatClampNeg (((256 : Int32) * (hb_aI w 12 1 0 (1 : Int32).toNatClampNeg)) + (hb_aI w 12 1 0 (2 : Int32).toNatClampNeg)))) Q) ∧ ((xs0 = 0) → Q (some (hb_i (0 : Int32))) (hb_sI w 12 2 0 (upd (hb_aI w 12 2 0) (5 : Int32).toNatClampNeg ((hb_aI w 12 2 0 (5 : Int32).toNatClampNeg) + (1 : Int32)))))) : hb_R yX12_on cX12_on 3 (some .boolean) (d + 1) 15 [some (hb_r 12 0 0), some (hb_i x1), none] [hb_i xs0] w Q := by
  refine hb_if_ne (pc := 15) (tgt := 30) dX12_on_15 (by decide) (fun c1 => ?_) (fun c1 => ?_)
  · have ht1 := h.1 c1
    refine hb_aload_n (pc := 30) (i := 0) dX12_on_30 rfl rfl ?_
    refine hb_getR (pc := 31) (g1 := 0) dX12_on_31 fw_X12_66 cw_12 rfl (by decide) rfl (by decide) rfl ?_
    refine hb_iconst (pc := 34) (v := 0) dX12_on_34 (by decide) ?_
    refine hb_aload_n (pc := 35) (i := 0) dX12_on_35 rfl rfl ?_
    refine hb_getR (pc := 36) (g1 := 0) dX12_on_36 fw_X12_7 cw_12 rfl (by decide) rfl (by decide) rfl ?_
    refine hb_iconst (pc := 39) (v := 0) dX12_on_39 (by decide) ?_
    refine hb_ialdx (pc := 40) (x := hb_aI w 12 1 0 (0 : Int32).toNatClampNeg) dX12_on_40 (n := 1600) rfl (by decide) (by unfold vp_in; decide) rfl ?_
    refine hb_iastx (pc := 41) (f := upd (hb_aI w 12 18 0) (0 : Int32).toNatClampNeg (hb_aI w 12 1 0 (0 : Int32).toNatClampNeg)) dX12_on_41 (n := 11) rfl (by decide) (by unfold vp_in; decide) rfl ?_
    refine hb_aload_n (pc := 42) (i := 0) dX12_on_42 rfl rfl ?_
    refine hb_getR (pc := 43) (g1 := 0) dX12_on_43 fw_X12_66 cw_12 rfl (by decide) rfl (by decide) rfl ?_
    refine hb_iconst (pc := 46) (v := 1) dX12_on_46 (by decide) ?_
    refine hb_sipush (pc := 47) (v := 256) dX12_on_47 (by decide) ?_
    refine hb_aload_n (pc := 50) (i := 0) dX12_on_50 rfl rfl ?_
    refine hb_getR (pc := 51) (g1 := 0) dX12_on_51 fw_X12_7 cw_12 rfl (by decide) rfl (by decide) rfl ?_
    refine hb_iconst (pc := 54) (v := 1) dX12_on_54 (by decide) ?_
    refine hb_ialdx (pc := 55) (x := hb_aI w 12 1 0 (1 : Int32).toNatClampNeg) dX12_on_55 (n := 1600) rfl (by decide) (by unfold vp_in; decide) rfl ?_
    refine hb_imul (pc := 56) dX12_on_56 ?_
    refine hb_aload_n (pc := 57) (i := 0) dX12_on_57 rfl rfl ?_
    refine hb_getR (pc := 58) (g1 := 0) dX12_on_58 fw_X12_7 cw_12 rfl (by decide) rfl (by decide) rfl ?_
    refine hb_iconst (pc := 61) (v := 2) dX12_on_61 (by decide) ?_
    refine hb_ialdx (pc := 62) (x := hb_aI w 12 1 0 (2 : Int32).toNatClampNeg) dX12_on_62 (n := 1600) rfl (by decide) (by unfold vp_in; decide) rfl ?_
    refine hb_iadd (pc := 63) dX12_on_63 ?_
    refine hb_iastx (pc := 64) (f := upd (upd (hb_aI w 12 18 0) (0 : Int32).toNatClampNeg (hb_aI w 12 1 0 (0 : Int32).toNatClampNeg)) (1 : Int32).toNatClampNeg (((256 : Int32) * (hb_aI w 12 1 0 (1 : Int32).toNatClampNeg)) + (hb_aI w 12 1 0 (2 : Int32).toNatClampNeg))) dX12_on_64 (n := 11) rfl (by decide) (by unfold vp_in; decide) rfl ?_
    refine hb_iconst (pc := 65) (v := 0) dX12_on_65 (by decide) ?_
    refine hb_istore_n (pc := 66) (i := 2) (ls1 := [some (hb_r 12 0 0), some (hb_i x1), some (hb_i (0 : Int32))]) dX12_on_66 rfl (by decide) rfl ?_
    exact ht1
  · have ht1 := h.2 c1
    refine hb_aload_n (pc := 18) (i := 0) dX12_on_18 rfl rfl ?_
    refine hb_getR (pc := 19) (g1 := 0) dX12_on_19 fw_X12_17 cw_12 rfl (by decide) rfl (by decide) rfl ?_
    refine hb_iconst (pc := 22) (v := 5) dX12_on_22 (by decide) ?_
    refine hb_dup2ir (pc := 23) dX12_on_23 ?_
    refine hb_ialdx (pc := 24) (x := hb_aI w 12 2 0 (5 : Int32).toNatClampNeg) dX12_on_24 (n := 6) rfl (by decide) (by unfold vp_in; decide) rfl ?_
    refine hb_iconst (pc := 25) (v := 1) dX12_on_25 (by decide) ?_
    refine hb_iadd (pc := 26) dX12_on_26 ?_
    refine hb_iastx (pc := 27) (f := upd (hb_aI w 12 2 0) (5 : Int32).toNatClampNeg ((hb_aI w 12 2 0 (5 : Int32).toNatClampNeg) + (1 : Int32))) dX12_on_27 (n := 6) rfl (by decide) (by unfold vp_in; decide) rfl ?_
    refine hb_iconst (pc := 28) (v := 0) dX12_on_28 (by decide) ?_
    exact hb_zret (pc := 29) dX12_on_29 rfl (Or.inl rfl) ht1
set_option maxRecDepth 20000 in
theorem bk_X12_on_67 {d : Nat} {w : hb_W} {Q : Option hb_V → hb_W → Prop} {x1 : Int32} {x2 : Int32} (h : ((((3 : Int32) * (hb_aI w 12 18 0 (1 : Int32).toNatClampNeg)) ≤ x2) → hb_R yX12_on cX12_on 3 (some .boolean) (d + 1) 101 [some (hb_r 12 0 0), some (hb_i x1), some (hb_i (0 : Int32))] [] w Q) ∧ ((¬ ((3 : Int32) * (hb_aI w 12 18 0 (1 : Int32).toNatClampNeg)) ≤ x2) → vp_in ((3 : Int32) + x2) 1600 ∧ (vp_in x2 1203 ∧ (hb_R yX12_on cX12_on 3 (some .boolean) (d + 1) 67 [some (hb_r 12 0 0), some (hb_i x1), some (hb_i (x2 + (1 : Int32)))] [] (hb_sI w 12 19 0 (upd (hb_aI w 12 19 0) x2.toNatClampNeg (hb_aI w 12 1 0 ((3 : Int32) + x2).toNatClampNeg))) Q)))) : hb_R yX12_on cX12_on 3 (some .boolean) (d + 1) 67 [some (hb_r 12 0 0), some (hb_i x1), some (hb_i x2)] [] w Q := by
  refine hb_iload_n (pc := 67) (i := 2) dX12_on_67 rfl rfl ?_
  refine hb_iconst (pc := 68) (v := 3) dX12_on_68 (by decide) ?_
  refine hb_aload_n (pc := 69) (i := 0) dX12_on_69 rfl rfl ?_
  refine hb_getR (pc := 70) (g1 := 0) dX12_on_70 fw_X12_66 cw_12 rfl (by decide) rfl (by decide) rfl ?_
  refine hb_iconst (pc := 73) (v := 1) dX12_on_73 (by decide) ?_
  refine hb_ialdx (pc := 74) (x := hb_aI w 12 18 0 (1 : Int32).toNatClampNeg) dX12_on_74 (n := 11) rfl (by decide) (by unfold vp_in; decide) rfl ?_
  refine hb_imul (pc := 75) dX12_on_75 ?_
  refine hb_icmp_ge (pc := 76) (tgt := 99) dX12_on_76 (by decide) (fun c1 => ?_) (fun c1 => ?_)
  · have ht1 := h.1 c1
    refine hb_iconst (pc := 99) (v := 0) dX12_on_99 (by decide) ?_
    refine hb_istore_n (pc := 100) (i := 2) (ls1 := [some (hb_r 12 0 0), some (hb_i x1), some (hb_i (0 : Int32))]) dX12_on_100 rfl (by decide) rfl ?_
    exact ht1
  · have ht1 := h.2 c1
    refine hb_aload_n (pc := 79) (i := 0) dX12_on_79 rfl rfl ?_
    refine hb_getR (pc := 80) (g1 := 0) dX12_on_80 fw_X12_69 cw_12 rfl (by decide) rfl (by decide) rfl ?_
    refine hb_iload_n (pc := 83) (i := 2) dX12_on_83 rfl rfl ?_
    refine hb_aload_n (pc := 84) (i := 0) dX12_on_84 rfl rfl ?_
    refine hb_getR (pc := 85) (g1 := 0) dX12_on_85 fw_X12_7 cw_12 rfl (by decide) rfl (by decide) rfl ?_
    refine hb_iconst (pc := 88) (v := 3) dX12_on_88 (by decide) ?_
    refine hb_iload_n (pc := 89) (i := 2) dX12_on_89 rfl rfl ?_
    refine hb_iadd (pc := 90) dX12_on_90 ?_
    obtain ⟨ho2, hr2⟩ := ht1
    refine hb_ialdx (pc := 91) (x := hb_aI w 12 1 0 ((3 : Int32) + x2).toNatClampNeg) dX12_on_91 rfl (by decide) ho2 rfl ?_
    obtain ⟨ho3, hr3⟩ := hr2
    refine hb_iastx (pc := 92) (f := upd (hb_aI w 12 19 0) x2.toNatClampNeg (hb_aI w 12 1 0 ((3 : Int32) + x2).toNatClampNeg)) dX12_on_92 rfl (by decide) ho3 rfl ?_
    refine hb_iinc (pc := 93) (v := x2 + (1 : Int32)) (ls1 := [some (hb_r 12 0 0), some (hb_i x1), some (hb_i (x2 + (1 : Int32)))]) dX12_on_93 rfl rfl (by decide) rfl ?_
    refine hb_goto (pc := 96) (tgt := 67) dX12_on_96 (by decide) ?_
    exact hr3
set_option maxRecDepth 20000 in
theorem bk_X12_on_101 {d : Nat} {w : hb_W} {Q : Option hb_V → hb_W → Prop} {x1 : Int32} {x2 : Int32} (h : (((hb_aI w 12 13 0 (2 : Int32).toNatClampNeg) ≤ x2) → Q (some (hb_i (1 : Int32))) (hb_pI w 12 55 0 (0 : Int32))) ∧ ((¬ (hb_aI w 12 13 0 (2 : Int32).toNatClampNeg) ≤ x2) → ((¬ (hb_aI w 12 18 0 (1 : Int32).toNatClampNeg) = 0) → vp_in (((3 : Int32) + ((3 : Int32) * (hb_aI w 12 18 0 (1 : Int32).toNatClampNeg))) + x2) 1600 ∧ (vp_in ((2 : Int32) + x2) 11 ∧ (hb_R yX12_on cX12_on 3 (some .boolean) (d + 1) 101 [some (hb_r 12 0 0), some (hb_i x1), some (hb_i (x2 + (1 : Int32)))] [] (hb_sI w 12 18 0 (upd (hb_aI w 12 18 0) ((2 : Int32) + x2).toNatClampNeg (hb_aI w 12 1 0 (((3 : Int32) + ((3 : Int32) * (hb_aI w 12 18 0 (1 : Int32).toNatClampNeg))) + x2).toNatClampNeg))) Q))) ∧ (((hb_aI w 12 18 0 (1 : Int32).toNatClampNeg) = 0) → vp_in ((2 : Int32) + x2) 11 ∧ (hb_R yX12_on cX12_on 3 (some .boolean) (d + 1) 101 [some (hb_r 12 0 0), some (hb_i x1), some (hb_i (x2 + (1 : Int32)))] [] (hb_sI w 12 18 0 (upd (hb_aI w 12 18 0) ((2 : Int32) + x2).toNatClampNeg (-1 : Int32))) Q)))) : hb_R yX12_on cX12_on 3 (some .boolean) (d + 1) 101 [some (hb_r 12 0 0), some (hb_i x1), some (hb_i x2)] [] w Q := by
  refine hb_iload_n (pc := 101) (i := 2) dX12_on_101 rfl rfl ?_
  refine hb_aload_n (pc := 102) (i := 0) dX12_on_102 rfl rfl ?_
  refine hb_getR (pc := 103) (g1 := 0) dX12_on_103 fw_X12_51 cw_12 rfl (by decide) rfl (by decide) rfl ?_
  refine hb_iconst (pc := 106) (v := 2) dX12_on_106 (by decide) ?_
  refine hb_ialdx (pc := 107) (x := hb_aI w 12 13 0 (2 : Int32).toNatClampNeg) dX12_on_107 (n := 6) rfl (by decide) (by unfold vp_in; decide) rfl ?_
  refine hb_icmp_ge (pc := 108) (tgt := 155) dX12_on_108 (by decide) (fun c1 => ?_) (fun c1 => ?_)
  · have ht1 := h.1 c1
    refine hb_aload_n (pc := 155) (i := 0) dX12_on_155 rfl rfl ?_
    refine hb_iconst (pc := 156) (v := 0) dX12_on_156 (by decide) ?_
    refine hb_putI (pc := 157) dX12_on_157 fw_X12_309 cw_12 pw_12_55 rfl (by decide) rfl rfl rfl ?_
    refine hb_iconst (pc := 160) (v := 1) dX12_on_160 (by decide) ?_
    exact hb_zret (pc := 161) dX12_on_161 rfl (Or.inr rfl) ht1
  · have ht1 := h.2 c1
    refine hb_aload_n (pc := 111) (i := 0) dX12_on_111 rfl rfl ?_
    refine hb_getR (pc := 112) (g1 := 0) dX12_on_112 fw_X12_66 cw_12 rfl (by decide) rfl (by decide) rfl ?_
    refine hb_iconst (pc := 115) (v := 2) dX12_on_115 (by decide) ?_
    refine hb_iload_n (pc := 116) (i := 2) dX12_on_116 rfl rfl ?_
    refine hb_iadd (pc := 117) dX12_on_117 ?_
    refine hb_aload_n (pc := 118) (i := 0) dX12_on_118 rfl rfl ?_
    refine hb_getR (pc := 119) (g1 := 0) dX12_on_119 fw_X12_66 cw_12 rfl (by decide) rfl (by decide) rfl ?_
    refine hb_iconst (pc := 122) (v := 1) dX12_on_122 (by decide) ?_
    refine hb_ialdx (pc := 123) (x := hb_aI w 12 18 0 (1 : Int32).toNatClampNeg) dX12_on_123 (n := 11) rfl (by decide) (by unfold vp_in; decide) rfl ?_
    refine hb_if_ne (pc := 124) (tgt := 131) dX12_on_124 (by decide) (fun c2 => ?_) (fun c2 => ?_)
    · have ht2 := ht1.1 c2
      refine hb_aload_n (pc := 131) (i := 0) dX12_on_131 rfl rfl ?_
      refine hb_getR (pc := 132) (g1 := 0) dX12_on_132 fw_X12_7 cw_12 rfl (by decide) rfl (by decide) rfl ?_
      refine hb_iconst (pc := 135) (v := 3) dX12_on_135 (by decide) ?_
      refine hb_iconst (pc := 136) (v := 3) dX12_on_136 (by decide) ?_
      refine hb_aload_n (pc := 137) (i := 0) dX12_on_137 rfl rfl ?_
      refine hb_getR (pc := 138) (g1 := 0) dX12_on_138 fw_X12_66 cw_12 rfl (by decide) rfl (by decide) rfl ?_
      refine hb_iconst (pc := 141) (v := 1) dX12_on_141 (by decide) ?_
      refine hb_ialdx (pc := 142) (x := hb_aI w 12 18 0 (1 : Int32).toNatClampNeg) dX12_on_142 (n := 11) rfl (by decide) (by unfold vp_in; decide) rfl ?_
      refine hb_imul (pc := 143) dX12_on_143 ?_
      refine hb_iadd (pc := 144) dX12_on_144 ?_
      refine hb_iload_n (pc := 145) (i := 2) dX12_on_145 rfl rfl ?_
      refine hb_iadd (pc := 146) dX12_on_146 ?_
      obtain ⟨ho3, hr3⟩ := ht2
      refine hb_ialdx (pc := 147) (x := hb_aI w 12 1 0 (((3 : Int32) + ((3 : Int32) * (hb_aI w 12 18 0 (1 : Int32).toNatClampNeg))) + x2).toNatClampNeg) dX12_on_147 rfl (by decide) ho3 rfl ?_
      obtain ⟨ho4, hr4⟩ := hr3
      refine hb_iastx (pc := 148) (f := upd (hb_aI w 12 18 0) ((2 : Int32) + x2).toNatClampNeg (hb_aI w 12 1 0 (((3 : Int32) + ((3 : Int32) * (hb_aI w 12 18 0 (1 : Int32).toNatClampNeg))) + x2).toNatClampNeg)) dX12_on_148 rfl (by decide) ho4 rfl ?_
      refine hb_iinc (pc := 149) (v := x2 + (1 : Int32)) (ls1 := [some (hb_r 12 0 0), some (hb_i x1), some (hb_i (x2 + (1 : Int32)))]) dX12_on_149 rfl rfl (by decide) rfl ?_
      refine hb_goto (pc := 152) (tgt := 101) dX12_on_152 (by decide) ?_
      exact hr4
    · have ht2 := ht1.2 c2
      refine hb_iconst (pc := 127) (v := -1) dX12_on_127 (by decide) ?_
      refine hb_goto (pc := 128) (tgt := 148) dX12_on_128 (by decide) ?_
      obtain ⟨ho5, hr5⟩ := ht2
      refine hb_iastx (pc := 148) (f := upd (hb_aI w 12 18 0) ((2 : Int32) + x2).toNatClampNeg (-1 : Int32)) dX12_on_148 rfl (by decide) ho5 rfl ?_
      refine hb_iinc (pc := 149) (v := x2 + (1 : Int32)) (ls1 := [some (hb_r 12 0 0), some (hb_i x1), some (hb_i (x2 + (1 : Int32)))]) dX12_on_149 rfl rfl (by decide) rfl ?_
      refine hb_goto (pc := 152) (tgt := 101) dX12_on_152 (by decide) ?_
      exact hr5
theorem dX12_status_0 : decode cX12_status 0 = .ok (.iload_n 1, 1) := by decide +kernel
theorem dX12_status_1 : decode cX12_status 1 = .ok (.i2l, 1) := by decide +kernel
theorem dX12_status_2 : decode cX12_status 2 = .ok (.lconst 0, 1) := by decide +kernel
theorem dX12_status_3 : decode cX12_status 3 = .ok (.ldc2_w 458, 3) := by decide +kernel
theorem dX12_status_6 : decode cX12_status 6 = .ok (.invokestatic 238, 3) := by decide +kernel
theorem dX12_status_9 : decode cX12_status 9 = .ok (.ifCond .eq 12, 3) := by decide +kernel
theorem dX12_status_12 : decode cX12_status 12 = .ok (.aload_n 0, 1) := by decide +kernel
theorem dX12_status_13 : decode cX12_status 13 = .ok (.getfield 17, 3) := by decide +kernel
theorem dX12_status_16 : decode cX12_status 16 = .ok (.iload_n 1, 1) := by decide +kernel
theorem dX12_status_17 : decode cX12_status 17 = .ok (.iaload, 1) := by decide +kernel
theorem dX12_status_18 : decode cX12_status 18 = .ok (.goto 4, 3) := by decide +kernel
theorem dX12_status_21 : decode cX12_status 21 = .ok (.iconst (-1), 1) := by decide +kernel
theorem dX12_status_22 : decode cX12_status 22 = .ok (.ireturn, 1) := by decide +kernel
set_option maxRecDepth 20000 in
theorem bk_X12_status_0 {d : Nat} {w : hb_W} {Q : Option hb_V → hb_W → Prop} {x1 : Int32} (h : hb_O yX12_isIn cX12_isIn 6 (some .boolean) d [hb_l x1.toInt64, hb_l (0 : Int64), hb_l (5 : Int64)] w (fun rv w1 => hb_R yX12_status cX12_status 2 (some .int) (d + 1) 9 [some (hb_r 12 0 0), some (hb_i x1)] (rv.toList ++ []) w1 Q)) : hb_R yX12_status cX12_status 2 (some .int) (d + 1) 0 [some (hb_r 12 0 0), some (hb_i x1)] [] w Q := by
  refine hb_iload_n (pc := 0) (i := 1) dX12_status_0 rfl rfl ?_
  refine hb_i2l (pc := 1) dX12_status_1 ?_
  refine hb_lconst (pc := 2) (v := 0) dX12_status_2 (by decide) ?_
  refine hb_ldc2 (pc := 3) (v := 5) dX12_status_3 kc_X12_458 ?_
  exact hb_callS (pc := 6) (As := [hb_l x1.toInt64, hb_l (0 : Int64), hb_l (5 : Int64)]) (st := []) dX12_status_6 ml_X12_238 mf_X12_isIn ms_X12_isIn rfl rfl (Nat.le_of_ble_eq_true rfl) (Nat.le_of_ble_eq_true rfl) h (fun _ _ q => q)
set_option maxRecDepth 20000 in
theorem bk_X12_status_9 {d : Nat} {w : hb_W} {Q : Option hb_V → hb_W → Prop} {x1 : Int32} {xs0 : Int32} (h : ((xs0 = 0) → Q (some (hb_i (-1 : Int32))) w) ∧ ((¬ xs0 = 0) → vp_in x1 6 ∧ (Q (some (hb_i (hb_aI w 12 2 0 x1.toNatClampNeg))) w))) : hb_R yX12_status cX12_status 2 (some .int) (d + 1) 9 [some (hb_r 12 0 0), some (hb_i x1)] [hb_i xs0] w Q := by
  refine hb_if_eq (pc := 9) (tgt := 21) dX12_status_9 (by decide) (fun c1 => ?_) (fun c1 => ?_)
  · have ht1 := h.1 c1
    refine hb_iconst (pc := 21) (v := -1) dX12_status_21 (by decide) ?_
    exact hb_iret (pc := 22) dX12_status_22 rfl ht1
  · have ht1 := h.2 c1
    refine hb_aload_n (pc := 12) (i := 0) dX12_status_12 rfl rfl ?_
    refine hb_getR (pc := 13) (g1 := 0) dX12_status_13 fw_X12_17 cw_12 rfl (by decide) rfl (by decide) rfl ?_
    refine hb_iload_n (pc := 16) (i := 1) dX12_status_16 rfl rfl ?_
    obtain ⟨ho2, hr2⟩ := ht1
    refine hb_ialdx (pc := 17) (x := hb_aI w 12 2 0 x1.toNatClampNeg) dX12_status_17 rfl (by decide) ho2 rfl ?_
    refine hb_goto (pc := 18) (tgt := 22) dX12_status_18 (by decide) ?_
    exact hb_iret (pc := 22) dX12_status_22 rfl hr2
