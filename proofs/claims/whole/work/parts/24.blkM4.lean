theorem dX12_night_0 : decode cX12_night 0 = .ok (.aload_n 0, 1) := by decide +kernel
theorem dX12_night_1 : decode cX12_night 1 = .ok (.invokevirtual 435, 3) := by decide +kernel
theorem dX12_night_4 : decode cX12_night 4 = .ok (.istore_n 1, 1) := by decide +kernel
theorem dX12_night_5 : decode cX12_night 5 = .ok (.aload_n 0, 1) := by decide +kernel
theorem dX12_night_6 : decode cX12_night 6 = .ok (.getfield 302, 3) := by decide +kernel
theorem dX12_night_9 : decode cX12_night 9 = .ok (.ifCond .eq 21, 3) := by decide +kernel
theorem dX12_night_12 : decode cX12_night 12 = .ok (.iload_n 1, 1) := by decide +kernel
theorem dX12_night_13 : decode cX12_night 13 = .ok (.ifCond .eq 17, 3) := by decide +kernel
theorem dX12_night_16 : decode cX12_night 16 = .ok (.aload_n 0, 1) := by decide +kernel
theorem dX12_night_17 : decode cX12_night 17 = .ok (.getfield 66, 3) := by decide +kernel
theorem dX12_night_20 : decode cX12_night 20 = .ok (.iconst 1, 1) := by decide +kernel
theorem dX12_night_21 : decode cX12_night 21 = .ok (.iaload, 1) := by decide +kernel
theorem dX12_night_22 : decode cX12_night 22 = .ok (.iload_n 1, 1) := by decide +kernel
theorem dX12_night_23 : decode cX12_night 23 = .ok (.iadd, 1) := by decide +kernel
theorem dX12_night_24 : decode cX12_night 24 = .ok (.sipush 400, 3) := by decide +kernel
theorem dX12_night_27 : decode cX12_night 27 = .ok (.if_icmp .le 9, 3) := by decide +kernel
theorem dX12_night_30 : decode cX12_night 30 = .ok (.aload_n 0, 1) := by decide +kernel
theorem dX12_night_31 : decode cX12_night 31 = .ok (.iconst 3, 1) := by decide +kernel
theorem dX12_night_32 : decode cX12_night 32 = .ok (.invokevirtual 488, 3) := by decide +kernel
theorem dX12_night_35 : decode cX12_night 35 = .ok (.ireturn, 1) := by decide +kernel
theorem dX12_night_36 : decode cX12_night 36 = .ok (.aload_n 0, 1) := by decide +kernel
theorem dX12_night_37 : decode cX12_night 37 = .ok (.invokevirtual 491, 3) := by decide +kernel
theorem dX12_night_40 : decode cX12_night 40 = .ok (.iconst 0, 1) := by decide +kernel
theorem dX12_night_41 : decode cX12_night 41 = .ok (.istore_n 2, 1) := by decide +kernel
theorem dX12_night_42 : decode cX12_night 42 = .ok (.iload_n 2, 1) := by decide +kernel
theorem dX12_night_43 : decode cX12_night 43 = .ok (.aload_n 0, 1) := by decide +kernel
theorem dX12_night_44 : decode cX12_night 44 = .ok (.getfield 306, 3) := by decide +kernel
theorem dX12_night_47 : decode cX12_night 47 = .ok (.if_icmp .ge 14, 3) := by decide +kernel
theorem dX12_night_50 : decode cX12_night 50 = .ok (.aload_n 0, 1) := by decide +kernel
theorem dX12_night_51 : decode cX12_night 51 = .ok (.iload_n 2, 1) := by decide +kernel
theorem dX12_night_52 : decode cX12_night 52 = .ok (.invokevirtual 500, 3) := by decide +kernel
theorem dX12_night_55 : decode cX12_night 55 = .ok (.iinc 2 1, 3) := by decide +kernel
theorem dX12_night_58 : decode cX12_night 58 = .ok (.goto (-16), 3) := by decide +kernel
theorem dX12_night_61 : decode cX12_night 61 = .ok (.aload_n 0, 1) := by decide +kernel
theorem dX12_night_62 : decode cX12_night 62 = .ok (.getfield 66, 3) := by decide +kernel
theorem dX12_night_65 : decode cX12_night 65 = .ok (.iconst 1, 1) := by decide +kernel
theorem dX12_night_66 : decode cX12_night 66 = .ok (.iaload, 1) := by decide +kernel
theorem dX12_night_67 : decode cX12_night 67 = .ok (.ireturn, 1) := by decide +kernel
set_option maxRecDepth 20000 in
theorem bk_X12_night_0 {d : Nat} {w : hb_W} {Q : Option hb_V → hb_W → Prop} (h : hb_O yX12_wouldPass cX12_wouldPass 3 (some .int) d [hb_r 12 0 0] w (fun rv w1 => hb_R yX12_night cX12_night 3 (some .int) (d + 1) 4 [some (hb_r 12 0 0), none, none] (rv.toList ++ []) w1 Q)) : hb_R yX12_night cX12_night 3 (some .int) (d + 1) 0 [some (hb_r 12 0 0), none, none] [] w Q := by
  refine hb_aload_n (pc := 0) (i := 0) dX12_night_0 rfl rfl ?_
  exact hb_callV (pc := 1) (As := []) (st := []) dX12_night_1 ml_X12_435 mf_X12_wouldPass mi_X12_wouldPass (ci := 12) rfl rfl (by decide) rfl rfl (Nat.le_of_ble_eq_true rfl) (Nat.le_of_ble_eq_true rfl) h (fun _ _ q => q)
set_option maxRecDepth 20000 in
theorem bk_X12_night_4 {d : Nat} {w : hb_W} {Q : Option hb_V → hb_W → Prop} {xs0 : Int32} (h : (((hb_fI w 12 30 0) = 0) → hb_O yX12_refuses cX12_refuses 2 (some .int) d [hb_r 12 0 0, hb_i (3 : Int32)] w (fun rv w1 => hb_R yX12_night cX12_night 3 (some .int) (d + 1) 35 [some (hb_r 12 0 0), some (hb_i xs0), none] (rv.toList ++ []) w1 Q)) ∧ ((¬ (hb_fI w 12 30 0) = 0) → ((xs0 = 0) → hb_O yX12_refuses cX12_refuses 2 (some .int) d [hb_r 12 0 0, hb_i (3 : Int32)] w (fun rv w1 => hb_R yX12_night cX12_night 3 (some .int) (d + 1) 35 [some (hb_r 12 0 0), some (hb_i xs0), none] (rv.toList ++ []) w1 Q)) ∧ ((¬ xs0 = 0) → ((((hb_aI w 12 18 0 (1 : Int32).toNatClampNeg) + xs0) ≤ (400 : Int32)) → hb_O yX12_keeps cX12_keeps 2 none d [hb_r 12 0 0] w (fun rv w1 => hb_R yX12_night cX12_night 3 (some .int) (d + 1) 40 [some (hb_r 12 0 0), some (hb_i xs0), none] (rv.toList ++ []) w1 Q)) ∧ ((¬ ((hb_aI w 12 18 0 (1 : Int32).toNatClampNeg) + xs0) ≤ (400 : Int32)) → hb_O yX12_refuses cX12_refuses 2 (some .int) d [hb_r 12 0 0, hb_i (3 : Int32)] w (fun rv w1 => hb_R yX12_night cX12_night 3 (some .int) (d + 1) 35 [some (hb_r 12 0 0), some (hb_i xs0), none] (rv.toList ++ []) w1 Q))))) : hb_R yX12_night cX12_night 3 (some .int) (d + 1) 4 [some (hb_r 12 0 0), none, none] [hb_i xs0] w Q := by
  refine hb_istore_n (pc := 4) (i := 1) (ls1 := [some (hb_r 12 0 0), some (hb_i xs0), none]) dX12_night_4 rfl (by decide) rfl ?_
  refine hb_aload_n (pc := 5) (i := 0) dX12_night_5 rfl rfl ?_
  refine hb_getIx (pc := 6) (x := hb_fI w 12 30 0) dX12_night_6 fw_X12_302 cw_12 rfl (by decide) rfl rfl ?_
  refine hb_if_eq (pc := 9) (tgt := 30) dX12_night_9 (by decide) (fun c1 => ?_) (fun c1 => ?_)
  · have ht1 := h.1 c1
    refine hb_aload_n (pc := 30) (i := 0) dX12_night_30 rfl rfl ?_
    refine hb_iconst (pc := 31) (v := 3) dX12_night_31 (by decide) ?_
    exact hb_callV (pc := 32) (As := [hb_i (3 : Int32)]) (st := []) dX12_night_32 ml_X12_488 mf_X12_refuses mi_X12_refuses (ci := 12) rfl rfl (by decide) rfl rfl (Nat.le_of_ble_eq_true rfl) (Nat.le_of_ble_eq_true rfl) ht1 (fun _ _ q => q)
  · have ht1 := h.2 c1
    refine hb_iload_n (pc := 12) (i := 1) dX12_night_12 rfl rfl ?_
    refine hb_if_eq (pc := 13) (tgt := 30) dX12_night_13 (by decide) (fun c2 => ?_) (fun c2 => ?_)
    · have ht2 := ht1.1 c2
      refine hb_aload_n (pc := 30) (i := 0) dX12_night_30 rfl rfl ?_
      refine hb_iconst (pc := 31) (v := 3) dX12_night_31 (by decide) ?_
      exact hb_callV (pc := 32) (As := [hb_i (3 : Int32)]) (st := []) dX12_night_32 ml_X12_488 mf_X12_refuses mi_X12_refuses (ci := 12) rfl rfl (by decide) rfl rfl (Nat.le_of_ble_eq_true rfl) (Nat.le_of_ble_eq_true rfl) ht2 (fun _ _ q => q)
    · have ht2 := ht1.2 c2
      refine hb_aload_n (pc := 16) (i := 0) dX12_night_16 rfl rfl ?_
      refine hb_getR (pc := 17) (g1 := 0) dX12_night_17 fw_X12_66 cw_12 rfl (by decide) rfl (by decide) rfl ?_
      refine hb_iconst (pc := 20) (v := 1) dX12_night_20 (by decide) ?_
      refine hb_ialdx (pc := 21) (x := hb_aI w 12 18 0 (1 : Int32).toNatClampNeg) dX12_night_21 (n := 11) rfl (by decide) (by unfold vp_in; decide) rfl ?_
      refine hb_iload_n (pc := 22) (i := 1) dX12_night_22 rfl rfl ?_
      refine hb_iadd (pc := 23) dX12_night_23 ?_
      refine hb_sipush (pc := 24) (v := 400) dX12_night_24 (by decide) ?_
      refine hb_icmp_le (pc := 27) (tgt := 36) dX12_night_27 (by decide) (fun c3 => ?_) (fun c3 => ?_)
      · have ht3 := ht2.1 c3
        refine hb_aload_n (pc := 36) (i := 0) dX12_night_36 rfl rfl ?_
        exact hb_callV (pc := 37) (As := []) (st := []) dX12_night_37 ml_X12_491 mf_X12_keeps mi_X12_keeps (ci := 12) rfl rfl (by decide) rfl rfl (Nat.le_of_ble_eq_true rfl) (Nat.le_of_ble_eq_true rfl) ht3 (fun _ _ q => q)
      · have ht3 := ht2.2 c3
        refine hb_aload_n (pc := 30) (i := 0) dX12_night_30 rfl rfl ?_
        refine hb_iconst (pc := 31) (v := 3) dX12_night_31 (by decide) ?_
        exact hb_callV (pc := 32) (As := [hb_i (3 : Int32)]) (st := []) dX12_night_32 ml_X12_488 mf_X12_refuses mi_X12_refuses (ci := 12) rfl rfl (by decide) rfl rfl (Nat.le_of_ble_eq_true rfl) (Nat.le_of_ble_eq_true rfl) ht3 (fun _ _ q => q)
set_option maxRecDepth 20000 in
theorem bk_X12_night_35 {d : Nat} {w : hb_W} {Q : Option hb_V → hb_W → Prop} {x1 : Int32} {xs0 : Int32} (h : Q (some (hb_i xs0)) w) : hb_R yX12_night cX12_night 3 (some .int) (d + 1) 35 [some (hb_r 12 0 0), some (hb_i x1), none] [hb_i xs0] w Q := by
  exact hb_iret (pc := 35) dX12_night_35 rfl h
set_option maxRecDepth 20000 in
theorem bk_X12_night_40 {d : Nat} {w : hb_W} {Q : Option hb_V → hb_W → Prop} {x1 : Int32} (h : hb_R yX12_night cX12_night 3 (some .int) (d + 1) 42 [some (hb_r 12 0 0), some (hb_i x1), some (hb_i (0 : Int32))] [] w Q) : hb_R yX12_night cX12_night 3 (some .int) (d + 1) 40 [some (hb_r 12 0 0), some (hb_i x1), none] [] w Q := by
  refine hb_iconst (pc := 40) (v := 0) dX12_night_40 (by decide) ?_
  refine hb_istore_n (pc := 41) (i := 2) (ls1 := [some (hb_r 12 0 0), some (hb_i x1), some (hb_i (0 : Int32))]) dX12_night_41 rfl (by decide) rfl ?_
  exact h
set_option maxRecDepth 20000 in
theorem bk_X12_night_42 {d : Nat} {w : hb_W} {Q : Option hb_V → hb_W → Prop} {x1 : Int32} {x2 : Int32} (h : (((hb_fI w 12 23 0) ≤ x2) → Q (some (hb_i (hb_aI w 12 18 0 (1 : Int32).toNatClampNeg))) w) ∧ ((¬ (hb_fI w 12 23 0) ≤ x2) → hb_O yX12_rowGoes cX12_rowGoes 7 none d [hb_r 12 0 0, hb_i x2] w (fun rv w1 => hb_R yX12_night cX12_night 3 (some .int) (d + 1) 55 [some (hb_r 12 0 0), some (hb_i x1), some (hb_i x2)] (rv.toList ++ []) w1 Q))) : hb_R yX12_night cX12_night 3 (some .int) (d + 1) 42 [some (hb_r 12 0 0), some (hb_i x1), some (hb_i x2)] [] w Q := by
  refine hb_iload_n (pc := 42) (i := 2) dX12_night_42 rfl rfl ?_
  refine hb_aload_n (pc := 43) (i := 0) dX12_night_43 rfl rfl ?_
  refine hb_getIx (pc := 44) (x := hb_fI w 12 23 0) dX12_night_44 fw_X12_306 cw_12 rfl (by decide) rfl rfl ?_
  refine hb_icmp_ge (pc := 47) (tgt := 61) dX12_night_47 (by decide) (fun c1 => ?_) (fun c1 => ?_)
  · have ht1 := h.1 c1
    refine hb_aload_n (pc := 61) (i := 0) dX12_night_61 rfl rfl ?_
    refine hb_getR (pc := 62) (g1 := 0) dX12_night_62 fw_X12_66 cw_12 rfl (by decide) rfl (by decide) rfl ?_
    refine hb_iconst (pc := 65) (v := 1) dX12_night_65 (by decide) ?_
    refine hb_ialdx (pc := 66) (x := hb_aI w 12 18 0 (1 : Int32).toNatClampNeg) dX12_night_66 (n := 11) rfl (by decide) (by unfold vp_in; decide) rfl ?_
    exact hb_iret (pc := 67) dX12_night_67 rfl ht1
  · have ht1 := h.2 c1
    refine hb_aload_n (pc := 50) (i := 0) dX12_night_50 rfl rfl ?_
    refine hb_iload_n (pc := 51) (i := 2) dX12_night_51 rfl rfl ?_
    exact hb_callV (pc := 52) (As := [hb_i x2]) (st := []) dX12_night_52 ml_X12_500 mf_X12_rowGoes mi_X12_rowGoes (ci := 12) rfl rfl (by decide) rfl rfl (Nat.le_of_ble_eq_true rfl) (Nat.le_of_ble_eq_true rfl) ht1 (fun _ _ q => q)
set_option maxRecDepth 20000 in
theorem bk_X12_night_55 {d : Nat} {w : hb_W} {Q : Option hb_V → hb_W → Prop} {x1 : Int32} {x2 : Int32} (h : hb_R yX12_night cX12_night 3 (some .int) (d + 1) 42 [some (hb_r 12 0 0), some (hb_i x1), some (hb_i (x2 + (1 : Int32)))] [] w Q) : hb_R yX12_night cX12_night 3 (some .int) (d + 1) 55 [some (hb_r 12 0 0), some (hb_i x1), some (hb_i x2)] [] w Q := by
  refine hb_iinc (pc := 55) (v := x2 + (1 : Int32)) (ls1 := [some (hb_r 12 0 0), some (hb_i x1), some (hb_i (x2 + (1 : Int32)))]) dX12_night_55 rfl rfl (by decide) rfl ?_
  refine hb_goto (pc := 58) (tgt := 42) dX12_night_58 (by decide) ?_
  exact h
theorem dX12_toss_0 : decode cX12_toss 0 = .ok (.aload_n 0, 1) := by decide +kernel
theorem dX12_toss_1 : decode cX12_toss 1 = .ok (.getfield 302, 3) := by decide +kernel
theorem dX12_toss_4 : decode cX12_toss 4 = .ok (.ifCond .eq 25, 3) := by decide +kernel
theorem dX12_toss_7 : decode cX12_toss 7 = .ok (.iload_n 1, 1) := by decide +kernel
theorem dX12_toss_8 : decode cX12_toss 8 = .ok (.i2l, 1) := by decide +kernel
theorem dX12_toss_9 : decode cX12_toss 9 = .ok (.lconst 0, 1) := by decide +kernel
theorem dX12_toss_10 : decode cX12_toss 10 = .ok (.ldc2_w 486, 3) := by decide +kernel
theorem dX12_toss_13 : decode cX12_toss 13 = .ok (.invokestatic 238, 3) := by decide +kernel
theorem dX12_toss_16 : decode cX12_toss 16 = .ok (.ifCond .eq 13, 3) := by decide +kernel
theorem dX12_toss_19 : decode cX12_toss 19 = .ok (.aload_n 0, 1) := by decide +kernel
theorem dX12_toss_20 : decode cX12_toss 20 = .ok (.getfield 66, 3) := by decide +kernel
theorem dX12_toss_23 : decode cX12_toss 23 = .ok (.iconst 0, 1) := by decide +kernel
theorem dX12_toss_24 : decode cX12_toss 24 = .ok (.iaload, 1) := by decide +kernel
theorem dX12_toss_25 : decode cX12_toss 25 = .ok (.iload_n 1, 1) := by decide +kernel
theorem dX12_toss_26 : decode cX12_toss 26 = .ok (.if_icmp .ne 15, 3) := by decide +kernel
theorem dX12_toss_29 : decode cX12_toss 29 = .ok (.aload_n 0, 1) := by decide +kernel
theorem dX12_toss_30 : decode cX12_toss 30 = .ok (.getfield 17, 3) := by decide +kernel
theorem dX12_toss_33 : decode cX12_toss 33 = .ok (.iconst 2, 1) := by decide +kernel
theorem dX12_toss_34 : decode cX12_toss 34 = .ok (.dup2, 1) := by decide +kernel
theorem dX12_toss_35 : decode cX12_toss 35 = .ok (.iaload, 1) := by decide +kernel
theorem dX12_toss_36 : decode cX12_toss 36 = .ok (.iconst 1, 1) := by decide +kernel
theorem dX12_toss_37 : decode cX12_toss 37 = .ok (.iadd, 1) := by decide +kernel
theorem dX12_toss_38 : decode cX12_toss 38 = .ok (.iastore, 1) := by decide +kernel
theorem dX12_toss_39 : decode cX12_toss 39 = .ok (.iconst 0, 1) := by decide +kernel
theorem dX12_toss_40 : decode cX12_toss 40 = .ok (.ireturn, 1) := by decide +kernel
theorem dX12_toss_41 : decode cX12_toss 41 = .ok (.aload_n 0, 1) := by decide +kernel
theorem dX12_toss_42 : decode cX12_toss 42 = .ok (.invokevirtual 491, 3) := by decide +kernel
theorem dX12_toss_45 : decode cX12_toss 45 = .ok (.aload_n 0, 1) := by decide +kernel
theorem dX12_toss_46 : decode cX12_toss 46 = .ok (.getfield 66, 3) := by decide +kernel
theorem dX12_toss_49 : decode cX12_toss 49 = .ok (.iconst 0, 1) := by decide +kernel
theorem dX12_toss_50 : decode cX12_toss 50 = .ok (.iload_n 1, 1) := by decide +kernel
theorem dX12_toss_51 : decode cX12_toss 51 = .ok (.iastore, 1) := by decide +kernel
theorem dX12_toss_52 : decode cX12_toss 52 = .ok (.iconst 1, 1) := by decide +kernel
theorem dX12_toss_53 : decode cX12_toss 53 = .ok (.ireturn, 1) := by decide +kernel
set_option maxRecDepth 20000 in
theorem bk_X12_toss_0 {d : Nat} {w : hb_W} {Q : Option hb_V → hb_W → Prop} {x1 : Int32} (h : (((hb_fI w 12 30 0) = 0) → Q (some (hb_i (0 : Int32))) (hb_sI w 12 2 0 (upd (hb_aI w 12 2 0) (2 : Int32).toNatClampNeg ((hb_aI w 12 2 0 (2 : Int32).toNatClampNeg) + (1 : Int32))))) ∧ ((¬ (hb_fI w 12 30 0) = 0) → hb_O yX12_isIn cX12_isIn 6 (some .boolean) d [hb_l x1.toInt64, hb_l (0 : Int64), hb_l (99 : Int64)] w (fun rv w1 => hb_R yX12_toss cX12_toss 2 (some .boolean) (d + 1) 16 [some (hb_r 12 0 0), some (hb_i x1)] (rv.toList ++ []) w1 Q))) : hb_R yX12_toss cX12_toss 2 (some .boolean) (d + 1) 0 [some (hb_r 12 0 0), some (hb_i x1)] [] w Q := by
  refine hb_aload_n (pc := 0) (i := 0) dX12_toss_0 rfl rfl ?_
  refine hb_getIx (pc := 1) (x := hb_fI w 12 30 0) dX12_toss_1 fw_X12_302 cw_12 rfl (by decide) rfl rfl ?_
  refine hb_if_eq (pc := 4) (tgt := 29) dX12_toss_4 (by decide) (fun c1 => ?_) (fun c1 => ?_)
  · have ht1 := h.1 c1
    refine hb_aload_n (pc := 29) (i := 0) dX12_toss_29 rfl rfl ?_
    refine hb_getR (pc := 30) (g1 := 0) dX12_toss_30 fw_X12_17 cw_12 rfl (by decide) rfl (by decide) rfl ?_
    refine hb_iconst (pc := 33) (v := 2) dX12_toss_33 (by decide) ?_
    refine hb_dup2ir (pc := 34) dX12_toss_34 ?_
    refine hb_ialdx (pc := 35) (x := hb_aI w 12 2 0 (2 : Int32).toNatClampNeg) dX12_toss_35 (n := 6) rfl (by decide) (by unfold vp_in; decide) rfl ?_
    refine hb_iconst (pc := 36) (v := 1) dX12_toss_36 (by decide) ?_
    refine hb_iadd (pc := 37) dX12_toss_37 ?_
    refine hb_iastx (pc := 38) (f := upd (hb_aI w 12 2 0) (2 : Int32).toNatClampNeg ((hb_aI w 12 2 0 (2 : Int32).toNatClampNeg) + (1 : Int32))) dX12_toss_38 (n := 6) rfl (by decide) (by unfold vp_in; decide) rfl ?_
    refine hb_iconst (pc := 39) (v := 0) dX12_toss_39 (by decide) ?_
    exact hb_zret (pc := 40) dX12_toss_40 rfl (Or.inl rfl) ht1
  · have ht1 := h.2 c1
    refine hb_iload_n (pc := 7) (i := 1) dX12_toss_7 rfl rfl ?_
    refine hb_i2l (pc := 8) dX12_toss_8 ?_
    refine hb_lconst (pc := 9) (v := 0) dX12_toss_9 (by decide) ?_
    refine hb_ldc2 (pc := 10) (v := 99) dX12_toss_10 kc_X12_486 ?_
    exact hb_callS (pc := 13) (As := [hb_l x1.toInt64, hb_l (0 : Int64), hb_l (99 : Int64)]) (st := []) dX12_toss_13 ml_X12_238 mf_X12_isIn ms_X12_isIn rfl rfl (Nat.le_of_ble_eq_true rfl) (Nat.le_of_ble_eq_true rfl) ht1 (fun _ _ q => q)
set_option maxRecDepth 20000 in
theorem bk_X12_toss_16 {d : Nat} {w : hb_W} {Q : Option hb_V → hb_W → Prop} {x1 : Int32} {xs0 : Int32} (h : ((xs0 = 0) → Q (some (hb_i (0 : Int32))) (hb_sI w 12 2 0 (upd (hb_aI w 12 2 0) (2 : Int32).toNatClampNeg ((hb_aI w 12 2 0 (2 : Int32).toNatClampNeg) + (1 : Int32))))) ∧ ((¬ xs0 = 0) → ((¬ (hb_aI w 12 18 0 (0 : Int32).toNatClampNeg) = x1) → hb_O yX12_keeps cX12_keeps 2 none d [hb_r 12 0 0] w (fun rv w1 => hb_R yX12_toss cX12_toss 2 (some .boolean) (d + 1) 45 [some (hb_r 12 0 0), some (hb_i x1)] (rv.toList ++ []) w1 Q)) ∧ (((hb_aI w 12 18 0 (0 : Int32).toNatClampNeg) = x1) → Q (some (hb_i (0 : Int32))) (hb_sI w 12 2 0 (upd (hb_aI w 12 2 0) (2 : Int32).toNatClampNeg ((hb_aI w 12 2 0 (2 : Int32).toNatClampNeg) + (1 : Int32))))))) : hb_R yX12_toss cX12_toss 2 (some .boolean) (d + 1) 16 [some (hb_r 12 0 0), some (hb_i x1)] [hb_i xs0] w Q := by
  refine hb_if_eq (pc := 16) (tgt := 29) dX12_toss_16 (by decide) (fun c1 => ?_) (fun c1 => ?_)
  · have ht1 := h.1 c1
    refine hb_aload_n (pc := 29) (i := 0) dX12_toss_29 rfl rfl ?_
    refine hb_getR (pc := 30) (g1 := 0) dX12_toss_30 fw_X12_17 cw_12 rfl (by decide) rfl (by decide) rfl ?_
    refine hb_iconst (pc := 33) (v := 2) dX12_toss_33 (by decide) ?_
    refine hb_dup2ir (pc := 34) dX12_toss_34 ?_
    refine hb_ialdx (pc := 35) (x := hb_aI w 12 2 0 (2 : Int32).toNatClampNeg) dX12_toss_35 (n := 6) rfl (by decide) (by unfold vp_in; decide) rfl ?_
    refine hb_iconst (pc := 36) (v := 1) dX12_toss_36 (by decide) ?_
    refine hb_iadd (pc := 37) dX12_toss_37 ?_
    refine hb_iastx (pc := 38) (f := upd (hb_aI w 12 2 0) (2 : Int32).toNatClampNeg ((hb_aI w 12 2 0 (2 : Int32).toNatClampNeg) + (1 : Int32))) dX12_toss_38 (n := 6) rfl (by decide) (by unfold vp_in; decide) rfl ?_
    refine hb_iconst (pc := 39) (v := 0) dX12_toss_39 (by decide) ?_
    exact hb_zret (pc := 40) dX12_toss_40 rfl (Or.inl rfl) ht1
  · have ht1 := h.2 c1
    refine hb_aload_n (pc := 19) (i := 0) dX12_toss_19 rfl rfl ?_
    refine hb_getR (pc := 20) (g1 := 0) dX12_toss_20 fw_X12_66 cw_12 rfl (by decide) rfl (by decide) rfl ?_
    refine hb_iconst (pc := 23) (v := 0) dX12_toss_23 (by decide) ?_
    refine hb_ialdx (pc := 24) (x := hb_aI w 12 18 0 (0 : Int32).toNatClampNeg) dX12_toss_24 (n := 11) rfl (by decide) (by unfold vp_in; decide) rfl ?_
    refine hb_iload_n (pc := 25) (i := 1) dX12_toss_25 rfl rfl ?_
    refine hb_icmp_ne (pc := 26) (tgt := 41) dX12_toss_26 (by decide) (fun c2 => ?_) (fun c2 => ?_)
    · have ht2 := ht1.1 c2
      refine hb_aload_n (pc := 41) (i := 0) dX12_toss_41 rfl rfl ?_
      exact hb_callV (pc := 42) (As := []) (st := []) dX12_toss_42 ml_X12_491 mf_X12_keeps mi_X12_keeps (ci := 12) rfl rfl (by decide) rfl rfl (Nat.le_of_ble_eq_true rfl) (Nat.le_of_ble_eq_true rfl) ht2 (fun _ _ q => q)
    · have ht2 := ht1.2 c2
      refine hb_aload_n (pc := 29) (i := 0) dX12_toss_29 rfl rfl ?_
      refine hb_getR (pc := 30) (g1 := 0) dX12_toss_30 fw_X12_17 cw_12 rfl (by decide) rfl (by decide) rfl ?_
      refine hb_iconst (pc := 33) (v := 2) dX12_toss_33 (by decide) ?_
      refine hb_dup2ir (pc := 34) dX12_toss_34 ?_
      refine hb_ialdx (pc := 35) (x := hb_aI w 12 2 0 (2 : Int32).toNatClampNeg) dX12_toss_35 (n := 6) rfl (by decide) (by unfold vp_in; decide) rfl ?_
      refine hb_iconst (pc := 36) (v := 1) dX12_toss_36 (by decide) ?_
      refine hb_iadd (pc := 37) dX12_toss_37 ?_
      refine hb_iastx (pc := 38) (f := upd (hb_aI w 12 2 0) (2 : Int32).toNatClampNeg ((hb_aI w 12 2 0 (2 : Int32).toNatClampNeg) + (1 : Int32))) dX12_toss_38 (n := 6) rfl (by decide) (by unfold vp_in; decide) rfl ?_
      refine hb_iconst (pc := 39) (v := 0) dX12_toss_39 (by decide) ?_
      exact hb_zret (pc := 40) dX12_toss_40 rfl (Or.inl rfl) ht2
set_option maxRecDepth 20000 in
theorem bk_X12_toss_45 {d : Nat} {w : hb_W} {Q : Option hb_V → hb_W → Prop} {x1 : Int32} (h : Q (some (hb_i (1 : Int32))) (hb_sI w 12 18 0 (upd (hb_aI w 12 18 0) (0 : Int32).toNatClampNeg x1))) : hb_R yX12_toss cX12_toss 2 (some .boolean) (d + 1) 45 [some (hb_r 12 0 0), some (hb_i x1)] [] w Q := by
  refine hb_aload_n (pc := 45) (i := 0) dX12_toss_45 rfl rfl ?_
  refine hb_getR (pc := 46) (g1 := 0) dX12_toss_46 fw_X12_66 cw_12 rfl (by decide) rfl (by decide) rfl ?_
  refine hb_iconst (pc := 49) (v := 0) dX12_toss_49 (by decide) ?_
  refine hb_iload_n (pc := 50) (i := 1) dX12_toss_50 rfl rfl ?_
  refine hb_iastx (pc := 51) (f := upd (hb_aI w 12 18 0) (0 : Int32).toNatClampNeg x1) dX12_toss_51 (n := 11) rfl (by decide) (by unfold vp_in; decide) rfl ?_
  refine hb_iconst (pc := 52) (v := 1) dX12_toss_52 (by decide) ?_
  exact hb_zret (pc := 53) dX12_toss_53 rfl (Or.inr rfl) h
theorem dX12_qCode_0 : decode cX12_qCode 0 = .ok (.aload_n 0, 1) := by decide +kernel
theorem dX12_qCode_1 : decode cX12_qCode 1 = .ok (.getfield 179, 3) := by decide +kernel
theorem dX12_qCode_4 : decode cX12_qCode 4 = .ok (.aload_n 0, 1) := by decide +kernel
theorem dX12_qCode_5 : decode cX12_qCode 5 = .ok (.getfield 257, 3) := by decide +kernel
theorem dX12_qCode_8 : decode cX12_qCode 8 = .ok (.iload_n 1, 1) := by decide +kernel
theorem dX12_qCode_9 : decode cX12_qCode 9 = .ok (.iastore, 1) := by decide +kernel
theorem dX12_qCode_10 : decode cX12_qCode 10 = .ok (.aload_n 0, 1) := by decide +kernel
theorem dX12_qCode_11 : decode cX12_qCode 11 = .ok (.dup, 1) := by decide +kernel
theorem dX12_qCode_12 : decode cX12_qCode 12 = .ok (.getfield 257, 3) := by decide +kernel
theorem dX12_qCode_15 : decode cX12_qCode 15 = .ok (.iconst 1, 1) := by decide +kernel
theorem dX12_qCode_16 : decode cX12_qCode 16 = .ok (.iadd, 1) := by decide +kernel
theorem dX12_qCode_17 : decode cX12_qCode 17 = .ok (.putfield 257, 3) := by decide +kernel
theorem dX12_qCode_20 : decode cX12_qCode 20 = .ok (.return_, 1) := by decide +kernel
set_option maxRecDepth 20000 in
theorem bk_X12_qCode_0 {d : Nat} {w : hb_W} {Q : Option hb_V → hb_W → Prop} {x1 : Int32} (h : vp_in (hb_fI w 12 80 0) 1700 ∧ (Q none (hb_pI (hb_sI w 12 54 0 (upd (hb_aI w 12 54 0) (hb_fI w 12 80 0).toNatClampNeg x1)) 12 80 0 ((hb_fI w 12 80 0) + (1 : Int32))))) : hb_R yX12_qCode cX12_qCode 2 none d 0 [some (hb_r 12 0 0), some (hb_i x1)] [] w Q := by
  refine hb_aload_n (pc := 0) (i := 0) dX12_qCode_0 rfl rfl ?_
  refine hb_getR (pc := 1) (g1 := 0) dX12_qCode_1 fw_X12_179 cw_12 rfl (by decide) rfl (by decide) rfl ?_
  refine hb_aload_n (pc := 4) (i := 0) dX12_qCode_4 rfl rfl ?_
  refine hb_getIx (pc := 5) (x := hb_fI w 12 80 0) dX12_qCode_5 fw_X12_257 cw_12 rfl (by decide) rfl rfl ?_
  refine hb_iload_n (pc := 8) (i := 1) dX12_qCode_8 rfl rfl ?_
  obtain ⟨ho1, hr1⟩ := h
  refine hb_iastx (pc := 9) (f := upd (hb_aI w 12 54 0) (hb_fI w 12 80 0).toNatClampNeg x1) dX12_qCode_9 rfl (by decide) ho1 rfl ?_
  refine hb_aload_n (pc := 10) (i := 0) dX12_qCode_10 rfl rfl ?_
  refine hb_dupr (pc := 11) dX12_qCode_11 ?_
  refine hb_getIx (pc := 12) (x := hb_fI w 12 80 0) dX12_qCode_12 fw_X12_257 cw_12 rfl (by decide) rfl rfl ?_
  refine hb_iconst (pc := 15) (v := 1) dX12_qCode_15 (by decide) ?_
  refine hb_iadd (pc := 16) dX12_qCode_16 ?_
  refine hb_putI (pc := 17) dX12_qCode_17 fw_X12_257 cw_12 pw_12_80 rfl (by decide) rfl rfl rfl ?_
  exact hb_vret (pc := 20) dX12_qCode_20 rfl hr1
theorem dX12_qOpens_0 : decode cX12_qOpens 0 = .ok (.aload_n 0, 1) := by decide +kernel
theorem dX12_qOpens_1 : decode cX12_qOpens 1 = .ok (.getfield 195, 3) := by decide +kernel
theorem dX12_qOpens_4 : decode cX12_qOpens 4 = .ok (.ifCond .eq 4, 3) := by decide +kernel
theorem dX12_qOpens_7 : decode cX12_qOpens 7 = .ok (.return_, 1) := by decide +kernel
theorem dX12_qOpens_8 : decode cX12_qOpens 8 = .ok (.aload_n 0, 1) := by decide +kernel
theorem dX12_qOpens_9 : decode cX12_qOpens 9 = .ok (.getfield 263, 3) := by decide +kernel
theorem dX12_qOpens_12 : decode cX12_qOpens 12 = .ok (.bipush 6, 2) := by decide +kernel
theorem dX12_qOpens_14 : decode cX12_qOpens 14 = .ok (.if_icmp .ne 10, 3) := by decide +kernel
theorem dX12_qOpens_17 : decode cX12_qOpens 17 = .ok (.aload_n 0, 1) := by decide +kernel
theorem dX12_qOpens_18 : decode cX12_qOpens 18 = .ok (.iconst 4, 1) := by decide +kernel
theorem dX12_qOpens_19 : decode cX12_qOpens 19 = .ok (.iload_n 2, 1) := by decide +kernel
theorem dX12_qOpens_20 : decode cX12_qOpens 20 = .ok (.invokevirtual 225, 3) := by decide +kernel
theorem dX12_qOpens_23 : decode cX12_qOpens 23 = .ok (.return_, 1) := by decide +kernel
theorem dX12_qOpens_24 : decode cX12_qOpens 24 = .ok (.aload_n 0, 1) := by decide +kernel
theorem dX12_qOpens_25 : decode cX12_qOpens 25 = .ok (.dup, 1) := by decide +kernel
theorem dX12_qOpens_26 : decode cX12_qOpens 26 = .ok (.getfield 263, 3) := by decide +kernel
theorem dX12_qOpens_29 : decode cX12_qOpens 29 = .ok (.iconst 1, 1) := by decide +kernel
theorem dX12_qOpens_30 : decode cX12_qOpens 30 = .ok (.iadd, 1) := by decide +kernel
theorem dX12_qOpens_31 : decode cX12_qOpens 31 = .ok (.putfield 263, 3) := by decide +kernel
theorem dX12_qOpens_34 : decode cX12_qOpens 34 = .ok (.aload_n 0, 1) := by decide +kernel
theorem dX12_qOpens_35 : decode cX12_qOpens 35 = .ok (.getfield 182, 3) := by decide +kernel
theorem dX12_qOpens_38 : decode cX12_qOpens 38 = .ok (.aload_n 0, 1) := by decide +kernel
theorem dX12_qOpens_39 : decode cX12_qOpens 39 = .ok (.getfield 260, 3) := by decide +kernel
theorem dX12_qOpens_42 : decode cX12_qOpens 42 = .ok (.iload_n 1, 1) := by decide +kernel
theorem dX12_qOpens_43 : decode cX12_qOpens 43 = .ok (.iastore, 1) := by decide +kernel
theorem dX12_qOpens_44 : decode cX12_qOpens 44 = .ok (.aload_n 0, 1) := by decide +kernel
theorem dX12_qOpens_45 : decode cX12_qOpens 45 = .ok (.dup, 1) := by decide +kernel
theorem dX12_qOpens_46 : decode cX12_qOpens 46 = .ok (.getfield 260, 3) := by decide +kernel
theorem dX12_qOpens_49 : decode cX12_qOpens 49 = .ok (.iconst 1, 1) := by decide +kernel
theorem dX12_qOpens_50 : decode cX12_qOpens 50 = .ok (.iadd, 1) := by decide +kernel
theorem dX12_qOpens_51 : decode cX12_qOpens 51 = .ok (.putfield 260, 3) := by decide +kernel
theorem dX12_qOpens_54 : decode cX12_qOpens 54 = .ok (.return_, 1) := by decide +kernel
set_option maxRecDepth 20000 in
theorem bk_X12_qOpens_0 {d : Nat} {w : hb_W} {Q : Option hb_V → hb_W → Prop} {x1 : Int32} {x2 : Int32} (h : (((hb_fI w 12 5 0) = 0) → ((¬ (hb_fI w 12 83 0) = (6 : Int32)) → vp_in (hb_fI w 12 82 0) 1700 ∧ (Q none (hb_pI (hb_sI (hb_pI w 12 83 0 ((hb_fI w 12 83 0) + (1 : Int32))) 12 55 0 (upd (hb_aI w 12 55 0) (hb_fI w 12 82 0).toNatClampNeg x1)) 12 82 0 ((hb_fI w 12 82 0) + (1 : Int32))))) ∧ (((hb_fI w 12 83 0) = (6 : Int32)) → hb_O yX12_fail cX12_fail 3 none d [hb_r 12 0 0, hb_i (4 : Int32), hb_i x2] w (fun rv w1 => hb_R yX12_qOpens cX12_qOpens 3 none (d + 1) 23 [some (hb_r 12 0 0), some (hb_i x1), some (hb_i x2)] (rv.toList ++ []) w1 Q))) ∧ ((¬ (hb_fI w 12 5 0) = 0) → Q none w)) : hb_R yX12_qOpens cX12_qOpens 3 none (d + 1) 0 [some (hb_r 12 0 0), some (hb_i x1), some (hb_i x2)] [] w Q := by
  refine hb_aload_n (pc := 0) (i := 0) dX12_qOpens_0 rfl rfl ?_
  refine hb_getIx (pc := 1) (x := hb_fI w 12 5 0) dX12_qOpens_1 fw_X12_195 cw_12 rfl (by decide) rfl rfl ?_
  refine hb_if_eq (pc := 4) (tgt := 8) dX12_qOpens_4 (by decide) (fun c1 => ?_) (fun c1 => ?_)
  · have ht1 := h.1 c1
    refine hb_aload_n (pc := 8) (i := 0) dX12_qOpens_8 rfl rfl ?_
    refine hb_getIx (pc := 9) (x := hb_fI w 12 83 0) dX12_qOpens_9 fw_X12_263 cw_12 rfl (by decide) rfl rfl ?_
    refine hb_bipush (pc := 12) (v := 6) dX12_qOpens_12 (by decide) ?_
    refine hb_icmp_ne (pc := 14) (tgt := 24) dX12_qOpens_14 (by decide) (fun c2 => ?_) (fun c2 => ?_)
    · have ht2 := ht1.1 c2
      refine hb_aload_n (pc := 24) (i := 0) dX12_qOpens_24 rfl rfl ?_
      refine hb_dupr (pc := 25) dX12_qOpens_25 ?_
      refine hb_getIx (pc := 26) (x := hb_fI w 12 83 0) dX12_qOpens_26 fw_X12_263 cw_12 rfl (by decide) rfl rfl ?_
      refine hb_iconst (pc := 29) (v := 1) dX12_qOpens_29 (by decide) ?_
      refine hb_iadd (pc := 30) dX12_qOpens_30 ?_
      refine hb_putI (pc := 31) dX12_qOpens_31 fw_X12_263 cw_12 pw_12_83 rfl (by decide) rfl rfl rfl ?_
      refine hb_aload_n (pc := 34) (i := 0) dX12_qOpens_34 rfl rfl ?_
      refine hb_getR (pc := 35) (g1 := 0) dX12_qOpens_35 fw_X12_182 cw_12 rfl (by decide) rfl (by decide) rfl ?_
      refine hb_aload_n (pc := 38) (i := 0) dX12_qOpens_38 rfl rfl ?_
      refine hb_getIx (pc := 39) (x := hb_fI w 12 82 0) dX12_qOpens_39 fw_X12_260 cw_12 rfl (by decide) rfl rfl ?_
      refine hb_iload_n (pc := 42) (i := 1) dX12_qOpens_42 rfl rfl ?_
      obtain ⟨ho3, hr3⟩ := ht2
      refine hb_iastx (pc := 43) (f := upd (hb_aI w 12 55 0) (hb_fI w 12 82 0).toNatClampNeg x1) dX12_qOpens_43 rfl (by decide) ho3 rfl ?_
      refine hb_aload_n (pc := 44) (i := 0) dX12_qOpens_44 rfl rfl ?_
      refine hb_dupr (pc := 45) dX12_qOpens_45 ?_
      refine hb_getIx (pc := 46) (x := hb_fI w 12 82 0) dX12_qOpens_46 fw_X12_260 cw_12 rfl (by decide) rfl rfl ?_
      refine hb_iconst (pc := 49) (v := 1) dX12_qOpens_49 (by decide) ?_
      refine hb_iadd (pc := 50) dX12_qOpens_50 ?_
      refine hb_putI (pc := 51) dX12_qOpens_51 fw_X12_260 cw_12 pw_12_82 rfl (by decide) rfl rfl rfl ?_
      exact hb_vret (pc := 54) dX12_qOpens_54 rfl hr3
    · have ht2 := ht1.2 c2
      refine hb_aload_n (pc := 17) (i := 0) dX12_qOpens_17 rfl rfl ?_
      refine hb_iconst (pc := 18) (v := 4) dX12_qOpens_18 (by decide) ?_
      refine hb_iload_n (pc := 19) (i := 2) dX12_qOpens_19 rfl rfl ?_
      exact hb_callV (pc := 20) (As := [hb_i (4 : Int32), hb_i x2]) (st := []) dX12_qOpens_20 ml_X12_225 mf_X12_fail mi_X12_fail (ci := 12) rfl rfl (by decide) rfl rfl (Nat.le_of_ble_eq_true rfl) (Nat.le_of_ble_eq_true rfl) ht2 (fun _ _ q => q)
  · have ht1 := h.2 c1
    exact hb_vret (pc := 7) dX12_qOpens_7 rfl ht1
set_option maxRecDepth 20000 in
theorem bk_X12_qOpens_23 {d : Nat} {w : hb_W} {Q : Option hb_V → hb_W → Prop} {x1 : Int32} {x2 : Int32} (h : Q none w) : hb_R yX12_qOpens cX12_qOpens 3 none (d + 1) 23 [some (hb_r 12 0 0), some (hb_i x1), some (hb_i x2)] [] w Q := by
  exact hb_vret (pc := 23) dX12_qOpens_23 rfl h
theorem dX12_qIsOn_0 : decode cX12_qIsOn 0 = .ok (.aload_n 0, 1) := by decide +kernel
theorem dX12_qIsOn_1 : decode cX12_qIsOn 1 = .ok (.getfield 260, 3) := by decide +kernel
theorem dX12_qIsOn_4 : decode cX12_qIsOn 4 = .ok (.ifCond .le 22, 3) := by decide +kernel
theorem dX12_qIsOn_7 : decode cX12_qIsOn 7 = .ok (.aload_n 0, 1) := by decide +kernel
theorem dX12_qIsOn_8 : decode cX12_qIsOn 8 = .ok (.getfield 182, 3) := by decide +kernel
theorem dX12_qIsOn_11 : decode cX12_qIsOn 11 = .ok (.aload_n 0, 1) := by decide +kernel
theorem dX12_qIsOn_12 : decode cX12_qIsOn 12 = .ok (.getfield 260, 3) := by decide +kernel
theorem dX12_qIsOn_15 : decode cX12_qIsOn 15 = .ok (.iconst 1, 1) := by decide +kernel
theorem dX12_qIsOn_16 : decode cX12_qIsOn 16 = .ok (.isub, 1) := by decide +kernel
theorem dX12_qIsOn_17 : decode cX12_qIsOn 17 = .ok (.iaload, 1) := by decide +kernel
theorem dX12_qIsOn_18 : decode cX12_qIsOn 18 = .ok (.iload_n 1, 1) := by decide +kernel
theorem dX12_qIsOn_19 : decode cX12_qIsOn 19 = .ok (.if_icmp .ne 7, 3) := by decide +kernel
theorem dX12_qIsOn_22 : decode cX12_qIsOn 22 = .ok (.iconst 1, 1) := by decide +kernel
theorem dX12_qIsOn_23 : decode cX12_qIsOn 23 = .ok (.goto 4, 3) := by decide +kernel
theorem dX12_qIsOn_26 : decode cX12_qIsOn 26 = .ok (.iconst 0, 1) := by decide +kernel
theorem dX12_qIsOn_27 : decode cX12_qIsOn 27 = .ok (.ireturn, 1) := by decide +kernel
set_option maxRecDepth 20000 in
theorem bk_X12_qIsOn_0 {d : Nat} {w : hb_W} {Q : Option hb_V → hb_W → Prop} {x1 : Int32} (h : (((hb_fI w 12 82 0) ≤ 0) → Q (some (hb_i (0 : Int32))) w) ∧ ((¬ (hb_fI w 12 82 0) ≤ 0) → vp_in ((hb_fI w 12 82 0) - (1 : Int32)) 1700 ∧ (((¬ (hb_aI w 12 55 0 ((hb_fI w 12 82 0) - (1 : Int32)).toNatClampNeg) = x1) → Q (some (hb_i (0 : Int32))) w) ∧ (((hb_aI w 12 55 0 ((hb_fI w 12 82 0) - (1 : Int32)).toNatClampNeg) = x1) → Q (some (hb_i (1 : Int32))) w)))) : hb_R yX12_qIsOn cX12_qIsOn 2 (some .boolean) d 0 [some (hb_r 12 0 0), some (hb_i x1)] [] w Q := by
  refine hb_aload_n (pc := 0) (i := 0) dX12_qIsOn_0 rfl rfl ?_
  refine hb_getIx (pc := 1) (x := hb_fI w 12 82 0) dX12_qIsOn_1 fw_X12_260 cw_12 rfl (by decide) rfl rfl ?_
  refine hb_if_le (pc := 4) (tgt := 26) dX12_qIsOn_4 (by decide) (fun c1 => ?_) (fun c1 => ?_)
  · have ht1 := h.1 c1
    refine hb_iconst (pc := 26) (v := 0) dX12_qIsOn_26 (by decide) ?_
    exact hb_zret (pc := 27) dX12_qIsOn_27 rfl (Or.inl rfl) ht1
  · have ht1 := h.2 c1
    refine hb_aload_n (pc := 7) (i := 0) dX12_qIsOn_7 rfl rfl ?_
    refine hb_getR (pc := 8) (g1 := 0) dX12_qIsOn_8 fw_X12_182 cw_12 rfl (by decide) rfl (by decide) rfl ?_
    refine hb_aload_n (pc := 11) (i := 0) dX12_qIsOn_11 rfl rfl ?_
    refine hb_getIx (pc := 12) (x := hb_fI w 12 82 0) dX12_qIsOn_12 fw_X12_260 cw_12 rfl (by decide) rfl rfl ?_
    refine hb_iconst (pc := 15) (v := 1) dX12_qIsOn_15 (by decide) ?_
    refine hb_isub (pc := 16) dX12_qIsOn_16 ?_
    obtain ⟨ho2, hr2⟩ := ht1
    refine hb_ialdx (pc := 17) (x := hb_aI w 12 55 0 ((hb_fI w 12 82 0) - (1 : Int32)).toNatClampNeg) dX12_qIsOn_17 rfl (by decide) ho2 rfl ?_
    refine hb_iload_n (pc := 18) (i := 1) dX12_qIsOn_18 rfl rfl ?_
    refine hb_icmp_ne (pc := 19) (tgt := 26) dX12_qIsOn_19 (by decide) (fun c3 => ?_) (fun c3 => ?_)
    · have ht3 := hr2.1 c3
      refine hb_iconst (pc := 26) (v := 0) dX12_qIsOn_26 (by decide) ?_
      exact hb_zret (pc := 27) dX12_qIsOn_27 rfl (Or.inl rfl) ht3
    · have ht3 := hr2.2 c3
      refine hb_iconst (pc := 22) (v := 1) dX12_qIsOn_22 (by decide) ?_
      refine hb_goto (pc := 23) (tgt := 27) dX12_qIsOn_23 (by decide) ?_
      exact hb_zret (pc := 27) dX12_qIsOn_27 rfl (Or.inr rfl) ht3
theorem dX12_qDrops_0 : decode cX12_qDrops 0 = .ok (.aload_n 0, 1) := by decide +kernel
theorem dX12_qDrops_1 : decode cX12_qDrops 1 = .ok (.dup, 1) := by decide +kernel
theorem dX12_qDrops_2 : decode cX12_qDrops 2 = .ok (.getfield 260, 3) := by decide +kernel
theorem dX12_qDrops_5 : decode cX12_qDrops 5 = .ok (.iconst 1, 1) := by decide +kernel
theorem dX12_qDrops_6 : decode cX12_qDrops 6 = .ok (.isub, 1) := by decide +kernel
theorem dX12_qDrops_7 : decode cX12_qDrops 7 = .ok (.putfield 260, 3) := by decide +kernel
theorem dX12_qDrops_10 : decode cX12_qDrops 10 = .ok (.aload_n 0, 1) := by decide +kernel
theorem dX12_qDrops_11 : decode cX12_qDrops 11 = .ok (.aload_n 0, 1) := by decide +kernel
theorem dX12_qDrops_12 : decode cX12_qDrops 12 = .ok (.getfield 182, 3) := by decide +kernel
theorem dX12_qDrops_15 : decode cX12_qDrops 15 = .ok (.aload_n 0, 1) := by decide +kernel
theorem dX12_qDrops_16 : decode cX12_qDrops 16 = .ok (.getfield 260, 3) := by decide +kernel
theorem dX12_qDrops_19 : decode cX12_qDrops 19 = .ok (.iaload, 1) := by decide +kernel
theorem dX12_qDrops_20 : decode cX12_qDrops 20 = .ok (.invokevirtual 503, 3) := by decide +kernel
theorem dX12_qDrops_23 : decode cX12_qDrops 23 = .ok (.return_, 1) := by decide +kernel
set_option maxRecDepth 20000 in
theorem bk_X12_qDrops_0 {d : Nat} {w : hb_W} {Q : Option hb_V → hb_W → Prop} (h : vp_in ((hb_fI w 12 82 0) - (1 : Int32)) 1700 ∧ (hb_O yX12_qCode cX12_qCode 2 none d [hb_r 12 0 0, hb_i (hb_aI w 12 55 0 ((hb_fI w 12 82 0) - (1 : Int32)).toNatClampNeg)] (hb_pI w 12 82 0 ((hb_fI w 12 82 0) - (1 : Int32))) (fun rv w1 => hb_R yX12_qDrops cX12_qDrops 1 none (d + 1) 23 [some (hb_r 12 0 0)] (rv.toList ++ []) w1 Q))) : hb_R yX12_qDrops cX12_qDrops 1 none (d + 1) 0 [some (hb_r 12 0 0)] [] w Q := by
  refine hb_aload_n (pc := 0) (i := 0) dX12_qDrops_0 rfl rfl ?_
  refine hb_dupr (pc := 1) dX12_qDrops_1 ?_
  refine hb_getIx (pc := 2) (x := hb_fI w 12 82 0) dX12_qDrops_2 fw_X12_260 cw_12 rfl (by decide) rfl rfl ?_
  refine hb_iconst (pc := 5) (v := 1) dX12_qDrops_5 (by decide) ?_
  refine hb_isub (pc := 6) dX12_qDrops_6 ?_
  refine hb_putI (pc := 7) dX12_qDrops_7 fw_X12_260 cw_12 pw_12_82 rfl (by decide) rfl rfl rfl ?_
  refine hb_aload_n (pc := 10) (i := 0) dX12_qDrops_10 rfl rfl ?_
  refine hb_aload_n (pc := 11) (i := 0) dX12_qDrops_11 rfl rfl ?_
  refine hb_getR (pc := 12) (g1 := 0) dX12_qDrops_12 fw_X12_182 cw_12 rfl (by decide) rfl (by decide) rfl ?_
  refine hb_aload_n (pc := 15) (i := 0) dX12_qDrops_15 rfl rfl ?_
  refine hb_getIx (pc := 16) (x := (hb_fI w 12 82 0) - (1 : Int32)) dX12_qDrops_16 fw_X12_260 cw_12 rfl (by decide) rfl rfl ?_
  obtain ⟨ho1, hr1⟩ := h
  refine hb_ialdx (pc := 19) (x := hb_aI w 12 55 0 ((hb_fI w 12 82 0) - (1 : Int32)).toNatClampNeg) dX12_qDrops_19 rfl (by decide) ho1 rfl ?_
  exact hb_callV (pc := 20) (As := [hb_i (hb_aI w 12 55 0 ((hb_fI w 12 82 0) - (1 : Int32)).toNatClampNeg)]) (st := []) dX12_qDrops_20 ml_X12_503 mf_X12_qCode mi_X12_qCode (ci := 12) rfl rfl (by decide) rfl rfl (Nat.le_of_ble_eq_true rfl) (Nat.le_of_ble_eq_true rfl) hr1 (fun _ _ q => q)
set_option maxRecDepth 20000 in
theorem bk_X12_qDrops_23 {d : Nat} {w : hb_W} {Q : Option hb_V → hb_W → Prop} (h : Q none w) : hb_R yX12_qDrops cX12_qDrops 1 none (d + 1) 23 [some (hb_r 12 0 0)] [] w Q := by
  exact hb_vret (pc := 23) dX12_qDrops_23 rfl h
theorem dX12_qIsBracket_0 : decode cX12_qIsBracket 0 = .ok (.iload_n 0, 1) := by decide +kernel
theorem dX12_qIsBracket_1 : decode cX12_qIsBracket 1 = .ok (.bipush 20, 2) := by decide +kernel
theorem dX12_qIsBracket_3 : decode cX12_qIsBracket 3 = .ok (.if_icmp .lt 13, 3) := by decide +kernel
theorem dX12_qIsBracket_6 : decode cX12_qIsBracket 6 = .ok (.iload_n 0, 1) := by decide +kernel
theorem dX12_qIsBracket_7 : decode cX12_qIsBracket 7 = .ok (.bipush 24, 2) := by decide +kernel
theorem dX12_qIsBracket_9 : decode cX12_qIsBracket 9 = .ok (.if_icmp .gt 7, 3) := by decide +kernel
theorem dX12_qIsBracket_12 : decode cX12_qIsBracket 12 = .ok (.iconst 1, 1) := by decide +kernel
theorem dX12_qIsBracket_13 : decode cX12_qIsBracket 13 = .ok (.goto 4, 3) := by decide +kernel
theorem dX12_qIsBracket_16 : decode cX12_qIsBracket 16 = .ok (.iconst 0, 1) := by decide +kernel
theorem dX12_qIsBracket_17 : decode cX12_qIsBracket 17 = .ok (.ireturn, 1) := by decide +kernel
set_option maxRecDepth 20000 in
theorem bk_X12_qIsBracket_0 {d : Nat} {w : hb_W} {Q : Option hb_V → hb_W → Prop} {x0 : Int32} (h : ((x0 < (20 : Int32)) → Q (some (hb_i (0 : Int32))) w) ∧ ((¬ x0 < (20 : Int32)) → (((24 : Int32) < x0) → Q (some (hb_i (0 : Int32))) w) ∧ ((¬ (24 : Int32) < x0) → Q (some (hb_i (1 : Int32))) w))) : hb_R yX12_qIsBracket cX12_qIsBracket 1 (some .boolean) d 0 [some (hb_i x0)] [] w Q := by
  refine hb_iload_n (pc := 0) (i := 0) dX12_qIsBracket_0 rfl rfl ?_
  refine hb_bipush (pc := 1) (v := 20) dX12_qIsBracket_1 (by decide) ?_
  refine hb_icmp_lt (pc := 3) (tgt := 16) dX12_qIsBracket_3 (by decide) (fun c1 => ?_) (fun c1 => ?_)
  · have ht1 := h.1 c1
    refine hb_iconst (pc := 16) (v := 0) dX12_qIsBracket_16 (by decide) ?_
    exact hb_zret (pc := 17) dX12_qIsBracket_17 rfl (Or.inl rfl) ht1
  · have ht1 := h.2 c1
    refine hb_iload_n (pc := 6) (i := 0) dX12_qIsBracket_6 rfl rfl ?_
    refine hb_bipush (pc := 7) (v := 24) dX12_qIsBracket_7 (by decide) ?_
    refine hb_icmp_gt (pc := 9) (tgt := 16) dX12_qIsBracket_9 (by decide) (fun c2 => ?_) (fun c2 => ?_)
    · have ht2 := ht1.1 c2
      refine hb_iconst (pc := 16) (v := 0) dX12_qIsBracket_16 (by decide) ?_
      exact hb_zret (pc := 17) dX12_qIsBracket_17 rfl (Or.inl rfl) ht2
    · have ht2 := ht1.2 c2
      refine hb_iconst (pc := 12) (v := 1) dX12_qIsBracket_12 (by decide) ?_
      refine hb_goto (pc := 13) (tgt := 17) dX12_qIsBracket_13 (by decide) ?_
      exact hb_zret (pc := 17) dX12_qIsBracket_17 rfl (Or.inr rfl) ht2
theorem dX12_qBracket_0 : decode cX12_qBracket 0 = .ok (.aload_n 0, 1) := by decide +kernel
theorem dX12_qBracket_1 : decode cX12_qBracket 1 = .ok (.getfield 260, 3) := by decide +kernel
theorem dX12_qBracket_4 : decode cX12_qBracket 4 = .ok (.iconst 1, 1) := by decide +kernel
theorem dX12_qBracket_5 : decode cX12_qBracket 5 = .ok (.isub, 1) := by decide +kernel
theorem dX12_qBracket_6 : decode cX12_qBracket 6 = .ok (.istore_n 1, 1) := by decide +kernel
theorem dX12_qBracket_7 : decode cX12_qBracket 7 = .ok (.iload_n 1, 1) := by decide +kernel
theorem dX12_qBracket_8 : decode cX12_qBracket 8 = .ok (.aload_n 0, 1) := by decide +kernel
theorem dX12_qBracket_9 : decode cX12_qBracket 9 = .ok (.getfield 266, 3) := by decide +kernel
theorem dX12_qBracket_12 : decode cX12_qBracket 12 = .ok (.if_icmp .lt 21, 3) := by decide +kernel
theorem dX12_qBracket_15 : decode cX12_qBracket 15 = .ok (.aload_n 0, 1) := by decide +kernel
theorem dX12_qBracket_16 : decode cX12_qBracket 16 = .ok (.getfield 182, 3) := by decide +kernel
theorem dX12_qBracket_19 : decode cX12_qBracket 19 = .ok (.iload_n 1, 1) := by decide +kernel
theorem dX12_qBracket_20 : decode cX12_qBracket 20 = .ok (.iaload, 1) := by decide +kernel
theorem dX12_qBracket_21 : decode cX12_qBracket 21 = .ok (.invokestatic 506, 3) := by decide +kernel
theorem dX12_qBracket_24 : decode cX12_qBracket 24 = .ok (.ifCond .ne 9, 3) := by decide +kernel
theorem dX12_qBracket_27 : decode cX12_qBracket 27 = .ok (.iinc 1 (-1), 3) := by decide +kernel
theorem dX12_qBracket_30 : decode cX12_qBracket 30 = .ok (.goto (-23), 3) := by decide +kernel
theorem dX12_qBracket_33 : decode cX12_qBracket 33 = .ok (.iload_n 1, 1) := by decide +kernel
theorem dX12_qBracket_34 : decode cX12_qBracket 34 = .ok (.aload_n 0, 1) := by decide +kernel
theorem dX12_qBracket_35 : decode cX12_qBracket 35 = .ok (.getfield 266, 3) := by decide +kernel
theorem dX12_qBracket_38 : decode cX12_qBracket 38 = .ok (.if_icmp .lt 12, 3) := by decide +kernel
theorem dX12_qBracket_41 : decode cX12_qBracket 41 = .ok (.aload_n 0, 1) := by decide +kernel
theorem dX12_qBracket_42 : decode cX12_qBracket 42 = .ok (.getfield 182, 3) := by decide +kernel
theorem dX12_qBracket_45 : decode cX12_qBracket 45 = .ok (.iload_n 1, 1) := by decide +kernel
theorem dX12_qBracket_46 : decode cX12_qBracket 46 = .ok (.iaload, 1) := by decide +kernel
theorem dX12_qBracket_47 : decode cX12_qBracket 47 = .ok (.goto 4, 3) := by decide +kernel
theorem dX12_qBracket_50 : decode cX12_qBracket 50 = .ok (.iconst (-1), 1) := by decide +kernel
theorem dX12_qBracket_51 : decode cX12_qBracket 51 = .ok (.ireturn, 1) := by decide +kernel
set_option maxRecDepth 20000 in
theorem bk_X12_qBracket_0 {d : Nat} {w : hb_W} {Q : Option hb_V → hb_W → Prop} (h : hb_R yX12_qBracket cX12_qBracket 2 (some .int) (d + 1) 7 [some (hb_r 12 0 0), some (hb_i ((hb_fI w 12 82 0) - (1 : Int32)))] [] w Q) : hb_R yX12_qBracket cX12_qBracket 2 (some .int) (d + 1) 0 [some (hb_r 12 0 0), none] [] w Q := by
  refine hb_aload_n (pc := 0) (i := 0) dX12_qBracket_0 rfl rfl ?_
  refine hb_getIx (pc := 1) (x := hb_fI w 12 82 0) dX12_qBracket_1 fw_X12_260 cw_12 rfl (by decide) rfl rfl ?_
  refine hb_iconst (pc := 4) (v := 1) dX12_qBracket_4 (by decide) ?_
  refine hb_isub (pc := 5) dX12_qBracket_5 ?_
  refine hb_istore_n (pc := 6) (i := 1) (ls1 := [some (hb_r 12 0 0), some (hb_i ((hb_fI w 12 82 0) - (1 : Int32)))]) dX12_qBracket_6 rfl (by decide) rfl ?_
  exact h
set_option maxRecDepth 20000 in
theorem bk_X12_qBracket_7 {d : Nat} {w : hb_W} {Q : Option hb_V → hb_W → Prop} {x1 : Int32} (h : ((x1 < (hb_fI w 12 84 0)) → ((x1 < (hb_fI w 12 84 0)) → Q (some (hb_i (-1 : Int32))) w) ∧ ((¬ x1 < (hb_fI w 12 84 0)) → vp_in x1 1700 ∧ (Q (some (hb_i (hb_aI w 12 55 0 x1.toNatClampNeg))) w))) ∧ ((¬ x1 < (hb_fI w 12 84 0)) → vp_in x1 1700 ∧ (hb_O yX12_qIsBracket cX12_qIsBracket 1 (some .boolean) d [hb_i (hb_aI w 12 55 0 x1.toNatClampNeg)] w (fun rv w1 => hb_R yX12_qBracket cX12_qBracket 2 (some .int) (d + 1) 24 [some (hb_r 12 0 0), some (hb_i x1)] (rv.toList ++ []) w1 Q)))) : hb_R yX12_qBracket cX12_qBracket 2 (some .int) (d + 1) 7 [some (hb_r 12 0 0), some (hb_i x1)] [] w Q := by
  refine hb_iload_n (pc := 7) (i := 1) dX12_qBracket_7 rfl rfl ?_
  refine hb_aload_n (pc := 8) (i := 0) dX12_qBracket_8 rfl rfl ?_
  refine hb_getIx (pc := 9) (x := hb_fI w 12 84 0) dX12_qBracket_9 fw_X12_266 cw_12 rfl (by decide) rfl rfl ?_
  refine hb_icmp_lt (pc := 12) (tgt := 33) dX12_qBracket_12 (by decide) (fun c1 => ?_) (fun c1 => ?_)
  · have ht1 := h.1 c1
    refine hb_iload_n (pc := 33) (i := 1) dX12_qBracket_33 rfl rfl ?_
    refine hb_aload_n (pc := 34) (i := 0) dX12_qBracket_34 rfl rfl ?_
    refine hb_getIx (pc := 35) (x := hb_fI w 12 84 0) dX12_qBracket_35 fw_X12_266 cw_12 rfl (by decide) rfl rfl ?_
    refine hb_icmp_lt (pc := 38) (tgt := 50) dX12_qBracket_38 (by decide) (fun c2 => ?_) (fun c2 => ?_)
    · have ht2 := ht1.1 c2
      refine hb_iconst (pc := 50) (v := -1) dX12_qBracket_50 (by decide) ?_
      exact hb_iret (pc := 51) dX12_qBracket_51 rfl ht2
    · have ht2 := ht1.2 c2
      refine hb_aload_n (pc := 41) (i := 0) dX12_qBracket_41 rfl rfl ?_
      refine hb_getR (pc := 42) (g1 := 0) dX12_qBracket_42 fw_X12_182 cw_12 rfl (by decide) rfl (by decide) rfl ?_
      refine hb_iload_n (pc := 45) (i := 1) dX12_qBracket_45 rfl rfl ?_
      obtain ⟨ho3, hr3⟩ := ht2
      refine hb_ialdx (pc := 46) (x := hb_aI w 12 55 0 x1.toNatClampNeg) dX12_qBracket_46 rfl (by decide) ho3 rfl ?_
      refine hb_goto (pc := 47) (tgt := 51) dX12_qBracket_47 (by decide) ?_
      exact hb_iret (pc := 51) dX12_qBracket_51 rfl hr3
  · have ht1 := h.2 c1
    refine hb_aload_n (pc := 15) (i := 0) dX12_qBracket_15 rfl rfl ?_
    refine hb_getR (pc := 16) (g1 := 0) dX12_qBracket_16 fw_X12_182 cw_12 rfl (by decide) rfl (by decide) rfl ?_
    refine hb_iload_n (pc := 19) (i := 1) dX12_qBracket_19 rfl rfl ?_
    obtain ⟨ho4, hr4⟩ := ht1
    refine hb_ialdx (pc := 20) (x := hb_aI w 12 55 0 x1.toNatClampNeg) dX12_qBracket_20 rfl (by decide) ho4 rfl ?_
    exact hb_callS (pc := 21) (As := [hb_i (hb_aI w 12 55 0 x1.toNatClampNeg)]) (st := []) dX12_qBracket_21 ml_X12_506 mf_X12_qIsBracket ms_X12_qIsBracket rfl rfl (Nat.le_of_ble_eq_true rfl) (Nat.le_of_ble_eq_true rfl) hr4 (fun _ _ q => q)
set_option maxRecDepth 20000 in
theorem bk_X12_qBracket_24 {d : Nat} {w : hb_W} {Q : Option hb_V → hb_W → Prop} {x1 : Int32} {xs0 : Int32} (h : ((¬ xs0 = 0) → ((x1 < (hb_fI w 12 84 0)) → Q (some (hb_i (-1 : Int32))) w) ∧ ((¬ x1 < (hb_fI w 12 84 0)) → vp_in x1 1700 ∧ (Q (some (hb_i (hb_aI w 12 55 0 x1.toNatClampNeg))) w))) ∧ ((xs0 = 0) → hb_R yX12_qBracket cX12_qBracket 2 (some .int) (d + 1) 7 [some (hb_r 12 0 0), some (hb_i (x1 + (-1 : Int32)))] [] w Q)) : hb_R yX12_qBracket cX12_qBracket 2 (some .int) (d + 1) 24 [some (hb_r 12 0 0), some (hb_i x1)] [hb_i xs0] w Q := by
  refine hb_if_ne (pc := 24) (tgt := 33) dX12_qBracket_24 (by decide) (fun c1 => ?_) (fun c1 => ?_)
  · have ht1 := h.1 c1
    refine hb_iload_n (pc := 33) (i := 1) dX12_qBracket_33 rfl rfl ?_
    refine hb_aload_n (pc := 34) (i := 0) dX12_qBracket_34 rfl rfl ?_
    refine hb_getIx (pc := 35) (x := hb_fI w 12 84 0) dX12_qBracket_35 fw_X12_266 cw_12 rfl (by decide) rfl rfl ?_
    refine hb_icmp_lt (pc := 38) (tgt := 50) dX12_qBracket_38 (by decide) (fun c2 => ?_) (fun c2 => ?_)
    · have ht2 := ht1.1 c2
      refine hb_iconst (pc := 50) (v := -1) dX12_qBracket_50 (by decide) ?_
      exact hb_iret (pc := 51) dX12_qBracket_51 rfl ht2
    · have ht2 := ht1.2 c2
      refine hb_aload_n (pc := 41) (i := 0) dX12_qBracket_41 rfl rfl ?_
      refine hb_getR (pc := 42) (g1 := 0) dX12_qBracket_42 fw_X12_182 cw_12 rfl (by decide) rfl (by decide) rfl ?_
      refine hb_iload_n (pc := 45) (i := 1) dX12_qBracket_45 rfl rfl ?_
      obtain ⟨ho3, hr3⟩ := ht2
      refine hb_ialdx (pc := 46) (x := hb_aI w 12 55 0 x1.toNatClampNeg) dX12_qBracket_46 rfl (by decide) ho3 rfl ?_
      refine hb_goto (pc := 47) (tgt := 51) dX12_qBracket_47 (by decide) ?_
      exact hb_iret (pc := 51) dX12_qBracket_51 rfl hr3
  · have ht1 := h.2 c1
    refine hb_iinc (pc := 27) (v := x1 + (-1 : Int32)) (ls1 := [some (hb_r 12 0 0), some (hb_i (x1 + (-1 : Int32)))]) dX12_qBracket_27 rfl rfl (by decide) rfl ?_
    refine hb_goto (pc := 30) (tgt := 7) dX12_qBracket_30 (by decide) ?_
    exact ht1
theorem dX12_qDropsToBracket_0 : decode cX12_qDropsToBracket 0 = .ok (.aload_n 0, 1) := by decide +kernel
theorem dX12_qDropsToBracket_1 : decode cX12_qDropsToBracket 1 = .ok (.getfield 260, 3) := by decide +kernel
theorem dX12_qDropsToBracket_4 : decode cX12_qDropsToBracket 4 = .ok (.aload_n 0, 1) := by decide +kernel
theorem dX12_qDropsToBracket_5 : decode cX12_qDropsToBracket 5 = .ok (.getfield 266, 3) := by decide +kernel
theorem dX12_qDropsToBracket_8 : decode cX12_qDropsToBracket 8 = .ok (.if_icmp .le 27, 3) := by decide +kernel
theorem dX12_qDropsToBracket_11 : decode cX12_qDropsToBracket 11 = .ok (.aload_n 0, 1) := by decide +kernel
theorem dX12_qDropsToBracket_12 : decode cX12_qDropsToBracket 12 = .ok (.getfield 182, 3) := by decide +kernel
theorem dX12_qDropsToBracket_15 : decode cX12_qDropsToBracket 15 = .ok (.aload_n 0, 1) := by decide +kernel
theorem dX12_qDropsToBracket_16 : decode cX12_qDropsToBracket 16 = .ok (.getfield 260, 3) := by decide +kernel
theorem dX12_qDropsToBracket_19 : decode cX12_qDropsToBracket 19 = .ok (.iconst 1, 1) := by decide +kernel
theorem dX12_qDropsToBracket_20 : decode cX12_qDropsToBracket 20 = .ok (.isub, 1) := by decide +kernel
theorem dX12_qDropsToBracket_21 : decode cX12_qDropsToBracket 21 = .ok (.iaload, 1) := by decide +kernel
theorem dX12_qDropsToBracket_22 : decode cX12_qDropsToBracket 22 = .ok (.invokestatic 506, 3) := by decide +kernel
theorem dX12_qDropsToBracket_25 : decode cX12_qDropsToBracket 25 = .ok (.ifCond .ne 10, 3) := by decide +kernel
theorem dX12_qDropsToBracket_28 : decode cX12_qDropsToBracket 28 = .ok (.aload_n 0, 1) := by decide +kernel
theorem dX12_qDropsToBracket_29 : decode cX12_qDropsToBracket 29 = .ok (.invokevirtual 509, 3) := by decide +kernel
theorem dX12_qDropsToBracket_32 : decode cX12_qDropsToBracket 32 = .ok (.goto (-32), 3) := by decide +kernel
theorem dX12_qDropsToBracket_35 : decode cX12_qDropsToBracket 35 = .ok (.return_, 1) := by decide +kernel
set_option maxRecDepth 20000 in
theorem bk_X12_qDropsToBracket_0 {d : Nat} {w : hb_W} {Q : Option hb_V → hb_W → Prop} (h : (((hb_fI w 12 82 0) ≤ (hb_fI w 12 84 0)) → Q none w) ∧ ((¬ (hb_fI w 12 82 0) ≤ (hb_fI w 12 84 0)) → vp_in ((hb_fI w 12 82 0) - (1 : Int32)) 1700 ∧ (hb_O yX12_qIsBracket cX12_qIsBracket 1 (some .boolean) d [hb_i (hb_aI w 12 55 0 ((hb_fI w 12 82 0) - (1 : Int32)).toNatClampNeg)] w (fun rv w1 => hb_R yX12_qDropsToBracket cX12_qDropsToBracket 1 none (d + 1) 25 [some (hb_r 12 0 0)] (rv.toList ++ []) w1 Q)))) : hb_R yX12_qDropsToBracket cX12_qDropsToBracket 1 none (d + 1) 0 [some (hb_r 12 0 0)] [] w Q := by
  refine hb_aload_n (pc := 0) (i := 0) dX12_qDropsToBracket_0 rfl rfl ?_
  refine hb_getIx (pc := 1) (x := hb_fI w 12 82 0) dX12_qDropsToBracket_1 fw_X12_260 cw_12 rfl (by decide) rfl rfl ?_
  refine hb_aload_n (pc := 4) (i := 0) dX12_qDropsToBracket_4 rfl rfl ?_
  refine hb_getIx (pc := 5) (x := hb_fI w 12 84 0) dX12_qDropsToBracket_5 fw_X12_266 cw_12 rfl (by decide) rfl rfl ?_
  refine hb_icmp_le (pc := 8) (tgt := 35) dX12_qDropsToBracket_8 (by decide) (fun c1 => ?_) (fun c1 => ?_)
  · have ht1 := h.1 c1
    exact hb_vret (pc := 35) dX12_qDropsToBracket_35 rfl ht1
  · have ht1 := h.2 c1
    refine hb_aload_n (pc := 11) (i := 0) dX12_qDropsToBracket_11 rfl rfl ?_
    refine hb_getR (pc := 12) (g1 := 0) dX12_qDropsToBracket_12 fw_X12_182 cw_12 rfl (by decide) rfl (by decide) rfl ?_
    refine hb_aload_n (pc := 15) (i := 0) dX12_qDropsToBracket_15 rfl rfl ?_
    refine hb_getIx (pc := 16) (x := hb_fI w 12 82 0) dX12_qDropsToBracket_16 fw_X12_260 cw_12 rfl (by decide) rfl rfl ?_
    refine hb_iconst (pc := 19) (v := 1) dX12_qDropsToBracket_19 (by decide) ?_
    refine hb_isub (pc := 20) dX12_qDropsToBracket_20 ?_
    obtain ⟨ho2, hr2⟩ := ht1
    refine hb_ialdx (pc := 21) (x := hb_aI w 12 55 0 ((hb_fI w 12 82 0) - (1 : Int32)).toNatClampNeg) dX12_qDropsToBracket_21 rfl (by decide) ho2 rfl ?_
    exact hb_callS (pc := 22) (As := [hb_i (hb_aI w 12 55 0 ((hb_fI w 12 82 0) - (1 : Int32)).toNatClampNeg)]) (st := []) dX12_qDropsToBracket_22 ml_X12_506 mf_X12_qIsBracket ms_X12_qIsBracket rfl rfl (Nat.le_of_ble_eq_true rfl) (Nat.le_of_ble_eq_true rfl) hr2 (fun _ _ q => q)
set_option maxRecDepth 20000 in
theorem bk_X12_qDropsToBracket_25 {d : Nat} {w : hb_W} {Q : Option hb_V → hb_W → Prop} {xs0 : Int32} (h : ((¬ xs0 = 0) → Q none w) ∧ ((xs0 = 0) → hb_O yX12_qDrops cX12_qDrops 1 none d [hb_r 12 0 0] w (fun rv w1 => hb_R yX12_qDropsToBracket cX12_qDropsToBracket 1 none (d + 1) 32 [some (hb_r 12 0 0)] (rv.toList ++ []) w1 Q))) : hb_R yX12_qDropsToBracket cX12_qDropsToBracket 1 none (d + 1) 25 [some (hb_r 12 0 0)] [hb_i xs0] w Q := by
  refine hb_if_ne (pc := 25) (tgt := 35) dX12_qDropsToBracket_25 (by decide) (fun c1 => ?_) (fun c1 => ?_)
  · have ht1 := h.1 c1
    exact hb_vret (pc := 35) dX12_qDropsToBracket_35 rfl ht1
  · have ht1 := h.2 c1
    refine hb_aload_n (pc := 28) (i := 0) dX12_qDropsToBracket_28 rfl rfl ?_
    exact hb_callV (pc := 29) (As := []) (st := []) dX12_qDropsToBracket_29 ml_X12_509 mf_X12_qDrops mi_X12_qDrops (ci := 12) rfl rfl (by decide) rfl rfl (Nat.le_of_ble_eq_true rfl) (Nat.le_of_ble_eq_true rfl) ht1 (fun _ _ q => q)
set_option maxRecDepth 20000 in
theorem bk_X12_qDropsToBracket_32 {d : Nat} {w : hb_W} {Q : Option hb_V → hb_W → Prop} (h : hb_R yX12_qDropsToBracket cX12_qDropsToBracket 1 none (d + 1) 0 [some (hb_r 12 0 0)] [] w Q) : hb_R yX12_qDropsToBracket cX12_qDropsToBracket 1 none (d + 1) 32 [some (hb_r 12 0 0)] [] w Q := by
  refine hb_goto (pc := 32) (tgt := 0) dX12_qDropsToBracket_32 (by decide) ?_
  exact h
theorem dX12_qWordHere_0 : decode cX12_qWordHere 0 = .ok (.aload_n 0, 1) := by decide +kernel
theorem dX12_qWordHere_1 : decode cX12_qWordHere 1 = .ok (.aload_n 0, 1) := by decide +kernel
theorem dX12_qWordHere_2 : decode cX12_qWordHere 2 = .ok (.getfield 152, 3) := by decide +kernel
theorem dX12_qWordHere_5 : decode cX12_qWordHere 5 = .ok (.invokevirtual 218, 3) := by decide +kernel
theorem dX12_qWordHere_8 : decode cX12_qWordHere 8 = .ok (.ifCond .eq 5, 3) := by decide +kernel
theorem dX12_qWordHere_11 : decode cX12_qWordHere 11 = .ok (.iconst 0, 1) := by decide +kernel
theorem dX12_qWordHere_12 : decode cX12_qWordHere 12 = .ok (.ireturn, 1) := by decide +kernel
theorem dX12_qWordHere_13 : decode cX12_qWordHere 13 = .ok (.aload_n 0, 1) := by decide +kernel
theorem dX12_qWordHere_14 : decode cX12_qWordHere 14 = .ok (.aload_n 0, 1) := by decide +kernel
theorem dX12_qWordHere_15 : decode cX12_qWordHere 15 = .ok (.getfield 155, 3) := by decide +kernel
theorem dX12_qWordHere_18 : decode cX12_qWordHere 18 = .ok (.invokevirtual 218, 3) := by decide +kernel
theorem dX12_qWordHere_21 : decode cX12_qWordHere 21 = .ok (.ifCond .eq 5, 3) := by decide +kernel
theorem dX12_qWordHere_24 : decode cX12_qWordHere 24 = .ok (.iconst 1, 1) := by decide +kernel
theorem dX12_qWordHere_25 : decode cX12_qWordHere 25 = .ok (.ireturn, 1) := by decide +kernel
theorem dX12_qWordHere_26 : decode cX12_qWordHere 26 = .ok (.aload_n 0, 1) := by decide +kernel
theorem dX12_qWordHere_27 : decode cX12_qWordHere 27 = .ok (.aload_n 0, 1) := by decide +kernel
theorem dX12_qWordHere_28 : decode cX12_qWordHere 28 = .ok (.getfield 158, 3) := by decide +kernel
theorem dX12_qWordHere_31 : decode cX12_qWordHere 31 = .ok (.invokevirtual 218, 3) := by decide +kernel
theorem dX12_qWordHere_34 : decode cX12_qWordHere 34 = .ok (.ifCond .eq 5, 3) := by decide +kernel
theorem dX12_qWordHere_37 : decode cX12_qWordHere 37 = .ok (.iconst 2, 1) := by decide +kernel
theorem dX12_qWordHere_38 : decode cX12_qWordHere 38 = .ok (.ireturn, 1) := by decide +kernel
theorem dX12_qWordHere_39 : decode cX12_qWordHere 39 = .ok (.aload_n 0, 1) := by decide +kernel
theorem dX12_qWordHere_40 : decode cX12_qWordHere 40 = .ok (.aload_n 0, 1) := by decide +kernel
theorem dX12_qWordHere_41 : decode cX12_qWordHere 41 = .ok (.getfield 161, 3) := by decide +kernel
theorem dX12_qWordHere_44 : decode cX12_qWordHere 44 = .ok (.invokevirtual 218, 3) := by decide +kernel
theorem dX12_qWordHere_47 : decode cX12_qWordHere 47 = .ok (.ifCond .eq 5, 3) := by decide +kernel
theorem dX12_qWordHere_50 : decode cX12_qWordHere 50 = .ok (.iconst 3, 1) := by decide +kernel
theorem dX12_qWordHere_51 : decode cX12_qWordHere 51 = .ok (.ireturn, 1) := by decide +kernel
theorem dX12_qWordHere_52 : decode cX12_qWordHere 52 = .ok (.aload_n 0, 1) := by decide +kernel
theorem dX12_qWordHere_53 : decode cX12_qWordHere 53 = .ok (.aload_n 0, 1) := by decide +kernel
theorem dX12_qWordHere_54 : decode cX12_qWordHere 54 = .ok (.getfield 164, 3) := by decide +kernel
theorem dX12_qWordHere_57 : decode cX12_qWordHere 57 = .ok (.invokevirtual 218, 3) := by decide +kernel
theorem dX12_qWordHere_60 : decode cX12_qWordHere 60 = .ok (.ifCond .eq 5, 3) := by decide +kernel
theorem dX12_qWordHere_63 : decode cX12_qWordHere 63 = .ok (.iconst 4, 1) := by decide +kernel
theorem dX12_qWordHere_64 : decode cX12_qWordHere 64 = .ok (.ireturn, 1) := by decide +kernel
theorem dX12_qWordHere_65 : decode cX12_qWordHere 65 = .ok (.aload_n 0, 1) := by decide +kernel
theorem dX12_qWordHere_66 : decode cX12_qWordHere 66 = .ok (.aload_n 0, 1) := by decide +kernel
theorem dX12_qWordHere_67 : decode cX12_qWordHere 67 = .ok (.getfield 167, 3) := by decide +kernel
theorem dX12_qWordHere_70 : decode cX12_qWordHere 70 = .ok (.invokevirtual 218, 3) := by decide +kernel
theorem dX12_qWordHere_73 : decode cX12_qWordHere 73 = .ok (.ifCond .eq 5, 3) := by decide +kernel
theorem dX12_qWordHere_76 : decode cX12_qWordHere 76 = .ok (.iconst 5, 1) := by decide +kernel
theorem dX12_qWordHere_77 : decode cX12_qWordHere 77 = .ok (.ireturn, 1) := by decide +kernel
theorem dX12_qWordHere_78 : decode cX12_qWordHere 78 = .ok (.aload_n 0, 1) := by decide +kernel
theorem dX12_qWordHere_79 : decode cX12_qWordHere 79 = .ok (.aload_n 0, 1) := by decide +kernel
theorem dX12_qWordHere_80 : decode cX12_qWordHere 80 = .ok (.getfield 170, 3) := by decide +kernel
theorem dX12_qWordHere_83 : decode cX12_qWordHere 83 = .ok (.invokevirtual 218, 3) := by decide +kernel
theorem dX12_qWordHere_86 : decode cX12_qWordHere 86 = .ok (.ifCond .eq 6, 3) := by decide +kernel
theorem dX12_qWordHere_89 : decode cX12_qWordHere 89 = .ok (.bipush 6, 2) := by decide +kernel
theorem dX12_qWordHere_91 : decode cX12_qWordHere 91 = .ok (.ireturn, 1) := by decide +kernel
theorem dX12_qWordHere_92 : decode cX12_qWordHere 92 = .ok (.aload_n 0, 1) := by decide +kernel
theorem dX12_qWordHere_93 : decode cX12_qWordHere 93 = .ok (.aload_n 0, 1) := by decide +kernel
theorem dX12_qWordHere_94 : decode cX12_qWordHere 94 = .ok (.getfield 173, 3) := by decide +kernel
theorem dX12_qWordHere_97 : decode cX12_qWordHere 97 = .ok (.invokevirtual 218, 3) := by decide +kernel
theorem dX12_qWordHere_100 : decode cX12_qWordHere 100 = .ok (.ifCond .eq 6, 3) := by decide +kernel
theorem dX12_qWordHere_103 : decode cX12_qWordHere 103 = .ok (.bipush 7, 2) := by decide +kernel
theorem dX12_qWordHere_105 : decode cX12_qWordHere 105 = .ok (.ireturn, 1) := by decide +kernel
theorem dX12_qWordHere_106 : decode cX12_qWordHere 106 = .ok (.aload_n 0, 1) := by decide +kernel
theorem dX12_qWordHere_107 : decode cX12_qWordHere 107 = .ok (.aload_n 0, 1) := by decide +kernel
theorem dX12_qWordHere_108 : decode cX12_qWordHere 108 = .ok (.getfield 176, 3) := by decide +kernel
theorem dX12_qWordHere_111 : decode cX12_qWordHere 111 = .ok (.invokevirtual 218, 3) := by decide +kernel
theorem dX12_qWordHere_114 : decode cX12_qWordHere 114 = .ok (.ifCond .eq 6, 3) := by decide +kernel
theorem dX12_qWordHere_117 : decode cX12_qWordHere 117 = .ok (.bipush 8, 2) := by decide +kernel
theorem dX12_qWordHere_119 : decode cX12_qWordHere 119 = .ok (.ireturn, 1) := by decide +kernel
theorem dX12_qWordHere_120 : decode cX12_qWordHere 120 = .ok (.iconst (-1), 1) := by decide +kernel
theorem dX12_qWordHere_121 : decode cX12_qWordHere 121 = .ok (.ireturn, 1) := by decide +kernel
set_option maxRecDepth 20000 in
theorem bk_X12_qWordHere_0 {d : Nat} {w : hb_W} {Q : Option hb_V → hb_W → Prop} (h : hb_O yX12_isHere cX12_isHere 4 (some .boolean) d [hb_r 12 0 0, hb_r 12 0 45] w (fun rv w1 => hb_R yX12_qWordHere cX12_qWordHere 1 (some .int) (d + 1) 8 [some (hb_r 12 0 0)] (rv.toList ++ []) w1 Q)) : hb_R yX12_qWordHere cX12_qWordHere 1 (some .int) (d + 1) 0 [some (hb_r 12 0 0)] [] w Q := by
  refine hb_aload_n (pc := 0) (i := 0) dX12_qWordHere_0 rfl rfl ?_
  refine hb_aload_n (pc := 1) (i := 0) dX12_qWordHere_1 rfl rfl ?_
  refine hb_getR (pc := 2) (g1 := 0) dX12_qWordHere_2 fw_X12_152 cw_12 rfl (by decide) rfl (by decide) rfl ?_
  exact hb_callV (pc := 5) (As := [hb_r 12 0 45]) (st := []) dX12_qWordHere_5 ml_X12_218 mf_X12_isHere mi_X12_isHere (ci := 12) rfl rfl (by decide) rfl rfl (Nat.le_of_ble_eq_true rfl) (Nat.le_of_ble_eq_true rfl) h (fun _ _ q => q)
set_option maxRecDepth 20000 in
theorem bk_X12_qWordHere_8 {d : Nat} {w : hb_W} {Q : Option hb_V → hb_W → Prop} {xs0 : Int32} (h : ((xs0 = 0) → hb_O yX12_isHere cX12_isHere 4 (some .boolean) d [hb_r 12 0 0, hb_r 12 0 46] w (fun rv w1 => hb_R yX12_qWordHere cX12_qWordHere 1 (some .int) (d + 1) 21 [some (hb_r 12 0 0)] (rv.toList ++ []) w1 Q)) ∧ ((¬ xs0 = 0) → Q (some (hb_i (0 : Int32))) w)) : hb_R yX12_qWordHere cX12_qWordHere 1 (some .int) (d + 1) 8 [some (hb_r 12 0 0)] [hb_i xs0] w Q := by
  refine hb_if_eq (pc := 8) (tgt := 13) dX12_qWordHere_8 (by decide) (fun c1 => ?_) (fun c1 => ?_)
  · have ht1 := h.1 c1
    refine hb_aload_n (pc := 13) (i := 0) dX12_qWordHere_13 rfl rfl ?_
    refine hb_aload_n (pc := 14) (i := 0) dX12_qWordHere_14 rfl rfl ?_
    refine hb_getR (pc := 15) (g1 := 0) dX12_qWordHere_15 fw_X12_155 cw_12 rfl (by decide) rfl (by decide) rfl ?_
    exact hb_callV (pc := 18) (As := [hb_r 12 0 46]) (st := []) dX12_qWordHere_18 ml_X12_218 mf_X12_isHere mi_X12_isHere (ci := 12) rfl rfl (by decide) rfl rfl (Nat.le_of_ble_eq_true rfl) (Nat.le_of_ble_eq_true rfl) ht1 (fun _ _ q => q)
  · have ht1 := h.2 c1
    refine hb_iconst (pc := 11) (v := 0) dX12_qWordHere_11 (by decide) ?_
    exact hb_iret (pc := 12) dX12_qWordHere_12 rfl ht1
set_option maxRecDepth 20000 in
theorem bk_X12_qWordHere_21 {d : Nat} {w : hb_W} {Q : Option hb_V → hb_W → Prop} {xs0 : Int32} (h : ((xs0 = 0) → hb_O yX12_isHere cX12_isHere 4 (some .boolean) d [hb_r 12 0 0, hb_r 12 0 47] w (fun rv w1 => hb_R yX12_qWordHere cX12_qWordHere 1 (some .int) (d + 1) 34 [some (hb_r 12 0 0)] (rv.toList ++ []) w1 Q)) ∧ ((¬ xs0 = 0) → Q (some (hb_i (1 : Int32))) w)) : hb_R yX12_qWordHere cX12_qWordHere 1 (some .int) (d + 1) 21 [some (hb_r 12 0 0)] [hb_i xs0] w Q := by
  refine hb_if_eq (pc := 21) (tgt := 26) dX12_qWordHere_21 (by decide) (fun c1 => ?_) (fun c1 => ?_)
  · have ht1 := h.1 c1
    refine hb_aload_n (pc := 26) (i := 0) dX12_qWordHere_26 rfl rfl ?_
    refine hb_aload_n (pc := 27) (i := 0) dX12_qWordHere_27 rfl rfl ?_
    refine hb_getR (pc := 28) (g1 := 0) dX12_qWordHere_28 fw_X12_158 cw_12 rfl (by decide) rfl (by decide) rfl ?_
    exact hb_callV (pc := 31) (As := [hb_r 12 0 47]) (st := []) dX12_qWordHere_31 ml_X12_218 mf_X12_isHere mi_X12_isHere (ci := 12) rfl rfl (by decide) rfl rfl (Nat.le_of_ble_eq_true rfl) (Nat.le_of_ble_eq_true rfl) ht1 (fun _ _ q => q)
  · have ht1 := h.2 c1
    refine hb_iconst (pc := 24) (v := 1) dX12_qWordHere_24 (by decide) ?_
    exact hb_iret (pc := 25) dX12_qWordHere_25 rfl ht1
set_option maxRecDepth 20000 in
theorem bk_X12_qWordHere_34 {d : Nat} {w : hb_W} {Q : Option hb_V → hb_W → Prop} {xs0 : Int32} (h : ((xs0 = 0) → hb_O yX12_isHere cX12_isHere 4 (some .boolean) d [hb_r 12 0 0, hb_r 12 0 48] w (fun rv w1 => hb_R yX12_qWordHere cX12_qWordHere 1 (some .int) (d + 1) 47 [some (hb_r 12 0 0)] (rv.toList ++ []) w1 Q)) ∧ ((¬ xs0 = 0) → Q (some (hb_i (2 : Int32))) w)) : hb_R yX12_qWordHere cX12_qWordHere 1 (some .int) (d + 1) 34 [some (hb_r 12 0 0)] [hb_i xs0] w Q := by
  refine hb_if_eq (pc := 34) (tgt := 39) dX12_qWordHere_34 (by decide) (fun c1 => ?_) (fun c1 => ?_)
  · have ht1 := h.1 c1
    refine hb_aload_n (pc := 39) (i := 0) dX12_qWordHere_39 rfl rfl ?_
    refine hb_aload_n (pc := 40) (i := 0) dX12_qWordHere_40 rfl rfl ?_
    refine hb_getR (pc := 41) (g1 := 0) dX12_qWordHere_41 fw_X12_161 cw_12 rfl (by decide) rfl (by decide) rfl ?_
    exact hb_callV (pc := 44) (As := [hb_r 12 0 48]) (st := []) dX12_qWordHere_44 ml_X12_218 mf_X12_isHere mi_X12_isHere (ci := 12) rfl rfl (by decide) rfl rfl (Nat.le_of_ble_eq_true rfl) (Nat.le_of_ble_eq_true rfl) ht1 (fun _ _ q => q)
  · have ht1 := h.2 c1
    refine hb_iconst (pc := 37) (v := 2) dX12_qWordHere_37 (by decide) ?_
    exact hb_iret (pc := 38) dX12_qWordHere_38 rfl ht1
set_option maxRecDepth 20000 in
theorem bk_X12_qWordHere_47 {d : Nat} {w : hb_W} {Q : Option hb_V → hb_W → Prop} {xs0 : Int32} (h : ((xs0 = 0) → hb_O yX12_isHere cX12_isHere 4 (some .boolean) d [hb_r 12 0 0, hb_r 12 0 49] w (fun rv w1 => hb_R yX12_qWordHere cX12_qWordHere 1 (some .int) (d + 1) 60 [some (hb_r 12 0 0)] (rv.toList ++ []) w1 Q)) ∧ ((¬ xs0 = 0) → Q (some (hb_i (3 : Int32))) w)) : hb_R yX12_qWordHere cX12_qWordHere 1 (some .int) (d + 1) 47 [some (hb_r 12 0 0)] [hb_i xs0] w Q := by
  refine hb_if_eq (pc := 47) (tgt := 52) dX12_qWordHere_47 (by decide) (fun c1 => ?_) (fun c1 => ?_)
  · have ht1 := h.1 c1
    refine hb_aload_n (pc := 52) (i := 0) dX12_qWordHere_52 rfl rfl ?_
    refine hb_aload_n (pc := 53) (i := 0) dX12_qWordHere_53 rfl rfl ?_
    refine hb_getR (pc := 54) (g1 := 0) dX12_qWordHere_54 fw_X12_164 cw_12 rfl (by decide) rfl (by decide) rfl ?_
    exact hb_callV (pc := 57) (As := [hb_r 12 0 49]) (st := []) dX12_qWordHere_57 ml_X12_218 mf_X12_isHere mi_X12_isHere (ci := 12) rfl rfl (by decide) rfl rfl (Nat.le_of_ble_eq_true rfl) (Nat.le_of_ble_eq_true rfl) ht1 (fun _ _ q => q)
  · have ht1 := h.2 c1
    refine hb_iconst (pc := 50) (v := 3) dX12_qWordHere_50 (by decide) ?_
    exact hb_iret (pc := 51) dX12_qWordHere_51 rfl ht1
set_option maxRecDepth 20000 in
theorem bk_X12_qWordHere_60 {d : Nat} {w : hb_W} {Q : Option hb_V → hb_W → Prop} {xs0 : Int32} (h : ((xs0 = 0) → hb_O yX12_isHere cX12_isHere 4 (some .boolean) d [hb_r 12 0 0, hb_r 12 0 50] w (fun rv w1 => hb_R yX12_qWordHere cX12_qWordHere 1 (some .int) (d + 1) 73 [some (hb_r 12 0 0)] (rv.toList ++ []) w1 Q)) ∧ ((¬ xs0 = 0) → Q (some (hb_i (4 : Int32))) w)) : hb_R yX12_qWordHere cX12_qWordHere 1 (some .int) (d + 1) 60 [some (hb_r 12 0 0)] [hb_i xs0] w Q := by
  refine hb_if_eq (pc := 60) (tgt := 65) dX12_qWordHere_60 (by decide) (fun c1 => ?_) (fun c1 => ?_)
  · have ht1 := h.1 c1
    refine hb_aload_n (pc := 65) (i := 0) dX12_qWordHere_65 rfl rfl ?_
    refine hb_aload_n (pc := 66) (i := 0) dX12_qWordHere_66 rfl rfl ?_
    refine hb_getR (pc := 67) (g1 := 0) dX12_qWordHere_67 fw_X12_167 cw_12 rfl (by decide) rfl (by decide) rfl ?_
    exact hb_callV (pc := 70) (As := [hb_r 12 0 50]) (st := []) dX12_qWordHere_70 ml_X12_218 mf_X12_isHere mi_X12_isHere (ci := 12) rfl rfl (by decide) rfl rfl (Nat.le_of_ble_eq_true rfl) (Nat.le_of_ble_eq_true rfl) ht1 (fun _ _ q => q)
  · have ht1 := h.2 c1
    refine hb_iconst (pc := 63) (v := 4) dX12_qWordHere_63 (by decide) ?_
    exact hb_iret (pc := 64) dX12_qWordHere_64 rfl ht1
set_option maxRecDepth 20000 in
theorem bk_X12_qWordHere_73 {d : Nat} {w : hb_W} {Q : Option hb_V → hb_W → Prop} {xs0 : Int32} (h : ((xs0 = 0) → hb_O yX12_isHere cX12_isHere 4 (some .boolean) d [hb_r 12 0 0, hb_r 12 0 51] w (fun rv w1 => hb_R yX12_qWordHere cX12_qWordHere 1 (some .int) (d + 1) 86 [some (hb_r 12 0 0)] (rv.toList ++ []) w1 Q)) ∧ ((¬ xs0 = 0) → Q (some (hb_i (5 : Int32))) w)) : hb_R yX12_qWordHere cX12_qWordHere 1 (some .int) (d + 1) 73 [some (hb_r 12 0 0)] [hb_i xs0] w Q := by
  refine hb_if_eq (pc := 73) (tgt := 78) dX12_qWordHere_73 (by decide) (fun c1 => ?_) (fun c1 => ?_)
  · have ht1 := h.1 c1
    refine hb_aload_n (pc := 78) (i := 0) dX12_qWordHere_78 rfl rfl ?_
    refine hb_aload_n (pc := 79) (i := 0) dX12_qWordHere_79 rfl rfl ?_
    refine hb_getR (pc := 80) (g1 := 0) dX12_qWordHere_80 fw_X12_170 cw_12 rfl (by decide) rfl (by decide) rfl ?_
    exact hb_callV (pc := 83) (As := [hb_r 12 0 51]) (st := []) dX12_qWordHere_83 ml_X12_218 mf_X12_isHere mi_X12_isHere (ci := 12) rfl rfl (by decide) rfl rfl (Nat.le_of_ble_eq_true rfl) (Nat.le_of_ble_eq_true rfl) ht1 (fun _ _ q => q)
  · have ht1 := h.2 c1
    refine hb_iconst (pc := 76) (v := 5) dX12_qWordHere_76 (by decide) ?_
    exact hb_iret (pc := 77) dX12_qWordHere_77 rfl ht1
set_option maxRecDepth 20000 in
theorem bk_X12_qWordHere_86 {d : Nat} {w : hb_W} {Q : Option hb_V → hb_W → Prop} {xs0 : Int32} (h : ((xs0 = 0) → hb_O yX12_isHere cX12_isHere 4 (some .boolean) d [hb_r 12 0 0, hb_r 12 0 52] w (fun rv w1 => hb_R yX12_qWordHere cX12_qWordHere 1 (some .int) (d + 1) 100 [some (hb_r 12 0 0)] (rv.toList ++ []) w1 Q)) ∧ ((¬ xs0 = 0) → Q (some (hb_i (6 : Int32))) w)) : hb_R yX12_qWordHere cX12_qWordHere 1 (some .int) (d + 1) 86 [some (hb_r 12 0 0)] [hb_i xs0] w Q := by
  refine hb_if_eq (pc := 86) (tgt := 92) dX12_qWordHere_86 (by decide) (fun c1 => ?_) (fun c1 => ?_)
  · have ht1 := h.1 c1
    refine hb_aload_n (pc := 92) (i := 0) dX12_qWordHere_92 rfl rfl ?_
    refine hb_aload_n (pc := 93) (i := 0) dX12_qWordHere_93 rfl rfl ?_
    refine hb_getR (pc := 94) (g1 := 0) dX12_qWordHere_94 fw_X12_173 cw_12 rfl (by decide) rfl (by decide) rfl ?_
    exact hb_callV (pc := 97) (As := [hb_r 12 0 52]) (st := []) dX12_qWordHere_97 ml_X12_218 mf_X12_isHere mi_X12_isHere (ci := 12) rfl rfl (by decide) rfl rfl (Nat.le_of_ble_eq_true rfl) (Nat.le_of_ble_eq_true rfl) ht1 (fun _ _ q => q)
  · have ht1 := h.2 c1
    refine hb_bipush (pc := 89) (v := 6) dX12_qWordHere_89 (by decide) ?_
    exact hb_iret (pc := 91) dX12_qWordHere_91 rfl ht1
set_option maxRecDepth 20000 in
theorem bk_X12_qWordHere_100 {d : Nat} {w : hb_W} {Q : Option hb_V → hb_W → Prop} {xs0 : Int32} (h : ((xs0 = 0) → hb_O yX12_isHere cX12_isHere 4 (some .boolean) d [hb_r 12 0 0, hb_r 12 0 53] w (fun rv w1 => hb_R yX12_qWordHere cX12_qWordHere 1 (some .int) (d + 1) 114 [some (hb_r 12 0 0)] (rv.toList ++ []) w1 Q)) ∧ ((¬ xs0 = 0) → Q (some (hb_i (7 : Int32))) w)) : hb_R yX12_qWordHere cX12_qWordHere 1 (some .int) (d + 1) 100 [some (hb_r 12 0 0)] [hb_i xs0] w Q := by
  refine hb_if_eq (pc := 100) (tgt := 106) dX12_qWordHere_100 (by decide) (fun c1 => ?_) (fun c1 => ?_)
  · have ht1 := h.1 c1
    refine hb_aload_n (pc := 106) (i := 0) dX12_qWordHere_106 rfl rfl ?_
    refine hb_aload_n (pc := 107) (i := 0) dX12_qWordHere_107 rfl rfl ?_
    refine hb_getR (pc := 108) (g1 := 0) dX12_qWordHere_108 fw_X12_176 cw_12 rfl (by decide) rfl (by decide) rfl ?_
    exact hb_callV (pc := 111) (As := [hb_r 12 0 53]) (st := []) dX12_qWordHere_111 ml_X12_218 mf_X12_isHere mi_X12_isHere (ci := 12) rfl rfl (by decide) rfl rfl (Nat.le_of_ble_eq_true rfl) (Nat.le_of_ble_eq_true rfl) ht1 (fun _ _ q => q)
  · have ht1 := h.2 c1
    refine hb_bipush (pc := 103) (v := 7) dX12_qWordHere_103 (by decide) ?_
    exact hb_iret (pc := 105) dX12_qWordHere_105 rfl ht1
set_option maxRecDepth 20000 in
theorem bk_X12_qWordHere_114 {d : Nat} {w : hb_W} {Q : Option hb_V → hb_W → Prop} {xs0 : Int32} (h : ((xs0 = 0) → Q (some (hb_i (-1 : Int32))) w) ∧ ((¬ xs0 = 0) → Q (some (hb_i (8 : Int32))) w)) : hb_R yX12_qWordHere cX12_qWordHere 1 (some .int) (d + 1) 114 [some (hb_r 12 0 0)] [hb_i xs0] w Q := by
  refine hb_if_eq (pc := 114) (tgt := 120) dX12_qWordHere_114 (by decide) (fun c1 => ?_) (fun c1 => ?_)
  · have ht1 := h.1 c1
    refine hb_iconst (pc := 120) (v := -1) dX12_qWordHere_120 (by decide) ?_
    exact hb_iret (pc := 121) dX12_qWordHere_121 rfl ht1
  · have ht1 := h.2 c1
    refine hb_bipush (pc := 117) (v := 8) dX12_qWordHere_117 (by decide) ?_
    exact hb_iret (pc := 119) dX12_qWordHere_119 rfl ht1
theorem dX12_qWordOf_0 : decode cX12_qWordOf 0 = .ok (.aload_n 0, 1) := by decide +kernel
theorem dX12_qWordOf_1 : decode cX12_qWordOf 1 = .ok (.invokevirtual 512, 3) := by decide +kernel
theorem dX12_qWordOf_4 : decode cX12_qWordOf 4 = .ok (.istore_n 3, 1) := by decide +kernel
theorem dX12_qWordOf_5 : decode cX12_qWordOf 5 = .ok (.iload_n 3, 1) := by decide +kernel
theorem dX12_qWordOf_6 : decode cX12_qWordOf 6 = .ok (.iload_n 1, 1) := by decide +kernel
theorem dX12_qWordOf_7 : decode cX12_qWordOf 7 = .ok (.if_icmp .lt 20, 3) := by decide +kernel
theorem dX12_qWordOf_10 : decode cX12_qWordOf 10 = .ok (.iload_n 3, 1) := by decide +kernel
theorem dX12_qWordOf_11 : decode cX12_qWordOf 11 = .ok (.iload_n 2, 1) := by decide +kernel
theorem dX12_qWordOf_12 : decode cX12_qWordOf 12 = .ok (.if_icmp .ge 15, 3) := by decide +kernel
theorem dX12_qWordOf_15 : decode cX12_qWordOf 15 = .ok (.aload_n 0, 1) := by decide +kernel
theorem dX12_qWordOf_16 : decode cX12_qWordOf 16 = .ok (.iload_n 3, 1) := by decide +kernel
theorem dX12_qWordOf_17 : decode cX12_qWordOf 17 = .ok (.invokevirtual 515, 3) := by decide +kernel
theorem dX12_qWordOf_20 : decode cX12_qWordOf 20 = .ok (.ifCond .eq 7, 3) := by decide +kernel
theorem dX12_qWordOf_23 : decode cX12_qWordOf 23 = .ok (.iload_n 3, 1) := by decide +kernel
theorem dX12_qWordOf_24 : decode cX12_qWordOf 24 = .ok (.goto 4, 3) := by decide +kernel
theorem dX12_qWordOf_27 : decode cX12_qWordOf 27 = .ok (.iconst (-1), 1) := by decide +kernel
theorem dX12_qWordOf_28 : decode cX12_qWordOf 28 = .ok (.ireturn, 1) := by decide +kernel
set_option maxRecDepth 20000 in
theorem bk_X12_qWordOf_0 {d : Nat} {w : hb_W} {Q : Option hb_V → hb_W → Prop} {x1 : Int32} {x2 : Int32} (h : hb_O yX12_qWordHere cX12_qWordHere 1 (some .int) d [hb_r 12 0 0] w (fun rv w1 => hb_R yX12_qWordOf cX12_qWordOf 4 (some .int) (d + 1) 4 [some (hb_r 12 0 0), some (hb_i x1), some (hb_i x2), none] (rv.toList ++ []) w1 Q)) : hb_R yX12_qWordOf cX12_qWordOf 4 (some .int) (d + 1) 0 [some (hb_r 12 0 0), some (hb_i x1), some (hb_i x2), none] [] w Q := by
  refine hb_aload_n (pc := 0) (i := 0) dX12_qWordOf_0 rfl rfl ?_
  exact hb_callV (pc := 1) (As := []) (st := []) dX12_qWordOf_1 ml_X12_512 mf_X12_qWordHere mi_X12_qWordHere (ci := 12) rfl rfl (by decide) rfl rfl (Nat.le_of_ble_eq_true rfl) (Nat.le_of_ble_eq_true rfl) h (fun _ _ q => q)
set_option maxRecDepth 20000 in
theorem bk_X12_qWordOf_4 {d : Nat} {w : hb_W} {Q : Option hb_V → hb_W → Prop} {x1 : Int32} {x2 : Int32} {xs0 : Int32} (h : ((xs0 < x1) → Q (some (hb_i (-1 : Int32))) w) ∧ ((¬ xs0 < x1) → ((x2 ≤ xs0) → Q (some (hb_i (-1 : Int32))) w) ∧ ((¬ x2 ≤ xs0) → hb_O yX12_isAllowed cX12_isAllowed 2 (some .boolean) d [hb_r 12 0 0, hb_i xs0] w (fun rv w1 => hb_R yX12_qWordOf cX12_qWordOf 4 (some .int) (d + 1) 20 [some (hb_r 12 0 0), some (hb_i x1), some (hb_i x2), some (hb_i xs0)] (rv.toList ++ []) w1 Q)))) : hb_R yX12_qWordOf cX12_qWordOf 4 (some .int) (d + 1) 4 [some (hb_r 12 0 0), some (hb_i x1), some (hb_i x2), none] [hb_i xs0] w Q := by
  refine hb_istore_n (pc := 4) (i := 3) (ls1 := [some (hb_r 12 0 0), some (hb_i x1), some (hb_i x2), some (hb_i xs0)]) dX12_qWordOf_4 rfl (by decide) rfl ?_
  refine hb_iload_n (pc := 5) (i := 3) dX12_qWordOf_5 rfl rfl ?_
  refine hb_iload_n (pc := 6) (i := 1) dX12_qWordOf_6 rfl rfl ?_
  refine hb_icmp_lt (pc := 7) (tgt := 27) dX12_qWordOf_7 (by decide) (fun c1 => ?_) (fun c1 => ?_)
  · have ht1 := h.1 c1
    refine hb_iconst (pc := 27) (v := -1) dX12_qWordOf_27 (by decide) ?_
    exact hb_iret (pc := 28) dX12_qWordOf_28 rfl ht1
  · have ht1 := h.2 c1
    refine hb_iload_n (pc := 10) (i := 3) dX12_qWordOf_10 rfl rfl ?_
    refine hb_iload_n (pc := 11) (i := 2) dX12_qWordOf_11 rfl rfl ?_
    refine hb_icmp_ge (pc := 12) (tgt := 27) dX12_qWordOf_12 (by decide) (fun c2 => ?_) (fun c2 => ?_)
    · have ht2 := ht1.1 c2
      refine hb_iconst (pc := 27) (v := -1) dX12_qWordOf_27 (by decide) ?_
      exact hb_iret (pc := 28) dX12_qWordOf_28 rfl ht2
    · have ht2 := ht1.2 c2
      refine hb_aload_n (pc := 15) (i := 0) dX12_qWordOf_15 rfl rfl ?_
      refine hb_iload_n (pc := 16) (i := 3) dX12_qWordOf_16 rfl rfl ?_
      exact hb_callV (pc := 17) (As := [hb_i xs0]) (st := []) dX12_qWordOf_17 ml_X12_515 mf_X12_isAllowed mi_X12_isAllowed (ci := 12) rfl rfl (by decide) rfl rfl (Nat.le_of_ble_eq_true rfl) (Nat.le_of_ble_eq_true rfl) ht2 (fun _ _ q => q)
set_option maxRecDepth 20000 in
theorem bk_X12_qWordOf_20 {d : Nat} {w : hb_W} {Q : Option hb_V → hb_W → Prop} {x1 : Int32} {x2 : Int32} {x3 : Int32} {xs0 : Int32} (h : ((xs0 = 0) → Q (some (hb_i (-1 : Int32))) w) ∧ ((¬ xs0 = 0) → Q (some (hb_i x3)) w)) : hb_R yX12_qWordOf cX12_qWordOf 4 (some .int) (d + 1) 20 [some (hb_r 12 0 0), some (hb_i x1), some (hb_i x2), some (hb_i x3)] [hb_i xs0] w Q := by
  refine hb_if_eq (pc := 20) (tgt := 27) dX12_qWordOf_20 (by decide) (fun c1 => ?_) (fun c1 => ?_)
  · have ht1 := h.1 c1
    refine hb_iconst (pc := 27) (v := -1) dX12_qWordOf_27 (by decide) ?_
    exact hb_iret (pc := 28) dX12_qWordOf_28 rfl ht1
  · have ht1 := h.2 c1
    refine hb_iload_n (pc := 23) (i := 3) dX12_qWordOf_23 rfl rfl ?_
    refine hb_goto (pc := 24) (tgt := 28) dX12_qWordOf_24 (by decide) ?_
    exact hb_iret (pc := 28) dX12_qWordOf_28 rfl ht1
theorem dX12_qAsksWord_0 : decode cX12_qAsksWord 0 = .ok (.iload_n 1, 1) := by decide +kernel
theorem dX12_qAsksWord_1 : decode cX12_qAsksWord 1 = .ok (.tableswitch 135 0 7 #[47, 58, 69, 80, 91, 102, 113, 124], 47) := by decide +kernel
theorem dX12_qAsksWord_48 : decode cX12_qAsksWord 48 = .ok (.aload_n 0, 1) := by decide +kernel
theorem dX12_qAsksWord_49 : decode cX12_qAsksWord 49 = .ok (.aload_n 0, 1) := by decide +kernel
theorem dX12_qAsksWord_50 : decode cX12_qAsksWord 50 = .ok (.getfield 152, 3) := by decide +kernel
theorem dX12_qAsksWord_53 : decode cX12_qAsksWord 53 = .ok (.invokevirtual 245, 3) := by decide +kernel
theorem dX12_qAsksWord_56 : decode cX12_qAsksWord 56 = .ok (.goto 88, 3) := by decide +kernel
theorem dX12_qAsksWord_59 : decode cX12_qAsksWord 59 = .ok (.aload_n 0, 1) := by decide +kernel
theorem dX12_qAsksWord_60 : decode cX12_qAsksWord 60 = .ok (.aload_n 0, 1) := by decide +kernel
theorem dX12_qAsksWord_61 : decode cX12_qAsksWord 61 = .ok (.getfield 155, 3) := by decide +kernel
theorem dX12_qAsksWord_64 : decode cX12_qAsksWord 64 = .ok (.invokevirtual 245, 3) := by decide +kernel
theorem dX12_qAsksWord_67 : decode cX12_qAsksWord 67 = .ok (.goto 77, 3) := by decide +kernel
theorem dX12_qAsksWord_70 : decode cX12_qAsksWord 70 = .ok (.aload_n 0, 1) := by decide +kernel
theorem dX12_qAsksWord_71 : decode cX12_qAsksWord 71 = .ok (.aload_n 0, 1) := by decide +kernel
theorem dX12_qAsksWord_72 : decode cX12_qAsksWord 72 = .ok (.getfield 158, 3) := by decide +kernel
theorem dX12_qAsksWord_75 : decode cX12_qAsksWord 75 = .ok (.invokevirtual 245, 3) := by decide +kernel
theorem dX12_qAsksWord_78 : decode cX12_qAsksWord 78 = .ok (.goto 66, 3) := by decide +kernel
theorem dX12_qAsksWord_81 : decode cX12_qAsksWord 81 = .ok (.aload_n 0, 1) := by decide +kernel
theorem dX12_qAsksWord_82 : decode cX12_qAsksWord 82 = .ok (.aload_n 0, 1) := by decide +kernel
theorem dX12_qAsksWord_83 : decode cX12_qAsksWord 83 = .ok (.getfield 161, 3) := by decide +kernel
theorem dX12_qAsksWord_86 : decode cX12_qAsksWord 86 = .ok (.invokevirtual 245, 3) := by decide +kernel
theorem dX12_qAsksWord_89 : decode cX12_qAsksWord 89 = .ok (.goto 55, 3) := by decide +kernel
theorem dX12_qAsksWord_92 : decode cX12_qAsksWord 92 = .ok (.aload_n 0, 1) := by decide +kernel
theorem dX12_qAsksWord_93 : decode cX12_qAsksWord 93 = .ok (.aload_n 0, 1) := by decide +kernel
theorem dX12_qAsksWord_94 : decode cX12_qAsksWord 94 = .ok (.getfield 164, 3) := by decide +kernel
theorem dX12_qAsksWord_97 : decode cX12_qAsksWord 97 = .ok (.invokevirtual 245, 3) := by decide +kernel
theorem dX12_qAsksWord_100 : decode cX12_qAsksWord 100 = .ok (.goto 44, 3) := by decide +kernel
theorem dX12_qAsksWord_103 : decode cX12_qAsksWord 103 = .ok (.aload_n 0, 1) := by decide +kernel
theorem dX12_qAsksWord_104 : decode cX12_qAsksWord 104 = .ok (.aload_n 0, 1) := by decide +kernel
theorem dX12_qAsksWord_105 : decode cX12_qAsksWord 105 = .ok (.getfield 167, 3) := by decide +kernel
theorem dX12_qAsksWord_108 : decode cX12_qAsksWord 108 = .ok (.invokevirtual 245, 3) := by decide +kernel
theorem dX12_qAsksWord_111 : decode cX12_qAsksWord 111 = .ok (.goto 33, 3) := by decide +kernel
theorem dX12_qAsksWord_114 : decode cX12_qAsksWord 114 = .ok (.aload_n 0, 1) := by decide +kernel
theorem dX12_qAsksWord_115 : decode cX12_qAsksWord 115 = .ok (.aload_n 0, 1) := by decide +kernel
theorem dX12_qAsksWord_116 : decode cX12_qAsksWord 116 = .ok (.getfield 170, 3) := by decide +kernel
theorem dX12_qAsksWord_119 : decode cX12_qAsksWord 119 = .ok (.invokevirtual 245, 3) := by decide +kernel
theorem dX12_qAsksWord_122 : decode cX12_qAsksWord 122 = .ok (.goto 22, 3) := by decide +kernel
theorem dX12_qAsksWord_125 : decode cX12_qAsksWord 125 = .ok (.aload_n 0, 1) := by decide +kernel
theorem dX12_qAsksWord_126 : decode cX12_qAsksWord 126 = .ok (.aload_n 0, 1) := by decide +kernel
theorem dX12_qAsksWord_127 : decode cX12_qAsksWord 127 = .ok (.getfield 173, 3) := by decide +kernel
theorem dX12_qAsksWord_130 : decode cX12_qAsksWord 130 = .ok (.invokevirtual 245, 3) := by decide +kernel
theorem dX12_qAsksWord_133 : decode cX12_qAsksWord 133 = .ok (.goto 11, 3) := by decide +kernel
theorem dX12_qAsksWord_136 : decode cX12_qAsksWord 136 = .ok (.aload_n 0, 1) := by decide +kernel
theorem dX12_qAsksWord_137 : decode cX12_qAsksWord 137 = .ok (.aload_n 0, 1) := by decide +kernel
theorem dX12_qAsksWord_138 : decode cX12_qAsksWord 138 = .ok (.getfield 176, 3) := by decide +kernel
theorem dX12_qAsksWord_141 : decode cX12_qAsksWord 141 = .ok (.invokevirtual 245, 3) := by decide +kernel
theorem dX12_qAsksWord_144 : decode cX12_qAsksWord 144 = .ok (.return_, 1) := by decide +kernel
set_option maxRecDepth 20000 in
theorem bk_X12_qAsksWord_0 {d : Nat} {w : hb_W} {Q : Option hb_V → hb_W → Prop} {x1 : Int32} (h : (x1 = (0 : Int32) → hb_O yX12_asks cX12_asks 2 none d [hb_r 12 0 0, hb_r 12 0 45] w (fun rv w1 => hb_R yX12_qAsksWord cX12_qAsksWord 2 none (d + 1) 56 [some (hb_r 12 0 0), some (hb_i x1)] (rv.toList ++ []) w1 Q)) ∧ (x1 = (1 : Int32) → hb_O yX12_asks cX12_asks 2 none d [hb_r 12 0 0, hb_r 12 0 46] w (fun rv w1 => hb_R yX12_qAsksWord cX12_qAsksWord 2 none (d + 1) 67 [some (hb_r 12 0 0), some (hb_i x1)] (rv.toList ++ []) w1 Q)) ∧ (x1 = (2 : Int32) → hb_O yX12_asks cX12_asks 2 none d [hb_r 12 0 0, hb_r 12 0 47] w (fun rv w1 => hb_R yX12_qAsksWord cX12_qAsksWord 2 none (d + 1) 78 [some (hb_r 12 0 0), some (hb_i x1)] (rv.toList ++ []) w1 Q)) ∧ (x1 = (3 : Int32) → hb_O yX12_asks cX12_asks 2 none d [hb_r 12 0 0, hb_r 12 0 48] w (fun rv w1 => hb_R yX12_qAsksWord cX12_qAsksWord 2 none (d + 1) 89 [some (hb_r 12 0 0), some (hb_i x1)] (rv.toList ++ []) w1 Q)) ∧ (x1 = (4 : Int32) → hb_O yX12_asks cX12_asks 2 none d [hb_r 12 0 0, hb_r 12 0 49] w (fun rv w1 => hb_R yX12_qAsksWord cX12_qAsksWord 2 none (d + 1) 100 [some (hb_r 12 0 0), some (hb_i x1)] (rv.toList ++ []) w1 Q)) ∧ (x1 = (5 : Int32) → hb_O yX12_asks cX12_asks 2 none d [hb_r 12 0 0, hb_r 12 0 50] w (fun rv w1 => hb_R yX12_qAsksWord cX12_qAsksWord 2 none (d + 1) 111 [some (hb_r 12 0 0), some (hb_i x1)] (rv.toList ++ []) w1 Q)) ∧ (x1 = (6 : Int32) → hb_O yX12_asks cX12_asks 2 none d [hb_r 12 0 0, hb_r 12 0 51] w (fun rv w1 => hb_R yX12_qAsksWord cX12_qAsksWord 2 none (d + 1) 122 [some (hb_r 12 0 0), some (hb_i x1)] (rv.toList ++ []) w1 Q)) ∧ (x1 = (7 : Int32) → hb_O yX12_asks cX12_asks 2 none d [hb_r 12 0 0, hb_r 12 0 52] w (fun rv w1 => hb_R yX12_qAsksWord cX12_qAsksWord 2 none (d + 1) 133 [some (hb_r 12 0 0), some (hb_i x1)] (rv.toList ++ []) w1 Q)) ∧ (¬ x1 = (0 : Int32) → ¬ x1 = (1 : Int32) → ¬ x1 = (2 : Int32) → ¬ x1 = (3 : Int32) → ¬ x1 = (4 : Int32) → ¬ x1 = (5 : Int32) → ¬ x1 = (6 : Int32) → ¬ x1 = (7 : Int32) → hb_O yX12_asks cX12_asks 2 none d [hb_r 12 0 0, hb_r 12 0 53] w (fun rv w1 => hb_R yX12_qAsksWord cX12_qAsksWord 2 none (d + 1) 144 [some (hb_r 12 0 0), some (hb_i x1)] (rv.toList ++ []) w1 Q))) : hb_R yX12_qAsksWord cX12_qAsksWord 2 none (d + 1) 0 [some (hb_r 12 0 0), some (hb_i x1)] [] w Q := by
  refine hb_iload_n (pc := 0) (i := 1) dX12_qAsksWord_0 rfl rfl ?_
  by_cases e1_0 : x1 = (0 : Int32)
  · have hk1_0 := h.1 e1_0
    have ei : x1.toInt = 0 := by rw [e1_0]; rfl
    refine hb_tabIn (pc := 1) (tgt := 48) (off := 47) dX12_qAsksWord_1 (by rw [ei]; decide) (by rw [ei]; decide) (by rw [ei]; rfl) (by decide) ?_
    refine hb_aload_n (pc := 48) (i := 0) dX12_qAsksWord_48 rfl rfl ?_
    refine hb_aload_n (pc := 49) (i := 0) dX12_qAsksWord_49 rfl rfl ?_
    refine hb_getR (pc := 50) (g1 := 0) dX12_qAsksWord_50 fw_X12_152 cw_12 rfl (by decide) rfl (by decide) rfl ?_
    exact hb_callV (pc := 53) (As := [hb_r 12 0 45]) (st := []) dX12_qAsksWord_53 ml_X12_245 mf_X12_asks mi_X12_asks (ci := 12) rfl rfl (by decide) rfl rfl (Nat.le_of_ble_eq_true rfl) (Nat.le_of_ble_eq_true rfl) hk1_0 (fun _ _ q => q)
  by_cases e1_1 : x1 = (1 : Int32)
  · have hk1_1 := h.2.1 e1_1
    have ei : x1.toInt = 1 := by rw [e1_1]; rfl
    refine hb_tabIn (pc := 1) (tgt := 59) (off := 58) dX12_qAsksWord_1 (by rw [ei]; decide) (by rw [ei]; decide) (by rw [ei]; rfl) (by decide) ?_
    refine hb_aload_n (pc := 59) (i := 0) dX12_qAsksWord_59 rfl rfl ?_
    refine hb_aload_n (pc := 60) (i := 0) dX12_qAsksWord_60 rfl rfl ?_
    refine hb_getR (pc := 61) (g1 := 0) dX12_qAsksWord_61 fw_X12_155 cw_12 rfl (by decide) rfl (by decide) rfl ?_
    exact hb_callV (pc := 64) (As := [hb_r 12 0 46]) (st := []) dX12_qAsksWord_64 ml_X12_245 mf_X12_asks mi_X12_asks (ci := 12) rfl rfl (by decide) rfl rfl (Nat.le_of_ble_eq_true rfl) (Nat.le_of_ble_eq_true rfl) hk1_1 (fun _ _ q => q)
  by_cases e1_2 : x1 = (2 : Int32)
  · have hk1_2 := h.2.2.1 e1_2
    have ei : x1.toInt = 2 := by rw [e1_2]; rfl
    refine hb_tabIn (pc := 1) (tgt := 70) (off := 69) dX12_qAsksWord_1 (by rw [ei]; decide) (by rw [ei]; decide) (by rw [ei]; rfl) (by decide) ?_
    refine hb_aload_n (pc := 70) (i := 0) dX12_qAsksWord_70 rfl rfl ?_
    refine hb_aload_n (pc := 71) (i := 0) dX12_qAsksWord_71 rfl rfl ?_
    refine hb_getR (pc := 72) (g1 := 0) dX12_qAsksWord_72 fw_X12_158 cw_12 rfl (by decide) rfl (by decide) rfl ?_
    exact hb_callV (pc := 75) (As := [hb_r 12 0 47]) (st := []) dX12_qAsksWord_75 ml_X12_245 mf_X12_asks mi_X12_asks (ci := 12) rfl rfl (by decide) rfl rfl (Nat.le_of_ble_eq_true rfl) (Nat.le_of_ble_eq_true rfl) hk1_2 (fun _ _ q => q)
  by_cases e1_3 : x1 = (3 : Int32)
  · have hk1_3 := h.2.2.2.1 e1_3
    have ei : x1.toInt = 3 := by rw [e1_3]; rfl
    refine hb_tabIn (pc := 1) (tgt := 81) (off := 80) dX12_qAsksWord_1 (by rw [ei]; decide) (by rw [ei]; decide) (by rw [ei]; rfl) (by decide) ?_
    refine hb_aload_n (pc := 81) (i := 0) dX12_qAsksWord_81 rfl rfl ?_
    refine hb_aload_n (pc := 82) (i := 0) dX12_qAsksWord_82 rfl rfl ?_
    refine hb_getR (pc := 83) (g1 := 0) dX12_qAsksWord_83 fw_X12_161 cw_12 rfl (by decide) rfl (by decide) rfl ?_
    exact hb_callV (pc := 86) (As := [hb_r 12 0 48]) (st := []) dX12_qAsksWord_86 ml_X12_245 mf_X12_asks mi_X12_asks (ci := 12) rfl rfl (by decide) rfl rfl (Nat.le_of_ble_eq_true rfl) (Nat.le_of_ble_eq_true rfl) hk1_3 (fun _ _ q => q)
  by_cases e1_4 : x1 = (4 : Int32)
  · have hk1_4 := h.2.2.2.2.1 e1_4
    have ei : x1.toInt = 4 := by rw [e1_4]; rfl
    refine hb_tabIn (pc := 1) (tgt := 92) (off := 91) dX12_qAsksWord_1 (by rw [ei]; decide) (by rw [ei]; decide) (by rw [ei]; rfl) (by decide) ?_
    refine hb_aload_n (pc := 92) (i := 0) dX12_qAsksWord_92 rfl rfl ?_
    refine hb_aload_n (pc := 93) (i := 0) dX12_qAsksWord_93 rfl rfl ?_
    refine hb_getR (pc := 94) (g1 := 0) dX12_qAsksWord_94 fw_X12_164 cw_12 rfl (by decide) rfl (by decide) rfl ?_
    exact hb_callV (pc := 97) (As := [hb_r 12 0 49]) (st := []) dX12_qAsksWord_97 ml_X12_245 mf_X12_asks mi_X12_asks (ci := 12) rfl rfl (by decide) rfl rfl (Nat.le_of_ble_eq_true rfl) (Nat.le_of_ble_eq_true rfl) hk1_4 (fun _ _ q => q)
  by_cases e1_5 : x1 = (5 : Int32)
  · have hk1_5 := h.2.2.2.2.2.1 e1_5
    have ei : x1.toInt = 5 := by rw [e1_5]; rfl
    refine hb_tabIn (pc := 1) (tgt := 103) (off := 102) dX12_qAsksWord_1 (by rw [ei]; decide) (by rw [ei]; decide) (by rw [ei]; rfl) (by decide) ?_
    refine hb_aload_n (pc := 103) (i := 0) dX12_qAsksWord_103 rfl rfl ?_
    refine hb_aload_n (pc := 104) (i := 0) dX12_qAsksWord_104 rfl rfl ?_
    refine hb_getR (pc := 105) (g1 := 0) dX12_qAsksWord_105 fw_X12_167 cw_12 rfl (by decide) rfl (by decide) rfl ?_
    exact hb_callV (pc := 108) (As := [hb_r 12 0 50]) (st := []) dX12_qAsksWord_108 ml_X12_245 mf_X12_asks mi_X12_asks (ci := 12) rfl rfl (by decide) rfl rfl (Nat.le_of_ble_eq_true rfl) (Nat.le_of_ble_eq_true rfl) hk1_5 (fun _ _ q => q)
  by_cases e1_6 : x1 = (6 : Int32)
  · have hk1_6 := h.2.2.2.2.2.2.1 e1_6
    have ei : x1.toInt = 6 := by rw [e1_6]; rfl
    refine hb_tabIn (pc := 1) (tgt := 114) (off := 113) dX12_qAsksWord_1 (by rw [ei]; decide) (by rw [ei]; decide) (by rw [ei]; rfl) (by decide) ?_
    refine hb_aload_n (pc := 114) (i := 0) dX12_qAsksWord_114 rfl rfl ?_
    refine hb_aload_n (pc := 115) (i := 0) dX12_qAsksWord_115 rfl rfl ?_
    refine hb_getR (pc := 116) (g1 := 0) dX12_qAsksWord_116 fw_X12_170 cw_12 rfl (by decide) rfl (by decide) rfl ?_
    exact hb_callV (pc := 119) (As := [hb_r 12 0 51]) (st := []) dX12_qAsksWord_119 ml_X12_245 mf_X12_asks mi_X12_asks (ci := 12) rfl rfl (by decide) rfl rfl (Nat.le_of_ble_eq_true rfl) (Nat.le_of_ble_eq_true rfl) hk1_6 (fun _ _ q => q)
  by_cases e1_7 : x1 = (7 : Int32)
  · have hk1_7 := h.2.2.2.2.2.2.2.1 e1_7
    have ei : x1.toInt = 7 := by rw [e1_7]; rfl
    refine hb_tabIn (pc := 1) (tgt := 125) (off := 124) dX12_qAsksWord_1 (by rw [ei]; decide) (by rw [ei]; decide) (by rw [ei]; rfl) (by decide) ?_
    refine hb_aload_n (pc := 125) (i := 0) dX12_qAsksWord_125 rfl rfl ?_
    refine hb_aload_n (pc := 126) (i := 0) dX12_qAsksWord_126 rfl rfl ?_
    refine hb_getR (pc := 127) (g1 := 0) dX12_qAsksWord_127 fw_X12_173 cw_12 rfl (by decide) rfl (by decide) rfl ?_
    exact hb_callV (pc := 130) (As := [hb_r 12 0 52]) (st := []) dX12_qAsksWord_130 ml_X12_245 mf_X12_asks mi_X12_asks (ci := 12) rfl rfl (by decide) rfl rfl (Nat.le_of_ble_eq_true rfl) (Nat.le_of_ble_eq_true rfl) hk1_7 (fun _ _ q => q)
  have hk1_d := h.2.2.2.2.2.2.2.2 e1_0 e1_1 e1_2 e1_3 e1_4 e1_5 e1_6 e1_7
  have n1_0 := lv_neT (a := 0) e1_0 rfl
  have n1_1 := lv_neT (a := 1) e1_1 rfl
  have n1_2 := lv_neT (a := 2) e1_2 rfl
  have n1_3 := lv_neT (a := 3) e1_3 rfl
  have n1_4 := lv_neT (a := 4) e1_4 rfl
  have n1_5 := lv_neT (a := 5) e1_5 rfl
  have n1_6 := lv_neT (a := 6) e1_6 rfl
  have n1_7 := lv_neT (a := 7) e1_7 rfl
  refine hb_tabOut (pc := 1) (tgt := 136) dX12_qAsksWord_1 (by omega) (by decide) ?_
  refine hb_aload_n (pc := 136) (i := 0) dX12_qAsksWord_136 rfl rfl ?_
  refine hb_aload_n (pc := 137) (i := 0) dX12_qAsksWord_137 rfl rfl ?_
  refine hb_getR (pc := 138) (g1 := 0) dX12_qAsksWord_138 fw_X12_176 cw_12 rfl (by decide) rfl (by decide) rfl ?_
  exact hb_callV (pc := 141) (As := [hb_r 12 0 53]) (st := []) dX12_qAsksWord_141 ml_X12_245 mf_X12_asks mi_X12_asks (ci := 12) rfl rfl (by decide) rfl rfl (Nat.le_of_ble_eq_true rfl) (Nat.le_of_ble_eq_true rfl) hk1_d (fun _ _ q => q)
set_option maxRecDepth 20000 in
theorem bk_X12_qAsksWord_56 {d : Nat} {w : hb_W} {Q : Option hb_V → hb_W → Prop} {x1 : Int32} (h : hb_R yX12_qAsksWord cX12_qAsksWord 2 none (d + 1) 144 [some (hb_r 12 0 0), some (hb_i x1)] [] w Q) : hb_R yX12_qAsksWord cX12_qAsksWord 2 none (d + 1) 56 [some (hb_r 12 0 0), some (hb_i x1)] [] w Q := by
  refine hb_goto (pc := 56) (tgt := 144) dX12_qAsksWord_56 (by decide) ?_
  exact h
set_option maxRecDepth 20000 in
theorem bk_X12_qAsksWord_67 {d : Nat} {w : hb_W} {Q : Option hb_V → hb_W → Prop} {x1 : Int32} (h : hb_R yX12_qAsksWord cX12_qAsksWord 2 none (d + 1) 144 [some (hb_r 12 0 0), some (hb_i x1)] [] w Q) : hb_R yX12_qAsksWord cX12_qAsksWord 2 none (d + 1) 67 [some (hb_r 12 0 0), some (hb_i x1)] [] w Q := by
  refine hb_goto (pc := 67) (tgt := 144) dX12_qAsksWord_67 (by decide) ?_
  exact h
set_option maxRecDepth 20000 in
theorem bk_X12_qAsksWord_78 {d : Nat} {w : hb_W} {Q : Option hb_V → hb_W → Prop} {x1 : Int32} (h : hb_R yX12_qAsksWord cX12_qAsksWord 2 none (d + 1) 144 [some (hb_r 12 0 0), some (hb_i x1)] [] w Q) : hb_R yX12_qAsksWord cX12_qAsksWord 2 none (d + 1) 78 [some (hb_r 12 0 0), some (hb_i x1)] [] w Q := by
  refine hb_goto (pc := 78) (tgt := 144) dX12_qAsksWord_78 (by decide) ?_
  exact h
set_option maxRecDepth 20000 in
theorem bk_X12_qAsksWord_89 {d : Nat} {w : hb_W} {Q : Option hb_V → hb_W → Prop} {x1 : Int32} (h : hb_R yX12_qAsksWord cX12_qAsksWord 2 none (d + 1) 144 [some (hb_r 12 0 0), some (hb_i x1)] [] w Q) : hb_R yX12_qAsksWord cX12_qAsksWord 2 none (d + 1) 89 [some (hb_r 12 0 0), some (hb_i x1)] [] w Q := by
  refine hb_goto (pc := 89) (tgt := 144) dX12_qAsksWord_89 (by decide) ?_
  exact h
set_option maxRecDepth 20000 in
theorem bk_X12_qAsksWord_100 {d : Nat} {w : hb_W} {Q : Option hb_V → hb_W → Prop} {x1 : Int32} (h : hb_R yX12_qAsksWord cX12_qAsksWord 2 none (d + 1) 144 [some (hb_r 12 0 0), some (hb_i x1)] [] w Q) : hb_R yX12_qAsksWord cX12_qAsksWord 2 none (d + 1) 100 [some (hb_r 12 0 0), some (hb_i x1)] [] w Q := by
  refine hb_goto (pc := 100) (tgt := 144) dX12_qAsksWord_100 (by decide) ?_
  exact h
set_option maxRecDepth 20000 in
theorem bk_X12_qAsksWord_111 {d : Nat} {w : hb_W} {Q : Option hb_V → hb_W → Prop} {x1 : Int32} (h : hb_R yX12_qAsksWord cX12_qAsksWord 2 none (d + 1) 144 [some (hb_r 12 0 0), some (hb_i x1)] [] w Q) : hb_R yX12_qAsksWord cX12_qAsksWord 2 none (d + 1) 111 [some (hb_r 12 0 0), some (hb_i x1)] [] w Q := by
  refine hb_goto (pc := 111) (tgt := 144) dX12_qAsksWord_111 (by decide) ?_
  exact h
set_option maxRecDepth 20000 in
theorem bk_X12_qAsksWord_122 {d : Nat} {w : hb_W} {Q : Option hb_V → hb_W → Prop} {x1 : Int32} (h : hb_R yX12_qAsksWord cX12_qAsksWord 2 none (d + 1) 144 [some (hb_r 12 0 0), some (hb_i x1)] [] w Q) : hb_R yX12_qAsksWord cX12_qAsksWord 2 none (d + 1) 122 [some (hb_r 12 0 0), some (hb_i x1)] [] w Q := by
  refine hb_goto (pc := 122) (tgt := 144) dX12_qAsksWord_122 (by decide) ?_
  exact h
set_option maxRecDepth 20000 in
theorem bk_X12_qAsksWord_133 {d : Nat} {w : hb_W} {Q : Option hb_V → hb_W → Prop} {x1 : Int32} (h : hb_R yX12_qAsksWord cX12_qAsksWord 2 none (d + 1) 144 [some (hb_r 12 0 0), some (hb_i x1)] [] w Q) : hb_R yX12_qAsksWord cX12_qAsksWord 2 none (d + 1) 133 [some (hb_r 12 0 0), some (hb_i x1)] [] w Q := by
  refine hb_goto (pc := 133) (tgt := 144) dX12_qAsksWord_133 (by decide) ?_
  exact h
set_option maxRecDepth 20000 in
theorem bk_X12_qAsksWord_144 {d : Nat} {w : hb_W} {Q : Option hb_V → hb_W → Prop} {x1 : Int32} (h : Q none w) : hb_R yX12_qAsksWord cX12_qAsksWord 2 none (d + 1) 144 [some (hb_r 12 0 0), some (hb_i x1)] [] w Q := by
  exact hb_vret (pc := 144) dX12_qAsksWord_144 rfl h
theorem dX12_qEndsPart_0 : decode cX12_qEndsPart 0 = .ok (.aload_n 0, 1) := by decide +kernel
theorem dX12_qEndsPart_1 : decode cX12_qEndsPart 1 = .ok (.getfield 195, 3) := by decide +kernel
theorem dX12_qEndsPart_4 : decode cX12_qEndsPart 4 = .ok (.ifCond .ne 47, 3) := by decide +kernel
theorem dX12_qEndsPart_7 : decode cX12_qEndsPart 7 = .ok (.aload_n 0, 1) := by decide +kernel
theorem dX12_qEndsPart_8 : decode cX12_qEndsPart 8 = .ok (.getfield 260, 3) := by decide +kernel
theorem dX12_qEndsPart_11 : decode cX12_qEndsPart 11 = .ok (.aload_n 0, 1) := by decide +kernel
theorem dX12_qEndsPart_12 : decode cX12_qEndsPart 12 = .ok (.getfield 266, 3) := by decide +kernel
theorem dX12_qEndsPart_15 : decode cX12_qEndsPart 15 = .ok (.if_icmp .le 36, 3) := by decide +kernel
theorem dX12_qEndsPart_18 : decode cX12_qEndsPart 18 = .ok (.aload_n 0, 1) := by decide +kernel
theorem dX12_qEndsPart_19 : decode cX12_qEndsPart 19 = .ok (.getfield 182, 3) := by decide +kernel
theorem dX12_qEndsPart_22 : decode cX12_qEndsPart 22 = .ok (.aload_n 0, 1) := by decide +kernel
theorem dX12_qEndsPart_23 : decode cX12_qEndsPart 23 = .ok (.getfield 260, 3) := by decide +kernel
theorem dX12_qEndsPart_26 : decode cX12_qEndsPart 26 = .ok (.iconst 1, 1) := by decide +kernel
theorem dX12_qEndsPart_27 : decode cX12_qEndsPart 27 = .ok (.isub, 1) := by decide +kernel
theorem dX12_qEndsPart_28 : decode cX12_qEndsPart 28 = .ok (.iaload, 1) := by decide +kernel
theorem dX12_qEndsPart_29 : decode cX12_qEndsPart 29 = .ok (.bipush 60, 2) := by decide +kernel
theorem dX12_qEndsPart_31 : decode cX12_qEndsPart 31 = .ok (.if_icmp .lt 20, 3) := by decide +kernel
theorem dX12_qEndsPart_34 : decode cX12_qEndsPart 34 = .ok (.aload_n 0, 1) := by decide +kernel
theorem dX12_qEndsPart_35 : decode cX12_qEndsPart 35 = .ok (.dup, 1) := by decide +kernel
theorem dX12_qEndsPart_36 : decode cX12_qEndsPart 36 = .ok (.getfield 263, 3) := by decide +kernel
theorem dX12_qEndsPart_39 : decode cX12_qEndsPart 39 = .ok (.iconst 1, 1) := by decide +kernel
theorem dX12_qEndsPart_40 : decode cX12_qEndsPart 40 = .ok (.isub, 1) := by decide +kernel
theorem dX12_qEndsPart_41 : decode cX12_qEndsPart 41 = .ok (.putfield 263, 3) := by decide +kernel
theorem dX12_qEndsPart_44 : decode cX12_qEndsPart 44 = .ok (.aload_n 0, 1) := by decide +kernel
theorem dX12_qEndsPart_45 : decode cX12_qEndsPart 45 = .ok (.invokevirtual 509, 3) := by decide +kernel
theorem dX12_qEndsPart_48 : decode cX12_qEndsPart 48 = .ok (.goto (-48), 3) := by decide +kernel
theorem dX12_qEndsPart_51 : decode cX12_qEndsPart 51 = .ok (.return_, 1) := by decide +kernel
set_option maxRecDepth 20000 in
theorem bk_X12_qEndsPart_0 {d : Nat} {w : hb_W} {Q : Option hb_V → hb_W → Prop} (h : ((¬ (hb_fI w 12 5 0) = 0) → Q none w) ∧ (((hb_fI w 12 5 0) = 0) → (((hb_fI w 12 82 0) ≤ (hb_fI w 12 84 0)) → Q none w) ∧ ((¬ (hb_fI w 12 82 0) ≤ (hb_fI w 12 84 0)) → vp_in ((hb_fI w 12 82 0) - (1 : Int32)) 1700 ∧ ((((hb_aI w 12 55 0 ((hb_fI w 12 82 0) - (1 : Int32)).toNatClampNeg) < (60 : Int32)) → Q none w) ∧ ((¬ (hb_aI w 12 55 0 ((hb_fI w 12 82 0) - (1 : Int32)).toNatClampNeg) < (60 : Int32)) → hb_O yX12_qDrops cX12_qDrops 1 none d [hb_r 12 0 0] (hb_pI w 12 83 0 ((hb_fI w 12 83 0) - (1 : Int32))) (fun rv w1 => hb_R yX12_qEndsPart cX12_qEndsPart 1 none (d + 1) 48 [some (hb_r 12 0 0)] (rv.toList ++ []) w1 Q)))))) : hb_R yX12_qEndsPart cX12_qEndsPart 1 none (d + 1) 0 [some (hb_r 12 0 0)] [] w Q := by
  refine hb_aload_n (pc := 0) (i := 0) dX12_qEndsPart_0 rfl rfl ?_
  refine hb_getIx (pc := 1) (x := hb_fI w 12 5 0) dX12_qEndsPart_1 fw_X12_195 cw_12 rfl (by decide) rfl rfl ?_
  refine hb_if_ne (pc := 4) (tgt := 51) dX12_qEndsPart_4 (by decide) (fun c1 => ?_) (fun c1 => ?_)
  · have ht1 := h.1 c1
    exact hb_vret (pc := 51) dX12_qEndsPart_51 rfl ht1
  · have ht1 := h.2 c1
    refine hb_aload_n (pc := 7) (i := 0) dX12_qEndsPart_7 rfl rfl ?_
    refine hb_getIx (pc := 8) (x := hb_fI w 12 82 0) dX12_qEndsPart_8 fw_X12_260 cw_12 rfl (by decide) rfl rfl ?_
    refine hb_aload_n (pc := 11) (i := 0) dX12_qEndsPart_11 rfl rfl ?_
    refine hb_getIx (pc := 12) (x := hb_fI w 12 84 0) dX12_qEndsPart_12 fw_X12_266 cw_12 rfl (by decide) rfl rfl ?_
    refine hb_icmp_le (pc := 15) (tgt := 51) dX12_qEndsPart_15 (by decide) (fun c2 => ?_) (fun c2 => ?_)
    · have ht2 := ht1.1 c2
      exact hb_vret (pc := 51) dX12_qEndsPart_51 rfl ht2
    · have ht2 := ht1.2 c2
      refine hb_aload_n (pc := 18) (i := 0) dX12_qEndsPart_18 rfl rfl ?_
      refine hb_getR (pc := 19) (g1 := 0) dX12_qEndsPart_19 fw_X12_182 cw_12 rfl (by decide) rfl (by decide) rfl ?_
      refine hb_aload_n (pc := 22) (i := 0) dX12_qEndsPart_22 rfl rfl ?_
      refine hb_getIx (pc := 23) (x := hb_fI w 12 82 0) dX12_qEndsPart_23 fw_X12_260 cw_12 rfl (by decide) rfl rfl ?_
      refine hb_iconst (pc := 26) (v := 1) dX12_qEndsPart_26 (by decide) ?_
      refine hb_isub (pc := 27) dX12_qEndsPart_27 ?_
      obtain ⟨ho3, hr3⟩ := ht2
      refine hb_ialdx (pc := 28) (x := hb_aI w 12 55 0 ((hb_fI w 12 82 0) - (1 : Int32)).toNatClampNeg) dX12_qEndsPart_28 rfl (by decide) ho3 rfl ?_
      refine hb_bipush (pc := 29) (v := 60) dX12_qEndsPart_29 (by decide) ?_
      refine hb_icmp_lt (pc := 31) (tgt := 51) dX12_qEndsPart_31 (by decide) (fun c4 => ?_) (fun c4 => ?_)
      · have ht4 := hr3.1 c4
        exact hb_vret (pc := 51) dX12_qEndsPart_51 rfl ht4
      · have ht4 := hr3.2 c4
        refine hb_aload_n (pc := 34) (i := 0) dX12_qEndsPart_34 rfl rfl ?_
        refine hb_dupr (pc := 35) dX12_qEndsPart_35 ?_
        refine hb_getIx (pc := 36) (x := hb_fI w 12 83 0) dX12_qEndsPart_36 fw_X12_263 cw_12 rfl (by decide) rfl rfl ?_
        refine hb_iconst (pc := 39) (v := 1) dX12_qEndsPart_39 (by decide) ?_
        refine hb_isub (pc := 40) dX12_qEndsPart_40 ?_
        refine hb_putI (pc := 41) dX12_qEndsPart_41 fw_X12_263 cw_12 pw_12_83 rfl (by decide) rfl rfl rfl ?_
        refine hb_aload_n (pc := 44) (i := 0) dX12_qEndsPart_44 rfl rfl ?_
        exact hb_callV (pc := 45) (As := []) (st := []) dX12_qEndsPart_45 ml_X12_509 mf_X12_qDrops mi_X12_qDrops (ci := 12) rfl rfl (by decide) rfl rfl (Nat.le_of_ble_eq_true rfl) (Nat.le_of_ble_eq_true rfl) ht4 (fun _ _ q => q)
set_option maxRecDepth 20000 in
theorem bk_X12_qEndsPart_48 {d : Nat} {w : hb_W} {Q : Option hb_V → hb_W → Prop} (h : hb_R yX12_qEndsPart cX12_qEndsPart 1 none (d + 1) 0 [some (hb_r 12 0 0)] [] w Q) : hb_R yX12_qEndsPart cX12_qEndsPart 1 none (d + 1) 48 [some (hb_r 12 0 0)] [] w Q := by
  refine hb_goto (pc := 48) (tgt := 0) dX12_qEndsPart_48 (by decide) ?_
  exact h
theorem dX12_qPartTold_0 : decode cX12_qPartTold 0 = .ok (.iconst 1, 1) := by decide +kernel
theorem dX12_qPartTold_1 : decode cX12_qPartTold 1 = .ok (.istore_n 1, 1) := by decide +kernel
theorem dX12_qPartTold_2 : decode cX12_qPartTold 2 = .ok (.iload_n 1, 1) := by decide +kernel
theorem dX12_qPartTold_3 : decode cX12_qPartTold 3 = .ok (.ifCond .eq 183, 3) := by decide +kernel
theorem dX12_qPartTold_6 : decode cX12_qPartTold 6 = .ok (.aload_n 0, 1) := by decide +kernel
theorem dX12_qPartTold_7 : decode cX12_qPartTold 7 = .ok (.getfield 195, 3) := by decide +kernel
theorem dX12_qPartTold_10 : decode cX12_qPartTold 10 = .ok (.ifCond .ne 176, 3) := by decide +kernel
theorem dX12_qPartTold_13 : decode cX12_qPartTold 13 = .ok (.aload_n 0, 1) := by decide +kernel
theorem dX12_qPartTold_14 : decode cX12_qPartTold 14 = .ok (.invokevirtual 207, 3) := by decide +kernel
theorem dX12_qPartTold_17 : decode cX12_qPartTold 17 = .ok (.istore_n 2, 1) := by decide +kernel
theorem dX12_qPartTold_18 : decode cX12_qPartTold 18 = .ok (.aload_n 0, 1) := by decide +kernel
theorem dX12_qPartTold_19 : decode cX12_qPartTold 19 = .ok (.bipush 7, 2) := by decide +kernel
theorem dX12_qPartTold_21 : decode cX12_qPartTold 21 = .ok (.bipush 9, 2) := by decide +kernel
theorem dX12_qPartTold_23 : decode cX12_qPartTold 23 = .ok (.invokevirtual 518, 3) := by decide +kernel
theorem dX12_qPartTold_26 : decode cX12_qPartTold 26 = .ok (.istore_n 3, 1) := by decide +kernel
theorem dX12_qPartTold_27 : decode cX12_qPartTold 27 = .ok (.iload_n 2, 1) := by decide +kernel
theorem dX12_qPartTold_28 : decode cX12_qPartTold 28 = .ok (.bipush 40, 2) := by decide +kernel
theorem dX12_qPartTold_30 : decode cX12_qPartTold 30 = .ok (.if_icmp .ne 26, 3) := by decide +kernel
theorem dX12_qPartTold_33 : decode cX12_qPartTold 33 = .ok (.aload_n 0, 1) := by decide +kernel
theorem dX12_qPartTold_34 : decode cX12_qPartTold 34 = .ok (.bipush 20, 2) := by decide +kernel
theorem dX12_qPartTold_36 : decode cX12_qPartTold 36 = .ok (.aload_n 0, 1) := by decide +kernel
theorem dX12_qPartTold_37 : decode cX12_qPartTold 37 = .ok (.getfield 201, 3) := by decide +kernel
theorem dX12_qPartTold_40 : decode cX12_qPartTold 40 = .ok (.invokevirtual 521, 3) := by decide +kernel
theorem dX12_qPartTold_43 : decode cX12_qPartTold 43 = .ok (.aload_n 0, 1) := by decide +kernel
theorem dX12_qPartTold_44 : decode cX12_qPartTold 44 = .ok (.dup, 1) := by decide +kernel
theorem dX12_qPartTold_45 : decode cX12_qPartTold 45 = .ok (.getfield 201, 3) := by decide +kernel
theorem dX12_qPartTold_48 : decode cX12_qPartTold 48 = .ok (.iconst 1, 1) := by decide +kernel
theorem dX12_qPartTold_49 : decode cX12_qPartTold 49 = .ok (.iadd, 1) := by decide +kernel
theorem dX12_qPartTold_50 : decode cX12_qPartTold 50 = .ok (.putfield 201, 3) := by decide +kernel
theorem dX12_qPartTold_53 : decode cX12_qPartTold 53 = .ok (.goto 130, 3) := by decide +kernel
theorem dX12_qPartTold_56 : decode cX12_qPartTold 56 = .ok (.aload_n 0, 1) := by decide +kernel
theorem dX12_qPartTold_57 : decode cX12_qPartTold 57 = .ok (.aload_n 0, 1) := by decide +kernel
theorem dX12_qPartTold_58 : decode cX12_qPartTold 58 = .ok (.getfield 146, 3) := by decide +kernel
theorem dX12_qPartTold_61 : decode cX12_qPartTold 61 = .ok (.invokevirtual 218, 3) := by decide +kernel
theorem dX12_qPartTold_64 : decode cX12_qPartTold 64 = .ok (.ifCond .ne 14, 3) := by decide +kernel
theorem dX12_qPartTold_67 : decode cX12_qPartTold 67 = .ok (.aload_n 0, 1) := by decide +kernel
theorem dX12_qPartTold_68 : decode cX12_qPartTold 68 = .ok (.aload_n 0, 1) := by decide +kernel
theorem dX12_qPartTold_69 : decode cX12_qPartTold 69 = .ok (.getfield 149, 3) := by decide +kernel
theorem dX12_qPartTold_72 : decode cX12_qPartTold 72 = .ok (.invokevirtual 218, 3) := by decide +kernel
theorem dX12_qPartTold_75 : decode cX12_qPartTold 75 = .ok (.ifCond .eq 78, 3) := by decide +kernel
theorem dX12_qPartTold_78 : decode cX12_qPartTold 78 = .ok (.aload_n 0, 1) := by decide +kernel
theorem dX12_qPartTold_79 : decode cX12_qPartTold 79 = .ok (.aload_n 0, 1) := by decide +kernel
theorem dX12_qPartTold_80 : decode cX12_qPartTold 80 = .ok (.getfield 146, 3) := by decide +kernel
theorem dX12_qPartTold_83 : decode cX12_qPartTold 83 = .ok (.invokevirtual 222, 3) := by decide +kernel
theorem dX12_qPartTold_86 : decode cX12_qPartTold 86 = .ok (.istore 4, 2) := by decide +kernel
theorem dX12_qPartTold_88 : decode cX12_qPartTold 88 = .ok (.iload 4, 2) := by decide +kernel
theorem dX12_qPartTold_90 : decode cX12_qPartTold 90 = .ok (.ifCond .ne 11, 3) := by decide +kernel
theorem dX12_qPartTold_93 : decode cX12_qPartTold 93 = .ok (.aload_n 0, 1) := by decide +kernel
theorem dX12_qPartTold_94 : decode cX12_qPartTold 94 = .ok (.aload_n 0, 1) := by decide +kernel
theorem dX12_qPartTold_95 : decode cX12_qPartTold 95 = .ok (.getfield 149, 3) := by decide +kernel
theorem dX12_qPartTold_98 : decode cX12_qPartTold 98 = .ok (.invokevirtual 245, 3) := by decide +kernel
theorem dX12_qPartTold_101 : decode cX12_qPartTold 101 = .ok (.aload_n 0, 1) := by decide +kernel
theorem dX12_qPartTold_102 : decode cX12_qPartTold 102 = .ok (.invokevirtual 207, 3) := by decide +kernel
theorem dX12_qPartTold_105 : decode cX12_qPartTold 105 = .ok (.bipush 40, 2) := by decide +kernel
theorem dX12_qPartTold_107 : decode cX12_qPartTold 107 = .ok (.if_icmp .ne 10, 3) := by decide +kernel
theorem dX12_qPartTold_110 : decode cX12_qPartTold 110 = .ok (.aload_n 0, 1) := by decide +kernel
theorem dX12_qPartTold_111 : decode cX12_qPartTold 111 = .ok (.getfield 201, 3) := by decide +kernel
theorem dX12_qPartTold_114 : decode cX12_qPartTold 114 = .ok (.goto 4, 3) := by decide +kernel
theorem dX12_qPartTold_117 : decode cX12_qPartTold 117 = .ok (.iconst (-1), 1) := by decide +kernel
theorem dX12_qPartTold_118 : decode cX12_qPartTold 118 = .ok (.istore 5, 2) := by decide +kernel
theorem dX12_qPartTold_120 : decode cX12_qPartTold 120 = .ok (.iload 5, 2) := by decide +kernel
theorem dX12_qPartTold_122 : decode cX12_qPartTold 122 = .ok (.iconst (-1), 1) := by decide +kernel
theorem dX12_qPartTold_123 : decode cX12_qPartTold 123 = .ok (.if_icmp .eq 21, 3) := by decide +kernel
theorem dX12_qPartTold_126 : decode cX12_qPartTold 126 = .ok (.aload_n 0, 1) := by decide +kernel
theorem dX12_qPartTold_127 : decode cX12_qPartTold 127 = .ok (.iload 4, 2) := by decide +kernel
theorem dX12_qPartTold_129 : decode cX12_qPartTold 129 = .ok (.ifCond .eq 8, 3) := by decide +kernel
theorem dX12_qPartTold_132 : decode cX12_qPartTold 132 = .ok (.bipush 21, 2) := by decide +kernel
theorem dX12_qPartTold_134 : decode cX12_qPartTold 134 = .ok (.goto 5, 3) := by decide +kernel
theorem dX12_qPartTold_137 : decode cX12_qPartTold 137 = .ok (.bipush 22, 2) := by decide +kernel
theorem dX12_qPartTold_139 : decode cX12_qPartTold 139 = .ok (.iload 5, 2) := by decide +kernel
theorem dX12_qPartTold_141 : decode cX12_qPartTold 141 = .ok (.invokevirtual 521, 3) := by decide +kernel
theorem dX12_qPartTold_144 : decode cX12_qPartTold 144 = .ok (.aload_n 0, 1) := by decide +kernel
theorem dX12_qPartTold_145 : decode cX12_qPartTold 145 = .ok (.bipush 40, 2) := by decide +kernel
theorem dX12_qPartTold_147 : decode cX12_qPartTold 147 = .ok (.invokevirtual 253, 3) := by decide +kernel
theorem dX12_qPartTold_150 : decode cX12_qPartTold 150 = .ok (.goto 33, 3) := by decide +kernel
theorem dX12_qPartTold_153 : decode cX12_qPartTold 153 = .ok (.iload_n 3, 1) := by decide +kernel
theorem dX12_qPartTold_154 : decode cX12_qPartTold 154 = .ok (.iconst (-1), 1) := by decide +kernel
theorem dX12_qPartTold_155 : decode cX12_qPartTold 155 = .ok (.if_icmp .eq 26, 3) := by decide +kernel
theorem dX12_qPartTold_158 : decode cX12_qPartTold 158 = .ok (.aload_n 0, 1) := by decide +kernel
theorem dX12_qPartTold_159 : decode cX12_qPartTold 159 = .ok (.bipush 60, 2) := by decide +kernel
theorem dX12_qPartTold_161 : decode cX12_qPartTold 161 = .ok (.iload_n 3, 1) := by decide +kernel
theorem dX12_qPartTold_162 : decode cX12_qPartTold 162 = .ok (.iadd, 1) := by decide +kernel
theorem dX12_qPartTold_163 : decode cX12_qPartTold 163 = .ok (.bipush 7, 2) := by decide +kernel
theorem dX12_qPartTold_165 : decode cX12_qPartTold 165 = .ok (.isub, 1) := by decide +kernel
theorem dX12_qPartTold_166 : decode cX12_qPartTold 166 = .ok (.aload_n 0, 1) := by decide +kernel
theorem dX12_qPartTold_167 : decode cX12_qPartTold 167 = .ok (.getfield 201, 3) := by decide +kernel
theorem dX12_qPartTold_170 : decode cX12_qPartTold 170 = .ok (.invokevirtual 521, 3) := by decide +kernel
theorem dX12_qPartTold_173 : decode cX12_qPartTold 173 = .ok (.aload_n 0, 1) := by decide +kernel
theorem dX12_qPartTold_174 : decode cX12_qPartTold 174 = .ok (.iload_n 3, 1) := by decide +kernel
theorem dX12_qPartTold_175 : decode cX12_qPartTold 175 = .ok (.invokevirtual 524, 3) := by decide +kernel
theorem dX12_qPartTold_178 : decode cX12_qPartTold 178 = .ok (.goto 5, 3) := by decide +kernel
theorem dX12_qPartTold_181 : decode cX12_qPartTold 181 = .ok (.iconst 0, 1) := by decide +kernel
theorem dX12_qPartTold_182 : decode cX12_qPartTold 182 = .ok (.istore_n 1, 1) := by decide +kernel
theorem dX12_qPartTold_183 : decode cX12_qPartTold 183 = .ok (.goto (-181), 3) := by decide +kernel
theorem dX12_qPartTold_186 : decode cX12_qPartTold 186 = .ok (.aload_n 0, 1) := by decide +kernel
theorem dX12_qPartTold_187 : decode cX12_qPartTold 187 = .ok (.getfield 195, 3) := by decide +kernel
theorem dX12_qPartTold_190 : decode cX12_qPartTold 190 = .ok (.ifCond .eq 4, 3) := by decide +kernel
theorem dX12_qPartTold_193 : decode cX12_qPartTold 193 = .ok (.return_, 1) := by decide +kernel
theorem dX12_qPartTold_194 : decode cX12_qPartTold 194 = .ok (.aload_n 0, 1) := by decide +kernel
theorem dX12_qPartTold_195 : decode cX12_qPartTold 195 = .ok (.iconst 0, 1) := by decide +kernel
theorem dX12_qPartTold_196 : decode cX12_qPartTold 196 = .ok (.bipush 7, 2) := by decide +kernel
theorem dX12_qPartTold_198 : decode cX12_qPartTold 198 = .ok (.invokevirtual 518, 3) := by decide +kernel
theorem dX12_qPartTold_201 : decode cX12_qPartTold 201 = .ok (.istore_n 2, 1) := by decide +kernel
theorem dX12_qPartTold_202 : decode cX12_qPartTold 202 = .ok (.iload_n 2, 1) := by decide +kernel
theorem dX12_qPartTold_203 : decode cX12_qPartTold 203 = .ok (.iconst (-1), 1) := by decide +kernel
theorem dX12_qPartTold_204 : decode cX12_qPartTold 204 = .ok (.if_icmp .eq 8, 3) := by decide +kernel
theorem dX12_qPartTold_207 : decode cX12_qPartTold 207 = .ok (.aload_n 0, 1) := by decide +kernel
theorem dX12_qPartTold_208 : decode cX12_qPartTold 208 = .ok (.iload_n 2, 1) := by decide +kernel
theorem dX12_qPartTold_209 : decode cX12_qPartTold 209 = .ok (.invokevirtual 524, 3) := by decide +kernel
theorem dX12_qPartTold_212 : decode cX12_qPartTold 212 = .ok (.aload_n 0, 1) := by decide +kernel
theorem dX12_qPartTold_213 : decode cX12_qPartTold 213 = .ok (.iload_n 2, 1) := by decide +kernel
theorem dX12_qPartTold_214 : decode cX12_qPartTold 214 = .ok (.iconst (-1), 1) := by decide +kernel
theorem dX12_qPartTold_215 : decode cX12_qPartTold 215 = .ok (.if_icmp .eq 10, 3) := by decide +kernel
theorem dX12_qPartTold_218 : decode cX12_qPartTold 218 = .ok (.bipush 40, 2) := by decide +kernel
theorem dX12_qPartTold_220 : decode cX12_qPartTold 220 = .ok (.iload_n 2, 1) := by decide +kernel
theorem dX12_qPartTold_221 : decode cX12_qPartTold 221 = .ok (.iadd, 1) := by decide +kernel
theorem dX12_qPartTold_222 : decode cX12_qPartTold 222 = .ok (.goto 15, 3) := by decide +kernel
theorem dX12_qPartTold_225 : decode cX12_qPartTold 225 = .ok (.sipush 1000, 3) := by decide +kernel
theorem dX12_qPartTold_228 : decode cX12_qPartTold 228 = .ok (.aload_n 0, 1) := by decide +kernel
theorem dX12_qPartTold_229 : decode cX12_qPartTold 229 = .ok (.iconst 0, 1) := by decide +kernel
theorem dX12_qPartTold_230 : decode cX12_qPartTold 230 = .ok (.sipush 9999, 3) := by decide +kernel
theorem dX12_qPartTold_233 : decode cX12_qPartTold 233 = .ok (.invokevirtual 249, 3) := by decide +kernel
theorem dX12_qPartTold_236 : decode cX12_qPartTold 236 = .ok (.iadd, 1) := by decide +kernel
theorem dX12_qPartTold_237 : decode cX12_qPartTold 237 = .ok (.invokevirtual 503, 3) := by decide +kernel
theorem dX12_qPartTold_240 : decode cX12_qPartTold 240 = .ok (.aload_n 0, 1) := by decide +kernel
theorem dX12_qPartTold_241 : decode cX12_qPartTold 241 = .ok (.invokevirtual 527, 3) := by decide +kernel
theorem dX12_qPartTold_244 : decode cX12_qPartTold 244 = .ok (.return_, 1) := by decide +kernel
set_option maxRecDepth 20000 in
theorem bk_X12_qPartTold_0 {d : Nat} {w : hb_W} {Q : Option hb_V → hb_W → Prop} (h : hb_R yX12_qPartTold cX12_qPartTold 6 none (d + 1) 2 [some (hb_r 12 0 0), some (hb_i (1 : Int32)), none, none, none, none] [] w Q) : hb_R yX12_qPartTold cX12_qPartTold 6 none (d + 1) 0 [some (hb_r 12 0 0), none, none, none, none, none] [] w Q := by
  refine hb_iconst (pc := 0) (v := 1) dX12_qPartTold_0 (by decide) ?_
  refine hb_istore_n (pc := 1) (i := 1) (ls1 := [some (hb_r 12 0 0), some (hb_i (1 : Int32)), none, none, none, none]) dX12_qPartTold_1 rfl (by decide) rfl ?_
  exact h
set_option maxRecDepth 20000 in
theorem bk_X12_qPartTold_2 {d : Nat} {w : hb_W} {Q : Option hb_V → hb_W → Prop} {x1 : Int32} (h : ((x1 = 0) → (((hb_fI w 12 5 0) = 0) → hb_O yX12_qWordOf cX12_qWordOf 4 (some .int) d [hb_r 12 0 0, hb_i (0 : Int32), hb_i (7 : Int32)] w (fun rv w1 => hb_R yX12_qPartTold cX12_qPartTold 6 none (d + 1) 201 [some (hb_r 12 0 0), some (hb_i x1), none, none, none, none] (rv.toList ++ []) w1 Q)) ∧ ((¬ (hb_fI w 12 5 0) = 0) → Q none w)) ∧ ((¬ x1 = 0) → ((¬ (hb_fI w 12 5 0) = 0) → (((hb_fI w 12 5 0) = 0) → hb_O yX12_qWordOf cX12_qWordOf 4 (some .int) d [hb_r 12 0 0, hb_i (0 : Int32), hb_i (7 : Int32)] w (fun rv w1 => hb_R yX12_qPartTold cX12_qPartTold 6 none (d + 1) 201 [some (hb_r 12 0 0), some (hb_i x1), none, none, none, none] (rv.toList ++ []) w1 Q)) ∧ ((¬ (hb_fI w 12 5 0) = 0) → Q none w)) ∧ (((hb_fI w 12 5 0) = 0) → hb_O yX12_look cX12_look 1 (some .int) d [hb_r 12 0 0] w (fun rv w1 => hb_R yX12_qPartTold cX12_qPartTold 6 none (d + 1) 17 [some (hb_r 12 0 0), some (hb_i x1), none, none, none, none] (rv.toList ++ []) w1 Q)))) : hb_R yX12_qPartTold cX12_qPartTold 6 none (d + 1) 2 [some (hb_r 12 0 0), some (hb_i x1), none, none, none, none] [] w Q := by
  refine hb_iload_n (pc := 2) (i := 1) dX12_qPartTold_2 rfl rfl ?_
  refine hb_if_eq (pc := 3) (tgt := 186) dX12_qPartTold_3 (by decide) (fun c1 => ?_) (fun c1 => ?_)
  · have ht1 := h.1 c1
    refine hb_aload_n (pc := 186) (i := 0) dX12_qPartTold_186 rfl rfl ?_
    refine hb_getIx (pc := 187) (x := hb_fI w 12 5 0) dX12_qPartTold_187 fw_X12_195 cw_12 rfl (by decide) rfl rfl ?_
    refine hb_if_eq (pc := 190) (tgt := 194) dX12_qPartTold_190 (by decide) (fun c2 => ?_) (fun c2 => ?_)
    · have ht2 := ht1.1 c2
      refine hb_aload_n (pc := 194) (i := 0) dX12_qPartTold_194 rfl rfl ?_
      refine hb_iconst (pc := 195) (v := 0) dX12_qPartTold_195 (by decide) ?_
      refine hb_bipush (pc := 196) (v := 7) dX12_qPartTold_196 (by decide) ?_
      exact hb_callV (pc := 198) (As := [hb_i (0 : Int32), hb_i (7 : Int32)]) (st := []) dX12_qPartTold_198 ml_X12_518 mf_X12_qWordOf mi_X12_qWordOf (ci := 12) rfl rfl (by decide) rfl rfl (Nat.le_of_ble_eq_true rfl) (Nat.le_of_ble_eq_true rfl) ht2 (fun _ _ q => q)
    · have ht2 := ht1.2 c2
      exact hb_vret (pc := 193) dX12_qPartTold_193 rfl ht2
  · have ht1 := h.2 c1
    refine hb_aload_n (pc := 6) (i := 0) dX12_qPartTold_6 rfl rfl ?_
    refine hb_getIx (pc := 7) (x := hb_fI w 12 5 0) dX12_qPartTold_7 fw_X12_195 cw_12 rfl (by decide) rfl rfl ?_
    refine hb_if_ne (pc := 10) (tgt := 186) dX12_qPartTold_10 (by decide) (fun c3 => ?_) (fun c3 => ?_)
    · have ht3 := ht1.1 c3
      refine hb_aload_n (pc := 186) (i := 0) dX12_qPartTold_186 rfl rfl ?_
      refine hb_getIx (pc := 187) (x := hb_fI w 12 5 0) dX12_qPartTold_187 fw_X12_195 cw_12 rfl (by decide) rfl rfl ?_
      refine hb_if_eq (pc := 190) (tgt := 194) dX12_qPartTold_190 (by decide) (fun c4 => ?_) (fun c4 => ?_)
      · have ht4 := ht3.1 c4
        refine hb_aload_n (pc := 194) (i := 0) dX12_qPartTold_194 rfl rfl ?_
        refine hb_iconst (pc := 195) (v := 0) dX12_qPartTold_195 (by decide) ?_
        refine hb_bipush (pc := 196) (v := 7) dX12_qPartTold_196 (by decide) ?_
        exact hb_callV (pc := 198) (As := [hb_i (0 : Int32), hb_i (7 : Int32)]) (st := []) dX12_qPartTold_198 ml_X12_518 mf_X12_qWordOf mi_X12_qWordOf (ci := 12) rfl rfl (by decide) rfl rfl (Nat.le_of_ble_eq_true rfl) (Nat.le_of_ble_eq_true rfl) ht4 (fun _ _ q => q)
      · have ht4 := ht3.2 c4
        exact hb_vret (pc := 193) dX12_qPartTold_193 rfl ht4
    · have ht3 := ht1.2 c3
      refine hb_aload_n (pc := 13) (i := 0) dX12_qPartTold_13 rfl rfl ?_
      exact hb_callV (pc := 14) (As := []) (st := []) dX12_qPartTold_14 ml_X12_207 mf_X12_look mi_X12_look (ci := 12) rfl rfl (by decide) rfl rfl (Nat.le_of_ble_eq_true rfl) (Nat.le_of_ble_eq_true rfl) ht3 (fun _ _ q => q)
set_option maxRecDepth 20000 in
theorem bk_X12_qPartTold_17 {d : Nat} {w : hb_W} {Q : Option hb_V → hb_W → Prop} {x1 : Int32} {xs0 : Int32} (h : hb_O yX12_qWordOf cX12_qWordOf 4 (some .int) d [hb_r 12 0 0, hb_i (7 : Int32), hb_i (9 : Int32)] w (fun rv w1 => hb_R yX12_qPartTold cX12_qPartTold 6 none (d + 1) 26 [some (hb_r 12 0 0), some (hb_i x1), some (hb_i xs0), none, none, none] (rv.toList ++ []) w1 Q)) : hb_R yX12_qPartTold cX12_qPartTold 6 none (d + 1) 17 [some (hb_r 12 0 0), some (hb_i x1), none, none, none, none] [hb_i xs0] w Q := by
  refine hb_istore_n (pc := 17) (i := 2) (ls1 := [some (hb_r 12 0 0), some (hb_i x1), some (hb_i xs0), none, none, none]) dX12_qPartTold_17 rfl (by decide) rfl ?_
  refine hb_aload_n (pc := 18) (i := 0) dX12_qPartTold_18 rfl rfl ?_
  refine hb_bipush (pc := 19) (v := 7) dX12_qPartTold_19 (by decide) ?_
  refine hb_bipush (pc := 21) (v := 9) dX12_qPartTold_21 (by decide) ?_
  exact hb_callV (pc := 23) (As := [hb_i (7 : Int32), hb_i (9 : Int32)]) (st := []) dX12_qPartTold_23 ml_X12_518 mf_X12_qWordOf mi_X12_qWordOf (ci := 12) rfl rfl (by decide) rfl rfl (Nat.le_of_ble_eq_true rfl) (Nat.le_of_ble_eq_true rfl) h (fun _ _ q => q)
set_option maxRecDepth 20000 in
theorem bk_X12_qPartTold_26 {d : Nat} {w : hb_W} {Q : Option hb_V → hb_W → Prop} {x1 : Int32} {x2 : Int32} {xs0 : Int32} (h : ((¬ x2 = (40 : Int32)) → hb_O yX12_isHere cX12_isHere 4 (some .boolean) d [hb_r 12 0 0, hb_r 12 0 43] w (fun rv w1 => hb_R yX12_qPartTold cX12_qPartTold 6 none (d + 1) 64 [some (hb_r 12 0 0), some (hb_i x1), some (hb_i x2), some (hb_i xs0), none, none] (rv.toList ++ []) w1 Q)) ∧ ((x2 = (40 : Int32)) → hb_O yX12_qOpens cX12_qOpens 3 none d [hb_r 12 0 0, hb_i (20 : Int32), hb_i (hb_fI w 12 2 0)] w (fun rv w1 => hb_R yX12_qPartTold cX12_qPartTold 6 none (d + 1) 43 [some (hb_r 12 0 0), some (hb_i x1), some (hb_i x2), some (hb_i xs0), none, none] (rv.toList ++ []) w1 Q))) : hb_R yX12_qPartTold cX12_qPartTold 6 none (d + 1) 26 [some (hb_r 12 0 0), some (hb_i x1), some (hb_i x2), none, none, none] [hb_i xs0] w Q := by
  refine hb_istore_n (pc := 26) (i := 3) (ls1 := [some (hb_r 12 0 0), some (hb_i x1), some (hb_i x2), some (hb_i xs0), none, none]) dX12_qPartTold_26 rfl (by decide) rfl ?_
  refine hb_iload_n (pc := 27) (i := 2) dX12_qPartTold_27 rfl rfl ?_
  refine hb_bipush (pc := 28) (v := 40) dX12_qPartTold_28 (by decide) ?_
  refine hb_icmp_ne (pc := 30) (tgt := 56) dX12_qPartTold_30 (by decide) (fun c1 => ?_) (fun c1 => ?_)
  · have ht1 := h.1 c1
    refine hb_aload_n (pc := 56) (i := 0) dX12_qPartTold_56 rfl rfl ?_
    refine hb_aload_n (pc := 57) (i := 0) dX12_qPartTold_57 rfl rfl ?_
    refine hb_getR (pc := 58) (g1 := 0) dX12_qPartTold_58 fw_X12_146 cw_12 rfl (by decide) rfl (by decide) rfl ?_
    exact hb_callV (pc := 61) (As := [hb_r 12 0 43]) (st := []) dX12_qPartTold_61 ml_X12_218 mf_X12_isHere mi_X12_isHere (ci := 12) rfl rfl (by decide) rfl rfl (Nat.le_of_ble_eq_true rfl) (Nat.le_of_ble_eq_true rfl) ht1 (fun _ _ q => q)
  · have ht1 := h.2 c1
    refine hb_aload_n (pc := 33) (i := 0) dX12_qPartTold_33 rfl rfl ?_
    refine hb_bipush (pc := 34) (v := 20) dX12_qPartTold_34 (by decide) ?_
    refine hb_aload_n (pc := 36) (i := 0) dX12_qPartTold_36 rfl rfl ?_
    refine hb_getIx (pc := 37) (x := hb_fI w 12 2 0) dX12_qPartTold_37 fw_X12_201 cw_12 rfl (by decide) rfl rfl ?_
    exact hb_callV (pc := 40) (As := [hb_i (20 : Int32), hb_i (hb_fI w 12 2 0)]) (st := []) dX12_qPartTold_40 ml_X12_521 mf_X12_qOpens mi_X12_qOpens (ci := 12) rfl rfl (by decide) rfl rfl (Nat.le_of_ble_eq_true rfl) (Nat.le_of_ble_eq_true rfl) ht1 (fun _ _ q => q)
set_option maxRecDepth 20000 in
theorem bk_X12_qPartTold_43 {d : Nat} {w : hb_W} {Q : Option hb_V → hb_W → Prop} {x1 : Int32} {x2 : Int32} {x3 : Int32} (h : hb_R yX12_qPartTold cX12_qPartTold 6 none (d + 1) 2 [some (hb_r 12 0 0), some (hb_i x1), some (hb_i x2), some (hb_i x3), none, none] [] (hb_pI w 12 2 0 ((hb_fI w 12 2 0) + (1 : Int32))) Q) : hb_R yX12_qPartTold cX12_qPartTold 6 none (d + 1) 43 [some (hb_r 12 0 0), some (hb_i x1), some (hb_i x2), some (hb_i x3), none, none] [] w Q := by
  refine hb_aload_n (pc := 43) (i := 0) dX12_qPartTold_43 rfl rfl ?_
  refine hb_dupr (pc := 44) dX12_qPartTold_44 ?_
  refine hb_getIx (pc := 45) (x := hb_fI w 12 2 0) dX12_qPartTold_45 fw_X12_201 cw_12 rfl (by decide) rfl rfl ?_
  refine hb_iconst (pc := 48) (v := 1) dX12_qPartTold_48 (by decide) ?_
  refine hb_iadd (pc := 49) dX12_qPartTold_49 ?_
  refine hb_putI (pc := 50) dX12_qPartTold_50 fw_X12_201 cw_12 pw_12_2 rfl (by decide) rfl rfl rfl ?_
  refine hb_goto (pc := 53) (tgt := 183) dX12_qPartTold_53 (by decide) ?_
  refine hb_goto (pc := 183) (tgt := 2) dX12_qPartTold_183 (by decide) ?_
  exact h
set_option maxRecDepth 20000 in
theorem bk_X12_qPartTold_64 {d : Nat} {w : hb_W} {Q : Option hb_V → hb_W → Prop} {x1 : Int32} {x2 : Int32} {x3 : Int32} {xs0 : Int32} (h : ((¬ xs0 = 0) → hb_O yX12_takes cX12_takes 2 (some .boolean) d [hb_r 12 0 0, hb_r 12 0 43] w (fun rv w1 => hb_R yX12_qPartTold cX12_qPartTold 6 none (d + 1) 86 [some (hb_r 12 0 0), some (hb_i x1), some (hb_i x2), some (hb_i x3), none, none] (rv.toList ++ []) w1 Q)) ∧ ((xs0 = 0) → hb_O yX12_isHere cX12_isHere 4 (some .boolean) d [hb_r 12 0 0, hb_r 12 0 44] w (fun rv w1 => hb_R yX12_qPartTold cX12_qPartTold 6 none (d + 1) 75 [some (hb_r 12 0 0), some (hb_i x1), some (hb_i x2), some (hb_i x3), none, none] (rv.toList ++ []) w1 Q))) : hb_R yX12_qPartTold cX12_qPartTold 6 none (d + 1) 64 [some (hb_r 12 0 0), some (hb_i x1), some (hb_i x2), some (hb_i x3), none, none] [hb_i xs0] w Q := by
  refine hb_if_ne (pc := 64) (tgt := 78) dX12_qPartTold_64 (by decide) (fun c1 => ?_) (fun c1 => ?_)
  · have ht1 := h.1 c1
    refine hb_aload_n (pc := 78) (i := 0) dX12_qPartTold_78 rfl rfl ?_
    refine hb_aload_n (pc := 79) (i := 0) dX12_qPartTold_79 rfl rfl ?_
    refine hb_getR (pc := 80) (g1 := 0) dX12_qPartTold_80 fw_X12_146 cw_12 rfl (by decide) rfl (by decide) rfl ?_
    exact hb_callV (pc := 83) (As := [hb_r 12 0 43]) (st := []) dX12_qPartTold_83 ml_X12_222 mf_X12_takes mi_X12_takes (ci := 12) rfl rfl (by decide) rfl rfl (Nat.le_of_ble_eq_true rfl) (Nat.le_of_ble_eq_true rfl) ht1 (fun _ _ q => q)
  · have ht1 := h.2 c1
    refine hb_aload_n (pc := 67) (i := 0) dX12_qPartTold_67 rfl rfl ?_
    refine hb_aload_n (pc := 68) (i := 0) dX12_qPartTold_68 rfl rfl ?_
    refine hb_getR (pc := 69) (g1 := 0) dX12_qPartTold_69 fw_X12_149 cw_12 rfl (by decide) rfl (by decide) rfl ?_
    exact hb_callV (pc := 72) (As := [hb_r 12 0 44]) (st := []) dX12_qPartTold_72 ml_X12_218 mf_X12_isHere mi_X12_isHere (ci := 12) rfl rfl (by decide) rfl rfl (Nat.le_of_ble_eq_true rfl) (Nat.le_of_ble_eq_true rfl) ht1 (fun _ _ q => q)
set_option maxRecDepth 20000 in
theorem bk_X12_qPartTold_75 {d : Nat} {w : hb_W} {Q : Option hb_V → hb_W → Prop} {x1 : Int32} {x2 : Int32} {x3 : Int32} {xs0 : Int32} (h : ((xs0 = 0) → ((x3 = (-1 : Int32)) → hb_R yX12_qPartTold cX12_qPartTold 6 none (d + 1) 2 [some (hb_r 12 0 0), some (hb_i (0 : Int32)), some (hb_i x2), some (hb_i x3), none, none] [] w Q) ∧ ((¬ x3 = (-1 : Int32)) → hb_O yX12_qOpens cX12_qOpens 3 none d [hb_r 12 0 0, hb_i (((60 : Int32) + x3) - (7 : Int32)), hb_i (hb_fI w 12 2 0)] w (fun rv w1 => hb_R yX12_qPartTold cX12_qPartTold 6 none (d + 1) 173 [some (hb_r 12 0 0), some (hb_i x1), some (hb_i x2), some (hb_i x3), none, none] (rv.toList ++ []) w1 Q))) ∧ ((¬ xs0 = 0) → hb_O yX12_takes cX12_takes 2 (some .boolean) d [hb_r 12 0 0, hb_r 12 0 43] w (fun rv w1 => hb_R yX12_qPartTold cX12_qPartTold 6 none (d + 1) 86 [some (hb_r 12 0 0), some (hb_i x1), some (hb_i x2), some (hb_i x3), none, none] (rv.toList ++ []) w1 Q))) : hb_R yX12_qPartTold cX12_qPartTold 6 none (d + 1) 75 [some (hb_r 12 0 0), some (hb_i x1), some (hb_i x2), some (hb_i x3), none, none] [hb_i xs0] w Q := by
  refine hb_if_eq (pc := 75) (tgt := 153) dX12_qPartTold_75 (by decide) (fun c1 => ?_) (fun c1 => ?_)
  · have ht1 := h.1 c1
    refine hb_iload_n (pc := 153) (i := 3) dX12_qPartTold_153 rfl rfl ?_
    refine hb_iconst (pc := 154) (v := -1) dX12_qPartTold_154 (by decide) ?_
    refine hb_icmp_eq (pc := 155) (tgt := 181) dX12_qPartTold_155 (by decide) (fun c2 => ?_) (fun c2 => ?_)
    · have ht2 := ht1.1 c2
      refine hb_iconst (pc := 181) (v := 0) dX12_qPartTold_181 (by decide) ?_
      refine hb_istore_n (pc := 182) (i := 1) (ls1 := [some (hb_r 12 0 0), some (hb_i (0 : Int32)), some (hb_i x2), some (hb_i x3), none, none]) dX12_qPartTold_182 rfl (by decide) rfl ?_
      refine hb_goto (pc := 183) (tgt := 2) dX12_qPartTold_183 (by decide) ?_
      exact ht2
    · have ht2 := ht1.2 c2
      refine hb_aload_n (pc := 158) (i := 0) dX12_qPartTold_158 rfl rfl ?_
      refine hb_bipush (pc := 159) (v := 60) dX12_qPartTold_159 (by decide) ?_
      refine hb_iload_n (pc := 161) (i := 3) dX12_qPartTold_161 rfl rfl ?_
      refine hb_iadd (pc := 162) dX12_qPartTold_162 ?_
      refine hb_bipush (pc := 163) (v := 7) dX12_qPartTold_163 (by decide) ?_
      refine hb_isub (pc := 165) dX12_qPartTold_165 ?_
      refine hb_aload_n (pc := 166) (i := 0) dX12_qPartTold_166 rfl rfl ?_
      refine hb_getIx (pc := 167) (x := hb_fI w 12 2 0) dX12_qPartTold_167 fw_X12_201 cw_12 rfl (by decide) rfl rfl ?_
      exact hb_callV (pc := 170) (As := [hb_i (((60 : Int32) + x3) - (7 : Int32)), hb_i (hb_fI w 12 2 0)]) (st := []) dX12_qPartTold_170 ml_X12_521 mf_X12_qOpens mi_X12_qOpens (ci := 12) rfl rfl (by decide) rfl rfl (Nat.le_of_ble_eq_true rfl) (Nat.le_of_ble_eq_true rfl) ht2 (fun _ _ q => q)
  · have ht1 := h.2 c1
    refine hb_aload_n (pc := 78) (i := 0) dX12_qPartTold_78 rfl rfl ?_
    refine hb_aload_n (pc := 79) (i := 0) dX12_qPartTold_79 rfl rfl ?_
    refine hb_getR (pc := 80) (g1 := 0) dX12_qPartTold_80 fw_X12_146 cw_12 rfl (by decide) rfl (by decide) rfl ?_
    exact hb_callV (pc := 83) (As := [hb_r 12 0 43]) (st := []) dX12_qPartTold_83 ml_X12_222 mf_X12_takes mi_X12_takes (ci := 12) rfl rfl (by decide) rfl rfl (Nat.le_of_ble_eq_true rfl) (Nat.le_of_ble_eq_true rfl) ht1 (fun _ _ q => q)
set_option maxRecDepth 20000 in
theorem bk_X12_qPartTold_86 {d : Nat} {w : hb_W} {Q : Option hb_V → hb_W → Prop} {x1 : Int32} {x2 : Int32} {x3 : Int32} {xs0 : Int32} (h : ((¬ xs0 = 0) → hb_R yX12_qPartTold cX12_qPartTold 6 none (d + 1) 101 [some (hb_r 12 0 0), some (hb_i x1), some (hb_i x2), some (hb_i x3), some (hb_i xs0), none] [] w Q) ∧ ((xs0 = 0) → hb_O yX12_asks cX12_asks 2 none d [hb_r 12 0 0, hb_r 12 0 44] w (fun rv w1 => hb_R yX12_qPartTold cX12_qPartTold 6 none (d + 1) 101 [some (hb_r 12 0 0), some (hb_i x1), some (hb_i x2), some (hb_i x3), some (hb_i xs0), none] (rv.toList ++ []) w1 Q))) : hb_R yX12_qPartTold cX12_qPartTold 6 none (d + 1) 86 [some (hb_r 12 0 0), some (hb_i x1), some (hb_i x2), some (hb_i x3), none, none] [hb_i xs0] w Q := by
  refine hb_istore (pc := 86) (i := 4) (ls1 := [some (hb_r 12 0 0), some (hb_i x1), some (hb_i x2), some (hb_i x3), some (hb_i xs0), none]) dX12_qPartTold_86 (by decide) rfl ?_
  refine hb_iload (pc := 88) dX12_qPartTold_88 rfl ?_
  refine hb_if_ne (pc := 90) (tgt := 101) dX12_qPartTold_90 (by decide) (fun c1 => ?_) (fun c1 => ?_)
  · have ht1 := h.1 c1
    exact ht1
  · have ht1 := h.2 c1
    refine hb_aload_n (pc := 93) (i := 0) dX12_qPartTold_93 rfl rfl ?_
    refine hb_aload_n (pc := 94) (i := 0) dX12_qPartTold_94 rfl rfl ?_
    refine hb_getR (pc := 95) (g1 := 0) dX12_qPartTold_95 fw_X12_149 cw_12 rfl (by decide) rfl (by decide) rfl ?_
    exact hb_callV (pc := 98) (As := [hb_r 12 0 44]) (st := []) dX12_qPartTold_98 ml_X12_245 mf_X12_asks mi_X12_asks (ci := 12) rfl rfl (by decide) rfl rfl (Nat.le_of_ble_eq_true rfl) (Nat.le_of_ble_eq_true rfl) ht1 (fun _ _ q => q)
set_option maxRecDepth 20000 in
theorem bk_X12_qPartTold_101 {d : Nat} {w : hb_W} {Q : Option hb_V → hb_W → Prop} {x1 : Int32} {x2 : Int32} {x3 : Int32} {x4 : Int32} (h : hb_O yX12_look cX12_look 1 (some .int) d [hb_r 12 0 0] w (fun rv w1 => hb_R yX12_qPartTold cX12_qPartTold 6 none (d + 1) 105 [some (hb_r 12 0 0), some (hb_i x1), some (hb_i x2), some (hb_i x3), some (hb_i x4), none] (rv.toList ++ []) w1 Q)) : hb_R yX12_qPartTold cX12_qPartTold 6 none (d + 1) 101 [some (hb_r 12 0 0), some (hb_i x1), some (hb_i x2), some (hb_i x3), some (hb_i x4), none] [] w Q := by
  refine hb_aload_n (pc := 101) (i := 0) dX12_qPartTold_101 rfl rfl ?_
  exact hb_callV (pc := 102) (As := []) (st := []) dX12_qPartTold_102 ml_X12_207 mf_X12_look mi_X12_look (ci := 12) rfl rfl (by decide) rfl rfl (Nat.le_of_ble_eq_true rfl) (Nat.le_of_ble_eq_true rfl) h (fun _ _ q => q)
set_option maxRecDepth 20000 in
theorem bk_X12_qPartTold_105 {d : Nat} {w : hb_W} {Q : Option hb_V → hb_W → Prop} {x1 : Int32} {x2 : Int32} {x3 : Int32} {x4 : Int32} {xs0 : Int32} (h : ((¬ xs0 = (40 : Int32)) → (((-1 : Int32) = (-1 : Int32)) → hb_R yX12_qPartTold cX12_qPartTold 6 none (d + 1) 144 [some (hb_r 12 0 0), some (hb_i x1), some (hb_i x2), some (hb_i x3), some (hb_i x4), some (hb_i (-1 : Int32))] [] w Q) ∧ ((¬ (-1 : Int32) = (-1 : Int32)) → ((x4 = 0) → hb_O yX12_qOpens cX12_qOpens 3 none d [hb_r 12 0 0, hb_i (22 : Int32), hb_i (-1 : Int32)] w (fun rv w1 => hb_R yX12_qPartTold cX12_qPartTold 6 none (d + 1) 144 [some (hb_r 12 0 0), some (hb_i x1), some (hb_i x2), some (hb_i x3), some (hb_i x4), some (hb_i (-1 : Int32))] (rv.toList ++ []) w1 Q)) ∧ ((¬ x4 = 0) → hb_O yX12_qOpens cX12_qOpens 3 none d [hb_r 12 0 0, hb_i (21 : Int32), hb_i (-1 : Int32)] w (fun rv w1 => hb_R yX12_qPartTold cX12_qPartTold 6 none (d + 1) 144 [some (hb_r 12 0 0), some (hb_i x1), some (hb_i x2), some (hb_i x3), some (hb_i x4), some (hb_i (-1 : Int32))] (rv.toList ++ []) w1 Q)))) ∧ ((xs0 = (40 : Int32)) → (((hb_fI w 12 2 0) = (-1 : Int32)) → hb_R yX12_qPartTold cX12_qPartTold 6 none (d + 1) 144 [some (hb_r 12 0 0), some (hb_i x1), some (hb_i x2), some (hb_i x3), some (hb_i x4), some (hb_i (hb_fI w 12 2 0))] [] w Q) ∧ ((¬ (hb_fI w 12 2 0) = (-1 : Int32)) → ((x4 = 0) → hb_O yX12_qOpens cX12_qOpens 3 none d [hb_r 12 0 0, hb_i (22 : Int32), hb_i (hb_fI w 12 2 0)] w (fun rv w1 => hb_R yX12_qPartTold cX12_qPartTold 6 none (d + 1) 144 [some (hb_r 12 0 0), some (hb_i x1), some (hb_i x2), some (hb_i x3), some (hb_i x4), some (hb_i (hb_fI w 12 2 0))] (rv.toList ++ []) w1 Q)) ∧ ((¬ x4 = 0) → hb_O yX12_qOpens cX12_qOpens 3 none d [hb_r 12 0 0, hb_i (21 : Int32), hb_i (hb_fI w 12 2 0)] w (fun rv w1 => hb_R yX12_qPartTold cX12_qPartTold 6 none (d + 1) 144 [some (hb_r 12 0 0), some (hb_i x1), some (hb_i x2), some (hb_i x3), some (hb_i x4), some (hb_i (hb_fI w 12 2 0))] (rv.toList ++ []) w1 Q))))) : hb_R yX12_qPartTold cX12_qPartTold 6 none (d + 1) 105 [some (hb_r 12 0 0), some (hb_i x1), some (hb_i x2), some (hb_i x3), some (hb_i x4), none] [hb_i xs0] w Q := by
  refine hb_bipush (pc := 105) (v := 40) dX12_qPartTold_105 (by decide) ?_
  refine hb_icmp_ne (pc := 107) (tgt := 117) dX12_qPartTold_107 (by decide) (fun c1 => ?_) (fun c1 => ?_)
  · have ht1 := h.1 c1
    refine hb_iconst (pc := 117) (v := -1) dX12_qPartTold_117 (by decide) ?_
    refine hb_istore (pc := 118) (i := 5) (ls1 := [some (hb_r 12 0 0), some (hb_i x1), some (hb_i x2), some (hb_i x3), some (hb_i x4), some (hb_i (-1 : Int32))]) dX12_qPartTold_118 (by decide) rfl ?_
    refine hb_iload (pc := 120) dX12_qPartTold_120 rfl ?_
    refine hb_iconst (pc := 122) (v := -1) dX12_qPartTold_122 (by decide) ?_
    refine hb_icmp_eq (pc := 123) (tgt := 144) dX12_qPartTold_123 (by decide) (fun c2 => ?_) (fun c2 => ?_)
    · have ht2 := ht1.1 c2
      exact ht2
    · have ht2 := ht1.2 c2
      refine hb_aload_n (pc := 126) (i := 0) dX12_qPartTold_126 rfl rfl ?_
      refine hb_iload (pc := 127) dX12_qPartTold_127 rfl ?_
      refine hb_if_eq (pc := 129) (tgt := 137) dX12_qPartTold_129 (by decide) (fun c3 => ?_) (fun c3 => ?_)
      · have ht3 := ht2.1 c3
        refine hb_bipush (pc := 137) (v := 22) dX12_qPartTold_137 (by decide) ?_
        refine hb_iload (pc := 139) dX12_qPartTold_139 rfl ?_
        exact hb_callV (pc := 141) (As := [hb_i (22 : Int32), hb_i (-1 : Int32)]) (st := []) dX12_qPartTold_141 ml_X12_521 mf_X12_qOpens mi_X12_qOpens (ci := 12) rfl rfl (by decide) rfl rfl (Nat.le_of_ble_eq_true rfl) (Nat.le_of_ble_eq_true rfl) ht3 (fun _ _ q => q)
      · have ht3 := ht2.2 c3
        refine hb_bipush (pc := 132) (v := 21) dX12_qPartTold_132 (by decide) ?_
        refine hb_goto (pc := 134) (tgt := 139) dX12_qPartTold_134 (by decide) ?_
        refine hb_iload (pc := 139) dX12_qPartTold_139 rfl ?_
        exact hb_callV (pc := 141) (As := [hb_i (21 : Int32), hb_i (-1 : Int32)]) (st := []) dX12_qPartTold_141 ml_X12_521 mf_X12_qOpens mi_X12_qOpens (ci := 12) rfl rfl (by decide) rfl rfl (Nat.le_of_ble_eq_true rfl) (Nat.le_of_ble_eq_true rfl) ht3 (fun _ _ q => q)
  · have ht1 := h.2 c1
    refine hb_aload_n (pc := 110) (i := 0) dX12_qPartTold_110 rfl rfl ?_
    refine hb_getIx (pc := 111) (x := hb_fI w 12 2 0) dX12_qPartTold_111 fw_X12_201 cw_12 rfl (by decide) rfl rfl ?_
    refine hb_goto (pc := 114) (tgt := 118) dX12_qPartTold_114 (by decide) ?_
    refine hb_istore (pc := 118) (i := 5) (ls1 := [some (hb_r 12 0 0), some (hb_i x1), some (hb_i x2), some (hb_i x3), some (hb_i x4), some (hb_i (hb_fI w 12 2 0))]) dX12_qPartTold_118 (by decide) rfl ?_
    refine hb_iload (pc := 120) dX12_qPartTold_120 rfl ?_
    refine hb_iconst (pc := 122) (v := -1) dX12_qPartTold_122 (by decide) ?_
    refine hb_icmp_eq (pc := 123) (tgt := 144) dX12_qPartTold_123 (by decide) (fun c4 => ?_) (fun c4 => ?_)
    · have ht4 := ht1.1 c4
      exact ht4
    · have ht4 := ht1.2 c4
      refine hb_aload_n (pc := 126) (i := 0) dX12_qPartTold_126 rfl rfl ?_
      refine hb_iload (pc := 127) dX12_qPartTold_127 rfl ?_
      refine hb_if_eq (pc := 129) (tgt := 137) dX12_qPartTold_129 (by decide) (fun c5 => ?_) (fun c5 => ?_)
      · have ht5 := ht4.1 c5
        refine hb_bipush (pc := 137) (v := 22) dX12_qPartTold_137 (by decide) ?_
        refine hb_iload (pc := 139) dX12_qPartTold_139 rfl ?_
        exact hb_callV (pc := 141) (As := [hb_i (22 : Int32), hb_i (hb_fI w 12 2 0)]) (st := []) dX12_qPartTold_141 ml_X12_521 mf_X12_qOpens mi_X12_qOpens (ci := 12) rfl rfl (by decide) rfl rfl (Nat.le_of_ble_eq_true rfl) (Nat.le_of_ble_eq_true rfl) ht5 (fun _ _ q => q)
      · have ht5 := ht4.2 c5
        refine hb_bipush (pc := 132) (v := 21) dX12_qPartTold_132 (by decide) ?_
        refine hb_goto (pc := 134) (tgt := 139) dX12_qPartTold_134 (by decide) ?_
        refine hb_iload (pc := 139) dX12_qPartTold_139 rfl ?_
        exact hb_callV (pc := 141) (As := [hb_i (21 : Int32), hb_i (hb_fI w 12 2 0)]) (st := []) dX12_qPartTold_141 ml_X12_521 mf_X12_qOpens mi_X12_qOpens (ci := 12) rfl rfl (by decide) rfl rfl (Nat.le_of_ble_eq_true rfl) (Nat.le_of_ble_eq_true rfl) ht5 (fun _ _ q => q)
set_option maxRecDepth 20000 in
theorem bk_X12_qPartTold_144 {d : Nat} {w : hb_W} {Q : Option hb_V → hb_W → Prop} {x1 : Int32} {x2 : Int32} {x3 : Int32} {x4 : Int32} {x5 : Int32} (h : hb_O yX12_asksSign cX12_asksSign 2 none d [hb_r 12 0 0, hb_i (40 : Int32)] w (fun rv w1 => hb_R yX12_qPartTold cX12_qPartTold 6 none (d + 1) 150 [some (hb_r 12 0 0), some (hb_i x1), some (hb_i x2), some (hb_i x3), some (hb_i x4), some (hb_i x5)] (rv.toList ++ []) w1 Q)) : hb_R yX12_qPartTold cX12_qPartTold 6 none (d + 1) 144 [some (hb_r 12 0 0), some (hb_i x1), some (hb_i x2), some (hb_i x3), some (hb_i x4), some (hb_i x5)] [] w Q := by
  refine hb_aload_n (pc := 144) (i := 0) dX12_qPartTold_144 rfl rfl ?_
  refine hb_bipush (pc := 145) (v := 40) dX12_qPartTold_145 (by decide) ?_
  exact hb_callV (pc := 147) (As := [hb_i (40 : Int32)]) (st := []) dX12_qPartTold_147 ml_X12_253 mf_X12_asksSign mi_X12_asksSign (ci := 12) rfl rfl (by decide) rfl rfl (Nat.le_of_ble_eq_true rfl) (Nat.le_of_ble_eq_true rfl) h (fun _ _ q => q)
set_option maxRecDepth 20000 in
theorem bk_X12_qPartTold_150 {d : Nat} {w : hb_W} {Q : Option hb_V → hb_W → Prop} {x1 : Int32} {x2 : Int32} {x3 : Int32} {x4 : Int32} {x5 : Int32} (h : hb_R yX12_qPartTold cX12_qPartTold 6 none (d + 1) 2 [some (hb_r 12 0 0), some (hb_i x1), some (hb_i x2), some (hb_i x3), some (hb_i x4), some (hb_i x5)] [] w Q) : hb_R yX12_qPartTold cX12_qPartTold 6 none (d + 1) 150 [some (hb_r 12 0 0), some (hb_i x1), some (hb_i x2), some (hb_i x3), some (hb_i x4), some (hb_i x5)] [] w Q := by
  refine hb_goto (pc := 150) (tgt := 183) dX12_qPartTold_150 (by decide) ?_
  refine hb_goto (pc := 183) (tgt := 2) dX12_qPartTold_183 (by decide) ?_
  exact h
set_option maxRecDepth 20000 in
theorem bk_X12_qPartTold_173 {d : Nat} {w : hb_W} {Q : Option hb_V → hb_W → Prop} {x1 : Int32} {x2 : Int32} {x3 : Int32} (h : hb_O yX12_qAsksWord cX12_qAsksWord 2 none d [hb_r 12 0 0, hb_i x3] w (fun rv w1 => hb_R yX12_qPartTold cX12_qPartTold 6 none (d + 1) 178 [some (hb_r 12 0 0), some (hb_i x1), some (hb_i x2), some (hb_i x3), none, none] (rv.toList ++ []) w1 Q)) : hb_R yX12_qPartTold cX12_qPartTold 6 none (d + 1) 173 [some (hb_r 12 0 0), some (hb_i x1), some (hb_i x2), some (hb_i x3), none, none] [] w Q := by
  refine hb_aload_n (pc := 173) (i := 0) dX12_qPartTold_173 rfl rfl ?_
  refine hb_iload_n (pc := 174) (i := 3) dX12_qPartTold_174 rfl rfl ?_
  exact hb_callV (pc := 175) (As := [hb_i x3]) (st := []) dX12_qPartTold_175 ml_X12_524 mf_X12_qAsksWord mi_X12_qAsksWord (ci := 12) rfl rfl (by decide) rfl rfl (Nat.le_of_ble_eq_true rfl) (Nat.le_of_ble_eq_true rfl) h (fun _ _ q => q)
set_option maxRecDepth 20000 in
theorem bk_X12_qPartTold_178 {d : Nat} {w : hb_W} {Q : Option hb_V → hb_W → Prop} {x1 : Int32} {x2 : Int32} {x3 : Int32} (h : hb_R yX12_qPartTold cX12_qPartTold 6 none (d + 1) 2 [some (hb_r 12 0 0), some (hb_i x1), some (hb_i x2), some (hb_i x3), none, none] [] w Q) : hb_R yX12_qPartTold cX12_qPartTold 6 none (d + 1) 178 [some (hb_r 12 0 0), some (hb_i x1), some (hb_i x2), some (hb_i x3), none, none] [] w Q := by
  refine hb_goto (pc := 178) (tgt := 183) dX12_qPartTold_178 (by decide) ?_
  refine hb_goto (pc := 183) (tgt := 2) dX12_qPartTold_183 (by decide) ?_
  exact h
set_option maxRecDepth 20000 in
theorem bk_X12_qPartTold_201 {d : Nat} {w : hb_W} {Q : Option hb_V → hb_W → Prop} {x1 : Int32} {xs0 : Int32} (h : ((xs0 = (-1 : Int32)) → hb_R yX12_qPartTold cX12_qPartTold 6 none (d + 1) 212 [some (hb_r 12 0 0), some (hb_i x1), some (hb_i xs0), none, none, none] [] w Q) ∧ ((¬ xs0 = (-1 : Int32)) → hb_O yX12_qAsksWord cX12_qAsksWord 2 none d [hb_r 12 0 0, hb_i xs0] w (fun rv w1 => hb_R yX12_qPartTold cX12_qPartTold 6 none (d + 1) 212 [some (hb_r 12 0 0), some (hb_i x1), some (hb_i xs0), none, none, none] (rv.toList ++ []) w1 Q))) : hb_R yX12_qPartTold cX12_qPartTold 6 none (d + 1) 201 [some (hb_r 12 0 0), some (hb_i x1), none, none, none, none] [hb_i xs0] w Q := by
  refine hb_istore_n (pc := 201) (i := 2) (ls1 := [some (hb_r 12 0 0), some (hb_i x1), some (hb_i xs0), none, none, none]) dX12_qPartTold_201 rfl (by decide) rfl ?_
  refine hb_iload_n (pc := 202) (i := 2) dX12_qPartTold_202 rfl rfl ?_
  refine hb_iconst (pc := 203) (v := -1) dX12_qPartTold_203 (by decide) ?_
  refine hb_icmp_eq (pc := 204) (tgt := 212) dX12_qPartTold_204 (by decide) (fun c1 => ?_) (fun c1 => ?_)
  · have ht1 := h.1 c1
    exact ht1
  · have ht1 := h.2 c1
    refine hb_aload_n (pc := 207) (i := 0) dX12_qPartTold_207 rfl rfl ?_
    refine hb_iload_n (pc := 208) (i := 2) dX12_qPartTold_208 rfl rfl ?_
    exact hb_callV (pc := 209) (As := [hb_i xs0]) (st := []) dX12_qPartTold_209 ml_X12_524 mf_X12_qAsksWord mi_X12_qAsksWord (ci := 12) rfl rfl (by decide) rfl rfl (Nat.le_of_ble_eq_true rfl) (Nat.le_of_ble_eq_true rfl) ht1 (fun _ _ q => q)
set_option maxRecDepth 20000 in
theorem bk_X12_qPartTold_212 {d : Nat} {w : hb_W} {Q : Option hb_V → hb_W → Prop} {x1 : Int32} {x2 : Int32} (h : ((x2 = (-1 : Int32)) → hb_O yX12_number cX12_number 5 (some .int) d [hb_r 12 0 0, hb_i (0 : Int32), hb_i (9999 : Int32)] w (fun rv w1 => hb_R yX12_qPartTold cX12_qPartTold 6 none (d + 1) 236 [some (hb_r 12 0 0), some (hb_i x1), some (hb_i x2), none, none, none] (rv.toList ++ [hb_i (1000 : Int32), hb_r 12 0 0]) w1 Q)) ∧ ((¬ x2 = (-1 : Int32)) → hb_O yX12_qCode cX12_qCode 2 none d [hb_r 12 0 0, hb_i ((40 : Int32) + x2)] w (fun rv w1 => hb_R yX12_qPartTold cX12_qPartTold 6 none (d + 1) 240 [some (hb_r 12 0 0), some (hb_i x1), some (hb_i x2), none, none, none] (rv.toList ++ []) w1 Q))) : hb_R yX12_qPartTold cX12_qPartTold 6 none (d + 1) 212 [some (hb_r 12 0 0), some (hb_i x1), some (hb_i x2), none, none, none] [] w Q := by
  refine hb_aload_n (pc := 212) (i := 0) dX12_qPartTold_212 rfl rfl ?_
  refine hb_iload_n (pc := 213) (i := 2) dX12_qPartTold_213 rfl rfl ?_
  refine hb_iconst (pc := 214) (v := -1) dX12_qPartTold_214 (by decide) ?_
  refine hb_icmp_eq (pc := 215) (tgt := 225) dX12_qPartTold_215 (by decide) (fun c1 => ?_) (fun c1 => ?_)
  · have ht1 := h.1 c1
    refine hb_sipush (pc := 225) (v := 1000) dX12_qPartTold_225 (by decide) ?_
    refine hb_aload_n (pc := 228) (i := 0) dX12_qPartTold_228 rfl rfl ?_
    refine hb_iconst (pc := 229) (v := 0) dX12_qPartTold_229 (by decide) ?_
    refine hb_sipush (pc := 230) (v := 9999) dX12_qPartTold_230 (by decide) ?_
    exact hb_callV (pc := 233) (As := [hb_i (0 : Int32), hb_i (9999 : Int32)]) (st := [hb_i (1000 : Int32), hb_r 12 0 0]) dX12_qPartTold_233 ml_X12_249 mf_X12_number mi_X12_number (ci := 12) rfl rfl (by decide) rfl rfl (Nat.le_of_ble_eq_true rfl) (Nat.le_of_ble_eq_true rfl) ht1 (fun _ _ q => q)
  · have ht1 := h.2 c1
    refine hb_bipush (pc := 218) (v := 40) dX12_qPartTold_218 (by decide) ?_
    refine hb_iload_n (pc := 220) (i := 2) dX12_qPartTold_220 rfl rfl ?_
    refine hb_iadd (pc := 221) dX12_qPartTold_221 ?_
    refine hb_goto (pc := 222) (tgt := 237) dX12_qPartTold_222 (by decide) ?_
    exact hb_callV (pc := 237) (As := [hb_i ((40 : Int32) + x2)]) (st := []) dX12_qPartTold_237 ml_X12_503 mf_X12_qCode mi_X12_qCode (ci := 12) rfl rfl (by decide) rfl rfl (Nat.le_of_ble_eq_true rfl) (Nat.le_of_ble_eq_true rfl) ht1 (fun _ _ q => q)
set_option maxRecDepth 20000 in
theorem bk_X12_qPartTold_236 {d : Nat} {w : hb_W} {Q : Option hb_V → hb_W → Prop} {x1 : Int32} {x2 : Int32} {xs1 : Int32} {xs2 : Int32} (h : hb_O yX12_qCode cX12_qCode 2 none d [hb_r 12 0 0, hb_i (xs1 + xs2)] w (fun rv w1 => hb_R yX12_qPartTold cX12_qPartTold 6 none (d + 1) 240 [some (hb_r 12 0 0), some (hb_i x1), some (hb_i x2), none, none, none] (rv.toList ++ []) w1 Q)) : hb_R yX12_qPartTold cX12_qPartTold 6 none (d + 1) 236 [some (hb_r 12 0 0), some (hb_i x1), some (hb_i x2), none, none, none] [hb_i xs2, hb_i xs1, hb_r 12 0 0] w Q := by
  refine hb_iadd (pc := 236) dX12_qPartTold_236 ?_
  exact hb_callV (pc := 237) (As := [hb_i (xs1 + xs2)]) (st := []) dX12_qPartTold_237 ml_X12_503 mf_X12_qCode mi_X12_qCode (ci := 12) rfl rfl (by decide) rfl rfl (Nat.le_of_ble_eq_true rfl) (Nat.le_of_ble_eq_true rfl) h (fun _ _ q => q)
set_option maxRecDepth 20000 in
theorem bk_X12_qPartTold_240 {d : Nat} {w : hb_W} {Q : Option hb_V → hb_W → Prop} {x1 : Int32} {x2 : Int32} (h : hb_O yX12_qEndsPart cX12_qEndsPart 1 none d [hb_r 12 0 0] w (fun rv w1 => hb_R yX12_qPartTold cX12_qPartTold 6 none (d + 1) 244 [some (hb_r 12 0 0), some (hb_i x1), some (hb_i x2), none, none, none] (rv.toList ++ []) w1 Q)) : hb_R yX12_qPartTold cX12_qPartTold 6 none (d + 1) 240 [some (hb_r 12 0 0), some (hb_i x1), some (hb_i x2), none, none, none] [] w Q := by
  refine hb_aload_n (pc := 240) (i := 0) dX12_qPartTold_240 rfl rfl ?_
  exact hb_callV (pc := 241) (As := []) (st := []) dX12_qPartTold_241 ml_X12_527 mf_X12_qEndsPart mi_X12_qEndsPart (ci := 12) rfl rfl (by decide) rfl rfl (Nat.le_of_ble_eq_true rfl) (Nat.le_of_ble_eq_true rfl) h (fun _ _ q => q)
set_option maxRecDepth 20000 in
theorem bk_X12_qPartTold_244 {d : Nat} {w : hb_W} {Q : Option hb_V → hb_W → Prop} {x1 : Int32} {x2 : Int32} (h : Q none w) : hb_R yX12_qPartTold cX12_qPartTold 6 none (d + 1) 244 [some (hb_r 12 0 0), some (hb_i x1), some (hb_i x2), none, none, none] [] w Q := by
  exact hb_vret (pc := 244) dX12_qPartTold_244 rfl h
theorem dX12_qGoesOn_0 : decode cX12_qGoesOn 0 = .ok (.aload_n 0, 1) := by decide +kernel
theorem dX12_qGoesOn_1 : decode cX12_qGoesOn 1 = .ok (.getfield 195, 3) := by decide +kernel
theorem dX12_qGoesOn_4 : decode cX12_qGoesOn 4 = .ok (.ifCond .ne 118, 3) := by decide +kernel
theorem dX12_qGoesOn_7 : decode cX12_qGoesOn 7 = .ok (.aload_n 0, 1) := by decide +kernel
theorem dX12_qGoesOn_8 : decode cX12_qGoesOn 8 = .ok (.invokevirtual 207, 3) := by decide +kernel
theorem dX12_qGoesOn_11 : decode cX12_qGoesOn 11 = .ok (.bipush 41, 2) := by decide +kernel
theorem dX12_qGoesOn_13 : decode cX12_qGoesOn 13 = .ok (.if_icmp .ne 109, 3) := by decide +kernel
theorem dX12_qGoesOn_16 : decode cX12_qGoesOn 16 = .ok (.aload_n 0, 1) := by decide +kernel
theorem dX12_qGoesOn_17 : decode cX12_qGoesOn 17 = .ok (.invokevirtual 530, 3) := by decide +kernel
theorem dX12_qGoesOn_20 : decode cX12_qGoesOn 20 = .ok (.bipush 20, 2) := by decide +kernel
theorem dX12_qGoesOn_22 : decode cX12_qGoesOn 22 = .ok (.if_icmp .eq 21, 3) := by decide +kernel
theorem dX12_qGoesOn_25 : decode cX12_qGoesOn 25 = .ok (.aload_n 0, 1) := by decide +kernel
theorem dX12_qGoesOn_26 : decode cX12_qGoesOn 26 = .ok (.invokevirtual 530, 3) := by decide +kernel
theorem dX12_qGoesOn_29 : decode cX12_qGoesOn 29 = .ok (.bipush 23, 2) := by decide +kernel
theorem dX12_qGoesOn_31 : decode cX12_qGoesOn 31 = .ok (.if_icmp .eq 12, 3) := by decide +kernel
theorem dX12_qGoesOn_34 : decode cX12_qGoesOn 34 = .ok (.aload_n 0, 1) := by decide +kernel
theorem dX12_qGoesOn_35 : decode cX12_qGoesOn 35 = .ok (.invokevirtual 530, 3) := by decide +kernel
theorem dX12_qGoesOn_38 : decode cX12_qGoesOn 38 = .ok (.bipush 24, 2) := by decide +kernel
theorem dX12_qGoesOn_40 : decode cX12_qGoesOn 40 = .ok (.if_icmp .ne 82, 3) := by decide +kernel
theorem dX12_qGoesOn_43 : decode cX12_qGoesOn 43 = .ok (.aload_n 0, 1) := by decide +kernel
theorem dX12_qGoesOn_44 : decode cX12_qGoesOn 44 = .ok (.dup, 1) := by decide +kernel
theorem dX12_qGoesOn_45 : decode cX12_qGoesOn 45 = .ok (.getfield 201, 3) := by decide +kernel
theorem dX12_qGoesOn_48 : decode cX12_qGoesOn 48 = .ok (.iconst 1, 1) := by decide +kernel
theorem dX12_qGoesOn_49 : decode cX12_qGoesOn 49 = .ok (.iadd, 1) := by decide +kernel
theorem dX12_qGoesOn_50 : decode cX12_qGoesOn 50 = .ok (.putfield 201, 3) := by decide +kernel
theorem dX12_qGoesOn_53 : decode cX12_qGoesOn 53 = .ok (.aload_n 0, 1) := by decide +kernel
theorem dX12_qGoesOn_54 : decode cX12_qGoesOn 54 = .ok (.invokevirtual 533, 3) := by decide +kernel
theorem dX12_qGoesOn_57 : decode cX12_qGoesOn 57 = .ok (.aload_n 0, 1) := by decide +kernel
theorem dX12_qGoesOn_58 : decode cX12_qGoesOn 58 = .ok (.dup, 1) := by decide +kernel
theorem dX12_qGoesOn_59 : decode cX12_qGoesOn 59 = .ok (.getfield 260, 3) := by decide +kernel
theorem dX12_qGoesOn_62 : decode cX12_qGoesOn 62 = .ok (.iconst 1, 1) := by decide +kernel
theorem dX12_qGoesOn_63 : decode cX12_qGoesOn 63 = .ok (.isub, 1) := by decide +kernel
theorem dX12_qGoesOn_64 : decode cX12_qGoesOn 64 = .ok (.putfield 260, 3) := by decide +kernel
theorem dX12_qGoesOn_67 : decode cX12_qGoesOn 67 = .ok (.aload_n 0, 1) := by decide +kernel
theorem dX12_qGoesOn_68 : decode cX12_qGoesOn 68 = .ok (.dup, 1) := by decide +kernel
theorem dX12_qGoesOn_69 : decode cX12_qGoesOn 69 = .ok (.getfield 263, 3) := by decide +kernel
theorem dX12_qGoesOn_72 : decode cX12_qGoesOn 72 = .ok (.iconst 1, 1) := by decide +kernel
theorem dX12_qGoesOn_73 : decode cX12_qGoesOn 73 = .ok (.isub, 1) := by decide +kernel
theorem dX12_qGoesOn_74 : decode cX12_qGoesOn 74 = .ok (.putfield 263, 3) := by decide +kernel
theorem dX12_qGoesOn_77 : decode cX12_qGoesOn 77 = .ok (.aload_n 0, 1) := by decide +kernel
theorem dX12_qGoesOn_78 : decode cX12_qGoesOn 78 = .ok (.getfield 182, 3) := by decide +kernel
theorem dX12_qGoesOn_81 : decode cX12_qGoesOn 81 = .ok (.aload_n 0, 1) := by decide +kernel
theorem dX12_qGoesOn_82 : decode cX12_qGoesOn 82 = .ok (.getfield 260, 3) := by decide +kernel
theorem dX12_qGoesOn_85 : decode cX12_qGoesOn 85 = .ok (.iaload, 1) := by decide +kernel
theorem dX12_qGoesOn_86 : decode cX12_qGoesOn 86 = .ok (.bipush 20, 2) := by decide +kernel
theorem dX12_qGoesOn_88 : decode cX12_qGoesOn 88 = .ok (.if_icmp .eq 27, 3) := by decide +kernel
theorem dX12_qGoesOn_91 : decode cX12_qGoesOn 91 = .ok (.aload_n 0, 1) := by decide +kernel
theorem dX12_qGoesOn_92 : decode cX12_qGoesOn 92 = .ok (.aload_n 0, 1) := by decide +kernel
theorem dX12_qGoesOn_93 : decode cX12_qGoesOn 93 = .ok (.getfield 182, 3) := by decide +kernel
theorem dX12_qGoesOn_96 : decode cX12_qGoesOn 96 = .ok (.aload_n 0, 1) := by decide +kernel
theorem dX12_qGoesOn_97 : decode cX12_qGoesOn 97 = .ok (.getfield 260, 3) := by decide +kernel
theorem dX12_qGoesOn_100 : decode cX12_qGoesOn 100 = .ok (.iaload, 1) := by decide +kernel
theorem dX12_qGoesOn_101 : decode cX12_qGoesOn 101 = .ok (.bipush 23, 2) := by decide +kernel
theorem dX12_qGoesOn_103 : decode cX12_qGoesOn 103 = .ok (.if_icmp .ne 7, 3) := by decide +kernel
theorem dX12_qGoesOn_106 : decode cX12_qGoesOn 106 = .ok (.iconst 5, 1) := by decide +kernel
theorem dX12_qGoesOn_107 : decode cX12_qGoesOn 107 = .ok (.goto 5, 3) := by decide +kernel
theorem dX12_qGoesOn_110 : decode cX12_qGoesOn 110 = .ok (.bipush 6, 2) := by decide +kernel
theorem dX12_qGoesOn_112 : decode cX12_qGoesOn 112 = .ok (.invokevirtual 503, 3) := by decide +kernel
theorem dX12_qGoesOn_115 : decode cX12_qGoesOn 115 = .ok (.aload_n 0, 1) := by decide +kernel
theorem dX12_qGoesOn_116 : decode cX12_qGoesOn 116 = .ok (.invokevirtual 527, 3) := by decide +kernel
theorem dX12_qGoesOn_119 : decode cX12_qGoesOn 119 = .ok (.goto (-119), 3) := by decide +kernel
theorem dX12_qGoesOn_122 : decode cX12_qGoesOn 122 = .ok (.aload_n 0, 1) := by decide +kernel
theorem dX12_qGoesOn_123 : decode cX12_qGoesOn 123 = .ok (.bipush 42, 2) := by decide +kernel
theorem dX12_qGoesOn_125 : decode cX12_qGoesOn 125 = .ok (.invokevirtual 229, 3) := by decide +kernel
theorem dX12_qGoesOn_128 : decode cX12_qGoesOn 128 = .ok (.ifCond .ne 12, 3) := by decide +kernel
theorem dX12_qGoesOn_131 : decode cX12_qGoesOn 131 = .ok (.aload_n 0, 1) := by decide +kernel
theorem dX12_qGoesOn_132 : decode cX12_qGoesOn 132 = .ok (.bipush 47, 2) := by decide +kernel
theorem dX12_qGoesOn_134 : decode cX12_qGoesOn 134 = .ok (.invokevirtual 229, 3) := by decide +kernel
theorem dX12_qGoesOn_137 : decode cX12_qGoesOn 137 = .ok (.ifCond .eq 70, 3) := by decide +kernel
theorem dX12_qGoesOn_140 : decode cX12_qGoesOn 140 = .ok (.aload_n 0, 1) := by decide +kernel
theorem dX12_qGoesOn_141 : decode cX12_qGoesOn 141 = .ok (.getfield 7, 3) := by decide +kernel
theorem dX12_qGoesOn_144 : decode cX12_qGoesOn 144 = .ok (.aload_n 0, 1) := by decide +kernel
theorem dX12_qGoesOn_145 : decode cX12_qGoesOn 145 = .ok (.getfield 201, 3) := by decide +kernel
theorem dX12_qGoesOn_148 : decode cX12_qGoesOn 148 = .ok (.iconst 1, 1) := by decide +kernel
theorem dX12_qGoesOn_149 : decode cX12_qGoesOn 149 = .ok (.isub, 1) := by decide +kernel
theorem dX12_qGoesOn_150 : decode cX12_qGoesOn 150 = .ok (.iaload, 1) := by decide +kernel
theorem dX12_qGoesOn_151 : decode cX12_qGoesOn 151 = .ok (.bipush 42, 2) := by decide +kernel
theorem dX12_qGoesOn_153 : decode cX12_qGoesOn 153 = .ok (.if_icmp .ne 7, 3) := by decide +kernel
theorem dX12_qGoesOn_156 : decode cX12_qGoesOn 156 = .ok (.iconst 3, 1) := by decide +kernel
theorem dX12_qGoesOn_157 : decode cX12_qGoesOn 157 = .ok (.goto 4, 3) := by decide +kernel
theorem dX12_qGoesOn_160 : decode cX12_qGoesOn 160 = .ok (.iconst 4, 1) := by decide +kernel
theorem dX12_qGoesOn_161 : decode cX12_qGoesOn 161 = .ok (.istore_n 1, 1) := by decide +kernel
theorem dX12_qGoesOn_162 : decode cX12_qGoesOn 162 = .ok (.aload_n 0, 1) := by decide +kernel
theorem dX12_qGoesOn_163 : decode cX12_qGoesOn 163 = .ok (.iconst 3, 1) := by decide +kernel
theorem dX12_qGoesOn_164 : decode cX12_qGoesOn 164 = .ok (.invokevirtual 536, 3) := by decide +kernel
theorem dX12_qGoesOn_167 : decode cX12_qGoesOn 167 = .ok (.ifCond .ne 11, 3) := by decide +kernel
theorem dX12_qGoesOn_170 : decode cX12_qGoesOn 170 = .ok (.aload_n 0, 1) := by decide +kernel
theorem dX12_qGoesOn_171 : decode cX12_qGoesOn 171 = .ok (.iconst 4, 1) := by decide +kernel
theorem dX12_qGoesOn_172 : decode cX12_qGoesOn 172 = .ok (.invokevirtual 536, 3) := by decide +kernel
theorem dX12_qGoesOn_175 : decode cX12_qGoesOn 175 = .ok (.ifCond .eq 10, 3) := by decide +kernel
theorem dX12_qGoesOn_178 : decode cX12_qGoesOn 178 = .ok (.aload_n 0, 1) := by decide +kernel
theorem dX12_qGoesOn_179 : decode cX12_qGoesOn 179 = .ok (.invokevirtual 509, 3) := by decide +kernel
theorem dX12_qGoesOn_182 : decode cX12_qGoesOn 182 = .ok (.goto (-20), 3) := by decide +kernel
theorem dX12_qGoesOn_185 : decode cX12_qGoesOn 185 = .ok (.aload_n 0, 1) := by decide +kernel
theorem dX12_qGoesOn_186 : decode cX12_qGoesOn 186 = .ok (.getfield 182, 3) := by decide +kernel
theorem dX12_qGoesOn_189 : decode cX12_qGoesOn 189 = .ok (.aload_n 0, 1) := by decide +kernel
theorem dX12_qGoesOn_190 : decode cX12_qGoesOn 190 = .ok (.getfield 260, 3) := by decide +kernel
theorem dX12_qGoesOn_193 : decode cX12_qGoesOn 193 = .ok (.iload_n 1, 1) := by decide +kernel
theorem dX12_qGoesOn_194 : decode cX12_qGoesOn 194 = .ok (.iastore, 1) := by decide +kernel
theorem dX12_qGoesOn_195 : decode cX12_qGoesOn 195 = .ok (.aload_n 0, 1) := by decide +kernel
theorem dX12_qGoesOn_196 : decode cX12_qGoesOn 196 = .ok (.dup, 1) := by decide +kernel
theorem dX12_qGoesOn_197 : decode cX12_qGoesOn 197 = .ok (.getfield 260, 3) := by decide +kernel
theorem dX12_qGoesOn_200 : decode cX12_qGoesOn 200 = .ok (.iconst 1, 1) := by decide +kernel
theorem dX12_qGoesOn_201 : decode cX12_qGoesOn 201 = .ok (.iadd, 1) := by decide +kernel
theorem dX12_qGoesOn_202 : decode cX12_qGoesOn 202 = .ok (.putfield 260, 3) := by decide +kernel
theorem dX12_qGoesOn_205 : decode cX12_qGoesOn 205 = .ok (.iconst 1, 1) := by decide +kernel
theorem dX12_qGoesOn_206 : decode cX12_qGoesOn 206 = .ok (.ireturn, 1) := by decide +kernel
theorem dX12_qGoesOn_207 : decode cX12_qGoesOn 207 = .ok (.aload_n 0, 1) := by decide +kernel
theorem dX12_qGoesOn_208 : decode cX12_qGoesOn 208 = .ok (.bipush 43, 2) := by decide +kernel
theorem dX12_qGoesOn_210 : decode cX12_qGoesOn 210 = .ok (.invokevirtual 229, 3) := by decide +kernel
theorem dX12_qGoesOn_213 : decode cX12_qGoesOn 213 = .ok (.ifCond .ne 12, 3) := by decide +kernel
theorem dX12_qGoesOn_216 : decode cX12_qGoesOn 216 = .ok (.aload_n 0, 1) := by decide +kernel
theorem dX12_qGoesOn_217 : decode cX12_qGoesOn 217 = .ok (.bipush 45, 2) := by decide +kernel
theorem dX12_qGoesOn_219 : decode cX12_qGoesOn 219 = .ok (.invokevirtual 229, 3) := by decide +kernel
theorem dX12_qGoesOn_222 : decode cX12_qGoesOn 222 = .ok (.ifCond .eq 86, 3) := by decide +kernel
theorem dX12_qGoesOn_225 : decode cX12_qGoesOn 225 = .ok (.aload_n 0, 1) := by decide +kernel
theorem dX12_qGoesOn_226 : decode cX12_qGoesOn 226 = .ok (.getfield 7, 3) := by decide +kernel
theorem dX12_qGoesOn_229 : decode cX12_qGoesOn 229 = .ok (.aload_n 0, 1) := by decide +kernel
theorem dX12_qGoesOn_230 : decode cX12_qGoesOn 230 = .ok (.getfield 201, 3) := by decide +kernel
theorem dX12_qGoesOn_233 : decode cX12_qGoesOn 233 = .ok (.iconst 1, 1) := by decide +kernel
theorem dX12_qGoesOn_234 : decode cX12_qGoesOn 234 = .ok (.isub, 1) := by decide +kernel
theorem dX12_qGoesOn_235 : decode cX12_qGoesOn 235 = .ok (.iaload, 1) := by decide +kernel
theorem dX12_qGoesOn_236 : decode cX12_qGoesOn 236 = .ok (.bipush 43, 2) := by decide +kernel
theorem dX12_qGoesOn_238 : decode cX12_qGoesOn 238 = .ok (.if_icmp .ne 7, 3) := by decide +kernel
theorem dX12_qGoesOn_241 : decode cX12_qGoesOn 241 = .ok (.iconst 1, 1) := by decide +kernel
theorem dX12_qGoesOn_242 : decode cX12_qGoesOn 242 = .ok (.goto 4, 3) := by decide +kernel
theorem dX12_qGoesOn_245 : decode cX12_qGoesOn 245 = .ok (.iconst 2, 1) := by decide +kernel
theorem dX12_qGoesOn_246 : decode cX12_qGoesOn 246 = .ok (.istore_n 1, 1) := by decide +kernel
theorem dX12_qGoesOn_247 : decode cX12_qGoesOn 247 = .ok (.aload_n 0, 1) := by decide +kernel
theorem dX12_qGoesOn_248 : decode cX12_qGoesOn 248 = .ok (.iconst 3, 1) := by decide +kernel
theorem dX12_qGoesOn_249 : decode cX12_qGoesOn 249 = .ok (.invokevirtual 536, 3) := by decide +kernel
theorem dX12_qGoesOn_252 : decode cX12_qGoesOn 252 = .ok (.ifCond .ne 27, 3) := by decide +kernel
theorem dX12_qGoesOn_255 : decode cX12_qGoesOn 255 = .ok (.aload_n 0, 1) := by decide +kernel
theorem dX12_qGoesOn_256 : decode cX12_qGoesOn 256 = .ok (.iconst 4, 1) := by decide +kernel
theorem dX12_qGoesOn_257 : decode cX12_qGoesOn 257 = .ok (.invokevirtual 536, 3) := by decide +kernel
theorem dX12_qGoesOn_260 : decode cX12_qGoesOn 260 = .ok (.ifCond .ne 19, 3) := by decide +kernel
theorem dX12_qGoesOn_263 : decode cX12_qGoesOn 263 = .ok (.aload_n 0, 1) := by decide +kernel
theorem dX12_qGoesOn_264 : decode cX12_qGoesOn 264 = .ok (.iconst 1, 1) := by decide +kernel
theorem dX12_qGoesOn_265 : decode cX12_qGoesOn 265 = .ok (.invokevirtual 536, 3) := by decide +kernel
theorem dX12_qGoesOn_268 : decode cX12_qGoesOn 268 = .ok (.ifCond .ne 11, 3) := by decide +kernel
theorem dX12_qGoesOn_271 : decode cX12_qGoesOn 271 = .ok (.aload_n 0, 1) := by decide +kernel
theorem dX12_qGoesOn_272 : decode cX12_qGoesOn 272 = .ok (.iconst 2, 1) := by decide +kernel
theorem dX12_qGoesOn_273 : decode cX12_qGoesOn 273 = .ok (.invokevirtual 536, 3) := by decide +kernel
theorem dX12_qGoesOn_276 : decode cX12_qGoesOn 276 = .ok (.ifCond .eq 10, 3) := by decide +kernel
theorem dX12_qGoesOn_279 : decode cX12_qGoesOn 279 = .ok (.aload_n 0, 1) := by decide +kernel
theorem dX12_qGoesOn_280 : decode cX12_qGoesOn 280 = .ok (.invokevirtual 509, 3) := by decide +kernel
theorem dX12_qGoesOn_283 : decode cX12_qGoesOn 283 = .ok (.goto (-36), 3) := by decide +kernel
theorem dX12_qGoesOn_286 : decode cX12_qGoesOn 286 = .ok (.aload_n 0, 1) := by decide +kernel
theorem dX12_qGoesOn_287 : decode cX12_qGoesOn 287 = .ok (.getfield 182, 3) := by decide +kernel
theorem dX12_qGoesOn_290 : decode cX12_qGoesOn 290 = .ok (.aload_n 0, 1) := by decide +kernel
theorem dX12_qGoesOn_291 : decode cX12_qGoesOn 291 = .ok (.getfield 260, 3) := by decide +kernel
theorem dX12_qGoesOn_294 : decode cX12_qGoesOn 294 = .ok (.iload_n 1, 1) := by decide +kernel
theorem dX12_qGoesOn_295 : decode cX12_qGoesOn 295 = .ok (.iastore, 1) := by decide +kernel
theorem dX12_qGoesOn_296 : decode cX12_qGoesOn 296 = .ok (.aload_n 0, 1) := by decide +kernel
theorem dX12_qGoesOn_297 : decode cX12_qGoesOn 297 = .ok (.dup, 1) := by decide +kernel
theorem dX12_qGoesOn_298 : decode cX12_qGoesOn 298 = .ok (.getfield 260, 3) := by decide +kernel
theorem dX12_qGoesOn_301 : decode cX12_qGoesOn 301 = .ok (.iconst 1, 1) := by decide +kernel
theorem dX12_qGoesOn_302 : decode cX12_qGoesOn 302 = .ok (.iadd, 1) := by decide +kernel
theorem dX12_qGoesOn_303 : decode cX12_qGoesOn 303 = .ok (.putfield 260, 3) := by decide +kernel
theorem dX12_qGoesOn_306 : decode cX12_qGoesOn 306 = .ok (.iconst 1, 1) := by decide +kernel
theorem dX12_qGoesOn_307 : decode cX12_qGoesOn 307 = .ok (.ireturn, 1) := by decide +kernel
theorem dX12_qGoesOn_308 : decode cX12_qGoesOn 308 = .ok (.aload_n 0, 1) := by decide +kernel
theorem dX12_qGoesOn_309 : decode cX12_qGoesOn 309 = .ok (.invokevirtual 530, 3) := by decide +kernel
theorem dX12_qGoesOn_312 : decode cX12_qGoesOn 312 = .ok (.bipush 21, 2) := by decide +kernel
theorem dX12_qGoesOn_314 : decode cX12_qGoesOn 314 = .ok (.if_icmp .eq 12, 3) := by decide +kernel
theorem dX12_qGoesOn_317 : decode cX12_qGoesOn 317 = .ok (.aload_n 0, 1) := by decide +kernel
theorem dX12_qGoesOn_318 : decode cX12_qGoesOn 318 = .ok (.invokevirtual 530, 3) := by decide +kernel
theorem dX12_qGoesOn_321 : decode cX12_qGoesOn 321 = .ok (.bipush 22, 2) := by decide +kernel
theorem dX12_qGoesOn_323 : decode cX12_qGoesOn 323 = .ok (.if_icmp .ne 39, 3) := by decide +kernel
theorem dX12_qGoesOn_326 : decode cX12_qGoesOn 326 = .ok (.aload_n 0, 1) := by decide +kernel
theorem dX12_qGoesOn_327 : decode cX12_qGoesOn 327 = .ok (.bipush 44, 2) := by decide +kernel
theorem dX12_qGoesOn_329 : decode cX12_qGoesOn 329 = .ok (.invokevirtual 253, 3) := by decide +kernel
theorem dX12_qGoesOn_332 : decode cX12_qGoesOn 332 = .ok (.aload_n 0, 1) := by decide +kernel
theorem dX12_qGoesOn_333 : decode cX12_qGoesOn 333 = .ok (.getfield 195, 3) := by decide +kernel
theorem dX12_qGoesOn_336 : decode cX12_qGoesOn 336 = .ok (.ifCond .eq 5, 3) := by decide +kernel
theorem dX12_qGoesOn_339 : decode cX12_qGoesOn 339 = .ok (.iconst 0, 1) := by decide +kernel
theorem dX12_qGoesOn_340 : decode cX12_qGoesOn 340 = .ok (.ireturn, 1) := by decide +kernel
theorem dX12_qGoesOn_341 : decode cX12_qGoesOn 341 = .ok (.aload_n 0, 1) := by decide +kernel
theorem dX12_qGoesOn_342 : decode cX12_qGoesOn 342 = .ok (.invokevirtual 533, 3) := by decide +kernel
theorem dX12_qGoesOn_345 : decode cX12_qGoesOn 345 = .ok (.aload_n 0, 1) := by decide +kernel
theorem dX12_qGoesOn_346 : decode cX12_qGoesOn 346 = .ok (.getfield 182, 3) := by decide +kernel
theorem dX12_qGoesOn_349 : decode cX12_qGoesOn 349 = .ok (.aload_n 0, 1) := by decide +kernel
theorem dX12_qGoesOn_350 : decode cX12_qGoesOn 350 = .ok (.getfield 260, 3) := by decide +kernel
theorem dX12_qGoesOn_353 : decode cX12_qGoesOn 353 = .ok (.iconst 1, 1) := by decide +kernel
theorem dX12_qGoesOn_354 : decode cX12_qGoesOn 354 = .ok (.isub, 1) := by decide +kernel
theorem dX12_qGoesOn_355 : decode cX12_qGoesOn 355 = .ok (.dup2, 1) := by decide +kernel
theorem dX12_qGoesOn_356 : decode cX12_qGoesOn 356 = .ok (.iaload, 1) := by decide +kernel
theorem dX12_qGoesOn_357 : decode cX12_qGoesOn 357 = .ok (.iconst 2, 1) := by decide +kernel
theorem dX12_qGoesOn_358 : decode cX12_qGoesOn 358 = .ok (.iadd, 1) := by decide +kernel
theorem dX12_qGoesOn_359 : decode cX12_qGoesOn 359 = .ok (.iastore, 1) := by decide +kernel
theorem dX12_qGoesOn_360 : decode cX12_qGoesOn 360 = .ok (.iconst 1, 1) := by decide +kernel
theorem dX12_qGoesOn_361 : decode cX12_qGoesOn 361 = .ok (.ireturn, 1) := by decide +kernel
theorem dX12_qGoesOn_362 : decode cX12_qGoesOn 362 = .ok (.aload_n 0, 1) := by decide +kernel
theorem dX12_qGoesOn_363 : decode cX12_qGoesOn 363 = .ok (.invokevirtual 530, 3) := by decide +kernel
theorem dX12_qGoesOn_366 : decode cX12_qGoesOn 366 = .ok (.iconst (-1), 1) := by decide +kernel
theorem dX12_qGoesOn_367 : decode cX12_qGoesOn 367 = .ok (.if_icmp .eq 19, 3) := by decide +kernel
theorem dX12_qGoesOn_370 : decode cX12_qGoesOn 370 = .ok (.aload_n 0, 1) := by decide +kernel
theorem dX12_qGoesOn_371 : decode cX12_qGoesOn 371 = .ok (.getfield 195, 3) := by decide +kernel
theorem dX12_qGoesOn_374 : decode cX12_qGoesOn 374 = .ok (.ifCond .ne 12, 3) := by decide +kernel
theorem dX12_qGoesOn_377 : decode cX12_qGoesOn 377 = .ok (.aload_n 0, 1) := by decide +kernel
theorem dX12_qGoesOn_378 : decode cX12_qGoesOn 378 = .ok (.iconst 1, 1) := by decide +kernel
theorem dX12_qGoesOn_379 : decode cX12_qGoesOn 379 = .ok (.aload_n 0, 1) := by decide +kernel
theorem dX12_qGoesOn_380 : decode cX12_qGoesOn 380 = .ok (.getfield 201, 3) := by decide +kernel
theorem dX12_qGoesOn_383 : decode cX12_qGoesOn 383 = .ok (.invokevirtual 225, 3) := by decide +kernel
theorem dX12_qGoesOn_386 : decode cX12_qGoesOn 386 = .ok (.iconst 0, 1) := by decide +kernel
theorem dX12_qGoesOn_387 : decode cX12_qGoesOn 387 = .ok (.ireturn, 1) := by decide +kernel
set_option maxRecDepth 20000 in
theorem bk_X12_qGoesOn_0 {d : Nat} {w : hb_W} {Q : Option hb_V → hb_W → Prop} (h : ((¬ (hb_fI w 12 5 0) = 0) → hb_O yX12_takesSign cX12_takesSign 2 (some .boolean) d [hb_r 12 0 0, hb_i (42 : Int32)] w (fun rv w1 => hb_R yX12_qGoesOn cX12_qGoesOn 2 (some .boolean) (d + 1) 128 [some (hb_r 12 0 0), none] (rv.toList ++ []) w1 Q)) ∧ (((hb_fI w 12 5 0) = 0) → hb_O yX12_look cX12_look 1 (some .int) d [hb_r 12 0 0] w (fun rv w1 => hb_R yX12_qGoesOn cX12_qGoesOn 2 (some .boolean) (d + 1) 11 [some (hb_r 12 0 0), none] (rv.toList ++ []) w1 Q))) : hb_R yX12_qGoesOn cX12_qGoesOn 2 (some .boolean) (d + 1) 0 [some (hb_r 12 0 0), none] [] w Q := by
  refine hb_aload_n (pc := 0) (i := 0) dX12_qGoesOn_0 rfl rfl ?_
  refine hb_getIx (pc := 1) (x := hb_fI w 12 5 0) dX12_qGoesOn_1 fw_X12_195 cw_12 rfl (by decide) rfl rfl ?_
  refine hb_if_ne (pc := 4) (tgt := 122) dX12_qGoesOn_4 (by decide) (fun c1 => ?_) (fun c1 => ?_)
  · have ht1 := h.1 c1
    refine hb_aload_n (pc := 122) (i := 0) dX12_qGoesOn_122 rfl rfl ?_
    refine hb_bipush (pc := 123) (v := 42) dX12_qGoesOn_123 (by decide) ?_
    exact hb_callV (pc := 125) (As := [hb_i (42 : Int32)]) (st := []) dX12_qGoesOn_125 ml_X12_229 mf_X12_takesSign mi_X12_takesSign (ci := 12) rfl rfl (by decide) rfl rfl (Nat.le_of_ble_eq_true rfl) (Nat.le_of_ble_eq_true rfl) ht1 (fun _ _ q => q)
  · have ht1 := h.2 c1
    refine hb_aload_n (pc := 7) (i := 0) dX12_qGoesOn_7 rfl rfl ?_
    exact hb_callV (pc := 8) (As := []) (st := []) dX12_qGoesOn_8 ml_X12_207 mf_X12_look mi_X12_look (ci := 12) rfl rfl (by decide) rfl rfl (Nat.le_of_ble_eq_true rfl) (Nat.le_of_ble_eq_true rfl) ht1 (fun _ _ q => q)
set_option maxRecDepth 20000 in
theorem bk_X12_qGoesOn_11 {d : Nat} {w : hb_W} {Q : Option hb_V → hb_W → Prop} {xs0 : Int32} (h : ((¬ xs0 = (41 : Int32)) → hb_O yX12_takesSign cX12_takesSign 2 (some .boolean) d [hb_r 12 0 0, hb_i (42 : Int32)] w (fun rv w1 => hb_R yX12_qGoesOn cX12_qGoesOn 2 (some .boolean) (d + 1) 128 [some (hb_r 12 0 0), none] (rv.toList ++ []) w1 Q)) ∧ ((xs0 = (41 : Int32)) → hb_O yX12_qBracket cX12_qBracket 2 (some .int) d [hb_r 12 0 0] w (fun rv w1 => hb_R yX12_qGoesOn cX12_qGoesOn 2 (some .boolean) (d + 1) 20 [some (hb_r 12 0 0), none] (rv.toList ++ []) w1 Q))) : hb_R yX12_qGoesOn cX12_qGoesOn 2 (some .boolean) (d + 1) 11 [some (hb_r 12 0 0), none] [hb_i xs0] w Q := by
  refine hb_bipush (pc := 11) (v := 41) dX12_qGoesOn_11 (by decide) ?_
  refine hb_icmp_ne (pc := 13) (tgt := 122) dX12_qGoesOn_13 (by decide) (fun c1 => ?_) (fun c1 => ?_)
  · have ht1 := h.1 c1
    refine hb_aload_n (pc := 122) (i := 0) dX12_qGoesOn_122 rfl rfl ?_
    refine hb_bipush (pc := 123) (v := 42) dX12_qGoesOn_123 (by decide) ?_
    exact hb_callV (pc := 125) (As := [hb_i (42 : Int32)]) (st := []) dX12_qGoesOn_125 ml_X12_229 mf_X12_takesSign mi_X12_takesSign (ci := 12) rfl rfl (by decide) rfl rfl (Nat.le_of_ble_eq_true rfl) (Nat.le_of_ble_eq_true rfl) ht1 (fun _ _ q => q)
  · have ht1 := h.2 c1
    refine hb_aload_n (pc := 16) (i := 0) dX12_qGoesOn_16 rfl rfl ?_
    exact hb_callV (pc := 17) (As := []) (st := []) dX12_qGoesOn_17 ml_X12_530 mf_X12_qBracket mi_X12_qBracket (ci := 12) rfl rfl (by decide) rfl rfl (Nat.le_of_ble_eq_true rfl) (Nat.le_of_ble_eq_true rfl) ht1 (fun _ _ q => q)
set_option maxRecDepth 20000 in
theorem bk_X12_qGoesOn_20 {d : Nat} {w : hb_W} {Q : Option hb_V → hb_W → Prop} {xs0 : Int32} (h : ((xs0 = (20 : Int32)) → hb_O yX12_qDropsToBracket cX12_qDropsToBracket 1 none d [hb_r 12 0 0] (hb_pI w 12 2 0 ((hb_fI w 12 2 0) + (1 : Int32))) (fun rv w1 => hb_R yX12_qGoesOn cX12_qGoesOn 2 (some .boolean) (d + 1) 57 [some (hb_r 12 0 0), none] (rv.toList ++ []) w1 Q)) ∧ ((¬ xs0 = (20 : Int32)) → hb_O yX12_qBracket cX12_qBracket 2 (some .int) d [hb_r 12 0 0] w (fun rv w1 => hb_R yX12_qGoesOn cX12_qGoesOn 2 (some .boolean) (d + 1) 29 [some (hb_r 12 0 0), none] (rv.toList ++ []) w1 Q))) : hb_R yX12_qGoesOn cX12_qGoesOn 2 (some .boolean) (d + 1) 20 [some (hb_r 12 0 0), none] [hb_i xs0] w Q := by
  refine hb_bipush (pc := 20) (v := 20) dX12_qGoesOn_20 (by decide) ?_
  refine hb_icmp_eq (pc := 22) (tgt := 43) dX12_qGoesOn_22 (by decide) (fun c1 => ?_) (fun c1 => ?_)
  · have ht1 := h.1 c1
    refine hb_aload_n (pc := 43) (i := 0) dX12_qGoesOn_43 rfl rfl ?_
    refine hb_dupr (pc := 44) dX12_qGoesOn_44 ?_
    refine hb_getIx (pc := 45) (x := hb_fI w 12 2 0) dX12_qGoesOn_45 fw_X12_201 cw_12 rfl (by decide) rfl rfl ?_
    refine hb_iconst (pc := 48) (v := 1) dX12_qGoesOn_48 (by decide) ?_
    refine hb_iadd (pc := 49) dX12_qGoesOn_49 ?_
    refine hb_putI (pc := 50) dX12_qGoesOn_50 fw_X12_201 cw_12 pw_12_2 rfl (by decide) rfl rfl rfl ?_
    refine hb_aload_n (pc := 53) (i := 0) dX12_qGoesOn_53 rfl rfl ?_
    exact hb_callV (pc := 54) (As := []) (st := []) dX12_qGoesOn_54 ml_X12_533 mf_X12_qDropsToBracket mi_X12_qDropsToBracket (ci := 12) rfl rfl (by decide) rfl rfl (Nat.le_of_ble_eq_true rfl) (Nat.le_of_ble_eq_true rfl) ht1 (fun _ _ q => q)
  · have ht1 := h.2 c1
    refine hb_aload_n (pc := 25) (i := 0) dX12_qGoesOn_25 rfl rfl ?_
    exact hb_callV (pc := 26) (As := []) (st := []) dX12_qGoesOn_26 ml_X12_530 mf_X12_qBracket mi_X12_qBracket (ci := 12) rfl rfl (by decide) rfl rfl (Nat.le_of_ble_eq_true rfl) (Nat.le_of_ble_eq_true rfl) ht1 (fun _ _ q => q)
set_option maxRecDepth 20000 in
theorem bk_X12_qGoesOn_29 {d : Nat} {w : hb_W} {Q : Option hb_V → hb_W → Prop} {xs0 : Int32} (h : ((xs0 = (23 : Int32)) → hb_O yX12_qDropsToBracket cX12_qDropsToBracket 1 none d [hb_r 12 0 0] (hb_pI w 12 2 0 ((hb_fI w 12 2 0) + (1 : Int32))) (fun rv w1 => hb_R yX12_qGoesOn cX12_qGoesOn 2 (some .boolean) (d + 1) 57 [some (hb_r 12 0 0), none] (rv.toList ++ []) w1 Q)) ∧ ((¬ xs0 = (23 : Int32)) → hb_O yX12_qBracket cX12_qBracket 2 (some .int) d [hb_r 12 0 0] w (fun rv w1 => hb_R yX12_qGoesOn cX12_qGoesOn 2 (some .boolean) (d + 1) 38 [some (hb_r 12 0 0), none] (rv.toList ++ []) w1 Q))) : hb_R yX12_qGoesOn cX12_qGoesOn 2 (some .boolean) (d + 1) 29 [some (hb_r 12 0 0), none] [hb_i xs0] w Q := by
  refine hb_bipush (pc := 29) (v := 23) dX12_qGoesOn_29 (by decide) ?_
  refine hb_icmp_eq (pc := 31) (tgt := 43) dX12_qGoesOn_31 (by decide) (fun c1 => ?_) (fun c1 => ?_)
  · have ht1 := h.1 c1
    refine hb_aload_n (pc := 43) (i := 0) dX12_qGoesOn_43 rfl rfl ?_
    refine hb_dupr (pc := 44) dX12_qGoesOn_44 ?_
    refine hb_getIx (pc := 45) (x := hb_fI w 12 2 0) dX12_qGoesOn_45 fw_X12_201 cw_12 rfl (by decide) rfl rfl ?_
    refine hb_iconst (pc := 48) (v := 1) dX12_qGoesOn_48 (by decide) ?_
    refine hb_iadd (pc := 49) dX12_qGoesOn_49 ?_
    refine hb_putI (pc := 50) dX12_qGoesOn_50 fw_X12_201 cw_12 pw_12_2 rfl (by decide) rfl rfl rfl ?_
    refine hb_aload_n (pc := 53) (i := 0) dX12_qGoesOn_53 rfl rfl ?_
    exact hb_callV (pc := 54) (As := []) (st := []) dX12_qGoesOn_54 ml_X12_533 mf_X12_qDropsToBracket mi_X12_qDropsToBracket (ci := 12) rfl rfl (by decide) rfl rfl (Nat.le_of_ble_eq_true rfl) (Nat.le_of_ble_eq_true rfl) ht1 (fun _ _ q => q)
  · have ht1 := h.2 c1
    refine hb_aload_n (pc := 34) (i := 0) dX12_qGoesOn_34 rfl rfl ?_
    exact hb_callV (pc := 35) (As := []) (st := []) dX12_qGoesOn_35 ml_X12_530 mf_X12_qBracket mi_X12_qBracket (ci := 12) rfl rfl (by decide) rfl rfl (Nat.le_of_ble_eq_true rfl) (Nat.le_of_ble_eq_true rfl) ht1 (fun _ _ q => q)
set_option maxRecDepth 20000 in
theorem bk_X12_qGoesOn_38 {d : Nat} {w : hb_W} {Q : Option hb_V → hb_W → Prop} {xs0 : Int32} (h : ((¬ xs0 = (24 : Int32)) → hb_O yX12_takesSign cX12_takesSign 2 (some .boolean) d [hb_r 12 0 0, hb_i (42 : Int32)] w (fun rv w1 => hb_R yX12_qGoesOn cX12_qGoesOn 2 (some .boolean) (d + 1) 128 [some (hb_r 12 0 0), none] (rv.toList ++ []) w1 Q)) ∧ ((xs0 = (24 : Int32)) → hb_O yX12_qDropsToBracket cX12_qDropsToBracket 1 none d [hb_r 12 0 0] (hb_pI w 12 2 0 ((hb_fI w 12 2 0) + (1 : Int32))) (fun rv w1 => hb_R yX12_qGoesOn cX12_qGoesOn 2 (some .boolean) (d + 1) 57 [some (hb_r 12 0 0), none] (rv.toList ++ []) w1 Q))) : hb_R yX12_qGoesOn cX12_qGoesOn 2 (some .boolean) (d + 1) 38 [some (hb_r 12 0 0), none] [hb_i xs0] w Q := by
  refine hb_bipush (pc := 38) (v := 24) dX12_qGoesOn_38 (by decide) ?_
  refine hb_icmp_ne (pc := 40) (tgt := 122) dX12_qGoesOn_40 (by decide) (fun c1 => ?_) (fun c1 => ?_)
  · have ht1 := h.1 c1
    refine hb_aload_n (pc := 122) (i := 0) dX12_qGoesOn_122 rfl rfl ?_
    refine hb_bipush (pc := 123) (v := 42) dX12_qGoesOn_123 (by decide) ?_
    exact hb_callV (pc := 125) (As := [hb_i (42 : Int32)]) (st := []) dX12_qGoesOn_125 ml_X12_229 mf_X12_takesSign mi_X12_takesSign (ci := 12) rfl rfl (by decide) rfl rfl (Nat.le_of_ble_eq_true rfl) (Nat.le_of_ble_eq_true rfl) ht1 (fun _ _ q => q)
  · have ht1 := h.2 c1
    refine hb_aload_n (pc := 43) (i := 0) dX12_qGoesOn_43 rfl rfl ?_
    refine hb_dupr (pc := 44) dX12_qGoesOn_44 ?_
    refine hb_getIx (pc := 45) (x := hb_fI w 12 2 0) dX12_qGoesOn_45 fw_X12_201 cw_12 rfl (by decide) rfl rfl ?_
    refine hb_iconst (pc := 48) (v := 1) dX12_qGoesOn_48 (by decide) ?_
    refine hb_iadd (pc := 49) dX12_qGoesOn_49 ?_
    refine hb_putI (pc := 50) dX12_qGoesOn_50 fw_X12_201 cw_12 pw_12_2 rfl (by decide) rfl rfl rfl ?_
    refine hb_aload_n (pc := 53) (i := 0) dX12_qGoesOn_53 rfl rfl ?_
    exact hb_callV (pc := 54) (As := []) (st := []) dX12_qGoesOn_54 ml_X12_533 mf_X12_qDropsToBracket mi_X12_qDropsToBracket (ci := 12) rfl rfl (by decide) rfl rfl (Nat.le_of_ble_eq_true rfl) (Nat.le_of_ble_eq_true rfl) ht1 (fun _ _ q => q)
set_option maxRecDepth 20000 in
theorem bk_X12_qGoesOn_57 {d : Nat} {w : hb_W} {Q : Option hb_V → hb_W → Prop} (h : vp_in ((hb_fI w 12 82 0) - (1 : Int32)) 1700 ∧ ((((hb_aI w 12 55 0 ((hb_fI w 12 82 0) - (1 : Int32)).toNatClampNeg) = (20 : Int32)) → hb_R yX12_qGoesOn cX12_qGoesOn 2 (some .boolean) (d + 1) 115 [some (hb_r 12 0 0), none] [] (hb_pI (hb_pI w 12 82 0 ((hb_fI w 12 82 0) - (1 : Int32))) 12 83 0 ((hb_fI w 12 83 0) - (1 : Int32))) Q) ∧ ((¬ (hb_aI w 12 55 0 ((hb_fI w 12 82 0) - (1 : Int32)).toNatClampNeg) = (20 : Int32)) → vp_in ((hb_fI w 12 82 0) - (1 : Int32)) 1700 ∧ (((¬ (hb_aI w 12 55 0 ((hb_fI w 12 82 0) - (1 : Int32)).toNatClampNeg) = (23 : Int32)) → hb_O yX12_qCode cX12_qCode 2 none d [hb_r 12 0 0, hb_i (6 : Int32)] (hb_pI (hb_pI w 12 82 0 ((hb_fI w 12 82 0) - (1 : Int32))) 12 83 0 ((hb_fI w 12 83 0) - (1 : Int32))) (fun rv w1 => hb_R yX12_qGoesOn cX12_qGoesOn 2 (some .boolean) (d + 1) 115 [some (hb_r 12 0 0), none] (rv.toList ++ []) w1 Q)) ∧ (((hb_aI w 12 55 0 ((hb_fI w 12 82 0) - (1 : Int32)).toNatClampNeg) = (23 : Int32)) → hb_O yX12_qCode cX12_qCode 2 none d [hb_r 12 0 0, hb_i (5 : Int32)] (hb_pI (hb_pI w 12 82 0 ((hb_fI w 12 82 0) - (1 : Int32))) 12 83 0 ((hb_fI w 12 83 0) - (1 : Int32))) (fun rv w1 => hb_R yX12_qGoesOn cX12_qGoesOn 2 (some .boolean) (d + 1) 115 [some (hb_r 12 0 0), none] (rv.toList ++ []) w1 Q)))))) : hb_R yX12_qGoesOn cX12_qGoesOn 2 (some .boolean) (d + 1) 57 [some (hb_r 12 0 0), none] [] w Q := by
  refine hb_aload_n (pc := 57) (i := 0) dX12_qGoesOn_57 rfl rfl ?_
  refine hb_dupr (pc := 58) dX12_qGoesOn_58 ?_
  refine hb_getIx (pc := 59) (x := hb_fI w 12 82 0) dX12_qGoesOn_59 fw_X12_260 cw_12 rfl (by decide) rfl rfl ?_
  refine hb_iconst (pc := 62) (v := 1) dX12_qGoesOn_62 (by decide) ?_
  refine hb_isub (pc := 63) dX12_qGoesOn_63 ?_
  refine hb_putI (pc := 64) dX12_qGoesOn_64 fw_X12_260 cw_12 pw_12_82 rfl (by decide) rfl rfl rfl ?_
  refine hb_aload_n (pc := 67) (i := 0) dX12_qGoesOn_67 rfl rfl ?_
  refine hb_dupr (pc := 68) dX12_qGoesOn_68 ?_
  refine hb_getIx (pc := 69) (x := hb_fI w 12 83 0) dX12_qGoesOn_69 fw_X12_263 cw_12 rfl (by decide) rfl rfl ?_
  refine hb_iconst (pc := 72) (v := 1) dX12_qGoesOn_72 (by decide) ?_
  refine hb_isub (pc := 73) dX12_qGoesOn_73 ?_
  refine hb_putI (pc := 74) dX12_qGoesOn_74 fw_X12_263 cw_12 pw_12_83 rfl (by decide) rfl rfl rfl ?_
  refine hb_aload_n (pc := 77) (i := 0) dX12_qGoesOn_77 rfl rfl ?_
  refine hb_getR (pc := 78) (g1 := 0) dX12_qGoesOn_78 fw_X12_182 cw_12 rfl (by decide) rfl (by decide) rfl ?_
  refine hb_aload_n (pc := 81) (i := 0) dX12_qGoesOn_81 rfl rfl ?_
  refine hb_getIx (pc := 82) (x := (hb_fI w 12 82 0) - (1 : Int32)) dX12_qGoesOn_82 fw_X12_260 cw_12 rfl (by decide) rfl rfl ?_
  obtain ⟨ho1, hr1⟩ := h
  refine hb_ialdx (pc := 85) (x := hb_aI w 12 55 0 ((hb_fI w 12 82 0) - (1 : Int32)).toNatClampNeg) dX12_qGoesOn_85 rfl (by decide) ho1 rfl ?_
  refine hb_bipush (pc := 86) (v := 20) dX12_qGoesOn_86 (by decide) ?_
  refine hb_icmp_eq (pc := 88) (tgt := 115) dX12_qGoesOn_88 (by decide) (fun c2 => ?_) (fun c2 => ?_)
  · have ht2 := hr1.1 c2
    exact ht2
  · have ht2 := hr1.2 c2
    refine hb_aload_n (pc := 91) (i := 0) dX12_qGoesOn_91 rfl rfl ?_
    refine hb_aload_n (pc := 92) (i := 0) dX12_qGoesOn_92 rfl rfl ?_
    refine hb_getR (pc := 93) (g1 := 0) dX12_qGoesOn_93 fw_X12_182 cw_12 rfl (by decide) rfl (by decide) rfl ?_
    refine hb_aload_n (pc := 96) (i := 0) dX12_qGoesOn_96 rfl rfl ?_
    refine hb_getIx (pc := 97) (x := (hb_fI w 12 82 0) - (1 : Int32)) dX12_qGoesOn_97 fw_X12_260 cw_12 rfl (by decide) rfl rfl ?_
    obtain ⟨ho3, hr3⟩ := ht2
    refine hb_ialdx (pc := 100) (x := hb_aI w 12 55 0 ((hb_fI w 12 82 0) - (1 : Int32)).toNatClampNeg) dX12_qGoesOn_100 rfl (by decide) ho3 rfl ?_
    refine hb_bipush (pc := 101) (v := 23) dX12_qGoesOn_101 (by decide) ?_
    refine hb_icmp_ne (pc := 103) (tgt := 110) dX12_qGoesOn_103 (by decide) (fun c4 => ?_) (fun c4 => ?_)
    · have ht4 := hr3.1 c4
      refine hb_bipush (pc := 110) (v := 6) dX12_qGoesOn_110 (by decide) ?_
      exact hb_callV (pc := 112) (As := [hb_i (6 : Int32)]) (st := []) dX12_qGoesOn_112 ml_X12_503 mf_X12_qCode mi_X12_qCode (ci := 12) rfl rfl (by decide) rfl rfl (Nat.le_of_ble_eq_true rfl) (Nat.le_of_ble_eq_true rfl) ht4 (fun _ _ q => q)
    · have ht4 := hr3.2 c4
      refine hb_iconst (pc := 106) (v := 5) dX12_qGoesOn_106 (by decide) ?_
      refine hb_goto (pc := 107) (tgt := 112) dX12_qGoesOn_107 (by decide) ?_
      exact hb_callV (pc := 112) (As := [hb_i (5 : Int32)]) (st := []) dX12_qGoesOn_112 ml_X12_503 mf_X12_qCode mi_X12_qCode (ci := 12) rfl rfl (by decide) rfl rfl (Nat.le_of_ble_eq_true rfl) (Nat.le_of_ble_eq_true rfl) ht4 (fun _ _ q => q)
set_option maxRecDepth 20000 in
theorem bk_X12_qGoesOn_115 {d : Nat} {w : hb_W} {Q : Option hb_V → hb_W → Prop} (h : hb_O yX12_qEndsPart cX12_qEndsPart 1 none d [hb_r 12 0 0] w (fun rv w1 => hb_R yX12_qGoesOn cX12_qGoesOn 2 (some .boolean) (d + 1) 119 [some (hb_r 12 0 0), none] (rv.toList ++ []) w1 Q)) : hb_R yX12_qGoesOn cX12_qGoesOn 2 (some .boolean) (d + 1) 115 [some (hb_r 12 0 0), none] [] w Q := by
  refine hb_aload_n (pc := 115) (i := 0) dX12_qGoesOn_115 rfl rfl ?_
  exact hb_callV (pc := 116) (As := []) (st := []) dX12_qGoesOn_116 ml_X12_527 mf_X12_qEndsPart mi_X12_qEndsPart (ci := 12) rfl rfl (by decide) rfl rfl (Nat.le_of_ble_eq_true rfl) (Nat.le_of_ble_eq_true rfl) h (fun _ _ q => q)
set_option maxRecDepth 20000 in
theorem bk_X12_qGoesOn_119 {d : Nat} {w : hb_W} {Q : Option hb_V → hb_W → Prop} (h : hb_R yX12_qGoesOn cX12_qGoesOn 2 (some .boolean) (d + 1) 0 [some (hb_r 12 0 0), none] [] w Q) : hb_R yX12_qGoesOn cX12_qGoesOn 2 (some .boolean) (d + 1) 119 [some (hb_r 12 0 0), none] [] w Q := by
  refine hb_goto (pc := 119) (tgt := 0) dX12_qGoesOn_119 (by decide) ?_
  exact h
set_option maxRecDepth 20000 in
theorem bk_X12_qGoesOn_128 {d : Nat} {w : hb_W} {Q : Option hb_V → hb_W → Prop} {xs0 : Int32} (h : ((¬ xs0 = 0) → vp_in ((hb_fI w 12 2 0) - (1 : Int32)) 1600 ∧ (((¬ (hb_aI w 12 1 0 ((hb_fI w 12 2 0) - (1 : Int32)).toNatClampNeg) = (42 : Int32)) → hb_R yX12_qGoesOn cX12_qGoesOn 2 (some .boolean) (d + 1) 162 [some (hb_r 12 0 0), some (hb_i (4 : Int32))] [] w Q) ∧ (((hb_aI w 12 1 0 ((hb_fI w 12 2 0) - (1 : Int32)).toNatClampNeg) = (42 : Int32)) → hb_R yX12_qGoesOn cX12_qGoesOn 2 (some .boolean) (d + 1) 162 [some (hb_r 12 0 0), some (hb_i (3 : Int32))] [] w Q))) ∧ ((xs0 = 0) → hb_O yX12_takesSign cX12_takesSign 2 (some .boolean) d [hb_r 12 0 0, hb_i (47 : Int32)] w (fun rv w1 => hb_R yX12_qGoesOn cX12_qGoesOn 2 (some .boolean) (d + 1) 137 [some (hb_r 12 0 0), none] (rv.toList ++ []) w1 Q))) : hb_R yX12_qGoesOn cX12_qGoesOn 2 (some .boolean) (d + 1) 128 [some (hb_r 12 0 0), none] [hb_i xs0] w Q := by
  refine hb_if_ne (pc := 128) (tgt := 140) dX12_qGoesOn_128 (by decide) (fun c1 => ?_) (fun c1 => ?_)
  · have ht1 := h.1 c1
    refine hb_aload_n (pc := 140) (i := 0) dX12_qGoesOn_140 rfl rfl ?_
    refine hb_getR (pc := 141) (g1 := 0) dX12_qGoesOn_141 fw_X12_7 cw_12 rfl (by decide) rfl (by decide) rfl ?_
    refine hb_aload_n (pc := 144) (i := 0) dX12_qGoesOn_144 rfl rfl ?_
    refine hb_getIx (pc := 145) (x := hb_fI w 12 2 0) dX12_qGoesOn_145 fw_X12_201 cw_12 rfl (by decide) rfl rfl ?_
    refine hb_iconst (pc := 148) (v := 1) dX12_qGoesOn_148 (by decide) ?_
    refine hb_isub (pc := 149) dX12_qGoesOn_149 ?_
    obtain ⟨ho2, hr2⟩ := ht1
    refine hb_ialdx (pc := 150) (x := hb_aI w 12 1 0 ((hb_fI w 12 2 0) - (1 : Int32)).toNatClampNeg) dX12_qGoesOn_150 rfl (by decide) ho2 rfl ?_
    refine hb_bipush (pc := 151) (v := 42) dX12_qGoesOn_151 (by decide) ?_
    refine hb_icmp_ne (pc := 153) (tgt := 160) dX12_qGoesOn_153 (by decide) (fun c3 => ?_) (fun c3 => ?_)
    · have ht3 := hr2.1 c3
      refine hb_iconst (pc := 160) (v := 4) dX12_qGoesOn_160 (by decide) ?_
      refine hb_istore_n (pc := 161) (i := 1) (ls1 := [some (hb_r 12 0 0), some (hb_i (4 : Int32))]) dX12_qGoesOn_161 rfl (by decide) rfl ?_
      exact ht3
    · have ht3 := hr2.2 c3
      refine hb_iconst (pc := 156) (v := 3) dX12_qGoesOn_156 (by decide) ?_
      refine hb_goto (pc := 157) (tgt := 161) dX12_qGoesOn_157 (by decide) ?_
      refine hb_istore_n (pc := 161) (i := 1) (ls1 := [some (hb_r 12 0 0), some (hb_i (3 : Int32))]) dX12_qGoesOn_161 rfl (by decide) rfl ?_
      exact ht3
  · have ht1 := h.2 c1
    refine hb_aload_n (pc := 131) (i := 0) dX12_qGoesOn_131 rfl rfl ?_
    refine hb_bipush (pc := 132) (v := 47) dX12_qGoesOn_132 (by decide) ?_
    exact hb_callV (pc := 134) (As := [hb_i (47 : Int32)]) (st := []) dX12_qGoesOn_134 ml_X12_229 mf_X12_takesSign mi_X12_takesSign (ci := 12) rfl rfl (by decide) rfl rfl (Nat.le_of_ble_eq_true rfl) (Nat.le_of_ble_eq_true rfl) ht1 (fun _ _ q => q)
set_option maxRecDepth 20000 in
theorem bk_X12_qGoesOn_137 {d : Nat} {w : hb_W} {Q : Option hb_V → hb_W → Prop} {xs0 : Int32} (h : ((xs0 = 0) → hb_O yX12_takesSign cX12_takesSign 2 (some .boolean) d [hb_r 12 0 0, hb_i (43 : Int32)] w (fun rv w1 => hb_R yX12_qGoesOn cX12_qGoesOn 2 (some .boolean) (d + 1) 213 [some (hb_r 12 0 0), none] (rv.toList ++ []) w1 Q)) ∧ ((¬ xs0 = 0) → vp_in ((hb_fI w 12 2 0) - (1 : Int32)) 1600 ∧ (((¬ (hb_aI w 12 1 0 ((hb_fI w 12 2 0) - (1 : Int32)).toNatClampNeg) = (42 : Int32)) → hb_R yX12_qGoesOn cX12_qGoesOn 2 (some .boolean) (d + 1) 162 [some (hb_r 12 0 0), some (hb_i (4 : Int32))] [] w Q) ∧ (((hb_aI w 12 1 0 ((hb_fI w 12 2 0) - (1 : Int32)).toNatClampNeg) = (42 : Int32)) → hb_R yX12_qGoesOn cX12_qGoesOn 2 (some .boolean) (d + 1) 162 [some (hb_r 12 0 0), some (hb_i (3 : Int32))] [] w Q)))) : hb_R yX12_qGoesOn cX12_qGoesOn 2 (some .boolean) (d + 1) 137 [some (hb_r 12 0 0), none] [hb_i xs0] w Q := by
  refine hb_if_eq (pc := 137) (tgt := 207) dX12_qGoesOn_137 (by decide) (fun c1 => ?_) (fun c1 => ?_)
  · have ht1 := h.1 c1
    refine hb_aload_n (pc := 207) (i := 0) dX12_qGoesOn_207 rfl rfl ?_
    refine hb_bipush (pc := 208) (v := 43) dX12_qGoesOn_208 (by decide) ?_
    exact hb_callV (pc := 210) (As := [hb_i (43 : Int32)]) (st := []) dX12_qGoesOn_210 ml_X12_229 mf_X12_takesSign mi_X12_takesSign (ci := 12) rfl rfl (by decide) rfl rfl (Nat.le_of_ble_eq_true rfl) (Nat.le_of_ble_eq_true rfl) ht1 (fun _ _ q => q)
  · have ht1 := h.2 c1
    refine hb_aload_n (pc := 140) (i := 0) dX12_qGoesOn_140 rfl rfl ?_
    refine hb_getR (pc := 141) (g1 := 0) dX12_qGoesOn_141 fw_X12_7 cw_12 rfl (by decide) rfl (by decide) rfl ?_
    refine hb_aload_n (pc := 144) (i := 0) dX12_qGoesOn_144 rfl rfl ?_
    refine hb_getIx (pc := 145) (x := hb_fI w 12 2 0) dX12_qGoesOn_145 fw_X12_201 cw_12 rfl (by decide) rfl rfl ?_
    refine hb_iconst (pc := 148) (v := 1) dX12_qGoesOn_148 (by decide) ?_
    refine hb_isub (pc := 149) dX12_qGoesOn_149 ?_
    obtain ⟨ho2, hr2⟩ := ht1
    refine hb_ialdx (pc := 150) (x := hb_aI w 12 1 0 ((hb_fI w 12 2 0) - (1 : Int32)).toNatClampNeg) dX12_qGoesOn_150 rfl (by decide) ho2 rfl ?_
    refine hb_bipush (pc := 151) (v := 42) dX12_qGoesOn_151 (by decide) ?_
    refine hb_icmp_ne (pc := 153) (tgt := 160) dX12_qGoesOn_153 (by decide) (fun c3 => ?_) (fun c3 => ?_)
    · have ht3 := hr2.1 c3
      refine hb_iconst (pc := 160) (v := 4) dX12_qGoesOn_160 (by decide) ?_
      refine hb_istore_n (pc := 161) (i := 1) (ls1 := [some (hb_r 12 0 0), some (hb_i (4 : Int32))]) dX12_qGoesOn_161 rfl (by decide) rfl ?_
      exact ht3
    · have ht3 := hr2.2 c3
      refine hb_iconst (pc := 156) (v := 3) dX12_qGoesOn_156 (by decide) ?_
      refine hb_goto (pc := 157) (tgt := 161) dX12_qGoesOn_157 (by decide) ?_
      refine hb_istore_n (pc := 161) (i := 1) (ls1 := [some (hb_r 12 0 0), some (hb_i (3 : Int32))]) dX12_qGoesOn_161 rfl (by decide) rfl ?_
      exact ht3
set_option maxRecDepth 20000 in
theorem bk_X12_qGoesOn_162 {d : Nat} {w : hb_W} {Q : Option hb_V → hb_W → Prop} {x1 : Int32} (h : hb_O yX12_qIsOn cX12_qIsOn 2 (some .boolean) d [hb_r 12 0 0, hb_i (3 : Int32)] w (fun rv w1 => hb_R yX12_qGoesOn cX12_qGoesOn 2 (some .boolean) (d + 1) 167 [some (hb_r 12 0 0), some (hb_i x1)] (rv.toList ++ []) w1 Q)) : hb_R yX12_qGoesOn cX12_qGoesOn 2 (some .boolean) (d + 1) 162 [some (hb_r 12 0 0), some (hb_i x1)] [] w Q := by
  refine hb_aload_n (pc := 162) (i := 0) dX12_qGoesOn_162 rfl rfl ?_
  refine hb_iconst (pc := 163) (v := 3) dX12_qGoesOn_163 (by decide) ?_
  exact hb_callV (pc := 164) (As := [hb_i (3 : Int32)]) (st := []) dX12_qGoesOn_164 ml_X12_536 mf_X12_qIsOn mi_X12_qIsOn (ci := 12) rfl rfl (by decide) rfl rfl (Nat.le_of_ble_eq_true rfl) (Nat.le_of_ble_eq_true rfl) h (fun _ _ q => q)
set_option maxRecDepth 20000 in
theorem bk_X12_qGoesOn_167 {d : Nat} {w : hb_W} {Q : Option hb_V → hb_W → Prop} {x1 : Int32} {xs0 : Int32} (h : ((¬ xs0 = 0) → hb_O yX12_qDrops cX12_qDrops 1 none d [hb_r 12 0 0] w (fun rv w1 => hb_R yX12_qGoesOn cX12_qGoesOn 2 (some .boolean) (d + 1) 182 [some (hb_r 12 0 0), some (hb_i x1)] (rv.toList ++ []) w1 Q)) ∧ ((xs0 = 0) → hb_O yX12_qIsOn cX12_qIsOn 2 (some .boolean) d [hb_r 12 0 0, hb_i (4 : Int32)] w (fun rv w1 => hb_R yX12_qGoesOn cX12_qGoesOn 2 (some .boolean) (d + 1) 175 [some (hb_r 12 0 0), some (hb_i x1)] (rv.toList ++ []) w1 Q))) : hb_R yX12_qGoesOn cX12_qGoesOn 2 (some .boolean) (d + 1) 167 [some (hb_r 12 0 0), some (hb_i x1)] [hb_i xs0] w Q := by
  refine hb_if_ne (pc := 167) (tgt := 178) dX12_qGoesOn_167 (by decide) (fun c1 => ?_) (fun c1 => ?_)
  · have ht1 := h.1 c1
    refine hb_aload_n (pc := 178) (i := 0) dX12_qGoesOn_178 rfl rfl ?_
    exact hb_callV (pc := 179) (As := []) (st := []) dX12_qGoesOn_179 ml_X12_509 mf_X12_qDrops mi_X12_qDrops (ci := 12) rfl rfl (by decide) rfl rfl (Nat.le_of_ble_eq_true rfl) (Nat.le_of_ble_eq_true rfl) ht1 (fun _ _ q => q)
  · have ht1 := h.2 c1
    refine hb_aload_n (pc := 170) (i := 0) dX12_qGoesOn_170 rfl rfl ?_
    refine hb_iconst (pc := 171) (v := 4) dX12_qGoesOn_171 (by decide) ?_
    exact hb_callV (pc := 172) (As := [hb_i (4 : Int32)]) (st := []) dX12_qGoesOn_172 ml_X12_536 mf_X12_qIsOn mi_X12_qIsOn (ci := 12) rfl rfl (by decide) rfl rfl (Nat.le_of_ble_eq_true rfl) (Nat.le_of_ble_eq_true rfl) ht1 (fun _ _ q => q)
set_option maxRecDepth 20000 in
theorem bk_X12_qGoesOn_175 {d : Nat} {w : hb_W} {Q : Option hb_V → hb_W → Prop} {x1 : Int32} {xs0 : Int32} (h : ((xs0 = 0) → vp_in (hb_fI w 12 82 0) 1700 ∧ (Q (some (hb_i (1 : Int32))) (hb_pI (hb_sI w 12 55 0 (upd (hb_aI w 12 55 0) (hb_fI w 12 82 0).toNatClampNeg x1)) 12 82 0 ((hb_fI w 12 82 0) + (1 : Int32))))) ∧ ((¬ xs0 = 0) → hb_O yX12_qDrops cX12_qDrops 1 none d [hb_r 12 0 0] w (fun rv w1 => hb_R yX12_qGoesOn cX12_qGoesOn 2 (some .boolean) (d + 1) 182 [some (hb_r 12 0 0), some (hb_i x1)] (rv.toList ++ []) w1 Q))) : hb_R yX12_qGoesOn cX12_qGoesOn 2 (some .boolean) (d + 1) 175 [some (hb_r 12 0 0), some (hb_i x1)] [hb_i xs0] w Q := by
  refine hb_if_eq (pc := 175) (tgt := 185) dX12_qGoesOn_175 (by decide) (fun c1 => ?_) (fun c1 => ?_)
  · have ht1 := h.1 c1
    refine hb_aload_n (pc := 185) (i := 0) dX12_qGoesOn_185 rfl rfl ?_
    refine hb_getR (pc := 186) (g1 := 0) dX12_qGoesOn_186 fw_X12_182 cw_12 rfl (by decide) rfl (by decide) rfl ?_
    refine hb_aload_n (pc := 189) (i := 0) dX12_qGoesOn_189 rfl rfl ?_
    refine hb_getIx (pc := 190) (x := hb_fI w 12 82 0) dX12_qGoesOn_190 fw_X12_260 cw_12 rfl (by decide) rfl rfl ?_
    refine hb_iload_n (pc := 193) (i := 1) dX12_qGoesOn_193 rfl rfl ?_
    obtain ⟨ho2, hr2⟩ := ht1
    refine hb_iastx (pc := 194) (f := upd (hb_aI w 12 55 0) (hb_fI w 12 82 0).toNatClampNeg x1) dX12_qGoesOn_194 rfl (by decide) ho2 rfl ?_
    refine hb_aload_n (pc := 195) (i := 0) dX12_qGoesOn_195 rfl rfl ?_
    refine hb_dupr (pc := 196) dX12_qGoesOn_196 ?_
    refine hb_getIx (pc := 197) (x := hb_fI w 12 82 0) dX12_qGoesOn_197 fw_X12_260 cw_12 rfl (by decide) rfl rfl ?_
    refine hb_iconst (pc := 200) (v := 1) dX12_qGoesOn_200 (by decide) ?_
    refine hb_iadd (pc := 201) dX12_qGoesOn_201 ?_
    refine hb_putI (pc := 202) dX12_qGoesOn_202 fw_X12_260 cw_12 pw_12_82 rfl (by decide) rfl rfl rfl ?_
    refine hb_iconst (pc := 205) (v := 1) dX12_qGoesOn_205 (by decide) ?_
    exact hb_zret (pc := 206) dX12_qGoesOn_206 rfl (Or.inr rfl) hr2
  · have ht1 := h.2 c1
    refine hb_aload_n (pc := 178) (i := 0) dX12_qGoesOn_178 rfl rfl ?_
    exact hb_callV (pc := 179) (As := []) (st := []) dX12_qGoesOn_179 ml_X12_509 mf_X12_qDrops mi_X12_qDrops (ci := 12) rfl rfl (by decide) rfl rfl (Nat.le_of_ble_eq_true rfl) (Nat.le_of_ble_eq_true rfl) ht1 (fun _ _ q => q)
set_option maxRecDepth 20000 in
theorem bk_X12_qGoesOn_182 {d : Nat} {w : hb_W} {Q : Option hb_V → hb_W → Prop} {x1 : Int32} (h : hb_R yX12_qGoesOn cX12_qGoesOn 2 (some .boolean) (d + 1) 162 [some (hb_r 12 0 0), some (hb_i x1)] [] w Q) : hb_R yX12_qGoesOn cX12_qGoesOn 2 (some .boolean) (d + 1) 182 [some (hb_r 12 0 0), some (hb_i x1)] [] w Q := by
  refine hb_goto (pc := 182) (tgt := 162) dX12_qGoesOn_182 (by decide) ?_
  exact h
set_option maxRecDepth 20000 in
theorem bk_X12_qGoesOn_213 {d : Nat} {w : hb_W} {Q : Option hb_V → hb_W → Prop} {xs0 : Int32} (h : ((¬ xs0 = 0) → vp_in ((hb_fI w 12 2 0) - (1 : Int32)) 1600 ∧ (((¬ (hb_aI w 12 1 0 ((hb_fI w 12 2 0) - (1 : Int32)).toNatClampNeg) = (43 : Int32)) → hb_R yX12_qGoesOn cX12_qGoesOn 2 (some .boolean) (d + 1) 247 [some (hb_r 12 0 0), some (hb_i (2 : Int32))] [] w Q) ∧ (((hb_aI w 12 1 0 ((hb_fI w 12 2 0) - (1 : Int32)).toNatClampNeg) = (43 : Int32)) → hb_R yX12_qGoesOn cX12_qGoesOn 2 (some .boolean) (d + 1) 247 [some (hb_r 12 0 0), some (hb_i (1 : Int32))] [] w Q))) ∧ ((xs0 = 0) → hb_O yX12_takesSign cX12_takesSign 2 (some .boolean) d [hb_r 12 0 0, hb_i (45 : Int32)] w (fun rv w1 => hb_R yX12_qGoesOn cX12_qGoesOn 2 (some .boolean) (d + 1) 222 [some (hb_r 12 0 0), none] (rv.toList ++ []) w1 Q))) : hb_R yX12_qGoesOn cX12_qGoesOn 2 (some .boolean) (d + 1) 213 [some (hb_r 12 0 0), none] [hb_i xs0] w Q := by
  refine hb_if_ne (pc := 213) (tgt := 225) dX12_qGoesOn_213 (by decide) (fun c1 => ?_) (fun c1 => ?_)
  · have ht1 := h.1 c1
    refine hb_aload_n (pc := 225) (i := 0) dX12_qGoesOn_225 rfl rfl ?_
    refine hb_getR (pc := 226) (g1 := 0) dX12_qGoesOn_226 fw_X12_7 cw_12 rfl (by decide) rfl (by decide) rfl ?_
    refine hb_aload_n (pc := 229) (i := 0) dX12_qGoesOn_229 rfl rfl ?_
    refine hb_getIx (pc := 230) (x := hb_fI w 12 2 0) dX12_qGoesOn_230 fw_X12_201 cw_12 rfl (by decide) rfl rfl ?_
    refine hb_iconst (pc := 233) (v := 1) dX12_qGoesOn_233 (by decide) ?_
    refine hb_isub (pc := 234) dX12_qGoesOn_234 ?_
    obtain ⟨ho2, hr2⟩ := ht1
    refine hb_ialdx (pc := 235) (x := hb_aI w 12 1 0 ((hb_fI w 12 2 0) - (1 : Int32)).toNatClampNeg) dX12_qGoesOn_235 rfl (by decide) ho2 rfl ?_
    refine hb_bipush (pc := 236) (v := 43) dX12_qGoesOn_236 (by decide) ?_
    refine hb_icmp_ne (pc := 238) (tgt := 245) dX12_qGoesOn_238 (by decide) (fun c3 => ?_) (fun c3 => ?_)
    · have ht3 := hr2.1 c3
      refine hb_iconst (pc := 245) (v := 2) dX12_qGoesOn_245 (by decide) ?_
      refine hb_istore_n (pc := 246) (i := 1) (ls1 := [some (hb_r 12 0 0), some (hb_i (2 : Int32))]) dX12_qGoesOn_246 rfl (by decide) rfl ?_
      exact ht3
    · have ht3 := hr2.2 c3
      refine hb_iconst (pc := 241) (v := 1) dX12_qGoesOn_241 (by decide) ?_
      refine hb_goto (pc := 242) (tgt := 246) dX12_qGoesOn_242 (by decide) ?_
      refine hb_istore_n (pc := 246) (i := 1) (ls1 := [some (hb_r 12 0 0), some (hb_i (1 : Int32))]) dX12_qGoesOn_246 rfl (by decide) rfl ?_
      exact ht3
  · have ht1 := h.2 c1
    refine hb_aload_n (pc := 216) (i := 0) dX12_qGoesOn_216 rfl rfl ?_
    refine hb_bipush (pc := 217) (v := 45) dX12_qGoesOn_217 (by decide) ?_
    exact hb_callV (pc := 219) (As := [hb_i (45 : Int32)]) (st := []) dX12_qGoesOn_219 ml_X12_229 mf_X12_takesSign mi_X12_takesSign (ci := 12) rfl rfl (by decide) rfl rfl (Nat.le_of_ble_eq_true rfl) (Nat.le_of_ble_eq_true rfl) ht1 (fun _ _ q => q)
set_option maxRecDepth 20000 in
theorem bk_X12_qGoesOn_222 {d : Nat} {w : hb_W} {Q : Option hb_V → hb_W → Prop} {xs0 : Int32} (h : ((xs0 = 0) → hb_O yX12_qBracket cX12_qBracket 2 (some .int) d [hb_r 12 0 0] w (fun rv w1 => hb_R yX12_qGoesOn cX12_qGoesOn 2 (some .boolean) (d + 1) 312 [some (hb_r 12 0 0), none] (rv.toList ++ []) w1 Q)) ∧ ((¬ xs0 = 0) → vp_in ((hb_fI w 12 2 0) - (1 : Int32)) 1600 ∧ (((¬ (hb_aI w 12 1 0 ((hb_fI w 12 2 0) - (1 : Int32)).toNatClampNeg) = (43 : Int32)) → hb_R yX12_qGoesOn cX12_qGoesOn 2 (some .boolean) (d + 1) 247 [some (hb_r 12 0 0), some (hb_i (2 : Int32))] [] w Q) ∧ (((hb_aI w 12 1 0 ((hb_fI w 12 2 0) - (1 : Int32)).toNatClampNeg) = (43 : Int32)) → hb_R yX12_qGoesOn cX12_qGoesOn 2 (some .boolean) (d + 1) 247 [some (hb_r 12 0 0), some (hb_i (1 : Int32))] [] w Q)))) : hb_R yX12_qGoesOn cX12_qGoesOn 2 (some .boolean) (d + 1) 222 [some (hb_r 12 0 0), none] [hb_i xs0] w Q := by
  refine hb_if_eq (pc := 222) (tgt := 308) dX12_qGoesOn_222 (by decide) (fun c1 => ?_) (fun c1 => ?_)
  · have ht1 := h.1 c1
    refine hb_aload_n (pc := 308) (i := 0) dX12_qGoesOn_308 rfl rfl ?_
    exact hb_callV (pc := 309) (As := []) (st := []) dX12_qGoesOn_309 ml_X12_530 mf_X12_qBracket mi_X12_qBracket (ci := 12) rfl rfl (by decide) rfl rfl (Nat.le_of_ble_eq_true rfl) (Nat.le_of_ble_eq_true rfl) ht1 (fun _ _ q => q)
  · have ht1 := h.2 c1
    refine hb_aload_n (pc := 225) (i := 0) dX12_qGoesOn_225 rfl rfl ?_
    refine hb_getR (pc := 226) (g1 := 0) dX12_qGoesOn_226 fw_X12_7 cw_12 rfl (by decide) rfl (by decide) rfl ?_
    refine hb_aload_n (pc := 229) (i := 0) dX12_qGoesOn_229 rfl rfl ?_
    refine hb_getIx (pc := 230) (x := hb_fI w 12 2 0) dX12_qGoesOn_230 fw_X12_201 cw_12 rfl (by decide) rfl rfl ?_
    refine hb_iconst (pc := 233) (v := 1) dX12_qGoesOn_233 (by decide) ?_
    refine hb_isub (pc := 234) dX12_qGoesOn_234 ?_
    obtain ⟨ho2, hr2⟩ := ht1
    refine hb_ialdx (pc := 235) (x := hb_aI w 12 1 0 ((hb_fI w 12 2 0) - (1 : Int32)).toNatClampNeg) dX12_qGoesOn_235 rfl (by decide) ho2 rfl ?_
    refine hb_bipush (pc := 236) (v := 43) dX12_qGoesOn_236 (by decide) ?_
    refine hb_icmp_ne (pc := 238) (tgt := 245) dX12_qGoesOn_238 (by decide) (fun c3 => ?_) (fun c3 => ?_)
    · have ht3 := hr2.1 c3
      refine hb_iconst (pc := 245) (v := 2) dX12_qGoesOn_245 (by decide) ?_
      refine hb_istore_n (pc := 246) (i := 1) (ls1 := [some (hb_r 12 0 0), some (hb_i (2 : Int32))]) dX12_qGoesOn_246 rfl (by decide) rfl ?_
      exact ht3
    · have ht3 := hr2.2 c3
      refine hb_iconst (pc := 241) (v := 1) dX12_qGoesOn_241 (by decide) ?_
      refine hb_goto (pc := 242) (tgt := 246) dX12_qGoesOn_242 (by decide) ?_
      refine hb_istore_n (pc := 246) (i := 1) (ls1 := [some (hb_r 12 0 0), some (hb_i (1 : Int32))]) dX12_qGoesOn_246 rfl (by decide) rfl ?_
      exact ht3
set_option maxRecDepth 20000 in
theorem bk_X12_qGoesOn_247 {d : Nat} {w : hb_W} {Q : Option hb_V → hb_W → Prop} {x1 : Int32} (h : hb_O yX12_qIsOn cX12_qIsOn 2 (some .boolean) d [hb_r 12 0 0, hb_i (3 : Int32)] w (fun rv w1 => hb_R yX12_qGoesOn cX12_qGoesOn 2 (some .boolean) (d + 1) 252 [some (hb_r 12 0 0), some (hb_i x1)] (rv.toList ++ []) w1 Q)) : hb_R yX12_qGoesOn cX12_qGoesOn 2 (some .boolean) (d + 1) 247 [some (hb_r 12 0 0), some (hb_i x1)] [] w Q := by
  refine hb_aload_n (pc := 247) (i := 0) dX12_qGoesOn_247 rfl rfl ?_
  refine hb_iconst (pc := 248) (v := 3) dX12_qGoesOn_248 (by decide) ?_
  exact hb_callV (pc := 249) (As := [hb_i (3 : Int32)]) (st := []) dX12_qGoesOn_249 ml_X12_536 mf_X12_qIsOn mi_X12_qIsOn (ci := 12) rfl rfl (by decide) rfl rfl (Nat.le_of_ble_eq_true rfl) (Nat.le_of_ble_eq_true rfl) h (fun _ _ q => q)
set_option maxRecDepth 20000 in
theorem bk_X12_qGoesOn_252 {d : Nat} {w : hb_W} {Q : Option hb_V → hb_W → Prop} {x1 : Int32} {xs0 : Int32} (h : ((¬ xs0 = 0) → hb_O yX12_qDrops cX12_qDrops 1 none d [hb_r 12 0 0] w (fun rv w1 => hb_R yX12_qGoesOn cX12_qGoesOn 2 (some .boolean) (d + 1) 283 [some (hb_r 12 0 0), some (hb_i x1)] (rv.toList ++ []) w1 Q)) ∧ ((xs0 = 0) → hb_O yX12_qIsOn cX12_qIsOn 2 (some .boolean) d [hb_r 12 0 0, hb_i (4 : Int32)] w (fun rv w1 => hb_R yX12_qGoesOn cX12_qGoesOn 2 (some .boolean) (d + 1) 260 [some (hb_r 12 0 0), some (hb_i x1)] (rv.toList ++ []) w1 Q))) : hb_R yX12_qGoesOn cX12_qGoesOn 2 (some .boolean) (d + 1) 252 [some (hb_r 12 0 0), some (hb_i x1)] [hb_i xs0] w Q := by
  refine hb_if_ne (pc := 252) (tgt := 279) dX12_qGoesOn_252 (by decide) (fun c1 => ?_) (fun c1 => ?_)
  · have ht1 := h.1 c1
    refine hb_aload_n (pc := 279) (i := 0) dX12_qGoesOn_279 rfl rfl ?_
    exact hb_callV (pc := 280) (As := []) (st := []) dX12_qGoesOn_280 ml_X12_509 mf_X12_qDrops mi_X12_qDrops (ci := 12) rfl rfl (by decide) rfl rfl (Nat.le_of_ble_eq_true rfl) (Nat.le_of_ble_eq_true rfl) ht1 (fun _ _ q => q)
  · have ht1 := h.2 c1
    refine hb_aload_n (pc := 255) (i := 0) dX12_qGoesOn_255 rfl rfl ?_
    refine hb_iconst (pc := 256) (v := 4) dX12_qGoesOn_256 (by decide) ?_
    exact hb_callV (pc := 257) (As := [hb_i (4 : Int32)]) (st := []) dX12_qGoesOn_257 ml_X12_536 mf_X12_qIsOn mi_X12_qIsOn (ci := 12) rfl rfl (by decide) rfl rfl (Nat.le_of_ble_eq_true rfl) (Nat.le_of_ble_eq_true rfl) ht1 (fun _ _ q => q)
set_option maxRecDepth 20000 in
theorem bk_X12_qGoesOn_260 {d : Nat} {w : hb_W} {Q : Option hb_V → hb_W → Prop} {x1 : Int32} {xs0 : Int32} (h : ((¬ xs0 = 0) → hb_O yX12_qDrops cX12_qDrops 1 none d [hb_r 12 0 0] w (fun rv w1 => hb_R yX12_qGoesOn cX12_qGoesOn 2 (some .boolean) (d + 1) 283 [some (hb_r 12 0 0), some (hb_i x1)] (rv.toList ++ []) w1 Q)) ∧ ((xs0 = 0) → hb_O yX12_qIsOn cX12_qIsOn 2 (some .boolean) d [hb_r 12 0 0, hb_i (1 : Int32)] w (fun rv w1 => hb_R yX12_qGoesOn cX12_qGoesOn 2 (some .boolean) (d + 1) 268 [some (hb_r 12 0 0), some (hb_i x1)] (rv.toList ++ []) w1 Q))) : hb_R yX12_qGoesOn cX12_qGoesOn 2 (some .boolean) (d + 1) 260 [some (hb_r 12 0 0), some (hb_i x1)] [hb_i xs0] w Q := by
  refine hb_if_ne (pc := 260) (tgt := 279) dX12_qGoesOn_260 (by decide) (fun c1 => ?_) (fun c1 => ?_)
  · have ht1 := h.1 c1
    refine hb_aload_n (pc := 279) (i := 0) dX12_qGoesOn_279 rfl rfl ?_
    exact hb_callV (pc := 280) (As := []) (st := []) dX12_qGoesOn_280 ml_X12_509 mf_X12_qDrops mi_X12_qDrops (ci := 12) rfl rfl (by decide) rfl rfl (Nat.le_of_ble_eq_true rfl) (Nat.le_of_ble_eq_true rfl) ht1 (fun _ _ q => q)
  · have ht1 := h.2 c1
    refine hb_aload_n (pc := 263) (i := 0) dX12_qGoesOn_263 rfl rfl ?_
    refine hb_iconst (pc := 264) (v := 1) dX12_qGoesOn_264 (by decide) ?_
    exact hb_callV (pc := 265) (As := [hb_i (1 : Int32)]) (st := []) dX12_qGoesOn_265 ml_X12_536 mf_X12_qIsOn mi_X12_qIsOn (ci := 12) rfl rfl (by decide) rfl rfl (Nat.le_of_ble_eq_true rfl) (Nat.le_of_ble_eq_true rfl) ht1 (fun _ _ q => q)
set_option maxRecDepth 20000 in
theorem bk_X12_qGoesOn_268 {d : Nat} {w : hb_W} {Q : Option hb_V → hb_W → Prop} {x1 : Int32} {xs0 : Int32} (h : ((¬ xs0 = 0) → hb_O yX12_qDrops cX12_qDrops 1 none d [hb_r 12 0 0] w (fun rv w1 => hb_R yX12_qGoesOn cX12_qGoesOn 2 (some .boolean) (d + 1) 283 [some (hb_r 12 0 0), some (hb_i x1)] (rv.toList ++ []) w1 Q)) ∧ ((xs0 = 0) → hb_O yX12_qIsOn cX12_qIsOn 2 (some .boolean) d [hb_r 12 0 0, hb_i (2 : Int32)] w (fun rv w1 => hb_R yX12_qGoesOn cX12_qGoesOn 2 (some .boolean) (d + 1) 276 [some (hb_r 12 0 0), some (hb_i x1)] (rv.toList ++ []) w1 Q))) : hb_R yX12_qGoesOn cX12_qGoesOn 2 (some .boolean) (d + 1) 268 [some (hb_r 12 0 0), some (hb_i x1)] [hb_i xs0] w Q := by
  refine hb_if_ne (pc := 268) (tgt := 279) dX12_qGoesOn_268 (by decide) (fun c1 => ?_) (fun c1 => ?_)
  · have ht1 := h.1 c1
    refine hb_aload_n (pc := 279) (i := 0) dX12_qGoesOn_279 rfl rfl ?_
    exact hb_callV (pc := 280) (As := []) (st := []) dX12_qGoesOn_280 ml_X12_509 mf_X12_qDrops mi_X12_qDrops (ci := 12) rfl rfl (by decide) rfl rfl (Nat.le_of_ble_eq_true rfl) (Nat.le_of_ble_eq_true rfl) ht1 (fun _ _ q => q)
  · have ht1 := h.2 c1
    refine hb_aload_n (pc := 271) (i := 0) dX12_qGoesOn_271 rfl rfl ?_
    refine hb_iconst (pc := 272) (v := 2) dX12_qGoesOn_272 (by decide) ?_
    exact hb_callV (pc := 273) (As := [hb_i (2 : Int32)]) (st := []) dX12_qGoesOn_273 ml_X12_536 mf_X12_qIsOn mi_X12_qIsOn (ci := 12) rfl rfl (by decide) rfl rfl (Nat.le_of_ble_eq_true rfl) (Nat.le_of_ble_eq_true rfl) ht1 (fun _ _ q => q)
set_option maxRecDepth 20000 in
theorem bk_X12_qGoesOn_276 {d : Nat} {w : hb_W} {Q : Option hb_V → hb_W → Prop} {x1 : Int32} {xs0 : Int32} (h : ((xs0 = 0) → vp_in (hb_fI w 12 82 0) 1700 ∧ (Q (some (hb_i (1 : Int32))) (hb_pI (hb_sI w 12 55 0 (upd (hb_aI w 12 55 0) (hb_fI w 12 82 0).toNatClampNeg x1)) 12 82 0 ((hb_fI w 12 82 0) + (1 : Int32))))) ∧ ((¬ xs0 = 0) → hb_O yX12_qDrops cX12_qDrops 1 none d [hb_r 12 0 0] w (fun rv w1 => hb_R yX12_qGoesOn cX12_qGoesOn 2 (some .boolean) (d + 1) 283 [some (hb_r 12 0 0), some (hb_i x1)] (rv.toList ++ []) w1 Q))) : hb_R yX12_qGoesOn cX12_qGoesOn 2 (some .boolean) (d + 1) 276 [some (hb_r 12 0 0), some (hb_i x1)] [hb_i xs0] w Q := by
  refine hb_if_eq (pc := 276) (tgt := 286) dX12_qGoesOn_276 (by decide) (fun c1 => ?_) (fun c1 => ?_)
  · have ht1 := h.1 c1
    refine hb_aload_n (pc := 286) (i := 0) dX12_qGoesOn_286 rfl rfl ?_
    refine hb_getR (pc := 287) (g1 := 0) dX12_qGoesOn_287 fw_X12_182 cw_12 rfl (by decide) rfl (by decide) rfl ?_
    refine hb_aload_n (pc := 290) (i := 0) dX12_qGoesOn_290 rfl rfl ?_
    refine hb_getIx (pc := 291) (x := hb_fI w 12 82 0) dX12_qGoesOn_291 fw_X12_260 cw_12 rfl (by decide) rfl rfl ?_
    refine hb_iload_n (pc := 294) (i := 1) dX12_qGoesOn_294 rfl rfl ?_
    obtain ⟨ho2, hr2⟩ := ht1
    refine hb_iastx (pc := 295) (f := upd (hb_aI w 12 55 0) (hb_fI w 12 82 0).toNatClampNeg x1) dX12_qGoesOn_295 rfl (by decide) ho2 rfl ?_
    refine hb_aload_n (pc := 296) (i := 0) dX12_qGoesOn_296 rfl rfl ?_
    refine hb_dupr (pc := 297) dX12_qGoesOn_297 ?_
    refine hb_getIx (pc := 298) (x := hb_fI w 12 82 0) dX12_qGoesOn_298 fw_X12_260 cw_12 rfl (by decide) rfl rfl ?_
    refine hb_iconst (pc := 301) (v := 1) dX12_qGoesOn_301 (by decide) ?_
    refine hb_iadd (pc := 302) dX12_qGoesOn_302 ?_
    refine hb_putI (pc := 303) dX12_qGoesOn_303 fw_X12_260 cw_12 pw_12_82 rfl (by decide) rfl rfl rfl ?_
    refine hb_iconst (pc := 306) (v := 1) dX12_qGoesOn_306 (by decide) ?_
    exact hb_zret (pc := 307) dX12_qGoesOn_307 rfl (Or.inr rfl) hr2
  · have ht1 := h.2 c1
    refine hb_aload_n (pc := 279) (i := 0) dX12_qGoesOn_279 rfl rfl ?_
    exact hb_callV (pc := 280) (As := []) (st := []) dX12_qGoesOn_280 ml_X12_509 mf_X12_qDrops mi_X12_qDrops (ci := 12) rfl rfl (by decide) rfl rfl (Nat.le_of_ble_eq_true rfl) (Nat.le_of_ble_eq_true rfl) ht1 (fun _ _ q => q)
set_option maxRecDepth 20000 in
theorem bk_X12_qGoesOn_283 {d : Nat} {w : hb_W} {Q : Option hb_V → hb_W → Prop} {x1 : Int32} (h : hb_R yX12_qGoesOn cX12_qGoesOn 2 (some .boolean) (d + 1) 247 [some (hb_r 12 0 0), some (hb_i x1)] [] w Q) : hb_R yX12_qGoesOn cX12_qGoesOn 2 (some .boolean) (d + 1) 283 [some (hb_r 12 0 0), some (hb_i x1)] [] w Q := by
  refine hb_goto (pc := 283) (tgt := 247) dX12_qGoesOn_283 (by decide) ?_
  exact h
set_option maxRecDepth 20000 in
theorem bk_X12_qGoesOn_312 {d : Nat} {w : hb_W} {Q : Option hb_V → hb_W → Prop} {xs0 : Int32} (h : ((xs0 = (21 : Int32)) → hb_O yX12_asksSign cX12_asksSign 2 none d [hb_r 12 0 0, hb_i (44 : Int32)] w (fun rv w1 => hb_R yX12_qGoesOn cX12_qGoesOn 2 (some .boolean) (d + 1) 332 [some (hb_r 12 0 0), none] (rv.toList ++ []) w1 Q)) ∧ ((¬ xs0 = (21 : Int32)) → hb_O yX12_qBracket cX12_qBracket 2 (some .int) d [hb_r 12 0 0] w (fun rv w1 => hb_R yX12_qGoesOn cX12_qGoesOn 2 (some .boolean) (d + 1) 321 [some (hb_r 12 0 0), none] (rv.toList ++ []) w1 Q))) : hb_R yX12_qGoesOn cX12_qGoesOn 2 (some .boolean) (d + 1) 312 [some (hb_r 12 0 0), none] [hb_i xs0] w Q := by
  refine hb_bipush (pc := 312) (v := 21) dX12_qGoesOn_312 (by decide) ?_
  refine hb_icmp_eq (pc := 314) (tgt := 326) dX12_qGoesOn_314 (by decide) (fun c1 => ?_) (fun c1 => ?_)
  · have ht1 := h.1 c1
    refine hb_aload_n (pc := 326) (i := 0) dX12_qGoesOn_326 rfl rfl ?_
    refine hb_bipush (pc := 327) (v := 44) dX12_qGoesOn_327 (by decide) ?_
    exact hb_callV (pc := 329) (As := [hb_i (44 : Int32)]) (st := []) dX12_qGoesOn_329 ml_X12_253 mf_X12_asksSign mi_X12_asksSign (ci := 12) rfl rfl (by decide) rfl rfl (Nat.le_of_ble_eq_true rfl) (Nat.le_of_ble_eq_true rfl) ht1 (fun _ _ q => q)
  · have ht1 := h.2 c1
    refine hb_aload_n (pc := 317) (i := 0) dX12_qGoesOn_317 rfl rfl ?_
    exact hb_callV (pc := 318) (As := []) (st := []) dX12_qGoesOn_318 ml_X12_530 mf_X12_qBracket mi_X12_qBracket (ci := 12) rfl rfl (by decide) rfl rfl (Nat.le_of_ble_eq_true rfl) (Nat.le_of_ble_eq_true rfl) ht1 (fun _ _ q => q)
set_option maxRecDepth 20000 in
theorem bk_X12_qGoesOn_321 {d : Nat} {w : hb_W} {Q : Option hb_V → hb_W → Prop} {xs0 : Int32} (h : ((¬ xs0 = (22 : Int32)) → hb_O yX12_qBracket cX12_qBracket 2 (some .int) d [hb_r 12 0 0] w (fun rv w1 => hb_R yX12_qGoesOn cX12_qGoesOn 2 (some .boolean) (d + 1) 366 [some (hb_r 12 0 0), none] (rv.toList ++ []) w1 Q)) ∧ ((xs0 = (22 : Int32)) → hb_O yX12_asksSign cX12_asksSign 2 none d [hb_r 12 0 0, hb_i (44 : Int32)] w (fun rv w1 => hb_R yX12_qGoesOn cX12_qGoesOn 2 (some .boolean) (d + 1) 332 [some (hb_r 12 0 0), none] (rv.toList ++ []) w1 Q))) : hb_R yX12_qGoesOn cX12_qGoesOn 2 (some .boolean) (d + 1) 321 [some (hb_r 12 0 0), none] [hb_i xs0] w Q := by
  refine hb_bipush (pc := 321) (v := 22) dX12_qGoesOn_321 (by decide) ?_
  refine hb_icmp_ne (pc := 323) (tgt := 362) dX12_qGoesOn_323 (by decide) (fun c1 => ?_) (fun c1 => ?_)
  · have ht1 := h.1 c1
    refine hb_aload_n (pc := 362) (i := 0) dX12_qGoesOn_362 rfl rfl ?_
    exact hb_callV (pc := 363) (As := []) (st := []) dX12_qGoesOn_363 ml_X12_530 mf_X12_qBracket mi_X12_qBracket (ci := 12) rfl rfl (by decide) rfl rfl (Nat.le_of_ble_eq_true rfl) (Nat.le_of_ble_eq_true rfl) ht1 (fun _ _ q => q)
  · have ht1 := h.2 c1
    refine hb_aload_n (pc := 326) (i := 0) dX12_qGoesOn_326 rfl rfl ?_
    refine hb_bipush (pc := 327) (v := 44) dX12_qGoesOn_327 (by decide) ?_
    exact hb_callV (pc := 329) (As := [hb_i (44 : Int32)]) (st := []) dX12_qGoesOn_329 ml_X12_253 mf_X12_asksSign mi_X12_asksSign (ci := 12) rfl rfl (by decide) rfl rfl (Nat.le_of_ble_eq_true rfl) (Nat.le_of_ble_eq_true rfl) ht1 (fun _ _ q => q)
set_option maxRecDepth 20000 in
theorem bk_X12_qGoesOn_332 {d : Nat} {w : hb_W} {Q : Option hb_V → hb_W → Prop} (h : (((hb_fI w 12 5 0) = 0) → hb_O yX12_qDropsToBracket cX12_qDropsToBracket 1 none d [hb_r 12 0 0] w (fun rv w1 => hb_R yX12_qGoesOn cX12_qGoesOn 2 (some .boolean) (d + 1) 345 [some (hb_r 12 0 0), none] (rv.toList ++ []) w1 Q)) ∧ ((¬ (hb_fI w 12 5 0) = 0) → Q (some (hb_i (0 : Int32))) w)) : hb_R yX12_qGoesOn cX12_qGoesOn 2 (some .boolean) (d + 1) 332 [some (hb_r 12 0 0), none] [] w Q := by
  refine hb_aload_n (pc := 332) (i := 0) dX12_qGoesOn_332 rfl rfl ?_
  refine hb_getIx (pc := 333) (x := hb_fI w 12 5 0) dX12_qGoesOn_333 fw_X12_195 cw_12 rfl (by decide) rfl rfl ?_
  refine hb_if_eq (pc := 336) (tgt := 341) dX12_qGoesOn_336 (by decide) (fun c1 => ?_) (fun c1 => ?_)
  · have ht1 := h.1 c1
    refine hb_aload_n (pc := 341) (i := 0) dX12_qGoesOn_341 rfl rfl ?_
    exact hb_callV (pc := 342) (As := []) (st := []) dX12_qGoesOn_342 ml_X12_533 mf_X12_qDropsToBracket mi_X12_qDropsToBracket (ci := 12) rfl rfl (by decide) rfl rfl (Nat.le_of_ble_eq_true rfl) (Nat.le_of_ble_eq_true rfl) ht1 (fun _ _ q => q)
  · have ht1 := h.2 c1
    refine hb_iconst (pc := 339) (v := 0) dX12_qGoesOn_339 (by decide) ?_
    exact hb_zret (pc := 340) dX12_qGoesOn_340 rfl (Or.inl rfl) ht1
set_option maxRecDepth 20000 in
theorem bk_X12_qGoesOn_345 {d : Nat} {w : hb_W} {Q : Option hb_V → hb_W → Prop} (h : vp_in ((hb_fI w 12 82 0) - (1 : Int32)) 1700 ∧ (vp_in ((hb_fI w 12 82 0) - (1 : Int32)) 1700 ∧ (Q (some (hb_i (1 : Int32))) (hb_sI w 12 55 0 (upd (hb_aI w 12 55 0) ((hb_fI w 12 82 0) - (1 : Int32)).toNatClampNeg ((hb_aI w 12 55 0 ((hb_fI w 12 82 0) - (1 : Int32)).toNatClampNeg) + (2 : Int32))))))) : hb_R yX12_qGoesOn cX12_qGoesOn 2 (some .boolean) (d + 1) 345 [some (hb_r 12 0 0), none] [] w Q := by
  refine hb_aload_n (pc := 345) (i := 0) dX12_qGoesOn_345 rfl rfl ?_
  refine hb_getR (pc := 346) (g1 := 0) dX12_qGoesOn_346 fw_X12_182 cw_12 rfl (by decide) rfl (by decide) rfl ?_
  refine hb_aload_n (pc := 349) (i := 0) dX12_qGoesOn_349 rfl rfl ?_
  refine hb_getIx (pc := 350) (x := hb_fI w 12 82 0) dX12_qGoesOn_350 fw_X12_260 cw_12 rfl (by decide) rfl rfl ?_
  refine hb_iconst (pc := 353) (v := 1) dX12_qGoesOn_353 (by decide) ?_
  refine hb_isub (pc := 354) dX12_qGoesOn_354 ?_
  refine hb_dup2ir (pc := 355) dX12_qGoesOn_355 ?_
  obtain ⟨ho1, hr1⟩ := h
  refine hb_ialdx (pc := 356) (x := hb_aI w 12 55 0 ((hb_fI w 12 82 0) - (1 : Int32)).toNatClampNeg) dX12_qGoesOn_356 rfl (by decide) ho1 rfl ?_
  refine hb_iconst (pc := 357) (v := 2) dX12_qGoesOn_357 (by decide) ?_
  refine hb_iadd (pc := 358) dX12_qGoesOn_358 ?_
  obtain ⟨ho2, hr2⟩ := hr1
  refine hb_iastx (pc := 359) (f := upd (hb_aI w 12 55 0) ((hb_fI w 12 82 0) - (1 : Int32)).toNatClampNeg ((hb_aI w 12 55 0 ((hb_fI w 12 82 0) - (1 : Int32)).toNatClampNeg) + (2 : Int32))) dX12_qGoesOn_359 rfl (by decide) ho2 rfl ?_
  refine hb_iconst (pc := 360) (v := 1) dX12_qGoesOn_360 (by decide) ?_
  exact hb_zret (pc := 361) dX12_qGoesOn_361 rfl (Or.inr rfl) hr2
set_option maxRecDepth 20000 in
theorem bk_X12_qGoesOn_366 {d : Nat} {w : hb_W} {Q : Option hb_V → hb_W → Prop} {xs0 : Int32} (h : ((xs0 = (-1 : Int32)) → hb_R yX12_qGoesOn cX12_qGoesOn 2 (some .boolean) (d + 1) 386 [some (hb_r 12 0 0), none] [] w Q) ∧ ((¬ xs0 = (-1 : Int32)) → ((¬ (hb_fI w 12 5 0) = 0) → hb_R yX12_qGoesOn cX12_qGoesOn 2 (some .boolean) (d + 1) 386 [some (hb_r 12 0 0), none] [] w Q) ∧ (((hb_fI w 12 5 0) = 0) → hb_O yX12_fail cX12_fail 3 none d [hb_r 12 0 0, hb_i (1 : Int32), hb_i (hb_fI w 12 2 0)] w (fun rv w1 => hb_R yX12_qGoesOn cX12_qGoesOn 2 (some .boolean) (d + 1) 386 [some (hb_r 12 0 0), none] (rv.toList ++ []) w1 Q)))) : hb_R yX12_qGoesOn cX12_qGoesOn 2 (some .boolean) (d + 1) 366 [some (hb_r 12 0 0), none] [hb_i xs0] w Q := by
  refine hb_iconst (pc := 366) (v := -1) dX12_qGoesOn_366 (by decide) ?_
  refine hb_icmp_eq (pc := 367) (tgt := 386) dX12_qGoesOn_367 (by decide) (fun c1 => ?_) (fun c1 => ?_)
  · have ht1 := h.1 c1
    exact ht1
  · have ht1 := h.2 c1
    refine hb_aload_n (pc := 370) (i := 0) dX12_qGoesOn_370 rfl rfl ?_
    refine hb_getIx (pc := 371) (x := hb_fI w 12 5 0) dX12_qGoesOn_371 fw_X12_195 cw_12 rfl (by decide) rfl rfl ?_
    refine hb_if_ne (pc := 374) (tgt := 386) dX12_qGoesOn_374 (by decide) (fun c2 => ?_) (fun c2 => ?_)
    · have ht2 := ht1.1 c2
      exact ht2
    · have ht2 := ht1.2 c2
      refine hb_aload_n (pc := 377) (i := 0) dX12_qGoesOn_377 rfl rfl ?_
      refine hb_iconst (pc := 378) (v := 1) dX12_qGoesOn_378 (by decide) ?_
      refine hb_aload_n (pc := 379) (i := 0) dX12_qGoesOn_379 rfl rfl ?_
      refine hb_getIx (pc := 380) (x := hb_fI w 12 2 0) dX12_qGoesOn_380 fw_X12_201 cw_12 rfl (by decide) rfl rfl ?_
      exact hb_callV (pc := 383) (As := [hb_i (1 : Int32), hb_i (hb_fI w 12 2 0)]) (st := []) dX12_qGoesOn_383 ml_X12_225 mf_X12_fail mi_X12_fail (ci := 12) rfl rfl (by decide) rfl rfl (Nat.le_of_ble_eq_true rfl) (Nat.le_of_ble_eq_true rfl) ht2 (fun _ _ q => q)
set_option maxRecDepth 20000 in
theorem bk_X12_qGoesOn_386 {d : Nat} {w : hb_W} {Q : Option hb_V → hb_W → Prop} (h : Q (some (hb_i (0 : Int32))) w) : hb_R yX12_qGoesOn cX12_qGoesOn 2 (some .boolean) (d + 1) 386 [some (hb_r 12 0 0), none] [] w Q := by
  refine hb_iconst (pc := 386) (v := 0) dX12_qGoesOn_386 (by decide) ?_
  exact hb_zret (pc := 387) dX12_qGoesOn_387 rfl (Or.inl rfl) h
theorem dX12_qSums_0 : decode cX12_qSums 0 = .ok (.aload_n 0, 1) := by decide +kernel
theorem dX12_qSums_1 : decode cX12_qSums 1 = .ok (.getfield 266, 3) := by decide +kernel
theorem dX12_qSums_4 : decode cX12_qSums 4 = .ok (.istore_n 1, 1) := by decide +kernel
theorem dX12_qSums_5 : decode cX12_qSums 5 = .ok (.aload_n 0, 1) := by decide +kernel
theorem dX12_qSums_6 : decode cX12_qSums 6 = .ok (.aload_n 0, 1) := by decide +kernel
theorem dX12_qSums_7 : decode cX12_qSums 7 = .ok (.getfield 260, 3) := by decide +kernel
theorem dX12_qSums_10 : decode cX12_qSums 10 = .ok (.putfield 266, 3) := by decide +kernel
theorem dX12_qSums_13 : decode cX12_qSums 13 = .ok (.iconst 1, 1) := by decide +kernel
theorem dX12_qSums_14 : decode cX12_qSums 14 = .ok (.istore_n 2, 1) := by decide +kernel
theorem dX12_qSums_15 : decode cX12_qSums 15 = .ok (.iload_n 2, 1) := by decide +kernel
theorem dX12_qSums_16 : decode cX12_qSums 16 = .ok (.ifCond .eq 37, 3) := by decide +kernel
theorem dX12_qSums_19 : decode cX12_qSums 19 = .ok (.aload_n 0, 1) := by decide +kernel
theorem dX12_qSums_20 : decode cX12_qSums 20 = .ok (.getfield 195, 3) := by decide +kernel
theorem dX12_qSums_23 : decode cX12_qSums 23 = .ok (.ifCond .ne 30, 3) := by decide +kernel
theorem dX12_qSums_26 : decode cX12_qSums 26 = .ok (.aload_n 0, 1) := by decide +kernel
theorem dX12_qSums_27 : decode cX12_qSums 27 = .ok (.invokevirtual 539, 3) := by decide +kernel
theorem dX12_qSums_30 : decode cX12_qSums 30 = .ok (.aload_n 0, 1) := by decide +kernel
theorem dX12_qSums_31 : decode cX12_qSums 31 = .ok (.getfield 195, 3) := by decide +kernel
theorem dX12_qSums_34 : decode cX12_qSums 34 = .ok (.ifCond .ne 14, 3) := by decide +kernel
theorem dX12_qSums_37 : decode cX12_qSums 37 = .ok (.aload_n 0, 1) := by decide +kernel
theorem dX12_qSums_38 : decode cX12_qSums 38 = .ok (.invokevirtual 542, 3) := by decide +kernel
theorem dX12_qSums_41 : decode cX12_qSums 41 = .ok (.ifCond .eq 7, 3) := by decide +kernel
theorem dX12_qSums_44 : decode cX12_qSums 44 = .ok (.iconst 1, 1) := by decide +kernel
theorem dX12_qSums_45 : decode cX12_qSums 45 = .ok (.goto 4, 3) := by decide +kernel
theorem dX12_qSums_48 : decode cX12_qSums 48 = .ok (.iconst 0, 1) := by decide +kernel
theorem dX12_qSums_49 : decode cX12_qSums 49 = .ok (.istore_n 2, 1) := by decide +kernel
theorem dX12_qSums_50 : decode cX12_qSums 50 = .ok (.goto (-35), 3) := by decide +kernel
theorem dX12_qSums_53 : decode cX12_qSums 53 = .ok (.aload_n 0, 1) := by decide +kernel
theorem dX12_qSums_54 : decode cX12_qSums 54 = .ok (.getfield 195, 3) := by decide +kernel
theorem dX12_qSums_57 : decode cX12_qSums 57 = .ok (.ifCond .ne 21, 3) := by decide +kernel
theorem dX12_qSums_60 : decode cX12_qSums 60 = .ok (.aload_n 0, 1) := by decide +kernel
theorem dX12_qSums_61 : decode cX12_qSums 61 = .ok (.getfield 260, 3) := by decide +kernel
theorem dX12_qSums_64 : decode cX12_qSums 64 = .ok (.aload_n 0, 1) := by decide +kernel
theorem dX12_qSums_65 : decode cX12_qSums 65 = .ok (.getfield 266, 3) := by decide +kernel
theorem dX12_qSums_68 : decode cX12_qSums 68 = .ok (.if_icmp .le 10, 3) := by decide +kernel
theorem dX12_qSums_71 : decode cX12_qSums 71 = .ok (.aload_n 0, 1) := by decide +kernel
theorem dX12_qSums_72 : decode cX12_qSums 72 = .ok (.invokevirtual 509, 3) := by decide +kernel
theorem dX12_qSums_75 : decode cX12_qSums 75 = .ok (.goto (-22), 3) := by decide +kernel
theorem dX12_qSums_78 : decode cX12_qSums 78 = .ok (.aload_n 0, 1) := by decide +kernel
theorem dX12_qSums_79 : decode cX12_qSums 79 = .ok (.iload_n 1, 1) := by decide +kernel
theorem dX12_qSums_80 : decode cX12_qSums 80 = .ok (.putfield 266, 3) := by decide +kernel
theorem dX12_qSums_83 : decode cX12_qSums 83 = .ok (.return_, 1) := by decide +kernel
set_option maxRecDepth 20000 in
theorem bk_X12_qSums_0 {d : Nat} {w : hb_W} {Q : Option hb_V → hb_W → Prop} (h : hb_R yX12_qSums cX12_qSums 3 none (d + 1) 15 [some (hb_r 12 0 0), some (hb_i (hb_fI w 12 84 0)), some (hb_i (1 : Int32))] [] (hb_pI w 12 84 0 (hb_fI w 12 82 0)) Q) : hb_R yX12_qSums cX12_qSums 3 none (d + 1) 0 [some (hb_r 12 0 0), none, none] [] w Q := by
  refine hb_aload_n (pc := 0) (i := 0) dX12_qSums_0 rfl rfl ?_
  refine hb_getIx (pc := 1) (x := hb_fI w 12 84 0) dX12_qSums_1 fw_X12_266 cw_12 rfl (by decide) rfl rfl ?_
  refine hb_istore_n (pc := 4) (i := 1) (ls1 := [some (hb_r 12 0 0), some (hb_i (hb_fI w 12 84 0)), none]) dX12_qSums_4 rfl (by decide) rfl ?_
  refine hb_aload_n (pc := 5) (i := 0) dX12_qSums_5 rfl rfl ?_
  refine hb_aload_n (pc := 6) (i := 0) dX12_qSums_6 rfl rfl ?_
  refine hb_getIx (pc := 7) (x := hb_fI w 12 82 0) dX12_qSums_7 fw_X12_260 cw_12 rfl (by decide) rfl rfl ?_
  refine hb_putI (pc := 10) dX12_qSums_10 fw_X12_266 cw_12 pw_12_84 rfl (by decide) rfl rfl rfl ?_
  refine hb_iconst (pc := 13) (v := 1) dX12_qSums_13 (by decide) ?_
  refine hb_istore_n (pc := 14) (i := 2) (ls1 := [some (hb_r 12 0 0), some (hb_i (hb_fI w 12 84 0)), some (hb_i (1 : Int32))]) dX12_qSums_14 rfl (by decide) rfl ?_
  exact h
set_option maxRecDepth 20000 in
theorem bk_X12_qSums_15 {d : Nat} {w : hb_W} {Q : Option hb_V → hb_W → Prop} {x1 : Int32} {x2 : Int32} (h : ((x2 = 0) → hb_R yX12_qSums cX12_qSums 3 none (d + 1) 53 [some (hb_r 12 0 0), some (hb_i x1), some (hb_i x2)] [] w Q) ∧ ((¬ x2 = 0) → ((¬ (hb_fI w 12 5 0) = 0) → hb_R yX12_qSums cX12_qSums 3 none (d + 1) 53 [some (hb_r 12 0 0), some (hb_i x1), some (hb_i x2)] [] w Q) ∧ (((hb_fI w 12 5 0) = 0) → hb_O yX12_qPartTold cX12_qPartTold 6 none d [hb_r 12 0 0] w (fun rv w1 => hb_R yX12_qSums cX12_qSums 3 none (d + 1) 30 [some (hb_r 12 0 0), some (hb_i x1), some (hb_i x2)] (rv.toList ++ []) w1 Q)))) : hb_R yX12_qSums cX12_qSums 3 none (d + 1) 15 [some (hb_r 12 0 0), some (hb_i x1), some (hb_i x2)] [] w Q := by
  refine hb_iload_n (pc := 15) (i := 2) dX12_qSums_15 rfl rfl ?_
  refine hb_if_eq (pc := 16) (tgt := 53) dX12_qSums_16 (by decide) (fun c1 => ?_) (fun c1 => ?_)
  · have ht1 := h.1 c1
    exact ht1
  · have ht1 := h.2 c1
    refine hb_aload_n (pc := 19) (i := 0) dX12_qSums_19 rfl rfl ?_
    refine hb_getIx (pc := 20) (x := hb_fI w 12 5 0) dX12_qSums_20 fw_X12_195 cw_12 rfl (by decide) rfl rfl ?_
    refine hb_if_ne (pc := 23) (tgt := 53) dX12_qSums_23 (by decide) (fun c2 => ?_) (fun c2 => ?_)
    · have ht2 := ht1.1 c2
      exact ht2
    · have ht2 := ht1.2 c2
      refine hb_aload_n (pc := 26) (i := 0) dX12_qSums_26 rfl rfl ?_
      exact hb_callV (pc := 27) (As := []) (st := []) dX12_qSums_27 ml_X12_539 mf_X12_qPartTold mi_X12_qPartTold (ci := 12) rfl rfl (by decide) rfl rfl (Nat.le_of_ble_eq_true rfl) (Nat.le_of_ble_eq_true rfl) ht2 (fun _ _ q => q)
set_option maxRecDepth 20000 in
theorem bk_X12_qSums_30 {d : Nat} {w : hb_W} {Q : Option hb_V → hb_W → Prop} {x1 : Int32} {x2 : Int32} (h : ((¬ (hb_fI w 12 5 0) = 0) → hb_R yX12_qSums cX12_qSums 3 none (d + 1) 15 [some (hb_r 12 0 0), some (hb_i x1), some (hb_i (0 : Int32))] [] w Q) ∧ (((hb_fI w 12 5 0) = 0) → hb_O yX12_qGoesOn cX12_qGoesOn 2 (some .boolean) d [hb_r 12 0 0] w (fun rv w1 => hb_R yX12_qSums cX12_qSums 3 none (d + 1) 41 [some (hb_r 12 0 0), some (hb_i x1), some (hb_i x2)] (rv.toList ++ []) w1 Q))) : hb_R yX12_qSums cX12_qSums 3 none (d + 1) 30 [some (hb_r 12 0 0), some (hb_i x1), some (hb_i x2)] [] w Q := by
  refine hb_aload_n (pc := 30) (i := 0) dX12_qSums_30 rfl rfl ?_
  refine hb_getIx (pc := 31) (x := hb_fI w 12 5 0) dX12_qSums_31 fw_X12_195 cw_12 rfl (by decide) rfl rfl ?_
  refine hb_if_ne (pc := 34) (tgt := 48) dX12_qSums_34 (by decide) (fun c1 => ?_) (fun c1 => ?_)
  · have ht1 := h.1 c1
    refine hb_iconst (pc := 48) (v := 0) dX12_qSums_48 (by decide) ?_
    refine hb_istore_n (pc := 49) (i := 2) (ls1 := [some (hb_r 12 0 0), some (hb_i x1), some (hb_i (0 : Int32))]) dX12_qSums_49 rfl (by decide) rfl ?_
    refine hb_goto (pc := 50) (tgt := 15) dX12_qSums_50 (by decide) ?_
    exact ht1
  · have ht1 := h.2 c1
    refine hb_aload_n (pc := 37) (i := 0) dX12_qSums_37 rfl rfl ?_
    exact hb_callV (pc := 38) (As := []) (st := []) dX12_qSums_38 ml_X12_542 mf_X12_qGoesOn mi_X12_qGoesOn (ci := 12) rfl rfl (by decide) rfl rfl (Nat.le_of_ble_eq_true rfl) (Nat.le_of_ble_eq_true rfl) ht1 (fun _ _ q => q)
set_option maxRecDepth 20000 in
theorem bk_X12_qSums_41 {d : Nat} {w : hb_W} {Q : Option hb_V → hb_W → Prop} {x1 : Int32} {x2 : Int32} {xs0 : Int32} (h : ((xs0 = 0) → hb_R yX12_qSums cX12_qSums 3 none (d + 1) 15 [some (hb_r 12 0 0), some (hb_i x1), some (hb_i (0 : Int32))] [] w Q) ∧ ((¬ xs0 = 0) → hb_R yX12_qSums cX12_qSums 3 none (d + 1) 15 [some (hb_r 12 0 0), some (hb_i x1), some (hb_i (1 : Int32))] [] w Q)) : hb_R yX12_qSums cX12_qSums 3 none (d + 1) 41 [some (hb_r 12 0 0), some (hb_i x1), some (hb_i x2)] [hb_i xs0] w Q := by
  refine hb_if_eq (pc := 41) (tgt := 48) dX12_qSums_41 (by decide) (fun c1 => ?_) (fun c1 => ?_)
  · have ht1 := h.1 c1
    refine hb_iconst (pc := 48) (v := 0) dX12_qSums_48 (by decide) ?_
    refine hb_istore_n (pc := 49) (i := 2) (ls1 := [some (hb_r 12 0 0), some (hb_i x1), some (hb_i (0 : Int32))]) dX12_qSums_49 rfl (by decide) rfl ?_
    refine hb_goto (pc := 50) (tgt := 15) dX12_qSums_50 (by decide) ?_
    exact ht1
  · have ht1 := h.2 c1
    refine hb_iconst (pc := 44) (v := 1) dX12_qSums_44 (by decide) ?_
    refine hb_goto (pc := 45) (tgt := 49) dX12_qSums_45 (by decide) ?_
    refine hb_istore_n (pc := 49) (i := 2) (ls1 := [some (hb_r 12 0 0), some (hb_i x1), some (hb_i (1 : Int32))]) dX12_qSums_49 rfl (by decide) rfl ?_
    refine hb_goto (pc := 50) (tgt := 15) dX12_qSums_50 (by decide) ?_
    exact ht1
set_option maxRecDepth 20000 in
theorem bk_X12_qSums_53 {d : Nat} {w : hb_W} {Q : Option hb_V → hb_W → Prop} {x1 : Int32} {x2 : Int32} (h : ((¬ (hb_fI w 12 5 0) = 0) → Q none (hb_pI w 12 84 0 x1)) ∧ (((hb_fI w 12 5 0) = 0) → (((hb_fI w 12 82 0) ≤ (hb_fI w 12 84 0)) → Q none (hb_pI w 12 84 0 x1)) ∧ ((¬ (hb_fI w 12 82 0) ≤ (hb_fI w 12 84 0)) → hb_O yX12_qDrops cX12_qDrops 1 none d [hb_r 12 0 0] w (fun rv w1 => hb_R yX12_qSums cX12_qSums 3 none (d + 1) 75 [some (hb_r 12 0 0), some (hb_i x1), some (hb_i x2)] (rv.toList ++ []) w1 Q)))) : hb_R yX12_qSums cX12_qSums 3 none (d + 1) 53 [some (hb_r 12 0 0), some (hb_i x1), some (hb_i x2)] [] w Q := by
  refine hb_aload_n (pc := 53) (i := 0) dX12_qSums_53 rfl rfl ?_
  refine hb_getIx (pc := 54) (x := hb_fI w 12 5 0) dX12_qSums_54 fw_X12_195 cw_12 rfl (by decide) rfl rfl ?_
  refine hb_if_ne (pc := 57) (tgt := 78) dX12_qSums_57 (by decide) (fun c1 => ?_) (fun c1 => ?_)
  · have ht1 := h.1 c1
    refine hb_aload_n (pc := 78) (i := 0) dX12_qSums_78 rfl rfl ?_
    refine hb_iload_n (pc := 79) (i := 1) dX12_qSums_79 rfl rfl ?_
    refine hb_putI (pc := 80) dX12_qSums_80 fw_X12_266 cw_12 pw_12_84 rfl (by decide) rfl rfl rfl ?_
    exact hb_vret (pc := 83) dX12_qSums_83 rfl ht1
  · have ht1 := h.2 c1
    refine hb_aload_n (pc := 60) (i := 0) dX12_qSums_60 rfl rfl ?_
    refine hb_getIx (pc := 61) (x := hb_fI w 12 82 0) dX12_qSums_61 fw_X12_260 cw_12 rfl (by decide) rfl rfl ?_
    refine hb_aload_n (pc := 64) (i := 0) dX12_qSums_64 rfl rfl ?_
    refine hb_getIx (pc := 65) (x := hb_fI w 12 84 0) dX12_qSums_65 fw_X12_266 cw_12 rfl (by decide) rfl rfl ?_
    refine hb_icmp_le (pc := 68) (tgt := 78) dX12_qSums_68 (by decide) (fun c2 => ?_) (fun c2 => ?_)
    · have ht2 := ht1.1 c2
      refine hb_aload_n (pc := 78) (i := 0) dX12_qSums_78 rfl rfl ?_
      refine hb_iload_n (pc := 79) (i := 1) dX12_qSums_79 rfl rfl ?_
      refine hb_putI (pc := 80) dX12_qSums_80 fw_X12_266 cw_12 pw_12_84 rfl (by decide) rfl rfl rfl ?_
      exact hb_vret (pc := 83) dX12_qSums_83 rfl ht2
    · have ht2 := ht1.2 c2
      refine hb_aload_n (pc := 71) (i := 0) dX12_qSums_71 rfl rfl ?_
      exact hb_callV (pc := 72) (As := []) (st := []) dX12_qSums_72 ml_X12_509 mf_X12_qDrops mi_X12_qDrops (ci := 12) rfl rfl (by decide) rfl rfl (Nat.le_of_ble_eq_true rfl) (Nat.le_of_ble_eq_true rfl) ht2 (fun _ _ q => q)
set_option maxRecDepth 20000 in
theorem bk_X12_qSums_75 {d : Nat} {w : hb_W} {Q : Option hb_V → hb_W → Prop} {x1 : Int32} {x2 : Int32} (h : hb_R yX12_qSums cX12_qSums 3 none (d + 1) 53 [some (hb_r 12 0 0), some (hb_i x1), some (hb_i x2)] [] w Q) : hb_R yX12_qSums cX12_qSums 3 none (d + 1) 75 [some (hb_r 12 0 0), some (hb_i x1), some (hb_i x2)] [] w Q := by
  refine hb_goto (pc := 75) (tgt := 53) dX12_qSums_75 (by decide) ?_
  exact h
theorem dX12_qFact_0 : decode cX12_qFact 0 = .ok (.aload_n 0, 1) := by decide +kernel
theorem dX12_qFact_1 : decode cX12_qFact 1 = .ok (.aload_n 0, 1) := by decide +kernel
theorem dX12_qFact_2 : decode cX12_qFact 2 = .ok (.getfield 143, 3) := by decide +kernel
theorem dX12_qFact_5 : decode cX12_qFact 5 = .ok (.invokevirtual 222, 3) := by decide +kernel
theorem dX12_qFact_8 : decode cX12_qFact 8 = .ok (.ifCond .eq 10, 3) := by decide +kernel
theorem dX12_qFact_11 : decode cX12_qFact 11 = .ok (.aload_n 0, 1) := by decide +kernel
theorem dX12_qFact_12 : decode cX12_qFact 12 = .ok (.bipush 13, 2) := by decide +kernel
theorem dX12_qFact_14 : decode cX12_qFact 14 = .ok (.invokevirtual 503, 3) := by decide +kernel
theorem dX12_qFact_17 : decode cX12_qFact 17 = .ok (.return_, 1) := by decide +kernel
theorem dX12_qFact_18 : decode cX12_qFact 18 = .ok (.aload_n 0, 1) := by decide +kernel
theorem dX12_qFact_19 : decode cX12_qFact 19 = .ok (.invokevirtual 269, 3) := by decide +kernel
theorem dX12_qFact_22 : decode cX12_qFact 22 = .ok (.aload_n 0, 1) := by decide +kernel
theorem dX12_qFact_23 : decode cX12_qFact 23 = .ok (.getfield 195, 3) := by decide +kernel
theorem dX12_qFact_26 : decode cX12_qFact 26 = .ok (.ifCond .eq 4, 3) := by decide +kernel
theorem dX12_qFact_29 : decode cX12_qFact 29 = .ok (.return_, 1) := by decide +kernel
theorem dX12_qFact_30 : decode cX12_qFact 30 = .ok (.aload_n 0, 1) := by decide +kernel
theorem dX12_qFact_31 : decode cX12_qFact 31 = .ok (.invokevirtual 207, 3) := by decide +kernel
theorem dX12_qFact_34 : decode cX12_qFact 34 = .ok (.istore_n 1, 1) := by decide +kernel
theorem dX12_qFact_35 : decode cX12_qFact 35 = .ok (.iload_n 1, 1) := by decide +kernel
theorem dX12_qFact_36 : decode cX12_qFact 36 = .ok (.bipush 60, 2) := by decide +kernel
theorem dX12_qFact_38 : decode cX12_qFact 38 = .ok (.if_icmp .eq 25, 3) := by decide +kernel
theorem dX12_qFact_41 : decode cX12_qFact 41 = .ok (.iload_n 1, 1) := by decide +kernel
theorem dX12_qFact_42 : decode cX12_qFact 42 = .ok (.bipush 62, 2) := by decide +kernel
theorem dX12_qFact_44 : decode cX12_qFact 44 = .ok (.if_icmp .eq 19, 3) := by decide +kernel
theorem dX12_qFact_47 : decode cX12_qFact 47 = .ok (.iload_n 1, 1) := by decide +kernel
theorem dX12_qFact_48 : decode cX12_qFact 48 = .ok (.bipush 61, 2) := by decide +kernel
theorem dX12_qFact_50 : decode cX12_qFact 50 = .ok (.if_icmp .eq 13, 3) := by decide +kernel
theorem dX12_qFact_53 : decode cX12_qFact 53 = .ok (.aload_n 0, 1) := by decide +kernel
theorem dX12_qFact_54 : decode cX12_qFact 54 = .ok (.iconst 1, 1) := by decide +kernel
theorem dX12_qFact_55 : decode cX12_qFact 55 = .ok (.aload_n 0, 1) := by decide +kernel
theorem dX12_qFact_56 : decode cX12_qFact 56 = .ok (.getfield 201, 3) := by decide +kernel
theorem dX12_qFact_59 : decode cX12_qFact 59 = .ok (.invokevirtual 225, 3) := by decide +kernel
theorem dX12_qFact_62 : decode cX12_qFact 62 = .ok (.return_, 1) := by decide +kernel
theorem dX12_qFact_63 : decode cX12_qFact 63 = .ok (.aload_n 0, 1) := by decide +kernel
theorem dX12_qFact_64 : decode cX12_qFact 64 = .ok (.dup, 1) := by decide +kernel
theorem dX12_qFact_65 : decode cX12_qFact 65 = .ok (.getfield 201, 3) := by decide +kernel
theorem dX12_qFact_68 : decode cX12_qFact 68 = .ok (.iconst 1, 1) := by decide +kernel
theorem dX12_qFact_69 : decode cX12_qFact 69 = .ok (.iadd, 1) := by decide +kernel
theorem dX12_qFact_70 : decode cX12_qFact 70 = .ok (.putfield 201, 3) := by decide +kernel
theorem dX12_qFact_73 : decode cX12_qFact 73 = .ok (.aload_n 0, 1) := by decide +kernel
theorem dX12_qFact_74 : decode cX12_qFact 74 = .ok (.invokevirtual 269, 3) := by decide +kernel
theorem dX12_qFact_77 : decode cX12_qFact 77 = .ok (.aload_n 0, 1) := by decide +kernel
theorem dX12_qFact_78 : decode cX12_qFact 78 = .ok (.iload_n 1, 1) := by decide +kernel
theorem dX12_qFact_79 : decode cX12_qFact 79 = .ok (.bipush 60, 2) := by decide +kernel
theorem dX12_qFact_81 : decode cX12_qFact 81 = .ok (.if_icmp .ne 8, 3) := by decide +kernel
theorem dX12_qFact_84 : decode cX12_qFact 84 = .ok (.bipush 7, 2) := by decide +kernel
theorem dX12_qFact_86 : decode cX12_qFact 86 = .ok (.goto 16, 3) := by decide +kernel
theorem dX12_qFact_89 : decode cX12_qFact 89 = .ok (.iload_n 1, 1) := by decide +kernel
theorem dX12_qFact_90 : decode cX12_qFact 90 = .ok (.bipush 62, 2) := by decide +kernel
theorem dX12_qFact_92 : decode cX12_qFact 92 = .ok (.if_icmp .ne 8, 3) := by decide +kernel
theorem dX12_qFact_95 : decode cX12_qFact 95 = .ok (.bipush 8, 2) := by decide +kernel
theorem dX12_qFact_97 : decode cX12_qFact 97 = .ok (.goto 5, 3) := by decide +kernel
theorem dX12_qFact_100 : decode cX12_qFact 100 = .ok (.bipush 9, 2) := by decide +kernel
theorem dX12_qFact_102 : decode cX12_qFact 102 = .ok (.invokevirtual 503, 3) := by decide +kernel
theorem dX12_qFact_105 : decode cX12_qFact 105 = .ok (.return_, 1) := by decide +kernel
set_option maxRecDepth 20000 in
theorem bk_X12_qFact_0 {d : Nat} {w : hb_W} {Q : Option hb_V → hb_W → Prop} (h : hb_O yX12_takes cX12_takes 2 (some .boolean) d [hb_r 12 0 0, hb_r 12 0 42] w (fun rv w1 => hb_R yX12_qFact cX12_qFact 2 none (d + 1) 8 [some (hb_r 12 0 0), none] (rv.toList ++ []) w1 Q)) : hb_R yX12_qFact cX12_qFact 2 none (d + 1) 0 [some (hb_r 12 0 0), none] [] w Q := by
  refine hb_aload_n (pc := 0) (i := 0) dX12_qFact_0 rfl rfl ?_
  refine hb_aload_n (pc := 1) (i := 0) dX12_qFact_1 rfl rfl ?_
  refine hb_getR (pc := 2) (g1 := 0) dX12_qFact_2 fw_X12_143 cw_12 rfl (by decide) rfl (by decide) rfl ?_
  exact hb_callV (pc := 5) (As := [hb_r 12 0 42]) (st := []) dX12_qFact_5 ml_X12_222 mf_X12_takes mi_X12_takes (ci := 12) rfl rfl (by decide) rfl rfl (Nat.le_of_ble_eq_true rfl) (Nat.le_of_ble_eq_true rfl) h (fun _ _ q => q)
set_option maxRecDepth 20000 in
theorem bk_X12_qFact_8 {d : Nat} {w : hb_W} {Q : Option hb_V → hb_W → Prop} {xs0 : Int32} (h : ((xs0 = 0) → hb_O yX12_qSums cX12_qSums 3 none d [hb_r 12 0 0] w (fun rv w1 => hb_R yX12_qFact cX12_qFact 2 none (d + 1) 22 [some (hb_r 12 0 0), none] (rv.toList ++ []) w1 Q)) ∧ ((¬ xs0 = 0) → hb_O yX12_qCode cX12_qCode 2 none d [hb_r 12 0 0, hb_i (13 : Int32)] w (fun rv w1 => hb_R yX12_qFact cX12_qFact 2 none (d + 1) 17 [some (hb_r 12 0 0), none] (rv.toList ++ []) w1 Q))) : hb_R yX12_qFact cX12_qFact 2 none (d + 1) 8 [some (hb_r 12 0 0), none] [hb_i xs0] w Q := by
  refine hb_if_eq (pc := 8) (tgt := 18) dX12_qFact_8 (by decide) (fun c1 => ?_) (fun c1 => ?_)
  · have ht1 := h.1 c1
    refine hb_aload_n (pc := 18) (i := 0) dX12_qFact_18 rfl rfl ?_
    exact hb_callV (pc := 19) (As := []) (st := []) dX12_qFact_19 ml_X12_269 mf_X12_qSums mi_X12_qSums (ci := 12) rfl rfl (by decide) rfl rfl (Nat.le_of_ble_eq_true rfl) (Nat.le_of_ble_eq_true rfl) ht1 (fun _ _ q => q)
  · have ht1 := h.2 c1
    refine hb_aload_n (pc := 11) (i := 0) dX12_qFact_11 rfl rfl ?_
    refine hb_bipush (pc := 12) (v := 13) dX12_qFact_12 (by decide) ?_
    exact hb_callV (pc := 14) (As := [hb_i (13 : Int32)]) (st := []) dX12_qFact_14 ml_X12_503 mf_X12_qCode mi_X12_qCode (ci := 12) rfl rfl (by decide) rfl rfl (Nat.le_of_ble_eq_true rfl) (Nat.le_of_ble_eq_true rfl) ht1 (fun _ _ q => q)
set_option maxRecDepth 20000 in
theorem bk_X12_qFact_17 {d : Nat} {w : hb_W} {Q : Option hb_V → hb_W → Prop} (h : Q none w) : hb_R yX12_qFact cX12_qFact 2 none (d + 1) 17 [some (hb_r 12 0 0), none] [] w Q := by
  exact hb_vret (pc := 17) dX12_qFact_17 rfl h
set_option maxRecDepth 20000 in
theorem bk_X12_qFact_22 {d : Nat} {w : hb_W} {Q : Option hb_V → hb_W → Prop} (h : (((hb_fI w 12 5 0) = 0) → hb_O yX12_look cX12_look 1 (some .int) d [hb_r 12 0 0] w (fun rv w1 => hb_R yX12_qFact cX12_qFact 2 none (d + 1) 34 [some (hb_r 12 0 0), none] (rv.toList ++ []) w1 Q)) ∧ ((¬ (hb_fI w 12 5 0) = 0) → Q none w)) : hb_R yX12_qFact cX12_qFact 2 none (d + 1) 22 [some (hb_r 12 0 0), none] [] w Q := by
  refine hb_aload_n (pc := 22) (i := 0) dX12_qFact_22 rfl rfl ?_
  refine hb_getIx (pc := 23) (x := hb_fI w 12 5 0) dX12_qFact_23 fw_X12_195 cw_12 rfl (by decide) rfl rfl ?_
  refine hb_if_eq (pc := 26) (tgt := 30) dX12_qFact_26 (by decide) (fun c1 => ?_) (fun c1 => ?_)
  · have ht1 := h.1 c1
    refine hb_aload_n (pc := 30) (i := 0) dX12_qFact_30 rfl rfl ?_
    exact hb_callV (pc := 31) (As := []) (st := []) dX12_qFact_31 ml_X12_207 mf_X12_look mi_X12_look (ci := 12) rfl rfl (by decide) rfl rfl (Nat.le_of_ble_eq_true rfl) (Nat.le_of_ble_eq_true rfl) ht1 (fun _ _ q => q)
  · have ht1 := h.2 c1
    exact hb_vret (pc := 29) dX12_qFact_29 rfl ht1
set_option maxRecDepth 20000 in
theorem bk_X12_qFact_34 {d : Nat} {w : hb_W} {Q : Option hb_V → hb_W → Prop} {xs0 : Int32} (h : ((xs0 = (60 : Int32)) → hb_O yX12_qSums cX12_qSums 3 none d [hb_r 12 0 0] (hb_pI w 12 2 0 ((hb_fI w 12 2 0) + (1 : Int32))) (fun rv w1 => hb_R yX12_qFact cX12_qFact 2 none (d + 1) 77 [some (hb_r 12 0 0), some (hb_i xs0)] (rv.toList ++ []) w1 Q)) ∧ ((¬ xs0 = (60 : Int32)) → ((xs0 = (62 : Int32)) → hb_O yX12_qSums cX12_qSums 3 none d [hb_r 12 0 0] (hb_pI w 12 2 0 ((hb_fI w 12 2 0) + (1 : Int32))) (fun rv w1 => hb_R yX12_qFact cX12_qFact 2 none (d + 1) 77 [some (hb_r 12 0 0), some (hb_i xs0)] (rv.toList ++ []) w1 Q)) ∧ ((¬ xs0 = (62 : Int32)) → ((xs0 = (61 : Int32)) → hb_O yX12_qSums cX12_qSums 3 none d [hb_r 12 0 0] (hb_pI w 12 2 0 ((hb_fI w 12 2 0) + (1 : Int32))) (fun rv w1 => hb_R yX12_qFact cX12_qFact 2 none (d + 1) 77 [some (hb_r 12 0 0), some (hb_i xs0)] (rv.toList ++ []) w1 Q)) ∧ ((¬ xs0 = (61 : Int32)) → hb_O yX12_fail cX12_fail 3 none d [hb_r 12 0 0, hb_i (1 : Int32), hb_i (hb_fI w 12 2 0)] w (fun rv w1 => hb_R yX12_qFact cX12_qFact 2 none (d + 1) 62 [some (hb_r 12 0 0), some (hb_i xs0)] (rv.toList ++ []) w1 Q))))) : hb_R yX12_qFact cX12_qFact 2 none (d + 1) 34 [some (hb_r 12 0 0), none] [hb_i xs0] w Q := by
  refine hb_istore_n (pc := 34) (i := 1) (ls1 := [some (hb_r 12 0 0), some (hb_i xs0)]) dX12_qFact_34 rfl (by decide) rfl ?_
  refine hb_iload_n (pc := 35) (i := 1) dX12_qFact_35 rfl rfl ?_
  refine hb_bipush (pc := 36) (v := 60) dX12_qFact_36 (by decide) ?_
  refine hb_icmp_eq (pc := 38) (tgt := 63) dX12_qFact_38 (by decide) (fun c1 => ?_) (fun c1 => ?_)
  · have ht1 := h.1 c1
    refine hb_aload_n (pc := 63) (i := 0) dX12_qFact_63 rfl rfl ?_
    refine hb_dupr (pc := 64) dX12_qFact_64 ?_
    refine hb_getIx (pc := 65) (x := hb_fI w 12 2 0) dX12_qFact_65 fw_X12_201 cw_12 rfl (by decide) rfl rfl ?_
    refine hb_iconst (pc := 68) (v := 1) dX12_qFact_68 (by decide) ?_
    refine hb_iadd (pc := 69) dX12_qFact_69 ?_
    refine hb_putI (pc := 70) dX12_qFact_70 fw_X12_201 cw_12 pw_12_2 rfl (by decide) rfl rfl rfl ?_
    refine hb_aload_n (pc := 73) (i := 0) dX12_qFact_73 rfl rfl ?_
    exact hb_callV (pc := 74) (As := []) (st := []) dX12_qFact_74 ml_X12_269 mf_X12_qSums mi_X12_qSums (ci := 12) rfl rfl (by decide) rfl rfl (Nat.le_of_ble_eq_true rfl) (Nat.le_of_ble_eq_true rfl) ht1 (fun _ _ q => q)
  · have ht1 := h.2 c1
    refine hb_iload_n (pc := 41) (i := 1) dX12_qFact_41 rfl rfl ?_
    refine hb_bipush (pc := 42) (v := 62) dX12_qFact_42 (by decide) ?_
    refine hb_icmp_eq (pc := 44) (tgt := 63) dX12_qFact_44 (by decide) (fun c2 => ?_) (fun c2 => ?_)
    · have ht2 := ht1.1 c2
      refine hb_aload_n (pc := 63) (i := 0) dX12_qFact_63 rfl rfl ?_
      refine hb_dupr (pc := 64) dX12_qFact_64 ?_
      refine hb_getIx (pc := 65) (x := hb_fI w 12 2 0) dX12_qFact_65 fw_X12_201 cw_12 rfl (by decide) rfl rfl ?_
      refine hb_iconst (pc := 68) (v := 1) dX12_qFact_68 (by decide) ?_
      refine hb_iadd (pc := 69) dX12_qFact_69 ?_
      refine hb_putI (pc := 70) dX12_qFact_70 fw_X12_201 cw_12 pw_12_2 rfl (by decide) rfl rfl rfl ?_
      refine hb_aload_n (pc := 73) (i := 0) dX12_qFact_73 rfl rfl ?_
      exact hb_callV (pc := 74) (As := []) (st := []) dX12_qFact_74 ml_X12_269 mf_X12_qSums mi_X12_qSums (ci := 12) rfl rfl (by decide) rfl rfl (Nat.le_of_ble_eq_true rfl) (Nat.le_of_ble_eq_true rfl) ht2 (fun _ _ q => q)
    · have ht2 := ht1.2 c2
      refine hb_iload_n (pc := 47) (i := 1) dX12_qFact_47 rfl rfl ?_
      refine hb_bipush (pc := 48) (v := 61) dX12_qFact_48 (by decide) ?_
      refine hb_icmp_eq (pc := 50) (tgt := 63) dX12_qFact_50 (by decide) (fun c3 => ?_) (fun c3 => ?_)
      · have ht3 := ht2.1 c3
        refine hb_aload_n (pc := 63) (i := 0) dX12_qFact_63 rfl rfl ?_
        refine hb_dupr (pc := 64) dX12_qFact_64 ?_
        refine hb_getIx (pc := 65) (x := hb_fI w 12 2 0) dX12_qFact_65 fw_X12_201 cw_12 rfl (by decide) rfl rfl ?_
        refine hb_iconst (pc := 68) (v := 1) dX12_qFact_68 (by decide) ?_
        refine hb_iadd (pc := 69) dX12_qFact_69 ?_
        refine hb_putI (pc := 70) dX12_qFact_70 fw_X12_201 cw_12 pw_12_2 rfl (by decide) rfl rfl rfl ?_
        refine hb_aload_n (pc := 73) (i := 0) dX12_qFact_73 rfl rfl ?_
        exact hb_callV (pc := 74) (As := []) (st := []) dX12_qFact_74 ml_X12_269 mf_X12_qSums mi_X12_qSums (ci := 12) rfl rfl (by decide) rfl rfl (Nat.le_of_ble_eq_true rfl) (Nat.le_of_ble_eq_true rfl) ht3 (fun _ _ q => q)
      · have ht3 := ht2.2 c3
        refine hb_aload_n (pc := 53) (i := 0) dX12_qFact_53 rfl rfl ?_
        refine hb_iconst (pc := 54) (v := 1) dX12_qFact_54 (by decide) ?_
        refine hb_aload_n (pc := 55) (i := 0) dX12_qFact_55 rfl rfl ?_
        refine hb_getIx (pc := 56) (x := hb_fI w 12 2 0) dX12_qFact_56 fw_X12_201 cw_12 rfl (by decide) rfl rfl ?_
        exact hb_callV (pc := 59) (As := [hb_i (1 : Int32), hb_i (hb_fI w 12 2 0)]) (st := []) dX12_qFact_59 ml_X12_225 mf_X12_fail mi_X12_fail (ci := 12) rfl rfl (by decide) rfl rfl (Nat.le_of_ble_eq_true rfl) (Nat.le_of_ble_eq_true rfl) ht3 (fun _ _ q => q)
set_option maxRecDepth 20000 in
theorem bk_X12_qFact_62 {d : Nat} {w : hb_W} {Q : Option hb_V → hb_W → Prop} {x1 : Int32} (h : Q none w) : hb_R yX12_qFact cX12_qFact 2 none (d + 1) 62 [some (hb_r 12 0 0), some (hb_i x1)] [] w Q := by
  exact hb_vret (pc := 62) dX12_qFact_62 rfl h
set_option maxRecDepth 20000 in
theorem bk_X12_qFact_77 {d : Nat} {w : hb_W} {Q : Option hb_V → hb_W → Prop} {x1 : Int32} (h : ((¬ x1 = (60 : Int32)) → ((¬ x1 = (62 : Int32)) → hb_O yX12_qCode cX12_qCode 2 none d [hb_r 12 0 0, hb_i (9 : Int32)] w (fun rv w1 => hb_R yX12_qFact cX12_qFact 2 none (d + 1) 105 [some (hb_r 12 0 0), some (hb_i x1)] (rv.toList ++ []) w1 Q)) ∧ ((x1 = (62 : Int32)) → hb_O yX12_qCode cX12_qCode 2 none d [hb_r 12 0 0, hb_i (8 : Int32)] w (fun rv w1 => hb_R yX12_qFact cX12_qFact 2 none (d + 1) 105 [some (hb_r 12 0 0), some (hb_i x1)] (rv.toList ++ []) w1 Q))) ∧ ((x1 = (60 : Int32)) → hb_O yX12_qCode cX12_qCode 2 none d [hb_r 12 0 0, hb_i (7 : Int32)] w (fun rv w1 => hb_R yX12_qFact cX12_qFact 2 none (d + 1) 105 [some (hb_r 12 0 0), some (hb_i x1)] (rv.toList ++ []) w1 Q))) : hb_R yX12_qFact cX12_qFact 2 none (d + 1) 77 [some (hb_r 12 0 0), some (hb_i x1)] [] w Q := by
  refine hb_aload_n (pc := 77) (i := 0) dX12_qFact_77 rfl rfl ?_
  refine hb_iload_n (pc := 78) (i := 1) dX12_qFact_78 rfl rfl ?_
  refine hb_bipush (pc := 79) (v := 60) dX12_qFact_79 (by decide) ?_
  refine hb_icmp_ne (pc := 81) (tgt := 89) dX12_qFact_81 (by decide) (fun c1 => ?_) (fun c1 => ?_)
  · have ht1 := h.1 c1
    refine hb_iload_n (pc := 89) (i := 1) dX12_qFact_89 rfl rfl ?_
    refine hb_bipush (pc := 90) (v := 62) dX12_qFact_90 (by decide) ?_
    refine hb_icmp_ne (pc := 92) (tgt := 100) dX12_qFact_92 (by decide) (fun c2 => ?_) (fun c2 => ?_)
    · have ht2 := ht1.1 c2
      refine hb_bipush (pc := 100) (v := 9) dX12_qFact_100 (by decide) ?_
      exact hb_callV (pc := 102) (As := [hb_i (9 : Int32)]) (st := []) dX12_qFact_102 ml_X12_503 mf_X12_qCode mi_X12_qCode (ci := 12) rfl rfl (by decide) rfl rfl (Nat.le_of_ble_eq_true rfl) (Nat.le_of_ble_eq_true rfl) ht2 (fun _ _ q => q)
    · have ht2 := ht1.2 c2
      refine hb_bipush (pc := 95) (v := 8) dX12_qFact_95 (by decide) ?_
      refine hb_goto (pc := 97) (tgt := 102) dX12_qFact_97 (by decide) ?_
      exact hb_callV (pc := 102) (As := [hb_i (8 : Int32)]) (st := []) dX12_qFact_102 ml_X12_503 mf_X12_qCode mi_X12_qCode (ci := 12) rfl rfl (by decide) rfl rfl (Nat.le_of_ble_eq_true rfl) (Nat.le_of_ble_eq_true rfl) ht2 (fun _ _ q => q)
  · have ht1 := h.2 c1
    refine hb_bipush (pc := 84) (v := 7) dX12_qFact_84 (by decide) ?_
    refine hb_goto (pc := 86) (tgt := 102) dX12_qFact_86 (by decide) ?_
    exact hb_callV (pc := 102) (As := [hb_i (7 : Int32)]) (st := []) dX12_qFact_102 ml_X12_503 mf_X12_qCode mi_X12_qCode (ci := 12) rfl rfl (by decide) rfl rfl (Nat.le_of_ble_eq_true rfl) (Nat.le_of_ble_eq_true rfl) ht1 (fun _ _ q => q)
set_option maxRecDepth 20000 in
theorem bk_X12_qFact_105 {d : Nat} {w : hb_W} {Q : Option hb_V → hb_W → Prop} {x1 : Int32} (h : Q none w) : hb_R yX12_qFact cX12_qFact 2 none (d + 1) 105 [some (hb_r 12 0 0), some (hb_i x1)] [] w Q := by
  exact hb_vret (pc := 105) dX12_qFact_105 rfl h
theorem dX12_qHasSquare_0 : decode cX12_qHasSquare 0 = .ok (.iconst 0, 1) := by decide +kernel
theorem dX12_qHasSquare_1 : decode cX12_qHasSquare 1 = .ok (.istore_n 1, 1) := by decide +kernel
theorem dX12_qHasSquare_2 : decode cX12_qHasSquare 2 = .ok (.iload_n 1, 1) := by decide +kernel
theorem dX12_qHasSquare_3 : decode cX12_qHasSquare 3 = .ok (.aload_n 0, 1) := by decide +kernel
theorem dX12_qHasSquare_4 : decode cX12_qHasSquare 4 = .ok (.getfield 260, 3) := by decide +kernel
theorem dX12_qHasSquare_7 : decode cX12_qHasSquare 7 = .ok (.if_icmp .ge 22, 3) := by decide +kernel
theorem dX12_qHasSquare_10 : decode cX12_qHasSquare 10 = .ok (.aload_n 0, 1) := by decide +kernel
theorem dX12_qHasSquare_11 : decode cX12_qHasSquare 11 = .ok (.getfield 182, 3) := by decide +kernel
theorem dX12_qHasSquare_14 : decode cX12_qHasSquare 14 = .ok (.iload_n 1, 1) := by decide +kernel
theorem dX12_qHasSquare_15 : decode cX12_qHasSquare 15 = .ok (.iaload, 1) := by decide +kernel
theorem dX12_qHasSquare_16 : decode cX12_qHasSquare 16 = .ok (.bipush 25, 2) := by decide +kernel
theorem dX12_qHasSquare_18 : decode cX12_qHasSquare 18 = .ok (.if_icmp .ne 5, 3) := by decide +kernel
theorem dX12_qHasSquare_21 : decode cX12_qHasSquare 21 = .ok (.iconst 1, 1) := by decide +kernel
theorem dX12_qHasSquare_22 : decode cX12_qHasSquare 22 = .ok (.ireturn, 1) := by decide +kernel
theorem dX12_qHasSquare_23 : decode cX12_qHasSquare 23 = .ok (.iinc 1 1, 3) := by decide +kernel
theorem dX12_qHasSquare_26 : decode cX12_qHasSquare 26 = .ok (.goto (-24), 3) := by decide +kernel
theorem dX12_qHasSquare_29 : decode cX12_qHasSquare 29 = .ok (.iconst 0, 1) := by decide +kernel
theorem dX12_qHasSquare_30 : decode cX12_qHasSquare 30 = .ok (.ireturn, 1) := by decide +kernel
set_option maxRecDepth 20000 in
theorem bk_X12_qHasSquare_0 {d : Nat} {w : hb_W} {Q : Option hb_V → hb_W → Prop} (h : hb_R yX12_qHasSquare cX12_qHasSquare 2 (some .boolean) d 2 [some (hb_r 12 0 0), some (hb_i (0 : Int32))] [] w Q) : hb_R yX12_qHasSquare cX12_qHasSquare 2 (some .boolean) d 0 [some (hb_r 12 0 0), none] [] w Q := by
  refine hb_iconst (pc := 0) (v := 0) dX12_qHasSquare_0 (by decide) ?_
  refine hb_istore_n (pc := 1) (i := 1) (ls1 := [some (hb_r 12 0 0), some (hb_i (0 : Int32))]) dX12_qHasSquare_1 rfl (by decide) rfl ?_
  exact h
set_option maxRecDepth 20000 in
theorem bk_X12_qHasSquare_2 {d : Nat} {w : hb_W} {Q : Option hb_V → hb_W → Prop} {x1 : Int32} (h : (((hb_fI w 12 82 0) ≤ x1) → Q (some (hb_i (0 : Int32))) w) ∧ ((¬ (hb_fI w 12 82 0) ≤ x1) → vp_in x1 1700 ∧ (((¬ (hb_aI w 12 55 0 x1.toNatClampNeg) = (25 : Int32)) → hb_R yX12_qHasSquare cX12_qHasSquare 2 (some .boolean) d 2 [some (hb_r 12 0 0), some (hb_i (x1 + (1 : Int32)))] [] w Q) ∧ (((hb_aI w 12 55 0 x1.toNatClampNeg) = (25 : Int32)) → Q (some (hb_i (1 : Int32))) w)))) : hb_R yX12_qHasSquare cX12_qHasSquare 2 (some .boolean) d 2 [some (hb_r 12 0 0), some (hb_i x1)] [] w Q := by
  refine hb_iload_n (pc := 2) (i := 1) dX12_qHasSquare_2 rfl rfl ?_
  refine hb_aload_n (pc := 3) (i := 0) dX12_qHasSquare_3 rfl rfl ?_
  refine hb_getIx (pc := 4) (x := hb_fI w 12 82 0) dX12_qHasSquare_4 fw_X12_260 cw_12 rfl (by decide) rfl rfl ?_
  refine hb_icmp_ge (pc := 7) (tgt := 29) dX12_qHasSquare_7 (by decide) (fun c1 => ?_) (fun c1 => ?_)
  · have ht1 := h.1 c1
    refine hb_iconst (pc := 29) (v := 0) dX12_qHasSquare_29 (by decide) ?_
    exact hb_zret (pc := 30) dX12_qHasSquare_30 rfl (Or.inl rfl) ht1
  · have ht1 := h.2 c1
    refine hb_aload_n (pc := 10) (i := 0) dX12_qHasSquare_10 rfl rfl ?_
    refine hb_getR (pc := 11) (g1 := 0) dX12_qHasSquare_11 fw_X12_182 cw_12 rfl (by decide) rfl (by decide) rfl ?_
    refine hb_iload_n (pc := 14) (i := 1) dX12_qHasSquare_14 rfl rfl ?_
    obtain ⟨ho2, hr2⟩ := ht1
    refine hb_ialdx (pc := 15) (x := hb_aI w 12 55 0 x1.toNatClampNeg) dX12_qHasSquare_15 rfl (by decide) ho2 rfl ?_
    refine hb_bipush (pc := 16) (v := 25) dX12_qHasSquare_16 (by decide) ?_
    refine hb_icmp_ne (pc := 18) (tgt := 23) dX12_qHasSquare_18 (by decide) (fun c3 => ?_) (fun c3 => ?_)
    · have ht3 := hr2.1 c3
      refine hb_iinc (pc := 23) (v := x1 + (1 : Int32)) (ls1 := [some (hb_r 12 0 0), some (hb_i (x1 + (1 : Int32)))]) dX12_qHasSquare_23 rfl rfl (by decide) rfl ?_
      refine hb_goto (pc := 26) (tgt := 2) dX12_qHasSquare_26 (by decide) ?_
      exact ht3
    · have ht3 := hr2.2 c3
      refine hb_iconst (pc := 21) (v := 1) dX12_qHasSquare_21 (by decide) ?_
      exact hb_zret (pc := 22) dX12_qHasSquare_22 rfl (Or.inr rfl) ht3
theorem dX12_qDropsNots_0 : decode cX12_qDropsNots 0 = .ok (.aload_n 0, 1) := by decide +kernel
theorem dX12_qDropsNots_1 : decode cX12_qDropsNots 1 = .ok (.getfield 195, 3) := by decide +kernel
theorem dX12_qDropsNots_4 : decode cX12_qDropsNots 4 = .ok (.ifCond .ne 29, 3) := by decide +kernel
theorem dX12_qDropsNots_7 : decode cX12_qDropsNots 7 = .ok (.aload_n 0, 1) := by decide +kernel
theorem dX12_qDropsNots_8 : decode cX12_qDropsNots 8 = .ok (.bipush 12, 2) := by decide +kernel
theorem dX12_qDropsNots_10 : decode cX12_qDropsNots 10 = .ok (.invokevirtual 536, 3) := by decide +kernel
theorem dX12_qDropsNots_13 : decode cX12_qDropsNots 13 = .ok (.ifCond .eq 20, 3) := by decide +kernel
theorem dX12_qDropsNots_16 : decode cX12_qDropsNots 16 = .ok (.aload_n 0, 1) := by decide +kernel
theorem dX12_qDropsNots_17 : decode cX12_qDropsNots 17 = .ok (.dup, 1) := by decide +kernel
theorem dX12_qDropsNots_18 : decode cX12_qDropsNots 18 = .ok (.getfield 263, 3) := by decide +kernel
theorem dX12_qDropsNots_21 : decode cX12_qDropsNots 21 = .ok (.iconst 1, 1) := by decide +kernel
theorem dX12_qDropsNots_22 : decode cX12_qDropsNots 22 = .ok (.isub, 1) := by decide +kernel
theorem dX12_qDropsNots_23 : decode cX12_qDropsNots 23 = .ok (.putfield 263, 3) := by decide +kernel
theorem dX12_qDropsNots_26 : decode cX12_qDropsNots 26 = .ok (.aload_n 0, 1) := by decide +kernel
theorem dX12_qDropsNots_27 : decode cX12_qDropsNots 27 = .ok (.invokevirtual 509, 3) := by decide +kernel
theorem dX12_qDropsNots_30 : decode cX12_qDropsNots 30 = .ok (.goto (-30), 3) := by decide +kernel
theorem dX12_qDropsNots_33 : decode cX12_qDropsNots 33 = .ok (.return_, 1) := by decide +kernel
set_option maxRecDepth 20000 in
theorem bk_X12_qDropsNots_0 {d : Nat} {w : hb_W} {Q : Option hb_V → hb_W → Prop} (h : ((¬ (hb_fI w 12 5 0) = 0) → Q none w) ∧ (((hb_fI w 12 5 0) = 0) → hb_O yX12_qIsOn cX12_qIsOn 2 (some .boolean) d [hb_r 12 0 0, hb_i (12 : Int32)] w (fun rv w1 => hb_R yX12_qDropsNots cX12_qDropsNots 1 none (d + 1) 13 [some (hb_r 12 0 0)] (rv.toList ++ []) w1 Q))) : hb_R yX12_qDropsNots cX12_qDropsNots 1 none (d + 1) 0 [some (hb_r 12 0 0)] [] w Q := by
  refine hb_aload_n (pc := 0) (i := 0) dX12_qDropsNots_0 rfl rfl ?_
  refine hb_getIx (pc := 1) (x := hb_fI w 12 5 0) dX12_qDropsNots_1 fw_X12_195 cw_12 rfl (by decide) rfl rfl ?_
  refine hb_if_ne (pc := 4) (tgt := 33) dX12_qDropsNots_4 (by decide) (fun c1 => ?_) (fun c1 => ?_)
  · have ht1 := h.1 c1
    exact hb_vret (pc := 33) dX12_qDropsNots_33 rfl ht1
  · have ht1 := h.2 c1
    refine hb_aload_n (pc := 7) (i := 0) dX12_qDropsNots_7 rfl rfl ?_
    refine hb_bipush (pc := 8) (v := 12) dX12_qDropsNots_8 (by decide) ?_
    exact hb_callV (pc := 10) (As := [hb_i (12 : Int32)]) (st := []) dX12_qDropsNots_10 ml_X12_536 mf_X12_qIsOn mi_X12_qIsOn (ci := 12) rfl rfl (by decide) rfl rfl (Nat.le_of_ble_eq_true rfl) (Nat.le_of_ble_eq_true rfl) ht1 (fun _ _ q => q)
set_option maxRecDepth 20000 in
theorem bk_X12_qDropsNots_13 {d : Nat} {w : hb_W} {Q : Option hb_V → hb_W → Prop} {xs0 : Int32} (h : ((xs0 = 0) → Q none w) ∧ ((¬ xs0 = 0) → hb_O yX12_qDrops cX12_qDrops 1 none d [hb_r 12 0 0] (hb_pI w 12 83 0 ((hb_fI w 12 83 0) - (1 : Int32))) (fun rv w1 => hb_R yX12_qDropsNots cX12_qDropsNots 1 none (d + 1) 30 [some (hb_r 12 0 0)] (rv.toList ++ []) w1 Q))) : hb_R yX12_qDropsNots cX12_qDropsNots 1 none (d + 1) 13 [some (hb_r 12 0 0)] [hb_i xs0] w Q := by
  refine hb_if_eq (pc := 13) (tgt := 33) dX12_qDropsNots_13 (by decide) (fun c1 => ?_) (fun c1 => ?_)
  · have ht1 := h.1 c1
    exact hb_vret (pc := 33) dX12_qDropsNots_33 rfl ht1
  · have ht1 := h.2 c1
    refine hb_aload_n (pc := 16) (i := 0) dX12_qDropsNots_16 rfl rfl ?_
    refine hb_dupr (pc := 17) dX12_qDropsNots_17 ?_
    refine hb_getIx (pc := 18) (x := hb_fI w 12 83 0) dX12_qDropsNots_18 fw_X12_263 cw_12 rfl (by decide) rfl rfl ?_
    refine hb_iconst (pc := 21) (v := 1) dX12_qDropsNots_21 (by decide) ?_
    refine hb_isub (pc := 22) dX12_qDropsNots_22 ?_
    refine hb_putI (pc := 23) dX12_qDropsNots_23 fw_X12_263 cw_12 pw_12_83 rfl (by decide) rfl rfl rfl ?_
    refine hb_aload_n (pc := 26) (i := 0) dX12_qDropsNots_26 rfl rfl ?_
    exact hb_callV (pc := 27) (As := []) (st := []) dX12_qDropsNots_27 ml_X12_509 mf_X12_qDrops mi_X12_qDrops (ci := 12) rfl rfl (by decide) rfl rfl (Nat.le_of_ble_eq_true rfl) (Nat.le_of_ble_eq_true rfl) ht1 (fun _ _ q => q)
set_option maxRecDepth 20000 in
theorem bk_X12_qDropsNots_30 {d : Nat} {w : hb_W} {Q : Option hb_V → hb_W → Prop} (h : hb_R yX12_qDropsNots cX12_qDropsNots 1 none (d + 1) 0 [some (hb_r 12 0 0)] [] w Q) : hb_R yX12_qDropsNots cX12_qDropsNots 1 none (d + 1) 30 [some (hb_r 12 0 0)] [] w Q := by
  refine hb_goto (pc := 30) (tgt := 0) dX12_qDropsNots_30 (by decide) ?_
  exact h
theorem dX12_qTest_0 : decode cX12_qTest 0 = .ok (.iconst 1, 1) := by decide +kernel
theorem dX12_qTest_1 : decode cX12_qTest 1 = .ok (.istore_n 1, 1) := by decide +kernel
theorem dX12_qTest_2 : decode cX12_qTest 2 = .ok (.iload_n 1, 1) := by decide +kernel
theorem dX12_qTest_3 : decode cX12_qTest 3 = .ok (.ifCond .eq 107, 3) := by decide +kernel
theorem dX12_qTest_6 : decode cX12_qTest 6 = .ok (.aload_n 0, 1) := by decide +kernel
theorem dX12_qTest_7 : decode cX12_qTest 7 = .ok (.getfield 195, 3) := by decide +kernel
theorem dX12_qTest_10 : decode cX12_qTest 10 = .ok (.ifCond .ne 100, 3) := by decide +kernel
theorem dX12_qTest_13 : decode cX12_qTest 13 = .ok (.aload_n 0, 1) := by decide +kernel
theorem dX12_qTest_14 : decode cX12_qTest 14 = .ok (.invokevirtual 207, 3) := by decide +kernel
theorem dX12_qTest_17 : decode cX12_qTest 17 = .ok (.istore_n 2, 1) := by decide +kernel
theorem dX12_qTest_18 : decode cX12_qTest 18 = .ok (.iload_n 2, 1) := by decide +kernel
theorem dX12_qTest_19 : decode cX12_qTest 19 = .ok (.bipush 91, 2) := by decide +kernel
theorem dX12_qTest_21 : decode cX12_qTest 21 = .ok (.if_icmp .ne 26, 3) := by decide +kernel
theorem dX12_qTest_24 : decode cX12_qTest 24 = .ok (.aload_n 0, 1) := by decide +kernel
theorem dX12_qTest_25 : decode cX12_qTest 25 = .ok (.bipush 25, 2) := by decide +kernel
theorem dX12_qTest_27 : decode cX12_qTest 27 = .ok (.aload_n 0, 1) := by decide +kernel
theorem dX12_qTest_28 : decode cX12_qTest 28 = .ok (.getfield 201, 3) := by decide +kernel
theorem dX12_qTest_31 : decode cX12_qTest 31 = .ok (.invokevirtual 521, 3) := by decide +kernel
theorem dX12_qTest_34 : decode cX12_qTest 34 = .ok (.aload_n 0, 1) := by decide +kernel
theorem dX12_qTest_35 : decode cX12_qTest 35 = .ok (.dup, 1) := by decide +kernel
theorem dX12_qTest_36 : decode cX12_qTest 36 = .ok (.getfield 201, 3) := by decide +kernel
theorem dX12_qTest_39 : decode cX12_qTest 39 = .ok (.iconst 1, 1) := by decide +kernel
theorem dX12_qTest_40 : decode cX12_qTest 40 = .ok (.iadd, 1) := by decide +kernel
theorem dX12_qTest_41 : decode cX12_qTest 41 = .ok (.putfield 201, 3) := by decide +kernel
theorem dX12_qTest_44 : decode cX12_qTest 44 = .ok (.goto (-42), 3) := by decide +kernel
theorem dX12_qTest_47 : decode cX12_qTest 47 = .ok (.aload_n 0, 1) := by decide +kernel
theorem dX12_qTest_48 : decode cX12_qTest 48 = .ok (.aload_n 0, 1) := by decide +kernel
theorem dX12_qTest_49 : decode cX12_qTest 49 = .ok (.getfield 134, 3) := by decide +kernel
theorem dX12_qTest_52 : decode cX12_qTest 52 = .ok (.invokevirtual 218, 3) := by decide +kernel
theorem dX12_qTest_55 : decode cX12_qTest 55 = .ok (.ifCond .eq 24, 3) := by decide +kernel
theorem dX12_qTest_58 : decode cX12_qTest 58 = .ok (.aload_n 0, 1) := by decide +kernel
theorem dX12_qTest_59 : decode cX12_qTest 59 = .ok (.bipush 12, 2) := by decide +kernel
theorem dX12_qTest_61 : decode cX12_qTest 61 = .ok (.aload_n 0, 1) := by decide +kernel
theorem dX12_qTest_62 : decode cX12_qTest 62 = .ok (.getfield 201, 3) := by decide +kernel
theorem dX12_qTest_65 : decode cX12_qTest 65 = .ok (.invokevirtual 521, 3) := by decide +kernel
theorem dX12_qTest_68 : decode cX12_qTest 68 = .ok (.aload_n 0, 1) := by decide +kernel
theorem dX12_qTest_69 : decode cX12_qTest 69 = .ok (.aload_n 0, 1) := by decide +kernel
theorem dX12_qTest_70 : decode cX12_qTest 70 = .ok (.getfield 134, 3) := by decide +kernel
theorem dX12_qTest_73 : decode cX12_qTest 73 = .ok (.invokevirtual 245, 3) := by decide +kernel
theorem dX12_qTest_76 : decode cX12_qTest 76 = .ok (.goto (-74), 3) := by decide +kernel
theorem dX12_qTest_79 : decode cX12_qTest 79 = .ok (.aload_n 0, 1) := by decide +kernel
theorem dX12_qTest_80 : decode cX12_qTest 80 = .ok (.invokevirtual 546, 3) := by decide +kernel
theorem dX12_qTest_83 : decode cX12_qTest 83 = .ok (.aload_n 0, 1) := by decide +kernel
theorem dX12_qTest_84 : decode cX12_qTest 84 = .ok (.invokevirtual 549, 3) := by decide +kernel
theorem dX12_qTest_87 : decode cX12_qTest 87 = .ok (.aload_n 0, 1) := by decide +kernel
theorem dX12_qTest_88 : decode cX12_qTest 88 = .ok (.getfield 195, 3) := by decide +kernel
theorem dX12_qTest_91 : decode cX12_qTest 91 = .ok (.ifCond .ne 14, 3) := by decide +kernel
theorem dX12_qTest_94 : decode cX12_qTest 94 = .ok (.aload_n 0, 1) := by decide +kernel
theorem dX12_qTest_95 : decode cX12_qTest 95 = .ok (.invokevirtual 552, 3) := by decide +kernel
theorem dX12_qTest_98 : decode cX12_qTest 98 = .ok (.ifCond .eq 7, 3) := by decide +kernel
theorem dX12_qTest_101 : decode cX12_qTest 101 = .ok (.iconst 1, 1) := by decide +kernel
theorem dX12_qTest_102 : decode cX12_qTest 102 = .ok (.goto 4, 3) := by decide +kernel
theorem dX12_qTest_105 : decode cX12_qTest 105 = .ok (.iconst 0, 1) := by decide +kernel
theorem dX12_qTest_106 : decode cX12_qTest 106 = .ok (.istore_n 1, 1) := by decide +kernel
theorem dX12_qTest_107 : decode cX12_qTest 107 = .ok (.goto (-105), 3) := by decide +kernel
theorem dX12_qTest_110 : decode cX12_qTest 110 = .ok (.aload_n 0, 1) := by decide +kernel
theorem dX12_qTest_111 : decode cX12_qTest 111 = .ok (.getfield 195, 3) := by decide +kernel
theorem dX12_qTest_114 : decode cX12_qTest 114 = .ok (.ifCond .ne 17, 3) := by decide +kernel
theorem dX12_qTest_117 : decode cX12_qTest 117 = .ok (.aload_n 0, 1) := by decide +kernel
theorem dX12_qTest_118 : decode cX12_qTest 118 = .ok (.getfield 260, 3) := by decide +kernel
theorem dX12_qTest_121 : decode cX12_qTest 121 = .ok (.ifCond .le 10, 3) := by decide +kernel
theorem dX12_qTest_124 : decode cX12_qTest 124 = .ok (.aload_n 0, 1) := by decide +kernel
theorem dX12_qTest_125 : decode cX12_qTest 125 = .ok (.invokevirtual 509, 3) := by decide +kernel
theorem dX12_qTest_128 : decode cX12_qTest 128 = .ok (.goto (-18), 3) := by decide +kernel
theorem dX12_qTest_131 : decode cX12_qTest 131 = .ok (.return_, 1) := by decide +kernel
set_option maxRecDepth 20000 in
theorem bk_X12_qTest_0 {d : Nat} {w : hb_W} {Q : Option hb_V → hb_W → Prop} (h : hb_R yX12_qTest cX12_qTest 3 none (d + 1) 2 [some (hb_r 12 0 0), some (hb_i (1 : Int32)), none] [] w Q) : hb_R yX12_qTest cX12_qTest 3 none (d + 1) 0 [some (hb_r 12 0 0), none, none] [] w Q := by
  refine hb_iconst (pc := 0) (v := 1) dX12_qTest_0 (by decide) ?_
  refine hb_istore_n (pc := 1) (i := 1) (ls1 := [some (hb_r 12 0 0), some (hb_i (1 : Int32)), none]) dX12_qTest_1 rfl (by decide) rfl ?_
  exact h
set_option maxRecDepth 20000 in
theorem bk_X12_qTest_2 {d : Nat} {w : hb_W} {Q : Option hb_V → hb_W → Prop} {x1 : Int32} (h : ((x1 = 0) → hb_R yX12_qTest cX12_qTest 3 none (d + 1) 110 [some (hb_r 12 0 0), some (hb_i x1), none] [] w Q) ∧ ((¬ x1 = 0) → ((¬ (hb_fI w 12 5 0) = 0) → hb_R yX12_qTest cX12_qTest 3 none (d + 1) 110 [some (hb_r 12 0 0), some (hb_i x1), none] [] w Q) ∧ (((hb_fI w 12 5 0) = 0) → hb_O yX12_look cX12_look 1 (some .int) d [hb_r 12 0 0] w (fun rv w1 => hb_R yX12_qTest cX12_qTest 3 none (d + 1) 17 [some (hb_r 12 0 0), some (hb_i x1), none] (rv.toList ++ []) w1 Q)))) : hb_R yX12_qTest cX12_qTest 3 none (d + 1) 2 [some (hb_r 12 0 0), some (hb_i x1), none] [] w Q := by
  refine hb_iload_n (pc := 2) (i := 1) dX12_qTest_2 rfl rfl ?_
  refine hb_if_eq (pc := 3) (tgt := 110) dX12_qTest_3 (by decide) (fun c1 => ?_) (fun c1 => ?_)
  · have ht1 := h.1 c1
    exact ht1
  · have ht1 := h.2 c1
    refine hb_aload_n (pc := 6) (i := 0) dX12_qTest_6 rfl rfl ?_
    refine hb_getIx (pc := 7) (x := hb_fI w 12 5 0) dX12_qTest_7 fw_X12_195 cw_12 rfl (by decide) rfl rfl ?_
    refine hb_if_ne (pc := 10) (tgt := 110) dX12_qTest_10 (by decide) (fun c2 => ?_) (fun c2 => ?_)
    · have ht2 := ht1.1 c2
      exact ht2
    · have ht2 := ht1.2 c2
      refine hb_aload_n (pc := 13) (i := 0) dX12_qTest_13 rfl rfl ?_
      exact hb_callV (pc := 14) (As := []) (st := []) dX12_qTest_14 ml_X12_207 mf_X12_look mi_X12_look (ci := 12) rfl rfl (by decide) rfl rfl (Nat.le_of_ble_eq_true rfl) (Nat.le_of_ble_eq_true rfl) ht2 (fun _ _ q => q)
set_option maxRecDepth 20000 in
theorem bk_X12_qTest_17 {d : Nat} {w : hb_W} {Q : Option hb_V → hb_W → Prop} {x1 : Int32} {xs0 : Int32} (h : ((¬ xs0 = (91 : Int32)) → hb_O yX12_isHere cX12_isHere 4 (some .boolean) d [hb_r 12 0 0, hb_r 12 0 39] w (fun rv w1 => hb_R yX12_qTest cX12_qTest 3 none (d + 1) 55 [some (hb_r 12 0 0), some (hb_i x1), some (hb_i xs0)] (rv.toList ++ []) w1 Q)) ∧ ((xs0 = (91 : Int32)) → hb_O yX12_qOpens cX12_qOpens 3 none d [hb_r 12 0 0, hb_i (25 : Int32), hb_i (hb_fI w 12 2 0)] w (fun rv w1 => hb_R yX12_qTest cX12_qTest 3 none (d + 1) 34 [some (hb_r 12 0 0), some (hb_i x1), some (hb_i xs0)] (rv.toList ++ []) w1 Q))) : hb_R yX12_qTest cX12_qTest 3 none (d + 1) 17 [some (hb_r 12 0 0), some (hb_i x1), none] [hb_i xs0] w Q := by
  refine hb_istore_n (pc := 17) (i := 2) (ls1 := [some (hb_r 12 0 0), some (hb_i x1), some (hb_i xs0)]) dX12_qTest_17 rfl (by decide) rfl ?_
  refine hb_iload_n (pc := 18) (i := 2) dX12_qTest_18 rfl rfl ?_
  refine hb_bipush (pc := 19) (v := 91) dX12_qTest_19 (by decide) ?_
  refine hb_icmp_ne (pc := 21) (tgt := 47) dX12_qTest_21 (by decide) (fun c1 => ?_) (fun c1 => ?_)
  · have ht1 := h.1 c1
    refine hb_aload_n (pc := 47) (i := 0) dX12_qTest_47 rfl rfl ?_
    refine hb_aload_n (pc := 48) (i := 0) dX12_qTest_48 rfl rfl ?_
    refine hb_getR (pc := 49) (g1 := 0) dX12_qTest_49 fw_X12_134 cw_12 rfl (by decide) rfl (by decide) rfl ?_
    exact hb_callV (pc := 52) (As := [hb_r 12 0 39]) (st := []) dX12_qTest_52 ml_X12_218 mf_X12_isHere mi_X12_isHere (ci := 12) rfl rfl (by decide) rfl rfl (Nat.le_of_ble_eq_true rfl) (Nat.le_of_ble_eq_true rfl) ht1 (fun _ _ q => q)
  · have ht1 := h.2 c1
    refine hb_aload_n (pc := 24) (i := 0) dX12_qTest_24 rfl rfl ?_
    refine hb_bipush (pc := 25) (v := 25) dX12_qTest_25 (by decide) ?_
    refine hb_aload_n (pc := 27) (i := 0) dX12_qTest_27 rfl rfl ?_
    refine hb_getIx (pc := 28) (x := hb_fI w 12 2 0) dX12_qTest_28 fw_X12_201 cw_12 rfl (by decide) rfl rfl ?_
    exact hb_callV (pc := 31) (As := [hb_i (25 : Int32), hb_i (hb_fI w 12 2 0)]) (st := []) dX12_qTest_31 ml_X12_521 mf_X12_qOpens mi_X12_qOpens (ci := 12) rfl rfl (by decide) rfl rfl (Nat.le_of_ble_eq_true rfl) (Nat.le_of_ble_eq_true rfl) ht1 (fun _ _ q => q)
set_option maxRecDepth 20000 in
theorem bk_X12_qTest_34 {d : Nat} {w : hb_W} {Q : Option hb_V → hb_W → Prop} {x1 : Int32} {x2 : Int32} (h : hb_R yX12_qTest cX12_qTest 3 none (d + 1) 2 [some (hb_r 12 0 0), some (hb_i x1), some (hb_i x2)] [] (hb_pI w 12 2 0 ((hb_fI w 12 2 0) + (1 : Int32))) Q) : hb_R yX12_qTest cX12_qTest 3 none (d + 1) 34 [some (hb_r 12 0 0), some (hb_i x1), some (hb_i x2)] [] w Q := by
  refine hb_aload_n (pc := 34) (i := 0) dX12_qTest_34 rfl rfl ?_
  refine hb_dupr (pc := 35) dX12_qTest_35 ?_
  refine hb_getIx (pc := 36) (x := hb_fI w 12 2 0) dX12_qTest_36 fw_X12_201 cw_12 rfl (by decide) rfl rfl ?_
  refine hb_iconst (pc := 39) (v := 1) dX12_qTest_39 (by decide) ?_
  refine hb_iadd (pc := 40) dX12_qTest_40 ?_
  refine hb_putI (pc := 41) dX12_qTest_41 fw_X12_201 cw_12 pw_12_2 rfl (by decide) rfl rfl rfl ?_
  refine hb_goto (pc := 44) (tgt := 2) dX12_qTest_44 (by decide) ?_
  exact h
set_option maxRecDepth 20000 in
theorem bk_X12_qTest_55 {d : Nat} {w : hb_W} {Q : Option hb_V → hb_W → Prop} {x1 : Int32} {x2 : Int32} {xs0 : Int32} (h : ((xs0 = 0) → hb_O yX12_qFact cX12_qFact 2 none d [hb_r 12 0 0] w (fun rv w1 => hb_R yX12_qTest cX12_qTest 3 none (d + 1) 83 [some (hb_r 12 0 0), some (hb_i x1), some (hb_i x2)] (rv.toList ++ []) w1 Q)) ∧ ((¬ xs0 = 0) → hb_O yX12_qOpens cX12_qOpens 3 none d [hb_r 12 0 0, hb_i (12 : Int32), hb_i (hb_fI w 12 2 0)] w (fun rv w1 => hb_R yX12_qTest cX12_qTest 3 none (d + 1) 68 [some (hb_r 12 0 0), some (hb_i x1), some (hb_i x2)] (rv.toList ++ []) w1 Q))) : hb_R yX12_qTest cX12_qTest 3 none (d + 1) 55 [some (hb_r 12 0 0), some (hb_i x1), some (hb_i x2)] [hb_i xs0] w Q := by
  refine hb_if_eq (pc := 55) (tgt := 79) dX12_qTest_55 (by decide) (fun c1 => ?_) (fun c1 => ?_)
  · have ht1 := h.1 c1
    refine hb_aload_n (pc := 79) (i := 0) dX12_qTest_79 rfl rfl ?_
    exact hb_callV (pc := 80) (As := []) (st := []) dX12_qTest_80 ml_X12_546 mf_X12_qFact mi_X12_qFact (ci := 12) rfl rfl (by decide) rfl rfl (Nat.le_of_ble_eq_true rfl) (Nat.le_of_ble_eq_true rfl) ht1 (fun _ _ q => q)
  · have ht1 := h.2 c1
    refine hb_aload_n (pc := 58) (i := 0) dX12_qTest_58 rfl rfl ?_
    refine hb_bipush (pc := 59) (v := 12) dX12_qTest_59 (by decide) ?_
    refine hb_aload_n (pc := 61) (i := 0) dX12_qTest_61 rfl rfl ?_
    refine hb_getIx (pc := 62) (x := hb_fI w 12 2 0) dX12_qTest_62 fw_X12_201 cw_12 rfl (by decide) rfl rfl ?_
    exact hb_callV (pc := 65) (As := [hb_i (12 : Int32), hb_i (hb_fI w 12 2 0)]) (st := []) dX12_qTest_65 ml_X12_521 mf_X12_qOpens mi_X12_qOpens (ci := 12) rfl rfl (by decide) rfl rfl (Nat.le_of_ble_eq_true rfl) (Nat.le_of_ble_eq_true rfl) ht1 (fun _ _ q => q)
set_option maxRecDepth 20000 in
theorem bk_X12_qTest_68 {d : Nat} {w : hb_W} {Q : Option hb_V → hb_W → Prop} {x1 : Int32} {x2 : Int32} (h : hb_O yX12_asks cX12_asks 2 none d [hb_r 12 0 0, hb_r 12 0 39] w (fun rv w1 => hb_R yX12_qTest cX12_qTest 3 none (d + 1) 76 [some (hb_r 12 0 0), some (hb_i x1), some (hb_i x2)] (rv.toList ++ []) w1 Q)) : hb_R yX12_qTest cX12_qTest 3 none (d + 1) 68 [some (hb_r 12 0 0), some (hb_i x1), some (hb_i x2)] [] w Q := by
  refine hb_aload_n (pc := 68) (i := 0) dX12_qTest_68 rfl rfl ?_
  refine hb_aload_n (pc := 69) (i := 0) dX12_qTest_69 rfl rfl ?_
  refine hb_getR (pc := 70) (g1 := 0) dX12_qTest_70 fw_X12_134 cw_12 rfl (by decide) rfl (by decide) rfl ?_
  exact hb_callV (pc := 73) (As := [hb_r 12 0 39]) (st := []) dX12_qTest_73 ml_X12_245 mf_X12_asks mi_X12_asks (ci := 12) rfl rfl (by decide) rfl rfl (Nat.le_of_ble_eq_true rfl) (Nat.le_of_ble_eq_true rfl) h (fun _ _ q => q)
set_option maxRecDepth 20000 in
theorem bk_X12_qTest_76 {d : Nat} {w : hb_W} {Q : Option hb_V → hb_W → Prop} {x1 : Int32} {x2 : Int32} (h : hb_R yX12_qTest cX12_qTest 3 none (d + 1) 2 [some (hb_r 12 0 0), some (hb_i x1), some (hb_i x2)] [] w Q) : hb_R yX12_qTest cX12_qTest 3 none (d + 1) 76 [some (hb_r 12 0 0), some (hb_i x1), some (hb_i x2)] [] w Q := by
  refine hb_goto (pc := 76) (tgt := 2) dX12_qTest_76 (by decide) ?_
  exact h
set_option maxRecDepth 20000 in
theorem bk_X12_qTest_83 {d : Nat} {w : hb_W} {Q : Option hb_V → hb_W → Prop} {x1 : Int32} {x2 : Int32} (h : hb_O yX12_qDropsNots cX12_qDropsNots 1 none d [hb_r 12 0 0] w (fun rv w1 => hb_R yX12_qTest cX12_qTest 3 none (d + 1) 87 [some (hb_r 12 0 0), some (hb_i x1), some (hb_i x2)] (rv.toList ++ []) w1 Q)) : hb_R yX12_qTest cX12_qTest 3 none (d + 1) 83 [some (hb_r 12 0 0), some (hb_i x1), some (hb_i x2)] [] w Q := by
  refine hb_aload_n (pc := 83) (i := 0) dX12_qTest_83 rfl rfl ?_
  exact hb_callV (pc := 84) (As := []) (st := []) dX12_qTest_84 ml_X12_549 mf_X12_qDropsNots mi_X12_qDropsNots (ci := 12) rfl rfl (by decide) rfl rfl (Nat.le_of_ble_eq_true rfl) (Nat.le_of_ble_eq_true rfl) h (fun _ _ q => q)
set_option maxRecDepth 20000 in
theorem bk_X12_qTest_87 {d : Nat} {w : hb_W} {Q : Option hb_V → hb_W → Prop} {x1 : Int32} {x2 : Int32} (h : ((¬ (hb_fI w 12 5 0) = 0) → hb_R yX12_qTest cX12_qTest 3 none (d + 1) 2 [some (hb_r 12 0 0), some (hb_i (0 : Int32)), some (hb_i x2)] [] w Q) ∧ (((hb_fI w 12 5 0) = 0) → hb_O yX12_qGoesOnTest cX12_qGoesOnTest 1 (some .boolean) d [hb_r 12 0 0] w (fun rv w1 => hb_R yX12_qTest cX12_qTest 3 none (d + 1) 98 [some (hb_r 12 0 0), some (hb_i x1), some (hb_i x2)] (rv.toList ++ []) w1 Q))) : hb_R yX12_qTest cX12_qTest 3 none (d + 1) 87 [some (hb_r 12 0 0), some (hb_i x1), some (hb_i x2)] [] w Q := by
  refine hb_aload_n (pc := 87) (i := 0) dX12_qTest_87 rfl rfl ?_
  refine hb_getIx (pc := 88) (x := hb_fI w 12 5 0) dX12_qTest_88 fw_X12_195 cw_12 rfl (by decide) rfl rfl ?_
  refine hb_if_ne (pc := 91) (tgt := 105) dX12_qTest_91 (by decide) (fun c1 => ?_) (fun c1 => ?_)
  · have ht1 := h.1 c1
    refine hb_iconst (pc := 105) (v := 0) dX12_qTest_105 (by decide) ?_
    refine hb_istore_n (pc := 106) (i := 1) (ls1 := [some (hb_r 12 0 0), some (hb_i (0 : Int32)), some (hb_i x2)]) dX12_qTest_106 rfl (by decide) rfl ?_
    refine hb_goto (pc := 107) (tgt := 2) dX12_qTest_107 (by decide) ?_
    exact ht1
  · have ht1 := h.2 c1
    refine hb_aload_n (pc := 94) (i := 0) dX12_qTest_94 rfl rfl ?_
    exact hb_callV (pc := 95) (As := []) (st := []) dX12_qTest_95 ml_X12_552 mf_X12_qGoesOnTest mi_X12_qGoesOnTest (ci := 12) rfl rfl (by decide) rfl rfl (Nat.le_of_ble_eq_true rfl) (Nat.le_of_ble_eq_true rfl) ht1 (fun _ _ q => q)
set_option maxRecDepth 20000 in
theorem bk_X12_qTest_98 {d : Nat} {w : hb_W} {Q : Option hb_V → hb_W → Prop} {x1 : Int32} {x2 : Int32} {xs0 : Int32} (h : ((xs0 = 0) → hb_R yX12_qTest cX12_qTest 3 none (d + 1) 2 [some (hb_r 12 0 0), some (hb_i (0 : Int32)), some (hb_i x2)] [] w Q) ∧ ((¬ xs0 = 0) → hb_R yX12_qTest cX12_qTest 3 none (d + 1) 2 [some (hb_r 12 0 0), some (hb_i (1 : Int32)), some (hb_i x2)] [] w Q)) : hb_R yX12_qTest cX12_qTest 3 none (d + 1) 98 [some (hb_r 12 0 0), some (hb_i x1), some (hb_i x2)] [hb_i xs0] w Q := by
  refine hb_if_eq (pc := 98) (tgt := 105) dX12_qTest_98 (by decide) (fun c1 => ?_) (fun c1 => ?_)
  · have ht1 := h.1 c1
    refine hb_iconst (pc := 105) (v := 0) dX12_qTest_105 (by decide) ?_
    refine hb_istore_n (pc := 106) (i := 1) (ls1 := [some (hb_r 12 0 0), some (hb_i (0 : Int32)), some (hb_i x2)]) dX12_qTest_106 rfl (by decide) rfl ?_
    refine hb_goto (pc := 107) (tgt := 2) dX12_qTest_107 (by decide) ?_
    exact ht1
  · have ht1 := h.2 c1
    refine hb_iconst (pc := 101) (v := 1) dX12_qTest_101 (by decide) ?_
    refine hb_goto (pc := 102) (tgt := 106) dX12_qTest_102 (by decide) ?_
    refine hb_istore_n (pc := 106) (i := 1) (ls1 := [some (hb_r 12 0 0), some (hb_i (1 : Int32)), some (hb_i x2)]) dX12_qTest_106 rfl (by decide) rfl ?_
    refine hb_goto (pc := 107) (tgt := 2) dX12_qTest_107 (by decide) ?_
    exact ht1
set_option maxRecDepth 20000 in
theorem bk_X12_qTest_110 {d : Nat} {w : hb_W} {Q : Option hb_V → hb_W → Prop} {x1 : Int32} (h : ((¬ (hb_fI w 12 5 0) = 0) → Q none w) ∧ (((hb_fI w 12 5 0) = 0) → (((hb_fI w 12 82 0) ≤ 0) → Q none w) ∧ ((¬ (hb_fI w 12 82 0) ≤ 0) → hb_O yX12_qDrops cX12_qDrops 1 none d [hb_r 12 0 0] w (fun rv w1 => hb_R yX12_qTest cX12_qTest 3 none (d + 1) 128 [some (hb_r 12 0 0), some (hb_i x1), none] (rv.toList ++ []) w1 Q)))) : hb_R yX12_qTest cX12_qTest 3 none (d + 1) 110 [some (hb_r 12 0 0), some (hb_i x1), none] [] w Q := by
  refine hb_aload_n (pc := 110) (i := 0) dX12_qTest_110 rfl rfl ?_
  refine hb_getIx (pc := 111) (x := hb_fI w 12 5 0) dX12_qTest_111 fw_X12_195 cw_12 rfl (by decide) rfl rfl ?_
  refine hb_if_ne (pc := 114) (tgt := 131) dX12_qTest_114 (by decide) (fun c1 => ?_) (fun c1 => ?_)
  · have ht1 := h.1 c1
    exact hb_vret (pc := 131) dX12_qTest_131 rfl ht1
  · have ht1 := h.2 c1
    refine hb_aload_n (pc := 117) (i := 0) dX12_qTest_117 rfl rfl ?_
    refine hb_getIx (pc := 118) (x := hb_fI w 12 82 0) dX12_qTest_118 fw_X12_260 cw_12 rfl (by decide) rfl rfl ?_
    refine hb_if_le (pc := 121) (tgt := 131) dX12_qTest_121 (by decide) (fun c2 => ?_) (fun c2 => ?_)
    · have ht2 := ht1.1 c2
      exact hb_vret (pc := 131) dX12_qTest_131 rfl ht2
    · have ht2 := ht1.2 c2
      refine hb_aload_n (pc := 124) (i := 0) dX12_qTest_124 rfl rfl ?_
      exact hb_callV (pc := 125) (As := []) (st := []) dX12_qTest_125 ml_X12_509 mf_X12_qDrops mi_X12_qDrops (ci := 12) rfl rfl (by decide) rfl rfl (Nat.le_of_ble_eq_true rfl) (Nat.le_of_ble_eq_true rfl) ht2 (fun _ _ q => q)
set_option maxRecDepth 20000 in
theorem bk_X12_qTest_128 {d : Nat} {w : hb_W} {Q : Option hb_V → hb_W → Prop} {x1 : Int32} (h : hb_R yX12_qTest cX12_qTest 3 none (d + 1) 110 [some (hb_r 12 0 0), some (hb_i x1), none] [] w Q) : hb_R yX12_qTest cX12_qTest 3 none (d + 1) 128 [some (hb_r 12 0 0), some (hb_i x1), none] [] w Q := by
  refine hb_goto (pc := 128) (tgt := 110) dX12_qTest_128 (by decide) ?_
  exact h
theorem dX12_qGoesOnTest_0 : decode cX12_qGoesOnTest 0 = .ok (.aload_n 0, 1) := by decide +kernel
theorem dX12_qGoesOnTest_1 : decode cX12_qGoesOnTest 1 = .ok (.getfield 195, 3) := by decide +kernel
theorem dX12_qGoesOnTest_4 : decode cX12_qGoesOnTest 4 = .ok (.ifCond .ne 72, 3) := by decide +kernel
theorem dX12_qGoesOnTest_7 : decode cX12_qGoesOnTest 7 = .ok (.aload_n 0, 1) := by decide +kernel
theorem dX12_qGoesOnTest_8 : decode cX12_qGoesOnTest 8 = .ok (.invokevirtual 207, 3) := by decide +kernel
theorem dX12_qGoesOnTest_11 : decode cX12_qGoesOnTest 11 = .ok (.bipush 93, 2) := by decide +kernel
theorem dX12_qGoesOnTest_13 : decode cX12_qGoesOnTest 13 = .ok (.if_icmp .ne 63, 3) := by decide +kernel
theorem dX12_qGoesOnTest_16 : decode cX12_qGoesOnTest 16 = .ok (.aload_n 0, 1) := by decide +kernel
theorem dX12_qGoesOnTest_17 : decode cX12_qGoesOnTest 17 = .ok (.invokevirtual 555, 3) := by decide +kernel
theorem dX12_qGoesOnTest_20 : decode cX12_qGoesOnTest 20 = .ok (.ifCond .eq 56, 3) := by decide +kernel
theorem dX12_qGoesOnTest_23 : decode cX12_qGoesOnTest 23 = .ok (.aload_n 0, 1) := by decide +kernel
theorem dX12_qGoesOnTest_24 : decode cX12_qGoesOnTest 24 = .ok (.dup, 1) := by decide +kernel
theorem dX12_qGoesOnTest_25 : decode cX12_qGoesOnTest 25 = .ok (.getfield 201, 3) := by decide +kernel
theorem dX12_qGoesOnTest_28 : decode cX12_qGoesOnTest 28 = .ok (.iconst 1, 1) := by decide +kernel
theorem dX12_qGoesOnTest_29 : decode cX12_qGoesOnTest 29 = .ok (.iadd, 1) := by decide +kernel
theorem dX12_qGoesOnTest_30 : decode cX12_qGoesOnTest 30 = .ok (.putfield 201, 3) := by decide +kernel
theorem dX12_qGoesOnTest_33 : decode cX12_qGoesOnTest 33 = .ok (.aload_n 0, 1) := by decide +kernel
theorem dX12_qGoesOnTest_34 : decode cX12_qGoesOnTest 34 = .ok (.bipush 25, 2) := by decide +kernel
theorem dX12_qGoesOnTest_36 : decode cX12_qGoesOnTest 36 = .ok (.invokevirtual 536, 3) := by decide +kernel
theorem dX12_qGoesOnTest_39 : decode cX12_qGoesOnTest 39 = .ok (.ifCond .ne 10, 3) := by decide +kernel
theorem dX12_qGoesOnTest_42 : decode cX12_qGoesOnTest 42 = .ok (.aload_n 0, 1) := by decide +kernel
theorem dX12_qGoesOnTest_43 : decode cX12_qGoesOnTest 43 = .ok (.invokevirtual 509, 3) := by decide +kernel
theorem dX12_qGoesOnTest_46 : decode cX12_qGoesOnTest 46 = .ok (.goto (-13), 3) := by decide +kernel
theorem dX12_qGoesOnTest_49 : decode cX12_qGoesOnTest 49 = .ok (.aload_n 0, 1) := by decide +kernel
theorem dX12_qGoesOnTest_50 : decode cX12_qGoesOnTest 50 = .ok (.dup, 1) := by decide +kernel
theorem dX12_qGoesOnTest_51 : decode cX12_qGoesOnTest 51 = .ok (.getfield 260, 3) := by decide +kernel
theorem dX12_qGoesOnTest_54 : decode cX12_qGoesOnTest 54 = .ok (.iconst 1, 1) := by decide +kernel
theorem dX12_qGoesOnTest_55 : decode cX12_qGoesOnTest 55 = .ok (.isub, 1) := by decide +kernel
theorem dX12_qGoesOnTest_56 : decode cX12_qGoesOnTest 56 = .ok (.putfield 260, 3) := by decide +kernel
theorem dX12_qGoesOnTest_59 : decode cX12_qGoesOnTest 59 = .ok (.aload_n 0, 1) := by decide +kernel
theorem dX12_qGoesOnTest_60 : decode cX12_qGoesOnTest 60 = .ok (.dup, 1) := by decide +kernel
theorem dX12_qGoesOnTest_61 : decode cX12_qGoesOnTest 61 = .ok (.getfield 263, 3) := by decide +kernel
theorem dX12_qGoesOnTest_64 : decode cX12_qGoesOnTest 64 = .ok (.iconst 1, 1) := by decide +kernel
theorem dX12_qGoesOnTest_65 : decode cX12_qGoesOnTest 65 = .ok (.isub, 1) := by decide +kernel
theorem dX12_qGoesOnTest_66 : decode cX12_qGoesOnTest 66 = .ok (.putfield 263, 3) := by decide +kernel
theorem dX12_qGoesOnTest_69 : decode cX12_qGoesOnTest 69 = .ok (.aload_n 0, 1) := by decide +kernel
theorem dX12_qGoesOnTest_70 : decode cX12_qGoesOnTest 70 = .ok (.invokevirtual 549, 3) := by decide +kernel
theorem dX12_qGoesOnTest_73 : decode cX12_qGoesOnTest 73 = .ok (.goto (-73), 3) := by decide +kernel
theorem dX12_qGoesOnTest_76 : decode cX12_qGoesOnTest 76 = .ok (.aload_n 0, 1) := by decide +kernel
theorem dX12_qGoesOnTest_77 : decode cX12_qGoesOnTest 77 = .ok (.aload_n 0, 1) := by decide +kernel
theorem dX12_qGoesOnTest_78 : decode cX12_qGoesOnTest 78 = .ok (.getfield 137, 3) := by decide +kernel
theorem dX12_qGoesOnTest_81 : decode cX12_qGoesOnTest 81 = .ok (.invokevirtual 222, 3) := by decide +kernel
theorem dX12_qGoesOnTest_84 : decode cX12_qGoesOnTest 84 = .ok (.ifCond .eq 42, 3) := by decide +kernel
theorem dX12_qGoesOnTest_87 : decode cX12_qGoesOnTest 87 = .ok (.aload_n 0, 1) := by decide +kernel
theorem dX12_qGoesOnTest_88 : decode cX12_qGoesOnTest 88 = .ok (.bipush 10, 2) := by decide +kernel
theorem dX12_qGoesOnTest_90 : decode cX12_qGoesOnTest 90 = .ok (.invokevirtual 536, 3) := by decide +kernel
theorem dX12_qGoesOnTest_93 : decode cX12_qGoesOnTest 93 = .ok (.ifCond .eq 10, 3) := by decide +kernel
theorem dX12_qGoesOnTest_96 : decode cX12_qGoesOnTest 96 = .ok (.aload_n 0, 1) := by decide +kernel
theorem dX12_qGoesOnTest_97 : decode cX12_qGoesOnTest 97 = .ok (.invokevirtual 509, 3) := by decide +kernel
theorem dX12_qGoesOnTest_100 : decode cX12_qGoesOnTest 100 = .ok (.goto (-13), 3) := by decide +kernel
theorem dX12_qGoesOnTest_103 : decode cX12_qGoesOnTest 103 = .ok (.aload_n 0, 1) := by decide +kernel
theorem dX12_qGoesOnTest_104 : decode cX12_qGoesOnTest 104 = .ok (.getfield 182, 3) := by decide +kernel
theorem dX12_qGoesOnTest_107 : decode cX12_qGoesOnTest 107 = .ok (.aload_n 0, 1) := by decide +kernel
theorem dX12_qGoesOnTest_108 : decode cX12_qGoesOnTest 108 = .ok (.getfield 260, 3) := by decide +kernel
theorem dX12_qGoesOnTest_111 : decode cX12_qGoesOnTest 111 = .ok (.bipush 10, 2) := by decide +kernel
theorem dX12_qGoesOnTest_113 : decode cX12_qGoesOnTest 113 = .ok (.iastore, 1) := by decide +kernel
theorem dX12_qGoesOnTest_114 : decode cX12_qGoesOnTest 114 = .ok (.aload_n 0, 1) := by decide +kernel
theorem dX12_qGoesOnTest_115 : decode cX12_qGoesOnTest 115 = .ok (.dup, 1) := by decide +kernel
theorem dX12_qGoesOnTest_116 : decode cX12_qGoesOnTest 116 = .ok (.getfield 260, 3) := by decide +kernel
theorem dX12_qGoesOnTest_119 : decode cX12_qGoesOnTest 119 = .ok (.iconst 1, 1) := by decide +kernel
theorem dX12_qGoesOnTest_120 : decode cX12_qGoesOnTest 120 = .ok (.iadd, 1) := by decide +kernel
theorem dX12_qGoesOnTest_121 : decode cX12_qGoesOnTest 121 = .ok (.putfield 260, 3) := by decide +kernel
theorem dX12_qGoesOnTest_124 : decode cX12_qGoesOnTest 124 = .ok (.iconst 1, 1) := by decide +kernel
theorem dX12_qGoesOnTest_125 : decode cX12_qGoesOnTest 125 = .ok (.ireturn, 1) := by decide +kernel
theorem dX12_qGoesOnTest_126 : decode cX12_qGoesOnTest 126 = .ok (.aload_n 0, 1) := by decide +kernel
theorem dX12_qGoesOnTest_127 : decode cX12_qGoesOnTest 127 = .ok (.aload_n 0, 1) := by decide +kernel
theorem dX12_qGoesOnTest_128 : decode cX12_qGoesOnTest 128 = .ok (.getfield 140, 3) := by decide +kernel
theorem dX12_qGoesOnTest_131 : decode cX12_qGoesOnTest 131 = .ok (.invokevirtual 222, 3) := by decide +kernel
theorem dX12_qGoesOnTest_134 : decode cX12_qGoesOnTest 134 = .ok (.ifCond .eq 51, 3) := by decide +kernel
theorem dX12_qGoesOnTest_137 : decode cX12_qGoesOnTest 137 = .ok (.aload_n 0, 1) := by decide +kernel
theorem dX12_qGoesOnTest_138 : decode cX12_qGoesOnTest 138 = .ok (.bipush 10, 2) := by decide +kernel
theorem dX12_qGoesOnTest_140 : decode cX12_qGoesOnTest 140 = .ok (.invokevirtual 536, 3) := by decide +kernel
theorem dX12_qGoesOnTest_143 : decode cX12_qGoesOnTest 143 = .ok (.ifCond .ne 12, 3) := by decide +kernel
theorem dX12_qGoesOnTest_146 : decode cX12_qGoesOnTest 146 = .ok (.aload_n 0, 1) := by decide +kernel
theorem dX12_qGoesOnTest_147 : decode cX12_qGoesOnTest 147 = .ok (.bipush 11, 2) := by decide +kernel
theorem dX12_qGoesOnTest_149 : decode cX12_qGoesOnTest 149 = .ok (.invokevirtual 536, 3) := by decide +kernel
theorem dX12_qGoesOnTest_152 : decode cX12_qGoesOnTest 152 = .ok (.ifCond .eq 10, 3) := by decide +kernel
theorem dX12_qGoesOnTest_155 : decode cX12_qGoesOnTest 155 = .ok (.aload_n 0, 1) := by decide +kernel
theorem dX12_qGoesOnTest_156 : decode cX12_qGoesOnTest 156 = .ok (.invokevirtual 509, 3) := by decide +kernel
theorem dX12_qGoesOnTest_159 : decode cX12_qGoesOnTest 159 = .ok (.goto (-22), 3) := by decide +kernel
theorem dX12_qGoesOnTest_162 : decode cX12_qGoesOnTest 162 = .ok (.aload_n 0, 1) := by decide +kernel
theorem dX12_qGoesOnTest_163 : decode cX12_qGoesOnTest 163 = .ok (.getfield 182, 3) := by decide +kernel
theorem dX12_qGoesOnTest_166 : decode cX12_qGoesOnTest 166 = .ok (.aload_n 0, 1) := by decide +kernel
theorem dX12_qGoesOnTest_167 : decode cX12_qGoesOnTest 167 = .ok (.getfield 260, 3) := by decide +kernel
theorem dX12_qGoesOnTest_170 : decode cX12_qGoesOnTest 170 = .ok (.bipush 11, 2) := by decide +kernel
theorem dX12_qGoesOnTest_172 : decode cX12_qGoesOnTest 172 = .ok (.iastore, 1) := by decide +kernel
theorem dX12_qGoesOnTest_173 : decode cX12_qGoesOnTest 173 = .ok (.aload_n 0, 1) := by decide +kernel
theorem dX12_qGoesOnTest_174 : decode cX12_qGoesOnTest 174 = .ok (.dup, 1) := by decide +kernel
theorem dX12_qGoesOnTest_175 : decode cX12_qGoesOnTest 175 = .ok (.getfield 260, 3) := by decide +kernel
theorem dX12_qGoesOnTest_178 : decode cX12_qGoesOnTest 178 = .ok (.iconst 1, 1) := by decide +kernel
theorem dX12_qGoesOnTest_179 : decode cX12_qGoesOnTest 179 = .ok (.iadd, 1) := by decide +kernel
theorem dX12_qGoesOnTest_180 : decode cX12_qGoesOnTest 180 = .ok (.putfield 260, 3) := by decide +kernel
theorem dX12_qGoesOnTest_183 : decode cX12_qGoesOnTest 183 = .ok (.iconst 1, 1) := by decide +kernel
theorem dX12_qGoesOnTest_184 : decode cX12_qGoesOnTest 184 = .ok (.ireturn, 1) := by decide +kernel
theorem dX12_qGoesOnTest_185 : decode cX12_qGoesOnTest 185 = .ok (.aload_n 0, 1) := by decide +kernel
theorem dX12_qGoesOnTest_186 : decode cX12_qGoesOnTest 186 = .ok (.getfield 195, 3) := by decide +kernel
theorem dX12_qGoesOnTest_189 : decode cX12_qGoesOnTest 189 = .ok (.ifCond .ne 19, 3) := by decide +kernel
theorem dX12_qGoesOnTest_192 : decode cX12_qGoesOnTest 192 = .ok (.aload_n 0, 1) := by decide +kernel
theorem dX12_qGoesOnTest_193 : decode cX12_qGoesOnTest 193 = .ok (.invokevirtual 555, 3) := by decide +kernel
theorem dX12_qGoesOnTest_196 : decode cX12_qGoesOnTest 196 = .ok (.ifCond .eq 12, 3) := by decide +kernel
theorem dX12_qGoesOnTest_199 : decode cX12_qGoesOnTest 199 = .ok (.aload_n 0, 1) := by decide +kernel
theorem dX12_qGoesOnTest_200 : decode cX12_qGoesOnTest 200 = .ok (.iconst 1, 1) := by decide +kernel
theorem dX12_qGoesOnTest_201 : decode cX12_qGoesOnTest 201 = .ok (.aload_n 0, 1) := by decide +kernel
theorem dX12_qGoesOnTest_202 : decode cX12_qGoesOnTest 202 = .ok (.getfield 201, 3) := by decide +kernel
theorem dX12_qGoesOnTest_205 : decode cX12_qGoesOnTest 205 = .ok (.invokevirtual 225, 3) := by decide +kernel
theorem dX12_qGoesOnTest_208 : decode cX12_qGoesOnTest 208 = .ok (.iconst 0, 1) := by decide +kernel
theorem dX12_qGoesOnTest_209 : decode cX12_qGoesOnTest 209 = .ok (.ireturn, 1) := by decide +kernel
set_option maxRecDepth 20000 in
theorem bk_X12_qGoesOnTest_0 {d : Nat} {w : hb_W} {Q : Option hb_V → hb_W → Prop} (h : ((¬ (hb_fI w 12 5 0) = 0) → hb_O yX12_takes cX12_takes 2 (some .boolean) d [hb_r 12 0 0, hb_r 12 0 40] w (fun rv w1 => hb_R yX12_qGoesOnTest cX12_qGoesOnTest 1 (some .boolean) (d + 1) 84 [some (hb_r 12 0 0)] (rv.toList ++ []) w1 Q)) ∧ (((hb_fI w 12 5 0) = 0) → hb_O yX12_look cX12_look 1 (some .int) d [hb_r 12 0 0] w (fun rv w1 => hb_R yX12_qGoesOnTest cX12_qGoesOnTest 1 (some .boolean) (d + 1) 11 [some (hb_r 12 0 0)] (rv.toList ++ []) w1 Q))) : hb_R yX12_qGoesOnTest cX12_qGoesOnTest 1 (some .boolean) (d + 1) 0 [some (hb_r 12 0 0)] [] w Q := by
  refine hb_aload_n (pc := 0) (i := 0) dX12_qGoesOnTest_0 rfl rfl ?_
  refine hb_getIx (pc := 1) (x := hb_fI w 12 5 0) dX12_qGoesOnTest_1 fw_X12_195 cw_12 rfl (by decide) rfl rfl ?_
  refine hb_if_ne (pc := 4) (tgt := 76) dX12_qGoesOnTest_4 (by decide) (fun c1 => ?_) (fun c1 => ?_)
  · have ht1 := h.1 c1
    refine hb_aload_n (pc := 76) (i := 0) dX12_qGoesOnTest_76 rfl rfl ?_
    refine hb_aload_n (pc := 77) (i := 0) dX12_qGoesOnTest_77 rfl rfl ?_
    refine hb_getR (pc := 78) (g1 := 0) dX12_qGoesOnTest_78 fw_X12_137 cw_12 rfl (by decide) rfl (by decide) rfl ?_
    exact hb_callV (pc := 81) (As := [hb_r 12 0 40]) (st := []) dX12_qGoesOnTest_81 ml_X12_222 mf_X12_takes mi_X12_takes (ci := 12) rfl rfl (by decide) rfl rfl (Nat.le_of_ble_eq_true rfl) (Nat.le_of_ble_eq_true rfl) ht1 (fun _ _ q => q)
  · have ht1 := h.2 c1
    refine hb_aload_n (pc := 7) (i := 0) dX12_qGoesOnTest_7 rfl rfl ?_
    exact hb_callV (pc := 8) (As := []) (st := []) dX12_qGoesOnTest_8 ml_X12_207 mf_X12_look mi_X12_look (ci := 12) rfl rfl (by decide) rfl rfl (Nat.le_of_ble_eq_true rfl) (Nat.le_of_ble_eq_true rfl) ht1 (fun _ _ q => q)
set_option maxRecDepth 20000 in
theorem bk_X12_qGoesOnTest_11 {d : Nat} {w : hb_W} {Q : Option hb_V → hb_W → Prop} {xs0 : Int32} (h : ((¬ xs0 = (93 : Int32)) → hb_O yX12_takes cX12_takes 2 (some .boolean) d [hb_r 12 0 0, hb_r 12 0 40] w (fun rv w1 => hb_R yX12_qGoesOnTest cX12_qGoesOnTest 1 (some .boolean) (d + 1) 84 [some (hb_r 12 0 0)] (rv.toList ++ []) w1 Q)) ∧ ((xs0 = (93 : Int32)) → hb_O yX12_qHasSquare cX12_qHasSquare 2 (some .boolean) d [hb_r 12 0 0] w (fun rv w1 => hb_R yX12_qGoesOnTest cX12_qGoesOnTest 1 (some .boolean) (d + 1) 20 [some (hb_r 12 0 0)] (rv.toList ++ []) w1 Q))) : hb_R yX12_qGoesOnTest cX12_qGoesOnTest 1 (some .boolean) (d + 1) 11 [some (hb_r 12 0 0)] [hb_i xs0] w Q := by
  refine hb_bipush (pc := 11) (v := 93) dX12_qGoesOnTest_11 (by decide) ?_
  refine hb_icmp_ne (pc := 13) (tgt := 76) dX12_qGoesOnTest_13 (by decide) (fun c1 => ?_) (fun c1 => ?_)
  · have ht1 := h.1 c1
    refine hb_aload_n (pc := 76) (i := 0) dX12_qGoesOnTest_76 rfl rfl ?_
    refine hb_aload_n (pc := 77) (i := 0) dX12_qGoesOnTest_77 rfl rfl ?_
    refine hb_getR (pc := 78) (g1 := 0) dX12_qGoesOnTest_78 fw_X12_137 cw_12 rfl (by decide) rfl (by decide) rfl ?_
    exact hb_callV (pc := 81) (As := [hb_r 12 0 40]) (st := []) dX12_qGoesOnTest_81 ml_X12_222 mf_X12_takes mi_X12_takes (ci := 12) rfl rfl (by decide) rfl rfl (Nat.le_of_ble_eq_true rfl) (Nat.le_of_ble_eq_true rfl) ht1 (fun _ _ q => q)
  · have ht1 := h.2 c1
    refine hb_aload_n (pc := 16) (i := 0) dX12_qGoesOnTest_16 rfl rfl ?_
    exact hb_callV (pc := 17) (As := []) (st := []) dX12_qGoesOnTest_17 ml_X12_555 mf_X12_qHasSquare mi_X12_qHasSquare (ci := 12) rfl rfl (by decide) rfl rfl (Nat.le_of_ble_eq_true rfl) (Nat.le_of_ble_eq_true rfl) ht1 (fun _ _ q => q)
set_option maxRecDepth 20000 in
theorem bk_X12_qGoesOnTest_20 {d : Nat} {w : hb_W} {Q : Option hb_V → hb_W → Prop} {xs0 : Int32} (h : ((xs0 = 0) → hb_O yX12_takes cX12_takes 2 (some .boolean) d [hb_r 12 0 0, hb_r 12 0 40] w (fun rv w1 => hb_R yX12_qGoesOnTest cX12_qGoesOnTest 1 (some .boolean) (d + 1) 84 [some (hb_r 12 0 0)] (rv.toList ++ []) w1 Q)) ∧ ((¬ xs0 = 0) → hb_R yX12_qGoesOnTest cX12_qGoesOnTest 1 (some .boolean) (d + 1) 33 [some (hb_r 12 0 0)] [] (hb_pI w 12 2 0 ((hb_fI w 12 2 0) + (1 : Int32))) Q)) : hb_R yX12_qGoesOnTest cX12_qGoesOnTest 1 (some .boolean) (d + 1) 20 [some (hb_r 12 0 0)] [hb_i xs0] w Q := by
  refine hb_if_eq (pc := 20) (tgt := 76) dX12_qGoesOnTest_20 (by decide) (fun c1 => ?_) (fun c1 => ?_)
  · have ht1 := h.1 c1
    refine hb_aload_n (pc := 76) (i := 0) dX12_qGoesOnTest_76 rfl rfl ?_
    refine hb_aload_n (pc := 77) (i := 0) dX12_qGoesOnTest_77 rfl rfl ?_
    refine hb_getR (pc := 78) (g1 := 0) dX12_qGoesOnTest_78 fw_X12_137 cw_12 rfl (by decide) rfl (by decide) rfl ?_
    exact hb_callV (pc := 81) (As := [hb_r 12 0 40]) (st := []) dX12_qGoesOnTest_81 ml_X12_222 mf_X12_takes mi_X12_takes (ci := 12) rfl rfl (by decide) rfl rfl (Nat.le_of_ble_eq_true rfl) (Nat.le_of_ble_eq_true rfl) ht1 (fun _ _ q => q)
  · have ht1 := h.2 c1
    refine hb_aload_n (pc := 23) (i := 0) dX12_qGoesOnTest_23 rfl rfl ?_
    refine hb_dupr (pc := 24) dX12_qGoesOnTest_24 ?_
    refine hb_getIx (pc := 25) (x := hb_fI w 12 2 0) dX12_qGoesOnTest_25 fw_X12_201 cw_12 rfl (by decide) rfl rfl ?_
    refine hb_iconst (pc := 28) (v := 1) dX12_qGoesOnTest_28 (by decide) ?_
    refine hb_iadd (pc := 29) dX12_qGoesOnTest_29 ?_
    refine hb_putI (pc := 30) dX12_qGoesOnTest_30 fw_X12_201 cw_12 pw_12_2 rfl (by decide) rfl rfl rfl ?_
    exact ht1
set_option maxRecDepth 20000 in
theorem bk_X12_qGoesOnTest_33 {d : Nat} {w : hb_W} {Q : Option hb_V → hb_W → Prop} (h : hb_O yX12_qIsOn cX12_qIsOn 2 (some .boolean) d [hb_r 12 0 0, hb_i (25 : Int32)] w (fun rv w1 => hb_R yX12_qGoesOnTest cX12_qGoesOnTest 1 (some .boolean) (d + 1) 39 [some (hb_r 12 0 0)] (rv.toList ++ []) w1 Q)) : hb_R yX12_qGoesOnTest cX12_qGoesOnTest 1 (some .boolean) (d + 1) 33 [some (hb_r 12 0 0)] [] w Q := by
  refine hb_aload_n (pc := 33) (i := 0) dX12_qGoesOnTest_33 rfl rfl ?_
  refine hb_bipush (pc := 34) (v := 25) dX12_qGoesOnTest_34 (by decide) ?_
  exact hb_callV (pc := 36) (As := [hb_i (25 : Int32)]) (st := []) dX12_qGoesOnTest_36 ml_X12_536 mf_X12_qIsOn mi_X12_qIsOn (ci := 12) rfl rfl (by decide) rfl rfl (Nat.le_of_ble_eq_true rfl) (Nat.le_of_ble_eq_true rfl) h (fun _ _ q => q)
set_option maxRecDepth 20000 in
theorem bk_X12_qGoesOnTest_39 {d : Nat} {w : hb_W} {Q : Option hb_V → hb_W → Prop} {xs0 : Int32} (h : ((¬ xs0 = 0) → hb_O yX12_qDropsNots cX12_qDropsNots 1 none d [hb_r 12 0 0] (hb_pI (hb_pI w 12 82 0 ((hb_fI w 12 82 0) - (1 : Int32))) 12 83 0 ((hb_fI w 12 83 0) - (1 : Int32))) (fun rv w1 => hb_R yX12_qGoesOnTest cX12_qGoesOnTest 1 (some .boolean) (d + 1) 73 [some (hb_r 12 0 0)] (rv.toList ++ []) w1 Q)) ∧ ((xs0 = 0) → hb_O yX12_qDrops cX12_qDrops 1 none d [hb_r 12 0 0] w (fun rv w1 => hb_R yX12_qGoesOnTest cX12_qGoesOnTest 1 (some .boolean) (d + 1) 46 [some (hb_r 12 0 0)] (rv.toList ++ []) w1 Q))) : hb_R yX12_qGoesOnTest cX12_qGoesOnTest 1 (some .boolean) (d + 1) 39 [some (hb_r 12 0 0)] [hb_i xs0] w Q := by
  refine hb_if_ne (pc := 39) (tgt := 49) dX12_qGoesOnTest_39 (by decide) (fun c1 => ?_) (fun c1 => ?_)
  · have ht1 := h.1 c1
    refine hb_aload_n (pc := 49) (i := 0) dX12_qGoesOnTest_49 rfl rfl ?_
    refine hb_dupr (pc := 50) dX12_qGoesOnTest_50 ?_
    refine hb_getIx (pc := 51) (x := hb_fI w 12 82 0) dX12_qGoesOnTest_51 fw_X12_260 cw_12 rfl (by decide) rfl rfl ?_
    refine hb_iconst (pc := 54) (v := 1) dX12_qGoesOnTest_54 (by decide) ?_
    refine hb_isub (pc := 55) dX12_qGoesOnTest_55 ?_
    refine hb_putI (pc := 56) dX12_qGoesOnTest_56 fw_X12_260 cw_12 pw_12_82 rfl (by decide) rfl rfl rfl ?_
    refine hb_aload_n (pc := 59) (i := 0) dX12_qGoesOnTest_59 rfl rfl ?_
    refine hb_dupr (pc := 60) dX12_qGoesOnTest_60 ?_
    refine hb_getIx (pc := 61) (x := hb_fI w 12 83 0) dX12_qGoesOnTest_61 fw_X12_263 cw_12 rfl (by decide) rfl rfl ?_
    refine hb_iconst (pc := 64) (v := 1) dX12_qGoesOnTest_64 (by decide) ?_
    refine hb_isub (pc := 65) dX12_qGoesOnTest_65 ?_
    refine hb_putI (pc := 66) dX12_qGoesOnTest_66 fw_X12_263 cw_12 pw_12_83 rfl (by decide) rfl rfl rfl ?_
    refine hb_aload_n (pc := 69) (i := 0) dX12_qGoesOnTest_69 rfl rfl ?_
    exact hb_callV (pc := 70) (As := []) (st := []) dX12_qGoesOnTest_70 ml_X12_549 mf_X12_qDropsNots mi_X12_qDropsNots (ci := 12) rfl rfl (by decide) rfl rfl (Nat.le_of_ble_eq_true rfl) (Nat.le_of_ble_eq_true rfl) ht1 (fun _ _ q => q)
  · have ht1 := h.2 c1
    refine hb_aload_n (pc := 42) (i := 0) dX12_qGoesOnTest_42 rfl rfl ?_
    exact hb_callV (pc := 43) (As := []) (st := []) dX12_qGoesOnTest_43 ml_X12_509 mf_X12_qDrops mi_X12_qDrops (ci := 12) rfl rfl (by decide) rfl rfl (Nat.le_of_ble_eq_true rfl) (Nat.le_of_ble_eq_true rfl) ht1 (fun _ _ q => q)
set_option maxRecDepth 20000 in
theorem bk_X12_qGoesOnTest_46 {d : Nat} {w : hb_W} {Q : Option hb_V → hb_W → Prop} (h : hb_R yX12_qGoesOnTest cX12_qGoesOnTest 1 (some .boolean) (d + 1) 33 [some (hb_r 12 0 0)] [] w Q) : hb_R yX12_qGoesOnTest cX12_qGoesOnTest 1 (some .boolean) (d + 1) 46 [some (hb_r 12 0 0)] [] w Q := by
  refine hb_goto (pc := 46) (tgt := 33) dX12_qGoesOnTest_46 (by decide) ?_
  exact h
set_option maxRecDepth 20000 in
theorem bk_X12_qGoesOnTest_73 {d : Nat} {w : hb_W} {Q : Option hb_V → hb_W → Prop} (h : hb_R yX12_qGoesOnTest cX12_qGoesOnTest 1 (some .boolean) (d + 1) 0 [some (hb_r 12 0 0)] [] w Q) : hb_R yX12_qGoesOnTest cX12_qGoesOnTest 1 (some .boolean) (d + 1) 73 [some (hb_r 12 0 0)] [] w Q := by
  refine hb_goto (pc := 73) (tgt := 0) dX12_qGoesOnTest_73 (by decide) ?_
  exact h
set_option maxRecDepth 20000 in
theorem bk_X12_qGoesOnTest_84 {d : Nat} {w : hb_W} {Q : Option hb_V → hb_W → Prop} {xs0 : Int32} (h : ((xs0 = 0) → hb_O yX12_takes cX12_takes 2 (some .boolean) d [hb_r 12 0 0, hb_r 12 0 41] w (fun rv w1 => hb_R yX12_qGoesOnTest cX12_qGoesOnTest 1 (some .boolean) (d + 1) 134 [some (hb_r 12 0 0)] (rv.toList ++ []) w1 Q)) ∧ ((¬ xs0 = 0) → hb_R yX12_qGoesOnTest cX12_qGoesOnTest 1 (some .boolean) (d + 1) 87 [some (hb_r 12 0 0)] [] w Q)) : hb_R yX12_qGoesOnTest cX12_qGoesOnTest 1 (some .boolean) (d + 1) 84 [some (hb_r 12 0 0)] [hb_i xs0] w Q := by
  refine hb_if_eq (pc := 84) (tgt := 126) dX12_qGoesOnTest_84 (by decide) (fun c1 => ?_) (fun c1 => ?_)
  · have ht1 := h.1 c1
    refine hb_aload_n (pc := 126) (i := 0) dX12_qGoesOnTest_126 rfl rfl ?_
    refine hb_aload_n (pc := 127) (i := 0) dX12_qGoesOnTest_127 rfl rfl ?_
    refine hb_getR (pc := 128) (g1 := 0) dX12_qGoesOnTest_128 fw_X12_140 cw_12 rfl (by decide) rfl (by decide) rfl ?_
    exact hb_callV (pc := 131) (As := [hb_r 12 0 41]) (st := []) dX12_qGoesOnTest_131 ml_X12_222 mf_X12_takes mi_X12_takes (ci := 12) rfl rfl (by decide) rfl rfl (Nat.le_of_ble_eq_true rfl) (Nat.le_of_ble_eq_true rfl) ht1 (fun _ _ q => q)
  · have ht1 := h.2 c1
    exact ht1
set_option maxRecDepth 20000 in
theorem bk_X12_qGoesOnTest_87 {d : Nat} {w : hb_W} {Q : Option hb_V → hb_W → Prop} (h : hb_O yX12_qIsOn cX12_qIsOn 2 (some .boolean) d [hb_r 12 0 0, hb_i (10 : Int32)] w (fun rv w1 => hb_R yX12_qGoesOnTest cX12_qGoesOnTest 1 (some .boolean) (d + 1) 93 [some (hb_r 12 0 0)] (rv.toList ++ []) w1 Q)) : hb_R yX12_qGoesOnTest cX12_qGoesOnTest 1 (some .boolean) (d + 1) 87 [some (hb_r 12 0 0)] [] w Q := by
  refine hb_aload_n (pc := 87) (i := 0) dX12_qGoesOnTest_87 rfl rfl ?_
  refine hb_bipush (pc := 88) (v := 10) dX12_qGoesOnTest_88 (by decide) ?_
  exact hb_callV (pc := 90) (As := [hb_i (10 : Int32)]) (st := []) dX12_qGoesOnTest_90 ml_X12_536 mf_X12_qIsOn mi_X12_qIsOn (ci := 12) rfl rfl (by decide) rfl rfl (Nat.le_of_ble_eq_true rfl) (Nat.le_of_ble_eq_true rfl) h (fun _ _ q => q)
set_option maxRecDepth 20000 in
theorem bk_X12_qGoesOnTest_93 {d : Nat} {w : hb_W} {Q : Option hb_V → hb_W → Prop} {xs0 : Int32} (h : ((xs0 = 0) → vp_in (hb_fI w 12 82 0) 1700 ∧ (Q (some (hb_i (1 : Int32))) (hb_pI (hb_sI w 12 55 0 (upd (hb_aI w 12 55 0) (hb_fI w 12 82 0).toNatClampNeg (10 : Int32))) 12 82 0 ((hb_fI w 12 82 0) + (1 : Int32))))) ∧ ((¬ xs0 = 0) → hb_O yX12_qDrops cX12_qDrops 1 none d [hb_r 12 0 0] w (fun rv w1 => hb_R yX12_qGoesOnTest cX12_qGoesOnTest 1 (some .boolean) (d + 1) 100 [some (hb_r 12 0 0)] (rv.toList ++ []) w1 Q))) : hb_R yX12_qGoesOnTest cX12_qGoesOnTest 1 (some .boolean) (d + 1) 93 [some (hb_r 12 0 0)] [hb_i xs0] w Q := by
  refine hb_if_eq (pc := 93) (tgt := 103) dX12_qGoesOnTest_93 (by decide) (fun c1 => ?_) (fun c1 => ?_)
  · have ht1 := h.1 c1
    refine hb_aload_n (pc := 103) (i := 0) dX12_qGoesOnTest_103 rfl rfl ?_
    refine hb_getR (pc := 104) (g1 := 0) dX12_qGoesOnTest_104 fw_X12_182 cw_12 rfl (by decide) rfl (by decide) rfl ?_
    refine hb_aload_n (pc := 107) (i := 0) dX12_qGoesOnTest_107 rfl rfl ?_
    refine hb_getIx (pc := 108) (x := hb_fI w 12 82 0) dX12_qGoesOnTest_108 fw_X12_260 cw_12 rfl (by decide) rfl rfl ?_
    refine hb_bipush (pc := 111) (v := 10) dX12_qGoesOnTest_111 (by decide) ?_
    obtain ⟨ho2, hr2⟩ := ht1
    refine hb_iastx (pc := 113) (f := upd (hb_aI w 12 55 0) (hb_fI w 12 82 0).toNatClampNeg (10 : Int32)) dX12_qGoesOnTest_113 rfl (by decide) ho2 rfl ?_
    refine hb_aload_n (pc := 114) (i := 0) dX12_qGoesOnTest_114 rfl rfl ?_
    refine hb_dupr (pc := 115) dX12_qGoesOnTest_115 ?_
    refine hb_getIx (pc := 116) (x := hb_fI w 12 82 0) dX12_qGoesOnTest_116 fw_X12_260 cw_12 rfl (by decide) rfl rfl ?_
    refine hb_iconst (pc := 119) (v := 1) dX12_qGoesOnTest_119 (by decide) ?_
    refine hb_iadd (pc := 120) dX12_qGoesOnTest_120 ?_
    refine hb_putI (pc := 121) dX12_qGoesOnTest_121 fw_X12_260 cw_12 pw_12_82 rfl (by decide) rfl rfl rfl ?_
    refine hb_iconst (pc := 124) (v := 1) dX12_qGoesOnTest_124 (by decide) ?_
    exact hb_zret (pc := 125) dX12_qGoesOnTest_125 rfl (Or.inr rfl) hr2
  · have ht1 := h.2 c1
    refine hb_aload_n (pc := 96) (i := 0) dX12_qGoesOnTest_96 rfl rfl ?_
    exact hb_callV (pc := 97) (As := []) (st := []) dX12_qGoesOnTest_97 ml_X12_509 mf_X12_qDrops mi_X12_qDrops (ci := 12) rfl rfl (by decide) rfl rfl (Nat.le_of_ble_eq_true rfl) (Nat.le_of_ble_eq_true rfl) ht1 (fun _ _ q => q)
set_option maxRecDepth 20000 in
theorem bk_X12_qGoesOnTest_100 {d : Nat} {w : hb_W} {Q : Option hb_V → hb_W → Prop} (h : hb_R yX12_qGoesOnTest cX12_qGoesOnTest 1 (some .boolean) (d + 1) 87 [some (hb_r 12 0 0)] [] w Q) : hb_R yX12_qGoesOnTest cX12_qGoesOnTest 1 (some .boolean) (d + 1) 100 [some (hb_r 12 0 0)] [] w Q := by
  refine hb_goto (pc := 100) (tgt := 87) dX12_qGoesOnTest_100 (by decide) ?_
  exact h
set_option maxRecDepth 20000 in
theorem bk_X12_qGoesOnTest_134 {d : Nat} {w : hb_W} {Q : Option hb_V → hb_W → Prop} {xs0 : Int32} (h : ((xs0 = 0) → ((¬ (hb_fI w 12 5 0) = 0) → hb_R yX12_qGoesOnTest cX12_qGoesOnTest 1 (some .boolean) (d + 1) 208 [some (hb_r 12 0 0)] [] w Q) ∧ (((hb_fI w 12 5 0) = 0) → hb_O yX12_qHasSquare cX12_qHasSquare 2 (some .boolean) d [hb_r 12 0 0] w (fun rv w1 => hb_R yX12_qGoesOnTest cX12_qGoesOnTest 1 (some .boolean) (d + 1) 196 [some (hb_r 12 0 0)] (rv.toList ++ []) w1 Q))) ∧ ((¬ xs0 = 0) → hb_R yX12_qGoesOnTest cX12_qGoesOnTest 1 (some .boolean) (d + 1) 137 [some (hb_r 12 0 0)] [] w Q)) : hb_R yX12_qGoesOnTest cX12_qGoesOnTest 1 (some .boolean) (d + 1) 134 [some (hb_r 12 0 0)] [hb_i xs0] w Q := by
  refine hb_if_eq (pc := 134) (tgt := 185) dX12_qGoesOnTest_134 (by decide) (fun c1 => ?_) (fun c1 => ?_)
  · have ht1 := h.1 c1
    refine hb_aload_n (pc := 185) (i := 0) dX12_qGoesOnTest_185 rfl rfl ?_
    refine hb_getIx (pc := 186) (x := hb_fI w 12 5 0) dX12_qGoesOnTest_186 fw_X12_195 cw_12 rfl (by decide) rfl rfl ?_
    refine hb_if_ne (pc := 189) (tgt := 208) dX12_qGoesOnTest_189 (by decide) (fun c2 => ?_) (fun c2 => ?_)
    · have ht2 := ht1.1 c2
      exact ht2
    · have ht2 := ht1.2 c2
      refine hb_aload_n (pc := 192) (i := 0) dX12_qGoesOnTest_192 rfl rfl ?_
      exact hb_callV (pc := 193) (As := []) (st := []) dX12_qGoesOnTest_193 ml_X12_555 mf_X12_qHasSquare mi_X12_qHasSquare (ci := 12) rfl rfl (by decide) rfl rfl (Nat.le_of_ble_eq_true rfl) (Nat.le_of_ble_eq_true rfl) ht2 (fun _ _ q => q)
  · have ht1 := h.2 c1
    exact ht1
set_option maxRecDepth 20000 in
theorem bk_X12_qGoesOnTest_137 {d : Nat} {w : hb_W} {Q : Option hb_V → hb_W → Prop} (h : hb_O yX12_qIsOn cX12_qIsOn 2 (some .boolean) d [hb_r 12 0 0, hb_i (10 : Int32)] w (fun rv w1 => hb_R yX12_qGoesOnTest cX12_qGoesOnTest 1 (some .boolean) (d + 1) 143 [some (hb_r 12 0 0)] (rv.toList ++ []) w1 Q)) : hb_R yX12_qGoesOnTest cX12_qGoesOnTest 1 (some .boolean) (d + 1) 137 [some (hb_r 12 0 0)] [] w Q := by
  refine hb_aload_n (pc := 137) (i := 0) dX12_qGoesOnTest_137 rfl rfl ?_
  refine hb_bipush (pc := 138) (v := 10) dX12_qGoesOnTest_138 (by decide) ?_
  exact hb_callV (pc := 140) (As := [hb_i (10 : Int32)]) (st := []) dX12_qGoesOnTest_140 ml_X12_536 mf_X12_qIsOn mi_X12_qIsOn (ci := 12) rfl rfl (by decide) rfl rfl (Nat.le_of_ble_eq_true rfl) (Nat.le_of_ble_eq_true rfl) h (fun _ _ q => q)
set_option maxRecDepth 20000 in
theorem bk_X12_qGoesOnTest_143 {d : Nat} {w : hb_W} {Q : Option hb_V → hb_W → Prop} {xs0 : Int32} (h : ((¬ xs0 = 0) → hb_O yX12_qDrops cX12_qDrops 1 none d [hb_r 12 0 0] w (fun rv w1 => hb_R yX12_qGoesOnTest cX12_qGoesOnTest 1 (some .boolean) (d + 1) 159 [some (hb_r 12 0 0)] (rv.toList ++ []) w1 Q)) ∧ ((xs0 = 0) → hb_O yX12_qIsOn cX12_qIsOn 2 (some .boolean) d [hb_r 12 0 0, hb_i (11 : Int32)] w (fun rv w1 => hb_R yX12_qGoesOnTest cX12_qGoesOnTest 1 (some .boolean) (d + 1) 152 [some (hb_r 12 0 0)] (rv.toList ++ []) w1 Q))) : hb_R yX12_qGoesOnTest cX12_qGoesOnTest 1 (some .boolean) (d + 1) 143 [some (hb_r 12 0 0)] [hb_i xs0] w Q := by
  refine hb_if_ne (pc := 143) (tgt := 155) dX12_qGoesOnTest_143 (by decide) (fun c1 => ?_) (fun c1 => ?_)
  · have ht1 := h.1 c1
    refine hb_aload_n (pc := 155) (i := 0) dX12_qGoesOnTest_155 rfl rfl ?_
    exact hb_callV (pc := 156) (As := []) (st := []) dX12_qGoesOnTest_156 ml_X12_509 mf_X12_qDrops mi_X12_qDrops (ci := 12) rfl rfl (by decide) rfl rfl (Nat.le_of_ble_eq_true rfl) (Nat.le_of_ble_eq_true rfl) ht1 (fun _ _ q => q)
  · have ht1 := h.2 c1
    refine hb_aload_n (pc := 146) (i := 0) dX12_qGoesOnTest_146 rfl rfl ?_
    refine hb_bipush (pc := 147) (v := 11) dX12_qGoesOnTest_147 (by decide) ?_
    exact hb_callV (pc := 149) (As := [hb_i (11 : Int32)]) (st := []) dX12_qGoesOnTest_149 ml_X12_536 mf_X12_qIsOn mi_X12_qIsOn (ci := 12) rfl rfl (by decide) rfl rfl (Nat.le_of_ble_eq_true rfl) (Nat.le_of_ble_eq_true rfl) ht1 (fun _ _ q => q)
set_option maxRecDepth 20000 in
theorem bk_X12_qGoesOnTest_152 {d : Nat} {w : hb_W} {Q : Option hb_V → hb_W → Prop} {xs0 : Int32} (h : ((xs0 = 0) → vp_in (hb_fI w 12 82 0) 1700 ∧ (Q (some (hb_i (1 : Int32))) (hb_pI (hb_sI w 12 55 0 (upd (hb_aI w 12 55 0) (hb_fI w 12 82 0).toNatClampNeg (11 : Int32))) 12 82 0 ((hb_fI w 12 82 0) + (1 : Int32))))) ∧ ((¬ xs0 = 0) → hb_O yX12_qDrops cX12_qDrops 1 none d [hb_r 12 0 0] w (fun rv w1 => hb_R yX12_qGoesOnTest cX12_qGoesOnTest 1 (some .boolean) (d + 1) 159 [some (hb_r 12 0 0)] (rv.toList ++ []) w1 Q))) : hb_R yX12_qGoesOnTest cX12_qGoesOnTest 1 (some .boolean) (d + 1) 152 [some (hb_r 12 0 0)] [hb_i xs0] w Q := by
  refine hb_if_eq (pc := 152) (tgt := 162) dX12_qGoesOnTest_152 (by decide) (fun c1 => ?_) (fun c1 => ?_)
  · have ht1 := h.1 c1
    refine hb_aload_n (pc := 162) (i := 0) dX12_qGoesOnTest_162 rfl rfl ?_
    refine hb_getR (pc := 163) (g1 := 0) dX12_qGoesOnTest_163 fw_X12_182 cw_12 rfl (by decide) rfl (by decide) rfl ?_
    refine hb_aload_n (pc := 166) (i := 0) dX12_qGoesOnTest_166 rfl rfl ?_
    refine hb_getIx (pc := 167) (x := hb_fI w 12 82 0) dX12_qGoesOnTest_167 fw_X12_260 cw_12 rfl (by decide) rfl rfl ?_
    refine hb_bipush (pc := 170) (v := 11) dX12_qGoesOnTest_170 (by decide) ?_
    obtain ⟨ho2, hr2⟩ := ht1
    refine hb_iastx (pc := 172) (f := upd (hb_aI w 12 55 0) (hb_fI w 12 82 0).toNatClampNeg (11 : Int32)) dX12_qGoesOnTest_172 rfl (by decide) ho2 rfl ?_
    refine hb_aload_n (pc := 173) (i := 0) dX12_qGoesOnTest_173 rfl rfl ?_
    refine hb_dupr (pc := 174) dX12_qGoesOnTest_174 ?_
    refine hb_getIx (pc := 175) (x := hb_fI w 12 82 0) dX12_qGoesOnTest_175 fw_X12_260 cw_12 rfl (by decide) rfl rfl ?_
    refine hb_iconst (pc := 178) (v := 1) dX12_qGoesOnTest_178 (by decide) ?_
    refine hb_iadd (pc := 179) dX12_qGoesOnTest_179 ?_
    refine hb_putI (pc := 180) dX12_qGoesOnTest_180 fw_X12_260 cw_12 pw_12_82 rfl (by decide) rfl rfl rfl ?_
    refine hb_iconst (pc := 183) (v := 1) dX12_qGoesOnTest_183 (by decide) ?_
    exact hb_zret (pc := 184) dX12_qGoesOnTest_184 rfl (Or.inr rfl) hr2
  · have ht1 := h.2 c1
    refine hb_aload_n (pc := 155) (i := 0) dX12_qGoesOnTest_155 rfl rfl ?_
    exact hb_callV (pc := 156) (As := []) (st := []) dX12_qGoesOnTest_156 ml_X12_509 mf_X12_qDrops mi_X12_qDrops (ci := 12) rfl rfl (by decide) rfl rfl (Nat.le_of_ble_eq_true rfl) (Nat.le_of_ble_eq_true rfl) ht1 (fun _ _ q => q)
set_option maxRecDepth 20000 in
theorem bk_X12_qGoesOnTest_159 {d : Nat} {w : hb_W} {Q : Option hb_V → hb_W → Prop} (h : hb_R yX12_qGoesOnTest cX12_qGoesOnTest 1 (some .boolean) (d + 1) 137 [some (hb_r 12 0 0)] [] w Q) : hb_R yX12_qGoesOnTest cX12_qGoesOnTest 1 (some .boolean) (d + 1) 159 [some (hb_r 12 0 0)] [] w Q := by
  refine hb_goto (pc := 159) (tgt := 137) dX12_qGoesOnTest_159 (by decide) ?_
  exact h
set_option maxRecDepth 20000 in
theorem bk_X12_qGoesOnTest_196 {d : Nat} {w : hb_W} {Q : Option hb_V → hb_W → Prop} {xs0 : Int32} (h : ((xs0 = 0) → hb_R yX12_qGoesOnTest cX12_qGoesOnTest 1 (some .boolean) (d + 1) 208 [some (hb_r 12 0 0)] [] w Q) ∧ ((¬ xs0 = 0) → hb_O yX12_fail cX12_fail 3 none d [hb_r 12 0 0, hb_i (1 : Int32), hb_i (hb_fI w 12 2 0)] w (fun rv w1 => hb_R yX12_qGoesOnTest cX12_qGoesOnTest 1 (some .boolean) (d + 1) 208 [some (hb_r 12 0 0)] (rv.toList ++ []) w1 Q))) : hb_R yX12_qGoesOnTest cX12_qGoesOnTest 1 (some .boolean) (d + 1) 196 [some (hb_r 12 0 0)] [hb_i xs0] w Q := by
  refine hb_if_eq (pc := 196) (tgt := 208) dX12_qGoesOnTest_196 (by decide) (fun c1 => ?_) (fun c1 => ?_)
  · have ht1 := h.1 c1
    exact ht1
  · have ht1 := h.2 c1
    refine hb_aload_n (pc := 199) (i := 0) dX12_qGoesOnTest_199 rfl rfl ?_
    refine hb_iconst (pc := 200) (v := 1) dX12_qGoesOnTest_200 (by decide) ?_
    refine hb_aload_n (pc := 201) (i := 0) dX12_qGoesOnTest_201 rfl rfl ?_
    refine hb_getIx (pc := 202) (x := hb_fI w 12 2 0) dX12_qGoesOnTest_202 fw_X12_201 cw_12 rfl (by decide) rfl rfl ?_
    exact hb_callV (pc := 205) (As := [hb_i (1 : Int32), hb_i (hb_fI w 12 2 0)]) (st := []) dX12_qGoesOnTest_205 ml_X12_225 mf_X12_fail mi_X12_fail (ci := 12) rfl rfl (by decide) rfl rfl (Nat.le_of_ble_eq_true rfl) (Nat.le_of_ble_eq_true rfl) ht1 (fun _ _ q => q)
set_option maxRecDepth 20000 in
theorem bk_X12_qGoesOnTest_208 {d : Nat} {w : hb_W} {Q : Option hb_V → hb_W → Prop} (h : Q (some (hb_i (0 : Int32))) w) : hb_R yX12_qGoesOnTest cX12_qGoesOnTest 1 (some .boolean) (d + 1) 208 [some (hb_r 12 0 0)] [] w Q := by
  refine hb_iconst (pc := 208) (v := 0) dX12_qGoesOnTest_208 (by decide) ?_
  exact hb_zret (pc := 209) dX12_qGoesOnTest_209 rfl (Or.inl rfl) h
theorem dX12_qClip_0 : decode cX12_qClip 0 = .ok (.lload_n 0, 1) := by decide +kernel
theorem dX12_qClip_1 : decode cX12_qClip 1 = .ok (.ldc2_w 558, 3) := by decide +kernel
theorem dX12_qClip_4 : decode cX12_qClip 4 = .ok (.lcmp, 1) := by decide +kernel
theorem dX12_qClip_5 : decode cX12_qClip 5 = .ok (.ifCond .le 9, 3) := by decide +kernel
theorem dX12_qClip_8 : decode cX12_qClip 8 = .ok (.ldc2_w 558, 3) := by decide +kernel
theorem dX12_qClip_11 : decode cX12_qClip 11 = .ok (.goto 18, 3) := by decide +kernel
theorem dX12_qClip_14 : decode cX12_qClip 14 = .ok (.lload_n 0, 1) := by decide +kernel
theorem dX12_qClip_15 : decode cX12_qClip 15 = .ok (.ldc2_w 560, 3) := by decide +kernel
theorem dX12_qClip_18 : decode cX12_qClip 18 = .ok (.lcmp, 1) := by decide +kernel
theorem dX12_qClip_19 : decode cX12_qClip 19 = .ok (.ifCond .ge 9, 3) := by decide +kernel
theorem dX12_qClip_22 : decode cX12_qClip 22 = .ok (.ldc2_w 560, 3) := by decide +kernel
theorem dX12_qClip_25 : decode cX12_qClip 25 = .ok (.goto 4, 3) := by decide +kernel
theorem dX12_qClip_28 : decode cX12_qClip 28 = .ok (.lload_n 0, 1) := by decide +kernel
theorem dX12_qClip_29 : decode cX12_qClip 29 = .ok (.lreturn, 1) := by decide +kernel
set_option maxRecDepth 20000 in
theorem bk_X12_qClip_0 {d : Nat} {w : hb_W} {Q : Option hb_V → hb_W → Prop} {l0 : Int64} (h : (((lg_cmp l0 (1000000 : Int64)) ≤ 0) → ((0 ≤ (lg_cmp l0 (-1000000 : Int64))) → Q (some (hb_l l0)) w) ∧ ((¬ 0 ≤ (lg_cmp l0 (-1000000 : Int64))) → Q (some (hb_l (-1000000 : Int64))) w)) ∧ ((¬ (lg_cmp l0 (1000000 : Int64)) ≤ 0) → Q (some (hb_l (1000000 : Int64))) w)) : hb_R yX12_qClip cX12_qClip 2 (some .long) d 0 [some (hb_l l0), none] [] w Q := by
  refine hb_lload_n (pc := 0) (i := 0) dX12_qClip_0 rfl rfl ?_
  refine hb_ldc2 (pc := 1) (v := 1000000) dX12_qClip_1 kc_X12_558 ?_
  refine hb_lcmp (pc := 4) dX12_qClip_4 ?_
  refine hb_if_le (pc := 5) (tgt := 14) dX12_qClip_5 (by decide) (fun c1 => ?_) (fun c1 => ?_)
  · have ht1 := h.1 c1
    refine hb_lload_n (pc := 14) (i := 0) dX12_qClip_14 rfl rfl ?_
    refine hb_ldc2 (pc := 15) (v := -1000000) dX12_qClip_15 kc_X12_560 ?_
    refine hb_lcmp (pc := 18) dX12_qClip_18 ?_
    refine hb_if_ge (pc := 19) (tgt := 28) dX12_qClip_19 (by decide) (fun c2 => ?_) (fun c2 => ?_)
    · have ht2 := ht1.1 c2
      refine hb_lload_n (pc := 28) (i := 0) dX12_qClip_28 rfl rfl ?_
      exact hb_lret (pc := 29) dX12_qClip_29 rfl ht2
    · have ht2 := ht1.2 c2
      refine hb_ldc2 (pc := 22) (v := -1000000) dX12_qClip_22 kc_X12_560 ?_
      refine hb_goto (pc := 25) (tgt := 29) dX12_qClip_25 (by decide) ?_
      exact hb_lret (pc := 29) dX12_qClip_29 rfl ht2
  · have ht1 := h.2 c1
    refine hb_ldc2 (pc := 8) (v := 1000000) dX12_qClip_8 kc_X12_558 ?_
    refine hb_goto (pc := 11) (tgt := 29) dX12_qClip_11 (by decide) ?_
    exact hb_lret (pc := 29) dX12_qClip_29 rfl ht1
