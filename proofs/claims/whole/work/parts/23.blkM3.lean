theorem dX12_told_0 : decode cX12_told 0 = .ok (.aload_n 0, 1) := by decide +kernel
theorem dX12_told_1 : decode cX12_told 1 = .ok (.iload_n 1, 1) := by decide +kernel
theorem dX12_told_2 : decode cX12_told 2 = .ok (.invokevirtual 446, 3) := by decide +kernel
theorem dX12_told_5 : decode cX12_told 5 = .ok (.ifCond .eq 11, 3) := by decide +kernel
theorem dX12_told_8 : decode cX12_told 8 = .ok (.aload_n 0, 1) := by decide +kernel
theorem dX12_told_9 : decode cX12_told 9 = .ok (.iload_n 2, 1) := by decide +kernel
theorem dX12_told_10 : decode cX12_told 10 = .ok (.invokevirtual 441, 3) := by decide +kernel
theorem dX12_told_13 : decode cX12_told 13 = .ok (.ifCond .ne 5, 3) := by decide +kernel
theorem dX12_told_16 : decode cX12_told 16 = .ok (.iconst (-1), 1) := by decide +kernel
theorem dX12_told_17 : decode cX12_told 17 = .ok (.ireturn, 1) := by decide +kernel
theorem dX12_told_18 : decode cX12_told 18 = .ok (.aload_n 0, 1) := by decide +kernel
theorem dX12_told_19 : decode cX12_told 19 = .ok (.iload_n 1, 1) := by decide +kernel
theorem dX12_told_20 : decode cX12_told 20 = .ok (.invokevirtual 449, 3) := by decide +kernel
theorem dX12_told_23 : decode cX12_told 23 = .ok (.aload_n 0, 1) := by decide +kernel
theorem dX12_told_24 : decode cX12_told 24 = .ok (.iload_n 2, 1) := by decide +kernel
theorem dX12_told_25 : decode cX12_told 25 = .ok (.invokevirtual 396, 3) := by decide +kernel
theorem dX12_told_28 : decode cX12_told 28 = .ok (.ireturn, 1) := by decide +kernel
set_option maxRecDepth 20000 in
theorem bk_X12_told_0 {d : Nat} {w : hb_W} {Q : Option hb_V → hb_W → Prop} {x1 : Int32} {x2 : Int32} (h : hb_O yX12_isBook cX12_isBook 2 (some .boolean) d [hb_r 12 0 0, hb_i x1] w (fun rv w1 => hb_R yX12_told cX12_told 3 (some .int) (d + 1) 5 [some (hb_r 12 0 0), some (hb_i x1), some (hb_i x2)] (rv.toList ++ []) w1 Q)) : hb_R yX12_told cX12_told 3 (some .int) (d + 1) 0 [some (hb_r 12 0 0), some (hb_i x1), some (hb_i x2)] [] w Q := by
  refine hb_aload_n (pc := 0) (i := 0) dX12_told_0 rfl rfl ?_
  refine hb_iload_n (pc := 1) (i := 1) dX12_told_1 rfl rfl ?_
  exact hb_callV (pc := 2) (As := [hb_i x1]) (st := []) dX12_told_2 ml_X12_446 mf_X12_isBook mi_X12_isBook (ci := 12) rfl rfl (by decide) rfl rfl (Nat.le_of_ble_eq_true rfl) (Nat.le_of_ble_eq_true rfl) h (fun _ _ q => q)
set_option maxRecDepth 20000 in
theorem bk_X12_told_5 {d : Nat} {w : hb_W} {Q : Option hb_V → hb_W → Prop} {x1 : Int32} {x2 : Int32} {xs0 : Int32} (h : ((xs0 = 0) → Q (some (hb_i (-1 : Int32))) w) ∧ ((¬ xs0 = 0) → hb_O yX12_isHood cX12_isHood 2 (some .boolean) d [hb_r 12 0 0, hb_i x2] w (fun rv w1 => hb_R yX12_told cX12_told 3 (some .int) (d + 1) 13 [some (hb_r 12 0 0), some (hb_i x1), some (hb_i x2)] (rv.toList ++ []) w1 Q))) : hb_R yX12_told cX12_told 3 (some .int) (d + 1) 5 [some (hb_r 12 0 0), some (hb_i x1), some (hb_i x2)] [hb_i xs0] w Q := by
  refine hb_if_eq (pc := 5) (tgt := 16) dX12_told_5 (by decide) (fun c1 => ?_) (fun c1 => ?_)
  · have ht1 := h.1 c1
    refine hb_iconst (pc := 16) (v := -1) dX12_told_16 (by decide) ?_
    exact hb_iret (pc := 17) dX12_told_17 rfl ht1
  · have ht1 := h.2 c1
    refine hb_aload_n (pc := 8) (i := 0) dX12_told_8 rfl rfl ?_
    refine hb_iload_n (pc := 9) (i := 2) dX12_told_9 rfl rfl ?_
    exact hb_callV (pc := 10) (As := [hb_i x2]) (st := []) dX12_told_10 ml_X12_441 mf_X12_isHood mi_X12_isHood (ci := 12) rfl rfl (by decide) rfl rfl (Nat.le_of_ble_eq_true rfl) (Nat.le_of_ble_eq_true rfl) ht1 (fun _ _ q => q)
set_option maxRecDepth 20000 in
theorem bk_X12_told_13 {d : Nat} {w : hb_W} {Q : Option hb_V → hb_W → Prop} {x1 : Int32} {x2 : Int32} {xs0 : Int32} (h : ((¬ xs0 = 0) → hb_O yX12_lays cX12_lays 2 none d [hb_r 12 0 0, hb_i x1] w (fun rv w1 => hb_R yX12_told cX12_told 3 (some .int) (d + 1) 23 [some (hb_r 12 0 0), some (hb_i x1), some (hb_i x2)] (rv.toList ++ []) w1 Q)) ∧ ((xs0 = 0) → Q (some (hb_i (-1 : Int32))) w)) : hb_R yX12_told cX12_told 3 (some .int) (d + 1) 13 [some (hb_r 12 0 0), some (hb_i x1), some (hb_i x2)] [hb_i xs0] w Q := by
  refine hb_if_ne (pc := 13) (tgt := 18) dX12_told_13 (by decide) (fun c1 => ?_) (fun c1 => ?_)
  · have ht1 := h.1 c1
    refine hb_aload_n (pc := 18) (i := 0) dX12_told_18 rfl rfl ?_
    refine hb_iload_n (pc := 19) (i := 1) dX12_told_19 rfl rfl ?_
    exact hb_callV (pc := 20) (As := [hb_i x1]) (st := []) dX12_told_20 ml_X12_449 mf_X12_lays mi_X12_lays (ci := 12) rfl rfl (by decide) rfl rfl (Nat.le_of_ble_eq_true rfl) (Nat.le_of_ble_eq_true rfl) ht1 (fun _ _ q => q)
  · have ht1 := h.2 c1
    refine hb_iconst (pc := 16) (v := -1) dX12_told_16 (by decide) ?_
    exact hb_iret (pc := 17) dX12_told_17 rfl ht1
set_option maxRecDepth 20000 in
theorem bk_X12_told_23 {d : Nat} {w : hb_W} {Q : Option hb_V → hb_W → Prop} {x1 : Int32} {x2 : Int32} (h : hb_O yX12_toldOf cX12_toldOf 5 (some .int) d [hb_r 12 0 0, hb_i x2] w (fun rv w1 => hb_R yX12_told cX12_told 3 (some .int) (d + 1) 28 [some (hb_r 12 0 0), some (hb_i x1), some (hb_i x2)] (rv.toList ++ []) w1 Q)) : hb_R yX12_told cX12_told 3 (some .int) (d + 1) 23 [some (hb_r 12 0 0), some (hb_i x1), some (hb_i x2)] [] w Q := by
  refine hb_aload_n (pc := 23) (i := 0) dX12_told_23 rfl rfl ?_
  refine hb_iload_n (pc := 24) (i := 2) dX12_told_24 rfl rfl ?_
  exact hb_callV (pc := 25) (As := [hb_i x2]) (st := []) dX12_told_25 ml_X12_396 mf_X12_toldOf mi_X12_toldOf (ci := 12) rfl rfl (by decide) rfl rfl (Nat.le_of_ble_eq_true rfl) (Nat.le_of_ble_eq_true rfl) h (fun _ _ q => q)
set_option maxRecDepth 20000 in
theorem bk_X12_told_28 {d : Nat} {w : hb_W} {Q : Option hb_V → hb_W → Prop} {x1 : Int32} {x2 : Int32} {xs0 : Int32} (h : Q (some (hb_i xs0)) w) : hb_R yX12_told cX12_told 3 (some .int) (d + 1) 28 [some (hb_r 12 0 0), some (hb_i x1), some (hb_i x2)] [hb_i xs0] w Q := by
  exact hb_iret (pc := 28) dX12_told_28 rfl h
theorem dX12_was_0 : decode cX12_was 0 = .ok (.aload_n 0, 1) := by decide +kernel
theorem dX12_was_1 : decode cX12_was 1 = .ok (.iload_n 1, 1) := by decide +kernel
theorem dX12_was_2 : decode cX12_was 2 = .ok (.invokevirtual 446, 3) := by decide +kernel
theorem dX12_was_5 : decode cX12_was 5 = .ok (.ifCond .eq 11, 3) := by decide +kernel
theorem dX12_was_8 : decode cX12_was 8 = .ok (.aload_n 0, 1) := by decide +kernel
theorem dX12_was_9 : decode cX12_was 9 = .ok (.iload_n 2, 1) := by decide +kernel
theorem dX12_was_10 : decode cX12_was 10 = .ok (.invokevirtual 441, 3) := by decide +kernel
theorem dX12_was_13 : decode cX12_was 13 = .ok (.ifCond .ne 5, 3) := by decide +kernel
theorem dX12_was_16 : decode cX12_was 16 = .ok (.iconst (-1), 1) := by decide +kernel
theorem dX12_was_17 : decode cX12_was 17 = .ok (.ireturn, 1) := by decide +kernel
theorem dX12_was_18 : decode cX12_was 18 = .ok (.aload_n 0, 1) := by decide +kernel
theorem dX12_was_19 : decode cX12_was 19 = .ok (.iload_n 1, 1) := by decide +kernel
theorem dX12_was_20 : decode cX12_was 20 = .ok (.invokevirtual 449, 3) := by decide +kernel
theorem dX12_was_23 : decode cX12_was 23 = .ok (.aload_n 0, 1) := by decide +kernel
theorem dX12_was_24 : decode cX12_was 24 = .ok (.iload_n 2, 1) := by decide +kernel
theorem dX12_was_25 : decode cX12_was 25 = .ok (.invokevirtual 399, 3) := by decide +kernel
theorem dX12_was_28 : decode cX12_was 28 = .ok (.ifCond .eq 7, 3) := by decide +kernel
theorem dX12_was_31 : decode cX12_was 31 = .ok (.iconst 1, 1) := by decide +kernel
theorem dX12_was_32 : decode cX12_was 32 = .ok (.goto 4, 3) := by decide +kernel
theorem dX12_was_35 : decode cX12_was 35 = .ok (.iconst 0, 1) := by decide +kernel
theorem dX12_was_36 : decode cX12_was 36 = .ok (.ireturn, 1) := by decide +kernel
set_option maxRecDepth 20000 in
theorem bk_X12_was_0 {d : Nat} {w : hb_W} {Q : Option hb_V → hb_W → Prop} {x1 : Int32} {x2 : Int32} (h : hb_O yX12_isBook cX12_isBook 2 (some .boolean) d [hb_r 12 0 0, hb_i x1] w (fun rv w1 => hb_R yX12_was cX12_was 3 (some .int) (d + 1) 5 [some (hb_r 12 0 0), some (hb_i x1), some (hb_i x2)] (rv.toList ++ []) w1 Q)) : hb_R yX12_was cX12_was 3 (some .int) (d + 1) 0 [some (hb_r 12 0 0), some (hb_i x1), some (hb_i x2)] [] w Q := by
  refine hb_aload_n (pc := 0) (i := 0) dX12_was_0 rfl rfl ?_
  refine hb_iload_n (pc := 1) (i := 1) dX12_was_1 rfl rfl ?_
  exact hb_callV (pc := 2) (As := [hb_i x1]) (st := []) dX12_was_2 ml_X12_446 mf_X12_isBook mi_X12_isBook (ci := 12) rfl rfl (by decide) rfl rfl (Nat.le_of_ble_eq_true rfl) (Nat.le_of_ble_eq_true rfl) h (fun _ _ q => q)
set_option maxRecDepth 20000 in
theorem bk_X12_was_5 {d : Nat} {w : hb_W} {Q : Option hb_V → hb_W → Prop} {x1 : Int32} {x2 : Int32} {xs0 : Int32} (h : ((xs0 = 0) → Q (some (hb_i (-1 : Int32))) w) ∧ ((¬ xs0 = 0) → hb_O yX12_isHood cX12_isHood 2 (some .boolean) d [hb_r 12 0 0, hb_i x2] w (fun rv w1 => hb_R yX12_was cX12_was 3 (some .int) (d + 1) 13 [some (hb_r 12 0 0), some (hb_i x1), some (hb_i x2)] (rv.toList ++ []) w1 Q))) : hb_R yX12_was cX12_was 3 (some .int) (d + 1) 5 [some (hb_r 12 0 0), some (hb_i x1), some (hb_i x2)] [hb_i xs0] w Q := by
  refine hb_if_eq (pc := 5) (tgt := 16) dX12_was_5 (by decide) (fun c1 => ?_) (fun c1 => ?_)
  · have ht1 := h.1 c1
    refine hb_iconst (pc := 16) (v := -1) dX12_was_16 (by decide) ?_
    exact hb_iret (pc := 17) dX12_was_17 rfl ht1
  · have ht1 := h.2 c1
    refine hb_aload_n (pc := 8) (i := 0) dX12_was_8 rfl rfl ?_
    refine hb_iload_n (pc := 9) (i := 2) dX12_was_9 rfl rfl ?_
    exact hb_callV (pc := 10) (As := [hb_i x2]) (st := []) dX12_was_10 ml_X12_441 mf_X12_isHood mi_X12_isHood (ci := 12) rfl rfl (by decide) rfl rfl (Nat.le_of_ble_eq_true rfl) (Nat.le_of_ble_eq_true rfl) ht1 (fun _ _ q => q)
set_option maxRecDepth 20000 in
theorem bk_X12_was_13 {d : Nat} {w : hb_W} {Q : Option hb_V → hb_W → Prop} {x1 : Int32} {x2 : Int32} {xs0 : Int32} (h : ((¬ xs0 = 0) → hb_O yX12_lays cX12_lays 2 none d [hb_r 12 0 0, hb_i x1] w (fun rv w1 => hb_R yX12_was cX12_was 3 (some .int) (d + 1) 23 [some (hb_r 12 0 0), some (hb_i x1), some (hb_i x2)] (rv.toList ++ []) w1 Q)) ∧ ((xs0 = 0) → Q (some (hb_i (-1 : Int32))) w)) : hb_R yX12_was cX12_was 3 (some .int) (d + 1) 13 [some (hb_r 12 0 0), some (hb_i x1), some (hb_i x2)] [hb_i xs0] w Q := by
  refine hb_if_ne (pc := 13) (tgt := 18) dX12_was_13 (by decide) (fun c1 => ?_) (fun c1 => ?_)
  · have ht1 := h.1 c1
    refine hb_aload_n (pc := 18) (i := 0) dX12_was_18 rfl rfl ?_
    refine hb_iload_n (pc := 19) (i := 1) dX12_was_19 rfl rfl ?_
    exact hb_callV (pc := 20) (As := [hb_i x1]) (st := []) dX12_was_20 ml_X12_449 mf_X12_lays mi_X12_lays (ci := 12) rfl rfl (by decide) rfl rfl (Nat.le_of_ble_eq_true rfl) (Nat.le_of_ble_eq_true rfl) ht1 (fun _ _ q => q)
  · have ht1 := h.2 c1
    refine hb_iconst (pc := 16) (v := -1) dX12_was_16 (by decide) ?_
    exact hb_iret (pc := 17) dX12_was_17 rfl ht1
set_option maxRecDepth 20000 in
theorem bk_X12_was_23 {d : Nat} {w : hb_W} {Q : Option hb_V → hb_W → Prop} {x1 : Int32} {x2 : Int32} (h : hb_O yX12_wasThere cX12_wasThere 2 (some .boolean) d [hb_r 12 0 0, hb_i x2] w (fun rv w1 => hb_R yX12_was cX12_was 3 (some .int) (d + 1) 28 [some (hb_r 12 0 0), some (hb_i x1), some (hb_i x2)] (rv.toList ++ []) w1 Q)) : hb_R yX12_was cX12_was 3 (some .int) (d + 1) 23 [some (hb_r 12 0 0), some (hb_i x1), some (hb_i x2)] [] w Q := by
  refine hb_aload_n (pc := 23) (i := 0) dX12_was_23 rfl rfl ?_
  refine hb_iload_n (pc := 24) (i := 2) dX12_was_24 rfl rfl ?_
  exact hb_callV (pc := 25) (As := [hb_i x2]) (st := []) dX12_was_25 ml_X12_399 mf_X12_wasThere mi_X12_wasThere (ci := 12) rfl rfl (by decide) rfl rfl (Nat.le_of_ble_eq_true rfl) (Nat.le_of_ble_eq_true rfl) h (fun _ _ q => q)
set_option maxRecDepth 20000 in
theorem bk_X12_was_28 {d : Nat} {w : hb_W} {Q : Option hb_V → hb_W → Prop} {x1 : Int32} {x2 : Int32} {xs0 : Int32} (h : ((xs0 = 0) → Q (some (hb_i (0 : Int32))) w) ∧ ((¬ xs0 = 0) → Q (some (hb_i (1 : Int32))) w)) : hb_R yX12_was cX12_was 3 (some .int) (d + 1) 28 [some (hb_r 12 0 0), some (hb_i x1), some (hb_i x2)] [hb_i xs0] w Q := by
  refine hb_if_eq (pc := 28) (tgt := 35) dX12_was_28 (by decide) (fun c1 => ?_) (fun c1 => ?_)
  · have ht1 := h.1 c1
    refine hb_iconst (pc := 35) (v := 0) dX12_was_35 (by decide) ?_
    exact hb_iret (pc := 36) dX12_was_36 rfl ht1
  · have ht1 := h.2 c1
    refine hb_iconst (pc := 31) (v := 1) dX12_was_31 (by decide) ?_
    refine hb_goto (pc := 32) (tgt := 36) dX12_was_32 (by decide) ?_
    exact hb_iret (pc := 36) dX12_was_36 rfl ht1
theorem dX12_alike_0 : decode cX12_alike 0 = .ok (.aload_n 0, 1) := by decide +kernel
theorem dX12_alike_1 : decode cX12_alike 1 = .ok (.getfield 302, 3) := by decide +kernel
theorem dX12_alike_4 : decode cX12_alike 4 = .ok (.ifCond .ne 5, 3) := by decide +kernel
theorem dX12_alike_7 : decode cX12_alike 7 = .ok (.iconst (-1), 1) := by decide +kernel
theorem dX12_alike_8 : decode cX12_alike 8 = .ok (.ireturn, 1) := by decide +kernel
theorem dX12_alike_9 : decode cX12_alike 9 = .ok (.aload_n 0, 1) := by decide +kernel
theorem dX12_alike_10 : decode cX12_alike 10 = .ok (.iconst 0, 1) := by decide +kernel
theorem dX12_alike_11 : decode cX12_alike 11 = .ok (.invokevirtual 449, 3) := by decide +kernel
theorem dX12_alike_14 : decode cX12_alike 14 = .ok (.iconst 0, 1) := by decide +kernel
theorem dX12_alike_15 : decode cX12_alike 15 = .ok (.istore_n 1, 1) := by decide +kernel
theorem dX12_alike_16 : decode cX12_alike 16 = .ok (.iload_n 1, 1) := by decide +kernel
theorem dX12_alike_17 : decode cX12_alike 17 = .ok (.bipush 9, 2) := by decide +kernel
theorem dX12_alike_19 : decode cX12_alike 19 = .ok (.if_icmp .ge 21, 3) := by decide +kernel
theorem dX12_alike_22 : decode cX12_alike 22 = .ok (.aload_n 0, 1) := by decide +kernel
theorem dX12_alike_23 : decode cX12_alike 23 = .ok (.getfield 106, 3) := by decide +kernel
theorem dX12_alike_26 : decode cX12_alike 26 = .ok (.iload_n 1, 1) := by decide +kernel
theorem dX12_alike_27 : decode cX12_alike 27 = .ok (.aload_n 0, 1) := by decide +kernel
theorem dX12_alike_28 : decode cX12_alike 28 = .ok (.getfield 100, 3) := by decide +kernel
theorem dX12_alike_31 : decode cX12_alike 31 = .ok (.iload_n 1, 1) := by decide +kernel
theorem dX12_alike_32 : decode cX12_alike 32 = .ok (.iaload, 1) := by decide +kernel
theorem dX12_alike_33 : decode cX12_alike 33 = .ok (.iastore, 1) := by decide +kernel
theorem dX12_alike_34 : decode cX12_alike 34 = .ok (.iinc 1 1, 3) := by decide +kernel
theorem dX12_alike_37 : decode cX12_alike 37 = .ok (.goto (-21), 3) := by decide +kernel
theorem dX12_alike_40 : decode cX12_alike 40 = .ok (.aload_n 0, 1) := by decide +kernel
theorem dX12_alike_41 : decode cX12_alike 41 = .ok (.iconst 1, 1) := by decide +kernel
theorem dX12_alike_42 : decode cX12_alike 42 = .ok (.aload_n 0, 1) := by decide +kernel
theorem dX12_alike_43 : decode cX12_alike 43 = .ok (.getfield 51, 3) := by decide +kernel
theorem dX12_alike_46 : decode cX12_alike 46 = .ok (.iconst 2, 1) := by decide +kernel
theorem dX12_alike_47 : decode cX12_alike 47 = .ok (.iaload, 1) := by decide +kernel
theorem dX12_alike_48 : decode cX12_alike 48 = .ok (.invokevirtual 393, 3) := by decide +kernel
theorem dX12_alike_51 : decode cX12_alike 51 = .ok (.iconst 0, 1) := by decide +kernel
theorem dX12_alike_52 : decode cX12_alike 52 = .ok (.istore_n 1, 1) := by decide +kernel
theorem dX12_alike_53 : decode cX12_alike 53 = .ok (.iconst 0, 1) := by decide +kernel
theorem dX12_alike_54 : decode cX12_alike 54 = .ok (.istore_n 2, 1) := by decide +kernel
theorem dX12_alike_55 : decode cX12_alike 55 = .ok (.iload_n 2, 1) := by decide +kernel
theorem dX12_alike_56 : decode cX12_alike 56 = .ok (.aload_n 0, 1) := by decide +kernel
theorem dX12_alike_57 : decode cX12_alike 57 = .ok (.getfield 358, 3) := by decide +kernel
theorem dX12_alike_60 : decode cX12_alike 60 = .ok (.if_icmp .ge 37, 3) := by decide +kernel
theorem dX12_alike_63 : decode cX12_alike 63 = .ok (.aload_n 0, 1) := by decide +kernel
theorem dX12_alike_64 : decode cX12_alike 64 = .ok (.getfield 100, 3) := by decide +kernel
theorem dX12_alike_67 : decode cX12_alike 67 = .ok (.iload_n 2, 1) := by decide +kernel
theorem dX12_alike_68 : decode cX12_alike 68 = .ok (.iaload, 1) := by decide +kernel
theorem dX12_alike_69 : decode cX12_alike 69 = .ok (.iconst (-1), 1) := by decide +kernel
theorem dX12_alike_70 : decode cX12_alike 70 = .ok (.if_icmp .eq 21, 3) := by decide +kernel
theorem dX12_alike_73 : decode cX12_alike 73 = .ok (.aload_n 0, 1) := by decide +kernel
theorem dX12_alike_74 : decode cX12_alike 74 = .ok (.getfield 100, 3) := by decide +kernel
theorem dX12_alike_77 : decode cX12_alike 77 = .ok (.iload_n 2, 1) := by decide +kernel
theorem dX12_alike_78 : decode cX12_alike 78 = .ok (.iaload, 1) := by decide +kernel
theorem dX12_alike_79 : decode cX12_alike 79 = .ok (.aload_n 0, 1) := by decide +kernel
theorem dX12_alike_80 : decode cX12_alike 80 = .ok (.getfield 106, 3) := by decide +kernel
theorem dX12_alike_83 : decode cX12_alike 83 = .ok (.iload_n 2, 1) := by decide +kernel
theorem dX12_alike_84 : decode cX12_alike 84 = .ok (.iaload, 1) := by decide +kernel
theorem dX12_alike_85 : decode cX12_alike 85 = .ok (.if_icmp .ne 6, 3) := by decide +kernel
theorem dX12_alike_88 : decode cX12_alike 88 = .ok (.iinc 1 1, 3) := by decide +kernel
theorem dX12_alike_91 : decode cX12_alike 91 = .ok (.iinc 2 1, 3) := by decide +kernel
theorem dX12_alike_94 : decode cX12_alike 94 = .ok (.goto (-39), 3) := by decide +kernel
theorem dX12_alike_97 : decode cX12_alike 97 = .ok (.iload_n 1, 1) := by decide +kernel
theorem dX12_alike_98 : decode cX12_alike 98 = .ok (.ireturn, 1) := by decide +kernel
set_option maxRecDepth 20000 in
theorem bk_X12_alike_0 {d : Nat} {w : hb_W} {Q : Option hb_V → hb_W → Prop} (h : ((¬ (hb_fI w 12 30 0) = 0) → hb_O yX12_lays cX12_lays 2 none d [hb_r 12 0 0, hb_i (0 : Int32)] w (fun rv w1 => hb_R yX12_alike cX12_alike 3 (some .int) (d + 1) 14 [some (hb_r 12 0 0), none, none] (rv.toList ++ []) w1 Q)) ∧ (((hb_fI w 12 30 0) = 0) → Q (some (hb_i (-1 : Int32))) w)) : hb_R yX12_alike cX12_alike 3 (some .int) (d + 1) 0 [some (hb_r 12 0 0), none, none] [] w Q := by
  refine hb_aload_n (pc := 0) (i := 0) dX12_alike_0 rfl rfl ?_
  refine hb_getIx (pc := 1) (x := hb_fI w 12 30 0) dX12_alike_1 fw_X12_302 cw_12 rfl (by decide) rfl rfl ?_
  refine hb_if_ne (pc := 4) (tgt := 9) dX12_alike_4 (by decide) (fun c1 => ?_) (fun c1 => ?_)
  · have ht1 := h.1 c1
    refine hb_aload_n (pc := 9) (i := 0) dX12_alike_9 rfl rfl ?_
    refine hb_iconst (pc := 10) (v := 0) dX12_alike_10 (by decide) ?_
    exact hb_callV (pc := 11) (As := [hb_i (0 : Int32)]) (st := []) dX12_alike_11 ml_X12_449 mf_X12_lays mi_X12_lays (ci := 12) rfl rfl (by decide) rfl rfl (Nat.le_of_ble_eq_true rfl) (Nat.le_of_ble_eq_true rfl) ht1 (fun _ _ q => q)
  · have ht1 := h.2 c1
    refine hb_iconst (pc := 7) (v := -1) dX12_alike_7 (by decide) ?_
    exact hb_iret (pc := 8) dX12_alike_8 rfl ht1
set_option maxRecDepth 20000 in
theorem bk_X12_alike_14 {d : Nat} {w : hb_W} {Q : Option hb_V → hb_W → Prop} (h : hb_R yX12_alike cX12_alike 3 (some .int) (d + 1) 16 [some (hb_r 12 0 0), some (hb_i (0 : Int32)), none] [] w Q) : hb_R yX12_alike cX12_alike 3 (some .int) (d + 1) 14 [some (hb_r 12 0 0), none, none] [] w Q := by
  refine hb_iconst (pc := 14) (v := 0) dX12_alike_14 (by decide) ?_
  refine hb_istore_n (pc := 15) (i := 1) (ls1 := [some (hb_r 12 0 0), some (hb_i (0 : Int32)), none]) dX12_alike_15 rfl (by decide) rfl ?_
  exact h
set_option maxRecDepth 20000 in
theorem bk_X12_alike_16 {d : Nat} {w : hb_W} {Q : Option hb_V → hb_W → Prop} {x1 : Int32} (h : (((9 : Int32) ≤ x1) → hb_O yX12_laysBook cX12_laysBook 4 none d [hb_r 12 0 0, hb_i (1 : Int32), hb_i (hb_aI w 12 13 0 (2 : Int32).toNatClampNeg)] w (fun rv w1 => hb_R yX12_alike cX12_alike 3 (some .int) (d + 1) 51 [some (hb_r 12 0 0), some (hb_i x1), none] (rv.toList ++ []) w1 Q)) ∧ ((¬ (9 : Int32) ≤ x1) → vp_in x1 9 ∧ (vp_in x1 9 ∧ (hb_R yX12_alike cX12_alike 3 (some .int) (d + 1) 16 [some (hb_r 12 0 0), some (hb_i (x1 + (1 : Int32))), none] [] (hb_sI w 12 31 0 (upd (hb_aI w 12 31 0) x1.toNatClampNeg (hb_aI w 12 29 0 x1.toNatClampNeg))) Q)))) : hb_R yX12_alike cX12_alike 3 (some .int) (d + 1) 16 [some (hb_r 12 0 0), some (hb_i x1), none] [] w Q := by
  refine hb_iload_n (pc := 16) (i := 1) dX12_alike_16 rfl rfl ?_
  refine hb_bipush (pc := 17) (v := 9) dX12_alike_17 (by decide) ?_
  refine hb_icmp_ge (pc := 19) (tgt := 40) dX12_alike_19 (by decide) (fun c1 => ?_) (fun c1 => ?_)
  · have ht1 := h.1 c1
    refine hb_aload_n (pc := 40) (i := 0) dX12_alike_40 rfl rfl ?_
    refine hb_iconst (pc := 41) (v := 1) dX12_alike_41 (by decide) ?_
    refine hb_aload_n (pc := 42) (i := 0) dX12_alike_42 rfl rfl ?_
    refine hb_getR (pc := 43) (g1 := 0) dX12_alike_43 fw_X12_51 cw_12 rfl (by decide) rfl (by decide) rfl ?_
    refine hb_iconst (pc := 46) (v := 2) dX12_alike_46 (by decide) ?_
    refine hb_ialdx (pc := 47) (x := hb_aI w 12 13 0 (2 : Int32).toNatClampNeg) dX12_alike_47 (n := 6) rfl (by decide) (by unfold vp_in; decide) rfl ?_
    exact hb_callV (pc := 48) (As := [hb_i (1 : Int32), hb_i (hb_aI w 12 13 0 (2 : Int32).toNatClampNeg)]) (st := []) dX12_alike_48 ml_X12_393 mf_X12_laysBook mi_X12_laysBook (ci := 12) rfl rfl (by decide) rfl rfl (Nat.le_of_ble_eq_true rfl) (Nat.le_of_ble_eq_true rfl) ht1 (fun _ _ q => q)
  · have ht1 := h.2 c1
    refine hb_aload_n (pc := 22) (i := 0) dX12_alike_22 rfl rfl ?_
    refine hb_getR (pc := 23) (g1 := 0) dX12_alike_23 fw_X12_106 cw_12 rfl (by decide) rfl (by decide) rfl ?_
    refine hb_iload_n (pc := 26) (i := 1) dX12_alike_26 rfl rfl ?_
    refine hb_aload_n (pc := 27) (i := 0) dX12_alike_27 rfl rfl ?_
    refine hb_getR (pc := 28) (g1 := 0) dX12_alike_28 fw_X12_100 cw_12 rfl (by decide) rfl (by decide) rfl ?_
    refine hb_iload_n (pc := 31) (i := 1) dX12_alike_31 rfl rfl ?_
    obtain ⟨ho2, hr2⟩ := ht1
    refine hb_ialdx (pc := 32) (x := hb_aI w 12 29 0 x1.toNatClampNeg) dX12_alike_32 rfl (by decide) ho2 rfl ?_
    obtain ⟨ho3, hr3⟩ := hr2
    refine hb_iastx (pc := 33) (f := upd (hb_aI w 12 31 0) x1.toNatClampNeg (hb_aI w 12 29 0 x1.toNatClampNeg)) dX12_alike_33 rfl (by decide) ho3 rfl ?_
    refine hb_iinc (pc := 34) (v := x1 + (1 : Int32)) (ls1 := [some (hb_r 12 0 0), some (hb_i (x1 + (1 : Int32))), none]) dX12_alike_34 rfl rfl (by decide) rfl ?_
    refine hb_goto (pc := 37) (tgt := 16) dX12_alike_37 (by decide) ?_
    exact hr3
set_option maxRecDepth 20000 in
theorem bk_X12_alike_51 {d : Nat} {w : hb_W} {Q : Option hb_V → hb_W → Prop} {x1 : Int32} (h : hb_R yX12_alike cX12_alike 3 (some .int) (d + 1) 55 [some (hb_r 12 0 0), some (hb_i (0 : Int32)), some (hb_i (0 : Int32))] [] w Q) : hb_R yX12_alike cX12_alike 3 (some .int) (d + 1) 51 [some (hb_r 12 0 0), some (hb_i x1), none] [] w Q := by
  refine hb_iconst (pc := 51) (v := 0) dX12_alike_51 (by decide) ?_
  refine hb_istore_n (pc := 52) (i := 1) (ls1 := [some (hb_r 12 0 0), some (hb_i (0 : Int32)), none]) dX12_alike_52 rfl (by decide) rfl ?_
  refine hb_iconst (pc := 53) (v := 0) dX12_alike_53 (by decide) ?_
  refine hb_istore_n (pc := 54) (i := 2) (ls1 := [some (hb_r 12 0 0), some (hb_i (0 : Int32)), some (hb_i (0 : Int32))]) dX12_alike_54 rfl (by decide) rfl ?_
  exact h
set_option maxRecDepth 20000 in
theorem bk_X12_alike_55 {d : Nat} {w : hb_W} {Q : Option hb_V → hb_W → Prop} {x1 : Int32} {x2 : Int32} (h : (((hb_fI w 12 39 0) ≤ x2) → Q (some (hb_i x1)) w) ∧ ((¬ (hb_fI w 12 39 0) ≤ x2) → vp_in x2 9 ∧ ((((hb_aI w 12 29 0 x2.toNatClampNeg) = (-1 : Int32)) → hb_R yX12_alike cX12_alike 3 (some .int) (d + 1) 55 [some (hb_r 12 0 0), some (hb_i x1), some (hb_i (x2 + (1 : Int32)))] [] w Q) ∧ ((¬ (hb_aI w 12 29 0 x2.toNatClampNeg) = (-1 : Int32)) → vp_in x2 9 ∧ (vp_in x2 9 ∧ (((¬ (hb_aI w 12 29 0 x2.toNatClampNeg) = (hb_aI w 12 31 0 x2.toNatClampNeg)) → hb_R yX12_alike cX12_alike 3 (some .int) (d + 1) 55 [some (hb_r 12 0 0), some (hb_i x1), some (hb_i (x2 + (1 : Int32)))] [] w Q) ∧ (((hb_aI w 12 29 0 x2.toNatClampNeg) = (hb_aI w 12 31 0 x2.toNatClampNeg)) → hb_R yX12_alike cX12_alike 3 (some .int) (d + 1) 55 [some (hb_r 12 0 0), some (hb_i (x1 + (1 : Int32))), some (hb_i (x2 + (1 : Int32)))] [] w Q))))))) : hb_R yX12_alike cX12_alike 3 (some .int) (d + 1) 55 [some (hb_r 12 0 0), some (hb_i x1), some (hb_i x2)] [] w Q := by
  refine hb_iload_n (pc := 55) (i := 2) dX12_alike_55 rfl rfl ?_
  refine hb_aload_n (pc := 56) (i := 0) dX12_alike_56 rfl rfl ?_
  refine hb_getIx (pc := 57) (x := hb_fI w 12 39 0) dX12_alike_57 fw_X12_358 cw_12 rfl (by decide) rfl rfl ?_
  refine hb_icmp_ge (pc := 60) (tgt := 97) dX12_alike_60 (by decide) (fun c1 => ?_) (fun c1 => ?_)
  · have ht1 := h.1 c1
    refine hb_iload_n (pc := 97) (i := 1) dX12_alike_97 rfl rfl ?_
    exact hb_iret (pc := 98) dX12_alike_98 rfl ht1
  · have ht1 := h.2 c1
    refine hb_aload_n (pc := 63) (i := 0) dX12_alike_63 rfl rfl ?_
    refine hb_getR (pc := 64) (g1 := 0) dX12_alike_64 fw_X12_100 cw_12 rfl (by decide) rfl (by decide) rfl ?_
    refine hb_iload_n (pc := 67) (i := 2) dX12_alike_67 rfl rfl ?_
    obtain ⟨ho2, hr2⟩ := ht1
    refine hb_ialdx (pc := 68) (x := hb_aI w 12 29 0 x2.toNatClampNeg) dX12_alike_68 rfl (by decide) ho2 rfl ?_
    refine hb_iconst (pc := 69) (v := -1) dX12_alike_69 (by decide) ?_
    refine hb_icmp_eq (pc := 70) (tgt := 91) dX12_alike_70 (by decide) (fun c3 => ?_) (fun c3 => ?_)
    · have ht3 := hr2.1 c3
      refine hb_iinc (pc := 91) (v := x2 + (1 : Int32)) (ls1 := [some (hb_r 12 0 0), some (hb_i x1), some (hb_i (x2 + (1 : Int32)))]) dX12_alike_91 rfl rfl (by decide) rfl ?_
      refine hb_goto (pc := 94) (tgt := 55) dX12_alike_94 (by decide) ?_
      exact ht3
    · have ht3 := hr2.2 c3
      refine hb_aload_n (pc := 73) (i := 0) dX12_alike_73 rfl rfl ?_
      refine hb_getR (pc := 74) (g1 := 0) dX12_alike_74 fw_X12_100 cw_12 rfl (by decide) rfl (by decide) rfl ?_
      refine hb_iload_n (pc := 77) (i := 2) dX12_alike_77 rfl rfl ?_
      obtain ⟨ho4, hr4⟩ := ht3
      refine hb_ialdx (pc := 78) (x := hb_aI w 12 29 0 x2.toNatClampNeg) dX12_alike_78 rfl (by decide) ho4 rfl ?_
      refine hb_aload_n (pc := 79) (i := 0) dX12_alike_79 rfl rfl ?_
      refine hb_getR (pc := 80) (g1 := 0) dX12_alike_80 fw_X12_106 cw_12 rfl (by decide) rfl (by decide) rfl ?_
      refine hb_iload_n (pc := 83) (i := 2) dX12_alike_83 rfl rfl ?_
      obtain ⟨ho5, hr5⟩ := hr4
      refine hb_ialdx (pc := 84) (x := hb_aI w 12 31 0 x2.toNatClampNeg) dX12_alike_84 rfl (by decide) ho5 rfl ?_
      refine hb_icmp_ne (pc := 85) (tgt := 91) dX12_alike_85 (by decide) (fun c6 => ?_) (fun c6 => ?_)
      · have ht6 := hr5.1 c6
        refine hb_iinc (pc := 91) (v := x2 + (1 : Int32)) (ls1 := [some (hb_r 12 0 0), some (hb_i x1), some (hb_i (x2 + (1 : Int32)))]) dX12_alike_91 rfl rfl (by decide) rfl ?_
        refine hb_goto (pc := 94) (tgt := 55) dX12_alike_94 (by decide) ?_
        exact ht6
      · have ht6 := hr5.2 c6
        refine hb_iinc (pc := 88) (v := x1 + (1 : Int32)) (ls1 := [some (hb_r 12 0 0), some (hb_i (x1 + (1 : Int32))), some (hb_i x2)]) dX12_alike_88 rfl rfl (by decide) rfl ?_
        refine hb_iinc (pc := 91) (v := x2 + (1 : Int32)) (ls1 := [some (hb_r 12 0 0), some (hb_i (x1 + (1 : Int32))), some (hb_i (x2 + (1 : Int32)))]) dX12_alike_91 rfl rfl (by decide) rfl ?_
        refine hb_goto (pc := 94) (tgt := 55) dX12_alike_94 (by decide) ?_
        exact ht6
theorem dX12_truth_0 : decode cX12_truth 0 = .ok (.aload_n 0, 1) := by decide +kernel
theorem dX12_truth_1 : decode cX12_truth 1 = .ok (.iload_n 1, 1) := by decide +kernel
theorem dX12_truth_2 : decode cX12_truth 2 = .ok (.invokevirtual 446, 3) := by decide +kernel
theorem dX12_truth_5 : decode cX12_truth 5 = .ok (.ifCond .ne 5, 3) := by decide +kernel
theorem dX12_truth_8 : decode cX12_truth 8 = .ok (.iconst (-1), 1) := by decide +kernel
theorem dX12_truth_9 : decode cX12_truth 9 = .ok (.ireturn, 1) := by decide +kernel
theorem dX12_truth_10 : decode cX12_truth 10 = .ok (.aload_n 0, 1) := by decide +kernel
theorem dX12_truth_11 : decode cX12_truth 11 = .ok (.iload_n 1, 1) := by decide +kernel
theorem dX12_truth_12 : decode cX12_truth 12 = .ok (.invokevirtual 449, 3) := by decide +kernel
theorem dX12_truth_15 : decode cX12_truth 15 = .ok (.iload_n 2, 1) := by decide +kernel
theorem dX12_truth_16 : decode cX12_truth 16 = .ok (.tableswitch 78 0 4 #[36, 41, 46, 51, 73], 36) := by decide +kernel
theorem dX12_truth_52 : decode cX12_truth 52 = .ok (.aload_n 0, 1) := by decide +kernel
theorem dX12_truth_53 : decode cX12_truth 53 = .ok (.getfield 361, 3) := by decide +kernel
theorem dX12_truth_56 : decode cX12_truth 56 = .ok (.ireturn, 1) := by decide +kernel
theorem dX12_truth_57 : decode cX12_truth 57 = .ok (.aload_n 0, 1) := by decide +kernel
theorem dX12_truth_58 : decode cX12_truth 58 = .ok (.invokevirtual 414, 3) := by decide +kernel
theorem dX12_truth_61 : decode cX12_truth 61 = .ok (.ireturn, 1) := by decide +kernel
theorem dX12_truth_62 : decode cX12_truth 62 = .ok (.aload_n 0, 1) := by decide +kernel
theorem dX12_truth_63 : decode cX12_truth 63 = .ok (.invokevirtual 402, 3) := by decide +kernel
theorem dX12_truth_66 : decode cX12_truth 66 = .ok (.ireturn, 1) := by decide +kernel
theorem dX12_truth_67 : decode cX12_truth 67 = .ok (.aload_n 0, 1) := by decide +kernel
theorem dX12_truth_68 : decode cX12_truth 68 = .ok (.invokevirtual 402, 3) := by decide +kernel
theorem dX12_truth_71 : decode cX12_truth 71 = .ok (.iconst (-1), 1) := by decide +kernel
theorem dX12_truth_72 : decode cX12_truth 72 = .ok (.if_icmp .ne 7, 3) := by decide +kernel
theorem dX12_truth_75 : decode cX12_truth 75 = .ok (.iconst (-1), 1) := by decide +kernel
theorem dX12_truth_76 : decode cX12_truth 76 = .ok (.goto 12, 3) := by decide +kernel
theorem dX12_truth_79 : decode cX12_truth 79 = .ok (.aload_n 0, 1) := by decide +kernel
theorem dX12_truth_80 : decode cX12_truth 80 = .ok (.getfield 75, 3) := by decide +kernel
theorem dX12_truth_83 : decode cX12_truth 83 = .ok (.aload_n 0, 1) := by decide +kernel
theorem dX12_truth_84 : decode cX12_truth 84 = .ok (.invokevirtual 402, 3) := by decide +kernel
theorem dX12_truth_87 : decode cX12_truth 87 = .ok (.iaload, 1) := by decide +kernel
theorem dX12_truth_88 : decode cX12_truth 88 = .ok (.ireturn, 1) := by decide +kernel
theorem dX12_truth_89 : decode cX12_truth 89 = .ok (.aload_n 0, 1) := by decide +kernel
theorem dX12_truth_90 : decode cX12_truth 90 = .ok (.invokevirtual 429, 3) := by decide +kernel
theorem dX12_truth_93 : decode cX12_truth 93 = .ok (.ireturn, 1) := by decide +kernel
theorem dX12_truth_94 : decode cX12_truth 94 = .ok (.iconst (-1), 1) := by decide +kernel
theorem dX12_truth_95 : decode cX12_truth 95 = .ok (.ireturn, 1) := by decide +kernel
set_option maxRecDepth 20000 in
theorem bk_X12_truth_0 {d : Nat} {w : hb_W} {Q : Option hb_V → hb_W → Prop} {x1 : Int32} {x2 : Int32} (h : hb_O yX12_isBook cX12_isBook 2 (some .boolean) d [hb_r 12 0 0, hb_i x1] w (fun rv w1 => hb_R yX12_truth cX12_truth 3 (some .int) (d + 1) 5 [some (hb_r 12 0 0), some (hb_i x1), some (hb_i x2)] (rv.toList ++ []) w1 Q)) : hb_R yX12_truth cX12_truth 3 (some .int) (d + 1) 0 [some (hb_r 12 0 0), some (hb_i x1), some (hb_i x2)] [] w Q := by
  refine hb_aload_n (pc := 0) (i := 0) dX12_truth_0 rfl rfl ?_
  refine hb_iload_n (pc := 1) (i := 1) dX12_truth_1 rfl rfl ?_
  exact hb_callV (pc := 2) (As := [hb_i x1]) (st := []) dX12_truth_2 ml_X12_446 mf_X12_isBook mi_X12_isBook (ci := 12) rfl rfl (by decide) rfl rfl (Nat.le_of_ble_eq_true rfl) (Nat.le_of_ble_eq_true rfl) h (fun _ _ q => q)
set_option maxRecDepth 20000 in
theorem bk_X12_truth_5 {d : Nat} {w : hb_W} {Q : Option hb_V → hb_W → Prop} {x1 : Int32} {x2 : Int32} {xs0 : Int32} (h : ((¬ xs0 = 0) → hb_O yX12_lays cX12_lays 2 none d [hb_r 12 0 0, hb_i x1] w (fun rv w1 => hb_R yX12_truth cX12_truth 3 (some .int) (d + 1) 15 [some (hb_r 12 0 0), some (hb_i x1), some (hb_i x2)] (rv.toList ++ []) w1 Q)) ∧ ((xs0 = 0) → Q (some (hb_i (-1 : Int32))) w)) : hb_R yX12_truth cX12_truth 3 (some .int) (d + 1) 5 [some (hb_r 12 0 0), some (hb_i x1), some (hb_i x2)] [hb_i xs0] w Q := by
  refine hb_if_ne (pc := 5) (tgt := 10) dX12_truth_5 (by decide) (fun c1 => ?_) (fun c1 => ?_)
  · have ht1 := h.1 c1
    refine hb_aload_n (pc := 10) (i := 0) dX12_truth_10 rfl rfl ?_
    refine hb_iload_n (pc := 11) (i := 1) dX12_truth_11 rfl rfl ?_
    exact hb_callV (pc := 12) (As := [hb_i x1]) (st := []) dX12_truth_12 ml_X12_449 mf_X12_lays mi_X12_lays (ci := 12) rfl rfl (by decide) rfl rfl (Nat.le_of_ble_eq_true rfl) (Nat.le_of_ble_eq_true rfl) ht1 (fun _ _ q => q)
  · have ht1 := h.2 c1
    refine hb_iconst (pc := 8) (v := -1) dX12_truth_8 (by decide) ?_
    exact hb_iret (pc := 9) dX12_truth_9 rfl ht1
set_option maxRecDepth 20000 in
theorem bk_X12_truth_15 {d : Nat} {w : hb_W} {Q : Option hb_V → hb_W → Prop} {x1 : Int32} {x2 : Int32} (h : (x2 = (0 : Int32) → Q (some (hb_i (hb_fI w 12 40 0))) w) ∧ (x2 = (1 : Int32) → hb_O yX12_unlikeMany cX12_unlikeMany 3 (some .int) d [hb_r 12 0 0] w (fun rv w1 => hb_R yX12_truth cX12_truth 3 (some .int) (d + 1) 61 [some (hb_r 12 0 0), some (hb_i x1), some (hb_i x2)] (rv.toList ++ []) w1 Q)) ∧ (x2 = (2 : Int32) → hb_O yX12_oftenest cX12_oftenest 3 (some .int) d [hb_r 12 0 0] w (fun rv w1 => hb_R yX12_truth cX12_truth 3 (some .int) (d + 1) 66 [some (hb_r 12 0 0), some (hb_i x1), some (hb_i x2)] (rv.toList ++ []) w1 Q)) ∧ (x2 = (3 : Int32) → hb_O yX12_oftenest cX12_oftenest 3 (some .int) d [hb_r 12 0 0] w (fun rv w1 => hb_R yX12_truth cX12_truth 3 (some .int) (d + 1) 71 [some (hb_r 12 0 0), some (hb_i x1), some (hb_i x2)] (rv.toList ++ []) w1 Q)) ∧ (x2 = (4 : Int32) → hb_O yX12_middleGift cX12_middleGift 3 (some .int) d [hb_r 12 0 0] w (fun rv w1 => hb_R yX12_truth cX12_truth 3 (some .int) (d + 1) 93 [some (hb_r 12 0 0), some (hb_i x1), some (hb_i x2)] (rv.toList ++ []) w1 Q)) ∧ (¬ x2 = (0 : Int32) → ¬ x2 = (1 : Int32) → ¬ x2 = (2 : Int32) → ¬ x2 = (3 : Int32) → ¬ x2 = (4 : Int32) → Q (some (hb_i (-1 : Int32))) w)) : hb_R yX12_truth cX12_truth 3 (some .int) (d + 1) 15 [some (hb_r 12 0 0), some (hb_i x1), some (hb_i x2)] [] w Q := by
  refine hb_iload_n (pc := 15) (i := 2) dX12_truth_15 rfl rfl ?_
  by_cases e1_0 : x2 = (0 : Int32)
  · have hk1_0 := h.1 e1_0
    have ei : x2.toInt = 0 := by rw [e1_0]; rfl
    refine hb_tabIn (pc := 16) (tgt := 52) (off := 36) dX12_truth_16 (by rw [ei]; decide) (by rw [ei]; decide) (by rw [ei]; rfl) (by decide) ?_
    refine hb_aload_n (pc := 52) (i := 0) dX12_truth_52 rfl rfl ?_
    refine hb_getIx (pc := 53) (x := hb_fI w 12 40 0) dX12_truth_53 fw_X12_361 cw_12 rfl (by decide) rfl rfl ?_
    exact hb_iret (pc := 56) dX12_truth_56 rfl hk1_0
  by_cases e1_1 : x2 = (1 : Int32)
  · have hk1_1 := h.2.1 e1_1
    have ei : x2.toInt = 1 := by rw [e1_1]; rfl
    refine hb_tabIn (pc := 16) (tgt := 57) (off := 41) dX12_truth_16 (by rw [ei]; decide) (by rw [ei]; decide) (by rw [ei]; rfl) (by decide) ?_
    refine hb_aload_n (pc := 57) (i := 0) dX12_truth_57 rfl rfl ?_
    exact hb_callV (pc := 58) (As := []) (st := []) dX12_truth_58 ml_X12_414 mf_X12_unlikeMany mi_X12_unlikeMany (ci := 12) rfl rfl (by decide) rfl rfl (Nat.le_of_ble_eq_true rfl) (Nat.le_of_ble_eq_true rfl) hk1_1 (fun _ _ q => q)
  by_cases e1_2 : x2 = (2 : Int32)
  · have hk1_2 := h.2.2.1 e1_2
    have ei : x2.toInt = 2 := by rw [e1_2]; rfl
    refine hb_tabIn (pc := 16) (tgt := 62) (off := 46) dX12_truth_16 (by rw [ei]; decide) (by rw [ei]; decide) (by rw [ei]; rfl) (by decide) ?_
    refine hb_aload_n (pc := 62) (i := 0) dX12_truth_62 rfl rfl ?_
    exact hb_callV (pc := 63) (As := []) (st := []) dX12_truth_63 ml_X12_402 mf_X12_oftenest mi_X12_oftenest (ci := 12) rfl rfl (by decide) rfl rfl (Nat.le_of_ble_eq_true rfl) (Nat.le_of_ble_eq_true rfl) hk1_2 (fun _ _ q => q)
  by_cases e1_3 : x2 = (3 : Int32)
  · have hk1_3 := h.2.2.2.1 e1_3
    have ei : x2.toInt = 3 := by rw [e1_3]; rfl
    refine hb_tabIn (pc := 16) (tgt := 67) (off := 51) dX12_truth_16 (by rw [ei]; decide) (by rw [ei]; decide) (by rw [ei]; rfl) (by decide) ?_
    refine hb_aload_n (pc := 67) (i := 0) dX12_truth_67 rfl rfl ?_
    exact hb_callV (pc := 68) (As := []) (st := []) dX12_truth_68 ml_X12_402 mf_X12_oftenest mi_X12_oftenest (ci := 12) rfl rfl (by decide) rfl rfl (Nat.le_of_ble_eq_true rfl) (Nat.le_of_ble_eq_true rfl) hk1_3 (fun _ _ q => q)
  by_cases e1_4 : x2 = (4 : Int32)
  · have hk1_4 := h.2.2.2.2.1 e1_4
    have ei : x2.toInt = 4 := by rw [e1_4]; rfl
    refine hb_tabIn (pc := 16) (tgt := 89) (off := 73) dX12_truth_16 (by rw [ei]; decide) (by rw [ei]; decide) (by rw [ei]; rfl) (by decide) ?_
    refine hb_aload_n (pc := 89) (i := 0) dX12_truth_89 rfl rfl ?_
    exact hb_callV (pc := 90) (As := []) (st := []) dX12_truth_90 ml_X12_429 mf_X12_middleGift mi_X12_middleGift (ci := 12) rfl rfl (by decide) rfl rfl (Nat.le_of_ble_eq_true rfl) (Nat.le_of_ble_eq_true rfl) hk1_4 (fun _ _ q => q)
  have hk1_d := h.2.2.2.2.2 e1_0 e1_1 e1_2 e1_3 e1_4
  have n1_0 := lv_neT (a := 0) e1_0 rfl
  have n1_1 := lv_neT (a := 1) e1_1 rfl
  have n1_2 := lv_neT (a := 2) e1_2 rfl
  have n1_3 := lv_neT (a := 3) e1_3 rfl
  have n1_4 := lv_neT (a := 4) e1_4 rfl
  refine hb_tabOut (pc := 16) (tgt := 94) dX12_truth_16 (by omega) (by decide) ?_
  refine hb_iconst (pc := 94) (v := -1) dX12_truth_94 (by decide) ?_
  exact hb_iret (pc := 95) dX12_truth_95 rfl hk1_d
set_option maxRecDepth 20000 in
theorem bk_X12_truth_61 {d : Nat} {w : hb_W} {Q : Option hb_V → hb_W → Prop} {x1 : Int32} {x2 : Int32} {xs0 : Int32} (h : Q (some (hb_i xs0)) w) : hb_R yX12_truth cX12_truth 3 (some .int) (d + 1) 61 [some (hb_r 12 0 0), some (hb_i x1), some (hb_i x2)] [hb_i xs0] w Q := by
  exact hb_iret (pc := 61) dX12_truth_61 rfl h
set_option maxRecDepth 20000 in
theorem bk_X12_truth_66 {d : Nat} {w : hb_W} {Q : Option hb_V → hb_W → Prop} {x1 : Int32} {x2 : Int32} {xs0 : Int32} (h : Q (some (hb_i xs0)) w) : hb_R yX12_truth cX12_truth 3 (some .int) (d + 1) 66 [some (hb_r 12 0 0), some (hb_i x1), some (hb_i x2)] [hb_i xs0] w Q := by
  exact hb_iret (pc := 66) dX12_truth_66 rfl h
set_option maxRecDepth 20000 in
theorem bk_X12_truth_71 {d : Nat} {w : hb_W} {Q : Option hb_V → hb_W → Prop} {x1 : Int32} {x2 : Int32} {xs0 : Int32} (h : ((¬ xs0 = (-1 : Int32)) → hb_O yX12_oftenest cX12_oftenest 3 (some .int) d [hb_r 12 0 0] w (fun rv w1 => hb_R yX12_truth cX12_truth 3 (some .int) (d + 1) 87 [some (hb_r 12 0 0), some (hb_i x1), some (hb_i x2)] (rv.toList ++ [hb_r 12 0 21]) w1 Q)) ∧ ((xs0 = (-1 : Int32)) → Q (some (hb_i (-1 : Int32))) w)) : hb_R yX12_truth cX12_truth 3 (some .int) (d + 1) 71 [some (hb_r 12 0 0), some (hb_i x1), some (hb_i x2)] [hb_i xs0] w Q := by
  refine hb_iconst (pc := 71) (v := -1) dX12_truth_71 (by decide) ?_
  refine hb_icmp_ne (pc := 72) (tgt := 79) dX12_truth_72 (by decide) (fun c1 => ?_) (fun c1 => ?_)
  · have ht1 := h.1 c1
    refine hb_aload_n (pc := 79) (i := 0) dX12_truth_79 rfl rfl ?_
    refine hb_getR (pc := 80) (g1 := 0) dX12_truth_80 fw_X12_75 cw_12 rfl (by decide) rfl (by decide) rfl ?_
    refine hb_aload_n (pc := 83) (i := 0) dX12_truth_83 rfl rfl ?_
    exact hb_callV (pc := 84) (As := []) (st := [hb_r 12 0 21]) dX12_truth_84 ml_X12_402 mf_X12_oftenest mi_X12_oftenest (ci := 12) rfl rfl (by decide) rfl rfl (Nat.le_of_ble_eq_true rfl) (Nat.le_of_ble_eq_true rfl) ht1 (fun _ _ q => q)
  · have ht1 := h.2 c1
    refine hb_iconst (pc := 75) (v := -1) dX12_truth_75 (by decide) ?_
    refine hb_goto (pc := 76) (tgt := 88) dX12_truth_76 (by decide) ?_
    exact hb_iret (pc := 88) dX12_truth_88 rfl ht1
set_option maxRecDepth 20000 in
theorem bk_X12_truth_87 {d : Nat} {w : hb_W} {Q : Option hb_V → hb_W → Prop} {x1 : Int32} {x2 : Int32} {xs1 : Int32} (h : vp_in xs1 64 ∧ (Q (some (hb_i (hb_aI w 12 21 0 xs1.toNatClampNeg))) w)) : hb_R yX12_truth cX12_truth 3 (some .int) (d + 1) 87 [some (hb_r 12 0 0), some (hb_i x1), some (hb_i x2)] [hb_i xs1, hb_r 12 0 21] w Q := by
  obtain ⟨ho1, hr1⟩ := h
  refine hb_ialdx (pc := 87) (x := hb_aI w 12 21 0 xs1.toNatClampNeg) dX12_truth_87 rfl (by decide) ho1 rfl ?_
  exact hb_iret (pc := 88) dX12_truth_88 rfl hr1
set_option maxRecDepth 20000 in
theorem bk_X12_truth_93 {d : Nat} {w : hb_W} {Q : Option hb_V → hb_W → Prop} {x1 : Int32} {x2 : Int32} {xs0 : Int32} (h : Q (some (hb_i xs0)) w) : hb_R yX12_truth cX12_truth 3 (some .int) (d + 1) 93 [some (hb_r 12 0 0), some (hb_i x1), some (hb_i x2)] [hb_i xs0] w Q := by
  exact hb_iret (pc := 93) dX12_truth_93 rfl h
theorem dX12_times_0 : decode cX12_times 0 = .ok (.aload_n 0, 1) := by decide +kernel
theorem dX12_times_1 : decode cX12_times 1 = .ok (.iload_n 1, 1) := by decide +kernel
theorem dX12_times_2 : decode cX12_times 2 = .ok (.invokevirtual 446, 3) := by decide +kernel
theorem dX12_times_5 : decode cX12_times 5 = .ok (.ifCond .eq 11, 3) := by decide +kernel
theorem dX12_times_8 : decode cX12_times 8 = .ok (.aload_n 0, 1) := by decide +kernel
theorem dX12_times_9 : decode cX12_times 9 = .ok (.iload_n 2, 1) := by decide +kernel
theorem dX12_times_10 : decode cX12_times 10 = .ok (.invokevirtual 441, 3) := by decide +kernel
theorem dX12_times_13 : decode cX12_times 13 = .ok (.ifCond .ne 5, 3) := by decide +kernel
theorem dX12_times_16 : decode cX12_times 16 = .ok (.iconst (-1), 1) := by decide +kernel
theorem dX12_times_17 : decode cX12_times 17 = .ok (.ireturn, 1) := by decide +kernel
theorem dX12_times_18 : decode cX12_times 18 = .ok (.aload_n 0, 1) := by decide +kernel
theorem dX12_times_19 : decode cX12_times 19 = .ok (.iload_n 1, 1) := by decide +kernel
theorem dX12_times_20 : decode cX12_times 20 = .ok (.invokevirtual 449, 3) := by decide +kernel
theorem dX12_times_23 : decode cX12_times 23 = .ok (.aload_n 0, 1) := by decide +kernel
theorem dX12_times_24 : decode cX12_times 24 = .ok (.getfield 75, 3) := by decide +kernel
theorem dX12_times_27 : decode cX12_times 27 = .ok (.iload_n 2, 1) := by decide +kernel
theorem dX12_times_28 : decode cX12_times 28 = .ok (.iaload, 1) := by decide +kernel
theorem dX12_times_29 : decode cX12_times 29 = .ok (.ireturn, 1) := by decide +kernel
set_option maxRecDepth 20000 in
theorem bk_X12_times_0 {d : Nat} {w : hb_W} {Q : Option hb_V → hb_W → Prop} {x1 : Int32} {x2 : Int32} (h : hb_O yX12_isBook cX12_isBook 2 (some .boolean) d [hb_r 12 0 0, hb_i x1] w (fun rv w1 => hb_R yX12_times cX12_times 3 (some .int) (d + 1) 5 [some (hb_r 12 0 0), some (hb_i x1), some (hb_i x2)] (rv.toList ++ []) w1 Q)) : hb_R yX12_times cX12_times 3 (some .int) (d + 1) 0 [some (hb_r 12 0 0), some (hb_i x1), some (hb_i x2)] [] w Q := by
  refine hb_aload_n (pc := 0) (i := 0) dX12_times_0 rfl rfl ?_
  refine hb_iload_n (pc := 1) (i := 1) dX12_times_1 rfl rfl ?_
  exact hb_callV (pc := 2) (As := [hb_i x1]) (st := []) dX12_times_2 ml_X12_446 mf_X12_isBook mi_X12_isBook (ci := 12) rfl rfl (by decide) rfl rfl (Nat.le_of_ble_eq_true rfl) (Nat.le_of_ble_eq_true rfl) h (fun _ _ q => q)
set_option maxRecDepth 20000 in
theorem bk_X12_times_5 {d : Nat} {w : hb_W} {Q : Option hb_V → hb_W → Prop} {x1 : Int32} {x2 : Int32} {xs0 : Int32} (h : ((xs0 = 0) → Q (some (hb_i (-1 : Int32))) w) ∧ ((¬ xs0 = 0) → hb_O yX12_isHood cX12_isHood 2 (some .boolean) d [hb_r 12 0 0, hb_i x2] w (fun rv w1 => hb_R yX12_times cX12_times 3 (some .int) (d + 1) 13 [some (hb_r 12 0 0), some (hb_i x1), some (hb_i x2)] (rv.toList ++ []) w1 Q))) : hb_R yX12_times cX12_times 3 (some .int) (d + 1) 5 [some (hb_r 12 0 0), some (hb_i x1), some (hb_i x2)] [hb_i xs0] w Q := by
  refine hb_if_eq (pc := 5) (tgt := 16) dX12_times_5 (by decide) (fun c1 => ?_) (fun c1 => ?_)
  · have ht1 := h.1 c1
    refine hb_iconst (pc := 16) (v := -1) dX12_times_16 (by decide) ?_
    exact hb_iret (pc := 17) dX12_times_17 rfl ht1
  · have ht1 := h.2 c1
    refine hb_aload_n (pc := 8) (i := 0) dX12_times_8 rfl rfl ?_
    refine hb_iload_n (pc := 9) (i := 2) dX12_times_9 rfl rfl ?_
    exact hb_callV (pc := 10) (As := [hb_i x2]) (st := []) dX12_times_10 ml_X12_441 mf_X12_isHood mi_X12_isHood (ci := 12) rfl rfl (by decide) rfl rfl (Nat.le_of_ble_eq_true rfl) (Nat.le_of_ble_eq_true rfl) ht1 (fun _ _ q => q)
set_option maxRecDepth 20000 in
theorem bk_X12_times_13 {d : Nat} {w : hb_W} {Q : Option hb_V → hb_W → Prop} {x1 : Int32} {x2 : Int32} {xs0 : Int32} (h : ((¬ xs0 = 0) → hb_O yX12_lays cX12_lays 2 none d [hb_r 12 0 0, hb_i x1] w (fun rv w1 => hb_R yX12_times cX12_times 3 (some .int) (d + 1) 23 [some (hb_r 12 0 0), some (hb_i x1), some (hb_i x2)] (rv.toList ++ []) w1 Q)) ∧ ((xs0 = 0) → Q (some (hb_i (-1 : Int32))) w)) : hb_R yX12_times cX12_times 3 (some .int) (d + 1) 13 [some (hb_r 12 0 0), some (hb_i x1), some (hb_i x2)] [hb_i xs0] w Q := by
  refine hb_if_ne (pc := 13) (tgt := 18) dX12_times_13 (by decide) (fun c1 => ?_) (fun c1 => ?_)
  · have ht1 := h.1 c1
    refine hb_aload_n (pc := 18) (i := 0) dX12_times_18 rfl rfl ?_
    refine hb_iload_n (pc := 19) (i := 1) dX12_times_19 rfl rfl ?_
    exact hb_callV (pc := 20) (As := [hb_i x1]) (st := []) dX12_times_20 ml_X12_449 mf_X12_lays mi_X12_lays (ci := 12) rfl rfl (by decide) rfl rfl (Nat.le_of_ble_eq_true rfl) (Nat.le_of_ble_eq_true rfl) ht1 (fun _ _ q => q)
  · have ht1 := h.2 c1
    refine hb_iconst (pc := 16) (v := -1) dX12_times_16 (by decide) ?_
    exact hb_iret (pc := 17) dX12_times_17 rfl ht1
set_option maxRecDepth 20000 in
theorem bk_X12_times_23 {d : Nat} {w : hb_W} {Q : Option hb_V → hb_W → Prop} {x1 : Int32} {x2 : Int32} (h : vp_in x2 64 ∧ (Q (some (hb_i (hb_aI w 12 21 0 x2.toNatClampNeg))) w)) : hb_R yX12_times cX12_times 3 (some .int) (d + 1) 23 [some (hb_r 12 0 0), some (hb_i x1), some (hb_i x2)] [] w Q := by
  refine hb_aload_n (pc := 23) (i := 0) dX12_times_23 rfl rfl ?_
  refine hb_getR (pc := 24) (g1 := 0) dX12_times_24 fw_X12_75 cw_12 rfl (by decide) rfl (by decide) rfl ?_
  refine hb_iload_n (pc := 27) (i := 2) dX12_times_27 rfl rfl ?_
  obtain ⟨ho1, hr1⟩ := h
  refine hb_ialdx (pc := 28) (x := hb_aI w 12 21 0 x2.toNatClampNeg) dX12_times_28 rfl (by decide) ho1 rfl ?_
  exact hb_iret (pc := 29) dX12_times_29 rfl hr1
theorem dX12_timesAt_0 : decode cX12_timesAt 0 = .ok (.iconst 0, 1) := by decide +kernel
theorem dX12_timesAt_1 : decode cX12_timesAt 1 = .ok (.istore_n 3, 1) := by decide +kernel
theorem dX12_timesAt_2 : decode cX12_timesAt 2 = .ok (.iconst 0, 1) := by decide +kernel
theorem dX12_timesAt_3 : decode cX12_timesAt 3 = .ok (.istore 4, 2) := by decide +kernel
theorem dX12_timesAt_5 : decode cX12_timesAt 5 = .ok (.iload 4, 2) := by decide +kernel
theorem dX12_timesAt_7 : decode cX12_timesAt 7 = .ok (.aload_n 0, 1) := by decide +kernel
theorem dX12_timesAt_8 : decode cX12_timesAt 8 = .ok (.getfield 66, 3) := by decide +kernel
theorem dX12_timesAt_11 : decode cX12_timesAt 11 = .ok (.iconst 1, 1) := by decide +kernel
theorem dX12_timesAt_12 : decode cX12_timesAt 12 = .ok (.iaload, 1) := by decide +kernel
theorem dX12_timesAt_13 : decode cX12_timesAt 13 = .ok (.if_icmp .ge 37, 3) := by decide +kernel
theorem dX12_timesAt_16 : decode cX12_timesAt 16 = .ok (.aload_n 0, 1) := by decide +kernel
theorem dX12_timesAt_17 : decode cX12_timesAt 17 = .ok (.iload 4, 2) := by decide +kernel
theorem dX12_timesAt_19 : decode cX12_timesAt 19 = .ok (.invokevirtual 384, 3) := by decide +kernel
theorem dX12_timesAt_22 : decode cX12_timesAt 22 = .ok (.iload_n 1, 1) := by decide +kernel
theorem dX12_timesAt_23 : decode cX12_timesAt 23 = .ok (.if_icmp .ne 21, 3) := by decide +kernel
theorem dX12_timesAt_26 : decode cX12_timesAt 26 = .ok (.aload_n 0, 1) := by decide +kernel
theorem dX12_timesAt_27 : decode cX12_timesAt 27 = .ok (.getfield 69, 3) := by decide +kernel
theorem dX12_timesAt_30 : decode cX12_timesAt 30 = .ok (.iconst 3, 1) := by decide +kernel
theorem dX12_timesAt_31 : decode cX12_timesAt 31 = .ok (.iload 4, 2) := by decide +kernel
theorem dX12_timesAt_33 : decode cX12_timesAt 33 = .ok (.imul, 1) := by decide +kernel
theorem dX12_timesAt_34 : decode cX12_timesAt 34 = .ok (.iconst 2, 1) := by decide +kernel
theorem dX12_timesAt_35 : decode cX12_timesAt 35 = .ok (.iadd, 1) := by decide +kernel
theorem dX12_timesAt_36 : decode cX12_timesAt 36 = .ok (.iaload, 1) := by decide +kernel
theorem dX12_timesAt_37 : decode cX12_timesAt 37 = .ok (.iload_n 2, 1) := by decide +kernel
theorem dX12_timesAt_38 : decode cX12_timesAt 38 = .ok (.if_icmp .ne 6, 3) := by decide +kernel
theorem dX12_timesAt_41 : decode cX12_timesAt 41 = .ok (.iinc 3 1, 3) := by decide +kernel
theorem dX12_timesAt_44 : decode cX12_timesAt 44 = .ok (.iinc 4 1, 3) := by decide +kernel
theorem dX12_timesAt_47 : decode cX12_timesAt 47 = .ok (.goto (-42), 3) := by decide +kernel
theorem dX12_timesAt_50 : decode cX12_timesAt 50 = .ok (.iload_n 3, 1) := by decide +kernel
theorem dX12_timesAt_51 : decode cX12_timesAt 51 = .ok (.ireturn, 1) := by decide +kernel
set_option maxRecDepth 20000 in
theorem bk_X12_timesAt_0 {d : Nat} {w : hb_W} {Q : Option hb_V → hb_W → Prop} {x1 : Int32} {x2 : Int32} (h : hb_R yX12_timesAt cX12_timesAt 5 (some .int) (d + 1) 5 [some (hb_r 12 0 0), some (hb_i x1), some (hb_i x2), some (hb_i (0 : Int32)), some (hb_i (0 : Int32))] [] w Q) : hb_R yX12_timesAt cX12_timesAt 5 (some .int) (d + 1) 0 [some (hb_r 12 0 0), some (hb_i x1), some (hb_i x2), none, none] [] w Q := by
  refine hb_iconst (pc := 0) (v := 0) dX12_timesAt_0 (by decide) ?_
  refine hb_istore_n (pc := 1) (i := 3) (ls1 := [some (hb_r 12 0 0), some (hb_i x1), some (hb_i x2), some (hb_i (0 : Int32)), none]) dX12_timesAt_1 rfl (by decide) rfl ?_
  refine hb_iconst (pc := 2) (v := 0) dX12_timesAt_2 (by decide) ?_
  refine hb_istore (pc := 3) (i := 4) (ls1 := [some (hb_r 12 0 0), some (hb_i x1), some (hb_i x2), some (hb_i (0 : Int32)), some (hb_i (0 : Int32))]) dX12_timesAt_3 (by decide) rfl ?_
  exact h
set_option maxRecDepth 20000 in
theorem bk_X12_timesAt_5 {d : Nat} {w : hb_W} {Q : Option hb_V → hb_W → Prop} {x1 : Int32} {x2 : Int32} {x3 : Int32} {x4 : Int32} (h : (((hb_aI w 12 18 0 (1 : Int32).toNatClampNeg) ≤ x4) → Q (some (hb_i x3)) w) ∧ ((¬ (hb_aI w 12 18 0 (1 : Int32).toNatClampNeg) ≤ x4) → hb_O yX12_hoodOf cX12_hoodOf 2 (some .int) d [hb_r 12 0 0, hb_i x4] w (fun rv w1 => hb_R yX12_timesAt cX12_timesAt 5 (some .int) (d + 1) 22 [some (hb_r 12 0 0), some (hb_i x1), some (hb_i x2), some (hb_i x3), some (hb_i x4)] (rv.toList ++ []) w1 Q))) : hb_R yX12_timesAt cX12_timesAt 5 (some .int) (d + 1) 5 [some (hb_r 12 0 0), some (hb_i x1), some (hb_i x2), some (hb_i x3), some (hb_i x4)] [] w Q := by
  refine hb_iload (pc := 5) dX12_timesAt_5 rfl ?_
  refine hb_aload_n (pc := 7) (i := 0) dX12_timesAt_7 rfl rfl ?_
  refine hb_getR (pc := 8) (g1 := 0) dX12_timesAt_8 fw_X12_66 cw_12 rfl (by decide) rfl (by decide) rfl ?_
  refine hb_iconst (pc := 11) (v := 1) dX12_timesAt_11 (by decide) ?_
  refine hb_ialdx (pc := 12) (x := hb_aI w 12 18 0 (1 : Int32).toNatClampNeg) dX12_timesAt_12 (n := 11) rfl (by decide) (by unfold vp_in; decide) rfl ?_
  refine hb_icmp_ge (pc := 13) (tgt := 50) dX12_timesAt_13 (by decide) (fun c1 => ?_) (fun c1 => ?_)
  · have ht1 := h.1 c1
    refine hb_iload_n (pc := 50) (i := 3) dX12_timesAt_50 rfl rfl ?_
    exact hb_iret (pc := 51) dX12_timesAt_51 rfl ht1
  · have ht1 := h.2 c1
    refine hb_aload_n (pc := 16) (i := 0) dX12_timesAt_16 rfl rfl ?_
    refine hb_iload (pc := 17) dX12_timesAt_17 rfl ?_
    exact hb_callV (pc := 19) (As := [hb_i x4]) (st := []) dX12_timesAt_19 ml_X12_384 mf_X12_hoodOf mi_X12_hoodOf (ci := 12) rfl rfl (by decide) rfl rfl (Nat.le_of_ble_eq_true rfl) (Nat.le_of_ble_eq_true rfl) ht1 (fun _ _ q => q)
set_option maxRecDepth 20000 in
theorem bk_X12_timesAt_22 {d : Nat} {w : hb_W} {Q : Option hb_V → hb_W → Prop} {x1 : Int32} {x2 : Int32} {x3 : Int32} {x4 : Int32} {xs0 : Int32} (h : ((¬ xs0 = x1) → hb_R yX12_timesAt cX12_timesAt 5 (some .int) (d + 1) 5 [some (hb_r 12 0 0), some (hb_i x1), some (hb_i x2), some (hb_i x3), some (hb_i (x4 + (1 : Int32)))] [] w Q) ∧ ((xs0 = x1) → vp_in (((3 : Int32) * x4) + (2 : Int32)) 1203 ∧ (((¬ (hb_aI w 12 19 0 (((3 : Int32) * x4) + (2 : Int32)).toNatClampNeg) = x2) → hb_R yX12_timesAt cX12_timesAt 5 (some .int) (d + 1) 5 [some (hb_r 12 0 0), some (hb_i x1), some (hb_i x2), some (hb_i x3), some (hb_i (x4 + (1 : Int32)))] [] w Q) ∧ (((hb_aI w 12 19 0 (((3 : Int32) * x4) + (2 : Int32)).toNatClampNeg) = x2) → hb_R yX12_timesAt cX12_timesAt 5 (some .int) (d + 1) 5 [some (hb_r 12 0 0), some (hb_i x1), some (hb_i x2), some (hb_i (x3 + (1 : Int32))), some (hb_i (x4 + (1 : Int32)))] [] w Q)))) : hb_R yX12_timesAt cX12_timesAt 5 (some .int) (d + 1) 22 [some (hb_r 12 0 0), some (hb_i x1), some (hb_i x2), some (hb_i x3), some (hb_i x4)] [hb_i xs0] w Q := by
  refine hb_iload_n (pc := 22) (i := 1) dX12_timesAt_22 rfl rfl ?_
  refine hb_icmp_ne (pc := 23) (tgt := 44) dX12_timesAt_23 (by decide) (fun c1 => ?_) (fun c1 => ?_)
  · have ht1 := h.1 c1
    refine hb_iinc (pc := 44) (v := x4 + (1 : Int32)) (ls1 := [some (hb_r 12 0 0), some (hb_i x1), some (hb_i x2), some (hb_i x3), some (hb_i (x4 + (1 : Int32)))]) dX12_timesAt_44 rfl rfl (by decide) rfl ?_
    refine hb_goto (pc := 47) (tgt := 5) dX12_timesAt_47 (by decide) ?_
    exact ht1
  · have ht1 := h.2 c1
    refine hb_aload_n (pc := 26) (i := 0) dX12_timesAt_26 rfl rfl ?_
    refine hb_getR (pc := 27) (g1 := 0) dX12_timesAt_27 fw_X12_69 cw_12 rfl (by decide) rfl (by decide) rfl ?_
    refine hb_iconst (pc := 30) (v := 3) dX12_timesAt_30 (by decide) ?_
    refine hb_iload (pc := 31) dX12_timesAt_31 rfl ?_
    refine hb_imul (pc := 33) dX12_timesAt_33 ?_
    refine hb_iconst (pc := 34) (v := 2) dX12_timesAt_34 (by decide) ?_
    refine hb_iadd (pc := 35) dX12_timesAt_35 ?_
    obtain ⟨ho2, hr2⟩ := ht1
    refine hb_ialdx (pc := 36) (x := hb_aI w 12 19 0 (((3 : Int32) * x4) + (2 : Int32)).toNatClampNeg) dX12_timesAt_36 rfl (by decide) ho2 rfl ?_
    refine hb_iload_n (pc := 37) (i := 2) dX12_timesAt_37 rfl rfl ?_
    refine hb_icmp_ne (pc := 38) (tgt := 44) dX12_timesAt_38 (by decide) (fun c3 => ?_) (fun c3 => ?_)
    · have ht3 := hr2.1 c3
      refine hb_iinc (pc := 44) (v := x4 + (1 : Int32)) (ls1 := [some (hb_r 12 0 0), some (hb_i x1), some (hb_i x2), some (hb_i x3), some (hb_i (x4 + (1 : Int32)))]) dX12_timesAt_44 rfl rfl (by decide) rfl ?_
      refine hb_goto (pc := 47) (tgt := 5) dX12_timesAt_47 (by decide) ?_
      exact ht3
    · have ht3 := hr2.2 c3
      refine hb_iinc (pc := 41) (v := x3 + (1 : Int32)) (ls1 := [some (hb_r 12 0 0), some (hb_i x1), some (hb_i x2), some (hb_i (x3 + (1 : Int32))), some (hb_i x4)]) dX12_timesAt_41 rfl rfl (by decide) rfl ?_
      refine hb_iinc (pc := 44) (v := x4 + (1 : Int32)) (ls1 := [some (hb_r 12 0 0), some (hb_i x1), some (hb_i x2), some (hb_i (x3 + (1 : Int32))), some (hb_i (x4 + (1 : Int32)))]) dX12_timesAt_44 rfl rfl (by decide) rfl ?_
      refine hb_goto (pc := 47) (tgt := 5) dX12_timesAt_47 (by decide) ?_
      exact ht3
theorem dX12_giftsOf_0 : decode cX12_giftsOf 0 = .ok (.lconst 0, 1) := by decide +kernel
theorem dX12_giftsOf_1 : decode cX12_giftsOf 1 = .ok (.lstore_n 2, 1) := by decide +kernel
theorem dX12_giftsOf_2 : decode cX12_giftsOf 2 = .ok (.iconst 0, 1) := by decide +kernel
theorem dX12_giftsOf_3 : decode cX12_giftsOf 3 = .ok (.istore 4, 2) := by decide +kernel
theorem dX12_giftsOf_5 : decode cX12_giftsOf 5 = .ok (.iload 4, 2) := by decide +kernel
theorem dX12_giftsOf_7 : decode cX12_giftsOf 7 = .ok (.aload_n 0, 1) := by decide +kernel
theorem dX12_giftsOf_8 : decode cX12_giftsOf 8 = .ok (.getfield 66, 3) := by decide +kernel
theorem dX12_giftsOf_11 : decode cX12_giftsOf 11 = .ok (.iconst 1, 1) := by decide +kernel
theorem dX12_giftsOf_12 : decode cX12_giftsOf 12 = .ok (.iaload, 1) := by decide +kernel
theorem dX12_giftsOf_13 : decode cX12_giftsOf 13 = .ok (.if_icmp .ge 34, 3) := by decide +kernel
theorem dX12_giftsOf_16 : decode cX12_giftsOf 16 = .ok (.aload_n 0, 1) := by decide +kernel
theorem dX12_giftsOf_17 : decode cX12_giftsOf 17 = .ok (.iload 4, 2) := by decide +kernel
theorem dX12_giftsOf_19 : decode cX12_giftsOf 19 = .ok (.invokevirtual 384, 3) := by decide +kernel
theorem dX12_giftsOf_22 : decode cX12_giftsOf 22 = .ok (.iload_n 1, 1) := by decide +kernel
theorem dX12_giftsOf_23 : decode cX12_giftsOf 23 = .ok (.if_icmp .ne 18, 3) := by decide +kernel
theorem dX12_giftsOf_26 : decode cX12_giftsOf 26 = .ok (.lload_n 2, 1) := by decide +kernel
theorem dX12_giftsOf_27 : decode cX12_giftsOf 27 = .ok (.aload_n 0, 1) := by decide +kernel
theorem dX12_giftsOf_28 : decode cX12_giftsOf 28 = .ok (.getfield 69, 3) := by decide +kernel
theorem dX12_giftsOf_31 : decode cX12_giftsOf 31 = .ok (.iconst 3, 1) := by decide +kernel
theorem dX12_giftsOf_32 : decode cX12_giftsOf 32 = .ok (.iload 4, 2) := by decide +kernel
theorem dX12_giftsOf_34 : decode cX12_giftsOf 34 = .ok (.imul, 1) := by decide +kernel
theorem dX12_giftsOf_35 : decode cX12_giftsOf 35 = .ok (.iconst 1, 1) := by decide +kernel
theorem dX12_giftsOf_36 : decode cX12_giftsOf 36 = .ok (.iadd, 1) := by decide +kernel
theorem dX12_giftsOf_37 : decode cX12_giftsOf 37 = .ok (.iaload, 1) := by decide +kernel
theorem dX12_giftsOf_38 : decode cX12_giftsOf 38 = .ok (.i2l, 1) := by decide +kernel
theorem dX12_giftsOf_39 : decode cX12_giftsOf 39 = .ok (.ladd, 1) := by decide +kernel
theorem dX12_giftsOf_40 : decode cX12_giftsOf 40 = .ok (.lstore_n 2, 1) := by decide +kernel
theorem dX12_giftsOf_41 : decode cX12_giftsOf 41 = .ok (.iinc 4 1, 3) := by decide +kernel
theorem dX12_giftsOf_44 : decode cX12_giftsOf 44 = .ok (.goto (-39), 3) := by decide +kernel
theorem dX12_giftsOf_47 : decode cX12_giftsOf 47 = .ok (.lload_n 2, 1) := by decide +kernel
theorem dX12_giftsOf_48 : decode cX12_giftsOf 48 = .ok (.lreturn, 1) := by decide +kernel
set_option maxRecDepth 20000 in
theorem bk_X12_giftsOf_0 {d : Nat} {w : hb_W} {Q : Option hb_V → hb_W → Prop} {x1 : Int32} (h : hb_R yX12_giftsOf cX12_giftsOf 5 (some .long) (d + 1) 5 [some (hb_r 12 0 0), some (hb_i x1), some (hb_l (0 : Int64)), none, some (hb_i (0 : Int32))] [] w Q) : hb_R yX12_giftsOf cX12_giftsOf 5 (some .long) (d + 1) 0 [some (hb_r 12 0 0), some (hb_i x1), none, none, none] [] w Q := by
  refine hb_lconst (pc := 0) (v := 0) dX12_giftsOf_0 (by decide) ?_
  refine hb_lstore_n (pc := 1) (i := 2) (ls1 := [some (hb_r 12 0 0), some (hb_i x1), some (hb_l (0 : Int64)), none, none]) dX12_giftsOf_1 rfl (by decide) rfl ?_
  refine hb_iconst (pc := 2) (v := 0) dX12_giftsOf_2 (by decide) ?_
  refine hb_istore (pc := 3) (i := 4) (ls1 := [some (hb_r 12 0 0), some (hb_i x1), some (hb_l (0 : Int64)), none, some (hb_i (0 : Int32))]) dX12_giftsOf_3 (by decide) rfl ?_
  exact h
set_option maxRecDepth 20000 in
theorem bk_X12_giftsOf_5 {d : Nat} {w : hb_W} {Q : Option hb_V → hb_W → Prop} {x1 : Int32} {l2 : Int64} {x4 : Int32} (h : (((hb_aI w 12 18 0 (1 : Int32).toNatClampNeg) ≤ x4) → Q (some (hb_l l2)) w) ∧ ((¬ (hb_aI w 12 18 0 (1 : Int32).toNatClampNeg) ≤ x4) → hb_O yX12_hoodOf cX12_hoodOf 2 (some .int) d [hb_r 12 0 0, hb_i x4] w (fun rv w1 => hb_R yX12_giftsOf cX12_giftsOf 5 (some .long) (d + 1) 22 [some (hb_r 12 0 0), some (hb_i x1), some (hb_l l2), none, some (hb_i x4)] (rv.toList ++ []) w1 Q))) : hb_R yX12_giftsOf cX12_giftsOf 5 (some .long) (d + 1) 5 [some (hb_r 12 0 0), some (hb_i x1), some (hb_l l2), none, some (hb_i x4)] [] w Q := by
  refine hb_iload (pc := 5) dX12_giftsOf_5 rfl ?_
  refine hb_aload_n (pc := 7) (i := 0) dX12_giftsOf_7 rfl rfl ?_
  refine hb_getR (pc := 8) (g1 := 0) dX12_giftsOf_8 fw_X12_66 cw_12 rfl (by decide) rfl (by decide) rfl ?_
  refine hb_iconst (pc := 11) (v := 1) dX12_giftsOf_11 (by decide) ?_
  refine hb_ialdx (pc := 12) (x := hb_aI w 12 18 0 (1 : Int32).toNatClampNeg) dX12_giftsOf_12 (n := 11) rfl (by decide) (by unfold vp_in; decide) rfl ?_
  refine hb_icmp_ge (pc := 13) (tgt := 47) dX12_giftsOf_13 (by decide) (fun c1 => ?_) (fun c1 => ?_)
  · have ht1 := h.1 c1
    refine hb_lload_n (pc := 47) (i := 2) dX12_giftsOf_47 rfl rfl ?_
    exact hb_lret (pc := 48) dX12_giftsOf_48 rfl ht1
  · have ht1 := h.2 c1
    refine hb_aload_n (pc := 16) (i := 0) dX12_giftsOf_16 rfl rfl ?_
    refine hb_iload (pc := 17) dX12_giftsOf_17 rfl ?_
    exact hb_callV (pc := 19) (As := [hb_i x4]) (st := []) dX12_giftsOf_19 ml_X12_384 mf_X12_hoodOf mi_X12_hoodOf (ci := 12) rfl rfl (by decide) rfl rfl (Nat.le_of_ble_eq_true rfl) (Nat.le_of_ble_eq_true rfl) ht1 (fun _ _ q => q)
set_option maxRecDepth 20000 in
theorem bk_X12_giftsOf_22 {d : Nat} {w : hb_W} {Q : Option hb_V → hb_W → Prop} {x1 : Int32} {l2 : Int64} {x4 : Int32} {xs0 : Int32} (h : ((¬ xs0 = x1) → hb_R yX12_giftsOf cX12_giftsOf 5 (some .long) (d + 1) 5 [some (hb_r 12 0 0), some (hb_i x1), some (hb_l l2), none, some (hb_i (x4 + (1 : Int32)))] [] w Q) ∧ ((xs0 = x1) → vp_in (((3 : Int32) * x4) + (1 : Int32)) 1203 ∧ (hb_R yX12_giftsOf cX12_giftsOf 5 (some .long) (d + 1) 5 [some (hb_r 12 0 0), some (hb_i x1), some (hb_l (l2 + ((hb_aI w 12 19 0 (((3 : Int32) * x4) + (1 : Int32)).toNatClampNeg).toInt64))), none, some (hb_i (x4 + (1 : Int32)))] [] w Q))) : hb_R yX12_giftsOf cX12_giftsOf 5 (some .long) (d + 1) 22 [some (hb_r 12 0 0), some (hb_i x1), some (hb_l l2), none, some (hb_i x4)] [hb_i xs0] w Q := by
  refine hb_iload_n (pc := 22) (i := 1) dX12_giftsOf_22 rfl rfl ?_
  refine hb_icmp_ne (pc := 23) (tgt := 41) dX12_giftsOf_23 (by decide) (fun c1 => ?_) (fun c1 => ?_)
  · have ht1 := h.1 c1
    refine hb_iinc (pc := 41) (v := x4 + (1 : Int32)) (ls1 := [some (hb_r 12 0 0), some (hb_i x1), some (hb_l l2), none, some (hb_i (x4 + (1 : Int32)))]) dX12_giftsOf_41 rfl rfl (by decide) rfl ?_
    refine hb_goto (pc := 44) (tgt := 5) dX12_giftsOf_44 (by decide) ?_
    exact ht1
  · have ht1 := h.2 c1
    refine hb_lload_n (pc := 26) (i := 2) dX12_giftsOf_26 rfl rfl ?_
    refine hb_aload_n (pc := 27) (i := 0) dX12_giftsOf_27 rfl rfl ?_
    refine hb_getR (pc := 28) (g1 := 0) dX12_giftsOf_28 fw_X12_69 cw_12 rfl (by decide) rfl (by decide) rfl ?_
    refine hb_iconst (pc := 31) (v := 3) dX12_giftsOf_31 (by decide) ?_
    refine hb_iload (pc := 32) dX12_giftsOf_32 rfl ?_
    refine hb_imul (pc := 34) dX12_giftsOf_34 ?_
    refine hb_iconst (pc := 35) (v := 1) dX12_giftsOf_35 (by decide) ?_
    refine hb_iadd (pc := 36) dX12_giftsOf_36 ?_
    obtain ⟨ho2, hr2⟩ := ht1
    refine hb_ialdx (pc := 37) (x := hb_aI w 12 19 0 (((3 : Int32) * x4) + (1 : Int32)).toNatClampNeg) dX12_giftsOf_37 rfl (by decide) ho2 rfl ?_
    refine hb_i2l (pc := 38) dX12_giftsOf_38 ?_
    refine hb_ladd (pc := 39) dX12_giftsOf_39 ?_
    refine hb_lstore_n (pc := 40) (i := 2) (ls1 := [some (hb_r 12 0 0), some (hb_i x1), some (hb_l (l2 + ((hb_aI w 12 19 0 (((3 : Int32) * x4) + (1 : Int32)).toNatClampNeg).toInt64))), none, some (hb_i x4)]) dX12_giftsOf_40 rfl (by decide) rfl ?_
    refine hb_iinc (pc := 41) (v := x4 + (1 : Int32)) (ls1 := [some (hb_r 12 0 0), some (hb_i x1), some (hb_l (l2 + ((hb_aI w 12 19 0 (((3 : Int32) * x4) + (1 : Int32)).toNatClampNeg).toInt64))), none, some (hb_i (x4 + (1 : Int32)))]) dX12_giftsOf_41 rfl rfl (by decide) rfl ?_
    refine hb_goto (pc := 44) (tgt := 5) dX12_giftsOf_44 (by decide) ?_
    exact hr2
theorem dX12_out_0 : decode cX12_out 0 = .ok (.aload_n 0, 1) := by decide +kernel
theorem dX12_out_1 : decode cX12_out 1 = .ok (.iload_n 1, 1) := by decide +kernel
theorem dX12_out_2 : decode cX12_out 2 = .ok (.invokevirtual 446, 3) := by decide +kernel
theorem dX12_out_5 : decode cX12_out 5 = .ok (.ifCond .eq 15, 3) := by decide +kernel
theorem dX12_out_8 : decode cX12_out 8 = .ok (.iload_n 2, 1) := by decide +kernel
theorem dX12_out_9 : decode cX12_out 9 = .ok (.i2l, 1) := by decide +kernel
theorem dX12_out_10 : decode cX12_out 10 = .ok (.lconst 0, 1) := by decide +kernel
theorem dX12_out_11 : decode cX12_out 11 = .ok (.ldc2_w 458, 3) := by decide +kernel
theorem dX12_out_14 : decode cX12_out 14 = .ok (.invokestatic 238, 3) := by decide +kernel
theorem dX12_out_17 : decode cX12_out 17 = .ok (.ifCond .ne 5, 3) := by decide +kernel
theorem dX12_out_20 : decode cX12_out 20 = .ok (.iconst (-1), 1) := by decide +kernel
theorem dX12_out_21 : decode cX12_out 21 = .ok (.ireturn, 1) := by decide +kernel
theorem dX12_out_22 : decode cX12_out 22 = .ok (.aload_n 0, 1) := by decide +kernel
theorem dX12_out_23 : decode cX12_out 23 = .ok (.iload_n 1, 1) := by decide +kernel
theorem dX12_out_24 : decode cX12_out 24 = .ok (.invokevirtual 449, 3) := by decide +kernel
theorem dX12_out_27 : decode cX12_out 27 = .ok (.aload_n 0, 1) := by decide +kernel
theorem dX12_out_28 : decode cX12_out 28 = .ok (.iload_n 2, 1) := by decide +kernel
theorem dX12_out_29 : decode cX12_out 29 = .ok (.invokevirtual 460, 3) := by decide +kernel
theorem dX12_out_32 : decode cX12_out 32 = .ok (.ireturn, 1) := by decide +kernel
set_option maxRecDepth 20000 in
theorem bk_X12_out_0 {d : Nat} {w : hb_W} {Q : Option hb_V → hb_W → Prop} {x1 : Int32} {x2 : Int32} (h : hb_O yX12_isBook cX12_isBook 2 (some .boolean) d [hb_r 12 0 0, hb_i x1] w (fun rv w1 => hb_R yX12_out cX12_out 3 (some .int) (d + 1) 5 [some (hb_r 12 0 0), some (hb_i x1), some (hb_i x2)] (rv.toList ++ []) w1 Q)) : hb_R yX12_out cX12_out 3 (some .int) (d + 1) 0 [some (hb_r 12 0 0), some (hb_i x1), some (hb_i x2)] [] w Q := by
  refine hb_aload_n (pc := 0) (i := 0) dX12_out_0 rfl rfl ?_
  refine hb_iload_n (pc := 1) (i := 1) dX12_out_1 rfl rfl ?_
  exact hb_callV (pc := 2) (As := [hb_i x1]) (st := []) dX12_out_2 ml_X12_446 mf_X12_isBook mi_X12_isBook (ci := 12) rfl rfl (by decide) rfl rfl (Nat.le_of_ble_eq_true rfl) (Nat.le_of_ble_eq_true rfl) h (fun _ _ q => q)
set_option maxRecDepth 20000 in
theorem bk_X12_out_5 {d : Nat} {w : hb_W} {Q : Option hb_V → hb_W → Prop} {x1 : Int32} {x2 : Int32} {xs0 : Int32} (h : ((xs0 = 0) → Q (some (hb_i (-1 : Int32))) w) ∧ ((¬ xs0 = 0) → hb_O yX12_isIn cX12_isIn 6 (some .boolean) d [hb_l x2.toInt64, hb_l (0 : Int64), hb_l (5 : Int64)] w (fun rv w1 => hb_R yX12_out cX12_out 3 (some .int) (d + 1) 17 [some (hb_r 12 0 0), some (hb_i x1), some (hb_i x2)] (rv.toList ++ []) w1 Q))) : hb_R yX12_out cX12_out 3 (some .int) (d + 1) 5 [some (hb_r 12 0 0), some (hb_i x1), some (hb_i x2)] [hb_i xs0] w Q := by
  refine hb_if_eq (pc := 5) (tgt := 20) dX12_out_5 (by decide) (fun c1 => ?_) (fun c1 => ?_)
  · have ht1 := h.1 c1
    refine hb_iconst (pc := 20) (v := -1) dX12_out_20 (by decide) ?_
    exact hb_iret (pc := 21) dX12_out_21 rfl ht1
  · have ht1 := h.2 c1
    refine hb_iload_n (pc := 8) (i := 2) dX12_out_8 rfl rfl ?_
    refine hb_i2l (pc := 9) dX12_out_9 ?_
    refine hb_lconst (pc := 10) (v := 0) dX12_out_10 (by decide) ?_
    refine hb_ldc2 (pc := 11) (v := 5) dX12_out_11 kc_X12_458 ?_
    exact hb_callS (pc := 14) (As := [hb_l x2.toInt64, hb_l (0 : Int64), hb_l (5 : Int64)]) (st := []) dX12_out_14 ml_X12_238 mf_X12_isIn ms_X12_isIn rfl rfl (Nat.le_of_ble_eq_true rfl) (Nat.le_of_ble_eq_true rfl) ht1 (fun _ _ q => q)
set_option maxRecDepth 20000 in
theorem bk_X12_out_17 {d : Nat} {w : hb_W} {Q : Option hb_V → hb_W → Prop} {x1 : Int32} {x2 : Int32} {xs0 : Int32} (h : ((¬ xs0 = 0) → hb_O yX12_lays cX12_lays 2 none d [hb_r 12 0 0, hb_i x1] w (fun rv w1 => hb_R yX12_out cX12_out 3 (some .int) (d + 1) 27 [some (hb_r 12 0 0), some (hb_i x1), some (hb_i x2)] (rv.toList ++ []) w1 Q)) ∧ ((xs0 = 0) → Q (some (hb_i (-1 : Int32))) w)) : hb_R yX12_out cX12_out 3 (some .int) (d + 1) 17 [some (hb_r 12 0 0), some (hb_i x1), some (hb_i x2)] [hb_i xs0] w Q := by
  refine hb_if_ne (pc := 17) (tgt := 22) dX12_out_17 (by decide) (fun c1 => ?_) (fun c1 => ?_)
  · have ht1 := h.1 c1
    refine hb_aload_n (pc := 22) (i := 0) dX12_out_22 rfl rfl ?_
    refine hb_iload_n (pc := 23) (i := 1) dX12_out_23 rfl rfl ?_
    exact hb_callV (pc := 24) (As := [hb_i x1]) (st := []) dX12_out_24 ml_X12_449 mf_X12_lays mi_X12_lays (ci := 12) rfl rfl (by decide) rfl rfl (Nat.le_of_ble_eq_true rfl) (Nat.le_of_ble_eq_true rfl) ht1 (fun _ _ q => q)
  · have ht1 := h.2 c1
    refine hb_iconst (pc := 20) (v := -1) dX12_out_20 (by decide) ?_
    exact hb_iret (pc := 21) dX12_out_21 rfl ht1
set_option maxRecDepth 20000 in
theorem bk_X12_out_27 {d : Nat} {w : hb_W} {Q : Option hb_V → hb_W → Prop} {x1 : Int32} {x2 : Int32} (h : hb_O yX12_outBy cX12_outBy 2 (some .int) d [hb_r 12 0 0, hb_i x2] w (fun rv w1 => hb_R yX12_out cX12_out 3 (some .int) (d + 1) 32 [some (hb_r 12 0 0), some (hb_i x1), some (hb_i x2)] (rv.toList ++ []) w1 Q)) : hb_R yX12_out cX12_out 3 (some .int) (d + 1) 27 [some (hb_r 12 0 0), some (hb_i x1), some (hb_i x2)] [] w Q := by
  refine hb_aload_n (pc := 27) (i := 0) dX12_out_27 rfl rfl ?_
  refine hb_iload_n (pc := 28) (i := 2) dX12_out_28 rfl rfl ?_
  exact hb_callV (pc := 29) (As := [hb_i x2]) (st := []) dX12_out_29 ml_X12_460 mf_X12_outBy mi_X12_outBy (ci := 12) rfl rfl (by decide) rfl rfl (Nat.le_of_ble_eq_true rfl) (Nat.le_of_ble_eq_true rfl) h (fun _ _ q => q)
set_option maxRecDepth 20000 in
theorem bk_X12_out_32 {d : Nat} {w : hb_W} {Q : Option hb_V → hb_W → Prop} {x1 : Int32} {x2 : Int32} {xs0 : Int32} (h : Q (some (hb_i xs0)) w) : hb_R yX12_out cX12_out 3 (some .int) (d + 1) 32 [some (hb_r 12 0 0), some (hb_i x1), some (hb_i x2)] [hb_i xs0] w Q := by
  exact hb_iret (pc := 32) dX12_out_32 rfl h
theorem dX12_few_0 : decode cX12_few 0 = .ok (.aload_n 0, 1) := by decide +kernel
theorem dX12_few_1 : decode cX12_few 1 = .ok (.getfield 302, 3) := by decide +kernel
theorem dX12_few_4 : decode cX12_few 4 = .ok (.ifCond .eq 27, 3) := by decide +kernel
theorem dX12_few_7 : decode cX12_few 7 = .ok (.iload_n 1, 1) := by decide +kernel
theorem dX12_few_8 : decode cX12_few 8 = .ok (.i2l, 1) := by decide +kernel
theorem dX12_few_9 : decode cX12_few 9 = .ok (.lconst 0, 1) := by decide +kernel
theorem dX12_few_10 : decode cX12_few 10 = .ok (.ldc2_w 458, 3) := by decide +kernel
theorem dX12_few_13 : decode cX12_few 13 = .ok (.invokestatic 238, 3) := by decide +kernel
theorem dX12_few_16 : decode cX12_few 16 = .ok (.ifCond .eq 15, 3) := by decide +kernel
theorem dX12_few_19 : decode cX12_few 19 = .ok (.iload_n 2, 1) := by decide +kernel
theorem dX12_few_20 : decode cX12_few 20 = .ok (.i2l, 1) := by decide +kernel
theorem dX12_few_21 : decode cX12_few 21 = .ok (.lconst 0, 1) := by decide +kernel
theorem dX12_few_22 : decode cX12_few 22 = .ok (.ldc2_w 463, 3) := by decide +kernel
theorem dX12_few_25 : decode cX12_few 25 = .ok (.invokestatic 238, 3) := by decide +kernel
theorem dX12_few_28 : decode cX12_few 28 = .ok (.ifCond .ne 5, 3) := by decide +kernel
theorem dX12_few_31 : decode cX12_few 31 = .ok (.iconst (-1), 1) := by decide +kernel
theorem dX12_few_32 : decode cX12_few 32 = .ok (.ireturn, 1) := by decide +kernel
theorem dX12_few_33 : decode cX12_few 33 = .ok (.aload_n 0, 1) := by decide +kernel
theorem dX12_few_34 : decode cX12_few 34 = .ok (.aload_n 0, 1) := by decide +kernel
theorem dX12_few_35 : decode cX12_few 35 = .ok (.getfield 66, 3) := by decide +kernel
theorem dX12_few_38 : decode cX12_few 38 = .ok (.iconst 0, 1) := by decide +kernel
theorem dX12_few_39 : decode cX12_few 39 = .ok (.iaload, 1) := by decide +kernel
theorem dX12_few_40 : decode cX12_few 40 = .ok (.invokevirtual 390, 3) := by decide +kernel
theorem dX12_few_43 : decode cX12_few 43 = .ok (.iconst 1, 1) := by decide +kernel
theorem dX12_few_44 : decode cX12_few 44 = .ok (.istore_n 3, 1) := by decide +kernel
theorem dX12_few_45 : decode cX12_few 45 = .ok (.iload_n 3, 1) := by decide +kernel
theorem dX12_few_46 : decode cX12_few 46 = .ok (.bipush 9, 2) := by decide +kernel
theorem dX12_few_48 : decode cX12_few 48 = .ok (.if_icmp .gt 26, 3) := by decide +kernel
theorem dX12_few_51 : decode cX12_few 51 = .ok (.aload_n 0, 1) := by decide +kernel
theorem dX12_few_52 : decode cX12_few 52 = .ok (.iconst 2, 1) := by decide +kernel
theorem dX12_few_53 : decode cX12_few 53 = .ok (.iload_n 3, 1) := by decide +kernel
theorem dX12_few_54 : decode cX12_few 54 = .ok (.invokevirtual 393, 3) := by decide +kernel
theorem dX12_few_57 : decode cX12_few 57 = .ok (.aload_n 0, 1) := by decide +kernel
theorem dX12_few_58 : decode cX12_few 58 = .ok (.iload_n 1, 1) := by decide +kernel
theorem dX12_few_59 : decode cX12_few 59 = .ok (.invokevirtual 460, 3) := by decide +kernel
theorem dX12_few_62 : decode cX12_few 62 = .ok (.iload_n 2, 1) := by decide +kernel
theorem dX12_few_63 : decode cX12_few 63 = .ok (.if_icmp .gt 5, 3) := by decide +kernel
theorem dX12_few_66 : decode cX12_few 66 = .ok (.iload_n 3, 1) := by decide +kernel
theorem dX12_few_67 : decode cX12_few 67 = .ok (.ireturn, 1) := by decide +kernel
theorem dX12_few_68 : decode cX12_few 68 = .ok (.iinc 3 1, 3) := by decide +kernel
theorem dX12_few_71 : decode cX12_few 71 = .ok (.goto (-26), 3) := by decide +kernel
theorem dX12_few_74 : decode cX12_few 74 = .ok (.iconst (-1), 1) := by decide +kernel
theorem dX12_few_75 : decode cX12_few 75 = .ok (.ireturn, 1) := by decide +kernel
set_option maxRecDepth 20000 in
theorem bk_X12_few_0 {d : Nat} {w : hb_W} {Q : Option hb_V → hb_W → Prop} {x1 : Int32} {x2 : Int32} (h : (((hb_fI w 12 30 0) = 0) → Q (some (hb_i (-1 : Int32))) w) ∧ ((¬ (hb_fI w 12 30 0) = 0) → hb_O yX12_isIn cX12_isIn 6 (some .boolean) d [hb_l x1.toInt64, hb_l (0 : Int64), hb_l (5 : Int64)] w (fun rv w1 => hb_R yX12_few cX12_few 4 (some .int) (d + 1) 16 [some (hb_r 12 0 0), some (hb_i x1), some (hb_i x2), none] (rv.toList ++ []) w1 Q))) : hb_R yX12_few cX12_few 4 (some .int) (d + 1) 0 [some (hb_r 12 0 0), some (hb_i x1), some (hb_i x2), none] [] w Q := by
  refine hb_aload_n (pc := 0) (i := 0) dX12_few_0 rfl rfl ?_
  refine hb_getIx (pc := 1) (x := hb_fI w 12 30 0) dX12_few_1 fw_X12_302 cw_12 rfl (by decide) rfl rfl ?_
  refine hb_if_eq (pc := 4) (tgt := 31) dX12_few_4 (by decide) (fun c1 => ?_) (fun c1 => ?_)
  · have ht1 := h.1 c1
    refine hb_iconst (pc := 31) (v := -1) dX12_few_31 (by decide) ?_
    exact hb_iret (pc := 32) dX12_few_32 rfl ht1
  · have ht1 := h.2 c1
    refine hb_iload_n (pc := 7) (i := 1) dX12_few_7 rfl rfl ?_
    refine hb_i2l (pc := 8) dX12_few_8 ?_
    refine hb_lconst (pc := 9) (v := 0) dX12_few_9 (by decide) ?_
    refine hb_ldc2 (pc := 10) (v := 5) dX12_few_10 kc_X12_458 ?_
    exact hb_callS (pc := 13) (As := [hb_l x1.toInt64, hb_l (0 : Int64), hb_l (5 : Int64)]) (st := []) dX12_few_13 ml_X12_238 mf_X12_isIn ms_X12_isIn rfl rfl (Nat.le_of_ble_eq_true rfl) (Nat.le_of_ble_eq_true rfl) ht1 (fun _ _ q => q)
set_option maxRecDepth 20000 in
theorem bk_X12_few_16 {d : Nat} {w : hb_W} {Q : Option hb_V → hb_W → Prop} {x1 : Int32} {x2 : Int32} {xs0 : Int32} (h : ((xs0 = 0) → Q (some (hb_i (-1 : Int32))) w) ∧ ((¬ xs0 = 0) → hb_O yX12_isIn cX12_isIn 6 (some .boolean) d [hb_l x2.toInt64, hb_l (0 : Int64), hb_l (9999 : Int64)] w (fun rv w1 => hb_R yX12_few cX12_few 4 (some .int) (d + 1) 28 [some (hb_r 12 0 0), some (hb_i x1), some (hb_i x2), none] (rv.toList ++ []) w1 Q))) : hb_R yX12_few cX12_few 4 (some .int) (d + 1) 16 [some (hb_r 12 0 0), some (hb_i x1), some (hb_i x2), none] [hb_i xs0] w Q := by
  refine hb_if_eq (pc := 16) (tgt := 31) dX12_few_16 (by decide) (fun c1 => ?_) (fun c1 => ?_)
  · have ht1 := h.1 c1
    refine hb_iconst (pc := 31) (v := -1) dX12_few_31 (by decide) ?_
    exact hb_iret (pc := 32) dX12_few_32 rfl ht1
  · have ht1 := h.2 c1
    refine hb_iload_n (pc := 19) (i := 2) dX12_few_19 rfl rfl ?_
    refine hb_i2l (pc := 20) dX12_few_20 ?_
    refine hb_lconst (pc := 21) (v := 0) dX12_few_21 (by decide) ?_
    refine hb_ldc2 (pc := 22) (v := 9999) dX12_few_22 kc_X12_463 ?_
    exact hb_callS (pc := 25) (As := [hb_l x2.toInt64, hb_l (0 : Int64), hb_l (9999 : Int64)]) (st := []) dX12_few_25 ml_X12_238 mf_X12_isIn ms_X12_isIn rfl rfl (Nat.le_of_ble_eq_true rfl) (Nat.le_of_ble_eq_true rfl) ht1 (fun _ _ q => q)
set_option maxRecDepth 20000 in
theorem bk_X12_few_28 {d : Nat} {w : hb_W} {Q : Option hb_V → hb_W → Prop} {x1 : Int32} {x2 : Int32} {xs0 : Int32} (h : ((¬ xs0 = 0) → hb_O yX12_laysMarks cX12_laysMarks 4 none d [hb_r 12 0 0, hb_i (hb_aI w 12 18 0 (0 : Int32).toNatClampNeg)] w (fun rv w1 => hb_R yX12_few cX12_few 4 (some .int) (d + 1) 43 [some (hb_r 12 0 0), some (hb_i x1), some (hb_i x2), none] (rv.toList ++ []) w1 Q)) ∧ ((xs0 = 0) → Q (some (hb_i (-1 : Int32))) w)) : hb_R yX12_few cX12_few 4 (some .int) (d + 1) 28 [some (hb_r 12 0 0), some (hb_i x1), some (hb_i x2), none] [hb_i xs0] w Q := by
  refine hb_if_ne (pc := 28) (tgt := 33) dX12_few_28 (by decide) (fun c1 => ?_) (fun c1 => ?_)
  · have ht1 := h.1 c1
    refine hb_aload_n (pc := 33) (i := 0) dX12_few_33 rfl rfl ?_
    refine hb_aload_n (pc := 34) (i := 0) dX12_few_34 rfl rfl ?_
    refine hb_getR (pc := 35) (g1 := 0) dX12_few_35 fw_X12_66 cw_12 rfl (by decide) rfl (by decide) rfl ?_
    refine hb_iconst (pc := 38) (v := 0) dX12_few_38 (by decide) ?_
    refine hb_ialdx (pc := 39) (x := hb_aI w 12 18 0 (0 : Int32).toNatClampNeg) dX12_few_39 (n := 11) rfl (by decide) (by unfold vp_in; decide) rfl ?_
    exact hb_callV (pc := 40) (As := [hb_i (hb_aI w 12 18 0 (0 : Int32).toNatClampNeg)]) (st := []) dX12_few_40 ml_X12_390 mf_X12_laysMarks mi_X12_laysMarks (ci := 12) rfl rfl (by decide) rfl rfl (Nat.le_of_ble_eq_true rfl) (Nat.le_of_ble_eq_true rfl) ht1 (fun _ _ q => q)
  · have ht1 := h.2 c1
    refine hb_iconst (pc := 31) (v := -1) dX12_few_31 (by decide) ?_
    exact hb_iret (pc := 32) dX12_few_32 rfl ht1
set_option maxRecDepth 20000 in
theorem bk_X12_few_43 {d : Nat} {w : hb_W} {Q : Option hb_V → hb_W → Prop} {x1 : Int32} {x2 : Int32} (h : hb_R yX12_few cX12_few 4 (some .int) (d + 1) 45 [some (hb_r 12 0 0), some (hb_i x1), some (hb_i x2), some (hb_i (1 : Int32))] [] w Q) : hb_R yX12_few cX12_few 4 (some .int) (d + 1) 43 [some (hb_r 12 0 0), some (hb_i x1), some (hb_i x2), none] [] w Q := by
  refine hb_iconst (pc := 43) (v := 1) dX12_few_43 (by decide) ?_
  refine hb_istore_n (pc := 44) (i := 3) (ls1 := [some (hb_r 12 0 0), some (hb_i x1), some (hb_i x2), some (hb_i (1 : Int32))]) dX12_few_44 rfl (by decide) rfl ?_
  exact h
set_option maxRecDepth 20000 in
theorem bk_X12_few_45 {d : Nat} {w : hb_W} {Q : Option hb_V → hb_W → Prop} {x1 : Int32} {x2 : Int32} {x3 : Int32} (h : (((9 : Int32) < x3) → Q (some (hb_i (-1 : Int32))) w) ∧ ((¬ (9 : Int32) < x3) → hb_O yX12_laysBook cX12_laysBook 4 none d [hb_r 12 0 0, hb_i (2 : Int32), hb_i x3] w (fun rv w1 => hb_R yX12_few cX12_few 4 (some .int) (d + 1) 57 [some (hb_r 12 0 0), some (hb_i x1), some (hb_i x2), some (hb_i x3)] (rv.toList ++ []) w1 Q))) : hb_R yX12_few cX12_few 4 (some .int) (d + 1) 45 [some (hb_r 12 0 0), some (hb_i x1), some (hb_i x2), some (hb_i x3)] [] w Q := by
  refine hb_iload_n (pc := 45) (i := 3) dX12_few_45 rfl rfl ?_
  refine hb_bipush (pc := 46) (v := 9) dX12_few_46 (by decide) ?_
  refine hb_icmp_gt (pc := 48) (tgt := 74) dX12_few_48 (by decide) (fun c1 => ?_) (fun c1 => ?_)
  · have ht1 := h.1 c1
    refine hb_iconst (pc := 74) (v := -1) dX12_few_74 (by decide) ?_
    exact hb_iret (pc := 75) dX12_few_75 rfl ht1
  · have ht1 := h.2 c1
    refine hb_aload_n (pc := 51) (i := 0) dX12_few_51 rfl rfl ?_
    refine hb_iconst (pc := 52) (v := 2) dX12_few_52 (by decide) ?_
    refine hb_iload_n (pc := 53) (i := 3) dX12_few_53 rfl rfl ?_
    exact hb_callV (pc := 54) (As := [hb_i (2 : Int32), hb_i x3]) (st := []) dX12_few_54 ml_X12_393 mf_X12_laysBook mi_X12_laysBook (ci := 12) rfl rfl (by decide) rfl rfl (Nat.le_of_ble_eq_true rfl) (Nat.le_of_ble_eq_true rfl) ht1 (fun _ _ q => q)
set_option maxRecDepth 20000 in
theorem bk_X12_few_57 {d : Nat} {w : hb_W} {Q : Option hb_V → hb_W → Prop} {x1 : Int32} {x2 : Int32} {x3 : Int32} (h : hb_O yX12_outBy cX12_outBy 2 (some .int) d [hb_r 12 0 0, hb_i x1] w (fun rv w1 => hb_R yX12_few cX12_few 4 (some .int) (d + 1) 62 [some (hb_r 12 0 0), some (hb_i x1), some (hb_i x2), some (hb_i x3)] (rv.toList ++ []) w1 Q)) : hb_R yX12_few cX12_few 4 (some .int) (d + 1) 57 [some (hb_r 12 0 0), some (hb_i x1), some (hb_i x2), some (hb_i x3)] [] w Q := by
  refine hb_aload_n (pc := 57) (i := 0) dX12_few_57 rfl rfl ?_
  refine hb_iload_n (pc := 58) (i := 1) dX12_few_58 rfl rfl ?_
  exact hb_callV (pc := 59) (As := [hb_i x1]) (st := []) dX12_few_59 ml_X12_460 mf_X12_outBy mi_X12_outBy (ci := 12) rfl rfl (by decide) rfl rfl (Nat.le_of_ble_eq_true rfl) (Nat.le_of_ble_eq_true rfl) h (fun _ _ q => q)
set_option maxRecDepth 20000 in
theorem bk_X12_few_62 {d : Nat} {w : hb_W} {Q : Option hb_V → hb_W → Prop} {x1 : Int32} {x2 : Int32} {x3 : Int32} {xs0 : Int32} (h : ((x2 < xs0) → hb_R yX12_few cX12_few 4 (some .int) (d + 1) 45 [some (hb_r 12 0 0), some (hb_i x1), some (hb_i x2), some (hb_i (x3 + (1 : Int32)))] [] w Q) ∧ ((¬ x2 < xs0) → Q (some (hb_i x3)) w)) : hb_R yX12_few cX12_few 4 (some .int) (d + 1) 62 [some (hb_r 12 0 0), some (hb_i x1), some (hb_i x2), some (hb_i x3)] [hb_i xs0] w Q := by
  refine hb_iload_n (pc := 62) (i := 2) dX12_few_62 rfl rfl ?_
  refine hb_icmp_gt (pc := 63) (tgt := 68) dX12_few_63 (by decide) (fun c1 => ?_) (fun c1 => ?_)
  · have ht1 := h.1 c1
    refine hb_iinc (pc := 68) (v := x3 + (1 : Int32)) (ls1 := [some (hb_r 12 0 0), some (hb_i x1), some (hb_i x2), some (hb_i (x3 + (1 : Int32)))]) dX12_few_68 rfl rfl (by decide) rfl ?_
    refine hb_goto (pc := 71) (tgt := 45) dX12_few_71 (by decide) ?_
    exact ht1
  · have ht1 := h.2 c1
    refine hb_iload_n (pc := 66) (i := 3) dX12_few_66 rfl rfl ?_
    exact hb_iret (pc := 67) dX12_few_67 rfl ht1
theorem dX12_best_0 : decode cX12_best 0 = .ok (.aload_n 0, 1) := by decide +kernel
theorem dX12_best_1 : decode cX12_best 1 = .ok (.getfield 302, 3) := by decide +kernel
theorem dX12_best_4 : decode cX12_best 4 = .ok (.ifCond .eq 30, 3) := by decide +kernel
theorem dX12_best_7 : decode cX12_best 7 = .ok (.iload_n 1, 1) := by decide +kernel
theorem dX12_best_8 : decode cX12_best 8 = .ok (.i2l, 1) := by decide +kernel
theorem dX12_best_9 : decode cX12_best 9 = .ok (.lconst 0, 1) := by decide +kernel
theorem dX12_best_10 : decode cX12_best 10 = .ok (.ldc2_w 458, 3) := by decide +kernel
theorem dX12_best_13 : decode cX12_best 13 = .ok (.invokestatic 238, 3) := by decide +kernel
theorem dX12_best_16 : decode cX12_best 16 = .ok (.ifCond .eq 18, 3) := by decide +kernel
theorem dX12_best_19 : decode cX12_best 19 = .ok (.iload_n 1, 1) := by decide +kernel
theorem dX12_best_20 : decode cX12_best 20 = .ok (.iconst 4, 1) := by decide +kernel
theorem dX12_best_21 : decode cX12_best 21 = .ok (.if_icmp .eq 13, 3) := by decide +kernel
theorem dX12_best_24 : decode cX12_best 24 = .ok (.iload_n 2, 1) := by decide +kernel
theorem dX12_best_25 : decode cX12_best 25 = .ok (.i2l, 1) := by decide +kernel
theorem dX12_best_26 : decode cX12_best 26 = .ok (.lconst 0, 1) := by decide +kernel
theorem dX12_best_27 : decode cX12_best 27 = .ok (.lconst 1, 1) := by decide +kernel
theorem dX12_best_28 : decode cX12_best 28 = .ok (.invokestatic 238, 3) := by decide +kernel
theorem dX12_best_31 : decode cX12_best 31 = .ok (.ifCond .ne 5, 3) := by decide +kernel
theorem dX12_best_34 : decode cX12_best 34 = .ok (.iconst (-1), 1) := by decide +kernel
theorem dX12_best_35 : decode cX12_best 35 = .ok (.ireturn, 1) := by decide +kernel
theorem dX12_best_36 : decode cX12_best 36 = .ok (.iconst (-1), 1) := by decide +kernel
theorem dX12_best_37 : decode cX12_best 37 = .ok (.istore_n 3, 1) := by decide +kernel
theorem dX12_best_38 : decode cX12_best 38 = .ok (.iconst 0, 1) := by decide +kernel
theorem dX12_best_39 : decode cX12_best 39 = .ok (.istore 4, 2) := by decide +kernel
theorem dX12_best_41 : decode cX12_best 41 = .ok (.iconst 0, 1) := by decide +kernel
theorem dX12_best_42 : decode cX12_best 42 = .ok (.istore 5, 2) := by decide +kernel
theorem dX12_best_44 : decode cX12_best 44 = .ok (.iload 5, 2) := by decide +kernel
theorem dX12_best_46 : decode cX12_best 46 = .ok (.bipush 99, 2) := by decide +kernel
theorem dX12_best_48 : decode cX12_best 48 = .ok (.if_icmp .gt 55, 3) := by decide +kernel
theorem dX12_best_51 : decode cX12_best 51 = .ok (.aload_n 0, 1) := by decide +kernel
theorem dX12_best_52 : decode cX12_best 52 = .ok (.iload 5, 2) := by decide +kernel
theorem dX12_best_54 : decode cX12_best 54 = .ok (.invokevirtual 390, 3) := by decide +kernel
theorem dX12_best_57 : decode cX12_best 57 = .ok (.aload_n 0, 1) := by decide +kernel
theorem dX12_best_58 : decode cX12_best 58 = .ok (.iconst 2, 1) := by decide +kernel
theorem dX12_best_59 : decode cX12_best 59 = .ok (.aload_n 0, 1) := by decide +kernel
theorem dX12_best_60 : decode cX12_best 60 = .ok (.getfield 51, 3) := by decide +kernel
theorem dX12_best_63 : decode cX12_best 63 = .ok (.iconst 2, 1) := by decide +kernel
theorem dX12_best_64 : decode cX12_best 64 = .ok (.iaload, 1) := by decide +kernel
theorem dX12_best_65 : decode cX12_best 65 = .ok (.invokevirtual 393, 3) := by decide +kernel
theorem dX12_best_68 : decode cX12_best 68 = .ok (.aload_n 0, 1) := by decide +kernel
theorem dX12_best_69 : decode cX12_best 69 = .ok (.iload_n 1, 1) := by decide +kernel
theorem dX12_best_70 : decode cX12_best 70 = .ok (.invokevirtual 460, 3) := by decide +kernel
theorem dX12_best_73 : decode cX12_best 73 = .ok (.istore 6, 2) := by decide +kernel
theorem dX12_best_75 : decode cX12_best 75 = .ok (.iload_n 3, 1) := by decide +kernel
theorem dX12_best_76 : decode cX12_best 76 = .ok (.iconst (-1), 1) := by decide +kernel
theorem dX12_best_77 : decode cX12_best 77 = .ok (.if_icmp .eq 13, 3) := by decide +kernel
theorem dX12_best_80 : decode cX12_best 80 = .ok (.iload 6, 2) := by decide +kernel
theorem dX12_best_82 : decode cX12_best 82 = .ok (.iload 4, 2) := by decide +kernel
theorem dX12_best_84 : decode cX12_best 84 = .ok (.if_icmp .lt 6, 3) := by decide +kernel
theorem dX12_best_87 : decode cX12_best 87 = .ok (.goto 10, 3) := by decide +kernel
theorem dX12_best_90 : decode cX12_best 90 = .ok (.iload 5, 2) := by decide +kernel
theorem dX12_best_92 : decode cX12_best 92 = .ok (.istore_n 3, 1) := by decide +kernel
theorem dX12_best_93 : decode cX12_best 93 = .ok (.iload 6, 2) := by decide +kernel
theorem dX12_best_95 : decode cX12_best 95 = .ok (.istore 4, 2) := by decide +kernel
theorem dX12_best_97 : decode cX12_best 97 = .ok (.iinc 5 1, 3) := by decide +kernel
theorem dX12_best_100 : decode cX12_best 100 = .ok (.goto (-56), 3) := by decide +kernel
theorem dX12_best_103 : decode cX12_best 103 = .ok (.iload_n 2, 1) := by decide +kernel
theorem dX12_best_104 : decode cX12_best 104 = .ok (.ifCond .ne 7, 3) := by decide +kernel
theorem dX12_best_107 : decode cX12_best 107 = .ok (.iload_n 3, 1) := by decide +kernel
theorem dX12_best_108 : decode cX12_best 108 = .ok (.goto 5, 3) := by decide +kernel
theorem dX12_best_111 : decode cX12_best 111 = .ok (.iload 4, 2) := by decide +kernel
theorem dX12_best_113 : decode cX12_best 113 = .ok (.ireturn, 1) := by decide +kernel
set_option maxRecDepth 20000 in
theorem bk_X12_best_0 {d : Nat} {w : hb_W} {Q : Option hb_V → hb_W → Prop} {x1 : Int32} {x2 : Int32} (h : (((hb_fI w 12 30 0) = 0) → Q (some (hb_i (-1 : Int32))) w) ∧ ((¬ (hb_fI w 12 30 0) = 0) → hb_O yX12_isIn cX12_isIn 6 (some .boolean) d [hb_l x1.toInt64, hb_l (0 : Int64), hb_l (5 : Int64)] w (fun rv w1 => hb_R yX12_best cX12_best 7 (some .int) (d + 1) 16 [some (hb_r 12 0 0), some (hb_i x1), some (hb_i x2), none, none, none, none] (rv.toList ++ []) w1 Q))) : hb_R yX12_best cX12_best 7 (some .int) (d + 1) 0 [some (hb_r 12 0 0), some (hb_i x1), some (hb_i x2), none, none, none, none] [] w Q := by
  refine hb_aload_n (pc := 0) (i := 0) dX12_best_0 rfl rfl ?_
  refine hb_getIx (pc := 1) (x := hb_fI w 12 30 0) dX12_best_1 fw_X12_302 cw_12 rfl (by decide) rfl rfl ?_
  refine hb_if_eq (pc := 4) (tgt := 34) dX12_best_4 (by decide) (fun c1 => ?_) (fun c1 => ?_)
  · have ht1 := h.1 c1
    refine hb_iconst (pc := 34) (v := -1) dX12_best_34 (by decide) ?_
    exact hb_iret (pc := 35) dX12_best_35 rfl ht1
  · have ht1 := h.2 c1
    refine hb_iload_n (pc := 7) (i := 1) dX12_best_7 rfl rfl ?_
    refine hb_i2l (pc := 8) dX12_best_8 ?_
    refine hb_lconst (pc := 9) (v := 0) dX12_best_9 (by decide) ?_
    refine hb_ldc2 (pc := 10) (v := 5) dX12_best_10 kc_X12_458 ?_
    exact hb_callS (pc := 13) (As := [hb_l x1.toInt64, hb_l (0 : Int64), hb_l (5 : Int64)]) (st := []) dX12_best_13 ml_X12_238 mf_X12_isIn ms_X12_isIn rfl rfl (Nat.le_of_ble_eq_true rfl) (Nat.le_of_ble_eq_true rfl) ht1 (fun _ _ q => q)
set_option maxRecDepth 20000 in
theorem bk_X12_best_16 {d : Nat} {w : hb_W} {Q : Option hb_V → hb_W → Prop} {x1 : Int32} {x2 : Int32} {xs0 : Int32} (h : ((xs0 = 0) → Q (some (hb_i (-1 : Int32))) w) ∧ ((¬ xs0 = 0) → ((x1 = (4 : Int32)) → Q (some (hb_i (-1 : Int32))) w) ∧ ((¬ x1 = (4 : Int32)) → hb_O yX12_isIn cX12_isIn 6 (some .boolean) d [hb_l x2.toInt64, hb_l (0 : Int64), hb_l (1 : Int64)] w (fun rv w1 => hb_R yX12_best cX12_best 7 (some .int) (d + 1) 31 [some (hb_r 12 0 0), some (hb_i x1), some (hb_i x2), none, none, none, none] (rv.toList ++ []) w1 Q)))) : hb_R yX12_best cX12_best 7 (some .int) (d + 1) 16 [some (hb_r 12 0 0), some (hb_i x1), some (hb_i x2), none, none, none, none] [hb_i xs0] w Q := by
  refine hb_if_eq (pc := 16) (tgt := 34) dX12_best_16 (by decide) (fun c1 => ?_) (fun c1 => ?_)
  · have ht1 := h.1 c1
    refine hb_iconst (pc := 34) (v := -1) dX12_best_34 (by decide) ?_
    exact hb_iret (pc := 35) dX12_best_35 rfl ht1
  · have ht1 := h.2 c1
    refine hb_iload_n (pc := 19) (i := 1) dX12_best_19 rfl rfl ?_
    refine hb_iconst (pc := 20) (v := 4) dX12_best_20 (by decide) ?_
    refine hb_icmp_eq (pc := 21) (tgt := 34) dX12_best_21 (by decide) (fun c2 => ?_) (fun c2 => ?_)
    · have ht2 := ht1.1 c2
      refine hb_iconst (pc := 34) (v := -1) dX12_best_34 (by decide) ?_
      exact hb_iret (pc := 35) dX12_best_35 rfl ht2
    · have ht2 := ht1.2 c2
      refine hb_iload_n (pc := 24) (i := 2) dX12_best_24 rfl rfl ?_
      refine hb_i2l (pc := 25) dX12_best_25 ?_
      refine hb_lconst (pc := 26) (v := 0) dX12_best_26 (by decide) ?_
      refine hb_lconst (pc := 27) (v := 1) dX12_best_27 (by decide) ?_
      exact hb_callS (pc := 28) (As := [hb_l x2.toInt64, hb_l (0 : Int64), hb_l (1 : Int64)]) (st := []) dX12_best_28 ml_X12_238 mf_X12_isIn ms_X12_isIn rfl rfl (Nat.le_of_ble_eq_true rfl) (Nat.le_of_ble_eq_true rfl) ht2 (fun _ _ q => q)
set_option maxRecDepth 20000 in
theorem bk_X12_best_31 {d : Nat} {w : hb_W} {Q : Option hb_V → hb_W → Prop} {x1 : Int32} {x2 : Int32} {xs0 : Int32} (h : ((¬ xs0 = 0) → hb_R yX12_best cX12_best 7 (some .int) (d + 1) 44 [some (hb_r 12 0 0), some (hb_i x1), some (hb_i x2), some (hb_i (-1 : Int32)), some (hb_i (0 : Int32)), some (hb_i (0 : Int32)), none] [] w Q) ∧ ((xs0 = 0) → Q (some (hb_i (-1 : Int32))) w)) : hb_R yX12_best cX12_best 7 (some .int) (d + 1) 31 [some (hb_r 12 0 0), some (hb_i x1), some (hb_i x2), none, none, none, none] [hb_i xs0] w Q := by
  refine hb_if_ne (pc := 31) (tgt := 36) dX12_best_31 (by decide) (fun c1 => ?_) (fun c1 => ?_)
  · have ht1 := h.1 c1
    refine hb_iconst (pc := 36) (v := -1) dX12_best_36 (by decide) ?_
    refine hb_istore_n (pc := 37) (i := 3) (ls1 := [some (hb_r 12 0 0), some (hb_i x1), some (hb_i x2), some (hb_i (-1 : Int32)), none, none, none]) dX12_best_37 rfl (by decide) rfl ?_
    refine hb_iconst (pc := 38) (v := 0) dX12_best_38 (by decide) ?_
    refine hb_istore (pc := 39) (i := 4) (ls1 := [some (hb_r 12 0 0), some (hb_i x1), some (hb_i x2), some (hb_i (-1 : Int32)), some (hb_i (0 : Int32)), none, none]) dX12_best_39 (by decide) rfl ?_
    refine hb_iconst (pc := 41) (v := 0) dX12_best_41 (by decide) ?_
    refine hb_istore (pc := 42) (i := 5) (ls1 := [some (hb_r 12 0 0), some (hb_i x1), some (hb_i x2), some (hb_i (-1 : Int32)), some (hb_i (0 : Int32)), some (hb_i (0 : Int32)), none]) dX12_best_42 (by decide) rfl ?_
    exact ht1
  · have ht1 := h.2 c1
    refine hb_iconst (pc := 34) (v := -1) dX12_best_34 (by decide) ?_
    exact hb_iret (pc := 35) dX12_best_35 rfl ht1
set_option maxRecDepth 20000 in
theorem bk_X12_best_44 {d : Nat} {w : hb_W} {Q : Option hb_V → hb_W → Prop} {x1 : Int32} {x2 : Int32} {x3 : Int32} {x4 : Int32} {x5 : Int32} (h : (((99 : Int32) < x5) → ((¬ x2 = 0) → Q (some (hb_i x4)) w) ∧ ((x2 = 0) → Q (some (hb_i x3)) w)) ∧ ((¬ (99 : Int32) < x5) → hb_O yX12_laysMarks cX12_laysMarks 4 none d [hb_r 12 0 0, hb_i x5] w (fun rv w1 => hb_R yX12_best cX12_best 7 (some .int) (d + 1) 57 [some (hb_r 12 0 0), some (hb_i x1), some (hb_i x2), some (hb_i x3), some (hb_i x4), some (hb_i x5), none] (rv.toList ++ []) w1 Q))) : hb_R yX12_best cX12_best 7 (some .int) (d + 1) 44 [some (hb_r 12 0 0), some (hb_i x1), some (hb_i x2), some (hb_i x3), some (hb_i x4), some (hb_i x5), none] [] w Q := by
  refine hb_iload (pc := 44) dX12_best_44 rfl ?_
  refine hb_bipush (pc := 46) (v := 99) dX12_best_46 (by decide) ?_
  refine hb_icmp_gt (pc := 48) (tgt := 103) dX12_best_48 (by decide) (fun c1 => ?_) (fun c1 => ?_)
  · have ht1 := h.1 c1
    refine hb_iload_n (pc := 103) (i := 2) dX12_best_103 rfl rfl ?_
    refine hb_if_ne (pc := 104) (tgt := 111) dX12_best_104 (by decide) (fun c2 => ?_) (fun c2 => ?_)
    · have ht2 := ht1.1 c2
      refine hb_iload (pc := 111) dX12_best_111 rfl ?_
      exact hb_iret (pc := 113) dX12_best_113 rfl ht2
    · have ht2 := ht1.2 c2
      refine hb_iload_n (pc := 107) (i := 3) dX12_best_107 rfl rfl ?_
      refine hb_goto (pc := 108) (tgt := 113) dX12_best_108 (by decide) ?_
      exact hb_iret (pc := 113) dX12_best_113 rfl ht2
  · have ht1 := h.2 c1
    refine hb_aload_n (pc := 51) (i := 0) dX12_best_51 rfl rfl ?_
    refine hb_iload (pc := 52) dX12_best_52 rfl ?_
    exact hb_callV (pc := 54) (As := [hb_i x5]) (st := []) dX12_best_54 ml_X12_390 mf_X12_laysMarks mi_X12_laysMarks (ci := 12) rfl rfl (by decide) rfl rfl (Nat.le_of_ble_eq_true rfl) (Nat.le_of_ble_eq_true rfl) ht1 (fun _ _ q => q)
set_option maxRecDepth 20000 in
theorem bk_X12_best_57 {d : Nat} {w : hb_W} {Q : Option hb_V → hb_W → Prop} {x1 : Int32} {x2 : Int32} {x3 : Int32} {x4 : Int32} {x5 : Int32} (h : hb_O yX12_laysBook cX12_laysBook 4 none d [hb_r 12 0 0, hb_i (2 : Int32), hb_i (hb_aI w 12 13 0 (2 : Int32).toNatClampNeg)] w (fun rv w1 => hb_R yX12_best cX12_best 7 (some .int) (d + 1) 68 [some (hb_r 12 0 0), some (hb_i x1), some (hb_i x2), some (hb_i x3), some (hb_i x4), some (hb_i x5), none] (rv.toList ++ []) w1 Q)) : hb_R yX12_best cX12_best 7 (some .int) (d + 1) 57 [some (hb_r 12 0 0), some (hb_i x1), some (hb_i x2), some (hb_i x3), some (hb_i x4), some (hb_i x5), none] [] w Q := by
  refine hb_aload_n (pc := 57) (i := 0) dX12_best_57 rfl rfl ?_
  refine hb_iconst (pc := 58) (v := 2) dX12_best_58 (by decide) ?_
  refine hb_aload_n (pc := 59) (i := 0) dX12_best_59 rfl rfl ?_
  refine hb_getR (pc := 60) (g1 := 0) dX12_best_60 fw_X12_51 cw_12 rfl (by decide) rfl (by decide) rfl ?_
  refine hb_iconst (pc := 63) (v := 2) dX12_best_63 (by decide) ?_
  refine hb_ialdx (pc := 64) (x := hb_aI w 12 13 0 (2 : Int32).toNatClampNeg) dX12_best_64 (n := 6) rfl (by decide) (by unfold vp_in; decide) rfl ?_
  exact hb_callV (pc := 65) (As := [hb_i (2 : Int32), hb_i (hb_aI w 12 13 0 (2 : Int32).toNatClampNeg)]) (st := []) dX12_best_65 ml_X12_393 mf_X12_laysBook mi_X12_laysBook (ci := 12) rfl rfl (by decide) rfl rfl (Nat.le_of_ble_eq_true rfl) (Nat.le_of_ble_eq_true rfl) h (fun _ _ q => q)
set_option maxRecDepth 20000 in
theorem bk_X12_best_68 {d : Nat} {w : hb_W} {Q : Option hb_V → hb_W → Prop} {x1 : Int32} {x2 : Int32} {x3 : Int32} {x4 : Int32} {x5 : Int32} (h : hb_O yX12_outBy cX12_outBy 2 (some .int) d [hb_r 12 0 0, hb_i x1] w (fun rv w1 => hb_R yX12_best cX12_best 7 (some .int) (d + 1) 73 [some (hb_r 12 0 0), some (hb_i x1), some (hb_i x2), some (hb_i x3), some (hb_i x4), some (hb_i x5), none] (rv.toList ++ []) w1 Q)) : hb_R yX12_best cX12_best 7 (some .int) (d + 1) 68 [some (hb_r 12 0 0), some (hb_i x1), some (hb_i x2), some (hb_i x3), some (hb_i x4), some (hb_i x5), none] [] w Q := by
  refine hb_aload_n (pc := 68) (i := 0) dX12_best_68 rfl rfl ?_
  refine hb_iload_n (pc := 69) (i := 1) dX12_best_69 rfl rfl ?_
  exact hb_callV (pc := 70) (As := [hb_i x1]) (st := []) dX12_best_70 ml_X12_460 mf_X12_outBy mi_X12_outBy (ci := 12) rfl rfl (by decide) rfl rfl (Nat.le_of_ble_eq_true rfl) (Nat.le_of_ble_eq_true rfl) h (fun _ _ q => q)
set_option maxRecDepth 20000 in
theorem bk_X12_best_73 {d : Nat} {w : hb_W} {Q : Option hb_V → hb_W → Prop} {x1 : Int32} {x2 : Int32} {x3 : Int32} {x4 : Int32} {x5 : Int32} {xs0 : Int32} (h : ((x3 = (-1 : Int32)) → hb_R yX12_best cX12_best 7 (some .int) (d + 1) 44 [some (hb_r 12 0 0), some (hb_i x1), some (hb_i x2), some (hb_i x5), some (hb_i xs0), some (hb_i (x5 + (1 : Int32))), some (hb_i xs0)] [] w Q) ∧ ((¬ x3 = (-1 : Int32)) → ((xs0 < x4) → hb_R yX12_best cX12_best 7 (some .int) (d + 1) 44 [some (hb_r 12 0 0), some (hb_i x1), some (hb_i x2), some (hb_i x5), some (hb_i xs0), some (hb_i (x5 + (1 : Int32))), some (hb_i xs0)] [] w Q) ∧ ((¬ xs0 < x4) → hb_R yX12_best cX12_best 7 (some .int) (d + 1) 44 [some (hb_r 12 0 0), some (hb_i x1), some (hb_i x2), some (hb_i x3), some (hb_i x4), some (hb_i (x5 + (1 : Int32))), some (hb_i xs0)] [] w Q))) : hb_R yX12_best cX12_best 7 (some .int) (d + 1) 73 [some (hb_r 12 0 0), some (hb_i x1), some (hb_i x2), some (hb_i x3), some (hb_i x4), some (hb_i x5), none] [hb_i xs0] w Q := by
  refine hb_istore (pc := 73) (i := 6) (ls1 := [some (hb_r 12 0 0), some (hb_i x1), some (hb_i x2), some (hb_i x3), some (hb_i x4), some (hb_i x5), some (hb_i xs0)]) dX12_best_73 (by decide) rfl ?_
  refine hb_iload_n (pc := 75) (i := 3) dX12_best_75 rfl rfl ?_
  refine hb_iconst (pc := 76) (v := -1) dX12_best_76 (by decide) ?_
  refine hb_icmp_eq (pc := 77) (tgt := 90) dX12_best_77 (by decide) (fun c1 => ?_) (fun c1 => ?_)
  · have ht1 := h.1 c1
    refine hb_iload (pc := 90) dX12_best_90 rfl ?_
    refine hb_istore_n (pc := 92) (i := 3) (ls1 := [some (hb_r 12 0 0), some (hb_i x1), some (hb_i x2), some (hb_i x5), some (hb_i x4), some (hb_i x5), some (hb_i xs0)]) dX12_best_92 rfl (by decide) rfl ?_
    refine hb_iload (pc := 93) dX12_best_93 rfl ?_
    refine hb_istore (pc := 95) (i := 4) (ls1 := [some (hb_r 12 0 0), some (hb_i x1), some (hb_i x2), some (hb_i x5), some (hb_i xs0), some (hb_i x5), some (hb_i xs0)]) dX12_best_95 (by decide) rfl ?_
    refine hb_iinc (pc := 97) (v := x5 + (1 : Int32)) (ls1 := [some (hb_r 12 0 0), some (hb_i x1), some (hb_i x2), some (hb_i x5), some (hb_i xs0), some (hb_i (x5 + (1 : Int32))), some (hb_i xs0)]) dX12_best_97 rfl rfl (by decide) rfl ?_
    refine hb_goto (pc := 100) (tgt := 44) dX12_best_100 (by decide) ?_
    exact ht1
  · have ht1 := h.2 c1
    refine hb_iload (pc := 80) dX12_best_80 rfl ?_
    refine hb_iload (pc := 82) dX12_best_82 rfl ?_
    refine hb_icmp_lt (pc := 84) (tgt := 90) dX12_best_84 (by decide) (fun c2 => ?_) (fun c2 => ?_)
    · have ht2 := ht1.1 c2
      refine hb_iload (pc := 90) dX12_best_90 rfl ?_
      refine hb_istore_n (pc := 92) (i := 3) (ls1 := [some (hb_r 12 0 0), some (hb_i x1), some (hb_i x2), some (hb_i x5), some (hb_i x4), some (hb_i x5), some (hb_i xs0)]) dX12_best_92 rfl (by decide) rfl ?_
      refine hb_iload (pc := 93) dX12_best_93 rfl ?_
      refine hb_istore (pc := 95) (i := 4) (ls1 := [some (hb_r 12 0 0), some (hb_i x1), some (hb_i x2), some (hb_i x5), some (hb_i xs0), some (hb_i x5), some (hb_i xs0)]) dX12_best_95 (by decide) rfl ?_
      refine hb_iinc (pc := 97) (v := x5 + (1 : Int32)) (ls1 := [some (hb_r 12 0 0), some (hb_i x1), some (hb_i x2), some (hb_i x5), some (hb_i xs0), some (hb_i (x5 + (1 : Int32))), some (hb_i xs0)]) dX12_best_97 rfl rfl (by decide) rfl ?_
      refine hb_goto (pc := 100) (tgt := 44) dX12_best_100 (by decide) ?_
      exact ht2
    · have ht2 := ht1.2 c2
      refine hb_goto (pc := 87) (tgt := 97) dX12_best_87 (by decide) ?_
      refine hb_iinc (pc := 97) (v := x5 + (1 : Int32)) (ls1 := [some (hb_r 12 0 0), some (hb_i x1), some (hb_i x2), some (hb_i x3), some (hb_i x4), some (hb_i (x5 + (1 : Int32))), some (hb_i xs0)]) dX12_best_97 rfl rfl (by decide) rfl ?_
      refine hb_goto (pc := 100) (tgt := 44) dX12_best_100 (by decide) ?_
      exact ht2
theorem dX12_wouldGo_0 : decode cX12_wouldGo 0 = .ok (.iconst 3, 1) := by decide +kernel
theorem dX12_wouldGo_1 : decode cX12_wouldGo 1 = .ok (.aload_n 0, 1) := by decide +kernel
theorem dX12_wouldGo_2 : decode cX12_wouldGo 2 = .ok (.getfield 66, 3) := by decide +kernel
theorem dX12_wouldGo_5 : decode cX12_wouldGo 5 = .ok (.iconst 1, 1) := by decide +kernel
theorem dX12_wouldGo_6 : decode cX12_wouldGo 6 = .ok (.iaload, 1) := by decide +kernel
theorem dX12_wouldGo_7 : decode cX12_wouldGo 7 = .ok (.imul, 1) := by decide +kernel
theorem dX12_wouldGo_8 : decode cX12_wouldGo 8 = .ok (.istore 4, 2) := by decide +kernel
theorem dX12_wouldGo_10 : decode cX12_wouldGo 10 = .ok (.aload_n 0, 1) := by decide +kernel
theorem dX12_wouldGo_11 : decode cX12_wouldGo 11 = .ok (.getfield 69, 3) := by decide +kernel
theorem dX12_wouldGo_14 : decode cX12_wouldGo 14 = .ok (.iload 4, 2) := by decide +kernel
theorem dX12_wouldGo_16 : decode cX12_wouldGo 16 = .ok (.iload_n 1, 1) := by decide +kernel
theorem dX12_wouldGo_17 : decode cX12_wouldGo 17 = .ok (.iastore, 1) := by decide +kernel
theorem dX12_wouldGo_18 : decode cX12_wouldGo 18 = .ok (.aload_n 0, 1) := by decide +kernel
theorem dX12_wouldGo_19 : decode cX12_wouldGo 19 = .ok (.getfield 69, 3) := by decide +kernel
theorem dX12_wouldGo_22 : decode cX12_wouldGo 22 = .ok (.iload 4, 2) := by decide +kernel
theorem dX12_wouldGo_24 : decode cX12_wouldGo 24 = .ok (.iconst 1, 1) := by decide +kernel
theorem dX12_wouldGo_25 : decode cX12_wouldGo 25 = .ok (.iadd, 1) := by decide +kernel
theorem dX12_wouldGo_26 : decode cX12_wouldGo 26 = .ok (.iload_n 2, 1) := by decide +kernel
theorem dX12_wouldGo_27 : decode cX12_wouldGo 27 = .ok (.iastore, 1) := by decide +kernel
theorem dX12_wouldGo_28 : decode cX12_wouldGo 28 = .ok (.aload_n 0, 1) := by decide +kernel
theorem dX12_wouldGo_29 : decode cX12_wouldGo 29 = .ok (.getfield 69, 3) := by decide +kernel
theorem dX12_wouldGo_32 : decode cX12_wouldGo 32 = .ok (.iload 4, 2) := by decide +kernel
theorem dX12_wouldGo_34 : decode cX12_wouldGo 34 = .ok (.iconst 2, 1) := by decide +kernel
theorem dX12_wouldGo_35 : decode cX12_wouldGo 35 = .ok (.iadd, 1) := by decide +kernel
theorem dX12_wouldGo_36 : decode cX12_wouldGo 36 = .ok (.iload_n 3, 1) := by decide +kernel
theorem dX12_wouldGo_37 : decode cX12_wouldGo 37 = .ok (.iastore, 1) := by decide +kernel
theorem dX12_wouldGo_38 : decode cX12_wouldGo 38 = .ok (.aload_n 0, 1) := by decide +kernel
theorem dX12_wouldGo_39 : decode cX12_wouldGo 39 = .ok (.getfield 66, 3) := by decide +kernel
theorem dX12_wouldGo_42 : decode cX12_wouldGo 42 = .ok (.iconst 1, 1) := by decide +kernel
theorem dX12_wouldGo_43 : decode cX12_wouldGo 43 = .ok (.dup2, 1) := by decide +kernel
theorem dX12_wouldGo_44 : decode cX12_wouldGo 44 = .ok (.iaload, 1) := by decide +kernel
theorem dX12_wouldGo_45 : decode cX12_wouldGo 45 = .ok (.iconst 1, 1) := by decide +kernel
theorem dX12_wouldGo_46 : decode cX12_wouldGo 46 = .ok (.iadd, 1) := by decide +kernel
theorem dX12_wouldGo_47 : decode cX12_wouldGo 47 = .ok (.iastore, 1) := by decide +kernel
theorem dX12_wouldGo_48 : decode cX12_wouldGo 48 = .ok (.return_, 1) := by decide +kernel
set_option maxRecDepth 20000 in
theorem bk_X12_wouldGo_0 {d : Nat} {w : hb_W} {Q : Option hb_V → hb_W → Prop} {x1 : Int32} {x2 : Int32} {x3 : Int32} (h : vp_in ((3 : Int32) * (hb_aI w 12 18 0 (1 : Int32).toNatClampNeg)) 1203 ∧ (vp_in (((3 : Int32) * (hb_aI w 12 18 0 (1 : Int32).toNatClampNeg)) + (1 : Int32)) 1203 ∧ (vp_in (((3 : Int32) * (hb_aI w 12 18 0 (1 : Int32).toNatClampNeg)) + (2 : Int32)) 1203 ∧ (Q none (hb_sI (hb_sI (hb_sI (hb_sI w 12 19 0 (upd (hb_aI w 12 19 0) ((3 : Int32) * (hb_aI w 12 18 0 (1 : Int32).toNatClampNeg)).toNatClampNeg x1)) 12 19 0 (upd (upd (hb_aI w 12 19 0) ((3 : Int32) * (hb_aI w 12 18 0 (1 : Int32).toNatClampNeg)).toNatClampNeg x1) (((3 : Int32) * (hb_aI w 12 18 0 (1 : Int32).toNatClampNeg)) + (1 : Int32)).toNatClampNeg x2)) 12 19 0 (upd (upd (upd (hb_aI w 12 19 0) ((3 : Int32) * (hb_aI w 12 18 0 (1 : Int32).toNatClampNeg)).toNatClampNeg x1) (((3 : Int32) * (hb_aI w 12 18 0 (1 : Int32).toNatClampNeg)) + (1 : Int32)).toNatClampNeg x2) (((3 : Int32) * (hb_aI w 12 18 0 (1 : Int32).toNatClampNeg)) + (2 : Int32)).toNatClampNeg x3)) 12 18 0 (upd (hb_aI w 12 18 0) (1 : Int32).toNatClampNeg ((hb_aI w 12 18 0 (1 : Int32).toNatClampNeg) + (1 : Int32)))))))) : hb_R yX12_wouldGo cX12_wouldGo 5 none d 0 [some (hb_r 12 0 0), some (hb_i x1), some (hb_i x2), some (hb_i x3), none] [] w Q := by
  refine hb_iconst (pc := 0) (v := 3) dX12_wouldGo_0 (by decide) ?_
  refine hb_aload_n (pc := 1) (i := 0) dX12_wouldGo_1 rfl rfl ?_
  refine hb_getR (pc := 2) (g1 := 0) dX12_wouldGo_2 fw_X12_66 cw_12 rfl (by decide) rfl (by decide) rfl ?_
  refine hb_iconst (pc := 5) (v := 1) dX12_wouldGo_5 (by decide) ?_
  refine hb_ialdx (pc := 6) (x := hb_aI w 12 18 0 (1 : Int32).toNatClampNeg) dX12_wouldGo_6 (n := 11) rfl (by decide) (by unfold vp_in; decide) rfl ?_
  refine hb_imul (pc := 7) dX12_wouldGo_7 ?_
  refine hb_istore (pc := 8) (i := 4) (ls1 := [some (hb_r 12 0 0), some (hb_i x1), some (hb_i x2), some (hb_i x3), some (hb_i ((3 : Int32) * (hb_aI w 12 18 0 (1 : Int32).toNatClampNeg)))]) dX12_wouldGo_8 (by decide) rfl ?_
  refine hb_aload_n (pc := 10) (i := 0) dX12_wouldGo_10 rfl rfl ?_
  refine hb_getR (pc := 11) (g1 := 0) dX12_wouldGo_11 fw_X12_69 cw_12 rfl (by decide) rfl (by decide) rfl ?_
  refine hb_iload (pc := 14) dX12_wouldGo_14 rfl ?_
  refine hb_iload_n (pc := 16) (i := 1) dX12_wouldGo_16 rfl rfl ?_
  obtain ⟨ho1, hr1⟩ := h
  refine hb_iastx (pc := 17) (f := upd (hb_aI w 12 19 0) ((3 : Int32) * (hb_aI w 12 18 0 (1 : Int32).toNatClampNeg)).toNatClampNeg x1) dX12_wouldGo_17 rfl (by decide) ho1 rfl ?_
  refine hb_aload_n (pc := 18) (i := 0) dX12_wouldGo_18 rfl rfl ?_
  refine hb_getR (pc := 19) (g1 := 0) dX12_wouldGo_19 fw_X12_69 cw_12 rfl (by decide) rfl (by decide) rfl ?_
  refine hb_iload (pc := 22) dX12_wouldGo_22 rfl ?_
  refine hb_iconst (pc := 24) (v := 1) dX12_wouldGo_24 (by decide) ?_
  refine hb_iadd (pc := 25) dX12_wouldGo_25 ?_
  refine hb_iload_n (pc := 26) (i := 2) dX12_wouldGo_26 rfl rfl ?_
  obtain ⟨ho2, hr2⟩ := hr1
  refine hb_iastx (pc := 27) (f := upd (upd (hb_aI w 12 19 0) ((3 : Int32) * (hb_aI w 12 18 0 (1 : Int32).toNatClampNeg)).toNatClampNeg x1) (((3 : Int32) * (hb_aI w 12 18 0 (1 : Int32).toNatClampNeg)) + (1 : Int32)).toNatClampNeg x2) dX12_wouldGo_27 rfl (by decide) ho2 rfl ?_
  refine hb_aload_n (pc := 28) (i := 0) dX12_wouldGo_28 rfl rfl ?_
  refine hb_getR (pc := 29) (g1 := 0) dX12_wouldGo_29 fw_X12_69 cw_12 rfl (by decide) rfl (by decide) rfl ?_
  refine hb_iload (pc := 32) dX12_wouldGo_32 rfl ?_
  refine hb_iconst (pc := 34) (v := 2) dX12_wouldGo_34 (by decide) ?_
  refine hb_iadd (pc := 35) dX12_wouldGo_35 ?_
  refine hb_iload_n (pc := 36) (i := 3) dX12_wouldGo_36 rfl rfl ?_
  obtain ⟨ho3, hr3⟩ := hr2
  refine hb_iastx (pc := 37) (f := upd (upd (upd (hb_aI w 12 19 0) ((3 : Int32) * (hb_aI w 12 18 0 (1 : Int32).toNatClampNeg)).toNatClampNeg x1) (((3 : Int32) * (hb_aI w 12 18 0 (1 : Int32).toNatClampNeg)) + (1 : Int32)).toNatClampNeg x2) (((3 : Int32) * (hb_aI w 12 18 0 (1 : Int32).toNatClampNeg)) + (2 : Int32)).toNatClampNeg x3) dX12_wouldGo_37 rfl (by decide) ho3 rfl ?_
  refine hb_aload_n (pc := 38) (i := 0) dX12_wouldGo_38 rfl rfl ?_
  refine hb_getR (pc := 39) (g1 := 0) dX12_wouldGo_39 fw_X12_66 cw_12 rfl (by decide) rfl (by decide) rfl ?_
  refine hb_iconst (pc := 42) (v := 1) dX12_wouldGo_42 (by decide) ?_
  refine hb_dup2ir (pc := 43) dX12_wouldGo_43 ?_
  refine hb_ialdx (pc := 44) (x := hb_aI w 12 18 0 (1 : Int32).toNatClampNeg) dX12_wouldGo_44 (n := 11) rfl (by decide) (by unfold vp_in; decide) rfl ?_
  refine hb_iconst (pc := 45) (v := 1) dX12_wouldGo_45 (by decide) ?_
  refine hb_iadd (pc := 46) dX12_wouldGo_46 ?_
  refine hb_iastx (pc := 47) (f := upd (hb_aI w 12 18 0) (1 : Int32).toNatClampNeg ((hb_aI w 12 18 0 (1 : Int32).toNatClampNeg) + (1 : Int32))) dX12_wouldGo_47 (n := 11) rfl (by decide) (by unfold vp_in; decide) rfl ?_
  exact hb_vret (pc := 48) dX12_wouldGo_48 rfl hr3
theorem dX12_cross_0 : decode cX12_cross 0 = .ok (.aload_n 0, 1) := by decide +kernel
theorem dX12_cross_1 : decode cX12_cross 1 = .ok (.getfield 302, 3) := by decide +kernel
theorem dX12_cross_4 : decode cX12_cross 4 = .ok (.ifCond .eq 37, 3) := by decide +kernel
theorem dX12_cross_7 : decode cX12_cross 7 = .ok (.iload_n 1, 1) := by decide +kernel
theorem dX12_cross_8 : decode cX12_cross 8 = .ok (.i2l, 1) := by decide +kernel
theorem dX12_cross_9 : decode cX12_cross 9 = .ok (.lconst 0, 1) := by decide +kernel
theorem dX12_cross_10 : decode cX12_cross 10 = .ok (.ldc2_w 458, 3) := by decide +kernel
theorem dX12_cross_13 : decode cX12_cross 13 = .ok (.invokestatic 238, 3) := by decide +kernel
theorem dX12_cross_16 : decode cX12_cross 16 = .ok (.ifCond .eq 25, 3) := by decide +kernel
theorem dX12_cross_19 : decode cX12_cross 19 = .ok (.iload_n 2, 1) := by decide +kernel
theorem dX12_cross_20 : decode cX12_cross 20 = .ok (.i2l, 1) := by decide +kernel
theorem dX12_cross_21 : decode cX12_cross 21 = .ok (.lconst 0, 1) := by decide +kernel
theorem dX12_cross_22 : decode cX12_cross 22 = .ok (.lconst 1, 1) := by decide +kernel
theorem dX12_cross_23 : decode cX12_cross 23 = .ok (.invokestatic 238, 3) := by decide +kernel
theorem dX12_cross_26 : decode cX12_cross 26 = .ok (.ifCond .eq 15, 3) := by decide +kernel
theorem dX12_cross_29 : decode cX12_cross 29 = .ok (.aload_n 0, 1) := by decide +kernel
theorem dX12_cross_30 : decode cX12_cross 30 = .ok (.getfield 66, 3) := by decide +kernel
theorem dX12_cross_33 : decode cX12_cross 33 = .ok (.iconst 1, 1) := by decide +kernel
theorem dX12_cross_34 : decode cX12_cross 34 = .ok (.iaload, 1) := by decide +kernel
theorem dX12_cross_35 : decode cX12_cross 35 = .ok (.sipush 400, 3) := by decide +kernel
theorem dX12_cross_38 : decode cX12_cross 38 = .ok (.if_icmp .ne 5, 3) := by decide +kernel
theorem dX12_cross_41 : decode cX12_cross 41 = .ok (.iconst (-1), 1) := by decide +kernel
theorem dX12_cross_42 : decode cX12_cross 42 = .ok (.ireturn, 1) := by decide +kernel
theorem dX12_cross_43 : decode cX12_cross 43 = .ok (.iconst (-1), 1) := by decide +kernel
theorem dX12_cross_44 : decode cX12_cross 44 = .ok (.istore_n 3, 1) := by decide +kernel
theorem dX12_cross_45 : decode cX12_cross 45 = .ok (.iconst 0, 1) := by decide +kernel
theorem dX12_cross_46 : decode cX12_cross 46 = .ok (.istore 4, 2) := by decide +kernel
theorem dX12_cross_48 : decode cX12_cross 48 = .ok (.aload_n 0, 1) := by decide +kernel
theorem dX12_cross_49 : decode cX12_cross 49 = .ok (.aload_n 0, 1) := by decide +kernel
theorem dX12_cross_50 : decode cX12_cross 50 = .ok (.getfield 66, 3) := by decide +kernel
theorem dX12_cross_53 : decode cX12_cross 53 = .ok (.iconst 0, 1) := by decide +kernel
theorem dX12_cross_54 : decode cX12_cross 54 = .ok (.iaload, 1) := by decide +kernel
theorem dX12_cross_55 : decode cX12_cross 55 = .ok (.invokevirtual 390, 3) := by decide +kernel
theorem dX12_cross_58 : decode cX12_cross 58 = .ok (.iconst 0, 1) := by decide +kernel
theorem dX12_cross_59 : decode cX12_cross 59 = .ok (.istore 5, 2) := by decide +kernel
theorem dX12_cross_61 : decode cX12_cross 61 = .ok (.iload 5, 2) := by decide +kernel
theorem dX12_cross_63 : decode cX12_cross 63 = .ok (.bipush 64, 2) := by decide +kernel
theorem dX12_cross_65 : decode cX12_cross 65 = .ok (.if_icmp .ge 67, 3) := by decide +kernel
theorem dX12_cross_68 : decode cX12_cross 68 = .ok (.aload_n 0, 1) := by decide +kernel
theorem dX12_cross_69 : decode cX12_cross 69 = .ok (.iload 5, 2) := by decide +kernel
theorem dX12_cross_71 : decode cX12_cross 71 = .ok (.iconst 0, 1) := by decide +kernel
theorem dX12_cross_72 : decode cX12_cross 72 = .ok (.iconst 0, 1) := by decide +kernel
theorem dX12_cross_73 : decode cX12_cross 73 = .ok (.invokevirtual 465, 3) := by decide +kernel
theorem dX12_cross_76 : decode cX12_cross 76 = .ok (.aload_n 0, 1) := by decide +kernel
theorem dX12_cross_77 : decode cX12_cross 77 = .ok (.iconst 2, 1) := by decide +kernel
theorem dX12_cross_78 : decode cX12_cross 78 = .ok (.aload_n 0, 1) := by decide +kernel
theorem dX12_cross_79 : decode cX12_cross 79 = .ok (.getfield 51, 3) := by decide +kernel
theorem dX12_cross_82 : decode cX12_cross 82 = .ok (.iconst 2, 1) := by decide +kernel
theorem dX12_cross_83 : decode cX12_cross 83 = .ok (.iaload, 1) := by decide +kernel
theorem dX12_cross_84 : decode cX12_cross 84 = .ok (.invokevirtual 393, 3) := by decide +kernel
theorem dX12_cross_87 : decode cX12_cross 87 = .ok (.aload_n 0, 1) := by decide +kernel
theorem dX12_cross_88 : decode cX12_cross 88 = .ok (.getfield 66, 3) := by decide +kernel
theorem dX12_cross_91 : decode cX12_cross 91 = .ok (.iconst 1, 1) := by decide +kernel
theorem dX12_cross_92 : decode cX12_cross 92 = .ok (.dup2, 1) := by decide +kernel
theorem dX12_cross_93 : decode cX12_cross 93 = .ok (.iaload, 1) := by decide +kernel
theorem dX12_cross_94 : decode cX12_cross 94 = .ok (.iconst 1, 1) := by decide +kernel
theorem dX12_cross_95 : decode cX12_cross 95 = .ok (.isub, 1) := by decide +kernel
theorem dX12_cross_96 : decode cX12_cross 96 = .ok (.iastore, 1) := by decide +kernel
theorem dX12_cross_97 : decode cX12_cross 97 = .ok (.aload_n 0, 1) := by decide +kernel
theorem dX12_cross_98 : decode cX12_cross 98 = .ok (.iload_n 1, 1) := by decide +kernel
theorem dX12_cross_99 : decode cX12_cross 99 = .ok (.invokevirtual 460, 3) := by decide +kernel
theorem dX12_cross_102 : decode cX12_cross 102 = .ok (.istore 6, 2) := by decide +kernel
theorem dX12_cross_104 : decode cX12_cross 104 = .ok (.iload_n 3, 1) := by decide +kernel
theorem dX12_cross_105 : decode cX12_cross 105 = .ok (.iconst (-1), 1) := by decide +kernel
theorem dX12_cross_106 : decode cX12_cross 106 = .ok (.if_icmp .eq 13, 3) := by decide +kernel
theorem dX12_cross_109 : decode cX12_cross 109 = .ok (.iload 6, 2) := by decide +kernel
theorem dX12_cross_111 : decode cX12_cross 111 = .ok (.iload 4, 2) := by decide +kernel
theorem dX12_cross_113 : decode cX12_cross 113 = .ok (.if_icmp .gt 6, 3) := by decide +kernel
theorem dX12_cross_116 : decode cX12_cross 116 = .ok (.goto 10, 3) := by decide +kernel
theorem dX12_cross_119 : decode cX12_cross 119 = .ok (.iload 5, 2) := by decide +kernel
theorem dX12_cross_121 : decode cX12_cross 121 = .ok (.istore_n 3, 1) := by decide +kernel
theorem dX12_cross_122 : decode cX12_cross 122 = .ok (.iload 6, 2) := by decide +kernel
theorem dX12_cross_124 : decode cX12_cross 124 = .ok (.istore 4, 2) := by decide +kernel
theorem dX12_cross_126 : decode cX12_cross 126 = .ok (.iinc 5 1, 3) := by decide +kernel
theorem dX12_cross_129 : decode cX12_cross 129 = .ok (.goto (-68), 3) := by decide +kernel
theorem dX12_cross_132 : decode cX12_cross 132 = .ok (.iload_n 2, 1) := by decide +kernel
theorem dX12_cross_133 : decode cX12_cross 133 = .ok (.ifCond .ne 7, 3) := by decide +kernel
theorem dX12_cross_136 : decode cX12_cross 136 = .ok (.iload_n 3, 1) := by decide +kernel
theorem dX12_cross_137 : decode cX12_cross 137 = .ok (.goto 5, 3) := by decide +kernel
theorem dX12_cross_140 : decode cX12_cross 140 = .ok (.iload 4, 2) := by decide +kernel
theorem dX12_cross_142 : decode cX12_cross 142 = .ok (.ireturn, 1) := by decide +kernel
set_option maxRecDepth 20000 in
theorem bk_X12_cross_0 {d : Nat} {w : hb_W} {Q : Option hb_V → hb_W → Prop} {x1 : Int32} {x2 : Int32} (h : (((hb_fI w 12 30 0) = 0) → Q (some (hb_i (-1 : Int32))) w) ∧ ((¬ (hb_fI w 12 30 0) = 0) → hb_O yX12_isIn cX12_isIn 6 (some .boolean) d [hb_l x1.toInt64, hb_l (0 : Int64), hb_l (5 : Int64)] w (fun rv w1 => hb_R yX12_cross cX12_cross 7 (some .int) (d + 1) 16 [some (hb_r 12 0 0), some (hb_i x1), some (hb_i x2), none, none, none, none] (rv.toList ++ []) w1 Q))) : hb_R yX12_cross cX12_cross 7 (some .int) (d + 1) 0 [some (hb_r 12 0 0), some (hb_i x1), some (hb_i x2), none, none, none, none] [] w Q := by
  refine hb_aload_n (pc := 0) (i := 0) dX12_cross_0 rfl rfl ?_
  refine hb_getIx (pc := 1) (x := hb_fI w 12 30 0) dX12_cross_1 fw_X12_302 cw_12 rfl (by decide) rfl rfl ?_
  refine hb_if_eq (pc := 4) (tgt := 41) dX12_cross_4 (by decide) (fun c1 => ?_) (fun c1 => ?_)
  · have ht1 := h.1 c1
    refine hb_iconst (pc := 41) (v := -1) dX12_cross_41 (by decide) ?_
    exact hb_iret (pc := 42) dX12_cross_42 rfl ht1
  · have ht1 := h.2 c1
    refine hb_iload_n (pc := 7) (i := 1) dX12_cross_7 rfl rfl ?_
    refine hb_i2l (pc := 8) dX12_cross_8 ?_
    refine hb_lconst (pc := 9) (v := 0) dX12_cross_9 (by decide) ?_
    refine hb_ldc2 (pc := 10) (v := 5) dX12_cross_10 kc_X12_458 ?_
    exact hb_callS (pc := 13) (As := [hb_l x1.toInt64, hb_l (0 : Int64), hb_l (5 : Int64)]) (st := []) dX12_cross_13 ml_X12_238 mf_X12_isIn ms_X12_isIn rfl rfl (Nat.le_of_ble_eq_true rfl) (Nat.le_of_ble_eq_true rfl) ht1 (fun _ _ q => q)
set_option maxRecDepth 20000 in
theorem bk_X12_cross_16 {d : Nat} {w : hb_W} {Q : Option hb_V → hb_W → Prop} {x1 : Int32} {x2 : Int32} {xs0 : Int32} (h : ((xs0 = 0) → Q (some (hb_i (-1 : Int32))) w) ∧ ((¬ xs0 = 0) → hb_O yX12_isIn cX12_isIn 6 (some .boolean) d [hb_l x2.toInt64, hb_l (0 : Int64), hb_l (1 : Int64)] w (fun rv w1 => hb_R yX12_cross cX12_cross 7 (some .int) (d + 1) 26 [some (hb_r 12 0 0), some (hb_i x1), some (hb_i x2), none, none, none, none] (rv.toList ++ []) w1 Q))) : hb_R yX12_cross cX12_cross 7 (some .int) (d + 1) 16 [some (hb_r 12 0 0), some (hb_i x1), some (hb_i x2), none, none, none, none] [hb_i xs0] w Q := by
  refine hb_if_eq (pc := 16) (tgt := 41) dX12_cross_16 (by decide) (fun c1 => ?_) (fun c1 => ?_)
  · have ht1 := h.1 c1
    refine hb_iconst (pc := 41) (v := -1) dX12_cross_41 (by decide) ?_
    exact hb_iret (pc := 42) dX12_cross_42 rfl ht1
  · have ht1 := h.2 c1
    refine hb_iload_n (pc := 19) (i := 2) dX12_cross_19 rfl rfl ?_
    refine hb_i2l (pc := 20) dX12_cross_20 ?_
    refine hb_lconst (pc := 21) (v := 0) dX12_cross_21 (by decide) ?_
    refine hb_lconst (pc := 22) (v := 1) dX12_cross_22 (by decide) ?_
    exact hb_callS (pc := 23) (As := [hb_l x2.toInt64, hb_l (0 : Int64), hb_l (1 : Int64)]) (st := []) dX12_cross_23 ml_X12_238 mf_X12_isIn ms_X12_isIn rfl rfl (Nat.le_of_ble_eq_true rfl) (Nat.le_of_ble_eq_true rfl) ht1 (fun _ _ q => q)
set_option maxRecDepth 20000 in
theorem bk_X12_cross_26 {d : Nat} {w : hb_W} {Q : Option hb_V → hb_W → Prop} {x1 : Int32} {x2 : Int32} {xs0 : Int32} (h : ((xs0 = 0) → Q (some (hb_i (-1 : Int32))) w) ∧ ((¬ xs0 = 0) → ((¬ (hb_aI w 12 18 0 (1 : Int32).toNatClampNeg) = (400 : Int32)) → hb_O yX12_laysMarks cX12_laysMarks 4 none d [hb_r 12 0 0, hb_i (hb_aI w 12 18 0 (0 : Int32).toNatClampNeg)] w (fun rv w1 => hb_R yX12_cross cX12_cross 7 (some .int) (d + 1) 58 [some (hb_r 12 0 0), some (hb_i x1), some (hb_i x2), some (hb_i (-1 : Int32)), some (hb_i (0 : Int32)), none, none] (rv.toList ++ []) w1 Q)) ∧ (((hb_aI w 12 18 0 (1 : Int32).toNatClampNeg) = (400 : Int32)) → Q (some (hb_i (-1 : Int32))) w))) : hb_R yX12_cross cX12_cross 7 (some .int) (d + 1) 26 [some (hb_r 12 0 0), some (hb_i x1), some (hb_i x2), none, none, none, none] [hb_i xs0] w Q := by
  refine hb_if_eq (pc := 26) (tgt := 41) dX12_cross_26 (by decide) (fun c1 => ?_) (fun c1 => ?_)
  · have ht1 := h.1 c1
    refine hb_iconst (pc := 41) (v := -1) dX12_cross_41 (by decide) ?_
    exact hb_iret (pc := 42) dX12_cross_42 rfl ht1
  · have ht1 := h.2 c1
    refine hb_aload_n (pc := 29) (i := 0) dX12_cross_29 rfl rfl ?_
    refine hb_getR (pc := 30) (g1 := 0) dX12_cross_30 fw_X12_66 cw_12 rfl (by decide) rfl (by decide) rfl ?_
    refine hb_iconst (pc := 33) (v := 1) dX12_cross_33 (by decide) ?_
    refine hb_ialdx (pc := 34) (x := hb_aI w 12 18 0 (1 : Int32).toNatClampNeg) dX12_cross_34 (n := 11) rfl (by decide) (by unfold vp_in; decide) rfl ?_
    refine hb_sipush (pc := 35) (v := 400) dX12_cross_35 (by decide) ?_
    refine hb_icmp_ne (pc := 38) (tgt := 43) dX12_cross_38 (by decide) (fun c2 => ?_) (fun c2 => ?_)
    · have ht2 := ht1.1 c2
      refine hb_iconst (pc := 43) (v := -1) dX12_cross_43 (by decide) ?_
      refine hb_istore_n (pc := 44) (i := 3) (ls1 := [some (hb_r 12 0 0), some (hb_i x1), some (hb_i x2), some (hb_i (-1 : Int32)), none, none, none]) dX12_cross_44 rfl (by decide) rfl ?_
      refine hb_iconst (pc := 45) (v := 0) dX12_cross_45 (by decide) ?_
      refine hb_istore (pc := 46) (i := 4) (ls1 := [some (hb_r 12 0 0), some (hb_i x1), some (hb_i x2), some (hb_i (-1 : Int32)), some (hb_i (0 : Int32)), none, none]) dX12_cross_46 (by decide) rfl ?_
      refine hb_aload_n (pc := 48) (i := 0) dX12_cross_48 rfl rfl ?_
      refine hb_aload_n (pc := 49) (i := 0) dX12_cross_49 rfl rfl ?_
      refine hb_getR (pc := 50) (g1 := 0) dX12_cross_50 fw_X12_66 cw_12 rfl (by decide) rfl (by decide) rfl ?_
      refine hb_iconst (pc := 53) (v := 0) dX12_cross_53 (by decide) ?_
      refine hb_ialdx (pc := 54) (x := hb_aI w 12 18 0 (0 : Int32).toNatClampNeg) dX12_cross_54 (n := 11) rfl (by decide) (by unfold vp_in; decide) rfl ?_
      exact hb_callV (pc := 55) (As := [hb_i (hb_aI w 12 18 0 (0 : Int32).toNatClampNeg)]) (st := []) dX12_cross_55 ml_X12_390 mf_X12_laysMarks mi_X12_laysMarks (ci := 12) rfl rfl (by decide) rfl rfl (Nat.le_of_ble_eq_true rfl) (Nat.le_of_ble_eq_true rfl) ht2 (fun _ _ q => q)
    · have ht2 := ht1.2 c2
      refine hb_iconst (pc := 41) (v := -1) dX12_cross_41 (by decide) ?_
      exact hb_iret (pc := 42) dX12_cross_42 rfl ht2
set_option maxRecDepth 20000 in
theorem bk_X12_cross_58 {d : Nat} {w : hb_W} {Q : Option hb_V → hb_W → Prop} {x1 : Int32} {x2 : Int32} {x3 : Int32} {x4 : Int32} (h : hb_R yX12_cross cX12_cross 7 (some .int) (d + 1) 61 [some (hb_r 12 0 0), some (hb_i x1), some (hb_i x2), some (hb_i x3), some (hb_i x4), some (hb_i (0 : Int32)), none] [] w Q) : hb_R yX12_cross cX12_cross 7 (some .int) (d + 1) 58 [some (hb_r 12 0 0), some (hb_i x1), some (hb_i x2), some (hb_i x3), some (hb_i x4), none, none] [] w Q := by
  refine hb_iconst (pc := 58) (v := 0) dX12_cross_58 (by decide) ?_
  refine hb_istore (pc := 59) (i := 5) (ls1 := [some (hb_r 12 0 0), some (hb_i x1), some (hb_i x2), some (hb_i x3), some (hb_i x4), some (hb_i (0 : Int32)), none]) dX12_cross_59 (by decide) rfl ?_
  exact h
set_option maxRecDepth 20000 in
theorem bk_X12_cross_61 {d : Nat} {w : hb_W} {Q : Option hb_V → hb_W → Prop} {x1 : Int32} {x2 : Int32} {x3 : Int32} {x4 : Int32} {x5 : Int32} (h : (((64 : Int32) ≤ x5) → ((¬ x2 = 0) → Q (some (hb_i x4)) w) ∧ ((x2 = 0) → Q (some (hb_i x3)) w)) ∧ ((¬ (64 : Int32) ≤ x5) → hb_O yX12_wouldGo cX12_wouldGo 5 none d [hb_r 12 0 0, hb_i x5, hb_i (0 : Int32), hb_i (0 : Int32)] w (fun rv w1 => hb_R yX12_cross cX12_cross 7 (some .int) (d + 1) 76 [some (hb_r 12 0 0), some (hb_i x1), some (hb_i x2), some (hb_i x3), some (hb_i x4), some (hb_i x5), none] (rv.toList ++ []) w1 Q))) : hb_R yX12_cross cX12_cross 7 (some .int) (d + 1) 61 [some (hb_r 12 0 0), some (hb_i x1), some (hb_i x2), some (hb_i x3), some (hb_i x4), some (hb_i x5), none] [] w Q := by
  refine hb_iload (pc := 61) dX12_cross_61 rfl ?_
  refine hb_bipush (pc := 63) (v := 64) dX12_cross_63 (by decide) ?_
  refine hb_icmp_ge (pc := 65) (tgt := 132) dX12_cross_65 (by decide) (fun c1 => ?_) (fun c1 => ?_)
  · have ht1 := h.1 c1
    refine hb_iload_n (pc := 132) (i := 2) dX12_cross_132 rfl rfl ?_
    refine hb_if_ne (pc := 133) (tgt := 140) dX12_cross_133 (by decide) (fun c2 => ?_) (fun c2 => ?_)
    · have ht2 := ht1.1 c2
      refine hb_iload (pc := 140) dX12_cross_140 rfl ?_
      exact hb_iret (pc := 142) dX12_cross_142 rfl ht2
    · have ht2 := ht1.2 c2
      refine hb_iload_n (pc := 136) (i := 3) dX12_cross_136 rfl rfl ?_
      refine hb_goto (pc := 137) (tgt := 142) dX12_cross_137 (by decide) ?_
      exact hb_iret (pc := 142) dX12_cross_142 rfl ht2
  · have ht1 := h.2 c1
    refine hb_aload_n (pc := 68) (i := 0) dX12_cross_68 rfl rfl ?_
    refine hb_iload (pc := 69) dX12_cross_69 rfl ?_
    refine hb_iconst (pc := 71) (v := 0) dX12_cross_71 (by decide) ?_
    refine hb_iconst (pc := 72) (v := 0) dX12_cross_72 (by decide) ?_
    exact hb_callV (pc := 73) (As := [hb_i x5, hb_i (0 : Int32), hb_i (0 : Int32)]) (st := []) dX12_cross_73 ml_X12_465 mf_X12_wouldGo mi_X12_wouldGo (ci := 12) rfl rfl (by decide) rfl rfl (Nat.le_of_ble_eq_true rfl) (Nat.le_of_ble_eq_true rfl) ht1 (fun _ _ q => q)
set_option maxRecDepth 20000 in
theorem bk_X12_cross_76 {d : Nat} {w : hb_W} {Q : Option hb_V → hb_W → Prop} {x1 : Int32} {x2 : Int32} {x3 : Int32} {x4 : Int32} {x5 : Int32} (h : hb_O yX12_laysBook cX12_laysBook 4 none d [hb_r 12 0 0, hb_i (2 : Int32), hb_i (hb_aI w 12 13 0 (2 : Int32).toNatClampNeg)] w (fun rv w1 => hb_R yX12_cross cX12_cross 7 (some .int) (d + 1) 87 [some (hb_r 12 0 0), some (hb_i x1), some (hb_i x2), some (hb_i x3), some (hb_i x4), some (hb_i x5), none] (rv.toList ++ []) w1 Q)) : hb_R yX12_cross cX12_cross 7 (some .int) (d + 1) 76 [some (hb_r 12 0 0), some (hb_i x1), some (hb_i x2), some (hb_i x3), some (hb_i x4), some (hb_i x5), none] [] w Q := by
  refine hb_aload_n (pc := 76) (i := 0) dX12_cross_76 rfl rfl ?_
  refine hb_iconst (pc := 77) (v := 2) dX12_cross_77 (by decide) ?_
  refine hb_aload_n (pc := 78) (i := 0) dX12_cross_78 rfl rfl ?_
  refine hb_getR (pc := 79) (g1 := 0) dX12_cross_79 fw_X12_51 cw_12 rfl (by decide) rfl (by decide) rfl ?_
  refine hb_iconst (pc := 82) (v := 2) dX12_cross_82 (by decide) ?_
  refine hb_ialdx (pc := 83) (x := hb_aI w 12 13 0 (2 : Int32).toNatClampNeg) dX12_cross_83 (n := 6) rfl (by decide) (by unfold vp_in; decide) rfl ?_
  exact hb_callV (pc := 84) (As := [hb_i (2 : Int32), hb_i (hb_aI w 12 13 0 (2 : Int32).toNatClampNeg)]) (st := []) dX12_cross_84 ml_X12_393 mf_X12_laysBook mi_X12_laysBook (ci := 12) rfl rfl (by decide) rfl rfl (Nat.le_of_ble_eq_true rfl) (Nat.le_of_ble_eq_true rfl) h (fun _ _ q => q)
set_option maxRecDepth 20000 in
theorem bk_X12_cross_87 {d : Nat} {w : hb_W} {Q : Option hb_V → hb_W → Prop} {x1 : Int32} {x2 : Int32} {x3 : Int32} {x4 : Int32} {x5 : Int32} (h : hb_O yX12_outBy cX12_outBy 2 (some .int) d [hb_r 12 0 0, hb_i x1] (hb_sI w 12 18 0 (upd (hb_aI w 12 18 0) (1 : Int32).toNatClampNeg ((hb_aI w 12 18 0 (1 : Int32).toNatClampNeg) - (1 : Int32)))) (fun rv w1 => hb_R yX12_cross cX12_cross 7 (some .int) (d + 1) 102 [some (hb_r 12 0 0), some (hb_i x1), some (hb_i x2), some (hb_i x3), some (hb_i x4), some (hb_i x5), none] (rv.toList ++ []) w1 Q)) : hb_R yX12_cross cX12_cross 7 (some .int) (d + 1) 87 [some (hb_r 12 0 0), some (hb_i x1), some (hb_i x2), some (hb_i x3), some (hb_i x4), some (hb_i x5), none] [] w Q := by
  refine hb_aload_n (pc := 87) (i := 0) dX12_cross_87 rfl rfl ?_
  refine hb_getR (pc := 88) (g1 := 0) dX12_cross_88 fw_X12_66 cw_12 rfl (by decide) rfl (by decide) rfl ?_
  refine hb_iconst (pc := 91) (v := 1) dX12_cross_91 (by decide) ?_
  refine hb_dup2ir (pc := 92) dX12_cross_92 ?_
  refine hb_ialdx (pc := 93) (x := hb_aI w 12 18 0 (1 : Int32).toNatClampNeg) dX12_cross_93 (n := 11) rfl (by decide) (by unfold vp_in; decide) rfl ?_
  refine hb_iconst (pc := 94) (v := 1) dX12_cross_94 (by decide) ?_
  refine hb_isub (pc := 95) dX12_cross_95 ?_
  refine hb_iastx (pc := 96) (f := upd (hb_aI w 12 18 0) (1 : Int32).toNatClampNeg ((hb_aI w 12 18 0 (1 : Int32).toNatClampNeg) - (1 : Int32))) dX12_cross_96 (n := 11) rfl (by decide) (by unfold vp_in; decide) rfl ?_
  refine hb_aload_n (pc := 97) (i := 0) dX12_cross_97 rfl rfl ?_
  refine hb_iload_n (pc := 98) (i := 1) dX12_cross_98 rfl rfl ?_
  exact hb_callV (pc := 99) (As := [hb_i x1]) (st := []) dX12_cross_99 ml_X12_460 mf_X12_outBy mi_X12_outBy (ci := 12) rfl rfl (by decide) rfl rfl (Nat.le_of_ble_eq_true rfl) (Nat.le_of_ble_eq_true rfl) h (fun _ _ q => q)
set_option maxRecDepth 20000 in
theorem bk_X12_cross_102 {d : Nat} {w : hb_W} {Q : Option hb_V → hb_W → Prop} {x1 : Int32} {x2 : Int32} {x3 : Int32} {x4 : Int32} {x5 : Int32} {xs0 : Int32} (h : ((x3 = (-1 : Int32)) → hb_R yX12_cross cX12_cross 7 (some .int) (d + 1) 61 [some (hb_r 12 0 0), some (hb_i x1), some (hb_i x2), some (hb_i x5), some (hb_i xs0), some (hb_i (x5 + (1 : Int32))), some (hb_i xs0)] [] w Q) ∧ ((¬ x3 = (-1 : Int32)) → ((x4 < xs0) → hb_R yX12_cross cX12_cross 7 (some .int) (d + 1) 61 [some (hb_r 12 0 0), some (hb_i x1), some (hb_i x2), some (hb_i x5), some (hb_i xs0), some (hb_i (x5 + (1 : Int32))), some (hb_i xs0)] [] w Q) ∧ ((¬ x4 < xs0) → hb_R yX12_cross cX12_cross 7 (some .int) (d + 1) 61 [some (hb_r 12 0 0), some (hb_i x1), some (hb_i x2), some (hb_i x3), some (hb_i x4), some (hb_i (x5 + (1 : Int32))), some (hb_i xs0)] [] w Q))) : hb_R yX12_cross cX12_cross 7 (some .int) (d + 1) 102 [some (hb_r 12 0 0), some (hb_i x1), some (hb_i x2), some (hb_i x3), some (hb_i x4), some (hb_i x5), none] [hb_i xs0] w Q := by
  refine hb_istore (pc := 102) (i := 6) (ls1 := [some (hb_r 12 0 0), some (hb_i x1), some (hb_i x2), some (hb_i x3), some (hb_i x4), some (hb_i x5), some (hb_i xs0)]) dX12_cross_102 (by decide) rfl ?_
  refine hb_iload_n (pc := 104) (i := 3) dX12_cross_104 rfl rfl ?_
  refine hb_iconst (pc := 105) (v := -1) dX12_cross_105 (by decide) ?_
  refine hb_icmp_eq (pc := 106) (tgt := 119) dX12_cross_106 (by decide) (fun c1 => ?_) (fun c1 => ?_)
  · have ht1 := h.1 c1
    refine hb_iload (pc := 119) dX12_cross_119 rfl ?_
    refine hb_istore_n (pc := 121) (i := 3) (ls1 := [some (hb_r 12 0 0), some (hb_i x1), some (hb_i x2), some (hb_i x5), some (hb_i x4), some (hb_i x5), some (hb_i xs0)]) dX12_cross_121 rfl (by decide) rfl ?_
    refine hb_iload (pc := 122) dX12_cross_122 rfl ?_
    refine hb_istore (pc := 124) (i := 4) (ls1 := [some (hb_r 12 0 0), some (hb_i x1), some (hb_i x2), some (hb_i x5), some (hb_i xs0), some (hb_i x5), some (hb_i xs0)]) dX12_cross_124 (by decide) rfl ?_
    refine hb_iinc (pc := 126) (v := x5 + (1 : Int32)) (ls1 := [some (hb_r 12 0 0), some (hb_i x1), some (hb_i x2), some (hb_i x5), some (hb_i xs0), some (hb_i (x5 + (1 : Int32))), some (hb_i xs0)]) dX12_cross_126 rfl rfl (by decide) rfl ?_
    refine hb_goto (pc := 129) (tgt := 61) dX12_cross_129 (by decide) ?_
    exact ht1
  · have ht1 := h.2 c1
    refine hb_iload (pc := 109) dX12_cross_109 rfl ?_
    refine hb_iload (pc := 111) dX12_cross_111 rfl ?_
    refine hb_icmp_gt (pc := 113) (tgt := 119) dX12_cross_113 (by decide) (fun c2 => ?_) (fun c2 => ?_)
    · have ht2 := ht1.1 c2
      refine hb_iload (pc := 119) dX12_cross_119 rfl ?_
      refine hb_istore_n (pc := 121) (i := 3) (ls1 := [some (hb_r 12 0 0), some (hb_i x1), some (hb_i x2), some (hb_i x5), some (hb_i x4), some (hb_i x5), some (hb_i xs0)]) dX12_cross_121 rfl (by decide) rfl ?_
      refine hb_iload (pc := 122) dX12_cross_122 rfl ?_
      refine hb_istore (pc := 124) (i := 4) (ls1 := [some (hb_r 12 0 0), some (hb_i x1), some (hb_i x2), some (hb_i x5), some (hb_i xs0), some (hb_i x5), some (hb_i xs0)]) dX12_cross_124 (by decide) rfl ?_
      refine hb_iinc (pc := 126) (v := x5 + (1 : Int32)) (ls1 := [some (hb_r 12 0 0), some (hb_i x1), some (hb_i x2), some (hb_i x5), some (hb_i xs0), some (hb_i (x5 + (1 : Int32))), some (hb_i xs0)]) dX12_cross_126 rfl rfl (by decide) rfl ?_
      refine hb_goto (pc := 129) (tgt := 61) dX12_cross_129 (by decide) ?_
      exact ht2
    · have ht2 := ht1.2 c2
      refine hb_goto (pc := 116) (tgt := 126) dX12_cross_116 (by decide) ?_
      refine hb_iinc (pc := 126) (v := x5 + (1 : Int32)) (ls1 := [some (hb_r 12 0 0), some (hb_i x1), some (hb_i x2), some (hb_i x3), some (hb_i x4), some (hb_i (x5 + (1 : Int32))), some (hb_i xs0)]) dX12_cross_126 rfl rfl (by decide) rfl ?_
      refine hb_goto (pc := 129) (tgt := 61) dX12_cross_129 (by decide) ?_
      exact ht2
theorem dX12_isSame_0 : decode cX12_isSame 0 = .ok (.aload_n 0, 1) := by decide +kernel
theorem dX12_isSame_1 : decode cX12_isSame 1 = .ok (.iload_n 1, 1) := by decide +kernel
theorem dX12_isSame_2 : decode cX12_isSame 2 = .ok (.iconst 0, 1) := by decide +kernel
theorem dX12_isSame_3 : decode cX12_isSame 3 = .ok (.invokevirtual 364, 3) := by decide +kernel
theorem dX12_isSame_6 : decode cX12_isSame 6 = .ok (.istore_n 2, 1) := by decide +kernel
theorem dX12_isSame_7 : decode cX12_isSame 7 = .ok (.aload_n 0, 1) := by decide +kernel
theorem dX12_isSame_8 : decode cX12_isSame 8 = .ok (.getfield 355, 3) := by decide +kernel
theorem dX12_isSame_11 : decode cX12_isSame 11 = .ok (.aload_n 0, 1) := by decide +kernel
theorem dX12_isSame_12 : decode cX12_isSame 12 = .ok (.getfield 358, 3) := by decide +kernel
theorem dX12_isSame_15 : decode cX12_isSame 15 = .ok (.if_icmp .ne 22, 3) := by decide +kernel
theorem dX12_isSame_18 : decode cX12_isSame 18 = .ok (.iload_n 2, 1) := by decide +kernel
theorem dX12_isSame_19 : decode cX12_isSame 19 = .ok (.aload_n 0, 1) := by decide +kernel
theorem dX12_isSame_20 : decode cX12_isSame 20 = .ok (.getfield 81, 3) := by decide +kernel
theorem dX12_isSame_23 : decode cX12_isSame 23 = .ok (.aload_n 0, 1) := by decide +kernel
theorem dX12_isSame_24 : decode cX12_isSame 24 = .ok (.getfield 358, 3) := by decide +kernel
theorem dX12_isSame_27 : decode cX12_isSame 27 = .ok (.iconst 1, 1) := by decide +kernel
theorem dX12_isSame_28 : decode cX12_isSame 28 = .ok (.isub, 1) := by decide +kernel
theorem dX12_isSame_29 : decode cX12_isSame 29 = .ok (.iaload, 1) := by decide +kernel
theorem dX12_isSame_30 : decode cX12_isSame 30 = .ok (.if_icmp .le 7, 3) := by decide +kernel
theorem dX12_isSame_33 : decode cX12_isSame 33 = .ok (.iconst 1, 1) := by decide +kernel
theorem dX12_isSame_34 : decode cX12_isSame 34 = .ok (.goto 4, 3) := by decide +kernel
theorem dX12_isSame_37 : decode cX12_isSame 37 = .ok (.iconst 0, 1) := by decide +kernel
theorem dX12_isSame_38 : decode cX12_isSame 38 = .ok (.istore_n 3, 1) := by decide +kernel
theorem dX12_isSame_39 : decode cX12_isSame 39 = .ok (.iconst 0, 1) := by decide +kernel
theorem dX12_isSame_40 : decode cX12_isSame 40 = .ok (.istore 4, 2) := by decide +kernel
theorem dX12_isSame_42 : decode cX12_isSame 42 = .ok (.iload 4, 2) := by decide +kernel
theorem dX12_isSame_44 : decode cX12_isSame 44 = .ok (.aload_n 0, 1) := by decide +kernel
theorem dX12_isSame_45 : decode cX12_isSame 45 = .ok (.getfield 355, 3) := by decide +kernel
theorem dX12_isSame_48 : decode cX12_isSame 48 = .ok (.if_icmp .ge 30, 3) := by decide +kernel
theorem dX12_isSame_51 : decode cX12_isSame 51 = .ok (.iload_n 3, 1) := by decide +kernel
theorem dX12_isSame_52 : decode cX12_isSame 52 = .ok (.ifCond .ne 14, 3) := by decide +kernel
theorem dX12_isSame_55 : decode cX12_isSame 55 = .ok (.aload_n 0, 1) := by decide +kernel
theorem dX12_isSame_56 : decode cX12_isSame 56 = .ok (.getfield 81, 3) := by decide +kernel
theorem dX12_isSame_59 : decode cX12_isSame 59 = .ok (.iload 4, 2) := by decide +kernel
theorem dX12_isSame_61 : decode cX12_isSame 61 = .ok (.iaload, 1) := by decide +kernel
theorem dX12_isSame_62 : decode cX12_isSame 62 = .ok (.iload_n 2, 1) := by decide +kernel
theorem dX12_isSame_63 : decode cX12_isSame 63 = .ok (.if_icmp .ne 7, 3) := by decide +kernel
theorem dX12_isSame_66 : decode cX12_isSame 66 = .ok (.iconst 1, 1) := by decide +kernel
theorem dX12_isSame_67 : decode cX12_isSame 67 = .ok (.goto 4, 3) := by decide +kernel
theorem dX12_isSame_70 : decode cX12_isSame 70 = .ok (.iconst 0, 1) := by decide +kernel
theorem dX12_isSame_71 : decode cX12_isSame 71 = .ok (.istore_n 3, 1) := by decide +kernel
theorem dX12_isSame_72 : decode cX12_isSame 72 = .ok (.iinc 4 1, 3) := by decide +kernel
theorem dX12_isSame_75 : decode cX12_isSame 75 = .ok (.goto (-33), 3) := by decide +kernel
theorem dX12_isSame_78 : decode cX12_isSame 78 = .ok (.iload_n 3, 1) := by decide +kernel
theorem dX12_isSame_79 : decode cX12_isSame 79 = .ok (.ifCond .eq 31, 3) := by decide +kernel
theorem dX12_isSame_82 : decode cX12_isSame 82 = .ok (.aload_n 0, 1) := by decide +kernel
theorem dX12_isSame_83 : decode cX12_isSame 83 = .ok (.iload_n 1, 1) := by decide +kernel
theorem dX12_isSame_84 : decode cX12_isSame 84 = .ok (.iconst 1, 1) := by decide +kernel
theorem dX12_isSame_85 : decode cX12_isSame 85 = .ok (.invokevirtual 364, 3) := by decide +kernel
theorem dX12_isSame_88 : decode cX12_isSame 88 = .ok (.invokestatic 370, 3) := by decide +kernel
theorem dX12_isSame_91 : decode cX12_isSame 91 = .ok (.aload_n 0, 1) := by decide +kernel
theorem dX12_isSame_92 : decode cX12_isSame 92 = .ok (.getfield 374, 3) := by decide +kernel
theorem dX12_isSame_95 : decode cX12_isSame 95 = .ok (.if_icmp .gt 15, 3) := by decide +kernel
theorem dX12_isSame_98 : decode cX12_isSame 98 = .ok (.aload_n 0, 1) := by decide +kernel
theorem dX12_isSame_99 : decode cX12_isSame 99 = .ok (.iload_n 1, 1) := by decide +kernel
theorem dX12_isSame_100 : decode cX12_isSame 100 = .ok (.invokevirtual 399, 3) := by decide +kernel
theorem dX12_isSame_103 : decode cX12_isSame 103 = .ok (.ifCond .eq 7, 3) := by decide +kernel
theorem dX12_isSame_106 : decode cX12_isSame 106 = .ok (.iconst 1, 1) := by decide +kernel
theorem dX12_isSame_107 : decode cX12_isSame 107 = .ok (.goto 4, 3) := by decide +kernel
theorem dX12_isSame_110 : decode cX12_isSame 110 = .ok (.iconst 0, 1) := by decide +kernel
theorem dX12_isSame_111 : decode cX12_isSame 111 = .ok (.istore_n 3, 1) := by decide +kernel
theorem dX12_isSame_112 : decode cX12_isSame 112 = .ok (.iconst 0, 1) := by decide +kernel
theorem dX12_isSame_113 : decode cX12_isSame 113 = .ok (.istore 4, 2) := by decide +kernel
theorem dX12_isSame_115 : decode cX12_isSame 115 = .ok (.iload 4, 2) := by decide +kernel
theorem dX12_isSame_117 : decode cX12_isSame 117 = .ok (.aload_n 0, 1) := by decide +kernel
theorem dX12_isSame_118 : decode cX12_isSame 118 = .ok (.getfield 358, 3) := by decide +kernel
theorem dX12_isSame_121 : decode cX12_isSame 121 = .ok (.if_icmp .ge 47, 3) := by decide +kernel
theorem dX12_isSame_124 : decode cX12_isSame 124 = .ok (.iload_n 3, 1) := by decide +kernel
theorem dX12_isSame_125 : decode cX12_isSame 125 = .ok (.ifCond .eq 35, 3) := by decide +kernel
theorem dX12_isSame_128 : decode cX12_isSame 128 = .ok (.aload_n 0, 1) := by decide +kernel
theorem dX12_isSame_129 : decode cX12_isSame 129 = .ok (.getfield 100, 3) := by decide +kernel
theorem dX12_isSame_132 : decode cX12_isSame 132 = .ok (.iload 4, 2) := by decide +kernel
theorem dX12_isSame_134 : decode cX12_isSame 134 = .ok (.iaload, 1) := by decide +kernel
theorem dX12_isSame_135 : decode cX12_isSame 135 = .ok (.iconst (-1), 1) := by decide +kernel
theorem dX12_isSame_136 : decode cX12_isSame 136 = .ok (.if_icmp .eq 24, 3) := by decide +kernel
theorem dX12_isSame_139 : decode cX12_isSame 139 = .ok (.aload_n 0, 1) := by decide +kernel
theorem dX12_isSame_140 : decode cX12_isSame 140 = .ok (.iload_n 1, 1) := by decide +kernel
theorem dX12_isSame_141 : decode cX12_isSame 141 = .ok (.iload 4, 2) := by decide +kernel
theorem dX12_isSame_143 : decode cX12_isSame 143 = .ok (.invokevirtual 364, 3) := by decide +kernel
theorem dX12_isSame_146 : decode cX12_isSame 146 = .ok (.aload_n 0, 1) := by decide +kernel
theorem dX12_isSame_147 : decode cX12_isSame 147 = .ok (.getfield 100, 3) := by decide +kernel
theorem dX12_isSame_150 : decode cX12_isSame 150 = .ok (.iload 4, 2) := by decide +kernel
theorem dX12_isSame_152 : decode cX12_isSame 152 = .ok (.iaload, 1) := by decide +kernel
theorem dX12_isSame_153 : decode cX12_isSame 153 = .ok (.if_icmp .lt 7, 3) := by decide +kernel
theorem dX12_isSame_156 : decode cX12_isSame 156 = .ok (.iconst 1, 1) := by decide +kernel
theorem dX12_isSame_157 : decode cX12_isSame 157 = .ok (.goto 4, 3) := by decide +kernel
theorem dX12_isSame_160 : decode cX12_isSame 160 = .ok (.iconst 0, 1) := by decide +kernel
theorem dX12_isSame_161 : decode cX12_isSame 161 = .ok (.istore_n 3, 1) := by decide +kernel
theorem dX12_isSame_162 : decode cX12_isSame 162 = .ok (.iinc 4 1, 3) := by decide +kernel
theorem dX12_isSame_165 : decode cX12_isSame 165 = .ok (.goto (-50), 3) := by decide +kernel
theorem dX12_isSame_168 : decode cX12_isSame 168 = .ok (.iload_n 3, 1) := by decide +kernel
theorem dX12_isSame_169 : decode cX12_isSame 169 = .ok (.ireturn, 1) := by decide +kernel
set_option maxRecDepth 20000 in
theorem bk_X12_isSame_0 {d : Nat} {w : hb_W} {Q : Option hb_V → hb_W → Prop} {x1 : Int32} (h : hb_O yX12_marked cX12_marked 3 (some .int) d [hb_r 12 0 0, hb_i x1, hb_i (0 : Int32)] w (fun rv w1 => hb_R yX12_isSame cX12_isSame 5 (some .boolean) (d + 1) 6 [some (hb_r 12 0 0), some (hb_i x1), none, none, none] (rv.toList ++ []) w1 Q)) : hb_R yX12_isSame cX12_isSame 5 (some .boolean) (d + 1) 0 [some (hb_r 12 0 0), some (hb_i x1), none, none, none] [] w Q := by
  refine hb_aload_n (pc := 0) (i := 0) dX12_isSame_0 rfl rfl ?_
  refine hb_iload_n (pc := 1) (i := 1) dX12_isSame_1 rfl rfl ?_
  refine hb_iconst (pc := 2) (v := 0) dX12_isSame_2 (by decide) ?_
  exact hb_callV (pc := 3) (As := [hb_i x1, hb_i (0 : Int32)]) (st := []) dX12_isSame_3 ml_X12_364 mf_X12_marked mi_X12_marked (ci := 12) rfl rfl (by decide) rfl rfl (Nat.le_of_ble_eq_true rfl) (Nat.le_of_ble_eq_true rfl) h (fun _ _ q => q)
set_option maxRecDepth 20000 in
theorem bk_X12_isSame_6 {d : Nat} {w : hb_W} {Q : Option hb_V → hb_W → Prop} {x1 : Int32} {xs0 : Int32} (h : ((¬ (hb_fI w 12 44 0) = (hb_fI w 12 39 0)) → hb_R yX12_isSame cX12_isSame 5 (some .boolean) (d + 1) 42 [some (hb_r 12 0 0), some (hb_i x1), some (hb_i xs0), some (hb_i (0 : Int32)), some (hb_i (0 : Int32))] [] w Q) ∧ (((hb_fI w 12 44 0) = (hb_fI w 12 39 0)) → vp_in ((hb_fI w 12 39 0) - (1 : Int32)) 10 ∧ (((xs0 ≤ (hb_aI w 12 23 0 ((hb_fI w 12 39 0) - (1 : Int32)).toNatClampNeg)) → hb_R yX12_isSame cX12_isSame 5 (some .boolean) (d + 1) 42 [some (hb_r 12 0 0), some (hb_i x1), some (hb_i xs0), some (hb_i (0 : Int32)), some (hb_i (0 : Int32))] [] w Q) ∧ ((¬ xs0 ≤ (hb_aI w 12 23 0 ((hb_fI w 12 39 0) - (1 : Int32)).toNatClampNeg)) → hb_R yX12_isSame cX12_isSame 5 (some .boolean) (d + 1) 42 [some (hb_r 12 0 0), some (hb_i x1), some (hb_i xs0), some (hb_i (1 : Int32)), some (hb_i (0 : Int32))] [] w Q)))) : hb_R yX12_isSame cX12_isSame 5 (some .boolean) (d + 1) 6 [some (hb_r 12 0 0), some (hb_i x1), none, none, none] [hb_i xs0] w Q := by
  refine hb_istore_n (pc := 6) (i := 2) (ls1 := [some (hb_r 12 0 0), some (hb_i x1), some (hb_i xs0), none, none]) dX12_isSame_6 rfl (by decide) rfl ?_
  refine hb_aload_n (pc := 7) (i := 0) dX12_isSame_7 rfl rfl ?_
  refine hb_getIx (pc := 8) (x := hb_fI w 12 44 0) dX12_isSame_8 fw_X12_355 cw_12 rfl (by decide) rfl rfl ?_
  refine hb_aload_n (pc := 11) (i := 0) dX12_isSame_11 rfl rfl ?_
  refine hb_getIx (pc := 12) (x := hb_fI w 12 39 0) dX12_isSame_12 fw_X12_358 cw_12 rfl (by decide) rfl rfl ?_
  refine hb_icmp_ne (pc := 15) (tgt := 37) dX12_isSame_15 (by decide) (fun c1 => ?_) (fun c1 => ?_)
  · have ht1 := h.1 c1
    refine hb_iconst (pc := 37) (v := 0) dX12_isSame_37 (by decide) ?_
    refine hb_istore_n (pc := 38) (i := 3) (ls1 := [some (hb_r 12 0 0), some (hb_i x1), some (hb_i xs0), some (hb_i (0 : Int32)), none]) dX12_isSame_38 rfl (by decide) rfl ?_
    refine hb_iconst (pc := 39) (v := 0) dX12_isSame_39 (by decide) ?_
    refine hb_istore (pc := 40) (i := 4) (ls1 := [some (hb_r 12 0 0), some (hb_i x1), some (hb_i xs0), some (hb_i (0 : Int32)), some (hb_i (0 : Int32))]) dX12_isSame_40 (by decide) rfl ?_
    exact ht1
  · have ht1 := h.2 c1
    refine hb_iload_n (pc := 18) (i := 2) dX12_isSame_18 rfl rfl ?_
    refine hb_aload_n (pc := 19) (i := 0) dX12_isSame_19 rfl rfl ?_
    refine hb_getR (pc := 20) (g1 := 0) dX12_isSame_20 fw_X12_81 cw_12 rfl (by decide) rfl (by decide) rfl ?_
    refine hb_aload_n (pc := 23) (i := 0) dX12_isSame_23 rfl rfl ?_
    refine hb_getIx (pc := 24) (x := hb_fI w 12 39 0) dX12_isSame_24 fw_X12_358 cw_12 rfl (by decide) rfl rfl ?_
    refine hb_iconst (pc := 27) (v := 1) dX12_isSame_27 (by decide) ?_
    refine hb_isub (pc := 28) dX12_isSame_28 ?_
    obtain ⟨ho2, hr2⟩ := ht1
    refine hb_ialdx (pc := 29) (x := hb_aI w 12 23 0 ((hb_fI w 12 39 0) - (1 : Int32)).toNatClampNeg) dX12_isSame_29 rfl (by decide) ho2 rfl ?_
    refine hb_icmp_le (pc := 30) (tgt := 37) dX12_isSame_30 (by decide) (fun c3 => ?_) (fun c3 => ?_)
    · have ht3 := hr2.1 c3
      refine hb_iconst (pc := 37) (v := 0) dX12_isSame_37 (by decide) ?_
      refine hb_istore_n (pc := 38) (i := 3) (ls1 := [some (hb_r 12 0 0), some (hb_i x1), some (hb_i xs0), some (hb_i (0 : Int32)), none]) dX12_isSame_38 rfl (by decide) rfl ?_
      refine hb_iconst (pc := 39) (v := 0) dX12_isSame_39 (by decide) ?_
      refine hb_istore (pc := 40) (i := 4) (ls1 := [some (hb_r 12 0 0), some (hb_i x1), some (hb_i xs0), some (hb_i (0 : Int32)), some (hb_i (0 : Int32))]) dX12_isSame_40 (by decide) rfl ?_
      exact ht3
    · have ht3 := hr2.2 c3
      refine hb_iconst (pc := 33) (v := 1) dX12_isSame_33 (by decide) ?_
      refine hb_goto (pc := 34) (tgt := 38) dX12_isSame_34 (by decide) ?_
      refine hb_istore_n (pc := 38) (i := 3) (ls1 := [some (hb_r 12 0 0), some (hb_i x1), some (hb_i xs0), some (hb_i (1 : Int32)), none]) dX12_isSame_38 rfl (by decide) rfl ?_
      refine hb_iconst (pc := 39) (v := 0) dX12_isSame_39 (by decide) ?_
      refine hb_istore (pc := 40) (i := 4) (ls1 := [some (hb_r 12 0 0), some (hb_i x1), some (hb_i xs0), some (hb_i (1 : Int32)), some (hb_i (0 : Int32))]) dX12_isSame_40 (by decide) rfl ?_
      exact ht3
set_option maxRecDepth 20000 in
theorem bk_X12_isSame_42 {d : Nat} {w : hb_W} {Q : Option hb_V → hb_W → Prop} {x1 : Int32} {x2 : Int32} {x3 : Int32} {x4 : Int32} (h : (((hb_fI w 12 44 0) ≤ x4) → ((x3 = 0) → hb_R yX12_isSame cX12_isSame 5 (some .boolean) (d + 1) 115 [some (hb_r 12 0 0), some (hb_i x1), some (hb_i x2), some (hb_i (0 : Int32)), some (hb_i (0 : Int32))] [] w Q) ∧ ((¬ x3 = 0) → hb_O yX12_marked cX12_marked 3 (some .int) d [hb_r 12 0 0, hb_i x1, hb_i (1 : Int32)] w (fun rv w1 => hb_R yX12_isSame cX12_isSame 5 (some .boolean) (d + 1) 88 [some (hb_r 12 0 0), some (hb_i x1), some (hb_i x2), some (hb_i x3), some (hb_i x4)] (rv.toList ++ []) w1 Q))) ∧ ((¬ (hb_fI w 12 44 0) ≤ x4) → ((¬ x3 = 0) → hb_R yX12_isSame cX12_isSame 5 (some .boolean) (d + 1) 42 [some (hb_r 12 0 0), some (hb_i x1), some (hb_i x2), some (hb_i (1 : Int32)), some (hb_i (x4 + (1 : Int32)))] [] w Q) ∧ ((x3 = 0) → vp_in x4 10 ∧ (((¬ (hb_aI w 12 23 0 x4.toNatClampNeg) = x2) → hb_R yX12_isSame cX12_isSame 5 (some .boolean) (d + 1) 42 [some (hb_r 12 0 0), some (hb_i x1), some (hb_i x2), some (hb_i (0 : Int32)), some (hb_i (x4 + (1 : Int32)))] [] w Q) ∧ (((hb_aI w 12 23 0 x4.toNatClampNeg) = x2) → hb_R yX12_isSame cX12_isSame 5 (some .boolean) (d + 1) 42 [some (hb_r 12 0 0), some (hb_i x1), some (hb_i x2), some (hb_i (1 : Int32)), some (hb_i (x4 + (1 : Int32)))] [] w Q))))) : hb_R yX12_isSame cX12_isSame 5 (some .boolean) (d + 1) 42 [some (hb_r 12 0 0), some (hb_i x1), some (hb_i x2), some (hb_i x3), some (hb_i x4)] [] w Q := by
  refine hb_iload (pc := 42) dX12_isSame_42 rfl ?_
  refine hb_aload_n (pc := 44) (i := 0) dX12_isSame_44 rfl rfl ?_
  refine hb_getIx (pc := 45) (x := hb_fI w 12 44 0) dX12_isSame_45 fw_X12_355 cw_12 rfl (by decide) rfl rfl ?_
  refine hb_icmp_ge (pc := 48) (tgt := 78) dX12_isSame_48 (by decide) (fun c1 => ?_) (fun c1 => ?_)
  · have ht1 := h.1 c1
    refine hb_iload_n (pc := 78) (i := 3) dX12_isSame_78 rfl rfl ?_
    refine hb_if_eq (pc := 79) (tgt := 110) dX12_isSame_79 (by decide) (fun c2 => ?_) (fun c2 => ?_)
    · have ht2 := ht1.1 c2
      refine hb_iconst (pc := 110) (v := 0) dX12_isSame_110 (by decide) ?_
      refine hb_istore_n (pc := 111) (i := 3) (ls1 := [some (hb_r 12 0 0), some (hb_i x1), some (hb_i x2), some (hb_i (0 : Int32)), some (hb_i x4)]) dX12_isSame_111 rfl (by decide) rfl ?_
      refine hb_iconst (pc := 112) (v := 0) dX12_isSame_112 (by decide) ?_
      refine hb_istore (pc := 113) (i := 4) (ls1 := [some (hb_r 12 0 0), some (hb_i x1), some (hb_i x2), some (hb_i (0 : Int32)), some (hb_i (0 : Int32))]) dX12_isSame_113 (by decide) rfl ?_
      exact ht2
    · have ht2 := ht1.2 c2
      refine hb_aload_n (pc := 82) (i := 0) dX12_isSame_82 rfl rfl ?_
      refine hb_iload_n (pc := 83) (i := 1) dX12_isSame_83 rfl rfl ?_
      refine hb_iconst (pc := 84) (v := 1) dX12_isSame_84 (by decide) ?_
      exact hb_callV (pc := 85) (As := [hb_i x1, hb_i (1 : Int32)]) (st := []) dX12_isSame_85 ml_X12_364 mf_X12_marked mi_X12_marked (ci := 12) rfl rfl (by decide) rfl rfl (Nat.le_of_ble_eq_true rfl) (Nat.le_of_ble_eq_true rfl) ht2 (fun _ _ q => q)
  · have ht1 := h.2 c1
    refine hb_iload_n (pc := 51) (i := 3) dX12_isSame_51 rfl rfl ?_
    refine hb_if_ne (pc := 52) (tgt := 66) dX12_isSame_52 (by decide) (fun c3 => ?_) (fun c3 => ?_)
    · have ht3 := ht1.1 c3
      refine hb_iconst (pc := 66) (v := 1) dX12_isSame_66 (by decide) ?_
      refine hb_goto (pc := 67) (tgt := 71) dX12_isSame_67 (by decide) ?_
      refine hb_istore_n (pc := 71) (i := 3) (ls1 := [some (hb_r 12 0 0), some (hb_i x1), some (hb_i x2), some (hb_i (1 : Int32)), some (hb_i x4)]) dX12_isSame_71 rfl (by decide) rfl ?_
      refine hb_iinc (pc := 72) (v := x4 + (1 : Int32)) (ls1 := [some (hb_r 12 0 0), some (hb_i x1), some (hb_i x2), some (hb_i (1 : Int32)), some (hb_i (x4 + (1 : Int32)))]) dX12_isSame_72 rfl rfl (by decide) rfl ?_
      refine hb_goto (pc := 75) (tgt := 42) dX12_isSame_75 (by decide) ?_
      exact ht3
    · have ht3 := ht1.2 c3
      refine hb_aload_n (pc := 55) (i := 0) dX12_isSame_55 rfl rfl ?_
      refine hb_getR (pc := 56) (g1 := 0) dX12_isSame_56 fw_X12_81 cw_12 rfl (by decide) rfl (by decide) rfl ?_
      refine hb_iload (pc := 59) dX12_isSame_59 rfl ?_
      obtain ⟨ho4, hr4⟩ := ht3
      refine hb_ialdx (pc := 61) (x := hb_aI w 12 23 0 x4.toNatClampNeg) dX12_isSame_61 rfl (by decide) ho4 rfl ?_
      refine hb_iload_n (pc := 62) (i := 2) dX12_isSame_62 rfl rfl ?_
      refine hb_icmp_ne (pc := 63) (tgt := 70) dX12_isSame_63 (by decide) (fun c5 => ?_) (fun c5 => ?_)
      · have ht5 := hr4.1 c5
        refine hb_iconst (pc := 70) (v := 0) dX12_isSame_70 (by decide) ?_
        refine hb_istore_n (pc := 71) (i := 3) (ls1 := [some (hb_r 12 0 0), some (hb_i x1), some (hb_i x2), some (hb_i (0 : Int32)), some (hb_i x4)]) dX12_isSame_71 rfl (by decide) rfl ?_
        refine hb_iinc (pc := 72) (v := x4 + (1 : Int32)) (ls1 := [some (hb_r 12 0 0), some (hb_i x1), some (hb_i x2), some (hb_i (0 : Int32)), some (hb_i (x4 + (1 : Int32)))]) dX12_isSame_72 rfl rfl (by decide) rfl ?_
        refine hb_goto (pc := 75) (tgt := 42) dX12_isSame_75 (by decide) ?_
        exact ht5
      · have ht5 := hr4.2 c5
        refine hb_iconst (pc := 66) (v := 1) dX12_isSame_66 (by decide) ?_
        refine hb_goto (pc := 67) (tgt := 71) dX12_isSame_67 (by decide) ?_
        refine hb_istore_n (pc := 71) (i := 3) (ls1 := [some (hb_r 12 0 0), some (hb_i x1), some (hb_i x2), some (hb_i (1 : Int32)), some (hb_i x4)]) dX12_isSame_71 rfl (by decide) rfl ?_
        refine hb_iinc (pc := 72) (v := x4 + (1 : Int32)) (ls1 := [some (hb_r 12 0 0), some (hb_i x1), some (hb_i x2), some (hb_i (1 : Int32)), some (hb_i (x4 + (1 : Int32)))]) dX12_isSame_72 rfl rfl (by decide) rfl ?_
        refine hb_goto (pc := 75) (tgt := 42) dX12_isSame_75 (by decide) ?_
        exact ht5
set_option maxRecDepth 20000 in
theorem bk_X12_isSame_88 {d : Nat} {w : hb_W} {Q : Option hb_V → hb_W → Prop} {x1 : Int32} {x2 : Int32} {x3 : Int32} {x4 : Int32} {xs0 : Int32} (h : hb_O yX12_noughts cX12_noughts 3 (some .int) d [hb_i xs0] w (fun rv w1 => hb_R yX12_isSame cX12_isSame 5 (some .boolean) (d + 1) 91 [some (hb_r 12 0 0), some (hb_i x1), some (hb_i x2), some (hb_i x3), some (hb_i x4)] (rv.toList ++ []) w1 Q)) : hb_R yX12_isSame cX12_isSame 5 (some .boolean) (d + 1) 88 [some (hb_r 12 0 0), some (hb_i x1), some (hb_i x2), some (hb_i x3), some (hb_i x4)] [hb_i xs0] w Q := by
  exact hb_callS (pc := 88) (As := [hb_i xs0]) (st := []) dX12_isSame_88 ml_X12_370 mf_X12_noughts ms_X12_noughts rfl rfl (Nat.le_of_ble_eq_true rfl) (Nat.le_of_ble_eq_true rfl) h (fun _ _ q => q)
set_option maxRecDepth 20000 in
theorem bk_X12_isSame_91 {d : Nat} {w : hb_W} {Q : Option hb_V → hb_W → Prop} {x1 : Int32} {x2 : Int32} {x3 : Int32} {x4 : Int32} {xs0 : Int32} (h : (((hb_fI w 12 45 0) < xs0) → hb_R yX12_isSame cX12_isSame 5 (some .boolean) (d + 1) 115 [some (hb_r 12 0 0), some (hb_i x1), some (hb_i x2), some (hb_i (0 : Int32)), some (hb_i (0 : Int32))] [] w Q) ∧ ((¬ (hb_fI w 12 45 0) < xs0) → hb_O yX12_wasThere cX12_wasThere 2 (some .boolean) d [hb_r 12 0 0, hb_i x1] w (fun rv w1 => hb_R yX12_isSame cX12_isSame 5 (some .boolean) (d + 1) 103 [some (hb_r 12 0 0), some (hb_i x1), some (hb_i x2), some (hb_i x3), some (hb_i x4)] (rv.toList ++ []) w1 Q))) : hb_R yX12_isSame cX12_isSame 5 (some .boolean) (d + 1) 91 [some (hb_r 12 0 0), some (hb_i x1), some (hb_i x2), some (hb_i x3), some (hb_i x4)] [hb_i xs0] w Q := by
  refine hb_aload_n (pc := 91) (i := 0) dX12_isSame_91 rfl rfl ?_
  refine hb_getIx (pc := 92) (x := hb_fI w 12 45 0) dX12_isSame_92 fw_X12_374 cw_12 rfl (by decide) rfl rfl ?_
  refine hb_icmp_gt (pc := 95) (tgt := 110) dX12_isSame_95 (by decide) (fun c1 => ?_) (fun c1 => ?_)
  · have ht1 := h.1 c1
    refine hb_iconst (pc := 110) (v := 0) dX12_isSame_110 (by decide) ?_
    refine hb_istore_n (pc := 111) (i := 3) (ls1 := [some (hb_r 12 0 0), some (hb_i x1), some (hb_i x2), some (hb_i (0 : Int32)), some (hb_i x4)]) dX12_isSame_111 rfl (by decide) rfl ?_
    refine hb_iconst (pc := 112) (v := 0) dX12_isSame_112 (by decide) ?_
    refine hb_istore (pc := 113) (i := 4) (ls1 := [some (hb_r 12 0 0), some (hb_i x1), some (hb_i x2), some (hb_i (0 : Int32)), some (hb_i (0 : Int32))]) dX12_isSame_113 (by decide) rfl ?_
    exact ht1
  · have ht1 := h.2 c1
    refine hb_aload_n (pc := 98) (i := 0) dX12_isSame_98 rfl rfl ?_
    refine hb_iload_n (pc := 99) (i := 1) dX12_isSame_99 rfl rfl ?_
    exact hb_callV (pc := 100) (As := [hb_i x1]) (st := []) dX12_isSame_100 ml_X12_399 mf_X12_wasThere mi_X12_wasThere (ci := 12) rfl rfl (by decide) rfl rfl (Nat.le_of_ble_eq_true rfl) (Nat.le_of_ble_eq_true rfl) ht1 (fun _ _ q => q)
set_option maxRecDepth 20000 in
theorem bk_X12_isSame_103 {d : Nat} {w : hb_W} {Q : Option hb_V → hb_W → Prop} {x1 : Int32} {x2 : Int32} {x3 : Int32} {x4 : Int32} {xs0 : Int32} (h : ((xs0 = 0) → hb_R yX12_isSame cX12_isSame 5 (some .boolean) (d + 1) 115 [some (hb_r 12 0 0), some (hb_i x1), some (hb_i x2), some (hb_i (0 : Int32)), some (hb_i (0 : Int32))] [] w Q) ∧ ((¬ xs0 = 0) → hb_R yX12_isSame cX12_isSame 5 (some .boolean) (d + 1) 115 [some (hb_r 12 0 0), some (hb_i x1), some (hb_i x2), some (hb_i (1 : Int32)), some (hb_i (0 : Int32))] [] w Q)) : hb_R yX12_isSame cX12_isSame 5 (some .boolean) (d + 1) 103 [some (hb_r 12 0 0), some (hb_i x1), some (hb_i x2), some (hb_i x3), some (hb_i x4)] [hb_i xs0] w Q := by
  refine hb_if_eq (pc := 103) (tgt := 110) dX12_isSame_103 (by decide) (fun c1 => ?_) (fun c1 => ?_)
  · have ht1 := h.1 c1
    refine hb_iconst (pc := 110) (v := 0) dX12_isSame_110 (by decide) ?_
    refine hb_istore_n (pc := 111) (i := 3) (ls1 := [some (hb_r 12 0 0), some (hb_i x1), some (hb_i x2), some (hb_i (0 : Int32)), some (hb_i x4)]) dX12_isSame_111 rfl (by decide) rfl ?_
    refine hb_iconst (pc := 112) (v := 0) dX12_isSame_112 (by decide) ?_
    refine hb_istore (pc := 113) (i := 4) (ls1 := [some (hb_r 12 0 0), some (hb_i x1), some (hb_i x2), some (hb_i (0 : Int32)), some (hb_i (0 : Int32))]) dX12_isSame_113 (by decide) rfl ?_
    exact ht1
  · have ht1 := h.2 c1
    refine hb_iconst (pc := 106) (v := 1) dX12_isSame_106 (by decide) ?_
    refine hb_goto (pc := 107) (tgt := 111) dX12_isSame_107 (by decide) ?_
    refine hb_istore_n (pc := 111) (i := 3) (ls1 := [some (hb_r 12 0 0), some (hb_i x1), some (hb_i x2), some (hb_i (1 : Int32)), some (hb_i x4)]) dX12_isSame_111 rfl (by decide) rfl ?_
    refine hb_iconst (pc := 112) (v := 0) dX12_isSame_112 (by decide) ?_
    refine hb_istore (pc := 113) (i := 4) (ls1 := [some (hb_r 12 0 0), some (hb_i x1), some (hb_i x2), some (hb_i (1 : Int32)), some (hb_i (0 : Int32))]) dX12_isSame_113 (by decide) rfl ?_
    exact ht1
set_option maxRecDepth 20000 in
theorem bk_X12_isSame_115 {d : Nat} {w : hb_W} {Q : Option hb_V → hb_W → Prop} {x1 : Int32} {x2 : Int32} {x3 : Int32} {x4 : Int32} (h : (((hb_fI w 12 39 0) ≤ x4) → (x3 = 0 ∨ x3 = 1) ∧ Q (some (hb_i x3)) w) ∧ ((¬ (hb_fI w 12 39 0) ≤ x4) → ((x3 = 0) → hb_R yX12_isSame cX12_isSame 5 (some .boolean) (d + 1) 115 [some (hb_r 12 0 0), some (hb_i x1), some (hb_i x2), some (hb_i (0 : Int32)), some (hb_i (x4 + (1 : Int32)))] [] w Q) ∧ ((¬ x3 = 0) → vp_in x4 9 ∧ ((((hb_aI w 12 29 0 x4.toNatClampNeg) = (-1 : Int32)) → hb_R yX12_isSame cX12_isSame 5 (some .boolean) (d + 1) 115 [some (hb_r 12 0 0), some (hb_i x1), some (hb_i x2), some (hb_i (0 : Int32)), some (hb_i (x4 + (1 : Int32)))] [] w Q) ∧ ((¬ (hb_aI w 12 29 0 x4.toNatClampNeg) = (-1 : Int32)) → hb_O yX12_marked cX12_marked 3 (some .int) d [hb_r 12 0 0, hb_i x1, hb_i x4] w (fun rv w1 => hb_R yX12_isSame cX12_isSame 5 (some .boolean) (d + 1) 146 [some (hb_r 12 0 0), some (hb_i x1), some (hb_i x2), some (hb_i x3), some (hb_i x4)] (rv.toList ++ []) w1 Q)))))) : hb_R yX12_isSame cX12_isSame 5 (some .boolean) (d + 1) 115 [some (hb_r 12 0 0), some (hb_i x1), some (hb_i x2), some (hb_i x3), some (hb_i x4)] [] w Q := by
  refine hb_iload (pc := 115) dX12_isSame_115 rfl ?_
  refine hb_aload_n (pc := 117) (i := 0) dX12_isSame_117 rfl rfl ?_
  refine hb_getIx (pc := 118) (x := hb_fI w 12 39 0) dX12_isSame_118 fw_X12_358 cw_12 rfl (by decide) rfl rfl ?_
  refine hb_icmp_ge (pc := 121) (tgt := 168) dX12_isSame_121 (by decide) (fun c1 => ?_) (fun c1 => ?_)
  · have ht1 := h.1 c1
    refine hb_iload_n (pc := 168) (i := 3) dX12_isSame_168 rfl rfl ?_
    exact hb_zret (pc := 169) dX12_isSame_169 rfl ht1.1 ht1.2
  · have ht1 := h.2 c1
    refine hb_iload_n (pc := 124) (i := 3) dX12_isSame_124 rfl rfl ?_
    refine hb_if_eq (pc := 125) (tgt := 160) dX12_isSame_125 (by decide) (fun c2 => ?_) (fun c2 => ?_)
    · have ht2 := ht1.1 c2
      refine hb_iconst (pc := 160) (v := 0) dX12_isSame_160 (by decide) ?_
      refine hb_istore_n (pc := 161) (i := 3) (ls1 := [some (hb_r 12 0 0), some (hb_i x1), some (hb_i x2), some (hb_i (0 : Int32)), some (hb_i x4)]) dX12_isSame_161 rfl (by decide) rfl ?_
      refine hb_iinc (pc := 162) (v := x4 + (1 : Int32)) (ls1 := [some (hb_r 12 0 0), some (hb_i x1), some (hb_i x2), some (hb_i (0 : Int32)), some (hb_i (x4 + (1 : Int32)))]) dX12_isSame_162 rfl rfl (by decide) rfl ?_
      refine hb_goto (pc := 165) (tgt := 115) dX12_isSame_165 (by decide) ?_
      exact ht2
    · have ht2 := ht1.2 c2
      refine hb_aload_n (pc := 128) (i := 0) dX12_isSame_128 rfl rfl ?_
      refine hb_getR (pc := 129) (g1 := 0) dX12_isSame_129 fw_X12_100 cw_12 rfl (by decide) rfl (by decide) rfl ?_
      refine hb_iload (pc := 132) dX12_isSame_132 rfl ?_
      obtain ⟨ho3, hr3⟩ := ht2
      refine hb_ialdx (pc := 134) (x := hb_aI w 12 29 0 x4.toNatClampNeg) dX12_isSame_134 rfl (by decide) ho3 rfl ?_
      refine hb_iconst (pc := 135) (v := -1) dX12_isSame_135 (by decide) ?_
      refine hb_icmp_eq (pc := 136) (tgt := 160) dX12_isSame_136 (by decide) (fun c4 => ?_) (fun c4 => ?_)
      · have ht4 := hr3.1 c4
        refine hb_iconst (pc := 160) (v := 0) dX12_isSame_160 (by decide) ?_
        refine hb_istore_n (pc := 161) (i := 3) (ls1 := [some (hb_r 12 0 0), some (hb_i x1), some (hb_i x2), some (hb_i (0 : Int32)), some (hb_i x4)]) dX12_isSame_161 rfl (by decide) rfl ?_
        refine hb_iinc (pc := 162) (v := x4 + (1 : Int32)) (ls1 := [some (hb_r 12 0 0), some (hb_i x1), some (hb_i x2), some (hb_i (0 : Int32)), some (hb_i (x4 + (1 : Int32)))]) dX12_isSame_162 rfl rfl (by decide) rfl ?_
        refine hb_goto (pc := 165) (tgt := 115) dX12_isSame_165 (by decide) ?_
        exact ht4
      · have ht4 := hr3.2 c4
        refine hb_aload_n (pc := 139) (i := 0) dX12_isSame_139 rfl rfl ?_
        refine hb_iload_n (pc := 140) (i := 1) dX12_isSame_140 rfl rfl ?_
        refine hb_iload (pc := 141) dX12_isSame_141 rfl ?_
        exact hb_callV (pc := 143) (As := [hb_i x1, hb_i x4]) (st := []) dX12_isSame_143 ml_X12_364 mf_X12_marked mi_X12_marked (ci := 12) rfl rfl (by decide) rfl rfl (Nat.le_of_ble_eq_true rfl) (Nat.le_of_ble_eq_true rfl) ht4 (fun _ _ q => q)
set_option maxRecDepth 20000 in
theorem bk_X12_isSame_146 {d : Nat} {w : hb_W} {Q : Option hb_V → hb_W → Prop} {x1 : Int32} {x2 : Int32} {x3 : Int32} {x4 : Int32} {xs0 : Int32} (h : vp_in x4 9 ∧ (((xs0 < (hb_aI w 12 29 0 x4.toNatClampNeg)) → hb_R yX12_isSame cX12_isSame 5 (some .boolean) (d + 1) 115 [some (hb_r 12 0 0), some (hb_i x1), some (hb_i x2), some (hb_i (0 : Int32)), some (hb_i (x4 + (1 : Int32)))] [] w Q) ∧ ((¬ xs0 < (hb_aI w 12 29 0 x4.toNatClampNeg)) → hb_R yX12_isSame cX12_isSame 5 (some .boolean) (d + 1) 115 [some (hb_r 12 0 0), some (hb_i x1), some (hb_i x2), some (hb_i (1 : Int32)), some (hb_i (x4 + (1 : Int32)))] [] w Q))) : hb_R yX12_isSame cX12_isSame 5 (some .boolean) (d + 1) 146 [some (hb_r 12 0 0), some (hb_i x1), some (hb_i x2), some (hb_i x3), some (hb_i x4)] [hb_i xs0] w Q := by
  refine hb_aload_n (pc := 146) (i := 0) dX12_isSame_146 rfl rfl ?_
  refine hb_getR (pc := 147) (g1 := 0) dX12_isSame_147 fw_X12_100 cw_12 rfl (by decide) rfl (by decide) rfl ?_
  refine hb_iload (pc := 150) dX12_isSame_150 rfl ?_
  obtain ⟨ho1, hr1⟩ := h
  refine hb_ialdx (pc := 152) (x := hb_aI w 12 29 0 x4.toNatClampNeg) dX12_isSame_152 rfl (by decide) ho1 rfl ?_
  refine hb_icmp_lt (pc := 153) (tgt := 160) dX12_isSame_153 (by decide) (fun c2 => ?_) (fun c2 => ?_)
  · have ht2 := hr1.1 c2
    refine hb_iconst (pc := 160) (v := 0) dX12_isSame_160 (by decide) ?_
    refine hb_istore_n (pc := 161) (i := 3) (ls1 := [some (hb_r 12 0 0), some (hb_i x1), some (hb_i x2), some (hb_i (0 : Int32)), some (hb_i x4)]) dX12_isSame_161 rfl (by decide) rfl ?_
    refine hb_iinc (pc := 162) (v := x4 + (1 : Int32)) (ls1 := [some (hb_r 12 0 0), some (hb_i x1), some (hb_i x2), some (hb_i (0 : Int32)), some (hb_i (x4 + (1 : Int32)))]) dX12_isSame_162 rfl rfl (by decide) rfl ?_
    refine hb_goto (pc := 165) (tgt := 115) dX12_isSame_165 (by decide) ?_
    exact ht2
  · have ht2 := hr1.2 c2
    refine hb_iconst (pc := 156) (v := 1) dX12_isSame_156 (by decide) ?_
    refine hb_goto (pc := 157) (tgt := 161) dX12_isSame_157 (by decide) ?_
    refine hb_istore_n (pc := 161) (i := 3) (ls1 := [some (hb_r 12 0 0), some (hb_i x1), some (hb_i x2), some (hb_i (1 : Int32)), some (hb_i x4)]) dX12_isSame_161 rfl (by decide) rfl ?_
    refine hb_iinc (pc := 162) (v := x4 + (1 : Int32)) (ls1 := [some (hb_r 12 0 0), some (hb_i x1), some (hb_i x2), some (hb_i (1 : Int32)), some (hb_i (x4 + (1 : Int32)))]) dX12_isSame_162 rfl rfl (by decide) rfl ?_
    refine hb_goto (pc := 165) (tgt := 115) dX12_isSame_165 (by decide) ?_
    exact ht2
theorem dX12_same_0 : decode cX12_same 0 = .ok (.aload_n 0, 1) := by decide +kernel
theorem dX12_same_1 : decode cX12_same 1 = .ok (.getfield 302, 3) := by decide +kernel
theorem dX12_same_4 : decode cX12_same 4 = .ok (.ifCond .eq 15, 3) := by decide +kernel
theorem dX12_same_7 : decode cX12_same 7 = .ok (.aload_n 0, 1) := by decide +kernel
theorem dX12_same_8 : decode cX12_same 8 = .ok (.getfield 66, 3) := by decide +kernel
theorem dX12_same_11 : decode cX12_same 11 = .ok (.iconst 1, 1) := by decide +kernel
theorem dX12_same_12 : decode cX12_same 12 = .ok (.iaload, 1) := by decide +kernel
theorem dX12_same_13 : decode cX12_same 13 = .ok (.sipush 400, 3) := by decide +kernel
theorem dX12_same_16 : decode cX12_same 16 = .ok (.if_icmp .ne 5, 3) := by decide +kernel
theorem dX12_same_19 : decode cX12_same 19 = .ok (.iconst (-1), 1) := by decide +kernel
theorem dX12_same_20 : decode cX12_same 20 = .ok (.ireturn, 1) := by decide +kernel
theorem dX12_same_21 : decode cX12_same 21 = .ok (.aload_n 0, 1) := by decide +kernel
theorem dX12_same_22 : decode cX12_same 22 = .ok (.iconst 2, 1) := by decide +kernel
theorem dX12_same_23 : decode cX12_same 23 = .ok (.invokevirtual 449, 3) := by decide +kernel
theorem dX12_same_26 : decode cX12_same 26 = .ok (.iconst 0, 1) := by decide +kernel
theorem dX12_same_27 : decode cX12_same 27 = .ok (.istore_n 2, 1) := by decide +kernel
theorem dX12_same_28 : decode cX12_same 28 = .ok (.iconst 0, 1) := by decide +kernel
theorem dX12_same_29 : decode cX12_same 29 = .ok (.istore_n 3, 1) := by decide +kernel
theorem dX12_same_30 : decode cX12_same 30 = .ok (.iload_n 3, 1) := by decide +kernel
theorem dX12_same_31 : decode cX12_same 31 = .ok (.bipush 64, 2) := by decide +kernel
theorem dX12_same_33 : decode cX12_same 33 = .ok (.if_icmp .ge 30, 3) := by decide +kernel
theorem dX12_same_36 : decode cX12_same 36 = .ok (.aload_n 0, 1) := by decide +kernel
theorem dX12_same_37 : decode cX12_same 37 = .ok (.iload_n 3, 1) := by decide +kernel
theorem dX12_same_38 : decode cX12_same 38 = .ok (.invokevirtual 469, 3) := by decide +kernel
theorem dX12_same_41 : decode cX12_same 41 = .ok (.ifCond .ne 6, 3) := by decide +kernel
theorem dX12_same_44 : decode cX12_same 44 = .ok (.goto 13, 3) := by decide +kernel
theorem dX12_same_47 : decode cX12_same 47 = .ok (.iload_n 2, 1) := by decide +kernel
theorem dX12_same_48 : decode cX12_same 48 = .ok (.iload_n 1, 1) := by decide +kernel
theorem dX12_same_49 : decode cX12_same 49 = .ok (.if_icmp .ne 5, 3) := by decide +kernel
theorem dX12_same_52 : decode cX12_same 52 = .ok (.iload_n 3, 1) := by decide +kernel
theorem dX12_same_53 : decode cX12_same 53 = .ok (.ireturn, 1) := by decide +kernel
theorem dX12_same_54 : decode cX12_same 54 = .ok (.iinc 2 1, 3) := by decide +kernel
theorem dX12_same_57 : decode cX12_same 57 = .ok (.iinc 3 1, 3) := by decide +kernel
theorem dX12_same_60 : decode cX12_same 60 = .ok (.goto (-30), 3) := by decide +kernel
theorem dX12_same_63 : decode cX12_same 63 = .ok (.iload_n 1, 1) := by decide +kernel
theorem dX12_same_64 : decode cX12_same 64 = .ok (.iconst (-1), 1) := by decide +kernel
theorem dX12_same_65 : decode cX12_same 65 = .ok (.if_icmp .ne 7, 3) := by decide +kernel
theorem dX12_same_68 : decode cX12_same 68 = .ok (.iload_n 2, 1) := by decide +kernel
theorem dX12_same_69 : decode cX12_same 69 = .ok (.goto 4, 3) := by decide +kernel
theorem dX12_same_72 : decode cX12_same 72 = .ok (.iconst (-1), 1) := by decide +kernel
theorem dX12_same_73 : decode cX12_same 73 = .ok (.ireturn, 1) := by decide +kernel
set_option maxRecDepth 20000 in
theorem bk_X12_same_0 {d : Nat} {w : hb_W} {Q : Option hb_V → hb_W → Prop} {x1 : Int32} (h : (((hb_fI w 12 30 0) = 0) → Q (some (hb_i (-1 : Int32))) w) ∧ ((¬ (hb_fI w 12 30 0) = 0) → ((¬ (hb_aI w 12 18 0 (1 : Int32).toNatClampNeg) = (400 : Int32)) → hb_O yX12_lays cX12_lays 2 none d [hb_r 12 0 0, hb_i (2 : Int32)] w (fun rv w1 => hb_R yX12_same cX12_same 4 (some .int) (d + 1) 26 [some (hb_r 12 0 0), some (hb_i x1), none, none] (rv.toList ++ []) w1 Q)) ∧ (((hb_aI w 12 18 0 (1 : Int32).toNatClampNeg) = (400 : Int32)) → Q (some (hb_i (-1 : Int32))) w))) : hb_R yX12_same cX12_same 4 (some .int) (d + 1) 0 [some (hb_r 12 0 0), some (hb_i x1), none, none] [] w Q := by
  refine hb_aload_n (pc := 0) (i := 0) dX12_same_0 rfl rfl ?_
  refine hb_getIx (pc := 1) (x := hb_fI w 12 30 0) dX12_same_1 fw_X12_302 cw_12 rfl (by decide) rfl rfl ?_
  refine hb_if_eq (pc := 4) (tgt := 19) dX12_same_4 (by decide) (fun c1 => ?_) (fun c1 => ?_)
  · have ht1 := h.1 c1
    refine hb_iconst (pc := 19) (v := -1) dX12_same_19 (by decide) ?_
    exact hb_iret (pc := 20) dX12_same_20 rfl ht1
  · have ht1 := h.2 c1
    refine hb_aload_n (pc := 7) (i := 0) dX12_same_7 rfl rfl ?_
    refine hb_getR (pc := 8) (g1 := 0) dX12_same_8 fw_X12_66 cw_12 rfl (by decide) rfl (by decide) rfl ?_
    refine hb_iconst (pc := 11) (v := 1) dX12_same_11 (by decide) ?_
    refine hb_ialdx (pc := 12) (x := hb_aI w 12 18 0 (1 : Int32).toNatClampNeg) dX12_same_12 (n := 11) rfl (by decide) (by unfold vp_in; decide) rfl ?_
    refine hb_sipush (pc := 13) (v := 400) dX12_same_13 (by decide) ?_
    refine hb_icmp_ne (pc := 16) (tgt := 21) dX12_same_16 (by decide) (fun c2 => ?_) (fun c2 => ?_)
    · have ht2 := ht1.1 c2
      refine hb_aload_n (pc := 21) (i := 0) dX12_same_21 rfl rfl ?_
      refine hb_iconst (pc := 22) (v := 2) dX12_same_22 (by decide) ?_
      exact hb_callV (pc := 23) (As := [hb_i (2 : Int32)]) (st := []) dX12_same_23 ml_X12_449 mf_X12_lays mi_X12_lays (ci := 12) rfl rfl (by decide) rfl rfl (Nat.le_of_ble_eq_true rfl) (Nat.le_of_ble_eq_true rfl) ht2 (fun _ _ q => q)
    · have ht2 := ht1.2 c2
      refine hb_iconst (pc := 19) (v := -1) dX12_same_19 (by decide) ?_
      exact hb_iret (pc := 20) dX12_same_20 rfl ht2
set_option maxRecDepth 20000 in
theorem bk_X12_same_26 {d : Nat} {w : hb_W} {Q : Option hb_V → hb_W → Prop} {x1 : Int32} (h : hb_R yX12_same cX12_same 4 (some .int) (d + 1) 30 [some (hb_r 12 0 0), some (hb_i x1), some (hb_i (0 : Int32)), some (hb_i (0 : Int32))] [] w Q) : hb_R yX12_same cX12_same 4 (some .int) (d + 1) 26 [some (hb_r 12 0 0), some (hb_i x1), none, none] [] w Q := by
  refine hb_iconst (pc := 26) (v := 0) dX12_same_26 (by decide) ?_
  refine hb_istore_n (pc := 27) (i := 2) (ls1 := [some (hb_r 12 0 0), some (hb_i x1), some (hb_i (0 : Int32)), none]) dX12_same_27 rfl (by decide) rfl ?_
  refine hb_iconst (pc := 28) (v := 0) dX12_same_28 (by decide) ?_
  refine hb_istore_n (pc := 29) (i := 3) (ls1 := [some (hb_r 12 0 0), some (hb_i x1), some (hb_i (0 : Int32)), some (hb_i (0 : Int32))]) dX12_same_29 rfl (by decide) rfl ?_
  exact h
set_option maxRecDepth 20000 in
theorem bk_X12_same_30 {d : Nat} {w : hb_W} {Q : Option hb_V → hb_W → Prop} {x1 : Int32} {x2 : Int32} {x3 : Int32} (h : (((64 : Int32) ≤ x3) → ((¬ x1 = (-1 : Int32)) → Q (some (hb_i (-1 : Int32))) w) ∧ ((x1 = (-1 : Int32)) → Q (some (hb_i x2)) w)) ∧ ((¬ (64 : Int32) ≤ x3) → hb_O yX12_isSame cX12_isSame 5 (some .boolean) d [hb_r 12 0 0, hb_i x3] w (fun rv w1 => hb_R yX12_same cX12_same 4 (some .int) (d + 1) 41 [some (hb_r 12 0 0), some (hb_i x1), some (hb_i x2), some (hb_i x3)] (rv.toList ++ []) w1 Q))) : hb_R yX12_same cX12_same 4 (some .int) (d + 1) 30 [some (hb_r 12 0 0), some (hb_i x1), some (hb_i x2), some (hb_i x3)] [] w Q := by
  refine hb_iload_n (pc := 30) (i := 3) dX12_same_30 rfl rfl ?_
  refine hb_bipush (pc := 31) (v := 64) dX12_same_31 (by decide) ?_
  refine hb_icmp_ge (pc := 33) (tgt := 63) dX12_same_33 (by decide) (fun c1 => ?_) (fun c1 => ?_)
  · have ht1 := h.1 c1
    refine hb_iload_n (pc := 63) (i := 1) dX12_same_63 rfl rfl ?_
    refine hb_iconst (pc := 64) (v := -1) dX12_same_64 (by decide) ?_
    refine hb_icmp_ne (pc := 65) (tgt := 72) dX12_same_65 (by decide) (fun c2 => ?_) (fun c2 => ?_)
    · have ht2 := ht1.1 c2
      refine hb_iconst (pc := 72) (v := -1) dX12_same_72 (by decide) ?_
      exact hb_iret (pc := 73) dX12_same_73 rfl ht2
    · have ht2 := ht1.2 c2
      refine hb_iload_n (pc := 68) (i := 2) dX12_same_68 rfl rfl ?_
      refine hb_goto (pc := 69) (tgt := 73) dX12_same_69 (by decide) ?_
      exact hb_iret (pc := 73) dX12_same_73 rfl ht2
  · have ht1 := h.2 c1
    refine hb_aload_n (pc := 36) (i := 0) dX12_same_36 rfl rfl ?_
    refine hb_iload_n (pc := 37) (i := 3) dX12_same_37 rfl rfl ?_
    exact hb_callV (pc := 38) (As := [hb_i x3]) (st := []) dX12_same_38 ml_X12_469 mf_X12_isSame mi_X12_isSame (ci := 12) rfl rfl (by decide) rfl rfl (Nat.le_of_ble_eq_true rfl) (Nat.le_of_ble_eq_true rfl) ht1 (fun _ _ q => q)
set_option maxRecDepth 20000 in
theorem bk_X12_same_41 {d : Nat} {w : hb_W} {Q : Option hb_V → hb_W → Prop} {x1 : Int32} {x2 : Int32} {x3 : Int32} {xs0 : Int32} (h : ((¬ xs0 = 0) → ((¬ x2 = x1) → hb_R yX12_same cX12_same 4 (some .int) (d + 1) 30 [some (hb_r 12 0 0), some (hb_i x1), some (hb_i (x2 + (1 : Int32))), some (hb_i (x3 + (1 : Int32)))] [] w Q) ∧ ((x2 = x1) → Q (some (hb_i x3)) w)) ∧ ((xs0 = 0) → hb_R yX12_same cX12_same 4 (some .int) (d + 1) 30 [some (hb_r 12 0 0), some (hb_i x1), some (hb_i x2), some (hb_i (x3 + (1 : Int32)))] [] w Q)) : hb_R yX12_same cX12_same 4 (some .int) (d + 1) 41 [some (hb_r 12 0 0), some (hb_i x1), some (hb_i x2), some (hb_i x3)] [hb_i xs0] w Q := by
  refine hb_if_ne (pc := 41) (tgt := 47) dX12_same_41 (by decide) (fun c1 => ?_) (fun c1 => ?_)
  · have ht1 := h.1 c1
    refine hb_iload_n (pc := 47) (i := 2) dX12_same_47 rfl rfl ?_
    refine hb_iload_n (pc := 48) (i := 1) dX12_same_48 rfl rfl ?_
    refine hb_icmp_ne (pc := 49) (tgt := 54) dX12_same_49 (by decide) (fun c2 => ?_) (fun c2 => ?_)
    · have ht2 := ht1.1 c2
      refine hb_iinc (pc := 54) (v := x2 + (1 : Int32)) (ls1 := [some (hb_r 12 0 0), some (hb_i x1), some (hb_i (x2 + (1 : Int32))), some (hb_i x3)]) dX12_same_54 rfl rfl (by decide) rfl ?_
      refine hb_iinc (pc := 57) (v := x3 + (1 : Int32)) (ls1 := [some (hb_r 12 0 0), some (hb_i x1), some (hb_i (x2 + (1 : Int32))), some (hb_i (x3 + (1 : Int32)))]) dX12_same_57 rfl rfl (by decide) rfl ?_
      refine hb_goto (pc := 60) (tgt := 30) dX12_same_60 (by decide) ?_
      exact ht2
    · have ht2 := ht1.2 c2
      refine hb_iload_n (pc := 52) (i := 3) dX12_same_52 rfl rfl ?_
      exact hb_iret (pc := 53) dX12_same_53 rfl ht2
  · have ht1 := h.2 c1
    refine hb_goto (pc := 44) (tgt := 57) dX12_same_44 (by decide) ?_
    refine hb_iinc (pc := 57) (v := x3 + (1 : Int32)) (ls1 := [some (hb_r 12 0 0), some (hb_i x1), some (hb_i x2), some (hb_i (x3 + (1 : Int32)))]) dX12_same_57 rfl rfl (by decide) rfl ?_
    refine hb_goto (pc := 60) (tgt := 30) dX12_same_60 (by decide) ?_
    exact ht1
theorem dX12_keeps_0 : decode cX12_keeps 0 = .ok (.aload_n 0, 1) := by decide +kernel
theorem dX12_keeps_1 : decode cX12_keeps 1 = .ok (.aload_n 0, 1) := by decide +kernel
theorem dX12_keeps_2 : decode cX12_keeps 2 = .ok (.getfield 472, 3) := by decide +kernel
theorem dX12_keeps_5 : decode cX12_keeps 5 = .ok (.iconst 1, 1) := by decide +kernel
theorem dX12_keeps_6 : decode cX12_keeps 6 = .ok (.iadd, 1) := by decide +kernel
theorem dX12_keeps_7 : decode cX12_keeps 7 = .ok (.bipush 20, 2) := by decide +kernel
theorem dX12_keeps_9 : decode cX12_keeps 9 = .ok (.irem, 1) := by decide +kernel
theorem dX12_keeps_10 : decode cX12_keeps 10 = .ok (.putfield 472, 3) := by decide +kernel
theorem dX12_keeps_13 : decode cX12_keeps 13 = .ok (.iconst 0, 1) := by decide +kernel
theorem dX12_keeps_14 : decode cX12_keeps 14 = .ok (.istore_n 1, 1) := by decide +kernel
theorem dX12_keeps_15 : decode cX12_keeps 15 = .ok (.iload_n 1, 1) := by decide +kernel
theorem dX12_keeps_16 : decode cX12_keeps 16 = .ok (.bipush 11, 2) := by decide +kernel
theorem dX12_keeps_18 : decode cX12_keeps 18 = .ok (.if_icmp .ge 29, 3) := by decide +kernel
theorem dX12_keeps_21 : decode cX12_keeps 21 = .ok (.aload_n 0, 1) := by decide +kernel
theorem dX12_keeps_22 : decode cX12_keeps 22 = .ok (.getfield 109, 3) := by decide +kernel
theorem dX12_keeps_25 : decode cX12_keeps 25 = .ok (.bipush 11, 2) := by decide +kernel
theorem dX12_keeps_27 : decode cX12_keeps 27 = .ok (.aload_n 0, 1) := by decide +kernel
theorem dX12_keeps_28 : decode cX12_keeps 28 = .ok (.getfield 472, 3) := by decide +kernel
theorem dX12_keeps_31 : decode cX12_keeps 31 = .ok (.imul, 1) := by decide +kernel
theorem dX12_keeps_32 : decode cX12_keeps 32 = .ok (.iload_n 1, 1) := by decide +kernel
theorem dX12_keeps_33 : decode cX12_keeps 33 = .ok (.iadd, 1) := by decide +kernel
theorem dX12_keeps_34 : decode cX12_keeps 34 = .ok (.aload_n 0, 1) := by decide +kernel
theorem dX12_keeps_35 : decode cX12_keeps 35 = .ok (.getfield 66, 3) := by decide +kernel
theorem dX12_keeps_38 : decode cX12_keeps 38 = .ok (.iload_n 1, 1) := by decide +kernel
theorem dX12_keeps_39 : decode cX12_keeps 39 = .ok (.iaload, 1) := by decide +kernel
theorem dX12_keeps_40 : decode cX12_keeps 40 = .ok (.iastore, 1) := by decide +kernel
theorem dX12_keeps_41 : decode cX12_keeps 41 = .ok (.iinc 1 1, 3) := by decide +kernel
theorem dX12_keeps_44 : decode cX12_keeps 44 = .ok (.goto (-29), 3) := by decide +kernel
theorem dX12_keeps_47 : decode cX12_keeps 47 = .ok (.aload_n 0, 1) := by decide +kernel
theorem dX12_keeps_48 : decode cX12_keeps 48 = .ok (.getfield 309, 3) := by decide +kernel
theorem dX12_keeps_51 : decode cX12_keeps 51 = .ok (.bipush 20, 2) := by decide +kernel
theorem dX12_keeps_53 : decode cX12_keeps 53 = .ok (.if_icmp .ge 13, 3) := by decide +kernel
theorem dX12_keeps_56 : decode cX12_keeps 56 = .ok (.aload_n 0, 1) := by decide +kernel
theorem dX12_keeps_57 : decode cX12_keeps 57 = .ok (.dup, 1) := by decide +kernel
theorem dX12_keeps_58 : decode cX12_keeps 58 = .ok (.getfield 309, 3) := by decide +kernel
theorem dX12_keeps_61 : decode cX12_keeps 61 = .ok (.iconst 1, 1) := by decide +kernel
theorem dX12_keeps_62 : decode cX12_keeps 62 = .ok (.iadd, 1) := by decide +kernel
theorem dX12_keeps_63 : decode cX12_keeps 63 = .ok (.putfield 309, 3) := by decide +kernel
theorem dX12_keeps_66 : decode cX12_keeps 66 = .ok (.return_, 1) := by decide +kernel
set_option maxRecDepth 20000 in
theorem bk_X12_keeps_0 {d : Nat} {w : hb_W} {Q : Option hb_V → hb_W → Prop} (h : hb_R yX12_keeps cX12_keeps 2 none d 15 [some (hb_r 12 0 0), some (hb_i (0 : Int32))] [] (hb_pI w 12 56 0 (((hb_fI w 12 56 0) + (1 : Int32)) - ((hb_fI w 12 56 0) + (1 : Int32)) / (20 : Int32) * (20 : Int32))) Q) : hb_R yX12_keeps cX12_keeps 2 none d 0 [some (hb_r 12 0 0), none] [] w Q := by
  refine hb_aload_n (pc := 0) (i := 0) dX12_keeps_0 rfl rfl ?_
  refine hb_aload_n (pc := 1) (i := 0) dX12_keeps_1 rfl rfl ?_
  refine hb_getIx (pc := 2) (x := hb_fI w 12 56 0) dX12_keeps_2 fw_X12_472 cw_12 rfl (by decide) rfl rfl ?_
  refine hb_iconst (pc := 5) (v := 1) dX12_keeps_5 (by decide) ?_
  refine hb_iadd (pc := 6) dX12_keeps_6 ?_
  refine hb_bipush (pc := 7) (v := 20) dX12_keeps_7 (by decide) ?_
  refine hb_irem (pc := 9) dX12_keeps_9 (by decide) ?_
  refine hb_putI (pc := 10) dX12_keeps_10 fw_X12_472 cw_12 pw_12_56 rfl (by decide) rfl rfl rfl ?_
  refine hb_iconst (pc := 13) (v := 0) dX12_keeps_13 (by decide) ?_
  refine hb_istore_n (pc := 14) (i := 1) (ls1 := [some (hb_r 12 0 0), some (hb_i (0 : Int32))]) dX12_keeps_14 rfl (by decide) rfl ?_
  exact h
set_option maxRecDepth 20000 in
theorem bk_X12_keeps_15 {d : Nat} {w : hb_W} {Q : Option hb_V → hb_W → Prop} {x1 : Int32} (h : (((11 : Int32) ≤ x1) → (((20 : Int32) ≤ (hb_fI w 12 55 0)) → Q none w) ∧ ((¬ (20 : Int32) ≤ (hb_fI w 12 55 0)) → Q none (hb_pI w 12 55 0 ((hb_fI w 12 55 0) + (1 : Int32))))) ∧ ((¬ (11 : Int32) ≤ x1) → vp_in x1 11 ∧ (vp_in (((11 : Int32) * (hb_fI w 12 56 0)) + x1) 220 ∧ (hb_R yX12_keeps cX12_keeps 2 none d 15 [some (hb_r 12 0 0), some (hb_i (x1 + (1 : Int32)))] [] (hb_sI w 12 32 0 (upd (hb_aI w 12 32 0) (((11 : Int32) * (hb_fI w 12 56 0)) + x1).toNatClampNeg (hb_aI w 12 18 0 x1.toNatClampNeg))) Q)))) : hb_R yX12_keeps cX12_keeps 2 none d 15 [some (hb_r 12 0 0), some (hb_i x1)] [] w Q := by
  refine hb_iload_n (pc := 15) (i := 1) dX12_keeps_15 rfl rfl ?_
  refine hb_bipush (pc := 16) (v := 11) dX12_keeps_16 (by decide) ?_
  refine hb_icmp_ge (pc := 18) (tgt := 47) dX12_keeps_18 (by decide) (fun c1 => ?_) (fun c1 => ?_)
  · have ht1 := h.1 c1
    refine hb_aload_n (pc := 47) (i := 0) dX12_keeps_47 rfl rfl ?_
    refine hb_getIx (pc := 48) (x := hb_fI w 12 55 0) dX12_keeps_48 fw_X12_309 cw_12 rfl (by decide) rfl rfl ?_
    refine hb_bipush (pc := 51) (v := 20) dX12_keeps_51 (by decide) ?_
    refine hb_icmp_ge (pc := 53) (tgt := 66) dX12_keeps_53 (by decide) (fun c2 => ?_) (fun c2 => ?_)
    · have ht2 := ht1.1 c2
      exact hb_vret (pc := 66) dX12_keeps_66 rfl ht2
    · have ht2 := ht1.2 c2
      refine hb_aload_n (pc := 56) (i := 0) dX12_keeps_56 rfl rfl ?_
      refine hb_dupr (pc := 57) dX12_keeps_57 ?_
      refine hb_getIx (pc := 58) (x := hb_fI w 12 55 0) dX12_keeps_58 fw_X12_309 cw_12 rfl (by decide) rfl rfl ?_
      refine hb_iconst (pc := 61) (v := 1) dX12_keeps_61 (by decide) ?_
      refine hb_iadd (pc := 62) dX12_keeps_62 ?_
      refine hb_putI (pc := 63) dX12_keeps_63 fw_X12_309 cw_12 pw_12_55 rfl (by decide) rfl rfl rfl ?_
      exact hb_vret (pc := 66) dX12_keeps_66 rfl ht2
  · have ht1 := h.2 c1
    refine hb_aload_n (pc := 21) (i := 0) dX12_keeps_21 rfl rfl ?_
    refine hb_getR (pc := 22) (g1 := 0) dX12_keeps_22 fw_X12_109 cw_12 rfl (by decide) rfl (by decide) rfl ?_
    refine hb_bipush (pc := 25) (v := 11) dX12_keeps_25 (by decide) ?_
    refine hb_aload_n (pc := 27) (i := 0) dX12_keeps_27 rfl rfl ?_
    refine hb_getIx (pc := 28) (x := hb_fI w 12 56 0) dX12_keeps_28 fw_X12_472 cw_12 rfl (by decide) rfl rfl ?_
    refine hb_imul (pc := 31) dX12_keeps_31 ?_
    refine hb_iload_n (pc := 32) (i := 1) dX12_keeps_32 rfl rfl ?_
    refine hb_iadd (pc := 33) dX12_keeps_33 ?_
    refine hb_aload_n (pc := 34) (i := 0) dX12_keeps_34 rfl rfl ?_
    refine hb_getR (pc := 35) (g1 := 0) dX12_keeps_35 fw_X12_66 cw_12 rfl (by decide) rfl (by decide) rfl ?_
    refine hb_iload_n (pc := 38) (i := 1) dX12_keeps_38 rfl rfl ?_
    obtain ⟨ho3, hr3⟩ := ht1
    refine hb_ialdx (pc := 39) (x := hb_aI w 12 18 0 x1.toNatClampNeg) dX12_keeps_39 rfl (by decide) ho3 rfl ?_
    obtain ⟨ho4, hr4⟩ := hr3
    refine hb_iastx (pc := 40) (f := upd (hb_aI w 12 32 0) (((11 : Int32) * (hb_fI w 12 56 0)) + x1).toNatClampNeg (hb_aI w 12 18 0 x1.toNatClampNeg)) dX12_keeps_40 rfl (by decide) ho4 rfl ?_
    refine hb_iinc (pc := 41) (v := x1 + (1 : Int32)) (ls1 := [some (hb_r 12 0 0), some (hb_i (x1 + (1 : Int32)))]) dX12_keeps_41 rfl rfl (by decide) rfl ?_
    refine hb_goto (pc := 44) (tgt := 15) dX12_keeps_44 (by decide) ?_
    exact hr4
theorem dX12_undo_0 : decode cX12_undo 0 = .ok (.aload_n 0, 1) := by decide +kernel
theorem dX12_undo_1 : decode cX12_undo 1 = .ok (.getfield 309, 3) := by decide +kernel
theorem dX12_undo_4 : decode cX12_undo 4 = .ok (.ifCond .ne 15, 3) := by decide +kernel
theorem dX12_undo_7 : decode cX12_undo 7 = .ok (.aload_n 0, 1) := by decide +kernel
theorem dX12_undo_8 : decode cX12_undo 8 = .ok (.getfield 17, 3) := by decide +kernel
theorem dX12_undo_11 : decode cX12_undo 11 = .ok (.iconst 4, 1) := by decide +kernel
theorem dX12_undo_12 : decode cX12_undo 12 = .ok (.dup2, 1) := by decide +kernel
theorem dX12_undo_13 : decode cX12_undo 13 = .ok (.iaload, 1) := by decide +kernel
theorem dX12_undo_14 : decode cX12_undo 14 = .ok (.iconst 1, 1) := by decide +kernel
theorem dX12_undo_15 : decode cX12_undo 15 = .ok (.iadd, 1) := by decide +kernel
theorem dX12_undo_16 : decode cX12_undo 16 = .ok (.iastore, 1) := by decide +kernel
theorem dX12_undo_17 : decode cX12_undo 17 = .ok (.iconst 0, 1) := by decide +kernel
theorem dX12_undo_18 : decode cX12_undo 18 = .ok (.ireturn, 1) := by decide +kernel
theorem dX12_undo_19 : decode cX12_undo 19 = .ok (.iconst 0, 1) := by decide +kernel
theorem dX12_undo_20 : decode cX12_undo 20 = .ok (.istore_n 1, 1) := by decide +kernel
theorem dX12_undo_21 : decode cX12_undo 21 = .ok (.iload_n 1, 1) := by decide +kernel
theorem dX12_undo_22 : decode cX12_undo 22 = .ok (.bipush 11, 2) := by decide +kernel
theorem dX12_undo_24 : decode cX12_undo 24 = .ok (.if_icmp .ge 29, 3) := by decide +kernel
theorem dX12_undo_27 : decode cX12_undo 27 = .ok (.aload_n 0, 1) := by decide +kernel
theorem dX12_undo_28 : decode cX12_undo 28 = .ok (.getfield 66, 3) := by decide +kernel
theorem dX12_undo_31 : decode cX12_undo 31 = .ok (.iload_n 1, 1) := by decide +kernel
theorem dX12_undo_32 : decode cX12_undo 32 = .ok (.aload_n 0, 1) := by decide +kernel
theorem dX12_undo_33 : decode cX12_undo 33 = .ok (.getfield 109, 3) := by decide +kernel
theorem dX12_undo_36 : decode cX12_undo 36 = .ok (.bipush 11, 2) := by decide +kernel
theorem dX12_undo_38 : decode cX12_undo 38 = .ok (.aload_n 0, 1) := by decide +kernel
theorem dX12_undo_39 : decode cX12_undo 39 = .ok (.getfield 472, 3) := by decide +kernel
theorem dX12_undo_42 : decode cX12_undo 42 = .ok (.imul, 1) := by decide +kernel
theorem dX12_undo_43 : decode cX12_undo 43 = .ok (.iload_n 1, 1) := by decide +kernel
theorem dX12_undo_44 : decode cX12_undo 44 = .ok (.iadd, 1) := by decide +kernel
theorem dX12_undo_45 : decode cX12_undo 45 = .ok (.iaload, 1) := by decide +kernel
theorem dX12_undo_46 : decode cX12_undo 46 = .ok (.iastore, 1) := by decide +kernel
theorem dX12_undo_47 : decode cX12_undo 47 = .ok (.iinc 1 1, 3) := by decide +kernel
theorem dX12_undo_50 : decode cX12_undo 50 = .ok (.goto (-29), 3) := by decide +kernel
theorem dX12_undo_53 : decode cX12_undo 53 = .ok (.aload_n 0, 1) := by decide +kernel
theorem dX12_undo_54 : decode cX12_undo 54 = .ok (.aload_n 0, 1) := by decide +kernel
theorem dX12_undo_55 : decode cX12_undo 55 = .ok (.getfield 472, 3) := by decide +kernel
theorem dX12_undo_58 : decode cX12_undo 58 = .ok (.bipush 20, 2) := by decide +kernel
theorem dX12_undo_60 : decode cX12_undo 60 = .ok (.iadd, 1) := by decide +kernel
theorem dX12_undo_61 : decode cX12_undo 61 = .ok (.iconst 1, 1) := by decide +kernel
theorem dX12_undo_62 : decode cX12_undo 62 = .ok (.isub, 1) := by decide +kernel
theorem dX12_undo_63 : decode cX12_undo 63 = .ok (.bipush 20, 2) := by decide +kernel
theorem dX12_undo_65 : decode cX12_undo 65 = .ok (.irem, 1) := by decide +kernel
theorem dX12_undo_66 : decode cX12_undo 66 = .ok (.putfield 472, 3) := by decide +kernel
theorem dX12_undo_69 : decode cX12_undo 69 = .ok (.aload_n 0, 1) := by decide +kernel
theorem dX12_undo_70 : decode cX12_undo 70 = .ok (.dup, 1) := by decide +kernel
theorem dX12_undo_71 : decode cX12_undo 71 = .ok (.getfield 309, 3) := by decide +kernel
theorem dX12_undo_74 : decode cX12_undo 74 = .ok (.iconst 1, 1) := by decide +kernel
theorem dX12_undo_75 : decode cX12_undo 75 = .ok (.isub, 1) := by decide +kernel
theorem dX12_undo_76 : decode cX12_undo 76 = .ok (.putfield 309, 3) := by decide +kernel
theorem dX12_undo_79 : decode cX12_undo 79 = .ok (.iconst 1, 1) := by decide +kernel
theorem dX12_undo_80 : decode cX12_undo 80 = .ok (.ireturn, 1) := by decide +kernel
set_option maxRecDepth 20000 in
theorem bk_X12_undo_0 {d : Nat} {w : hb_W} {Q : Option hb_V → hb_W → Prop} (h : ((¬ (hb_fI w 12 55 0) = 0) → hb_R yX12_undo cX12_undo 2 (some .boolean) d 21 [some (hb_r 12 0 0), some (hb_i (0 : Int32))] [] w Q) ∧ (((hb_fI w 12 55 0) = 0) → Q (some (hb_i (0 : Int32))) (hb_sI w 12 2 0 (upd (hb_aI w 12 2 0) (4 : Int32).toNatClampNeg ((hb_aI w 12 2 0 (4 : Int32).toNatClampNeg) + (1 : Int32)))))) : hb_R yX12_undo cX12_undo 2 (some .boolean) d 0 [some (hb_r 12 0 0), none] [] w Q := by
  refine hb_aload_n (pc := 0) (i := 0) dX12_undo_0 rfl rfl ?_
  refine hb_getIx (pc := 1) (x := hb_fI w 12 55 0) dX12_undo_1 fw_X12_309 cw_12 rfl (by decide) rfl rfl ?_
  refine hb_if_ne (pc := 4) (tgt := 19) dX12_undo_4 (by decide) (fun c1 => ?_) (fun c1 => ?_)
  · have ht1 := h.1 c1
    refine hb_iconst (pc := 19) (v := 0) dX12_undo_19 (by decide) ?_
    refine hb_istore_n (pc := 20) (i := 1) (ls1 := [some (hb_r 12 0 0), some (hb_i (0 : Int32))]) dX12_undo_20 rfl (by decide) rfl ?_
    exact ht1
  · have ht1 := h.2 c1
    refine hb_aload_n (pc := 7) (i := 0) dX12_undo_7 rfl rfl ?_
    refine hb_getR (pc := 8) (g1 := 0) dX12_undo_8 fw_X12_17 cw_12 rfl (by decide) rfl (by decide) rfl ?_
    refine hb_iconst (pc := 11) (v := 4) dX12_undo_11 (by decide) ?_
    refine hb_dup2ir (pc := 12) dX12_undo_12 ?_
    refine hb_ialdx (pc := 13) (x := hb_aI w 12 2 0 (4 : Int32).toNatClampNeg) dX12_undo_13 (n := 6) rfl (by decide) (by unfold vp_in; decide) rfl ?_
    refine hb_iconst (pc := 14) (v := 1) dX12_undo_14 (by decide) ?_
    refine hb_iadd (pc := 15) dX12_undo_15 ?_
    refine hb_iastx (pc := 16) (f := upd (hb_aI w 12 2 0) (4 : Int32).toNatClampNeg ((hb_aI w 12 2 0 (4 : Int32).toNatClampNeg) + (1 : Int32))) dX12_undo_16 (n := 6) rfl (by decide) (by unfold vp_in; decide) rfl ?_
    refine hb_iconst (pc := 17) (v := 0) dX12_undo_17 (by decide) ?_
    exact hb_zret (pc := 18) dX12_undo_18 rfl (Or.inl rfl) ht1
set_option maxRecDepth 20000 in
theorem bk_X12_undo_21 {d : Nat} {w : hb_W} {Q : Option hb_V → hb_W → Prop} {x1 : Int32} (h : (((11 : Int32) ≤ x1) → Q (some (hb_i (1 : Int32))) (hb_pI (hb_pI w 12 56 0 ((((hb_fI w 12 56 0) + (20 : Int32)) - (1 : Int32)) - (((hb_fI w 12 56 0) + (20 : Int32)) - (1 : Int32)) / (20 : Int32) * (20 : Int32))) 12 55 0 ((hb_fI w 12 55 0) - (1 : Int32)))) ∧ ((¬ (11 : Int32) ≤ x1) → vp_in (((11 : Int32) * (hb_fI w 12 56 0)) + x1) 220 ∧ (vp_in x1 11 ∧ (hb_R yX12_undo cX12_undo 2 (some .boolean) d 21 [some (hb_r 12 0 0), some (hb_i (x1 + (1 : Int32)))] [] (hb_sI w 12 18 0 (upd (hb_aI w 12 18 0) x1.toNatClampNeg (hb_aI w 12 32 0 (((11 : Int32) * (hb_fI w 12 56 0)) + x1).toNatClampNeg))) Q)))) : hb_R yX12_undo cX12_undo 2 (some .boolean) d 21 [some (hb_r 12 0 0), some (hb_i x1)] [] w Q := by
  refine hb_iload_n (pc := 21) (i := 1) dX12_undo_21 rfl rfl ?_
  refine hb_bipush (pc := 22) (v := 11) dX12_undo_22 (by decide) ?_
  refine hb_icmp_ge (pc := 24) (tgt := 53) dX12_undo_24 (by decide) (fun c1 => ?_) (fun c1 => ?_)
  · have ht1 := h.1 c1
    refine hb_aload_n (pc := 53) (i := 0) dX12_undo_53 rfl rfl ?_
    refine hb_aload_n (pc := 54) (i := 0) dX12_undo_54 rfl rfl ?_
    refine hb_getIx (pc := 55) (x := hb_fI w 12 56 0) dX12_undo_55 fw_X12_472 cw_12 rfl (by decide) rfl rfl ?_
    refine hb_bipush (pc := 58) (v := 20) dX12_undo_58 (by decide) ?_
    refine hb_iadd (pc := 60) dX12_undo_60 ?_
    refine hb_iconst (pc := 61) (v := 1) dX12_undo_61 (by decide) ?_
    refine hb_isub (pc := 62) dX12_undo_62 ?_
    refine hb_bipush (pc := 63) (v := 20) dX12_undo_63 (by decide) ?_
    refine hb_irem (pc := 65) dX12_undo_65 (by decide) ?_
    refine hb_putI (pc := 66) dX12_undo_66 fw_X12_472 cw_12 pw_12_56 rfl (by decide) rfl rfl rfl ?_
    refine hb_aload_n (pc := 69) (i := 0) dX12_undo_69 rfl rfl ?_
    refine hb_dupr (pc := 70) dX12_undo_70 ?_
    refine hb_getIx (pc := 71) (x := hb_fI w 12 55 0) dX12_undo_71 fw_X12_309 cw_12 rfl (by decide) rfl rfl ?_
    refine hb_iconst (pc := 74) (v := 1) dX12_undo_74 (by decide) ?_
    refine hb_isub (pc := 75) dX12_undo_75 ?_
    refine hb_putI (pc := 76) dX12_undo_76 fw_X12_309 cw_12 pw_12_55 rfl (by decide) rfl rfl rfl ?_
    refine hb_iconst (pc := 79) (v := 1) dX12_undo_79 (by decide) ?_
    exact hb_zret (pc := 80) dX12_undo_80 rfl (Or.inr rfl) ht1
  · have ht1 := h.2 c1
    refine hb_aload_n (pc := 27) (i := 0) dX12_undo_27 rfl rfl ?_
    refine hb_getR (pc := 28) (g1 := 0) dX12_undo_28 fw_X12_66 cw_12 rfl (by decide) rfl (by decide) rfl ?_
    refine hb_iload_n (pc := 31) (i := 1) dX12_undo_31 rfl rfl ?_
    refine hb_aload_n (pc := 32) (i := 0) dX12_undo_32 rfl rfl ?_
    refine hb_getR (pc := 33) (g1 := 0) dX12_undo_33 fw_X12_109 cw_12 rfl (by decide) rfl (by decide) rfl ?_
    refine hb_bipush (pc := 36) (v := 11) dX12_undo_36 (by decide) ?_
    refine hb_aload_n (pc := 38) (i := 0) dX12_undo_38 rfl rfl ?_
    refine hb_getIx (pc := 39) (x := hb_fI w 12 56 0) dX12_undo_39 fw_X12_472 cw_12 rfl (by decide) rfl rfl ?_
    refine hb_imul (pc := 42) dX12_undo_42 ?_
    refine hb_iload_n (pc := 43) (i := 1) dX12_undo_43 rfl rfl ?_
    refine hb_iadd (pc := 44) dX12_undo_44 ?_
    obtain ⟨ho2, hr2⟩ := ht1
    refine hb_ialdx (pc := 45) (x := hb_aI w 12 32 0 (((11 : Int32) * (hb_fI w 12 56 0)) + x1).toNatClampNeg) dX12_undo_45 rfl (by decide) ho2 rfl ?_
    obtain ⟨ho3, hr3⟩ := hr2
    refine hb_iastx (pc := 46) (f := upd (hb_aI w 12 18 0) x1.toNatClampNeg (hb_aI w 12 32 0 (((11 : Int32) * (hb_fI w 12 56 0)) + x1).toNatClampNeg)) dX12_undo_46 rfl (by decide) ho3 rfl ?_
    refine hb_iinc (pc := 47) (v := x1 + (1 : Int32)) (ls1 := [some (hb_r 12 0 0), some (hb_i (x1 + (1 : Int32)))]) dX12_undo_47 rfl rfl (by decide) rfl ?_
    refine hb_goto (pc := 50) (tgt := 21) dX12_undo_50 (by decide) ?_
    exact hr3
theorem dX12_seed_0 : decode cX12_seed 0 = .ok (.iload_n 1, 1) := by decide +kernel
theorem dX12_seed_1 : decode cX12_seed 1 = .ok (.ifCond .ge 15, 3) := by decide +kernel
theorem dX12_seed_4 : decode cX12_seed 4 = .ok (.aload_n 0, 1) := by decide +kernel
theorem dX12_seed_5 : decode cX12_seed 5 = .ok (.getfield 17, 3) := by decide +kernel
theorem dX12_seed_8 : decode cX12_seed 8 = .ok (.iconst 5, 1) := by decide +kernel
theorem dX12_seed_9 : decode cX12_seed 9 = .ok (.dup2, 1) := by decide +kernel
theorem dX12_seed_10 : decode cX12_seed 10 = .ok (.iaload, 1) := by decide +kernel
theorem dX12_seed_11 : decode cX12_seed 11 = .ok (.iconst 1, 1) := by decide +kernel
theorem dX12_seed_12 : decode cX12_seed 12 = .ok (.iadd, 1) := by decide +kernel
theorem dX12_seed_13 : decode cX12_seed 13 = .ok (.iastore, 1) := by decide +kernel
theorem dX12_seed_14 : decode cX12_seed 14 = .ok (.iconst 0, 1) := by decide +kernel
theorem dX12_seed_15 : decode cX12_seed 15 = .ok (.ireturn, 1) := by decide +kernel
theorem dX12_seed_16 : decode cX12_seed 16 = .ok (.aload_n 0, 1) := by decide +kernel
theorem dX12_seed_17 : decode cX12_seed 17 = .ok (.iload_n 1, 1) := by decide +kernel
theorem dX12_seed_18 : decode cX12_seed 18 = .ok (.i2l, 1) := by decide +kernel
theorem dX12_seed_19 : decode cX12_seed 19 = .ok (.putfield 112, 3) := by decide +kernel
theorem dX12_seed_22 : decode cX12_seed 22 = .ok (.iconst 1, 1) := by decide +kernel
theorem dX12_seed_23 : decode cX12_seed 23 = .ok (.ireturn, 1) := by decide +kernel
set_option maxRecDepth 20000 in
theorem bk_X12_seed_0 {d : Nat} {w : hb_W} {Q : Option hb_V → hb_W → Prop} {x1 : Int32} (h : ((0 ≤ x1) → Q (some (hb_i (1 : Int32))) (hb_pL w 12 57 0 x1.toInt64)) ∧ ((¬ 0 ≤ x1) → Q (some (hb_i (0 : Int32))) (hb_sI w 12 2 0 (upd (hb_aI w 12 2 0) (5 : Int32).toNatClampNeg ((hb_aI w 12 2 0 (5 : Int32).toNatClampNeg) + (1 : Int32)))))) : hb_R yX12_seed cX12_seed 2 (some .boolean) d 0 [some (hb_r 12 0 0), some (hb_i x1)] [] w Q := by
  refine hb_iload_n (pc := 0) (i := 1) dX12_seed_0 rfl rfl ?_
  refine hb_if_ge (pc := 1) (tgt := 16) dX12_seed_1 (by decide) (fun c1 => ?_) (fun c1 => ?_)
  · have ht1 := h.1 c1
    refine hb_aload_n (pc := 16) (i := 0) dX12_seed_16 rfl rfl ?_
    refine hb_iload_n (pc := 17) (i := 1) dX12_seed_17 rfl rfl ?_
    refine hb_i2l (pc := 18) dX12_seed_18 ?_
    refine hb_putL (pc := 19) dX12_seed_19 fw_X12_112 cw_12 pw_12_57 rfl (by decide) rfl rfl rfl ?_
    refine hb_iconst (pc := 22) (v := 1) dX12_seed_22 (by decide) ?_
    exact hb_zret (pc := 23) dX12_seed_23 rfl (Or.inr rfl) ht1
  · have ht1 := h.2 c1
    refine hb_aload_n (pc := 4) (i := 0) dX12_seed_4 rfl rfl ?_
    refine hb_getR (pc := 5) (g1 := 0) dX12_seed_5 fw_X12_17 cw_12 rfl (by decide) rfl (by decide) rfl ?_
    refine hb_iconst (pc := 8) (v := 5) dX12_seed_8 (by decide) ?_
    refine hb_dup2ir (pc := 9) dX12_seed_9 ?_
    refine hb_ialdx (pc := 10) (x := hb_aI w 12 2 0 (5 : Int32).toNatClampNeg) dX12_seed_10 (n := 6) rfl (by decide) (by unfold vp_in; decide) rfl ?_
    refine hb_iconst (pc := 11) (v := 1) dX12_seed_11 (by decide) ?_
    refine hb_iadd (pc := 12) dX12_seed_12 ?_
    refine hb_iastx (pc := 13) (f := upd (hb_aI w 12 2 0) (5 : Int32).toNatClampNeg ((hb_aI w 12 2 0 (5 : Int32).toNatClampNeg) + (1 : Int32))) dX12_seed_13 (n := 6) rfl (by decide) (by unfold vp_in; decide) rfl ?_
    refine hb_iconst (pc := 14) (v := 0) dX12_seed_14 (by decide) ?_
    exact hb_zret (pc := 15) dX12_seed_15 rfl (Or.inl rfl) ht1
theorem dX12_drawOf_0 : decode cX12_drawOf 0 = .ok (.aload_n 0, 1) := by decide +kernel
theorem dX12_drawOf_1 : decode cX12_drawOf 1 = .ok (.ldc2_w 475, 3) := by decide +kernel
theorem dX12_drawOf_4 : decode cX12_drawOf 4 = .ok (.aload_n 0, 1) := by decide +kernel
theorem dX12_drawOf_5 : decode cX12_drawOf 5 = .ok (.getfield 112, 3) := by decide +kernel
theorem dX12_drawOf_8 : decode cX12_drawOf 8 = .ok (.lmul, 1) := by decide +kernel
theorem dX12_drawOf_9 : decode cX12_drawOf 9 = .ok (.ldc2_w 477, 3) := by decide +kernel
theorem dX12_drawOf_12 : decode cX12_drawOf 12 = .ok (.ladd, 1) := by decide +kernel
theorem dX12_drawOf_13 : decode cX12_drawOf 13 = .ok (.ldc2_w 479, 3) := by decide +kernel
theorem dX12_drawOf_16 : decode cX12_drawOf 16 = .ok (.lrem, 1) := by decide +kernel
theorem dX12_drawOf_17 : decode cX12_drawOf 17 = .ok (.putfield 112, 3) := by decide +kernel
theorem dX12_drawOf_20 : decode cX12_drawOf 20 = .ok (.aload_n 0, 1) := by decide +kernel
theorem dX12_drawOf_21 : decode cX12_drawOf 21 = .ok (.getfield 112, 3) := by decide +kernel
theorem dX12_drawOf_24 : decode cX12_drawOf 24 = .ok (.ldc2_w 481, 3) := by decide +kernel
theorem dX12_drawOf_27 : decode cX12_drawOf 27 = .ok (.ldiv, 1) := by decide +kernel
theorem dX12_drawOf_28 : decode cX12_drawOf 28 = .ok (.iload_n 1, 1) := by decide +kernel
theorem dX12_drawOf_29 : decode cX12_drawOf 29 = .ok (.i2l, 1) := by decide +kernel
theorem dX12_drawOf_30 : decode cX12_drawOf 30 = .ok (.lrem, 1) := by decide +kernel
theorem dX12_drawOf_31 : decode cX12_drawOf 31 = .ok (.l2i, 1) := by decide +kernel
theorem dX12_drawOf_32 : decode cX12_drawOf 32 = .ok (.ireturn, 1) := by decide +kernel
set_option maxRecDepth 20000 in
theorem bk_X12_drawOf_0 {d : Nat} {w : hb_W} {Q : Option hb_V → hb_W → Prop} {x1 : Int32} (h : ¬ x1.toInt64 = 0 ∧ (Q (some (hb_i (((((((1103515245 : Int64) * (hb_fL w 12 57 0)) + (12345 : Int64)) - (((1103515245 : Int64) * (hb_fL w 12 57 0)) + (12345 : Int64)) / (2147483648 : Int64) * (2147483648 : Int64)) / (64 : Int64)) - (((((1103515245 : Int64) * (hb_fL w 12 57 0)) + (12345 : Int64)) - (((1103515245 : Int64) * (hb_fL w 12 57 0)) + (12345 : Int64)) / (2147483648 : Int64) * (2147483648 : Int64)) / (64 : Int64)) / x1.toInt64 * x1.toInt64).toInt32))) (hb_pL w 12 57 0 ((((1103515245 : Int64) * (hb_fL w 12 57 0)) + (12345 : Int64)) - (((1103515245 : Int64) * (hb_fL w 12 57 0)) + (12345 : Int64)) / (2147483648 : Int64) * (2147483648 : Int64))))) : hb_R yX12_drawOf cX12_drawOf 2 (some .int) d 0 [some (hb_r 12 0 0), some (hb_i x1)] [] w Q := by
  refine hb_aload_n (pc := 0) (i := 0) dX12_drawOf_0 rfl rfl ?_
  refine hb_ldc2 (pc := 1) (v := 1103515245) dX12_drawOf_1 kc_X12_475 ?_
  refine hb_aload_n (pc := 4) (i := 0) dX12_drawOf_4 rfl rfl ?_
  refine hb_getLx (pc := 5) (x := hb_fL w 12 57 0) dX12_drawOf_5 fw_X12_112 cw_12 rfl (by decide) rfl rfl ?_
  refine hb_lmul (pc := 8) dX12_drawOf_8 ?_
  refine hb_ldc2 (pc := 9) (v := 12345) dX12_drawOf_9 kc_X12_477 ?_
  refine hb_ladd (pc := 12) dX12_drawOf_12 ?_
  refine hb_ldc2 (pc := 13) (v := 2147483648) dX12_drawOf_13 kc_X12_479 ?_
  refine hb_lrem (pc := 16) dX12_drawOf_16 (by decide) ?_
  refine hb_putL (pc := 17) dX12_drawOf_17 fw_X12_112 cw_12 pw_12_57 rfl (by decide) rfl rfl rfl ?_
  refine hb_aload_n (pc := 20) (i := 0) dX12_drawOf_20 rfl rfl ?_
  refine hb_getLx (pc := 21) (x := (((1103515245 : Int64) * (hb_fL w 12 57 0)) + (12345 : Int64)) - (((1103515245 : Int64) * (hb_fL w 12 57 0)) + (12345 : Int64)) / (2147483648 : Int64) * (2147483648 : Int64)) dX12_drawOf_21 fw_X12_112 cw_12 rfl (by decide) rfl rfl ?_
  refine hb_ldc2 (pc := 24) (v := 64) dX12_drawOf_24 kc_X12_481 ?_
  refine hb_ldiv (pc := 27) dX12_drawOf_27 (by decide) ?_
  refine hb_iload_n (pc := 28) (i := 1) dX12_drawOf_28 rfl rfl ?_
  refine hb_i2l (pc := 29) dX12_drawOf_29 ?_
  obtain ⟨ho1, hr1⟩ := h
  refine hb_lrem (pc := 30) dX12_drawOf_30 ho1 ?_
  refine hb_l2i (pc := 31) dX12_drawOf_31 ?_
  exact hb_iret (pc := 32) dX12_drawOf_32 rfl hr1
theorem dX12_goes_0 : decode cX12_goes 0 = .ok (.aload_n 0, 1) := by decide +kernel
theorem dX12_goes_1 : decode cX12_goes 1 = .ok (.iload_n 1, 1) := by decide +kernel
theorem dX12_goes_2 : decode cX12_goes 2 = .ok (.iload_n 2, 1) := by decide +kernel
theorem dX12_goes_3 : decode cX12_goes 3 = .ok (.iload_n 3, 1) := by decide +kernel
theorem dX12_goes_4 : decode cX12_goes 4 = .ok (.invokevirtual 465, 3) := by decide +kernel
theorem dX12_goes_7 : decode cX12_goes 7 = .ok (.iconst 0, 1) := by decide +kernel
theorem dX12_goes_8 : decode cX12_goes 8 = .ok (.istore 4, 2) := by decide +kernel
theorem dX12_goes_10 : decode cX12_goes 10 = .ok (.iload 4, 2) := by decide +kernel
theorem dX12_goes_12 : decode cX12_goes 12 = .ok (.aload_n 0, 1) := by decide +kernel
theorem dX12_goes_13 : decode cX12_goes 13 = .ok (.getfield 51, 3) := by decide +kernel
theorem dX12_goes_16 : decode cX12_goes 16 = .ok (.iconst 2, 1) := by decide +kernel
theorem dX12_goes_17 : decode cX12_goes 17 = .ok (.iaload, 1) := by decide +kernel
theorem dX12_goes_18 : decode cX12_goes 18 = .ok (.if_icmp .ge 32, 3) := by decide +kernel
theorem dX12_goes_21 : decode cX12_goes 21 = .ok (.aload_n 0, 1) := by decide +kernel
theorem dX12_goes_22 : decode cX12_goes 22 = .ok (.aload_n 0, 1) := by decide +kernel
theorem dX12_goes_23 : decode cX12_goes 23 = .ok (.getfield 66, 3) := by decide +kernel
theorem dX12_goes_26 : decode cX12_goes 26 = .ok (.iconst 1, 1) := by decide +kernel
theorem dX12_goes_27 : decode cX12_goes 27 = .ok (.iaload, 1) := by decide +kernel
theorem dX12_goes_28 : decode cX12_goes 28 = .ok (.invokevirtual 483, 3) := by decide +kernel
theorem dX12_goes_31 : decode cX12_goes 31 = .ok (.ifCond .ne 13, 3) := by decide +kernel
theorem dX12_goes_34 : decode cX12_goes 34 = .ok (.aload_n 0, 1) := by decide +kernel
theorem dX12_goes_35 : decode cX12_goes 35 = .ok (.getfield 66, 3) := by decide +kernel
theorem dX12_goes_38 : decode cX12_goes 38 = .ok (.iconst 2, 1) := by decide +kernel
theorem dX12_goes_39 : decode cX12_goes 39 = .ok (.iload 4, 2) := by decide +kernel
theorem dX12_goes_41 : decode cX12_goes 41 = .ok (.iadd, 1) := by decide +kernel
theorem dX12_goes_42 : decode cX12_goes 42 = .ok (.iload_n 1, 1) := by decide +kernel
theorem dX12_goes_43 : decode cX12_goes 43 = .ok (.iastore, 1) := by decide +kernel
theorem dX12_goes_44 : decode cX12_goes 44 = .ok (.iinc 4 1, 3) := by decide +kernel
theorem dX12_goes_47 : decode cX12_goes 47 = .ok (.goto (-37), 3) := by decide +kernel
theorem dX12_goes_50 : decode cX12_goes 50 = .ok (.return_, 1) := by decide +kernel
set_option maxRecDepth 20000 in
theorem bk_X12_goes_0 {d : Nat} {w : hb_W} {Q : Option hb_V → hb_W → Prop} {x1 : Int32} {x2 : Int32} {x3 : Int32} (h : hb_O yX12_wouldGo cX12_wouldGo 5 none d [hb_r 12 0 0, hb_i x1, hb_i x2, hb_i x3] w (fun rv w1 => hb_R yX12_goes cX12_goes 5 none (d + 1) 7 [some (hb_r 12 0 0), some (hb_i x1), some (hb_i x2), some (hb_i x3), none] (rv.toList ++ []) w1 Q)) : hb_R yX12_goes cX12_goes 5 none (d + 1) 0 [some (hb_r 12 0 0), some (hb_i x1), some (hb_i x2), some (hb_i x3), none] [] w Q := by
  refine hb_aload_n (pc := 0) (i := 0) dX12_goes_0 rfl rfl ?_
  refine hb_iload_n (pc := 1) (i := 1) dX12_goes_1 rfl rfl ?_
  refine hb_iload_n (pc := 2) (i := 2) dX12_goes_2 rfl rfl ?_
  refine hb_iload_n (pc := 3) (i := 3) dX12_goes_3 rfl rfl ?_
  exact hb_callV (pc := 4) (As := [hb_i x1, hb_i x2, hb_i x3]) (st := []) dX12_goes_4 ml_X12_465 mf_X12_wouldGo mi_X12_wouldGo (ci := 12) rfl rfl (by decide) rfl rfl (Nat.le_of_ble_eq_true rfl) (Nat.le_of_ble_eq_true rfl) h (fun _ _ q => q)
set_option maxRecDepth 20000 in
theorem bk_X12_goes_7 {d : Nat} {w : hb_W} {Q : Option hb_V → hb_W → Prop} {x1 : Int32} {x2 : Int32} {x3 : Int32} (h : hb_R yX12_goes cX12_goes 5 none (d + 1) 10 [some (hb_r 12 0 0), some (hb_i x1), some (hb_i x2), some (hb_i x3), some (hb_i (0 : Int32))] [] w Q) : hb_R yX12_goes cX12_goes 5 none (d + 1) 7 [some (hb_r 12 0 0), some (hb_i x1), some (hb_i x2), some (hb_i x3), none] [] w Q := by
  refine hb_iconst (pc := 7) (v := 0) dX12_goes_7 (by decide) ?_
  refine hb_istore (pc := 8) (i := 4) (ls1 := [some (hb_r 12 0 0), some (hb_i x1), some (hb_i x2), some (hb_i x3), some (hb_i (0 : Int32))]) dX12_goes_8 (by decide) rfl ?_
  exact h
set_option maxRecDepth 20000 in
theorem bk_X12_goes_10 {d : Nat} {w : hb_W} {Q : Option hb_V → hb_W → Prop} {x1 : Int32} {x2 : Int32} {x3 : Int32} {x4 : Int32} (h : (((hb_aI w 12 13 0 (2 : Int32).toNatClampNeg) ≤ x4) → Q none w) ∧ ((¬ (hb_aI w 12 13 0 (2 : Int32).toNatClampNeg) ≤ x4) → hb_O yX12_drawOf cX12_drawOf 2 (some .int) d [hb_r 12 0 0, hb_i (hb_aI w 12 18 0 (1 : Int32).toNatClampNeg)] w (fun rv w1 => hb_R yX12_goes cX12_goes 5 none (d + 1) 31 [some (hb_r 12 0 0), some (hb_i x1), some (hb_i x2), some (hb_i x3), some (hb_i x4)] (rv.toList ++ []) w1 Q))) : hb_R yX12_goes cX12_goes 5 none (d + 1) 10 [some (hb_r 12 0 0), some (hb_i x1), some (hb_i x2), some (hb_i x3), some (hb_i x4)] [] w Q := by
  refine hb_iload (pc := 10) dX12_goes_10 rfl ?_
  refine hb_aload_n (pc := 12) (i := 0) dX12_goes_12 rfl rfl ?_
  refine hb_getR (pc := 13) (g1 := 0) dX12_goes_13 fw_X12_51 cw_12 rfl (by decide) rfl (by decide) rfl ?_
  refine hb_iconst (pc := 16) (v := 2) dX12_goes_16 (by decide) ?_
  refine hb_ialdx (pc := 17) (x := hb_aI w 12 13 0 (2 : Int32).toNatClampNeg) dX12_goes_17 (n := 6) rfl (by decide) (by unfold vp_in; decide) rfl ?_
  refine hb_icmp_ge (pc := 18) (tgt := 50) dX12_goes_18 (by decide) (fun c1 => ?_) (fun c1 => ?_)
  · have ht1 := h.1 c1
    exact hb_vret (pc := 50) dX12_goes_50 rfl ht1
  · have ht1 := h.2 c1
    refine hb_aload_n (pc := 21) (i := 0) dX12_goes_21 rfl rfl ?_
    refine hb_aload_n (pc := 22) (i := 0) dX12_goes_22 rfl rfl ?_
    refine hb_getR (pc := 23) (g1 := 0) dX12_goes_23 fw_X12_66 cw_12 rfl (by decide) rfl (by decide) rfl ?_
    refine hb_iconst (pc := 26) (v := 1) dX12_goes_26 (by decide) ?_
    refine hb_ialdx (pc := 27) (x := hb_aI w 12 18 0 (1 : Int32).toNatClampNeg) dX12_goes_27 (n := 11) rfl (by decide) (by unfold vp_in; decide) rfl ?_
    exact hb_callV (pc := 28) (As := [hb_i (hb_aI w 12 18 0 (1 : Int32).toNatClampNeg)]) (st := []) dX12_goes_28 ml_X12_483 mf_X12_drawOf mi_X12_drawOf (ci := 12) rfl rfl (by decide) rfl rfl (Nat.le_of_ble_eq_true rfl) (Nat.le_of_ble_eq_true rfl) ht1 (fun _ _ q => q)
set_option maxRecDepth 20000 in
theorem bk_X12_goes_31 {d : Nat} {w : hb_W} {Q : Option hb_V → hb_W → Prop} {x1 : Int32} {x2 : Int32} {x3 : Int32} {x4 : Int32} {xs0 : Int32} (h : ((¬ xs0 = 0) → hb_R yX12_goes cX12_goes 5 none (d + 1) 10 [some (hb_r 12 0 0), some (hb_i x1), some (hb_i x2), some (hb_i x3), some (hb_i (x4 + (1 : Int32)))] [] w Q) ∧ ((xs0 = 0) → vp_in ((2 : Int32) + x4) 11 ∧ (hb_R yX12_goes cX12_goes 5 none (d + 1) 10 [some (hb_r 12 0 0), some (hb_i x1), some (hb_i x2), some (hb_i x3), some (hb_i (x4 + (1 : Int32)))] [] (hb_sI w 12 18 0 (upd (hb_aI w 12 18 0) ((2 : Int32) + x4).toNatClampNeg x1)) Q))) : hb_R yX12_goes cX12_goes 5 none (d + 1) 31 [some (hb_r 12 0 0), some (hb_i x1), some (hb_i x2), some (hb_i x3), some (hb_i x4)] [hb_i xs0] w Q := by
  refine hb_if_ne (pc := 31) (tgt := 44) dX12_goes_31 (by decide) (fun c1 => ?_) (fun c1 => ?_)
  · have ht1 := h.1 c1
    refine hb_iinc (pc := 44) (v := x4 + (1 : Int32)) (ls1 := [some (hb_r 12 0 0), some (hb_i x1), some (hb_i x2), some (hb_i x3), some (hb_i (x4 + (1 : Int32)))]) dX12_goes_44 rfl rfl (by decide) rfl ?_
    refine hb_goto (pc := 47) (tgt := 10) dX12_goes_47 (by decide) ?_
    exact ht1
  · have ht1 := h.2 c1
    refine hb_aload_n (pc := 34) (i := 0) dX12_goes_34 rfl rfl ?_
    refine hb_getR (pc := 35) (g1 := 0) dX12_goes_35 fw_X12_66 cw_12 rfl (by decide) rfl (by decide) rfl ?_
    refine hb_iconst (pc := 38) (v := 2) dX12_goes_38 (by decide) ?_
    refine hb_iload (pc := 39) dX12_goes_39 rfl ?_
    refine hb_iadd (pc := 41) dX12_goes_41 ?_
    refine hb_iload_n (pc := 42) (i := 1) dX12_goes_42 rfl rfl ?_
    obtain ⟨ho2, hr2⟩ := ht1
    refine hb_iastx (pc := 43) (f := upd (hb_aI w 12 18 0) ((2 : Int32) + x4).toNatClampNeg x1) dX12_goes_43 rfl (by decide) ho2 rfl ?_
    refine hb_iinc (pc := 44) (v := x4 + (1 : Int32)) (ls1 := [some (hb_r 12 0 0), some (hb_i x1), some (hb_i x2), some (hb_i x3), some (hb_i (x4 + (1 : Int32)))]) dX12_goes_44 rfl rfl (by decide) rfl ?_
    refine hb_goto (pc := 47) (tgt := 10) dX12_goes_47 (by decide) ?_
    exact hr2
theorem dX12_refuses_0 : decode cX12_refuses 0 = .ok (.aload_n 0, 1) := by decide +kernel
theorem dX12_refuses_1 : decode cX12_refuses 1 = .ok (.getfield 17, 3) := by decide +kernel
theorem dX12_refuses_4 : decode cX12_refuses 4 = .ok (.iload_n 1, 1) := by decide +kernel
theorem dX12_refuses_5 : decode cX12_refuses 5 = .ok (.dup2, 1) := by decide +kernel
theorem dX12_refuses_6 : decode cX12_refuses 6 = .ok (.iaload, 1) := by decide +kernel
theorem dX12_refuses_7 : decode cX12_refuses 7 = .ok (.iconst 1, 1) := by decide +kernel
theorem dX12_refuses_8 : decode cX12_refuses 8 = .ok (.iadd, 1) := by decide +kernel
theorem dX12_refuses_9 : decode cX12_refuses 9 = .ok (.iastore, 1) := by decide +kernel
theorem dX12_refuses_10 : decode cX12_refuses 10 = .ok (.iconst (-1), 1) := by decide +kernel
theorem dX12_refuses_11 : decode cX12_refuses 11 = .ok (.ireturn, 1) := by decide +kernel
set_option maxRecDepth 20000 in
theorem bk_X12_refuses_0 {d : Nat} {w : hb_W} {Q : Option hb_V → hb_W → Prop} {x1 : Int32} (h : vp_in x1 6 ∧ (vp_in x1 6 ∧ (Q (some (hb_i (-1 : Int32))) (hb_sI w 12 2 0 (upd (hb_aI w 12 2 0) x1.toNatClampNeg ((hb_aI w 12 2 0 x1.toNatClampNeg) + (1 : Int32))))))) : hb_R yX12_refuses cX12_refuses 2 (some .int) d 0 [some (hb_r 12 0 0), some (hb_i x1)] [] w Q := by
  refine hb_aload_n (pc := 0) (i := 0) dX12_refuses_0 rfl rfl ?_
  refine hb_getR (pc := 1) (g1 := 0) dX12_refuses_1 fw_X12_17 cw_12 rfl (by decide) rfl (by decide) rfl ?_
  refine hb_iload_n (pc := 4) (i := 1) dX12_refuses_4 rfl rfl ?_
  refine hb_dup2ir (pc := 5) dX12_refuses_5 ?_
  obtain ⟨ho1, hr1⟩ := h
  refine hb_ialdx (pc := 6) (x := hb_aI w 12 2 0 x1.toNatClampNeg) dX12_refuses_6 rfl (by decide) ho1 rfl ?_
  refine hb_iconst (pc := 7) (v := 1) dX12_refuses_7 (by decide) ?_
  refine hb_iadd (pc := 8) dX12_refuses_8 ?_
  obtain ⟨ho2, hr2⟩ := hr1
  refine hb_iastx (pc := 9) (f := upd (hb_aI w 12 2 0) x1.toNatClampNeg ((hb_aI w 12 2 0 x1.toNatClampNeg) + (1 : Int32))) dX12_refuses_9 rfl (by decide) ho2 rfl ?_
  refine hb_iconst (pc := 10) (v := -1) dX12_refuses_10 (by decide) ?_
  exact hb_iret (pc := 11) dX12_refuses_11 rfl hr2
theorem dX12_pass_0 : decode cX12_pass 0 = .ok (.aload_n 0, 1) := by decide +kernel
theorem dX12_pass_1 : decode cX12_pass 1 = .ok (.getfield 302, 3) := by decide +kernel
theorem dX12_pass_4 : decode cX12_pass 4 = .ok (.ifCond .eq 45, 3) := by decide +kernel
theorem dX12_pass_7 : decode cX12_pass 7 = .ok (.aload_n 0, 1) := by decide +kernel
theorem dX12_pass_8 : decode cX12_pass 8 = .ok (.iload_n 1, 1) := by decide +kernel
theorem dX12_pass_9 : decode cX12_pass 9 = .ok (.invokevirtual 441, 3) := by decide +kernel
theorem dX12_pass_12 : decode cX12_pass 12 = .ok (.ifCond .eq 37, 3) := by decide +kernel
theorem dX12_pass_15 : decode cX12_pass 15 = .ok (.iload_n 2, 1) := by decide +kernel
theorem dX12_pass_16 : decode cX12_pass 16 = .ok (.i2l, 1) := by decide +kernel
theorem dX12_pass_17 : decode cX12_pass 17 = .ok (.lconst 0, 1) := by decide +kernel
theorem dX12_pass_18 : decode cX12_pass 18 = .ok (.ldc2_w 486, 3) := by decide +kernel
theorem dX12_pass_21 : decode cX12_pass 21 = .ok (.invokestatic 238, 3) := by decide +kernel
theorem dX12_pass_24 : decode cX12_pass 24 = .ok (.ifCond .eq 25, 3) := by decide +kernel
theorem dX12_pass_27 : decode cX12_pass 27 = .ok (.iload_n 3, 1) := by decide +kernel
theorem dX12_pass_28 : decode cX12_pass 28 = .ok (.i2l, 1) := by decide +kernel
theorem dX12_pass_29 : decode cX12_pass 29 = .ok (.lconst 0, 1) := by decide +kernel
theorem dX12_pass_30 : decode cX12_pass 30 = .ok (.lconst 1, 1) := by decide +kernel
theorem dX12_pass_31 : decode cX12_pass 31 = .ok (.invokestatic 238, 3) := by decide +kernel
theorem dX12_pass_34 : decode cX12_pass 34 = .ok (.ifCond .eq 15, 3) := by decide +kernel
theorem dX12_pass_37 : decode cX12_pass 37 = .ok (.aload_n 0, 1) := by decide +kernel
theorem dX12_pass_38 : decode cX12_pass 38 = .ok (.getfield 66, 3) := by decide +kernel
theorem dX12_pass_41 : decode cX12_pass 41 = .ok (.iconst 1, 1) := by decide +kernel
theorem dX12_pass_42 : decode cX12_pass 42 = .ok (.iaload, 1) := by decide +kernel
theorem dX12_pass_43 : decode cX12_pass 43 = .ok (.sipush 400, 3) := by decide +kernel
theorem dX12_pass_46 : decode cX12_pass 46 = .ok (.if_icmp .ne 9, 3) := by decide +kernel
theorem dX12_pass_49 : decode cX12_pass 49 = .ok (.aload_n 0, 1) := by decide +kernel
theorem dX12_pass_50 : decode cX12_pass 50 = .ok (.iconst 2, 1) := by decide +kernel
theorem dX12_pass_51 : decode cX12_pass 51 = .ok (.invokevirtual 488, 3) := by decide +kernel
theorem dX12_pass_54 : decode cX12_pass 54 = .ok (.ireturn, 1) := by decide +kernel
theorem dX12_pass_55 : decode cX12_pass 55 = .ok (.aload_n 0, 1) := by decide +kernel
theorem dX12_pass_56 : decode cX12_pass 56 = .ok (.invokevirtual 491, 3) := by decide +kernel
theorem dX12_pass_59 : decode cX12_pass 59 = .ok (.aload_n 0, 1) := by decide +kernel
theorem dX12_pass_60 : decode cX12_pass 60 = .ok (.iload_n 1, 1) := by decide +kernel
theorem dX12_pass_61 : decode cX12_pass 61 = .ok (.iload_n 2, 1) := by decide +kernel
theorem dX12_pass_62 : decode cX12_pass 62 = .ok (.iload_n 3, 1) := by decide +kernel
theorem dX12_pass_63 : decode cX12_pass 63 = .ok (.invokevirtual 494, 3) := by decide +kernel
theorem dX12_pass_66 : decode cX12_pass 66 = .ok (.aload_n 0, 1) := by decide +kernel
theorem dX12_pass_67 : decode cX12_pass 67 = .ok (.getfield 66, 3) := by decide +kernel
theorem dX12_pass_70 : decode cX12_pass 70 = .ok (.iconst 1, 1) := by decide +kernel
theorem dX12_pass_71 : decode cX12_pass 71 = .ok (.iaload, 1) := by decide +kernel
theorem dX12_pass_72 : decode cX12_pass 72 = .ok (.ireturn, 1) := by decide +kernel
set_option maxRecDepth 20000 in
theorem bk_X12_pass_0 {d : Nat} {w : hb_W} {Q : Option hb_V → hb_W → Prop} {x1 : Int32} {x2 : Int32} {x3 : Int32} (h : (((hb_fI w 12 30 0) = 0) → hb_O yX12_refuses cX12_refuses 2 (some .int) d [hb_r 12 0 0, hb_i (2 : Int32)] w (fun rv w1 => hb_R yX12_pass cX12_pass 4 (some .int) (d + 1) 54 [some (hb_r 12 0 0), some (hb_i x1), some (hb_i x2), some (hb_i x3)] (rv.toList ++ []) w1 Q)) ∧ ((¬ (hb_fI w 12 30 0) = 0) → hb_O yX12_isHood cX12_isHood 2 (some .boolean) d [hb_r 12 0 0, hb_i x1] w (fun rv w1 => hb_R yX12_pass cX12_pass 4 (some .int) (d + 1) 12 [some (hb_r 12 0 0), some (hb_i x1), some (hb_i x2), some (hb_i x3)] (rv.toList ++ []) w1 Q))) : hb_R yX12_pass cX12_pass 4 (some .int) (d + 1) 0 [some (hb_r 12 0 0), some (hb_i x1), some (hb_i x2), some (hb_i x3)] [] w Q := by
  refine hb_aload_n (pc := 0) (i := 0) dX12_pass_0 rfl rfl ?_
  refine hb_getIx (pc := 1) (x := hb_fI w 12 30 0) dX12_pass_1 fw_X12_302 cw_12 rfl (by decide) rfl rfl ?_
  refine hb_if_eq (pc := 4) (tgt := 49) dX12_pass_4 (by decide) (fun c1 => ?_) (fun c1 => ?_)
  · have ht1 := h.1 c1
    refine hb_aload_n (pc := 49) (i := 0) dX12_pass_49 rfl rfl ?_
    refine hb_iconst (pc := 50) (v := 2) dX12_pass_50 (by decide) ?_
    exact hb_callV (pc := 51) (As := [hb_i (2 : Int32)]) (st := []) dX12_pass_51 ml_X12_488 mf_X12_refuses mi_X12_refuses (ci := 12) rfl rfl (by decide) rfl rfl (Nat.le_of_ble_eq_true rfl) (Nat.le_of_ble_eq_true rfl) ht1 (fun _ _ q => q)
  · have ht1 := h.2 c1
    refine hb_aload_n (pc := 7) (i := 0) dX12_pass_7 rfl rfl ?_
    refine hb_iload_n (pc := 8) (i := 1) dX12_pass_8 rfl rfl ?_
    exact hb_callV (pc := 9) (As := [hb_i x1]) (st := []) dX12_pass_9 ml_X12_441 mf_X12_isHood mi_X12_isHood (ci := 12) rfl rfl (by decide) rfl rfl (Nat.le_of_ble_eq_true rfl) (Nat.le_of_ble_eq_true rfl) ht1 (fun _ _ q => q)
set_option maxRecDepth 20000 in
theorem bk_X12_pass_12 {d : Nat} {w : hb_W} {Q : Option hb_V → hb_W → Prop} {x1 : Int32} {x2 : Int32} {x3 : Int32} {xs0 : Int32} (h : ((xs0 = 0) → hb_O yX12_refuses cX12_refuses 2 (some .int) d [hb_r 12 0 0, hb_i (2 : Int32)] w (fun rv w1 => hb_R yX12_pass cX12_pass 4 (some .int) (d + 1) 54 [some (hb_r 12 0 0), some (hb_i x1), some (hb_i x2), some (hb_i x3)] (rv.toList ++ []) w1 Q)) ∧ ((¬ xs0 = 0) → hb_O yX12_isIn cX12_isIn 6 (some .boolean) d [hb_l x2.toInt64, hb_l (0 : Int64), hb_l (99 : Int64)] w (fun rv w1 => hb_R yX12_pass cX12_pass 4 (some .int) (d + 1) 24 [some (hb_r 12 0 0), some (hb_i x1), some (hb_i x2), some (hb_i x3)] (rv.toList ++ []) w1 Q))) : hb_R yX12_pass cX12_pass 4 (some .int) (d + 1) 12 [some (hb_r 12 0 0), some (hb_i x1), some (hb_i x2), some (hb_i x3)] [hb_i xs0] w Q := by
  refine hb_if_eq (pc := 12) (tgt := 49) dX12_pass_12 (by decide) (fun c1 => ?_) (fun c1 => ?_)
  · have ht1 := h.1 c1
    refine hb_aload_n (pc := 49) (i := 0) dX12_pass_49 rfl rfl ?_
    refine hb_iconst (pc := 50) (v := 2) dX12_pass_50 (by decide) ?_
    exact hb_callV (pc := 51) (As := [hb_i (2 : Int32)]) (st := []) dX12_pass_51 ml_X12_488 mf_X12_refuses mi_X12_refuses (ci := 12) rfl rfl (by decide) rfl rfl (Nat.le_of_ble_eq_true rfl) (Nat.le_of_ble_eq_true rfl) ht1 (fun _ _ q => q)
  · have ht1 := h.2 c1
    refine hb_iload_n (pc := 15) (i := 2) dX12_pass_15 rfl rfl ?_
    refine hb_i2l (pc := 16) dX12_pass_16 ?_
    refine hb_lconst (pc := 17) (v := 0) dX12_pass_17 (by decide) ?_
    refine hb_ldc2 (pc := 18) (v := 99) dX12_pass_18 kc_X12_486 ?_
    exact hb_callS (pc := 21) (As := [hb_l x2.toInt64, hb_l (0 : Int64), hb_l (99 : Int64)]) (st := []) dX12_pass_21 ml_X12_238 mf_X12_isIn ms_X12_isIn rfl rfl (Nat.le_of_ble_eq_true rfl) (Nat.le_of_ble_eq_true rfl) ht1 (fun _ _ q => q)
set_option maxRecDepth 20000 in
theorem bk_X12_pass_24 {d : Nat} {w : hb_W} {Q : Option hb_V → hb_W → Prop} {x1 : Int32} {x2 : Int32} {x3 : Int32} {xs0 : Int32} (h : ((xs0 = 0) → hb_O yX12_refuses cX12_refuses 2 (some .int) d [hb_r 12 0 0, hb_i (2 : Int32)] w (fun rv w1 => hb_R yX12_pass cX12_pass 4 (some .int) (d + 1) 54 [some (hb_r 12 0 0), some (hb_i x1), some (hb_i x2), some (hb_i x3)] (rv.toList ++ []) w1 Q)) ∧ ((¬ xs0 = 0) → hb_O yX12_isIn cX12_isIn 6 (some .boolean) d [hb_l x3.toInt64, hb_l (0 : Int64), hb_l (1 : Int64)] w (fun rv w1 => hb_R yX12_pass cX12_pass 4 (some .int) (d + 1) 34 [some (hb_r 12 0 0), some (hb_i x1), some (hb_i x2), some (hb_i x3)] (rv.toList ++ []) w1 Q))) : hb_R yX12_pass cX12_pass 4 (some .int) (d + 1) 24 [some (hb_r 12 0 0), some (hb_i x1), some (hb_i x2), some (hb_i x3)] [hb_i xs0] w Q := by
  refine hb_if_eq (pc := 24) (tgt := 49) dX12_pass_24 (by decide) (fun c1 => ?_) (fun c1 => ?_)
  · have ht1 := h.1 c1
    refine hb_aload_n (pc := 49) (i := 0) dX12_pass_49 rfl rfl ?_
    refine hb_iconst (pc := 50) (v := 2) dX12_pass_50 (by decide) ?_
    exact hb_callV (pc := 51) (As := [hb_i (2 : Int32)]) (st := []) dX12_pass_51 ml_X12_488 mf_X12_refuses mi_X12_refuses (ci := 12) rfl rfl (by decide) rfl rfl (Nat.le_of_ble_eq_true rfl) (Nat.le_of_ble_eq_true rfl) ht1 (fun _ _ q => q)
  · have ht1 := h.2 c1
    refine hb_iload_n (pc := 27) (i := 3) dX12_pass_27 rfl rfl ?_
    refine hb_i2l (pc := 28) dX12_pass_28 ?_
    refine hb_lconst (pc := 29) (v := 0) dX12_pass_29 (by decide) ?_
    refine hb_lconst (pc := 30) (v := 1) dX12_pass_30 (by decide) ?_
    exact hb_callS (pc := 31) (As := [hb_l x3.toInt64, hb_l (0 : Int64), hb_l (1 : Int64)]) (st := []) dX12_pass_31 ml_X12_238 mf_X12_isIn ms_X12_isIn rfl rfl (Nat.le_of_ble_eq_true rfl) (Nat.le_of_ble_eq_true rfl) ht1 (fun _ _ q => q)
set_option maxRecDepth 20000 in
theorem bk_X12_pass_34 {d : Nat} {w : hb_W} {Q : Option hb_V → hb_W → Prop} {x1 : Int32} {x2 : Int32} {x3 : Int32} {xs0 : Int32} (h : ((xs0 = 0) → hb_O yX12_refuses cX12_refuses 2 (some .int) d [hb_r 12 0 0, hb_i (2 : Int32)] w (fun rv w1 => hb_R yX12_pass cX12_pass 4 (some .int) (d + 1) 54 [some (hb_r 12 0 0), some (hb_i x1), some (hb_i x2), some (hb_i x3)] (rv.toList ++ []) w1 Q)) ∧ ((¬ xs0 = 0) → ((¬ (hb_aI w 12 18 0 (1 : Int32).toNatClampNeg) = (400 : Int32)) → hb_O yX12_keeps cX12_keeps 2 none d [hb_r 12 0 0] w (fun rv w1 => hb_R yX12_pass cX12_pass 4 (some .int) (d + 1) 59 [some (hb_r 12 0 0), some (hb_i x1), some (hb_i x2), some (hb_i x3)] (rv.toList ++ []) w1 Q)) ∧ (((hb_aI w 12 18 0 (1 : Int32).toNatClampNeg) = (400 : Int32)) → hb_O yX12_refuses cX12_refuses 2 (some .int) d [hb_r 12 0 0, hb_i (2 : Int32)] w (fun rv w1 => hb_R yX12_pass cX12_pass 4 (some .int) (d + 1) 54 [some (hb_r 12 0 0), some (hb_i x1), some (hb_i x2), some (hb_i x3)] (rv.toList ++ []) w1 Q)))) : hb_R yX12_pass cX12_pass 4 (some .int) (d + 1) 34 [some (hb_r 12 0 0), some (hb_i x1), some (hb_i x2), some (hb_i x3)] [hb_i xs0] w Q := by
  refine hb_if_eq (pc := 34) (tgt := 49) dX12_pass_34 (by decide) (fun c1 => ?_) (fun c1 => ?_)
  · have ht1 := h.1 c1
    refine hb_aload_n (pc := 49) (i := 0) dX12_pass_49 rfl rfl ?_
    refine hb_iconst (pc := 50) (v := 2) dX12_pass_50 (by decide) ?_
    exact hb_callV (pc := 51) (As := [hb_i (2 : Int32)]) (st := []) dX12_pass_51 ml_X12_488 mf_X12_refuses mi_X12_refuses (ci := 12) rfl rfl (by decide) rfl rfl (Nat.le_of_ble_eq_true rfl) (Nat.le_of_ble_eq_true rfl) ht1 (fun _ _ q => q)
  · have ht1 := h.2 c1
    refine hb_aload_n (pc := 37) (i := 0) dX12_pass_37 rfl rfl ?_
    refine hb_getR (pc := 38) (g1 := 0) dX12_pass_38 fw_X12_66 cw_12 rfl (by decide) rfl (by decide) rfl ?_
    refine hb_iconst (pc := 41) (v := 1) dX12_pass_41 (by decide) ?_
    refine hb_ialdx (pc := 42) (x := hb_aI w 12 18 0 (1 : Int32).toNatClampNeg) dX12_pass_42 (n := 11) rfl (by decide) (by unfold vp_in; decide) rfl ?_
    refine hb_sipush (pc := 43) (v := 400) dX12_pass_43 (by decide) ?_
    refine hb_icmp_ne (pc := 46) (tgt := 55) dX12_pass_46 (by decide) (fun c2 => ?_) (fun c2 => ?_)
    · have ht2 := ht1.1 c2
      refine hb_aload_n (pc := 55) (i := 0) dX12_pass_55 rfl rfl ?_
      exact hb_callV (pc := 56) (As := []) (st := []) dX12_pass_56 ml_X12_491 mf_X12_keeps mi_X12_keeps (ci := 12) rfl rfl (by decide) rfl rfl (Nat.le_of_ble_eq_true rfl) (Nat.le_of_ble_eq_true rfl) ht2 (fun _ _ q => q)
    · have ht2 := ht1.2 c2
      refine hb_aload_n (pc := 49) (i := 0) dX12_pass_49 rfl rfl ?_
      refine hb_iconst (pc := 50) (v := 2) dX12_pass_50 (by decide) ?_
      exact hb_callV (pc := 51) (As := [hb_i (2 : Int32)]) (st := []) dX12_pass_51 ml_X12_488 mf_X12_refuses mi_X12_refuses (ci := 12) rfl rfl (by decide) rfl rfl (Nat.le_of_ble_eq_true rfl) (Nat.le_of_ble_eq_true rfl) ht2 (fun _ _ q => q)
set_option maxRecDepth 20000 in
theorem bk_X12_pass_54 {d : Nat} {w : hb_W} {Q : Option hb_V → hb_W → Prop} {x1 : Int32} {x2 : Int32} {x3 : Int32} {xs0 : Int32} (h : Q (some (hb_i xs0)) w) : hb_R yX12_pass cX12_pass 4 (some .int) (d + 1) 54 [some (hb_r 12 0 0), some (hb_i x1), some (hb_i x2), some (hb_i x3)] [hb_i xs0] w Q := by
  exact hb_iret (pc := 54) dX12_pass_54 rfl h
set_option maxRecDepth 20000 in
theorem bk_X12_pass_59 {d : Nat} {w : hb_W} {Q : Option hb_V → hb_W → Prop} {x1 : Int32} {x2 : Int32} {x3 : Int32} (h : hb_O yX12_goes cX12_goes 5 none d [hb_r 12 0 0, hb_i x1, hb_i x2, hb_i x3] w (fun rv w1 => hb_R yX12_pass cX12_pass 4 (some .int) (d + 1) 66 [some (hb_r 12 0 0), some (hb_i x1), some (hb_i x2), some (hb_i x3)] (rv.toList ++ []) w1 Q)) : hb_R yX12_pass cX12_pass 4 (some .int) (d + 1) 59 [some (hb_r 12 0 0), some (hb_i x1), some (hb_i x2), some (hb_i x3)] [] w Q := by
  refine hb_aload_n (pc := 59) (i := 0) dX12_pass_59 rfl rfl ?_
  refine hb_iload_n (pc := 60) (i := 1) dX12_pass_60 rfl rfl ?_
  refine hb_iload_n (pc := 61) (i := 2) dX12_pass_61 rfl rfl ?_
  refine hb_iload_n (pc := 62) (i := 3) dX12_pass_62 rfl rfl ?_
  exact hb_callV (pc := 63) (As := [hb_i x1, hb_i x2, hb_i x3]) (st := []) dX12_pass_63 ml_X12_494 mf_X12_goes mi_X12_goes (ci := 12) rfl rfl (by decide) rfl rfl (Nat.le_of_ble_eq_true rfl) (Nat.le_of_ble_eq_true rfl) h (fun _ _ q => q)
set_option maxRecDepth 20000 in
theorem bk_X12_pass_66 {d : Nat} {w : hb_W} {Q : Option hb_V → hb_W → Prop} {x1 : Int32} {x2 : Int32} {x3 : Int32} (h : Q (some (hb_i (hb_aI w 12 18 0 (1 : Int32).toNatClampNeg))) w) : hb_R yX12_pass cX12_pass 4 (some .int) (d + 1) 66 [some (hb_r 12 0 0), some (hb_i x1), some (hb_i x2), some (hb_i x3)] [] w Q := by
  refine hb_aload_n (pc := 66) (i := 0) dX12_pass_66 rfl rfl ?_
  refine hb_getR (pc := 67) (g1 := 0) dX12_pass_67 fw_X12_66 cw_12 rfl (by decide) rfl (by decide) rfl ?_
  refine hb_iconst (pc := 70) (v := 1) dX12_pass_70 (by decide) ?_
  refine hb_ialdx (pc := 71) (x := hb_aI w 12 18 0 (1 : Int32).toNatClampNeg) dX12_pass_71 (n := 11) rfl (by decide) (by unfold vp_in; decide) rfl ?_
  exact hb_iret (pc := 72) dX12_pass_72 rfl h
theorem dX12_rowGoes_0 : decode cX12_rowGoes 0 = .ok (.bipush 80, 2) := by decide +kernel
theorem dX12_rowGoes_2 : decode cX12_rowGoes 2 = .ok (.iconst 4, 1) := by decide +kernel
theorem dX12_rowGoes_3 : decode cX12_rowGoes 3 = .ok (.iload_n 1, 1) := by decide +kernel
theorem dX12_rowGoes_4 : decode cX12_rowGoes 4 = .ok (.imul, 1) := by decide +kernel
theorem dX12_rowGoes_5 : decode cX12_rowGoes 5 = .ok (.iadd, 1) := by decide +kernel
theorem dX12_rowGoes_6 : decode cX12_rowGoes 6 = .ok (.istore_n 2, 1) := by decide +kernel
theorem dX12_rowGoes_7 : decode cX12_rowGoes 7 = .ok (.iconst 0, 1) := by decide +kernel
theorem dX12_rowGoes_8 : decode cX12_rowGoes 8 = .ok (.istore_n 3, 1) := by decide +kernel
theorem dX12_rowGoes_9 : decode cX12_rowGoes 9 = .ok (.iload_n 3, 1) := by decide +kernel
theorem dX12_rowGoes_10 : decode cX12_rowGoes 10 = .ok (.aload_n 0, 1) := by decide +kernel
theorem dX12_rowGoes_11 : decode cX12_rowGoes 11 = .ok (.getfield 54, 3) := by decide +kernel
theorem dX12_rowGoes_14 : decode cX12_rowGoes 14 = .ok (.iload_n 2, 1) := by decide +kernel
theorem dX12_rowGoes_15 : decode cX12_rowGoes 15 = .ok (.iaload, 1) := by decide +kernel
theorem dX12_rowGoes_16 : decode cX12_rowGoes 16 = .ok (.if_icmp .ge 95, 3) := by decide +kernel
theorem dX12_rowGoes_19 : decode cX12_rowGoes 19 = .ok (.aload_n 0, 1) := by decide +kernel
theorem dX12_rowGoes_20 : decode cX12_rowGoes 20 = .ok (.aload_n 0, 1) := by decide +kernel
theorem dX12_rowGoes_21 : decode cX12_rowGoes 21 = .ok (.getfield 54, 3) := by decide +kernel
theorem dX12_rowGoes_24 : decode cX12_rowGoes 24 = .ok (.iload_n 2, 1) := by decide +kernel
theorem dX12_rowGoes_25 : decode cX12_rowGoes 25 = .ok (.iconst 1, 1) := by decide +kernel
theorem dX12_rowGoes_26 : decode cX12_rowGoes 26 = .ok (.iadd, 1) := by decide +kernel
theorem dX12_rowGoes_27 : decode cX12_rowGoes 27 = .ok (.iaload, 1) := by decide +kernel
theorem dX12_rowGoes_28 : decode cX12_rowGoes 28 = .ok (.iload_n 3, 1) := by decide +kernel
theorem dX12_rowGoes_29 : decode cX12_rowGoes 29 = .ok (.aload_n 0, 1) := by decide +kernel
theorem dX12_rowGoes_30 : decode cX12_rowGoes 30 = .ok (.getfield 54, 3) := by decide +kernel
theorem dX12_rowGoes_33 : decode cX12_rowGoes 33 = .ok (.iload_n 2, 1) := by decide +kernel
theorem dX12_rowGoes_34 : decode cX12_rowGoes 34 = .ok (.iconst 2, 1) := by decide +kernel
theorem dX12_rowGoes_35 : decode cX12_rowGoes 35 = .ok (.iadd, 1) := by decide +kernel
theorem dX12_rowGoes_36 : decode cX12_rowGoes 36 = .ok (.iaload, 1) := by decide +kernel
theorem dX12_rowGoes_37 : decode cX12_rowGoes 37 = .ok (.imul, 1) := by decide +kernel
theorem dX12_rowGoes_38 : decode cX12_rowGoes 38 = .ok (.iadd, 1) := by decide +kernel
theorem dX12_rowGoes_39 : decode cX12_rowGoes 39 = .ok (.bipush 64, 2) := by decide +kernel
theorem dX12_rowGoes_41 : decode cX12_rowGoes 41 = .ok (.irem, 1) := by decide +kernel
theorem dX12_rowGoes_42 : decode cX12_rowGoes 42 = .ok (.putfield 330, 3) := by decide +kernel
theorem dX12_rowGoes_45 : decode cX12_rowGoes 45 = .ok (.aload_n 0, 1) := by decide +kernel
theorem dX12_rowGoes_46 : decode cX12_rowGoes 46 = .ok (.iload_n 3, 1) := by decide +kernel
theorem dX12_rowGoes_47 : decode cX12_rowGoes 47 = .ok (.putfield 497, 3) := by decide +kernel
theorem dX12_rowGoes_50 : decode cX12_rowGoes 50 = .ok (.aload_n 0, 1) := by decide +kernel
theorem dX12_rowGoes_51 : decode cX12_rowGoes 51 = .ok (.getfield 330, 3) := by decide +kernel
theorem dX12_rowGoes_54 : decode cX12_rowGoes 54 = .ok (.istore 4, 2) := by decide +kernel
theorem dX12_rowGoes_56 : decode cX12_rowGoes 56 = .ok (.aload_n 0, 1) := by decide +kernel
theorem dX12_rowGoes_57 : decode cX12_rowGoes 57 = .ok (.iload_n 1, 1) := by decide +kernel
theorem dX12_rowGoes_58 : decode cX12_rowGoes 58 = .ok (.invokevirtual 345, 3) := by decide +kernel
theorem dX12_rowGoes_61 : decode cX12_rowGoes 61 = .ok (.lstore 5, 2) := by decide +kernel
theorem dX12_rowGoes_63 : decode cX12_rowGoes 63 = .ok (.aload_n 0, 1) := by decide +kernel
theorem dX12_rowGoes_64 : decode cX12_rowGoes 64 = .ok (.iload 4, 2) := by decide +kernel
theorem dX12_rowGoes_66 : decode cX12_rowGoes 66 = .ok (.lload 5, 2) := by decide +kernel
theorem dX12_rowGoes_68 : decode cX12_rowGoes 68 = .ok (.lconst 0, 1) := by decide +kernel
theorem dX12_rowGoes_69 : decode cX12_rowGoes 69 = .ok (.lcmp, 1) := by decide +kernel
theorem dX12_rowGoes_70 : decode cX12_rowGoes 70 = .ok (.ifCond .ge 7, 3) := by decide +kernel
theorem dX12_rowGoes_73 : decode cX12_rowGoes 73 = .ok (.iconst 0, 1) := by decide +kernel
theorem dX12_rowGoes_74 : decode cX12_rowGoes 74 = .ok (.goto 20, 3) := by decide +kernel
theorem dX12_rowGoes_77 : decode cX12_rowGoes 77 = .ok (.lload 5, 2) := by decide +kernel
theorem dX12_rowGoes_79 : decode cX12_rowGoes 79 = .ok (.ldc2_w 486, 3) := by decide +kernel
theorem dX12_rowGoes_82 : decode cX12_rowGoes 82 = .ok (.lcmp, 1) := by decide +kernel
theorem dX12_rowGoes_83 : decode cX12_rowGoes 83 = .ok (.ifCond .le 8, 3) := by decide +kernel
theorem dX12_rowGoes_86 : decode cX12_rowGoes 86 = .ok (.bipush 99, 2) := by decide +kernel
theorem dX12_rowGoes_88 : decode cX12_rowGoes 88 = .ok (.goto 6, 3) := by decide +kernel
theorem dX12_rowGoes_91 : decode cX12_rowGoes 91 = .ok (.lload 5, 2) := by decide +kernel
theorem dX12_rowGoes_93 : decode cX12_rowGoes 93 = .ok (.l2i, 1) := by decide +kernel
theorem dX12_rowGoes_94 : decode cX12_rowGoes 94 = .ok (.aload_n 0, 1) := by decide +kernel
theorem dX12_rowGoes_95 : decode cX12_rowGoes 95 = .ok (.getfield 54, 3) := by decide +kernel
theorem dX12_rowGoes_98 : decode cX12_rowGoes 98 = .ok (.iload_n 2, 1) := by decide +kernel
theorem dX12_rowGoes_99 : decode cX12_rowGoes 99 = .ok (.iconst 3, 1) := by decide +kernel
theorem dX12_rowGoes_100 : decode cX12_rowGoes 100 = .ok (.iadd, 1) := by decide +kernel
theorem dX12_rowGoes_101 : decode cX12_rowGoes 101 = .ok (.iaload, 1) := by decide +kernel
theorem dX12_rowGoes_102 : decode cX12_rowGoes 102 = .ok (.invokevirtual 494, 3) := by decide +kernel
theorem dX12_rowGoes_105 : decode cX12_rowGoes 105 = .ok (.iinc 3 1, 3) := by decide +kernel
theorem dX12_rowGoes_108 : decode cX12_rowGoes 108 = .ok (.goto (-99), 3) := by decide +kernel
theorem dX12_rowGoes_111 : decode cX12_rowGoes 111 = .ok (.return_, 1) := by decide +kernel
set_option maxRecDepth 20000 in
theorem bk_X12_rowGoes_0 {d : Nat} {w : hb_W} {Q : Option hb_V → hb_W → Prop} {x1 : Int32} (h : hb_R yX12_rowGoes cX12_rowGoes 7 none (d + 1) 9 [some (hb_r 12 0 0), some (hb_i x1), some (hb_i ((80 : Int32) + ((4 : Int32) * x1))), some (hb_i (0 : Int32)), none, none, none] [] w Q) : hb_R yX12_rowGoes cX12_rowGoes 7 none (d + 1) 0 [some (hb_r 12 0 0), some (hb_i x1), none, none, none, none, none] [] w Q := by
  refine hb_bipush (pc := 0) (v := 80) dX12_rowGoes_0 (by decide) ?_
  refine hb_iconst (pc := 2) (v := 4) dX12_rowGoes_2 (by decide) ?_
  refine hb_iload_n (pc := 3) (i := 1) dX12_rowGoes_3 rfl rfl ?_
  refine hb_imul (pc := 4) dX12_rowGoes_4 ?_
  refine hb_iadd (pc := 5) dX12_rowGoes_5 ?_
  refine hb_istore_n (pc := 6) (i := 2) (ls1 := [some (hb_r 12 0 0), some (hb_i x1), some (hb_i ((80 : Int32) + ((4 : Int32) * x1))), none, none, none, none]) dX12_rowGoes_6 rfl (by decide) rfl ?_
  refine hb_iconst (pc := 7) (v := 0) dX12_rowGoes_7 (by decide) ?_
  refine hb_istore_n (pc := 8) (i := 3) (ls1 := [some (hb_r 12 0 0), some (hb_i x1), some (hb_i ((80 : Int32) + ((4 : Int32) * x1))), some (hb_i (0 : Int32)), none, none, none]) dX12_rowGoes_8 rfl (by decide) rfl ?_
  exact h
set_option maxRecDepth 20000 in
theorem bk_X12_rowGoes_9 {d : Nat} {w : hb_W} {Q : Option hb_V → hb_W → Prop} {x1 : Int32} {x2 : Int32} {x3 : Int32} (h : vp_in x2 160 ∧ ((((hb_aI w 12 14 0 x2.toNatClampNeg) ≤ x3) → Q none w) ∧ ((¬ (hb_aI w 12 14 0 x2.toNatClampNeg) ≤ x3) → vp_in (x2 + (1 : Int32)) 160 ∧ (vp_in (x2 + (2 : Int32)) 160 ∧ (hb_O yX12_codesTell cX12_codesTell 4 (some .long) d [hb_r 12 0 0, hb_i x1] (hb_pI (hb_pI w 12 34 0 (((hb_aI w 12 14 0 (x2 + (1 : Int32)).toNatClampNeg) + (x3 * (hb_aI w 12 14 0 (x2 + (2 : Int32)).toNatClampNeg))) - ((hb_aI w 12 14 0 (x2 + (1 : Int32)).toNatClampNeg) + (x3 * (hb_aI w 12 14 0 (x2 + (2 : Int32)).toNatClampNeg))) / (64 : Int32) * (64 : Int32))) 12 35 0 x3) (fun rv w1 => hb_R yX12_rowGoes cX12_rowGoes 7 none (d + 1) 61 [some (hb_r 12 0 0), some (hb_i x1), some (hb_i x2), some (hb_i x3), some (hb_i (((hb_aI w 12 14 0 (x2 + (1 : Int32)).toNatClampNeg) + (x3 * (hb_aI w 12 14 0 (x2 + (2 : Int32)).toNatClampNeg))) - ((hb_aI w 12 14 0 (x2 + (1 : Int32)).toNatClampNeg) + (x3 * (hb_aI w 12 14 0 (x2 + (2 : Int32)).toNatClampNeg))) / (64 : Int32) * (64 : Int32))), none, none] (rv.toList ++ []) w1 Q)))))) : hb_R yX12_rowGoes cX12_rowGoes 7 none (d + 1) 9 [some (hb_r 12 0 0), some (hb_i x1), some (hb_i x2), some (hb_i x3), none, none, none] [] w Q := by
  refine hb_iload_n (pc := 9) (i := 3) dX12_rowGoes_9 rfl rfl ?_
  refine hb_aload_n (pc := 10) (i := 0) dX12_rowGoes_10 rfl rfl ?_
  refine hb_getR (pc := 11) (g1 := 0) dX12_rowGoes_11 fw_X12_54 cw_12 rfl (by decide) rfl (by decide) rfl ?_
  refine hb_iload_n (pc := 14) (i := 2) dX12_rowGoes_14 rfl rfl ?_
  obtain ⟨ho1, hr1⟩ := h
  refine hb_ialdx (pc := 15) (x := hb_aI w 12 14 0 x2.toNatClampNeg) dX12_rowGoes_15 rfl (by decide) ho1 rfl ?_
  refine hb_icmp_ge (pc := 16) (tgt := 111) dX12_rowGoes_16 (by decide) (fun c2 => ?_) (fun c2 => ?_)
  · have ht2 := hr1.1 c2
    exact hb_vret (pc := 111) dX12_rowGoes_111 rfl ht2
  · have ht2 := hr1.2 c2
    refine hb_aload_n (pc := 19) (i := 0) dX12_rowGoes_19 rfl rfl ?_
    refine hb_aload_n (pc := 20) (i := 0) dX12_rowGoes_20 rfl rfl ?_
    refine hb_getR (pc := 21) (g1 := 0) dX12_rowGoes_21 fw_X12_54 cw_12 rfl (by decide) rfl (by decide) rfl ?_
    refine hb_iload_n (pc := 24) (i := 2) dX12_rowGoes_24 rfl rfl ?_
    refine hb_iconst (pc := 25) (v := 1) dX12_rowGoes_25 (by decide) ?_
    refine hb_iadd (pc := 26) dX12_rowGoes_26 ?_
    obtain ⟨ho3, hr3⟩ := ht2
    refine hb_ialdx (pc := 27) (x := hb_aI w 12 14 0 (x2 + (1 : Int32)).toNatClampNeg) dX12_rowGoes_27 rfl (by decide) ho3 rfl ?_
    refine hb_iload_n (pc := 28) (i := 3) dX12_rowGoes_28 rfl rfl ?_
    refine hb_aload_n (pc := 29) (i := 0) dX12_rowGoes_29 rfl rfl ?_
    refine hb_getR (pc := 30) (g1 := 0) dX12_rowGoes_30 fw_X12_54 cw_12 rfl (by decide) rfl (by decide) rfl ?_
    refine hb_iload_n (pc := 33) (i := 2) dX12_rowGoes_33 rfl rfl ?_
    refine hb_iconst (pc := 34) (v := 2) dX12_rowGoes_34 (by decide) ?_
    refine hb_iadd (pc := 35) dX12_rowGoes_35 ?_
    obtain ⟨ho4, hr4⟩ := hr3
    refine hb_ialdx (pc := 36) (x := hb_aI w 12 14 0 (x2 + (2 : Int32)).toNatClampNeg) dX12_rowGoes_36 rfl (by decide) ho4 rfl ?_
    refine hb_imul (pc := 37) dX12_rowGoes_37 ?_
    refine hb_iadd (pc := 38) dX12_rowGoes_38 ?_
    refine hb_bipush (pc := 39) (v := 64) dX12_rowGoes_39 (by decide) ?_
    refine hb_irem (pc := 41) dX12_rowGoes_41 (by decide) ?_
    refine hb_putI (pc := 42) dX12_rowGoes_42 fw_X12_330 cw_12 pw_12_34 rfl (by decide) rfl rfl rfl ?_
    refine hb_aload_n (pc := 45) (i := 0) dX12_rowGoes_45 rfl rfl ?_
    refine hb_iload_n (pc := 46) (i := 3) dX12_rowGoes_46 rfl rfl ?_
    refine hb_putI (pc := 47) dX12_rowGoes_47 fw_X12_497 cw_12 pw_12_35 rfl (by decide) rfl rfl rfl ?_
    refine hb_aload_n (pc := 50) (i := 0) dX12_rowGoes_50 rfl rfl ?_
    refine hb_getIx (pc := 51) (x := ((hb_aI w 12 14 0 (x2 + (1 : Int32)).toNatClampNeg) + (x3 * (hb_aI w 12 14 0 (x2 + (2 : Int32)).toNatClampNeg))) - ((hb_aI w 12 14 0 (x2 + (1 : Int32)).toNatClampNeg) + (x3 * (hb_aI w 12 14 0 (x2 + (2 : Int32)).toNatClampNeg))) / (64 : Int32) * (64 : Int32)) dX12_rowGoes_51 fw_X12_330 cw_12 rfl (by decide) rfl rfl ?_
    refine hb_istore (pc := 54) (i := 4) (ls1 := [some (hb_r 12 0 0), some (hb_i x1), some (hb_i x2), some (hb_i x3), some (hb_i (((hb_aI w 12 14 0 (x2 + (1 : Int32)).toNatClampNeg) + (x3 * (hb_aI w 12 14 0 (x2 + (2 : Int32)).toNatClampNeg))) - ((hb_aI w 12 14 0 (x2 + (1 : Int32)).toNatClampNeg) + (x3 * (hb_aI w 12 14 0 (x2 + (2 : Int32)).toNatClampNeg))) / (64 : Int32) * (64 : Int32))), none, none]) dX12_rowGoes_54 (by decide) rfl ?_
    refine hb_aload_n (pc := 56) (i := 0) dX12_rowGoes_56 rfl rfl ?_
    refine hb_iload_n (pc := 57) (i := 1) dX12_rowGoes_57 rfl rfl ?_
    exact hb_callV (pc := 58) (As := [hb_i x1]) (st := []) dX12_rowGoes_58 ml_X12_345 mf_X12_codesTell mi_X12_codesTell (ci := 12) rfl rfl (by decide) rfl rfl (Nat.le_of_ble_eq_true rfl) (Nat.le_of_ble_eq_true rfl) hr4 (fun _ _ q => q)
set_option maxRecDepth 20000 in
theorem bk_X12_rowGoes_61 {d : Nat} {w : hb_W} {Q : Option hb_V → hb_W → Prop} {x1 : Int32} {x2 : Int32} {x3 : Int32} {x4 : Int32} {ls0 : Int64} (h : ((0 ≤ (lg_cmp ls0 (0 : Int64))) → (((lg_cmp ls0 (99 : Int64)) ≤ 0) → vp_in (x2 + (3 : Int32)) 160 ∧ (hb_O yX12_goes cX12_goes 5 none d [hb_r 12 0 0, hb_i x4, hb_i ls0.toInt32, hb_i (hb_aI w 12 14 0 (x2 + (3 : Int32)).toNatClampNeg)] w (fun rv w1 => hb_R yX12_rowGoes cX12_rowGoes 7 none (d + 1) 105 [some (hb_r 12 0 0), some (hb_i x1), some (hb_i x2), some (hb_i x3), some (hb_i x4), some (hb_l ls0), none] (rv.toList ++ []) w1 Q))) ∧ ((¬ (lg_cmp ls0 (99 : Int64)) ≤ 0) → vp_in (x2 + (3 : Int32)) 160 ∧ (hb_O yX12_goes cX12_goes 5 none d [hb_r 12 0 0, hb_i x4, hb_i (99 : Int32), hb_i (hb_aI w 12 14 0 (x2 + (3 : Int32)).toNatClampNeg)] w (fun rv w1 => hb_R yX12_rowGoes cX12_rowGoes 7 none (d + 1) 105 [some (hb_r 12 0 0), some (hb_i x1), some (hb_i x2), some (hb_i x3), some (hb_i x4), some (hb_l ls0), none] (rv.toList ++ []) w1 Q)))) ∧ ((¬ 0 ≤ (lg_cmp ls0 (0 : Int64))) → vp_in (x2 + (3 : Int32)) 160 ∧ (hb_O yX12_goes cX12_goes 5 none d [hb_r 12 0 0, hb_i x4, hb_i (0 : Int32), hb_i (hb_aI w 12 14 0 (x2 + (3 : Int32)).toNatClampNeg)] w (fun rv w1 => hb_R yX12_rowGoes cX12_rowGoes 7 none (d + 1) 105 [some (hb_r 12 0 0), some (hb_i x1), some (hb_i x2), some (hb_i x3), some (hb_i x4), some (hb_l ls0), none] (rv.toList ++ []) w1 Q)))) : hb_R yX12_rowGoes cX12_rowGoes 7 none (d + 1) 61 [some (hb_r 12 0 0), some (hb_i x1), some (hb_i x2), some (hb_i x3), some (hb_i x4), none, none] [hb_l ls0] w Q := by
  refine hb_lstore (pc := 61) (i := 5) (ls1 := [some (hb_r 12 0 0), some (hb_i x1), some (hb_i x2), some (hb_i x3), some (hb_i x4), some (hb_l ls0), none]) dX12_rowGoes_61 (by decide) rfl ?_
  refine hb_aload_n (pc := 63) (i := 0) dX12_rowGoes_63 rfl rfl ?_
  refine hb_iload (pc := 64) dX12_rowGoes_64 rfl ?_
  refine hb_lload (pc := 66) dX12_rowGoes_66 rfl ?_
  refine hb_lconst (pc := 68) (v := 0) dX12_rowGoes_68 (by decide) ?_
  refine hb_lcmp (pc := 69) dX12_rowGoes_69 ?_
  refine hb_if_ge (pc := 70) (tgt := 77) dX12_rowGoes_70 (by decide) (fun c1 => ?_) (fun c1 => ?_)
  · have ht1 := h.1 c1
    refine hb_lload (pc := 77) dX12_rowGoes_77 rfl ?_
    refine hb_ldc2 (pc := 79) (v := 99) dX12_rowGoes_79 kc_X12_486 ?_
    refine hb_lcmp (pc := 82) dX12_rowGoes_82 ?_
    refine hb_if_le (pc := 83) (tgt := 91) dX12_rowGoes_83 (by decide) (fun c2 => ?_) (fun c2 => ?_)
    · have ht2 := ht1.1 c2
      refine hb_lload (pc := 91) dX12_rowGoes_91 rfl ?_
      refine hb_l2i (pc := 93) dX12_rowGoes_93 ?_
      refine hb_aload_n (pc := 94) (i := 0) dX12_rowGoes_94 rfl rfl ?_
      refine hb_getR (pc := 95) (g1 := 0) dX12_rowGoes_95 fw_X12_54 cw_12 rfl (by decide) rfl (by decide) rfl ?_
      refine hb_iload_n (pc := 98) (i := 2) dX12_rowGoes_98 rfl rfl ?_
      refine hb_iconst (pc := 99) (v := 3) dX12_rowGoes_99 (by decide) ?_
      refine hb_iadd (pc := 100) dX12_rowGoes_100 ?_
      obtain ⟨ho3, hr3⟩ := ht2
      refine hb_ialdx (pc := 101) (x := hb_aI w 12 14 0 (x2 + (3 : Int32)).toNatClampNeg) dX12_rowGoes_101 rfl (by decide) ho3 rfl ?_
      exact hb_callV (pc := 102) (As := [hb_i x4, hb_i ls0.toInt32, hb_i (hb_aI w 12 14 0 (x2 + (3 : Int32)).toNatClampNeg)]) (st := []) dX12_rowGoes_102 ml_X12_494 mf_X12_goes mi_X12_goes (ci := 12) rfl rfl (by decide) rfl rfl (Nat.le_of_ble_eq_true rfl) (Nat.le_of_ble_eq_true rfl) hr3 (fun _ _ q => q)
    · have ht2 := ht1.2 c2
      refine hb_bipush (pc := 86) (v := 99) dX12_rowGoes_86 (by decide) ?_
      refine hb_goto (pc := 88) (tgt := 94) dX12_rowGoes_88 (by decide) ?_
      refine hb_aload_n (pc := 94) (i := 0) dX12_rowGoes_94 rfl rfl ?_
      refine hb_getR (pc := 95) (g1 := 0) dX12_rowGoes_95 fw_X12_54 cw_12 rfl (by decide) rfl (by decide) rfl ?_
      refine hb_iload_n (pc := 98) (i := 2) dX12_rowGoes_98 rfl rfl ?_
      refine hb_iconst (pc := 99) (v := 3) dX12_rowGoes_99 (by decide) ?_
      refine hb_iadd (pc := 100) dX12_rowGoes_100 ?_
      obtain ⟨ho4, hr4⟩ := ht2
      refine hb_ialdx (pc := 101) (x := hb_aI w 12 14 0 (x2 + (3 : Int32)).toNatClampNeg) dX12_rowGoes_101 rfl (by decide) ho4 rfl ?_
      exact hb_callV (pc := 102) (As := [hb_i x4, hb_i (99 : Int32), hb_i (hb_aI w 12 14 0 (x2 + (3 : Int32)).toNatClampNeg)]) (st := []) dX12_rowGoes_102 ml_X12_494 mf_X12_goes mi_X12_goes (ci := 12) rfl rfl (by decide) rfl rfl (Nat.le_of_ble_eq_true rfl) (Nat.le_of_ble_eq_true rfl) hr4 (fun _ _ q => q)
  · have ht1 := h.2 c1
    refine hb_iconst (pc := 73) (v := 0) dX12_rowGoes_73 (by decide) ?_
    refine hb_goto (pc := 74) (tgt := 94) dX12_rowGoes_74 (by decide) ?_
    refine hb_aload_n (pc := 94) (i := 0) dX12_rowGoes_94 rfl rfl ?_
    refine hb_getR (pc := 95) (g1 := 0) dX12_rowGoes_95 fw_X12_54 cw_12 rfl (by decide) rfl (by decide) rfl ?_
    refine hb_iload_n (pc := 98) (i := 2) dX12_rowGoes_98 rfl rfl ?_
    refine hb_iconst (pc := 99) (v := 3) dX12_rowGoes_99 (by decide) ?_
    refine hb_iadd (pc := 100) dX12_rowGoes_100 ?_
    obtain ⟨ho5, hr5⟩ := ht1
    refine hb_ialdx (pc := 101) (x := hb_aI w 12 14 0 (x2 + (3 : Int32)).toNatClampNeg) dX12_rowGoes_101 rfl (by decide) ho5 rfl ?_
    exact hb_callV (pc := 102) (As := [hb_i x4, hb_i (0 : Int32), hb_i (hb_aI w 12 14 0 (x2 + (3 : Int32)).toNatClampNeg)]) (st := []) dX12_rowGoes_102 ml_X12_494 mf_X12_goes mi_X12_goes (ci := 12) rfl rfl (by decide) rfl rfl (Nat.le_of_ble_eq_true rfl) (Nat.le_of_ble_eq_true rfl) hr5 (fun _ _ q => q)
set_option maxRecDepth 20000 in
theorem bk_X12_rowGoes_105 {d : Nat} {w : hb_W} {Q : Option hb_V → hb_W → Prop} {x1 : Int32} {x2 : Int32} {x3 : Int32} {x4 : Int32} {l5 : Int64} (h : hb_R yX12_rowGoes cX12_rowGoes 7 none (d + 1) 9 [some (hb_r 12 0 0), some (hb_i x1), some (hb_i x2), some (hb_i (x3 + (1 : Int32))), some (hb_i x4), some (hb_l l5), none] [] w Q) : hb_R yX12_rowGoes cX12_rowGoes 7 none (d + 1) 105 [some (hb_r 12 0 0), some (hb_i x1), some (hb_i x2), some (hb_i x3), some (hb_i x4), some (hb_l l5), none] [] w Q := by
  refine hb_iinc (pc := 105) (v := x3 + (1 : Int32)) (ls1 := [some (hb_r 12 0 0), some (hb_i x1), some (hb_i x2), some (hb_i (x3 + (1 : Int32))), some (hb_i x4), some (hb_l l5), none]) dX12_rowGoes_105 rfl rfl (by decide) rfl ?_
  refine hb_goto (pc := 108) (tgt := 9) dX12_rowGoes_108 (by decide) ?_
  exact h
