theorem dX2_readNight_0 : decode cX2_readNight 0 = .ok (.aload_n 1, 1) := by decide +kernel
theorem dX2_readNight_1 : decode cX2_readNight 1 = .ok (.invokevirtual 23, 3) := by decide +kernel
theorem dX2_readNight_4 : decode cX2_readNight 4 = .ok (.aload_n 0, 1) := by decide +kernel
theorem dX2_readNight_5 : decode cX2_readNight 5 = .ok (.aload_n 1, 1) := by decide +kernel
theorem dX2_readNight_6 : decode cX2_readNight 6 = .ok (.getfield 28, 3) := by decide +kernel
theorem dX2_readNight_9 : decode cX2_readNight 9 = .ok (.putfield 15, 3) := by decide +kernel
theorem dX2_readNight_12 : decode cX2_readNight 12 = .ok (.aload_n 0, 1) := by decide +kernel
theorem dX2_readNight_13 : decode cX2_readNight 13 = .ok (.getfield 9, 3) := by decide +kernel
theorem dX2_readNight_16 : decode cX2_readNight 16 = .ok (.invokevirtual 29, 3) := by decide +kernel
theorem dX2_readNight_19 : decode cX2_readNight 19 = .ok (.aload_n 0, 1) := by decide +kernel
theorem dX2_readNight_20 : decode cX2_readNight 20 = .ok (.aload_n 1, 1) := by decide +kernel
theorem dX2_readNight_21 : decode cX2_readNight 21 = .ok (.invokevirtual 34, 3) := by decide +kernel
theorem dX2_readNight_24 : decode cX2_readNight 24 = .ok (.ifCond .ne 5, 3) := by decide +kernel
theorem dX2_readNight_27 : decode cX2_readNight 27 = .ok (.iconst 0, 1) := by decide +kernel
theorem dX2_readNight_28 : decode cX2_readNight 28 = .ok (.ireturn, 1) := by decide +kernel
theorem dX2_readNight_29 : decode cX2_readNight 29 = .ok (.aload_n 1, 1) := by decide +kernel
theorem dX2_readNight_30 : decode cX2_readNight 30 = .ok (.iconst 1, 1) := by decide +kernel
theorem dX2_readNight_31 : decode cX2_readNight 31 = .ok (.putfield 38, 3) := by decide +kernel
theorem dX2_readNight_34 : decode cX2_readNight 34 = .ok (.iconst 1, 1) := by decide +kernel
theorem dX2_readNight_35 : decode cX2_readNight 35 = .ok (.istore_n 2, 1) := by decide +kernel
theorem dX2_readNight_36 : decode cX2_readNight 36 = .ok (.iload_n 2, 1) := by decide +kernel
theorem dX2_readNight_37 : decode cX2_readNight 37 = .ok (.bipush 40, 2) := by decide +kernel
theorem dX2_readNight_39 : decode cX2_readNight 39 = .ok (.if_icmp .ge 39, 3) := by decide +kernel
theorem dX2_readNight_42 : decode cX2_readNight 42 = .ok (.aload_n 0, 1) := by decide +kernel
theorem dX2_readNight_43 : decode cX2_readNight 43 = .ok (.getfield 9, 3) := by decide +kernel
theorem dX2_readNight_46 : decode cX2_readNight 46 = .ok (.getfield 41, 3) := by decide +kernel
theorem dX2_readNight_49 : decode cX2_readNight 49 = .ok (.ifCond .eq 29, 3) := by decide +kernel
theorem dX2_readNight_52 : decode cX2_readNight 52 = .ok (.aload_n 0, 1) := by decide +kernel
theorem dX2_readNight_53 : decode cX2_readNight 53 = .ok (.aload_n 1, 1) := by decide +kernel
theorem dX2_readNight_54 : decode cX2_readNight 54 = .ok (.invokevirtual 44, 3) := by decide +kernel
theorem dX2_readNight_57 : decode cX2_readNight 57 = .ok (.ifCond .ne 5, 3) := by decide +kernel
theorem dX2_readNight_60 : decode cX2_readNight 60 = .ok (.iconst 0, 1) := by decide +kernel
theorem dX2_readNight_61 : decode cX2_readNight 61 = .ok (.ireturn, 1) := by decide +kernel
theorem dX2_readNight_62 : decode cX2_readNight 62 = .ok (.aload_n 1, 1) := by decide +kernel
theorem dX2_readNight_63 : decode cX2_readNight 63 = .ok (.dup, 1) := by decide +kernel
theorem dX2_readNight_64 : decode cX2_readNight 64 = .ok (.getfield 38, 3) := by decide +kernel
theorem dX2_readNight_67 : decode cX2_readNight 67 = .ok (.iconst 1, 1) := by decide +kernel
theorem dX2_readNight_68 : decode cX2_readNight 68 = .ok (.iadd, 1) := by decide +kernel
theorem dX2_readNight_69 : decode cX2_readNight 69 = .ok (.putfield 38, 3) := by decide +kernel
theorem dX2_readNight_72 : decode cX2_readNight 72 = .ok (.iinc 2 1, 3) := by decide +kernel
theorem dX2_readNight_75 : decode cX2_readNight 75 = .ok (.goto (-39), 3) := by decide +kernel
theorem dX2_readNight_78 : decode cX2_readNight 78 = .ok (.aload_n 0, 1) := by decide +kernel
theorem dX2_readNight_79 : decode cX2_readNight 79 = .ok (.getfield 9, 3) := by decide +kernel
theorem dX2_readNight_82 : decode cX2_readNight 82 = .ok (.getfield 41, 3) := by decide +kernel
theorem dX2_readNight_85 : decode cX2_readNight 85 = .ok (.ifCond .eq 19, 3) := by decide +kernel
theorem dX2_readNight_88 : decode cX2_readNight 88 = .ok (.aload_n 0, 1) := by decide +kernel
theorem dX2_readNight_89 : decode cX2_readNight 89 = .ok (.getfield 9, 3) := by decide +kernel
theorem dX2_readNight_92 : decode cX2_readNight 92 = .ok (.iconst 5, 1) := by decide +kernel
theorem dX2_readNight_93 : decode cX2_readNight 93 = .ok (.aload_n 0, 1) := by decide +kernel
theorem dX2_readNight_94 : decode cX2_readNight 94 = .ok (.getfield 9, 3) := by decide +kernel
theorem dX2_readNight_97 : decode cX2_readNight 97 = .ok (.getfield 47, 3) := by decide +kernel
theorem dX2_readNight_100 : decode cX2_readNight 100 = .ok (.invokevirtual 50, 3) := by decide +kernel
theorem dX2_readNight_103 : decode cX2_readNight 103 = .ok (.ireturn, 1) := by decide +kernel
theorem dX2_readNight_104 : decode cX2_readNight 104 = .ok (.aload_n 1, 1) := by decide +kernel
theorem dX2_readNight_105 : decode cX2_readNight 105 = .ok (.getfield 54, 3) := by decide +kernel
theorem dX2_readNight_108 : decode cX2_readNight 108 = .ok (.ifCond .ne 7, 3) := by decide +kernel
theorem dX2_readNight_111 : decode cX2_readNight 111 = .ok (.aload_n 1, 1) := by decide +kernel
theorem dX2_readNight_112 : decode cX2_readNight 112 = .ok (.invokevirtual 58, 3) := by decide +kernel
theorem dX2_readNight_115 : decode cX2_readNight 115 = .ok (.iconst 1, 1) := by decide +kernel
theorem dX2_readNight_116 : decode cX2_readNight 116 = .ok (.ireturn, 1) := by decide +kernel
set_option maxRecDepth 20000 in
theorem bk_X2_readNight_0 {d : Nat} {w : hb_W} {Q : Option hb_V → hb_W → Prop} {g1 : Nat} (hg1 : g1 < hb_ct 11) (h : hb_O yX6_clear cX6_clear 1 none d [hb_r 11 g1 0] w (fun rv w1 => hb_R yX2_readNight cX2_readNight 3 (some .boolean) (d + 1) 4 [some (hb_r 4 0 0), some (hb_r 11 g1 0), none] (rv.toList ++ []) w1 Q)) : hb_R yX2_readNight cX2_readNight 3 (some .boolean) (d + 1) 0 [some (hb_r 4 0 0), some (hb_r 11 g1 0), none] [] w Q := by
  refine hb_aload_n (pc := 0) (i := 1) dX2_readNight_0 rfl rfl ?_
  exact hb_callV (pc := 1) (As := []) (st := []) dX2_readNight_1 ml_X2_23 mf_X6_clear mi_X6_clear (ci := 6) rfl rfl hg1 rfl rfl (Nat.le_of_ble_eq_true rfl) (Nat.le_of_ble_eq_true rfl) h (fun _ _ q => q)
set_option maxRecDepth 20000 in
theorem bk_X2_readNight_4 {d : Nat} {w : hb_W} {Q : Option hb_V → hb_W → Prop} {g1 : Nat} (hg1 : g1 < hb_ct 11) (h : hb_O yX7_start cX7_start 1 none d [hb_r 3 0 0] (hb_pR w 4 1 0 (g1 + 1)) (fun rv w1 => hb_R yX2_readNight cX2_readNight 3 (some .boolean) (d + 1) 19 [some (hb_r 4 0 0), some (hb_r 11 g1 0), none] (rv.toList ++ []) w1 Q)) : hb_R yX2_readNight cX2_readNight 3 (some .boolean) (d + 1) 4 [some (hb_r 4 0 0), some (hb_r 11 g1 0), none] [] w Q := by
  refine hb_aload_n (pc := 4) (i := 0) dX2_readNight_4 rfl rfl ?_
  refine hb_aload_n (pc := 5) (i := 1) dX2_readNight_5 rfl rfl ?_
  refine hb_getR (pc := 6) (g1 := g1 + 1) dX2_readNight_6 fw_X2_28 cw_6 rfl hg1 rfl (by decide) rfl ?_
  refine hb_putR (pc := 9) dX2_readNight_9 fw_X2_15 cw_2 pw_2_1 rfl (by decide) rfl ?_
  refine hb_aload_n (pc := 12) (i := 0) dX2_readNight_12 rfl rfl ?_
  refine hb_getR (pc := 13) (g1 := 0) dX2_readNight_13 fw_X2_9 cw_2 rfl (by decide) rfl (by decide) rfl ?_
  exact hb_callV (pc := 16) (As := []) (st := []) dX2_readNight_16 ml_X2_29 mf_X7_start mi_X7_start (ci := 7) rfl rfl (by decide) rfl rfl (Nat.le_of_ble_eq_true rfl) (Nat.le_of_ble_eq_true rfl) h (fun _ _ q => q)
set_option maxRecDepth 20000 in
theorem bk_X2_readNight_19 {d : Nat} {w : hb_W} {Q : Option hb_V → hb_W → Prop} {g1 : Nat} (hg1 : g1 < hb_ct 11) (h : hb_O yX2_readBook cX2_readBook 2 (some .boolean) d [hb_r 4 0 0, hb_r 11 g1 0] w (fun rv w1 => hb_R yX2_readNight cX2_readNight 3 (some .boolean) (d + 1) 24 [some (hb_r 4 0 0), some (hb_r 11 g1 0), none] (rv.toList ++ []) w1 Q)) : hb_R yX2_readNight cX2_readNight 3 (some .boolean) (d + 1) 19 [some (hb_r 4 0 0), some (hb_r 11 g1 0), none] [] w Q := by
  refine hb_aload_n (pc := 19) (i := 0) dX2_readNight_19 rfl rfl ?_
  refine hb_aload_n (pc := 20) (i := 1) dX2_readNight_20 rfl rfl ?_
  exact hb_callV (pc := 21) (As := [hb_r 11 g1 0]) (st := []) dX2_readNight_21 ml_X2_34 mf_X2_readBook mi_X2_readBook (ci := 2) rfl rfl (by decide) rfl rfl (Nat.le_of_ble_eq_true rfl) (Nat.le_of_ble_eq_true rfl) h (fun _ _ q => q)
set_option maxRecDepth 20000 in
theorem bk_X2_readNight_24 {d : Nat} {w : hb_W} {Q : Option hb_V → hb_W → Prop} {g1 : Nat} {xs0 : Int32} (hg1 : g1 < hb_ct 11) (h : ((¬ xs0 = 0) → hb_R yX2_readNight cX2_readNight 3 (some .boolean) (d + 1) 36 [some (hb_r 4 0 0), some (hb_r 11 g1 0), some (hb_i (1 : Int32))] [] (hb_pI w 11 0 g1 (1 : Int32)) Q) ∧ ((xs0 = 0) → Q (some (hb_i (0 : Int32))) w)) : hb_R yX2_readNight cX2_readNight 3 (some .boolean) (d + 1) 24 [some (hb_r 4 0 0), some (hb_r 11 g1 0), none] [hb_i xs0] w Q := by
  refine hb_if_ne (pc := 24) (tgt := 29) dX2_readNight_24 (by decide) (fun c1 => ?_) (fun c1 => ?_)
  · have ht1 := h.1 c1
    refine hb_aload_n (pc := 29) (i := 1) dX2_readNight_29 rfl rfl ?_
    refine hb_iconst (pc := 30) (v := 1) dX2_readNight_30 (by decide) ?_
    refine hb_putI (pc := 31) dX2_readNight_31 fw_X2_38 cw_6 pw_6_0 rfl hg1 rfl rfl rfl ?_
    refine hb_iconst (pc := 34) (v := 1) dX2_readNight_34 (by decide) ?_
    refine hb_istore_n (pc := 35) (i := 2) (ls1 := [some (hb_r 4 0 0), some (hb_r 11 g1 0), some (hb_i (1 : Int32))]) dX2_readNight_35 rfl (by decide) rfl ?_
    exact ht1
  · have ht1 := h.2 c1
    refine hb_iconst (pc := 27) (v := 0) dX2_readNight_27 (by decide) ?_
    exact hb_zret (pc := 28) dX2_readNight_28 rfl (Or.inl rfl) ht1
set_option maxRecDepth 20000 in
theorem bk_X2_readNight_36 {d : Nat} {w : hb_W} {Q : Option hb_V → hb_W → Prop} {g1 : Nat} {x2 : Int32} (hg1 : g1 < hb_ct 11) (h : (((40 : Int32) ≤ x2) → (((hb_fI w 3 1 0) = 0) → ((¬ (hb_fI w 11 12 g1) = 0) → hb_R yX2_readNight cX2_readNight 3 (some .boolean) (d + 1) 115 [some (hb_r 4 0 0), some (hb_r 11 g1 0), some (hb_i x2)] [] w Q) ∧ (((hb_fI w 11 12 g1) = 0) → hb_O yX6_putPlainMix cX6_putPlainMix 1 none d [hb_r 11 g1 0] w (fun rv w1 => hb_R yX2_readNight cX2_readNight 3 (some .boolean) (d + 1) 115 [some (hb_r 4 0 0), some (hb_r 11 g1 0), some (hb_i x2)] (rv.toList ++ []) w1 Q))) ∧ ((¬ (hb_fI w 3 1 0) = 0) → hb_O yX7_stop cX7_stop 3 (some .boolean) d [hb_r 3 0 0, hb_i (5 : Int32), hb_i (hb_fI w 3 4 0)] w (fun rv w1 => hb_R yX2_readNight cX2_readNight 3 (some .boolean) (d + 1) 103 [some (hb_r 4 0 0), some (hb_r 11 g1 0), some (hb_i x2)] (rv.toList ++ []) w1 Q))) ∧ ((¬ (40 : Int32) ≤ x2) → (((hb_fI w 3 1 0) = 0) → (((hb_fI w 3 1 0) = 0) → ((¬ (hb_fI w 11 12 g1) = 0) → hb_R yX2_readNight cX2_readNight 3 (some .boolean) (d + 1) 115 [some (hb_r 4 0 0), some (hb_r 11 g1 0), some (hb_i x2)] [] w Q) ∧ (((hb_fI w 11 12 g1) = 0) → hb_O yX6_putPlainMix cX6_putPlainMix 1 none d [hb_r 11 g1 0] w (fun rv w1 => hb_R yX2_readNight cX2_readNight 3 (some .boolean) (d + 1) 115 [some (hb_r 4 0 0), some (hb_r 11 g1 0), some (hb_i x2)] (rv.toList ++ []) w1 Q))) ∧ ((¬ (hb_fI w 3 1 0) = 0) → hb_O yX7_stop cX7_stop 3 (some .boolean) d [hb_r 3 0 0, hb_i (5 : Int32), hb_i (hb_fI w 3 4 0)] w (fun rv w1 => hb_R yX2_readNight cX2_readNight 3 (some .boolean) (d + 1) 103 [some (hb_r 4 0 0), some (hb_r 11 g1 0), some (hb_i x2)] (rv.toList ++ []) w1 Q))) ∧ ((¬ (hb_fI w 3 1 0) = 0) → hb_O yX2_readStatement cX2_readStatement 3 (some .boolean) d [hb_r 4 0 0, hb_r 11 g1 0] w (fun rv w1 => hb_R yX2_readNight cX2_readNight 3 (some .boolean) (d + 1) 57 [some (hb_r 4 0 0), some (hb_r 11 g1 0), some (hb_i x2)] (rv.toList ++ []) w1 Q)))) : hb_R yX2_readNight cX2_readNight 3 (some .boolean) (d + 1) 36 [some (hb_r 4 0 0), some (hb_r 11 g1 0), some (hb_i x2)] [] w Q := by
  refine hb_iload_n (pc := 36) (i := 2) dX2_readNight_36 rfl rfl ?_
  refine hb_bipush (pc := 37) (v := 40) dX2_readNight_37 (by decide) ?_
  refine hb_icmp_ge (pc := 39) (tgt := 78) dX2_readNight_39 (by decide) (fun c1 => ?_) (fun c1 => ?_)
  · have ht1 := h.1 c1
    refine hb_aload_n (pc := 78) (i := 0) dX2_readNight_78 rfl rfl ?_
    refine hb_getR (pc := 79) (g1 := 0) dX2_readNight_79 fw_X2_9 cw_2 rfl (by decide) rfl (by decide) rfl ?_
    refine hb_getIx (pc := 82) (x := hb_fI w 3 1 0) dX2_readNight_82 fw_X2_41 cw_7 rfl (by decide) rfl rfl ?_
    refine hb_if_eq (pc := 85) (tgt := 104) dX2_readNight_85 (by decide) (fun c2 => ?_) (fun c2 => ?_)
    · have ht2 := ht1.1 c2
      refine hb_aload_n (pc := 104) (i := 1) dX2_readNight_104 rfl rfl ?_
      refine hb_getIx (pc := 105) (x := hb_fI w 11 12 g1) dX2_readNight_105 fw_X2_54 cw_6 rfl hg1 rfl rfl ?_
      refine hb_if_ne (pc := 108) (tgt := 115) dX2_readNight_108 (by decide) (fun c3 => ?_) (fun c3 => ?_)
      · have ht3 := ht2.1 c3
        exact ht3
      · have ht3 := ht2.2 c3
        refine hb_aload_n (pc := 111) (i := 1) dX2_readNight_111 rfl rfl ?_
        exact hb_callV (pc := 112) (As := []) (st := []) dX2_readNight_112 ml_X2_58 mf_X6_putPlainMix mi_X6_putPlainMix (ci := 6) rfl rfl hg1 rfl rfl (Nat.le_of_ble_eq_true rfl) (Nat.le_of_ble_eq_true rfl) ht3 (fun _ _ q => q)
    · have ht2 := ht1.2 c2
      refine hb_aload_n (pc := 88) (i := 0) dX2_readNight_88 rfl rfl ?_
      refine hb_getR (pc := 89) (g1 := 0) dX2_readNight_89 fw_X2_9 cw_2 rfl (by decide) rfl (by decide) rfl ?_
      refine hb_iconst (pc := 92) (v := 5) dX2_readNight_92 (by decide) ?_
      refine hb_aload_n (pc := 93) (i := 0) dX2_readNight_93 rfl rfl ?_
      refine hb_getR (pc := 94) (g1 := 0) dX2_readNight_94 fw_X2_9 cw_2 rfl (by decide) rfl (by decide) rfl ?_
      refine hb_getIx (pc := 97) (x := hb_fI w 3 4 0) dX2_readNight_97 fw_X2_47 cw_7 rfl (by decide) rfl rfl ?_
      exact hb_callV (pc := 100) (As := [hb_i (5 : Int32), hb_i (hb_fI w 3 4 0)]) (st := []) dX2_readNight_100 ml_X2_50 mf_X7_stop mi_X7_stop (ci := 7) rfl rfl (by decide) rfl rfl (Nat.le_of_ble_eq_true rfl) (Nat.le_of_ble_eq_true rfl) ht2 (fun _ _ q => q)
  · have ht1 := h.2 c1
    refine hb_aload_n (pc := 42) (i := 0) dX2_readNight_42 rfl rfl ?_
    refine hb_getR (pc := 43) (g1 := 0) dX2_readNight_43 fw_X2_9 cw_2 rfl (by decide) rfl (by decide) rfl ?_
    refine hb_getIx (pc := 46) (x := hb_fI w 3 1 0) dX2_readNight_46 fw_X2_41 cw_7 rfl (by decide) rfl rfl ?_
    refine hb_if_eq (pc := 49) (tgt := 78) dX2_readNight_49 (by decide) (fun c4 => ?_) (fun c4 => ?_)
    · have ht4 := ht1.1 c4
      refine hb_aload_n (pc := 78) (i := 0) dX2_readNight_78 rfl rfl ?_
      refine hb_getR (pc := 79) (g1 := 0) dX2_readNight_79 fw_X2_9 cw_2 rfl (by decide) rfl (by decide) rfl ?_
      refine hb_getIx (pc := 82) (x := hb_fI w 3 1 0) dX2_readNight_82 fw_X2_41 cw_7 rfl (by decide) rfl rfl ?_
      refine hb_if_eq (pc := 85) (tgt := 104) dX2_readNight_85 (by decide) (fun c5 => ?_) (fun c5 => ?_)
      · have ht5 := ht4.1 c5
        refine hb_aload_n (pc := 104) (i := 1) dX2_readNight_104 rfl rfl ?_
        refine hb_getIx (pc := 105) (x := hb_fI w 11 12 g1) dX2_readNight_105 fw_X2_54 cw_6 rfl hg1 rfl rfl ?_
        refine hb_if_ne (pc := 108) (tgt := 115) dX2_readNight_108 (by decide) (fun c6 => ?_) (fun c6 => ?_)
        · have ht6 := ht5.1 c6
          exact ht6
        · have ht6 := ht5.2 c6
          refine hb_aload_n (pc := 111) (i := 1) dX2_readNight_111 rfl rfl ?_
          exact hb_callV (pc := 112) (As := []) (st := []) dX2_readNight_112 ml_X2_58 mf_X6_putPlainMix mi_X6_putPlainMix (ci := 6) rfl rfl hg1 rfl rfl (Nat.le_of_ble_eq_true rfl) (Nat.le_of_ble_eq_true rfl) ht6 (fun _ _ q => q)
      · have ht5 := ht4.2 c5
        refine hb_aload_n (pc := 88) (i := 0) dX2_readNight_88 rfl rfl ?_
        refine hb_getR (pc := 89) (g1 := 0) dX2_readNight_89 fw_X2_9 cw_2 rfl (by decide) rfl (by decide) rfl ?_
        refine hb_iconst (pc := 92) (v := 5) dX2_readNight_92 (by decide) ?_
        refine hb_aload_n (pc := 93) (i := 0) dX2_readNight_93 rfl rfl ?_
        refine hb_getR (pc := 94) (g1 := 0) dX2_readNight_94 fw_X2_9 cw_2 rfl (by decide) rfl (by decide) rfl ?_
        refine hb_getIx (pc := 97) (x := hb_fI w 3 4 0) dX2_readNight_97 fw_X2_47 cw_7 rfl (by decide) rfl rfl ?_
        exact hb_callV (pc := 100) (As := [hb_i (5 : Int32), hb_i (hb_fI w 3 4 0)]) (st := []) dX2_readNight_100 ml_X2_50 mf_X7_stop mi_X7_stop (ci := 7) rfl rfl (by decide) rfl rfl (Nat.le_of_ble_eq_true rfl) (Nat.le_of_ble_eq_true rfl) ht5 (fun _ _ q => q)
    · have ht4 := ht1.2 c4
      refine hb_aload_n (pc := 52) (i := 0) dX2_readNight_52 rfl rfl ?_
      refine hb_aload_n (pc := 53) (i := 1) dX2_readNight_53 rfl rfl ?_
      exact hb_callV (pc := 54) (As := [hb_r 11 g1 0]) (st := []) dX2_readNight_54 ml_X2_44 mf_X2_readStatement mi_X2_readStatement (ci := 2) rfl rfl (by decide) rfl rfl (Nat.le_of_ble_eq_true rfl) (Nat.le_of_ble_eq_true rfl) ht4 (fun _ _ q => q)
set_option maxRecDepth 20000 in
theorem bk_X2_readNight_57 {d : Nat} {w : hb_W} {Q : Option hb_V → hb_W → Prop} {g1 : Nat} {x2 : Int32} {xs0 : Int32} (hg1 : g1 < hb_ct 11) (h : ((¬ xs0 = 0) → hb_R yX2_readNight cX2_readNight 3 (some .boolean) (d + 1) 36 [some (hb_r 4 0 0), some (hb_r 11 g1 0), some (hb_i (x2 + (1 : Int32)))] [] (hb_pI w 11 0 g1 ((hb_fI w 11 0 g1) + (1 : Int32))) Q) ∧ ((xs0 = 0) → Q (some (hb_i (0 : Int32))) w)) : hb_R yX2_readNight cX2_readNight 3 (some .boolean) (d + 1) 57 [some (hb_r 4 0 0), some (hb_r 11 g1 0), some (hb_i x2)] [hb_i xs0] w Q := by
  refine hb_if_ne (pc := 57) (tgt := 62) dX2_readNight_57 (by decide) (fun c1 => ?_) (fun c1 => ?_)
  · have ht1 := h.1 c1
    refine hb_aload_n (pc := 62) (i := 1) dX2_readNight_62 rfl rfl ?_
    refine hb_dupr (pc := 63) dX2_readNight_63 ?_
    refine hb_getIx (pc := 64) (x := hb_fI w 11 0 g1) dX2_readNight_64 fw_X2_38 cw_6 rfl hg1 rfl rfl ?_
    refine hb_iconst (pc := 67) (v := 1) dX2_readNight_67 (by decide) ?_
    refine hb_iadd (pc := 68) dX2_readNight_68 ?_
    refine hb_putI (pc := 69) dX2_readNight_69 fw_X2_38 cw_6 pw_6_0 rfl hg1 rfl rfl rfl ?_
    refine hb_iinc (pc := 72) (v := x2 + (1 : Int32)) (ls1 := [some (hb_r 4 0 0), some (hb_r 11 g1 0), some (hb_i (x2 + (1 : Int32)))]) dX2_readNight_72 rfl rfl (by decide) rfl ?_
    refine hb_goto (pc := 75) (tgt := 36) dX2_readNight_75 (by decide) ?_
    exact ht1
  · have ht1 := h.2 c1
    refine hb_iconst (pc := 60) (v := 0) dX2_readNight_60 (by decide) ?_
    exact hb_zret (pc := 61) dX2_readNight_61 rfl (Or.inl rfl) ht1
set_option maxRecDepth 20000 in
theorem bk_X2_readNight_103 {d : Nat} {w : hb_W} {Q : Option hb_V → hb_W → Prop} {g1 : Nat} {x2 : Int32} {xs0 : Int32} (hg1 : g1 < hb_ct 11) (h : (xs0 = 0 ∨ xs0 = 1) ∧ Q (some (hb_i xs0)) w) : hb_R yX2_readNight cX2_readNight 3 (some .boolean) (d + 1) 103 [some (hb_r 4 0 0), some (hb_r 11 g1 0), some (hb_i x2)] [hb_i xs0] w Q := by
  exact hb_zret (pc := 103) dX2_readNight_103 rfl h.1 h.2
set_option maxRecDepth 20000 in
theorem bk_X2_readNight_115 {d : Nat} {w : hb_W} {Q : Option hb_V → hb_W → Prop} {g1 : Nat} {x2 : Int32} (hg1 : g1 < hb_ct 11) (h : Q (some (hb_i (1 : Int32))) w) : hb_R yX2_readNight cX2_readNight 3 (some .boolean) (d + 1) 115 [some (hb_r 4 0 0), some (hb_r 11 g1 0), some (hb_i x2)] [] w Q := by
  refine hb_iconst (pc := 115) (v := 1) dX2_readNight_115 (by decide) ?_
  exact hb_zret (pc := 116) dX2_readNight_116 rfl (Or.inr rfl) h
theorem dX2_readQuestion_0 : decode cX2_readQuestion 0 = .ok (.aload_n 0, 1) := by decide +kernel
theorem dX2_readQuestion_1 : decode cX2_readQuestion 1 = .ok (.aload_n 1, 1) := by decide +kernel
theorem dX2_readQuestion_2 : decode cX2_readQuestion 2 = .ok (.putfield 15, 3) := by decide +kernel
theorem dX2_readQuestion_5 : decode cX2_readQuestion 5 = .ok (.aload_n 1, 1) := by decide +kernel
theorem dX2_readQuestion_6 : decode cX2_readQuestion 6 = .ok (.iconst 0, 1) := by decide +kernel
theorem dX2_readQuestion_7 : decode cX2_readQuestion 7 = .ok (.putfield 61, 3) := by decide +kernel
theorem dX2_readQuestion_10 : decode cX2_readQuestion 10 = .ok (.aload_n 0, 1) := by decide +kernel
theorem dX2_readQuestion_11 : decode cX2_readQuestion 11 = .ok (.iconst 2, 1) := by decide +kernel
theorem dX2_readQuestion_12 : decode cX2_readQuestion 12 = .ok (.putfield 19, 3) := by decide +kernel
theorem dX2_readQuestion_15 : decode cX2_readQuestion 15 = .ok (.aload_n 0, 1) := by decide +kernel
theorem dX2_readQuestion_16 : decode cX2_readQuestion 16 = .ok (.getfield 9, 3) := by decide +kernel
theorem dX2_readQuestion_19 : decode cX2_readQuestion 19 = .ok (.invokevirtual 29, 3) := by decide +kernel
theorem dX2_readQuestion_22 : decode cX2_readQuestion 22 = .ok (.aload_n 0, 1) := by decide +kernel
theorem dX2_readQuestion_23 : decode cX2_readQuestion 23 = .ok (.invokevirtual 66, 3) := by decide +kernel
theorem dX2_readQuestion_26 : decode cX2_readQuestion 26 = .ok (.istore_n 2, 1) := by decide +kernel
theorem dX2_readQuestion_27 : decode cX2_readQuestion 27 = .ok (.iload_n 2, 1) := by decide +kernel
theorem dX2_readQuestion_28 : decode cX2_readQuestion 28 = .ok (.ifCond .ne 21, 3) := by decide +kernel
theorem dX2_readQuestion_31 : decode cX2_readQuestion 31 = .ok (.aload_n 0, 1) := by decide +kernel
theorem dX2_readQuestion_32 : decode cX2_readQuestion 32 = .ok (.getfield 9, 3) := by decide +kernel
theorem dX2_readQuestion_35 : decode cX2_readQuestion 35 = .ok (.iconst 1, 1) := by decide +kernel
theorem dX2_readQuestion_36 : decode cX2_readQuestion 36 = .ok (.aload_n 0, 1) := by decide +kernel
theorem dX2_readQuestion_37 : decode cX2_readQuestion 37 = .ok (.getfield 9, 3) := by decide +kernel
theorem dX2_readQuestion_40 : decode cX2_readQuestion 40 = .ok (.getfield 47, 3) := by decide +kernel
theorem dX2_readQuestion_43 : decode cX2_readQuestion 43 = .ok (.invokevirtual 50, 3) := by decide +kernel
theorem dX2_readQuestion_46 : decode cX2_readQuestion 46 = .ok (.pop, 1) := by decide +kernel
theorem dX2_readQuestion_47 : decode cX2_readQuestion 47 = .ok (.iconst 0, 1) := by decide +kernel
theorem dX2_readQuestion_48 : decode cX2_readQuestion 48 = .ok (.ireturn, 1) := by decide +kernel
theorem dX2_readQuestion_49 : decode cX2_readQuestion 49 = .ok (.aload_n 0, 1) := by decide +kernel
theorem dX2_readQuestion_50 : decode cX2_readQuestion 50 = .ok (.getfield 9, 3) := by decide +kernel
theorem dX2_readQuestion_53 : decode cX2_readQuestion 53 = .ok (.invokevirtual 70, 3) := by decide +kernel
theorem dX2_readQuestion_56 : decode cX2_readQuestion 56 = .ok (.iload_n 2, 1) := by decide +kernel
theorem dX2_readQuestion_57 : decode cX2_readQuestion 57 = .ok (.iconst 3, 1) := by decide +kernel
theorem dX2_readQuestion_58 : decode cX2_readQuestion 58 = .ok (.if_icmp .gt 11, 3) := by decide +kernel
theorem dX2_readQuestion_61 : decode cX2_readQuestion 61 = .ok (.aload_n 0, 1) := by decide +kernel
theorem dX2_readQuestion_62 : decode cX2_readQuestion 62 = .ok (.iconst 0, 1) := by decide +kernel
theorem dX2_readQuestion_63 : decode cX2_readQuestion 63 = .ok (.invokevirtual 73, 3) := by decide +kernel
theorem dX2_readQuestion_66 : decode cX2_readQuestion 66 = .ok (.goto 8, 3) := by decide +kernel
theorem dX2_readQuestion_69 : decode cX2_readQuestion 69 = .ok (.aload_n 0, 1) := by decide +kernel
theorem dX2_readQuestion_70 : decode cX2_readQuestion 70 = .ok (.iconst 0, 1) := by decide +kernel
theorem dX2_readQuestion_71 : decode cX2_readQuestion 71 = .ok (.invokevirtual 77, 3) := by decide +kernel
theorem dX2_readQuestion_74 : decode cX2_readQuestion 74 = .ok (.istore_n 3, 1) := by decide +kernel
theorem dX2_readQuestion_75 : decode cX2_readQuestion 75 = .ok (.iload_n 3, 1) := by decide +kernel
theorem dX2_readQuestion_76 : decode cX2_readQuestion 76 = .ok (.ifCond .eq 29, 3) := by decide +kernel
theorem dX2_readQuestion_79 : decode cX2_readQuestion 79 = .ok (.aload_n 0, 1) := by decide +kernel
theorem dX2_readQuestion_80 : decode cX2_readQuestion 80 = .ok (.getfield 9, 3) := by decide +kernel
theorem dX2_readQuestion_83 : decode cX2_readQuestion 83 = .ok (.getfield 41, 3) := by decide +kernel
theorem dX2_readQuestion_86 : decode cX2_readQuestion 86 = .ok (.ifCond .eq 19, 3) := by decide +kernel
theorem dX2_readQuestion_89 : decode cX2_readQuestion 89 = .ok (.aload_n 0, 1) := by decide +kernel
theorem dX2_readQuestion_90 : decode cX2_readQuestion 90 = .ok (.getfield 9, 3) := by decide +kernel
theorem dX2_readQuestion_93 : decode cX2_readQuestion 93 = .ok (.iconst 1, 1) := by decide +kernel
theorem dX2_readQuestion_94 : decode cX2_readQuestion 94 = .ok (.aload_n 0, 1) := by decide +kernel
theorem dX2_readQuestion_95 : decode cX2_readQuestion 95 = .ok (.getfield 9, 3) := by decide +kernel
theorem dX2_readQuestion_98 : decode cX2_readQuestion 98 = .ok (.getfield 47, 3) := by decide +kernel
theorem dX2_readQuestion_101 : decode cX2_readQuestion 101 = .ok (.invokevirtual 50, 3) := by decide +kernel
theorem dX2_readQuestion_104 : decode cX2_readQuestion 104 = .ok (.istore_n 3, 1) := by decide +kernel
theorem dX2_readQuestion_105 : decode cX2_readQuestion 105 = .ok (.iload_n 3, 1) := by decide +kernel
theorem dX2_readQuestion_106 : decode cX2_readQuestion 106 = .ok (.ifCond .eq 7, 3) := by decide +kernel
theorem dX2_readQuestion_109 : decode cX2_readQuestion 109 = .ok (.iload_n 2, 1) := by decide +kernel
theorem dX2_readQuestion_110 : decode cX2_readQuestion 110 = .ok (.goto 4, 3) := by decide +kernel
theorem dX2_readQuestion_113 : decode cX2_readQuestion 113 = .ok (.iconst 0, 1) := by decide +kernel
theorem dX2_readQuestion_114 : decode cX2_readQuestion 114 = .ok (.ireturn, 1) := by decide +kernel
set_option maxRecDepth 20000 in
theorem bk_X2_readQuestion_0 {d : Nat} {w : hb_W} {Q : Option hb_V → hb_W → Prop} {g1 : Nat} (hg1 : g1 < hb_ct 2) (h : hb_O yX7_start cX7_start 1 none d [hb_r 3 0 0] (hb_pI (hb_pI (hb_pR w 4 1 0 g1) 2 1 g1 (0 : Int32)) 4 2 0 (2 : Int32)) (fun rv w1 => hb_R yX2_readQuestion cX2_readQuestion 4 (some .int) (d + 1) 22 [some (hb_r 4 0 0), some (hb_r 2 g1 0), none, none] (rv.toList ++ []) w1 Q)) : hb_R yX2_readQuestion cX2_readQuestion 4 (some .int) (d + 1) 0 [some (hb_r 4 0 0), some (hb_r 2 g1 0), none, none] [] w Q := by
  refine hb_aload_n (pc := 0) (i := 0) dX2_readQuestion_0 rfl rfl ?_
  refine hb_aload_n (pc := 1) (i := 1) dX2_readQuestion_1 rfl rfl ?_
  refine hb_putR (pc := 2) dX2_readQuestion_2 fw_X2_15 cw_2 pw_2_1 rfl (by decide) rfl ?_
  refine hb_aload_n (pc := 5) (i := 1) dX2_readQuestion_5 rfl rfl ?_
  refine hb_iconst (pc := 6) (v := 0) dX2_readQuestion_6 (by decide) ?_
  refine hb_putI (pc := 7) dX2_readQuestion_7 fw_X2_61 cw_1 pw_1_1 rfl hg1 rfl rfl rfl ?_
  refine hb_aload_n (pc := 10) (i := 0) dX2_readQuestion_10 rfl rfl ?_
  refine hb_iconst (pc := 11) (v := 2) dX2_readQuestion_11 (by decide) ?_
  refine hb_putI (pc := 12) dX2_readQuestion_12 fw_X2_19 cw_2 pw_2_2 rfl (by decide) rfl rfl rfl ?_
  refine hb_aload_n (pc := 15) (i := 0) dX2_readQuestion_15 rfl rfl ?_
  refine hb_getR (pc := 16) (g1 := 0) dX2_readQuestion_16 fw_X2_9 cw_2 rfl (by decide) rfl (by decide) rfl ?_
  exact hb_callV (pc := 19) (As := []) (st := []) dX2_readQuestion_19 ml_X2_29 mf_X7_start mi_X7_start (ci := 7) rfl rfl (by decide) rfl rfl (Nat.le_of_ble_eq_true rfl) (Nat.le_of_ble_eq_true rfl) h (fun _ _ q => q)
set_option maxRecDepth 20000 in
theorem bk_X2_readQuestion_22 {d : Nat} {w : hb_W} {Q : Option hb_V → hb_W → Prop} {g1 : Nat} (hg1 : g1 < hb_ct 2) (h : hb_O yX2_askedHere cX2_askedHere 1 (some .int) d [hb_r 4 0 0] w (fun rv w1 => hb_R yX2_readQuestion cX2_readQuestion 4 (some .int) (d + 1) 26 [some (hb_r 4 0 0), some (hb_r 2 g1 0), none, none] (rv.toList ++ []) w1 Q)) : hb_R yX2_readQuestion cX2_readQuestion 4 (some .int) (d + 1) 22 [some (hb_r 4 0 0), some (hb_r 2 g1 0), none, none] [] w Q := by
  refine hb_aload_n (pc := 22) (i := 0) dX2_readQuestion_22 rfl rfl ?_
  exact hb_callV (pc := 23) (As := []) (st := []) dX2_readQuestion_23 ml_X2_66 mf_X2_askedHere mi_X2_askedHere (ci := 2) rfl rfl (by decide) rfl rfl (Nat.le_of_ble_eq_true rfl) (Nat.le_of_ble_eq_true rfl) h (fun _ _ q => q)
set_option maxRecDepth 20000 in
theorem bk_X2_readQuestion_26 {d : Nat} {w : hb_W} {Q : Option hb_V → hb_W → Prop} {g1 : Nat} {xs0 : Int32} (hg1 : g1 < hb_ct 2) (h : ((¬ xs0 = 0) → hb_O yX7_step cX7_step 4 none d [hb_r 3 0 0] w (fun rv w1 => hb_R yX2_readQuestion cX2_readQuestion 4 (some .int) (d + 1) 56 [some (hb_r 4 0 0), some (hb_r 2 g1 0), some (hb_i xs0), none] (rv.toList ++ []) w1 Q)) ∧ ((xs0 = 0) → hb_O yX7_stop cX7_stop 3 (some .boolean) d [hb_r 3 0 0, hb_i (1 : Int32), hb_i (hb_fI w 3 4 0)] w (fun rv w1 => hb_R yX2_readQuestion cX2_readQuestion 4 (some .int) (d + 1) 46 [some (hb_r 4 0 0), some (hb_r 2 g1 0), some (hb_i xs0), none] (rv.toList ++ []) w1 Q))) : hb_R yX2_readQuestion cX2_readQuestion 4 (some .int) (d + 1) 26 [some (hb_r 4 0 0), some (hb_r 2 g1 0), none, none] [hb_i xs0] w Q := by
  refine hb_istore_n (pc := 26) (i := 2) (ls1 := [some (hb_r 4 0 0), some (hb_r 2 g1 0), some (hb_i xs0), none]) dX2_readQuestion_26 rfl (by decide) rfl ?_
  refine hb_iload_n (pc := 27) (i := 2) dX2_readQuestion_27 rfl rfl ?_
  refine hb_if_ne (pc := 28) (tgt := 49) dX2_readQuestion_28 (by decide) (fun c1 => ?_) (fun c1 => ?_)
  · have ht1 := h.1 c1
    refine hb_aload_n (pc := 49) (i := 0) dX2_readQuestion_49 rfl rfl ?_
    refine hb_getR (pc := 50) (g1 := 0) dX2_readQuestion_50 fw_X2_9 cw_2 rfl (by decide) rfl (by decide) rfl ?_
    exact hb_callV (pc := 53) (As := []) (st := []) dX2_readQuestion_53 ml_X2_70 mf_X7_step mi_X7_step (ci := 7) rfl rfl (by decide) rfl rfl (Nat.le_of_ble_eq_true rfl) (Nat.le_of_ble_eq_true rfl) ht1 (fun _ _ q => q)
  · have ht1 := h.2 c1
    refine hb_aload_n (pc := 31) (i := 0) dX2_readQuestion_31 rfl rfl ?_
    refine hb_getR (pc := 32) (g1 := 0) dX2_readQuestion_32 fw_X2_9 cw_2 rfl (by decide) rfl (by decide) rfl ?_
    refine hb_iconst (pc := 35) (v := 1) dX2_readQuestion_35 (by decide) ?_
    refine hb_aload_n (pc := 36) (i := 0) dX2_readQuestion_36 rfl rfl ?_
    refine hb_getR (pc := 37) (g1 := 0) dX2_readQuestion_37 fw_X2_9 cw_2 rfl (by decide) rfl (by decide) rfl ?_
    refine hb_getIx (pc := 40) (x := hb_fI w 3 4 0) dX2_readQuestion_40 fw_X2_47 cw_7 rfl (by decide) rfl rfl ?_
    exact hb_callV (pc := 43) (As := [hb_i (1 : Int32), hb_i (hb_fI w 3 4 0)]) (st := []) dX2_readQuestion_43 ml_X2_50 mf_X7_stop mi_X7_stop (ci := 7) rfl rfl (by decide) rfl rfl (Nat.le_of_ble_eq_true rfl) (Nat.le_of_ble_eq_true rfl) ht1 (fun _ _ q => q)
set_option maxRecDepth 20000 in
theorem bk_X2_readQuestion_46 {d : Nat} {w : hb_W} {Q : Option hb_V → hb_W → Prop} {g1 : Nat} {x2 : Int32} {xs0 : Int32} (hg1 : g1 < hb_ct 2) (h : Q (some (hb_i (0 : Int32))) w) : hb_R yX2_readQuestion cX2_readQuestion 4 (some .int) (d + 1) 46 [some (hb_r 4 0 0), some (hb_r 2 g1 0), some (hb_i x2), none] [hb_i xs0] w Q := by
  refine hb_pop (pc := 46) dX2_readQuestion_46 ?_
  refine hb_iconst (pc := 47) (v := 0) dX2_readQuestion_47 (by decide) ?_
  exact hb_iret (pc := 48) dX2_readQuestion_48 rfl h
set_option maxRecDepth 20000 in
theorem bk_X2_readQuestion_56 {d : Nat} {w : hb_W} {Q : Option hb_V → hb_W → Prop} {g1 : Nat} {x2 : Int32} (hg1 : g1 < hb_ct 2) (h : (((3 : Int32) < x2) → hb_O yX2_readSum cX2_readSum 5 (some .boolean) d [hb_r 4 0 0, hb_i (0 : Int32)] w (fun rv w1 => hb_R yX2_readQuestion cX2_readQuestion 4 (some .int) (d + 1) 74 [some (hb_r 4 0 0), some (hb_r 2 g1 0), some (hb_i x2), none] (rv.toList ++ []) w1 Q)) ∧ ((¬ (3 : Int32) < x2) → hb_O yX2_readTest cX2_readTest 4 (some .boolean) d [hb_r 4 0 0, hb_i (0 : Int32)] w (fun rv w1 => hb_R yX2_readQuestion cX2_readQuestion 4 (some .int) (d + 1) 66 [some (hb_r 4 0 0), some (hb_r 2 g1 0), some (hb_i x2), none] (rv.toList ++ []) w1 Q))) : hb_R yX2_readQuestion cX2_readQuestion 4 (some .int) (d + 1) 56 [some (hb_r 4 0 0), some (hb_r 2 g1 0), some (hb_i x2), none] [] w Q := by
  refine hb_iload_n (pc := 56) (i := 2) dX2_readQuestion_56 rfl rfl ?_
  refine hb_iconst (pc := 57) (v := 3) dX2_readQuestion_57 (by decide) ?_
  refine hb_icmp_gt (pc := 58) (tgt := 69) dX2_readQuestion_58 (by decide) (fun c1 => ?_) (fun c1 => ?_)
  · have ht1 := h.1 c1
    refine hb_aload_n (pc := 69) (i := 0) dX2_readQuestion_69 rfl rfl ?_
    refine hb_iconst (pc := 70) (v := 0) dX2_readQuestion_70 (by decide) ?_
    exact hb_callV (pc := 71) (As := [hb_i (0 : Int32)]) (st := []) dX2_readQuestion_71 ml_X2_77 mf_X2_readSum mi_X2_readSum (ci := 2) rfl rfl (by decide) rfl rfl (Nat.le_of_ble_eq_true rfl) (Nat.le_of_ble_eq_true rfl) ht1 (fun _ _ q => q)
  · have ht1 := h.2 c1
    refine hb_aload_n (pc := 61) (i := 0) dX2_readQuestion_61 rfl rfl ?_
    refine hb_iconst (pc := 62) (v := 0) dX2_readQuestion_62 (by decide) ?_
    exact hb_callV (pc := 63) (As := [hb_i (0 : Int32)]) (st := []) dX2_readQuestion_63 ml_X2_73 mf_X2_readTest mi_X2_readTest (ci := 2) rfl rfl (by decide) rfl rfl (Nat.le_of_ble_eq_true rfl) (Nat.le_of_ble_eq_true rfl) ht1 (fun _ _ q => q)
set_option maxRecDepth 20000 in
theorem bk_X2_readQuestion_66 {d : Nat} {w : hb_W} {Q : Option hb_V → hb_W → Prop} {g1 : Nat} {x2 : Int32} {xs0 : Int32} (hg1 : g1 < hb_ct 2) (h : hb_R yX2_readQuestion cX2_readQuestion 4 (some .int) (d + 1) 74 [some (hb_r 4 0 0), some (hb_r 2 g1 0), some (hb_i x2), none] [hb_i xs0] w Q) : hb_R yX2_readQuestion cX2_readQuestion 4 (some .int) (d + 1) 66 [some (hb_r 4 0 0), some (hb_r 2 g1 0), some (hb_i x2), none] [hb_i xs0] w Q := by
  refine hb_goto (pc := 66) (tgt := 74) dX2_readQuestion_66 (by decide) ?_
  exact h
set_option maxRecDepth 20000 in
theorem bk_X2_readQuestion_74 {d : Nat} {w : hb_W} {Q : Option hb_V → hb_W → Prop} {g1 : Nat} {x2 : Int32} {xs0 : Int32} (hg1 : g1 < hb_ct 2) (h : ((xs0 = 0) → ((xs0 = 0) → Q (some (hb_i (0 : Int32))) w) ∧ ((¬ xs0 = 0) → Q (some (hb_i x2)) w)) ∧ ((¬ xs0 = 0) → (((hb_fI w 3 1 0) = 0) → ((xs0 = 0) → Q (some (hb_i (0 : Int32))) w) ∧ ((¬ xs0 = 0) → Q (some (hb_i x2)) w)) ∧ ((¬ (hb_fI w 3 1 0) = 0) → hb_O yX7_stop cX7_stop 3 (some .boolean) d [hb_r 3 0 0, hb_i (1 : Int32), hb_i (hb_fI w 3 4 0)] w (fun rv w1 => hb_R yX2_readQuestion cX2_readQuestion 4 (some .int) (d + 1) 104 [some (hb_r 4 0 0), some (hb_r 2 g1 0), some (hb_i x2), some (hb_i xs0)] (rv.toList ++ []) w1 Q)))) : hb_R yX2_readQuestion cX2_readQuestion 4 (some .int) (d + 1) 74 [some (hb_r 4 0 0), some (hb_r 2 g1 0), some (hb_i x2), none] [hb_i xs0] w Q := by
  refine hb_istore_n (pc := 74) (i := 3) (ls1 := [some (hb_r 4 0 0), some (hb_r 2 g1 0), some (hb_i x2), some (hb_i xs0)]) dX2_readQuestion_74 rfl (by decide) rfl ?_
  refine hb_iload_n (pc := 75) (i := 3) dX2_readQuestion_75 rfl rfl ?_
  refine hb_if_eq (pc := 76) (tgt := 105) dX2_readQuestion_76 (by decide) (fun c1 => ?_) (fun c1 => ?_)
  · have ht1 := h.1 c1
    refine hb_iload_n (pc := 105) (i := 3) dX2_readQuestion_105 rfl rfl ?_
    refine hb_if_eq (pc := 106) (tgt := 113) dX2_readQuestion_106 (by decide) (fun c2 => ?_) (fun c2 => ?_)
    · have ht2 := ht1.1 c2
      refine hb_iconst (pc := 113) (v := 0) dX2_readQuestion_113 (by decide) ?_
      exact hb_iret (pc := 114) dX2_readQuestion_114 rfl ht2
    · have ht2 := ht1.2 c2
      refine hb_iload_n (pc := 109) (i := 2) dX2_readQuestion_109 rfl rfl ?_
      refine hb_goto (pc := 110) (tgt := 114) dX2_readQuestion_110 (by decide) ?_
      exact hb_iret (pc := 114) dX2_readQuestion_114 rfl ht2
  · have ht1 := h.2 c1
    refine hb_aload_n (pc := 79) (i := 0) dX2_readQuestion_79 rfl rfl ?_
    refine hb_getR (pc := 80) (g1 := 0) dX2_readQuestion_80 fw_X2_9 cw_2 rfl (by decide) rfl (by decide) rfl ?_
    refine hb_getIx (pc := 83) (x := hb_fI w 3 1 0) dX2_readQuestion_83 fw_X2_41 cw_7 rfl (by decide) rfl rfl ?_
    refine hb_if_eq (pc := 86) (tgt := 105) dX2_readQuestion_86 (by decide) (fun c3 => ?_) (fun c3 => ?_)
    · have ht3 := ht1.1 c3
      refine hb_iload_n (pc := 105) (i := 3) dX2_readQuestion_105 rfl rfl ?_
      refine hb_if_eq (pc := 106) (tgt := 113) dX2_readQuestion_106 (by decide) (fun c4 => ?_) (fun c4 => ?_)
      · have ht4 := ht3.1 c4
        refine hb_iconst (pc := 113) (v := 0) dX2_readQuestion_113 (by decide) ?_
        exact hb_iret (pc := 114) dX2_readQuestion_114 rfl ht4
      · have ht4 := ht3.2 c4
        refine hb_iload_n (pc := 109) (i := 2) dX2_readQuestion_109 rfl rfl ?_
        refine hb_goto (pc := 110) (tgt := 114) dX2_readQuestion_110 (by decide) ?_
        exact hb_iret (pc := 114) dX2_readQuestion_114 rfl ht4
    · have ht3 := ht1.2 c3
      refine hb_aload_n (pc := 89) (i := 0) dX2_readQuestion_89 rfl rfl ?_
      refine hb_getR (pc := 90) (g1 := 0) dX2_readQuestion_90 fw_X2_9 cw_2 rfl (by decide) rfl (by decide) rfl ?_
      refine hb_iconst (pc := 93) (v := 1) dX2_readQuestion_93 (by decide) ?_
      refine hb_aload_n (pc := 94) (i := 0) dX2_readQuestion_94 rfl rfl ?_
      refine hb_getR (pc := 95) (g1 := 0) dX2_readQuestion_95 fw_X2_9 cw_2 rfl (by decide) rfl (by decide) rfl ?_
      refine hb_getIx (pc := 98) (x := hb_fI w 3 4 0) dX2_readQuestion_98 fw_X2_47 cw_7 rfl (by decide) rfl rfl ?_
      exact hb_callV (pc := 101) (As := [hb_i (1 : Int32), hb_i (hb_fI w 3 4 0)]) (st := []) dX2_readQuestion_101 ml_X2_50 mf_X7_stop mi_X7_stop (ci := 7) rfl rfl (by decide) rfl rfl (Nat.le_of_ble_eq_true rfl) (Nat.le_of_ble_eq_true rfl) ht3 (fun _ _ q => q)
set_option maxRecDepth 20000 in
theorem bk_X2_readQuestion_104 {d : Nat} {w : hb_W} {Q : Option hb_V → hb_W → Prop} {g1 : Nat} {x2 : Int32} {x3 : Int32} {xs0 : Int32} (hg1 : g1 < hb_ct 2) (h : ((xs0 = 0) → Q (some (hb_i (0 : Int32))) w) ∧ ((¬ xs0 = 0) → Q (some (hb_i x2)) w)) : hb_R yX2_readQuestion cX2_readQuestion 4 (some .int) (d + 1) 104 [some (hb_r 4 0 0), some (hb_r 2 g1 0), some (hb_i x2), some (hb_i x3)] [hb_i xs0] w Q := by
  refine hb_istore_n (pc := 104) (i := 3) (ls1 := [some (hb_r 4 0 0), some (hb_r 2 g1 0), some (hb_i x2), some (hb_i xs0)]) dX2_readQuestion_104 rfl (by decide) rfl ?_
  refine hb_iload_n (pc := 105) (i := 3) dX2_readQuestion_105 rfl rfl ?_
  refine hb_if_eq (pc := 106) (tgt := 113) dX2_readQuestion_106 (by decide) (fun c1 => ?_) (fun c1 => ?_)
  · have ht1 := h.1 c1
    refine hb_iconst (pc := 113) (v := 0) dX2_readQuestion_113 (by decide) ?_
    exact hb_iret (pc := 114) dX2_readQuestion_114 rfl ht1
  · have ht1 := h.2 c1
    refine hb_iload_n (pc := 109) (i := 2) dX2_readQuestion_109 rfl rfl ?_
    refine hb_goto (pc := 110) (tgt := 114) dX2_readQuestion_110 (by decide) ?_
    exact hb_iret (pc := 114) dX2_readQuestion_114 rfl ht1
theorem dX2_readBook_0 : decode cX2_readBook 0 = .ok (.aload_n 0, 1) := by decide +kernel
theorem dX2_readBook_1 : decode cX2_readBook 1 = .ok (.getfield 9, 3) := by decide +kernel
theorem dX2_readBook_4 : decode cX2_readBook 4 = .ok (.ldc 80, 2) := by decide +kernel
theorem dX2_readBook_6 : decode cX2_readBook 6 = .ok (.invokevirtual 81, 3) := by decide +kernel
theorem dX2_readBook_9 : decode cX2_readBook 9 = .ok (.ifCond .eq 15, 3) := by decide +kernel
theorem dX2_readBook_12 : decode cX2_readBook 12 = .ok (.aload_n 0, 1) := by decide +kernel
theorem dX2_readBook_13 : decode cX2_readBook 13 = .ok (.getfield 9, 3) := by decide +kernel
theorem dX2_readBook_16 : decode cX2_readBook 16 = .ok (.ldc 84, 2) := by decide +kernel
theorem dX2_readBook_18 : decode cX2_readBook 18 = .ok (.invokevirtual 81, 3) := by decide +kernel
theorem dX2_readBook_21 : decode cX2_readBook 21 = .ok (.ifCond .ne 5, 3) := by decide +kernel
theorem dX2_readBook_24 : decode cX2_readBook 24 = .ok (.iconst 0, 1) := by decide +kernel
theorem dX2_readBook_25 : decode cX2_readBook 25 = .ok (.ireturn, 1) := by decide +kernel
theorem dX2_readBook_26 : decode cX2_readBook 26 = .ok (.aload_n 1, 1) := by decide +kernel
theorem dX2_readBook_27 : decode cX2_readBook 27 = .ok (.aload_n 0, 1) := by decide +kernel
theorem dX2_readBook_28 : decode cX2_readBook 28 = .ok (.getfield 9, 3) := by decide +kernel
theorem dX2_readBook_31 : decode cX2_readBook 31 = .ok (.iconst 1, 1) := by decide +kernel
theorem dX2_readBook_32 : decode cX2_readBook 32 = .ok (.bipush 9, 2) := by decide +kernel
theorem dX2_readBook_34 : decode cX2_readBook 34 = .ok (.invokevirtual 85, 3) := by decide +kernel
theorem dX2_readBook_37 : decode cX2_readBook 37 = .ok (.putfield 89, 3) := by decide +kernel
theorem dX2_readBook_40 : decode cX2_readBook 40 = .ok (.aload_n 1, 1) := by decide +kernel
theorem dX2_readBook_41 : decode cX2_readBook 41 = .ok (.getfield 89, 3) := by decide +kernel
theorem dX2_readBook_44 : decode cX2_readBook 44 = .ok (.iconst (-1), 1) := by decide +kernel
theorem dX2_readBook_45 : decode cX2_readBook 45 = .ok (.if_icmp .eq 15, 3) := by decide +kernel
theorem dX2_readBook_48 : decode cX2_readBook 48 = .ok (.aload_n 0, 1) := by decide +kernel
theorem dX2_readBook_49 : decode cX2_readBook 49 = .ok (.getfield 9, 3) := by decide +kernel
theorem dX2_readBook_52 : decode cX2_readBook 52 = .ok (.ldc 92, 2) := by decide +kernel
theorem dX2_readBook_54 : decode cX2_readBook 54 = .ok (.invokevirtual 81, 3) := by decide +kernel
theorem dX2_readBook_57 : decode cX2_readBook 57 = .ok (.ifCond .ne 5, 3) := by decide +kernel
theorem dX2_readBook_60 : decode cX2_readBook 60 = .ok (.iconst 0, 1) := by decide +kernel
theorem dX2_readBook_61 : decode cX2_readBook 61 = .ok (.ireturn, 1) := by decide +kernel
theorem dX2_readBook_62 : decode cX2_readBook 62 = .ok (.aload_n 1, 1) := by decide +kernel
theorem dX2_readBook_63 : decode cX2_readBook 63 = .ok (.aload_n 0, 1) := by decide +kernel
theorem dX2_readBook_64 : decode cX2_readBook 64 = .ok (.getfield 9, 3) := by decide +kernel
theorem dX2_readBook_67 : decode cX2_readBook 67 = .ok (.iconst 1, 1) := by decide +kernel
theorem dX2_readBook_68 : decode cX2_readBook 68 = .ok (.iconst 3, 1) := by decide +kernel
theorem dX2_readBook_69 : decode cX2_readBook 69 = .ok (.invokevirtual 85, 3) := by decide +kernel
theorem dX2_readBook_72 : decode cX2_readBook 72 = .ok (.putfield 93, 3) := by decide +kernel
theorem dX2_readBook_75 : decode cX2_readBook 75 = .ok (.aload_n 1, 1) := by decide +kernel
theorem dX2_readBook_76 : decode cX2_readBook 76 = .ok (.getfield 93, 3) := by decide +kernel
theorem dX2_readBook_79 : decode cX2_readBook 79 = .ok (.iconst (-1), 1) := by decide +kernel
theorem dX2_readBook_80 : decode cX2_readBook 80 = .ok (.if_icmp .eq 19, 3) := by decide +kernel
theorem dX2_readBook_83 : decode cX2_readBook 83 = .ok (.aload_n 0, 1) := by decide +kernel
theorem dX2_readBook_84 : decode cX2_readBook 84 = .ok (.getfield 9, 3) := by decide +kernel
theorem dX2_readBook_87 : decode cX2_readBook 87 = .ok (.bipush 59, 2) := by decide +kernel
theorem dX2_readBook_89 : decode cX2_readBook 89 = .ok (.invokevirtual 96, 3) := by decide +kernel
theorem dX2_readBook_92 : decode cX2_readBook 92 = .ok (.ifCond .eq 7, 3) := by decide +kernel
theorem dX2_readBook_95 : decode cX2_readBook 95 = .ok (.iconst 1, 1) := by decide +kernel
theorem dX2_readBook_96 : decode cX2_readBook 96 = .ok (.goto 4, 3) := by decide +kernel
theorem dX2_readBook_99 : decode cX2_readBook 99 = .ok (.iconst 0, 1) := by decide +kernel
theorem dX2_readBook_100 : decode cX2_readBook 100 = .ok (.ireturn, 1) := by decide +kernel
set_option maxRecDepth 20000 in
theorem bk_X2_readBook_0 {d : Nat} {w : hb_W} {Q : Option hb_V → hb_W → Prop} {g1 : Nat} (hg1 : g1 < hb_ct 11) (h : hb_O yX7_takeWord cX7_takeWord 2 (some .boolean) d [hb_r 3 0 0, hb_i (3328587 : Int32)] w (fun rv w1 => hb_R yX2_readBook cX2_readBook 2 (some .boolean) (d + 1) 9 [some (hb_r 4 0 0), some (hb_r 11 g1 0)] (rv.toList ++ []) w1 Q)) : hb_R yX2_readBook cX2_readBook 2 (some .boolean) (d + 1) 0 [some (hb_r 4 0 0), some (hb_r 11 g1 0)] [] w Q := by
  refine hb_aload_n (pc := 0) (i := 0) dX2_readBook_0 rfl rfl ?_
  refine hb_getR (pc := 1) (g1 := 0) dX2_readBook_1 fw_X2_9 cw_2 rfl (by decide) rfl (by decide) rfl ?_
  refine hb_ldc (pc := 4) (v := 3328587) dX2_readBook_4 kc_X2_80 ?_
  exact hb_callV (pc := 6) (As := [hb_i (3328587 : Int32)]) (st := []) dX2_readBook_6 ml_X2_81 mf_X7_takeWord mi_X7_takeWord (ci := 7) rfl rfl (by decide) rfl rfl (Nat.le_of_ble_eq_true rfl) (Nat.le_of_ble_eq_true rfl) h (fun _ _ q => q)
set_option maxRecDepth 20000 in
theorem bk_X2_readBook_9 {d : Nat} {w : hb_W} {Q : Option hb_V → hb_W → Prop} {g1 : Nat} {xs0 : Int32} (hg1 : g1 < hb_ct 11) (h : ((xs0 = 0) → Q (some (hb_i (0 : Int32))) w) ∧ ((¬ xs0 = 0) → hb_O yX7_takeWord cX7_takeWord 2 (some .boolean) d [hb_r 3 0 0, hb_i (116802835 : Int32)] w (fun rv w1 => hb_R yX2_readBook cX2_readBook 2 (some .boolean) (d + 1) 21 [some (hb_r 4 0 0), some (hb_r 11 g1 0)] (rv.toList ++ []) w1 Q))) : hb_R yX2_readBook cX2_readBook 2 (some .boolean) (d + 1) 9 [some (hb_r 4 0 0), some (hb_r 11 g1 0)] [hb_i xs0] w Q := by
  refine hb_if_eq (pc := 9) (tgt := 24) dX2_readBook_9 (by decide) (fun c1 => ?_) (fun c1 => ?_)
  · have ht1 := h.1 c1
    refine hb_iconst (pc := 24) (v := 0) dX2_readBook_24 (by decide) ?_
    exact hb_zret (pc := 25) dX2_readBook_25 rfl (Or.inl rfl) ht1
  · have ht1 := h.2 c1
    refine hb_aload_n (pc := 12) (i := 0) dX2_readBook_12 rfl rfl ?_
    refine hb_getR (pc := 13) (g1 := 0) dX2_readBook_13 fw_X2_9 cw_2 rfl (by decide) rfl (by decide) rfl ?_
    refine hb_ldc (pc := 16) (v := 116802835) dX2_readBook_16 kc_X2_84 ?_
    exact hb_callV (pc := 18) (As := [hb_i (116802835 : Int32)]) (st := []) dX2_readBook_18 ml_X2_81 mf_X7_takeWord mi_X7_takeWord (ci := 7) rfl rfl (by decide) rfl rfl (Nat.le_of_ble_eq_true rfl) (Nat.le_of_ble_eq_true rfl) ht1 (fun _ _ q => q)
set_option maxRecDepth 20000 in
theorem bk_X2_readBook_21 {d : Nat} {w : hb_W} {Q : Option hb_V → hb_W → Prop} {g1 : Nat} {xs0 : Int32} (hg1 : g1 < hb_ct 11) (h : ((¬ xs0 = 0) → hb_O yX7_takeNumber cX7_takeNumber 4 (some .int) d [hb_r 3 0 0, hb_i (1 : Int32), hb_i (9 : Int32)] w (fun rv w1 => hb_R yX2_readBook cX2_readBook 2 (some .boolean) (d + 1) 37 [some (hb_r 4 0 0), some (hb_r 11 g1 0)] (rv.toList ++ [hb_r 11 g1 0]) w1 Q)) ∧ ((xs0 = 0) → Q (some (hb_i (0 : Int32))) w)) : hb_R yX2_readBook cX2_readBook 2 (some .boolean) (d + 1) 21 [some (hb_r 4 0 0), some (hb_r 11 g1 0)] [hb_i xs0] w Q := by
  refine hb_if_ne (pc := 21) (tgt := 26) dX2_readBook_21 (by decide) (fun c1 => ?_) (fun c1 => ?_)
  · have ht1 := h.1 c1
    refine hb_aload_n (pc := 26) (i := 1) dX2_readBook_26 rfl rfl ?_
    refine hb_aload_n (pc := 27) (i := 0) dX2_readBook_27 rfl rfl ?_
    refine hb_getR (pc := 28) (g1 := 0) dX2_readBook_28 fw_X2_9 cw_2 rfl (by decide) rfl (by decide) rfl ?_
    refine hb_iconst (pc := 31) (v := 1) dX2_readBook_31 (by decide) ?_
    refine hb_bipush (pc := 32) (v := 9) dX2_readBook_32 (by decide) ?_
    exact hb_callV (pc := 34) (As := [hb_i (1 : Int32), hb_i (9 : Int32)]) (st := [hb_r 11 g1 0]) dX2_readBook_34 ml_X2_85 mf_X7_takeNumber mi_X7_takeNumber (ci := 7) rfl rfl (by decide) rfl rfl (Nat.le_of_ble_eq_true rfl) (Nat.le_of_ble_eq_true rfl) ht1 (fun _ _ q => q)
  · have ht1 := h.2 c1
    refine hb_iconst (pc := 24) (v := 0) dX2_readBook_24 (by decide) ?_
    exact hb_zret (pc := 25) dX2_readBook_25 rfl (Or.inl rfl) ht1
set_option maxRecDepth 20000 in
theorem bk_X2_readBook_37 {d : Nat} {w : hb_W} {Q : Option hb_V → hb_W → Prop} {g1 : Nat} {gs0 : Nat} {xs1 : Int32} (hg1 : g1 < hb_ct 11) (hgs0 : gs0 < hb_ct 11) (h : (((hb_fI (hb_pI w 11 1 gs0 xs1) 11 1 g1) = (-1 : Int32)) → Q (some (hb_i (0 : Int32))) (hb_pI w 11 1 gs0 xs1)) ∧ ((¬ (hb_fI (hb_pI w 11 1 gs0 xs1) 11 1 g1) = (-1 : Int32)) → hb_O yX7_takeWord cX7_takeWord 2 (some .boolean) d [hb_r 3 0 0, hb_i (3853139 : Int32)] (hb_pI w 11 1 gs0 xs1) (fun rv w1 => hb_R yX2_readBook cX2_readBook 2 (some .boolean) (d + 1) 57 [some (hb_r 4 0 0), some (hb_r 11 g1 0)] (rv.toList ++ []) w1 Q))) : hb_R yX2_readBook cX2_readBook 2 (some .boolean) (d + 1) 37 [some (hb_r 4 0 0), some (hb_r 11 g1 0)] [hb_i xs1, hb_r 11 gs0 0] w Q := by
  refine hb_putI (pc := 37) dX2_readBook_37 fw_X2_89 cw_6 pw_6_1 rfl hgs0 rfl rfl rfl ?_
  refine hb_aload_n (pc := 40) (i := 1) dX2_readBook_40 rfl rfl ?_
  refine hb_getIx (pc := 41) (x := hb_fI (hb_pI w 11 1 gs0 xs1) 11 1 g1) dX2_readBook_41 fw_X2_89 cw_6 rfl hg1 rfl rfl ?_
  refine hb_iconst (pc := 44) (v := -1) dX2_readBook_44 (by decide) ?_
  refine hb_icmp_eq (pc := 45) (tgt := 60) dX2_readBook_45 (by decide) (fun c1 => ?_) (fun c1 => ?_)
  · have ht1 := h.1 c1
    refine hb_iconst (pc := 60) (v := 0) dX2_readBook_60 (by decide) ?_
    exact hb_zret (pc := 61) dX2_readBook_61 rfl (Or.inl rfl) ht1
  · have ht1 := h.2 c1
    refine hb_aload_n (pc := 48) (i := 0) dX2_readBook_48 rfl rfl ?_
    refine hb_getR (pc := 49) (g1 := 0) dX2_readBook_49 fw_X2_9 cw_2 rfl (by decide) rfl (by decide) rfl ?_
    refine hb_ldc (pc := 52) (v := 3853139) dX2_readBook_52 kc_X2_92 ?_
    exact hb_callV (pc := 54) (As := [hb_i (3853139 : Int32)]) (st := []) dX2_readBook_54 ml_X2_81 mf_X7_takeWord mi_X7_takeWord (ci := 7) rfl rfl (by decide) rfl rfl (Nat.le_of_ble_eq_true rfl) (Nat.le_of_ble_eq_true rfl) ht1 (fun _ _ q => q)
set_option maxRecDepth 20000 in
theorem bk_X2_readBook_57 {d : Nat} {w : hb_W} {Q : Option hb_V → hb_W → Prop} {g1 : Nat} {xs0 : Int32} (hg1 : g1 < hb_ct 11) (h : ((¬ xs0 = 0) → hb_O yX7_takeNumber cX7_takeNumber 4 (some .int) d [hb_r 3 0 0, hb_i (1 : Int32), hb_i (3 : Int32)] w (fun rv w1 => hb_R yX2_readBook cX2_readBook 2 (some .boolean) (d + 1) 72 [some (hb_r 4 0 0), some (hb_r 11 g1 0)] (rv.toList ++ [hb_r 11 g1 0]) w1 Q)) ∧ ((xs0 = 0) → Q (some (hb_i (0 : Int32))) w)) : hb_R yX2_readBook cX2_readBook 2 (some .boolean) (d + 1) 57 [some (hb_r 4 0 0), some (hb_r 11 g1 0)] [hb_i xs0] w Q := by
  refine hb_if_ne (pc := 57) (tgt := 62) dX2_readBook_57 (by decide) (fun c1 => ?_) (fun c1 => ?_)
  · have ht1 := h.1 c1
    refine hb_aload_n (pc := 62) (i := 1) dX2_readBook_62 rfl rfl ?_
    refine hb_aload_n (pc := 63) (i := 0) dX2_readBook_63 rfl rfl ?_
    refine hb_getR (pc := 64) (g1 := 0) dX2_readBook_64 fw_X2_9 cw_2 rfl (by decide) rfl (by decide) rfl ?_
    refine hb_iconst (pc := 67) (v := 1) dX2_readBook_67 (by decide) ?_
    refine hb_iconst (pc := 68) (v := 3) dX2_readBook_68 (by decide) ?_
    exact hb_callV (pc := 69) (As := [hb_i (1 : Int32), hb_i (3 : Int32)]) (st := [hb_r 11 g1 0]) dX2_readBook_69 ml_X2_85 mf_X7_takeNumber mi_X7_takeNumber (ci := 7) rfl rfl (by decide) rfl rfl (Nat.le_of_ble_eq_true rfl) (Nat.le_of_ble_eq_true rfl) ht1 (fun _ _ q => q)
  · have ht1 := h.2 c1
    refine hb_iconst (pc := 60) (v := 0) dX2_readBook_60 (by decide) ?_
    exact hb_zret (pc := 61) dX2_readBook_61 rfl (Or.inl rfl) ht1
set_option maxRecDepth 20000 in
theorem bk_X2_readBook_72 {d : Nat} {w : hb_W} {Q : Option hb_V → hb_W → Prop} {g1 : Nat} {gs0 : Nat} {xs1 : Int32} (hg1 : g1 < hb_ct 11) (hgs0 : gs0 < hb_ct 11) (h : (((hb_fI (hb_pI w 11 2 gs0 xs1) 11 2 g1) = (-1 : Int32)) → Q (some (hb_i (0 : Int32))) (hb_pI w 11 2 gs0 xs1)) ∧ ((¬ (hb_fI (hb_pI w 11 2 gs0 xs1) 11 2 g1) = (-1 : Int32)) → hb_O yX7_takeSign cX7_takeSign 2 (some .boolean) d [hb_r 3 0 0, hb_i (59 : Int32)] (hb_pI w 11 2 gs0 xs1) (fun rv w1 => hb_R yX2_readBook cX2_readBook 2 (some .boolean) (d + 1) 92 [some (hb_r 4 0 0), some (hb_r 11 g1 0)] (rv.toList ++ []) w1 Q))) : hb_R yX2_readBook cX2_readBook 2 (some .boolean) (d + 1) 72 [some (hb_r 4 0 0), some (hb_r 11 g1 0)] [hb_i xs1, hb_r 11 gs0 0] w Q := by
  refine hb_putI (pc := 72) dX2_readBook_72 fw_X2_93 cw_6 pw_6_2 rfl hgs0 rfl rfl rfl ?_
  refine hb_aload_n (pc := 75) (i := 1) dX2_readBook_75 rfl rfl ?_
  refine hb_getIx (pc := 76) (x := hb_fI (hb_pI w 11 2 gs0 xs1) 11 2 g1) dX2_readBook_76 fw_X2_93 cw_6 rfl hg1 rfl rfl ?_
  refine hb_iconst (pc := 79) (v := -1) dX2_readBook_79 (by decide) ?_
  refine hb_icmp_eq (pc := 80) (tgt := 99) dX2_readBook_80 (by decide) (fun c1 => ?_) (fun c1 => ?_)
  · have ht1 := h.1 c1
    refine hb_iconst (pc := 99) (v := 0) dX2_readBook_99 (by decide) ?_
    exact hb_zret (pc := 100) dX2_readBook_100 rfl (Or.inl rfl) ht1
  · have ht1 := h.2 c1
    refine hb_aload_n (pc := 83) (i := 0) dX2_readBook_83 rfl rfl ?_
    refine hb_getR (pc := 84) (g1 := 0) dX2_readBook_84 fw_X2_9 cw_2 rfl (by decide) rfl (by decide) rfl ?_
    refine hb_bipush (pc := 87) (v := 59) dX2_readBook_87 (by decide) ?_
    exact hb_callV (pc := 89) (As := [hb_i (59 : Int32)]) (st := []) dX2_readBook_89 ml_X2_96 mf_X7_takeSign mi_X7_takeSign (ci := 7) rfl rfl (by decide) rfl rfl (Nat.le_of_ble_eq_true rfl) (Nat.le_of_ble_eq_true rfl) ht1 (fun _ _ q => q)
set_option maxRecDepth 20000 in
theorem bk_X2_readBook_92 {d : Nat} {w : hb_W} {Q : Option hb_V → hb_W → Prop} {g1 : Nat} {xs0 : Int32} (hg1 : g1 < hb_ct 11) (h : ((xs0 = 0) → Q (some (hb_i (0 : Int32))) w) ∧ ((¬ xs0 = 0) → Q (some (hb_i (1 : Int32))) w)) : hb_R yX2_readBook cX2_readBook 2 (some .boolean) (d + 1) 92 [some (hb_r 4 0 0), some (hb_r 11 g1 0)] [hb_i xs0] w Q := by
  refine hb_if_eq (pc := 92) (tgt := 99) dX2_readBook_92 (by decide) (fun c1 => ?_) (fun c1 => ?_)
  · have ht1 := h.1 c1
    refine hb_iconst (pc := 99) (v := 0) dX2_readBook_99 (by decide) ?_
    exact hb_zret (pc := 100) dX2_readBook_100 rfl (Or.inl rfl) ht1
  · have ht1 := h.2 c1
    refine hb_iconst (pc := 95) (v := 1) dX2_readBook_95 (by decide) ?_
    refine hb_goto (pc := 96) (tgt := 100) dX2_readBook_96 (by decide) ?_
    exact hb_zret (pc := 100) dX2_readBook_100 rfl (Or.inr rfl) ht1
theorem dX2_readStatement_0 : decode cX2_readStatement 0 = .ok (.aload_n 0, 1) := by decide +kernel
theorem dX2_readStatement_1 : decode cX2_readStatement 1 = .ok (.getfield 9, 3) := by decide +kernel
theorem dX2_readStatement_4 : decode cX2_readStatement 4 = .ok (.getfield 100, 3) := by decide +kernel
theorem dX2_readStatement_7 : decode cX2_readStatement 7 = .ok (.ldc 103, 2) := by decide +kernel
theorem dX2_readStatement_9 : decode cX2_readStatement 9 = .ok (.if_icmp .ne 12, 3) := by decide +kernel
theorem dX2_readStatement_12 : decode cX2_readStatement 12 = .ok (.aload_n 0, 1) := by decide +kernel
theorem dX2_readStatement_13 : decode cX2_readStatement 13 = .ok (.aload_n 1, 1) := by decide +kernel
theorem dX2_readStatement_14 : decode cX2_readStatement 14 = .ok (.invokevirtual 104, 3) := by decide +kernel
theorem dX2_readStatement_17 : decode cX2_readStatement 17 = .ok (.istore_n 2, 1) := by decide +kernel
theorem dX2_readStatement_18 : decode cX2_readStatement 18 = .ok (.goto 90, 3) := by decide +kernel
theorem dX2_readStatement_21 : decode cX2_readStatement 21 = .ok (.aload_n 0, 1) := by decide +kernel
theorem dX2_readStatement_22 : decode cX2_readStatement 22 = .ok (.getfield 9, 3) := by decide +kernel
theorem dX2_readStatement_25 : decode cX2_readStatement 25 = .ok (.getfield 100, 3) := by decide +kernel
theorem dX2_readStatement_28 : decode cX2_readStatement 28 = .ok (.ldc 107, 2) := by decide +kernel
theorem dX2_readStatement_30 : decode cX2_readStatement 30 = .ok (.if_icmp .ne 12, 3) := by decide +kernel
theorem dX2_readStatement_33 : decode cX2_readStatement 33 = .ok (.aload_n 0, 1) := by decide +kernel
theorem dX2_readStatement_34 : decode cX2_readStatement 34 = .ok (.aload_n 1, 1) := by decide +kernel
theorem dX2_readStatement_35 : decode cX2_readStatement 35 = .ok (.invokevirtual 108, 3) := by decide +kernel
theorem dX2_readStatement_38 : decode cX2_readStatement 38 = .ok (.istore_n 2, 1) := by decide +kernel
theorem dX2_readStatement_39 : decode cX2_readStatement 39 = .ok (.goto 69, 3) := by decide +kernel
theorem dX2_readStatement_42 : decode cX2_readStatement 42 = .ok (.aload_n 0, 1) := by decide +kernel
theorem dX2_readStatement_43 : decode cX2_readStatement 43 = .ok (.getfield 9, 3) := by decide +kernel
theorem dX2_readStatement_46 : decode cX2_readStatement 46 = .ok (.getfield 100, 3) := by decide +kernel
theorem dX2_readStatement_49 : decode cX2_readStatement 49 = .ok (.ldc 111, 2) := by decide +kernel
theorem dX2_readStatement_51 : decode cX2_readStatement 51 = .ok (.if_icmp .ne 41, 3) := by decide +kernel
theorem dX2_readStatement_54 : decode cX2_readStatement 54 = .ok (.aload_n 0, 1) := by decide +kernel
theorem dX2_readStatement_55 : decode cX2_readStatement 55 = .ok (.getfield 9, 3) := by decide +kernel
theorem dX2_readStatement_58 : decode cX2_readStatement 58 = .ok (.invokevirtual 70, 3) := by decide +kernel
theorem dX2_readStatement_61 : decode cX2_readStatement 61 = .ok (.aload_n 1, 1) := by decide +kernel
theorem dX2_readStatement_62 : decode cX2_readStatement 62 = .ok (.aload_n 0, 1) := by decide +kernel
theorem dX2_readStatement_63 : decode cX2_readStatement 63 = .ok (.getfield 9, 3) := by decide +kernel
theorem dX2_readStatement_66 : decode cX2_readStatement 66 = .ok (.iconst 0, 1) := by decide +kernel
theorem dX2_readStatement_67 : decode cX2_readStatement 67 = .ok (.bipush 99, 2) := by decide +kernel
theorem dX2_readStatement_69 : decode cX2_readStatement 69 = .ok (.invokevirtual 85, 3) := by decide +kernel
theorem dX2_readStatement_72 : decode cX2_readStatement 72 = .ok (.putfield 112, 3) := by decide +kernel
theorem dX2_readStatement_75 : decode cX2_readStatement 75 = .ok (.aload_n 1, 1) := by decide +kernel
theorem dX2_readStatement_76 : decode cX2_readStatement 76 = .ok (.getfield 112, 3) := by decide +kernel
theorem dX2_readStatement_79 : decode cX2_readStatement 79 = .ok (.iconst (-1), 1) := by decide +kernel
theorem dX2_readStatement_80 : decode cX2_readStatement 80 = .ok (.if_icmp .eq 7, 3) := by decide +kernel
theorem dX2_readStatement_83 : decode cX2_readStatement 83 = .ok (.iconst 1, 1) := by decide +kernel
theorem dX2_readStatement_84 : decode cX2_readStatement 84 = .ok (.goto 4, 3) := by decide +kernel
theorem dX2_readStatement_87 : decode cX2_readStatement 87 = .ok (.iconst 0, 1) := by decide +kernel
theorem dX2_readStatement_88 : decode cX2_readStatement 88 = .ok (.istore_n 2, 1) := by decide +kernel
theorem dX2_readStatement_89 : decode cX2_readStatement 89 = .ok (.goto 19, 3) := by decide +kernel
theorem dX2_readStatement_92 : decode cX2_readStatement 92 = .ok (.aload_n 0, 1) := by decide +kernel
theorem dX2_readStatement_93 : decode cX2_readStatement 93 = .ok (.getfield 9, 3) := by decide +kernel
theorem dX2_readStatement_96 : decode cX2_readStatement 96 = .ok (.iconst 1, 1) := by decide +kernel
theorem dX2_readStatement_97 : decode cX2_readStatement 97 = .ok (.aload_n 0, 1) := by decide +kernel
theorem dX2_readStatement_98 : decode cX2_readStatement 98 = .ok (.getfield 9, 3) := by decide +kernel
theorem dX2_readStatement_101 : decode cX2_readStatement 101 = .ok (.getfield 47, 3) := by decide +kernel
theorem dX2_readStatement_104 : decode cX2_readStatement 104 = .ok (.invokevirtual 50, 3) := by decide +kernel
theorem dX2_readStatement_107 : decode cX2_readStatement 107 = .ok (.istore_n 2, 1) := by decide +kernel
theorem dX2_readStatement_108 : decode cX2_readStatement 108 = .ok (.iload_n 2, 1) := by decide +kernel
theorem dX2_readStatement_109 : decode cX2_readStatement 109 = .ok (.ifCond .eq 19, 3) := by decide +kernel
theorem dX2_readStatement_112 : decode cX2_readStatement 112 = .ok (.aload_n 0, 1) := by decide +kernel
theorem dX2_readStatement_113 : decode cX2_readStatement 113 = .ok (.getfield 9, 3) := by decide +kernel
theorem dX2_readStatement_116 : decode cX2_readStatement 116 = .ok (.bipush 59, 2) := by decide +kernel
theorem dX2_readStatement_118 : decode cX2_readStatement 118 = .ok (.invokevirtual 96, 3) := by decide +kernel
theorem dX2_readStatement_121 : decode cX2_readStatement 121 = .ok (.ifCond .eq 7, 3) := by decide +kernel
theorem dX2_readStatement_124 : decode cX2_readStatement 124 = .ok (.iconst 1, 1) := by decide +kernel
theorem dX2_readStatement_125 : decode cX2_readStatement 125 = .ok (.goto 4, 3) := by decide +kernel
theorem dX2_readStatement_128 : decode cX2_readStatement 128 = .ok (.iconst 0, 1) := by decide +kernel
theorem dX2_readStatement_129 : decode cX2_readStatement 129 = .ok (.ireturn, 1) := by decide +kernel
set_option maxRecDepth 20000 in
theorem bk_X2_readStatement_0 {d : Nat} {w : hb_W} {Q : Option hb_V → hb_W → Prop} {g1 : Nat} (hg1 : g1 < hb_ct 11) (h : ((¬ (hb_fI w 3 2 0) = (112806131 : Int32)) → ((¬ (hb_fI w 3 2 0) = (115096 : Int32)) → ((¬ (hb_fI w 3 2 0) = (3361166 : Int32)) → hb_O yX7_stop cX7_stop 3 (some .boolean) d [hb_r 3 0 0, hb_i (1 : Int32), hb_i (hb_fI w 3 4 0)] w (fun rv w1 => hb_R yX2_readStatement cX2_readStatement 3 (some .boolean) (d + 1) 107 [some (hb_r 4 0 0), some (hb_r 11 g1 0), none] (rv.toList ++ []) w1 Q)) ∧ (((hb_fI w 3 2 0) = (3361166 : Int32)) → hb_O yX7_step cX7_step 4 none d [hb_r 3 0 0] w (fun rv w1 => hb_R yX2_readStatement cX2_readStatement 3 (some .boolean) (d + 1) 61 [some (hb_r 4 0 0), some (hb_r 11 g1 0), none] (rv.toList ++ []) w1 Q))) ∧ (((hb_fI w 3 2 0) = (115096 : Int32)) → hb_O yX2_readMix cX2_readMix 3 (some .boolean) d [hb_r 4 0 0, hb_r 11 g1 0] w (fun rv w1 => hb_R yX2_readStatement cX2_readStatement 3 (some .boolean) (d + 1) 38 [some (hb_r 4 0 0), some (hb_r 11 g1 0), none] (rv.toList ++ []) w1 Q))) ∧ (((hb_fI w 3 2 0) = (112806131 : Int32)) → hb_O yX2_readHoods cX2_readHoods 3 (some .boolean) d [hb_r 4 0 0, hb_r 11 g1 0] w (fun rv w1 => hb_R yX2_readStatement cX2_readStatement 3 (some .boolean) (d + 1) 17 [some (hb_r 4 0 0), some (hb_r 11 g1 0), none] (rv.toList ++ []) w1 Q))) : hb_R yX2_readStatement cX2_readStatement 3 (some .boolean) (d + 1) 0 [some (hb_r 4 0 0), some (hb_r 11 g1 0), none] [] w Q := by
  refine hb_aload_n (pc := 0) (i := 0) dX2_readStatement_0 rfl rfl ?_
  refine hb_getR (pc := 1) (g1 := 0) dX2_readStatement_1 fw_X2_9 cw_2 rfl (by decide) rfl (by decide) rfl ?_
  refine hb_getIx (pc := 4) (x := hb_fI w 3 2 0) dX2_readStatement_4 fw_X2_100 cw_7 rfl (by decide) rfl rfl ?_
  refine hb_ldc (pc := 7) (v := 112806131) dX2_readStatement_7 kc_X2_103 ?_
  refine hb_icmp_ne (pc := 9) (tgt := 21) dX2_readStatement_9 (by decide) (fun c1 => ?_) (fun c1 => ?_)
  · have ht1 := h.1 c1
    refine hb_aload_n (pc := 21) (i := 0) dX2_readStatement_21 rfl rfl ?_
    refine hb_getR (pc := 22) (g1 := 0) dX2_readStatement_22 fw_X2_9 cw_2 rfl (by decide) rfl (by decide) rfl ?_
    refine hb_getIx (pc := 25) (x := hb_fI w 3 2 0) dX2_readStatement_25 fw_X2_100 cw_7 rfl (by decide) rfl rfl ?_
    refine hb_ldc (pc := 28) (v := 115096) dX2_readStatement_28 kc_X2_107 ?_
    refine hb_icmp_ne (pc := 30) (tgt := 42) dX2_readStatement_30 (by decide) (fun c2 => ?_) (fun c2 => ?_)
    · have ht2 := ht1.1 c2
      refine hb_aload_n (pc := 42) (i := 0) dX2_readStatement_42 rfl rfl ?_
      refine hb_getR (pc := 43) (g1 := 0) dX2_readStatement_43 fw_X2_9 cw_2 rfl (by decide) rfl (by decide) rfl ?_
      refine hb_getIx (pc := 46) (x := hb_fI w 3 2 0) dX2_readStatement_46 fw_X2_100 cw_7 rfl (by decide) rfl rfl ?_
      refine hb_ldc (pc := 49) (v := 3361166) dX2_readStatement_49 kc_X2_111 ?_
      refine hb_icmp_ne (pc := 51) (tgt := 92) dX2_readStatement_51 (by decide) (fun c3 => ?_) (fun c3 => ?_)
      · have ht3 := ht2.1 c3
        refine hb_aload_n (pc := 92) (i := 0) dX2_readStatement_92 rfl rfl ?_
        refine hb_getR (pc := 93) (g1 := 0) dX2_readStatement_93 fw_X2_9 cw_2 rfl (by decide) rfl (by decide) rfl ?_
        refine hb_iconst (pc := 96) (v := 1) dX2_readStatement_96 (by decide) ?_
        refine hb_aload_n (pc := 97) (i := 0) dX2_readStatement_97 rfl rfl ?_
        refine hb_getR (pc := 98) (g1 := 0) dX2_readStatement_98 fw_X2_9 cw_2 rfl (by decide) rfl (by decide) rfl ?_
        refine hb_getIx (pc := 101) (x := hb_fI w 3 4 0) dX2_readStatement_101 fw_X2_47 cw_7 rfl (by decide) rfl rfl ?_
        exact hb_callV (pc := 104) (As := [hb_i (1 : Int32), hb_i (hb_fI w 3 4 0)]) (st := []) dX2_readStatement_104 ml_X2_50 mf_X7_stop mi_X7_stop (ci := 7) rfl rfl (by decide) rfl rfl (Nat.le_of_ble_eq_true rfl) (Nat.le_of_ble_eq_true rfl) ht3 (fun _ _ q => q)
      · have ht3 := ht2.2 c3
        refine hb_aload_n (pc := 54) (i := 0) dX2_readStatement_54 rfl rfl ?_
        refine hb_getR (pc := 55) (g1 := 0) dX2_readStatement_55 fw_X2_9 cw_2 rfl (by decide) rfl (by decide) rfl ?_
        exact hb_callV (pc := 58) (As := []) (st := []) dX2_readStatement_58 ml_X2_70 mf_X7_step mi_X7_step (ci := 7) rfl rfl (by decide) rfl rfl (Nat.le_of_ble_eq_true rfl) (Nat.le_of_ble_eq_true rfl) ht3 (fun _ _ q => q)
    · have ht2 := ht1.2 c2
      refine hb_aload_n (pc := 33) (i := 0) dX2_readStatement_33 rfl rfl ?_
      refine hb_aload_n (pc := 34) (i := 1) dX2_readStatement_34 rfl rfl ?_
      exact hb_callV (pc := 35) (As := [hb_r 11 g1 0]) (st := []) dX2_readStatement_35 ml_X2_108 mf_X2_readMix mi_X2_readMix (ci := 2) rfl rfl (by decide) rfl rfl (Nat.le_of_ble_eq_true rfl) (Nat.le_of_ble_eq_true rfl) ht2 (fun _ _ q => q)
  · have ht1 := h.2 c1
    refine hb_aload_n (pc := 12) (i := 0) dX2_readStatement_12 rfl rfl ?_
    refine hb_aload_n (pc := 13) (i := 1) dX2_readStatement_13 rfl rfl ?_
    exact hb_callV (pc := 14) (As := [hb_r 11 g1 0]) (st := []) dX2_readStatement_14 ml_X2_104 mf_X2_readHoods mi_X2_readHoods (ci := 2) rfl rfl (by decide) rfl rfl (Nat.le_of_ble_eq_true rfl) (Nat.le_of_ble_eq_true rfl) ht1 (fun _ _ q => q)
set_option maxRecDepth 20000 in
theorem bk_X2_readStatement_17 {d : Nat} {w : hb_W} {Q : Option hb_V → hb_W → Prop} {g1 : Nat} {xs0 : Int32} (hg1 : g1 < hb_ct 11) (h : ((xs0 = 0) → Q (some (hb_i (0 : Int32))) w) ∧ ((¬ xs0 = 0) → hb_O yX7_takeSign cX7_takeSign 2 (some .boolean) d [hb_r 3 0 0, hb_i (59 : Int32)] w (fun rv w1 => hb_R yX2_readStatement cX2_readStatement 3 (some .boolean) (d + 1) 121 [some (hb_r 4 0 0), some (hb_r 11 g1 0), some (hb_i xs0)] (rv.toList ++ []) w1 Q))) : hb_R yX2_readStatement cX2_readStatement 3 (some .boolean) (d + 1) 17 [some (hb_r 4 0 0), some (hb_r 11 g1 0), none] [hb_i xs0] w Q := by
  refine hb_istore_n (pc := 17) (i := 2) (ls1 := [some (hb_r 4 0 0), some (hb_r 11 g1 0), some (hb_i xs0)]) dX2_readStatement_17 rfl (by decide) rfl ?_
  refine hb_goto (pc := 18) (tgt := 108) dX2_readStatement_18 (by decide) ?_
  refine hb_iload_n (pc := 108) (i := 2) dX2_readStatement_108 rfl rfl ?_
  refine hb_if_eq (pc := 109) (tgt := 128) dX2_readStatement_109 (by decide) (fun c1 => ?_) (fun c1 => ?_)
  · have ht1 := h.1 c1
    refine hb_iconst (pc := 128) (v := 0) dX2_readStatement_128 (by decide) ?_
    exact hb_zret (pc := 129) dX2_readStatement_129 rfl (Or.inl rfl) ht1
  · have ht1 := h.2 c1
    refine hb_aload_n (pc := 112) (i := 0) dX2_readStatement_112 rfl rfl ?_
    refine hb_getR (pc := 113) (g1 := 0) dX2_readStatement_113 fw_X2_9 cw_2 rfl (by decide) rfl (by decide) rfl ?_
    refine hb_bipush (pc := 116) (v := 59) dX2_readStatement_116 (by decide) ?_
    exact hb_callV (pc := 118) (As := [hb_i (59 : Int32)]) (st := []) dX2_readStatement_118 ml_X2_96 mf_X7_takeSign mi_X7_takeSign (ci := 7) rfl rfl (by decide) rfl rfl (Nat.le_of_ble_eq_true rfl) (Nat.le_of_ble_eq_true rfl) ht1 (fun _ _ q => q)
set_option maxRecDepth 20000 in
theorem bk_X2_readStatement_38 {d : Nat} {w : hb_W} {Q : Option hb_V → hb_W → Prop} {g1 : Nat} {xs0 : Int32} (hg1 : g1 < hb_ct 11) (h : ((xs0 = 0) → Q (some (hb_i (0 : Int32))) w) ∧ ((¬ xs0 = 0) → hb_O yX7_takeSign cX7_takeSign 2 (some .boolean) d [hb_r 3 0 0, hb_i (59 : Int32)] w (fun rv w1 => hb_R yX2_readStatement cX2_readStatement 3 (some .boolean) (d + 1) 121 [some (hb_r 4 0 0), some (hb_r 11 g1 0), some (hb_i xs0)] (rv.toList ++ []) w1 Q))) : hb_R yX2_readStatement cX2_readStatement 3 (some .boolean) (d + 1) 38 [some (hb_r 4 0 0), some (hb_r 11 g1 0), none] [hb_i xs0] w Q := by
  refine hb_istore_n (pc := 38) (i := 2) (ls1 := [some (hb_r 4 0 0), some (hb_r 11 g1 0), some (hb_i xs0)]) dX2_readStatement_38 rfl (by decide) rfl ?_
  refine hb_goto (pc := 39) (tgt := 108) dX2_readStatement_39 (by decide) ?_
  refine hb_iload_n (pc := 108) (i := 2) dX2_readStatement_108 rfl rfl ?_
  refine hb_if_eq (pc := 109) (tgt := 128) dX2_readStatement_109 (by decide) (fun c1 => ?_) (fun c1 => ?_)
  · have ht1 := h.1 c1
    refine hb_iconst (pc := 128) (v := 0) dX2_readStatement_128 (by decide) ?_
    exact hb_zret (pc := 129) dX2_readStatement_129 rfl (Or.inl rfl) ht1
  · have ht1 := h.2 c1
    refine hb_aload_n (pc := 112) (i := 0) dX2_readStatement_112 rfl rfl ?_
    refine hb_getR (pc := 113) (g1 := 0) dX2_readStatement_113 fw_X2_9 cw_2 rfl (by decide) rfl (by decide) rfl ?_
    refine hb_bipush (pc := 116) (v := 59) dX2_readStatement_116 (by decide) ?_
    exact hb_callV (pc := 118) (As := [hb_i (59 : Int32)]) (st := []) dX2_readStatement_118 ml_X2_96 mf_X7_takeSign mi_X7_takeSign (ci := 7) rfl rfl (by decide) rfl rfl (Nat.le_of_ble_eq_true rfl) (Nat.le_of_ble_eq_true rfl) ht1 (fun _ _ q => q)
set_option maxRecDepth 20000 in
theorem bk_X2_readStatement_61 {d : Nat} {w : hb_W} {Q : Option hb_V → hb_W → Prop} {g1 : Nat} (hg1 : g1 < hb_ct 11) (h : hb_O yX7_takeNumber cX7_takeNumber 4 (some .int) d [hb_r 3 0 0, hb_i (0 : Int32), hb_i (99 : Int32)] w (fun rv w1 => hb_R yX2_readStatement cX2_readStatement 3 (some .boolean) (d + 1) 72 [some (hb_r 4 0 0), some (hb_r 11 g1 0), none] (rv.toList ++ [hb_r 11 g1 0]) w1 Q)) : hb_R yX2_readStatement cX2_readStatement 3 (some .boolean) (d + 1) 61 [some (hb_r 4 0 0), some (hb_r 11 g1 0), none] [] w Q := by
  refine hb_aload_n (pc := 61) (i := 1) dX2_readStatement_61 rfl rfl ?_
  refine hb_aload_n (pc := 62) (i := 0) dX2_readStatement_62 rfl rfl ?_
  refine hb_getR (pc := 63) (g1 := 0) dX2_readStatement_63 fw_X2_9 cw_2 rfl (by decide) rfl (by decide) rfl ?_
  refine hb_iconst (pc := 66) (v := 0) dX2_readStatement_66 (by decide) ?_
  refine hb_bipush (pc := 67) (v := 99) dX2_readStatement_67 (by decide) ?_
  exact hb_callV (pc := 69) (As := [hb_i (0 : Int32), hb_i (99 : Int32)]) (st := [hb_r 11 g1 0]) dX2_readStatement_69 ml_X2_85 mf_X7_takeNumber mi_X7_takeNumber (ci := 7) rfl rfl (by decide) rfl rfl (Nat.le_of_ble_eq_true rfl) (Nat.le_of_ble_eq_true rfl) h (fun _ _ q => q)
set_option maxRecDepth 20000 in
theorem bk_X2_readStatement_72 {d : Nat} {w : hb_W} {Q : Option hb_V → hb_W → Prop} {g1 : Nat} {gs0 : Nat} {xs1 : Int32} (hg1 : g1 < hb_ct 11) (hgs0 : gs0 < hb_ct 11) (h : (((hb_fI (hb_pI w 11 3 gs0 xs1) 11 3 g1) = (-1 : Int32)) → (((0 : Int32) = 0) → Q (some (hb_i (0 : Int32))) (hb_pI w 11 3 gs0 xs1)) ∧ ((¬ (0 : Int32) = 0) → hb_O yX7_takeSign cX7_takeSign 2 (some .boolean) d [hb_r 3 0 0, hb_i (59 : Int32)] (hb_pI w 11 3 gs0 xs1) (fun rv w1 => hb_R yX2_readStatement cX2_readStatement 3 (some .boolean) (d + 1) 121 [some (hb_r 4 0 0), some (hb_r 11 g1 0), some (hb_i (0 : Int32))] (rv.toList ++ []) w1 Q))) ∧ ((¬ (hb_fI (hb_pI w 11 3 gs0 xs1) 11 3 g1) = (-1 : Int32)) → (((1 : Int32) = 0) → Q (some (hb_i (0 : Int32))) (hb_pI w 11 3 gs0 xs1)) ∧ ((¬ (1 : Int32) = 0) → hb_O yX7_takeSign cX7_takeSign 2 (some .boolean) d [hb_r 3 0 0, hb_i (59 : Int32)] (hb_pI w 11 3 gs0 xs1) (fun rv w1 => hb_R yX2_readStatement cX2_readStatement 3 (some .boolean) (d + 1) 121 [some (hb_r 4 0 0), some (hb_r 11 g1 0), some (hb_i (1 : Int32))] (rv.toList ++ []) w1 Q)))) : hb_R yX2_readStatement cX2_readStatement 3 (some .boolean) (d + 1) 72 [some (hb_r 4 0 0), some (hb_r 11 g1 0), none] [hb_i xs1, hb_r 11 gs0 0] w Q := by
  refine hb_putI (pc := 72) dX2_readStatement_72 fw_X2_112 cw_6 pw_6_3 rfl hgs0 rfl rfl rfl ?_
  refine hb_aload_n (pc := 75) (i := 1) dX2_readStatement_75 rfl rfl ?_
  refine hb_getIx (pc := 76) (x := hb_fI (hb_pI w 11 3 gs0 xs1) 11 3 g1) dX2_readStatement_76 fw_X2_112 cw_6 rfl hg1 rfl rfl ?_
  refine hb_iconst (pc := 79) (v := -1) dX2_readStatement_79 (by decide) ?_
  refine hb_icmp_eq (pc := 80) (tgt := 87) dX2_readStatement_80 (by decide) (fun c1 => ?_) (fun c1 => ?_)
  · have ht1 := h.1 c1
    refine hb_iconst (pc := 87) (v := 0) dX2_readStatement_87 (by decide) ?_
    refine hb_istore_n (pc := 88) (i := 2) (ls1 := [some (hb_r 4 0 0), some (hb_r 11 g1 0), some (hb_i (0 : Int32))]) dX2_readStatement_88 rfl (by decide) rfl ?_
    refine hb_goto (pc := 89) (tgt := 108) dX2_readStatement_89 (by decide) ?_
    refine hb_iload_n (pc := 108) (i := 2) dX2_readStatement_108 rfl rfl ?_
    refine hb_if_eq (pc := 109) (tgt := 128) dX2_readStatement_109 (by decide) (fun c2 => ?_) (fun c2 => ?_)
    · have ht2 := ht1.1 c2
      refine hb_iconst (pc := 128) (v := 0) dX2_readStatement_128 (by decide) ?_
      exact hb_zret (pc := 129) dX2_readStatement_129 rfl (Or.inl rfl) ht2
    · have ht2 := ht1.2 c2
      refine hb_aload_n (pc := 112) (i := 0) dX2_readStatement_112 rfl rfl ?_
      refine hb_getR (pc := 113) (g1 := 0) dX2_readStatement_113 fw_X2_9 cw_2 rfl (by decide) rfl (by decide) rfl ?_
      refine hb_bipush (pc := 116) (v := 59) dX2_readStatement_116 (by decide) ?_
      exact hb_callV (pc := 118) (As := [hb_i (59 : Int32)]) (st := []) dX2_readStatement_118 ml_X2_96 mf_X7_takeSign mi_X7_takeSign (ci := 7) rfl rfl (by decide) rfl rfl (Nat.le_of_ble_eq_true rfl) (Nat.le_of_ble_eq_true rfl) ht2 (fun _ _ q => q)
  · have ht1 := h.2 c1
    refine hb_iconst (pc := 83) (v := 1) dX2_readStatement_83 (by decide) ?_
    refine hb_goto (pc := 84) (tgt := 88) dX2_readStatement_84 (by decide) ?_
    refine hb_istore_n (pc := 88) (i := 2) (ls1 := [some (hb_r 4 0 0), some (hb_r 11 g1 0), some (hb_i (1 : Int32))]) dX2_readStatement_88 rfl (by decide) rfl ?_
    refine hb_goto (pc := 89) (tgt := 108) dX2_readStatement_89 (by decide) ?_
    refine hb_iload_n (pc := 108) (i := 2) dX2_readStatement_108 rfl rfl ?_
    refine hb_if_eq (pc := 109) (tgt := 128) dX2_readStatement_109 (by decide) (fun c3 => ?_) (fun c3 => ?_)
    · have ht3 := ht1.1 c3
      refine hb_iconst (pc := 128) (v := 0) dX2_readStatement_128 (by decide) ?_
      exact hb_zret (pc := 129) dX2_readStatement_129 rfl (Or.inl rfl) ht3
    · have ht3 := ht1.2 c3
      refine hb_aload_n (pc := 112) (i := 0) dX2_readStatement_112 rfl rfl ?_
      refine hb_getR (pc := 113) (g1 := 0) dX2_readStatement_113 fw_X2_9 cw_2 rfl (by decide) rfl (by decide) rfl ?_
      refine hb_bipush (pc := 116) (v := 59) dX2_readStatement_116 (by decide) ?_
      exact hb_callV (pc := 118) (As := [hb_i (59 : Int32)]) (st := []) dX2_readStatement_118 ml_X2_96 mf_X7_takeSign mi_X7_takeSign (ci := 7) rfl rfl (by decide) rfl rfl (Nat.le_of_ble_eq_true rfl) (Nat.le_of_ble_eq_true rfl) ht3 (fun _ _ q => q)
set_option maxRecDepth 20000 in
theorem bk_X2_readStatement_107 {d : Nat} {w : hb_W} {Q : Option hb_V → hb_W → Prop} {g1 : Nat} {xs0 : Int32} (hg1 : g1 < hb_ct 11) (h : ((xs0 = 0) → Q (some (hb_i (0 : Int32))) w) ∧ ((¬ xs0 = 0) → hb_O yX7_takeSign cX7_takeSign 2 (some .boolean) d [hb_r 3 0 0, hb_i (59 : Int32)] w (fun rv w1 => hb_R yX2_readStatement cX2_readStatement 3 (some .boolean) (d + 1) 121 [some (hb_r 4 0 0), some (hb_r 11 g1 0), some (hb_i xs0)] (rv.toList ++ []) w1 Q))) : hb_R yX2_readStatement cX2_readStatement 3 (some .boolean) (d + 1) 107 [some (hb_r 4 0 0), some (hb_r 11 g1 0), none] [hb_i xs0] w Q := by
  refine hb_istore_n (pc := 107) (i := 2) (ls1 := [some (hb_r 4 0 0), some (hb_r 11 g1 0), some (hb_i xs0)]) dX2_readStatement_107 rfl (by decide) rfl ?_
  refine hb_iload_n (pc := 108) (i := 2) dX2_readStatement_108 rfl rfl ?_
  refine hb_if_eq (pc := 109) (tgt := 128) dX2_readStatement_109 (by decide) (fun c1 => ?_) (fun c1 => ?_)
  · have ht1 := h.1 c1
    refine hb_iconst (pc := 128) (v := 0) dX2_readStatement_128 (by decide) ?_
    exact hb_zret (pc := 129) dX2_readStatement_129 rfl (Or.inl rfl) ht1
  · have ht1 := h.2 c1
    refine hb_aload_n (pc := 112) (i := 0) dX2_readStatement_112 rfl rfl ?_
    refine hb_getR (pc := 113) (g1 := 0) dX2_readStatement_113 fw_X2_9 cw_2 rfl (by decide) rfl (by decide) rfl ?_
    refine hb_bipush (pc := 116) (v := 59) dX2_readStatement_116 (by decide) ?_
    exact hb_callV (pc := 118) (As := [hb_i (59 : Int32)]) (st := []) dX2_readStatement_118 ml_X2_96 mf_X7_takeSign mi_X7_takeSign (ci := 7) rfl rfl (by decide) rfl rfl (Nat.le_of_ble_eq_true rfl) (Nat.le_of_ble_eq_true rfl) ht1 (fun _ _ q => q)
set_option maxRecDepth 20000 in
theorem bk_X2_readStatement_121 {d : Nat} {w : hb_W} {Q : Option hb_V → hb_W → Prop} {g1 : Nat} {x2 : Int32} {xs0 : Int32} (hg1 : g1 < hb_ct 11) (h : ((xs0 = 0) → Q (some (hb_i (0 : Int32))) w) ∧ ((¬ xs0 = 0) → Q (some (hb_i (1 : Int32))) w)) : hb_R yX2_readStatement cX2_readStatement 3 (some .boolean) (d + 1) 121 [some (hb_r 4 0 0), some (hb_r 11 g1 0), some (hb_i x2)] [hb_i xs0] w Q := by
  refine hb_if_eq (pc := 121) (tgt := 128) dX2_readStatement_121 (by decide) (fun c1 => ?_) (fun c1 => ?_)
  · have ht1 := h.1 c1
    refine hb_iconst (pc := 128) (v := 0) dX2_readStatement_128 (by decide) ?_
    exact hb_zret (pc := 129) dX2_readStatement_129 rfl (Or.inl rfl) ht1
  · have ht1 := h.2 c1
    refine hb_iconst (pc := 124) (v := 1) dX2_readStatement_124 (by decide) ?_
    refine hb_goto (pc := 125) (tgt := 129) dX2_readStatement_125 (by decide) ?_
    exact hb_zret (pc := 129) dX2_readStatement_129 rfl (Or.inr rfl) ht1
theorem dX2_readHoods_0 : decode cX2_readHoods 0 = .ok (.aload_n 1, 1) := by decide +kernel
theorem dX2_readHoods_1 : decode cX2_readHoods 1 = .ok (.getfield 115, 3) := by decide +kernel
theorem dX2_readHoods_4 : decode cX2_readHoods 4 = .ok (.istore_n 2, 1) := by decide +kernel
theorem dX2_readHoods_5 : decode cX2_readHoods 5 = .ok (.iload_n 2, 1) := by decide +kernel
theorem dX2_readHoods_6 : decode cX2_readHoods 6 = .ok (.bipush 20, 2) := by decide +kernel
theorem dX2_readHoods_8 : decode cX2_readHoods 8 = .ok (.if_icmp .lt 19, 3) := by decide +kernel
theorem dX2_readHoods_11 : decode cX2_readHoods 11 = .ok (.aload_n 0, 1) := by decide +kernel
theorem dX2_readHoods_12 : decode cX2_readHoods 12 = .ok (.getfield 9, 3) := by decide +kernel
theorem dX2_readHoods_15 : decode cX2_readHoods 15 = .ok (.iconst 5, 1) := by decide +kernel
theorem dX2_readHoods_16 : decode cX2_readHoods 16 = .ok (.aload_n 0, 1) := by decide +kernel
theorem dX2_readHoods_17 : decode cX2_readHoods 17 = .ok (.getfield 9, 3) := by decide +kernel
theorem dX2_readHoods_20 : decode cX2_readHoods 20 = .ok (.getfield 47, 3) := by decide +kernel
theorem dX2_readHoods_23 : decode cX2_readHoods 23 = .ok (.invokevirtual 50, 3) := by decide +kernel
theorem dX2_readHoods_26 : decode cX2_readHoods 26 = .ok (.ireturn, 1) := by decide +kernel
theorem dX2_readHoods_27 : decode cX2_readHoods 27 = .ok (.aload_n 0, 1) := by decide +kernel
theorem dX2_readHoods_28 : decode cX2_readHoods 28 = .ok (.getfield 9, 3) := by decide +kernel
theorem dX2_readHoods_31 : decode cX2_readHoods 31 = .ok (.invokevirtual 70, 3) := by decide +kernel
theorem dX2_readHoods_34 : decode cX2_readHoods 34 = .ok (.aload_n 1, 1) := by decide +kernel
theorem dX2_readHoods_35 : decode cX2_readHoods 35 = .ok (.getfield 118, 3) := by decide +kernel
theorem dX2_readHoods_38 : decode cX2_readHoods 38 = .ok (.iload_n 2, 1) := by decide +kernel
theorem dX2_readHoods_39 : decode cX2_readHoods 39 = .ok (.aload_n 0, 1) := by decide +kernel
theorem dX2_readHoods_40 : decode cX2_readHoods 40 = .ok (.getfield 9, 3) := by decide +kernel
theorem dX2_readHoods_43 : decode cX2_readHoods 43 = .ok (.iconst 1, 1) := by decide +kernel
theorem dX2_readHoods_44 : decode cX2_readHoods 44 = .ok (.bipush 99, 2) := by decide +kernel
theorem dX2_readHoods_46 : decode cX2_readHoods 46 = .ok (.invokevirtual 85, 3) := by decide +kernel
theorem dX2_readHoods_49 : decode cX2_readHoods 49 = .ok (.iastore, 1) := by decide +kernel
theorem dX2_readHoods_50 : decode cX2_readHoods 50 = .ok (.aload_n 1, 1) := by decide +kernel
theorem dX2_readHoods_51 : decode cX2_readHoods 51 = .ok (.getfield 118, 3) := by decide +kernel
theorem dX2_readHoods_54 : decode cX2_readHoods 54 = .ok (.iload_n 2, 1) := by decide +kernel
theorem dX2_readHoods_55 : decode cX2_readHoods 55 = .ok (.iaload, 1) := by decide +kernel
theorem dX2_readHoods_56 : decode cX2_readHoods 56 = .ok (.iconst (-1), 1) := by decide +kernel
theorem dX2_readHoods_57 : decode cX2_readHoods 57 = .ok (.if_icmp .eq 15, 3) := by decide +kernel
theorem dX2_readHoods_60 : decode cX2_readHoods 60 = .ok (.aload_n 0, 1) := by decide +kernel
theorem dX2_readHoods_61 : decode cX2_readHoods 61 = .ok (.getfield 9, 3) := by decide +kernel
theorem dX2_readHoods_64 : decode cX2_readHoods 64 = .ok (.ldc 122, 2) := by decide +kernel
theorem dX2_readHoods_66 : decode cX2_readHoods 66 = .ok (.invokevirtual 81, 3) := by decide +kernel
theorem dX2_readHoods_69 : decode cX2_readHoods 69 = .ok (.ifCond .ne 5, 3) := by decide +kernel
theorem dX2_readHoods_72 : decode cX2_readHoods 72 = .ok (.iconst 0, 1) := by decide +kernel
theorem dX2_readHoods_73 : decode cX2_readHoods 73 = .ok (.ireturn, 1) := by decide +kernel
theorem dX2_readHoods_74 : decode cX2_readHoods 74 = .ok (.aload_n 1, 1) := by decide +kernel
theorem dX2_readHoods_75 : decode cX2_readHoods 75 = .ok (.getfield 123, 3) := by decide +kernel
theorem dX2_readHoods_78 : decode cX2_readHoods 78 = .ok (.iload_n 2, 1) := by decide +kernel
theorem dX2_readHoods_79 : decode cX2_readHoods 79 = .ok (.aload_n 0, 1) := by decide +kernel
theorem dX2_readHoods_80 : decode cX2_readHoods 80 = .ok (.getfield 9, 3) := by decide +kernel
theorem dX2_readHoods_83 : decode cX2_readHoods 83 = .ok (.iconst 0, 1) := by decide +kernel
theorem dX2_readHoods_84 : decode cX2_readHoods 84 = .ok (.bipush 63, 2) := by decide +kernel
theorem dX2_readHoods_86 : decode cX2_readHoods 86 = .ok (.invokevirtual 85, 3) := by decide +kernel
theorem dX2_readHoods_89 : decode cX2_readHoods 89 = .ok (.iastore, 1) := by decide +kernel
theorem dX2_readHoods_90 : decode cX2_readHoods 90 = .ok (.aload_n 1, 1) := by decide +kernel
theorem dX2_readHoods_91 : decode cX2_readHoods 91 = .ok (.getfield 123, 3) := by decide +kernel
theorem dX2_readHoods_94 : decode cX2_readHoods 94 = .ok (.iload_n 2, 1) := by decide +kernel
theorem dX2_readHoods_95 : decode cX2_readHoods 95 = .ok (.iaload, 1) := by decide +kernel
theorem dX2_readHoods_96 : decode cX2_readHoods 96 = .ok (.iconst (-1), 1) := by decide +kernel
theorem dX2_readHoods_97 : decode cX2_readHoods 97 = .ok (.if_icmp .eq 15, 3) := by decide +kernel
theorem dX2_readHoods_100 : decode cX2_readHoods 100 = .ok (.aload_n 0, 1) := by decide +kernel
theorem dX2_readHoods_101 : decode cX2_readHoods 101 = .ok (.getfield 9, 3) := by decide +kernel
theorem dX2_readHoods_104 : decode cX2_readHoods 104 = .ok (.ldc 126, 2) := by decide +kernel
theorem dX2_readHoods_106 : decode cX2_readHoods 106 = .ok (.invokevirtual 81, 3) := by decide +kernel
theorem dX2_readHoods_109 : decode cX2_readHoods 109 = .ok (.ifCond .ne 5, 3) := by decide +kernel
theorem dX2_readHoods_112 : decode cX2_readHoods 112 = .ok (.iconst 0, 1) := by decide +kernel
theorem dX2_readHoods_113 : decode cX2_readHoods 113 = .ok (.ireturn, 1) := by decide +kernel
theorem dX2_readHoods_114 : decode cX2_readHoods 114 = .ok (.aload_n 1, 1) := by decide +kernel
theorem dX2_readHoods_115 : decode cX2_readHoods 115 = .ok (.getfield 127, 3) := by decide +kernel
theorem dX2_readHoods_118 : decode cX2_readHoods 118 = .ok (.iload_n 2, 1) := by decide +kernel
theorem dX2_readHoods_119 : decode cX2_readHoods 119 = .ok (.aload_n 0, 1) := by decide +kernel
theorem dX2_readHoods_120 : decode cX2_readHoods 120 = .ok (.getfield 9, 3) := by decide +kernel
theorem dX2_readHoods_123 : decode cX2_readHoods 123 = .ok (.iconst 0, 1) := by decide +kernel
theorem dX2_readHoods_124 : decode cX2_readHoods 124 = .ok (.bipush 63, 2) := by decide +kernel
theorem dX2_readHoods_126 : decode cX2_readHoods 126 = .ok (.invokevirtual 85, 3) := by decide +kernel
theorem dX2_readHoods_129 : decode cX2_readHoods 129 = .ok (.iastore, 1) := by decide +kernel
theorem dX2_readHoods_130 : decode cX2_readHoods 130 = .ok (.aload_n 1, 1) := by decide +kernel
theorem dX2_readHoods_131 : decode cX2_readHoods 131 = .ok (.getfield 127, 3) := by decide +kernel
theorem dX2_readHoods_134 : decode cX2_readHoods 134 = .ok (.iload_n 2, 1) := by decide +kernel
theorem dX2_readHoods_135 : decode cX2_readHoods 135 = .ok (.iaload, 1) := by decide +kernel
theorem dX2_readHoods_136 : decode cX2_readHoods 136 = .ok (.iconst (-1), 1) := by decide +kernel
theorem dX2_readHoods_137 : decode cX2_readHoods 137 = .ok (.if_icmp .eq 15, 3) := by decide +kernel
theorem dX2_readHoods_140 : decode cX2_readHoods 140 = .ok (.aload_n 0, 1) := by decide +kernel
theorem dX2_readHoods_141 : decode cX2_readHoods 141 = .ok (.getfield 9, 3) := by decide +kernel
theorem dX2_readHoods_144 : decode cX2_readHoods 144 = .ok (.ldc 130, 2) := by decide +kernel
theorem dX2_readHoods_146 : decode cX2_readHoods 146 = .ok (.invokevirtual 81, 3) := by decide +kernel
theorem dX2_readHoods_149 : decode cX2_readHoods 149 = .ok (.ifCond .ne 5, 3) := by decide +kernel
theorem dX2_readHoods_152 : decode cX2_readHoods 152 = .ok (.iconst 0, 1) := by decide +kernel
theorem dX2_readHoods_153 : decode cX2_readHoods 153 = .ok (.ireturn, 1) := by decide +kernel
theorem dX2_readHoods_154 : decode cX2_readHoods 154 = .ok (.aload_n 0, 1) := by decide +kernel
theorem dX2_readHoods_155 : decode cX2_readHoods 155 = .ok (.iconst 0, 1) := by decide +kernel
theorem dX2_readHoods_156 : decode cX2_readHoods 156 = .ok (.putfield 19, 3) := by decide +kernel
theorem dX2_readHoods_159 : decode cX2_readHoods 159 = .ok (.aload_n 1, 1) := by decide +kernel
theorem dX2_readHoods_160 : decode cX2_readHoods 160 = .ok (.getfield 131, 3) := by decide +kernel
theorem dX2_readHoods_163 : decode cX2_readHoods 163 = .ok (.iload_n 2, 1) := by decide +kernel
theorem dX2_readHoods_164 : decode cX2_readHoods 164 = .ok (.aload_n 0, 1) := by decide +kernel
theorem dX2_readHoods_165 : decode cX2_readHoods 165 = .ok (.getfield 15, 3) := by decide +kernel
theorem dX2_readHoods_168 : decode cX2_readHoods 168 = .ok (.getfield 61, 3) := by decide +kernel
theorem dX2_readHoods_171 : decode cX2_readHoods 171 = .ok (.iastore, 1) := by decide +kernel
theorem dX2_readHoods_172 : decode cX2_readHoods 172 = .ok (.aload_n 0, 1) := by decide +kernel
theorem dX2_readHoods_173 : decode cX2_readHoods 173 = .ok (.iconst 0, 1) := by decide +kernel
theorem dX2_readHoods_174 : decode cX2_readHoods 174 = .ok (.invokevirtual 77, 3) := by decide +kernel
theorem dX2_readHoods_177 : decode cX2_readHoods 177 = .ok (.ifCond .eq 15, 3) := by decide +kernel
theorem dX2_readHoods_180 : decode cX2_readHoods 180 = .ok (.aload_n 0, 1) := by decide +kernel
theorem dX2_readHoods_181 : decode cX2_readHoods 181 = .ok (.getfield 9, 3) := by decide +kernel
theorem dX2_readHoods_184 : decode cX2_readHoods 184 = .ok (.ldc 134, 2) := by decide +kernel
theorem dX2_readHoods_186 : decode cX2_readHoods 186 = .ok (.invokevirtual 81, 3) := by decide +kernel
theorem dX2_readHoods_189 : decode cX2_readHoods 189 = .ok (.ifCond .ne 5, 3) := by decide +kernel
theorem dX2_readHoods_192 : decode cX2_readHoods 192 = .ok (.iconst 0, 1) := by decide +kernel
theorem dX2_readHoods_193 : decode cX2_readHoods 193 = .ok (.ireturn, 1) := by decide +kernel
theorem dX2_readHoods_194 : decode cX2_readHoods 194 = .ok (.aload_n 1, 1) := by decide +kernel
theorem dX2_readHoods_195 : decode cX2_readHoods 195 = .ok (.getfield 135, 3) := by decide +kernel
theorem dX2_readHoods_198 : decode cX2_readHoods 198 = .ok (.iload_n 2, 1) := by decide +kernel
theorem dX2_readHoods_199 : decode cX2_readHoods 199 = .ok (.aload_n 0, 1) := by decide +kernel
theorem dX2_readHoods_200 : decode cX2_readHoods 200 = .ok (.getfield 15, 3) := by decide +kernel
theorem dX2_readHoods_203 : decode cX2_readHoods 203 = .ok (.getfield 61, 3) := by decide +kernel
theorem dX2_readHoods_206 : decode cX2_readHoods 206 = .ok (.iastore, 1) := by decide +kernel
theorem dX2_readHoods_207 : decode cX2_readHoods 207 = .ok (.aload_n 1, 1) := by decide +kernel
theorem dX2_readHoods_208 : decode cX2_readHoods 208 = .ok (.getfield 138, 3) := by decide +kernel
theorem dX2_readHoods_211 : decode cX2_readHoods 211 = .ok (.iload_n 2, 1) := by decide +kernel
theorem dX2_readHoods_212 : decode cX2_readHoods 212 = .ok (.aload_n 0, 1) := by decide +kernel
theorem dX2_readHoods_213 : decode cX2_readHoods 213 = .ok (.getfield 9, 3) := by decide +kernel
theorem dX2_readHoods_216 : decode cX2_readHoods 216 = .ok (.iconst 0, 1) := by decide +kernel
theorem dX2_readHoods_217 : decode cX2_readHoods 217 = .ok (.iconst 1, 1) := by decide +kernel
theorem dX2_readHoods_218 : decode cX2_readHoods 218 = .ok (.invokevirtual 85, 3) := by decide +kernel
theorem dX2_readHoods_221 : decode cX2_readHoods 221 = .ok (.iastore, 1) := by decide +kernel
theorem dX2_readHoods_222 : decode cX2_readHoods 222 = .ok (.aload_n 1, 1) := by decide +kernel
theorem dX2_readHoods_223 : decode cX2_readHoods 223 = .ok (.dup, 1) := by decide +kernel
theorem dX2_readHoods_224 : decode cX2_readHoods 224 = .ok (.getfield 115, 3) := by decide +kernel
theorem dX2_readHoods_227 : decode cX2_readHoods 227 = .ok (.iconst 1, 1) := by decide +kernel
theorem dX2_readHoods_228 : decode cX2_readHoods 228 = .ok (.iadd, 1) := by decide +kernel
theorem dX2_readHoods_229 : decode cX2_readHoods 229 = .ok (.putfield 115, 3) := by decide +kernel
theorem dX2_readHoods_232 : decode cX2_readHoods 232 = .ok (.aload_n 1, 1) := by decide +kernel
theorem dX2_readHoods_233 : decode cX2_readHoods 233 = .ok (.getfield 138, 3) := by decide +kernel
theorem dX2_readHoods_236 : decode cX2_readHoods 236 = .ok (.iload_n 2, 1) := by decide +kernel
theorem dX2_readHoods_237 : decode cX2_readHoods 237 = .ok (.iaload, 1) := by decide +kernel
theorem dX2_readHoods_238 : decode cX2_readHoods 238 = .ok (.iconst (-1), 1) := by decide +kernel
theorem dX2_readHoods_239 : decode cX2_readHoods 239 = .ok (.if_icmp .eq 7, 3) := by decide +kernel
theorem dX2_readHoods_242 : decode cX2_readHoods 242 = .ok (.iconst 1, 1) := by decide +kernel
theorem dX2_readHoods_243 : decode cX2_readHoods 243 = .ok (.goto 4, 3) := by decide +kernel
theorem dX2_readHoods_246 : decode cX2_readHoods 246 = .ok (.iconst 0, 1) := by decide +kernel
theorem dX2_readHoods_247 : decode cX2_readHoods 247 = .ok (.ireturn, 1) := by decide +kernel
set_option maxRecDepth 20000 in
theorem bk_X2_readHoods_0 {d : Nat} {w : hb_W} {Q : Option hb_V → hb_W → Prop} {g1 : Nat} (hg1 : g1 < hb_ct 11) (h : (((hb_fI w 11 4 g1) < (20 : Int32)) → hb_O yX7_step cX7_step 4 none d [hb_r 3 0 0] w (fun rv w1 => hb_R yX2_readHoods cX2_readHoods 3 (some .boolean) (d + 1) 34 [some (hb_r 4 0 0), some (hb_r 11 g1 0), some (hb_i (hb_fI w 11 4 g1))] (rv.toList ++ []) w1 Q)) ∧ ((¬ (hb_fI w 11 4 g1) < (20 : Int32)) → hb_O yX7_stop cX7_stop 3 (some .boolean) d [hb_r 3 0 0, hb_i (5 : Int32), hb_i (hb_fI w 3 4 0)] w (fun rv w1 => hb_R yX2_readHoods cX2_readHoods 3 (some .boolean) (d + 1) 26 [some (hb_r 4 0 0), some (hb_r 11 g1 0), some (hb_i (hb_fI w 11 4 g1))] (rv.toList ++ []) w1 Q))) : hb_R yX2_readHoods cX2_readHoods 3 (some .boolean) (d + 1) 0 [some (hb_r 4 0 0), some (hb_r 11 g1 0), none] [] w Q := by
  refine hb_aload_n (pc := 0) (i := 1) dX2_readHoods_0 rfl rfl ?_
  refine hb_getIx (pc := 1) (x := hb_fI w 11 4 g1) dX2_readHoods_1 fw_X2_115 cw_6 rfl hg1 rfl rfl ?_
  refine hb_istore_n (pc := 4) (i := 2) (ls1 := [some (hb_r 4 0 0), some (hb_r 11 g1 0), some (hb_i (hb_fI w 11 4 g1))]) dX2_readHoods_4 rfl (by decide) rfl ?_
  refine hb_iload_n (pc := 5) (i := 2) dX2_readHoods_5 rfl rfl ?_
  refine hb_bipush (pc := 6) (v := 20) dX2_readHoods_6 (by decide) ?_
  refine hb_icmp_lt (pc := 8) (tgt := 27) dX2_readHoods_8 (by decide) (fun c1 => ?_) (fun c1 => ?_)
  · have ht1 := h.1 c1
    refine hb_aload_n (pc := 27) (i := 0) dX2_readHoods_27 rfl rfl ?_
    refine hb_getR (pc := 28) (g1 := 0) dX2_readHoods_28 fw_X2_9 cw_2 rfl (by decide) rfl (by decide) rfl ?_
    exact hb_callV (pc := 31) (As := []) (st := []) dX2_readHoods_31 ml_X2_70 mf_X7_step mi_X7_step (ci := 7) rfl rfl (by decide) rfl rfl (Nat.le_of_ble_eq_true rfl) (Nat.le_of_ble_eq_true rfl) ht1 (fun _ _ q => q)
  · have ht1 := h.2 c1
    refine hb_aload_n (pc := 11) (i := 0) dX2_readHoods_11 rfl rfl ?_
    refine hb_getR (pc := 12) (g1 := 0) dX2_readHoods_12 fw_X2_9 cw_2 rfl (by decide) rfl (by decide) rfl ?_
    refine hb_iconst (pc := 15) (v := 5) dX2_readHoods_15 (by decide) ?_
    refine hb_aload_n (pc := 16) (i := 0) dX2_readHoods_16 rfl rfl ?_
    refine hb_getR (pc := 17) (g1 := 0) dX2_readHoods_17 fw_X2_9 cw_2 rfl (by decide) rfl (by decide) rfl ?_
    refine hb_getIx (pc := 20) (x := hb_fI w 3 4 0) dX2_readHoods_20 fw_X2_47 cw_7 rfl (by decide) rfl rfl ?_
    exact hb_callV (pc := 23) (As := [hb_i (5 : Int32), hb_i (hb_fI w 3 4 0)]) (st := []) dX2_readHoods_23 ml_X2_50 mf_X7_stop mi_X7_stop (ci := 7) rfl rfl (by decide) rfl rfl (Nat.le_of_ble_eq_true rfl) (Nat.le_of_ble_eq_true rfl) ht1 (fun _ _ q => q)
set_option maxRecDepth 20000 in
theorem bk_X2_readHoods_26 {d : Nat} {w : hb_W} {Q : Option hb_V → hb_W → Prop} {g1 : Nat} {x2 : Int32} {xs0 : Int32} (hg1 : g1 < hb_ct 11) (h : (xs0 = 0 ∨ xs0 = 1) ∧ Q (some (hb_i xs0)) w) : hb_R yX2_readHoods cX2_readHoods 3 (some .boolean) (d + 1) 26 [some (hb_r 4 0 0), some (hb_r 11 g1 0), some (hb_i x2)] [hb_i xs0] w Q := by
  exact hb_zret (pc := 26) dX2_readHoods_26 rfl h.1 h.2
set_option maxRecDepth 20000 in
theorem bk_X2_readHoods_34 {d : Nat} {w : hb_W} {Q : Option hb_V → hb_W → Prop} {g1 : Nat} {x2 : Int32} (hg1 : g1 < hb_ct 11) (h : hb_O yX7_takeNumber cX7_takeNumber 4 (some .int) d [hb_r 3 0 0, hb_i (1 : Int32), hb_i (99 : Int32)] w (fun rv w1 => hb_R yX2_readHoods cX2_readHoods 3 (some .boolean) (d + 1) 49 [some (hb_r 4 0 0), some (hb_r 11 g1 0), some (hb_i x2)] (rv.toList ++ [hb_i x2, hb_r 11 g1 1]) w1 Q)) : hb_R yX2_readHoods cX2_readHoods 3 (some .boolean) (d + 1) 34 [some (hb_r 4 0 0), some (hb_r 11 g1 0), some (hb_i x2)] [] w Q := by
  refine hb_aload_n (pc := 34) (i := 1) dX2_readHoods_34 rfl rfl ?_
  refine hb_getR (pc := 35) (g1 := g1) dX2_readHoods_35 fw_X2_118 cw_6 rfl hg1 rfl (by decide) rfl ?_
  refine hb_iload_n (pc := 38) (i := 2) dX2_readHoods_38 rfl rfl ?_
  refine hb_aload_n (pc := 39) (i := 0) dX2_readHoods_39 rfl rfl ?_
  refine hb_getR (pc := 40) (g1 := 0) dX2_readHoods_40 fw_X2_9 cw_2 rfl (by decide) rfl (by decide) rfl ?_
  refine hb_iconst (pc := 43) (v := 1) dX2_readHoods_43 (by decide) ?_
  refine hb_bipush (pc := 44) (v := 99) dX2_readHoods_44 (by decide) ?_
  exact hb_callV (pc := 46) (As := [hb_i (1 : Int32), hb_i (99 : Int32)]) (st := [hb_i x2, hb_r 11 g1 1]) dX2_readHoods_46 ml_X2_85 mf_X7_takeNumber mi_X7_takeNumber (ci := 7) rfl rfl (by decide) rfl rfl (Nat.le_of_ble_eq_true rfl) (Nat.le_of_ble_eq_true rfl) h (fun _ _ q => q)
set_option maxRecDepth 20000 in
theorem bk_X2_readHoods_49 {d : Nat} {w : hb_W} {Q : Option hb_V → hb_W → Prop} {g1 : Nat} {x2 : Int32} {gs0 : Nat} {xs1 : Int32} {xs2 : Int32} (hg1 : g1 < hb_ct 11) (hgs0 : gs0 < hb_ct 11) (h : vp_in xs1 20 ∧ (vp_in x2 20 ∧ ((((hb_aI (hb_sI w 11 1 gs0 (upd (hb_aI w 11 1 gs0) xs1.toNatClampNeg xs2)) 11 1 g1 x2.toNatClampNeg) = (-1 : Int32)) → Q (some (hb_i (0 : Int32))) (hb_sI w 11 1 gs0 (upd (hb_aI w 11 1 gs0) xs1.toNatClampNeg xs2))) ∧ ((¬ (hb_aI (hb_sI w 11 1 gs0 (upd (hb_aI w 11 1 gs0) xs1.toNatClampNeg xs2)) 11 1 g1 x2.toNatClampNeg) = (-1 : Int32)) → hb_O yX7_takeWord cX7_takeWord 2 (some .boolean) d [hb_r 3 0 0, hb_i (3462733 : Int32)] (hb_sI w 11 1 gs0 (upd (hb_aI w 11 1 gs0) xs1.toNatClampNeg xs2)) (fun rv w1 => hb_R yX2_readHoods cX2_readHoods 3 (some .boolean) (d + 1) 69 [some (hb_r 4 0 0), some (hb_r 11 g1 0), some (hb_i x2)] (rv.toList ++ []) w1 Q))))) : hb_R yX2_readHoods cX2_readHoods 3 (some .boolean) (d + 1) 49 [some (hb_r 4 0 0), some (hb_r 11 g1 0), some (hb_i x2)] [hb_i xs2, hb_i xs1, hb_r 11 gs0 1] w Q := by
  obtain ⟨ho1, hr1⟩ := h
  refine hb_iastx (pc := 49) (f := upd (hb_aI w 11 1 gs0) xs1.toNatClampNeg xs2) dX2_readHoods_49 rfl hgs0 ho1 rfl ?_
  refine hb_aload_n (pc := 50) (i := 1) dX2_readHoods_50 rfl rfl ?_
  refine hb_getR (pc := 51) (g1 := g1) dX2_readHoods_51 fw_X2_118 cw_6 rfl hg1 rfl (by decide) rfl ?_
  refine hb_iload_n (pc := 54) (i := 2) dX2_readHoods_54 rfl rfl ?_
  obtain ⟨ho2, hr2⟩ := hr1
  refine hb_ialdx (pc := 55) (x := hb_aI (hb_sI w 11 1 gs0 (upd (hb_aI w 11 1 gs0) xs1.toNatClampNeg xs2)) 11 1 g1 x2.toNatClampNeg) dX2_readHoods_55 rfl hg1 ho2 rfl ?_
  refine hb_iconst (pc := 56) (v := -1) dX2_readHoods_56 (by decide) ?_
  refine hb_icmp_eq (pc := 57) (tgt := 72) dX2_readHoods_57 (by decide) (fun c3 => ?_) (fun c3 => ?_)
  · have ht3 := hr2.1 c3
    refine hb_iconst (pc := 72) (v := 0) dX2_readHoods_72 (by decide) ?_
    exact hb_zret (pc := 73) dX2_readHoods_73 rfl (Or.inl rfl) ht3
  · have ht3 := hr2.2 c3
    refine hb_aload_n (pc := 60) (i := 0) dX2_readHoods_60 rfl rfl ?_
    refine hb_getR (pc := 61) (g1 := 0) dX2_readHoods_61 fw_X2_9 cw_2 rfl (by decide) rfl (by decide) rfl ?_
    refine hb_ldc (pc := 64) (v := 3462733) dX2_readHoods_64 kc_X2_122 ?_
    exact hb_callV (pc := 66) (As := [hb_i (3462733 : Int32)]) (st := []) dX2_readHoods_66 ml_X2_81 mf_X7_takeWord mi_X7_takeWord (ci := 7) rfl rfl (by decide) rfl rfl (Nat.le_of_ble_eq_true rfl) (Nat.le_of_ble_eq_true rfl) ht3 (fun _ _ q => q)
set_option maxRecDepth 20000 in
theorem bk_X2_readHoods_69 {d : Nat} {w : hb_W} {Q : Option hb_V → hb_W → Prop} {g1 : Nat} {x2 : Int32} {xs0 : Int32} (hg1 : g1 < hb_ct 11) (h : ((¬ xs0 = 0) → hb_O yX7_takeNumber cX7_takeNumber 4 (some .int) d [hb_r 3 0 0, hb_i (0 : Int32), hb_i (63 : Int32)] w (fun rv w1 => hb_R yX2_readHoods cX2_readHoods 3 (some .boolean) (d + 1) 89 [some (hb_r 4 0 0), some (hb_r 11 g1 0), some (hb_i x2)] (rv.toList ++ [hb_i x2, hb_r 11 g1 2]) w1 Q)) ∧ ((xs0 = 0) → Q (some (hb_i (0 : Int32))) w)) : hb_R yX2_readHoods cX2_readHoods 3 (some .boolean) (d + 1) 69 [some (hb_r 4 0 0), some (hb_r 11 g1 0), some (hb_i x2)] [hb_i xs0] w Q := by
  refine hb_if_ne (pc := 69) (tgt := 74) dX2_readHoods_69 (by decide) (fun c1 => ?_) (fun c1 => ?_)
  · have ht1 := h.1 c1
    refine hb_aload_n (pc := 74) (i := 1) dX2_readHoods_74 rfl rfl ?_
    refine hb_getR (pc := 75) (g1 := g1) dX2_readHoods_75 fw_X2_123 cw_6 rfl hg1 rfl (by decide) rfl ?_
    refine hb_iload_n (pc := 78) (i := 2) dX2_readHoods_78 rfl rfl ?_
    refine hb_aload_n (pc := 79) (i := 0) dX2_readHoods_79 rfl rfl ?_
    refine hb_getR (pc := 80) (g1 := 0) dX2_readHoods_80 fw_X2_9 cw_2 rfl (by decide) rfl (by decide) rfl ?_
    refine hb_iconst (pc := 83) (v := 0) dX2_readHoods_83 (by decide) ?_
    refine hb_bipush (pc := 84) (v := 63) dX2_readHoods_84 (by decide) ?_
    exact hb_callV (pc := 86) (As := [hb_i (0 : Int32), hb_i (63 : Int32)]) (st := [hb_i x2, hb_r 11 g1 2]) dX2_readHoods_86 ml_X2_85 mf_X7_takeNumber mi_X7_takeNumber (ci := 7) rfl rfl (by decide) rfl rfl (Nat.le_of_ble_eq_true rfl) (Nat.le_of_ble_eq_true rfl) ht1 (fun _ _ q => q)
  · have ht1 := h.2 c1
    refine hb_iconst (pc := 72) (v := 0) dX2_readHoods_72 (by decide) ?_
    exact hb_zret (pc := 73) dX2_readHoods_73 rfl (Or.inl rfl) ht1
set_option maxRecDepth 20000 in
theorem bk_X2_readHoods_89 {d : Nat} {w : hb_W} {Q : Option hb_V → hb_W → Prop} {g1 : Nat} {x2 : Int32} {gs0 : Nat} {xs1 : Int32} {xs2 : Int32} (hg1 : g1 < hb_ct 11) (hgs0 : gs0 < hb_ct 11) (h : vp_in xs1 20 ∧ (vp_in x2 20 ∧ ((((hb_aI (hb_sI w 11 2 gs0 (upd (hb_aI w 11 2 gs0) xs1.toNatClampNeg xs2)) 11 2 g1 x2.toNatClampNeg) = (-1 : Int32)) → Q (some (hb_i (0 : Int32))) (hb_sI w 11 2 gs0 (upd (hb_aI w 11 2 gs0) xs1.toNatClampNeg xs2))) ∧ ((¬ (hb_aI (hb_sI w 11 2 gs0 (upd (hb_aI w 11 2 gs0) xs1.toNatClampNeg xs2)) 11 2 g1 x2.toNatClampNeg) = (-1 : Int32)) → hb_O yX7_takeWord cX7_takeWord 2 (some .boolean) d [hb_r 3 0 0, hb_i (3890448 : Int32)] (hb_sI w 11 2 gs0 (upd (hb_aI w 11 2 gs0) xs1.toNatClampNeg xs2)) (fun rv w1 => hb_R yX2_readHoods cX2_readHoods 3 (some .boolean) (d + 1) 109 [some (hb_r 4 0 0), some (hb_r 11 g1 0), some (hb_i x2)] (rv.toList ++ []) w1 Q))))) : hb_R yX2_readHoods cX2_readHoods 3 (some .boolean) (d + 1) 89 [some (hb_r 4 0 0), some (hb_r 11 g1 0), some (hb_i x2)] [hb_i xs2, hb_i xs1, hb_r 11 gs0 2] w Q := by
  obtain ⟨ho1, hr1⟩ := h
  refine hb_iastx (pc := 89) (f := upd (hb_aI w 11 2 gs0) xs1.toNatClampNeg xs2) dX2_readHoods_89 rfl hgs0 ho1 rfl ?_
  refine hb_aload_n (pc := 90) (i := 1) dX2_readHoods_90 rfl rfl ?_
  refine hb_getR (pc := 91) (g1 := g1) dX2_readHoods_91 fw_X2_123 cw_6 rfl hg1 rfl (by decide) rfl ?_
  refine hb_iload_n (pc := 94) (i := 2) dX2_readHoods_94 rfl rfl ?_
  obtain ⟨ho2, hr2⟩ := hr1
  refine hb_ialdx (pc := 95) (x := hb_aI (hb_sI w 11 2 gs0 (upd (hb_aI w 11 2 gs0) xs1.toNatClampNeg xs2)) 11 2 g1 x2.toNatClampNeg) dX2_readHoods_95 rfl hg1 ho2 rfl ?_
  refine hb_iconst (pc := 96) (v := -1) dX2_readHoods_96 (by decide) ?_
  refine hb_icmp_eq (pc := 97) (tgt := 112) dX2_readHoods_97 (by decide) (fun c3 => ?_) (fun c3 => ?_)
  · have ht3 := hr2.1 c3
    refine hb_iconst (pc := 112) (v := 0) dX2_readHoods_112 (by decide) ?_
    exact hb_zret (pc := 113) dX2_readHoods_113 rfl (Or.inl rfl) ht3
  · have ht3 := hr2.2 c3
    refine hb_aload_n (pc := 100) (i := 0) dX2_readHoods_100 rfl rfl ?_
    refine hb_getR (pc := 101) (g1 := 0) dX2_readHoods_101 fw_X2_9 cw_2 rfl (by decide) rfl (by decide) rfl ?_
    refine hb_ldc (pc := 104) (v := 3890448) dX2_readHoods_104 kc_X2_126 ?_
    exact hb_callV (pc := 106) (As := [hb_i (3890448 : Int32)]) (st := []) dX2_readHoods_106 ml_X2_81 mf_X7_takeWord mi_X7_takeWord (ci := 7) rfl rfl (by decide) rfl rfl (Nat.le_of_ble_eq_true rfl) (Nat.le_of_ble_eq_true rfl) ht3 (fun _ _ q => q)
set_option maxRecDepth 20000 in
theorem bk_X2_readHoods_109 {d : Nat} {w : hb_W} {Q : Option hb_V → hb_W → Prop} {g1 : Nat} {x2 : Int32} {xs0 : Int32} (hg1 : g1 < hb_ct 11) (h : ((¬ xs0 = 0) → hb_O yX7_takeNumber cX7_takeNumber 4 (some .int) d [hb_r 3 0 0, hb_i (0 : Int32), hb_i (63 : Int32)] w (fun rv w1 => hb_R yX2_readHoods cX2_readHoods 3 (some .boolean) (d + 1) 129 [some (hb_r 4 0 0), some (hb_r 11 g1 0), some (hb_i x2)] (rv.toList ++ [hb_i x2, hb_r 11 g1 3]) w1 Q)) ∧ ((xs0 = 0) → Q (some (hb_i (0 : Int32))) w)) : hb_R yX2_readHoods cX2_readHoods 3 (some .boolean) (d + 1) 109 [some (hb_r 4 0 0), some (hb_r 11 g1 0), some (hb_i x2)] [hb_i xs0] w Q := by
  refine hb_if_ne (pc := 109) (tgt := 114) dX2_readHoods_109 (by decide) (fun c1 => ?_) (fun c1 => ?_)
  · have ht1 := h.1 c1
    refine hb_aload_n (pc := 114) (i := 1) dX2_readHoods_114 rfl rfl ?_
    refine hb_getR (pc := 115) (g1 := g1) dX2_readHoods_115 fw_X2_127 cw_6 rfl hg1 rfl (by decide) rfl ?_
    refine hb_iload_n (pc := 118) (i := 2) dX2_readHoods_118 rfl rfl ?_
    refine hb_aload_n (pc := 119) (i := 0) dX2_readHoods_119 rfl rfl ?_
    refine hb_getR (pc := 120) (g1 := 0) dX2_readHoods_120 fw_X2_9 cw_2 rfl (by decide) rfl (by decide) rfl ?_
    refine hb_iconst (pc := 123) (v := 0) dX2_readHoods_123 (by decide) ?_
    refine hb_bipush (pc := 124) (v := 63) dX2_readHoods_124 (by decide) ?_
    exact hb_callV (pc := 126) (As := [hb_i (0 : Int32), hb_i (63 : Int32)]) (st := [hb_i x2, hb_r 11 g1 3]) dX2_readHoods_126 ml_X2_85 mf_X7_takeNumber mi_X7_takeNumber (ci := 7) rfl rfl (by decide) rfl rfl (Nat.le_of_ble_eq_true rfl) (Nat.le_of_ble_eq_true rfl) ht1 (fun _ _ q => q)
  · have ht1 := h.2 c1
    refine hb_iconst (pc := 112) (v := 0) dX2_readHoods_112 (by decide) ?_
    exact hb_zret (pc := 113) dX2_readHoods_113 rfl (Or.inl rfl) ht1
set_option maxRecDepth 20000 in
theorem bk_X2_readHoods_129 {d : Nat} {w : hb_W} {Q : Option hb_V → hb_W → Prop} {g1 : Nat} {x2 : Int32} {gs0 : Nat} {xs1 : Int32} {xs2 : Int32} (hg1 : g1 < hb_ct 11) (hgs0 : gs0 < hb_ct 11) (h : vp_in xs1 20 ∧ (vp_in x2 20 ∧ ((((hb_aI (hb_sI w 11 3 gs0 (upd (hb_aI w 11 3 gs0) xs1.toNatClampNeg xs2)) 11 3 g1 x2.toNatClampNeg) = (-1 : Int32)) → Q (some (hb_i (0 : Int32))) (hb_sI w 11 3 gs0 (upd (hb_aI w 11 3 gs0) xs1.toNatClampNeg xs2))) ∧ ((¬ (hb_aI (hb_sI w 11 3 gs0 (upd (hb_aI w 11 3 gs0) xs1.toNatClampNeg xs2)) 11 3 g1 x2.toNatClampNeg) = (-1 : Int32)) → hb_O yX7_takeWord cX7_takeWord 2 (some .boolean) d [hb_r 3 0 0, hb_i (111568147 : Int32)] (hb_sI w 11 3 gs0 (upd (hb_aI w 11 3 gs0) xs1.toNatClampNeg xs2)) (fun rv w1 => hb_R yX2_readHoods cX2_readHoods 3 (some .boolean) (d + 1) 149 [some (hb_r 4 0 0), some (hb_r 11 g1 0), some (hb_i x2)] (rv.toList ++ []) w1 Q))))) : hb_R yX2_readHoods cX2_readHoods 3 (some .boolean) (d + 1) 129 [some (hb_r 4 0 0), some (hb_r 11 g1 0), some (hb_i x2)] [hb_i xs2, hb_i xs1, hb_r 11 gs0 3] w Q := by
  obtain ⟨ho1, hr1⟩ := h
  refine hb_iastx (pc := 129) (f := upd (hb_aI w 11 3 gs0) xs1.toNatClampNeg xs2) dX2_readHoods_129 rfl hgs0 ho1 rfl ?_
  refine hb_aload_n (pc := 130) (i := 1) dX2_readHoods_130 rfl rfl ?_
  refine hb_getR (pc := 131) (g1 := g1) dX2_readHoods_131 fw_X2_127 cw_6 rfl hg1 rfl (by decide) rfl ?_
  refine hb_iload_n (pc := 134) (i := 2) dX2_readHoods_134 rfl rfl ?_
  obtain ⟨ho2, hr2⟩ := hr1
  refine hb_ialdx (pc := 135) (x := hb_aI (hb_sI w 11 3 gs0 (upd (hb_aI w 11 3 gs0) xs1.toNatClampNeg xs2)) 11 3 g1 x2.toNatClampNeg) dX2_readHoods_135 rfl hg1 ho2 rfl ?_
  refine hb_iconst (pc := 136) (v := -1) dX2_readHoods_136 (by decide) ?_
  refine hb_icmp_eq (pc := 137) (tgt := 152) dX2_readHoods_137 (by decide) (fun c3 => ?_) (fun c3 => ?_)
  · have ht3 := hr2.1 c3
    refine hb_iconst (pc := 152) (v := 0) dX2_readHoods_152 (by decide) ?_
    exact hb_zret (pc := 153) dX2_readHoods_153 rfl (Or.inl rfl) ht3
  · have ht3 := hr2.2 c3
    refine hb_aload_n (pc := 140) (i := 0) dX2_readHoods_140 rfl rfl ?_
    refine hb_getR (pc := 141) (g1 := 0) dX2_readHoods_141 fw_X2_9 cw_2 rfl (by decide) rfl (by decide) rfl ?_
    refine hb_ldc (pc := 144) (v := 111568147) dX2_readHoods_144 kc_X2_130 ?_
    exact hb_callV (pc := 146) (As := [hb_i (111568147 : Int32)]) (st := []) dX2_readHoods_146 ml_X2_81 mf_X7_takeWord mi_X7_takeWord (ci := 7) rfl rfl (by decide) rfl rfl (Nat.le_of_ble_eq_true rfl) (Nat.le_of_ble_eq_true rfl) ht3 (fun _ _ q => q)
set_option maxRecDepth 20000 in
theorem bk_X2_readHoods_149 {d : Nat} {w : hb_W} {Q : Option hb_V → hb_W → Prop} {g1 : Nat} {x2 : Int32} {xs0 : Int32} (hg1 : g1 < hb_ct 11) (h : ((¬ xs0 = 0) → (hb_fR w 4 1 0) < hb_ct 2 ∧ (vp_in x2 20 ∧ (hb_O yX2_readSum cX2_readSum 5 (some .boolean) d [hb_r 4 0 0, hb_i (0 : Int32)] (hb_sI (hb_pI w 4 2 0 (0 : Int32)) 11 5 g1 (upd (hb_aI w 11 5 g1) x2.toNatClampNeg (hb_fI w 2 1 (hb_fR w 4 1 0)))) (fun rv w1 => hb_R yX2_readHoods cX2_readHoods 3 (some .boolean) (d + 1) 177 [some (hb_r 4 0 0), some (hb_r 11 g1 0), some (hb_i x2)] (rv.toList ++ []) w1 Q)))) ∧ ((xs0 = 0) → Q (some (hb_i (0 : Int32))) w)) : hb_R yX2_readHoods cX2_readHoods 3 (some .boolean) (d + 1) 149 [some (hb_r 4 0 0), some (hb_r 11 g1 0), some (hb_i x2)] [hb_i xs0] w Q := by
  refine hb_if_ne (pc := 149) (tgt := 154) dX2_readHoods_149 (by decide) (fun c1 => ?_) (fun c1 => ?_)
  · have ht1 := h.1 c1
    refine hb_aload_n (pc := 154) (i := 0) dX2_readHoods_154 rfl rfl ?_
    refine hb_iconst (pc := 155) (v := 0) dX2_readHoods_155 (by decide) ?_
    refine hb_putI (pc := 156) dX2_readHoods_156 fw_X2_19 cw_2 pw_2_2 rfl (by decide) rfl rfl rfl ?_
    refine hb_aload_n (pc := 159) (i := 1) dX2_readHoods_159 rfl rfl ?_
    refine hb_getR (pc := 160) (g1 := g1) dX2_readHoods_160 fw_X2_131 cw_6 rfl hg1 rfl (by decide) rfl ?_
    refine hb_iload_n (pc := 163) (i := 2) dX2_readHoods_163 rfl rfl ?_
    refine hb_aload_n (pc := 164) (i := 0) dX2_readHoods_164 rfl rfl ?_
    refine hb_getR (pc := 165) (g1 := hb_fR w 4 1 0) dX2_readHoods_165 fw_X2_15 cw_2 rfl (by decide) rfl (by decide) rfl ?_
    obtain ⟨ho2, hr2⟩ := ht1
    refine hb_getIx (pc := 168) (x := hb_fI w 2 1 (hb_fR w 4 1 0)) dX2_readHoods_168 fw_X2_61 cw_1 rfl ho2 rfl (by simp [hb_fI, hb_fL, hb_fR, hb_aI, hb_aL, hb_pI, hb_pL, hb_pR, hb_sI, hb_sL, hb_u3]) ?_
    obtain ⟨ho3, hr3⟩ := hr2
    refine hb_iastx (pc := 171) (f := upd (hb_aI w 11 5 g1) x2.toNatClampNeg (hb_fI w 2 1 (hb_fR w 4 1 0))) dX2_readHoods_171 rfl hg1 ho3 rfl ?_
    refine hb_aload_n (pc := 172) (i := 0) dX2_readHoods_172 rfl rfl ?_
    refine hb_iconst (pc := 173) (v := 0) dX2_readHoods_173 (by decide) ?_
    exact hb_callV (pc := 174) (As := [hb_i (0 : Int32)]) (st := []) dX2_readHoods_174 ml_X2_77 mf_X2_readSum mi_X2_readSum (ci := 2) rfl rfl (by decide) rfl rfl (Nat.le_of_ble_eq_true rfl) (Nat.le_of_ble_eq_true rfl) hr3 (fun _ _ q => q)
  · have ht1 := h.2 c1
    refine hb_iconst (pc := 152) (v := 0) dX2_readHoods_152 (by decide) ?_
    exact hb_zret (pc := 153) dX2_readHoods_153 rfl (Or.inl rfl) ht1
set_option maxRecDepth 20000 in
theorem bk_X2_readHoods_177 {d : Nat} {w : hb_W} {Q : Option hb_V → hb_W → Prop} {g1 : Nat} {x2 : Int32} {xs0 : Int32} (hg1 : g1 < hb_ct 11) (h : ((xs0 = 0) → Q (some (hb_i (0 : Int32))) w) ∧ ((¬ xs0 = 0) → hb_O yX7_takeWord cX7_takeWord 2 (some .boolean) d [hb_r 3 0 0, hb_i (3478245 : Int32)] w (fun rv w1 => hb_R yX2_readHoods cX2_readHoods 3 (some .boolean) (d + 1) 189 [some (hb_r 4 0 0), some (hb_r 11 g1 0), some (hb_i x2)] (rv.toList ++ []) w1 Q))) : hb_R yX2_readHoods cX2_readHoods 3 (some .boolean) (d + 1) 177 [some (hb_r 4 0 0), some (hb_r 11 g1 0), some (hb_i x2)] [hb_i xs0] w Q := by
  refine hb_if_eq (pc := 177) (tgt := 192) dX2_readHoods_177 (by decide) (fun c1 => ?_) (fun c1 => ?_)
  · have ht1 := h.1 c1
    refine hb_iconst (pc := 192) (v := 0) dX2_readHoods_192 (by decide) ?_
    exact hb_zret (pc := 193) dX2_readHoods_193 rfl (Or.inl rfl) ht1
  · have ht1 := h.2 c1
    refine hb_aload_n (pc := 180) (i := 0) dX2_readHoods_180 rfl rfl ?_
    refine hb_getR (pc := 181) (g1 := 0) dX2_readHoods_181 fw_X2_9 cw_2 rfl (by decide) rfl (by decide) rfl ?_
    refine hb_ldc (pc := 184) (v := 3478245) dX2_readHoods_184 kc_X2_134 ?_
    exact hb_callV (pc := 186) (As := [hb_i (3478245 : Int32)]) (st := []) dX2_readHoods_186 ml_X2_81 mf_X7_takeWord mi_X7_takeWord (ci := 7) rfl rfl (by decide) rfl rfl (Nat.le_of_ble_eq_true rfl) (Nat.le_of_ble_eq_true rfl) ht1 (fun _ _ q => q)
set_option maxRecDepth 20000 in
theorem bk_X2_readHoods_189 {d : Nat} {w : hb_W} {Q : Option hb_V → hb_W → Prop} {g1 : Nat} {x2 : Int32} {xs0 : Int32} (hg1 : g1 < hb_ct 11) (h : ((¬ xs0 = 0) → (hb_fR w 4 1 0) < hb_ct 2 ∧ (vp_in x2 20 ∧ (hb_O yX7_takeNumber cX7_takeNumber 4 (some .int) d [hb_r 3 0 0, hb_i (0 : Int32), hb_i (1 : Int32)] (hb_sI w 11 6 g1 (upd (hb_aI w 11 6 g1) x2.toNatClampNeg (hb_fI w 2 1 (hb_fR w 4 1 0)))) (fun rv w1 => hb_R yX2_readHoods cX2_readHoods 3 (some .boolean) (d + 1) 221 [some (hb_r 4 0 0), some (hb_r 11 g1 0), some (hb_i x2)] (rv.toList ++ [hb_i x2, hb_r 11 g1 4]) w1 Q)))) ∧ ((xs0 = 0) → Q (some (hb_i (0 : Int32))) w)) : hb_R yX2_readHoods cX2_readHoods 3 (some .boolean) (d + 1) 189 [some (hb_r 4 0 0), some (hb_r 11 g1 0), some (hb_i x2)] [hb_i xs0] w Q := by
  refine hb_if_ne (pc := 189) (tgt := 194) dX2_readHoods_189 (by decide) (fun c1 => ?_) (fun c1 => ?_)
  · have ht1 := h.1 c1
    refine hb_aload_n (pc := 194) (i := 1) dX2_readHoods_194 rfl rfl ?_
    refine hb_getR (pc := 195) (g1 := g1) dX2_readHoods_195 fw_X2_135 cw_6 rfl hg1 rfl (by decide) rfl ?_
    refine hb_iload_n (pc := 198) (i := 2) dX2_readHoods_198 rfl rfl ?_
    refine hb_aload_n (pc := 199) (i := 0) dX2_readHoods_199 rfl rfl ?_
    refine hb_getR (pc := 200) (g1 := hb_fR w 4 1 0) dX2_readHoods_200 fw_X2_15 cw_2 rfl (by decide) rfl (by decide) rfl ?_
    obtain ⟨ho2, hr2⟩ := ht1
    refine hb_getIx (pc := 203) (x := hb_fI w 2 1 (hb_fR w 4 1 0)) dX2_readHoods_203 fw_X2_61 cw_1 rfl ho2 rfl rfl ?_
    obtain ⟨ho3, hr3⟩ := hr2
    refine hb_iastx (pc := 206) (f := upd (hb_aI w 11 6 g1) x2.toNatClampNeg (hb_fI w 2 1 (hb_fR w 4 1 0))) dX2_readHoods_206 rfl hg1 ho3 rfl ?_
    refine hb_aload_n (pc := 207) (i := 1) dX2_readHoods_207 rfl rfl ?_
    refine hb_getR (pc := 208) (g1 := g1) dX2_readHoods_208 fw_X2_138 cw_6 rfl hg1 rfl (by decide) rfl ?_
    refine hb_iload_n (pc := 211) (i := 2) dX2_readHoods_211 rfl rfl ?_
    refine hb_aload_n (pc := 212) (i := 0) dX2_readHoods_212 rfl rfl ?_
    refine hb_getR (pc := 213) (g1 := 0) dX2_readHoods_213 fw_X2_9 cw_2 rfl (by decide) rfl (by decide) rfl ?_
    refine hb_iconst (pc := 216) (v := 0) dX2_readHoods_216 (by decide) ?_
    refine hb_iconst (pc := 217) (v := 1) dX2_readHoods_217 (by decide) ?_
    exact hb_callV (pc := 218) (As := [hb_i (0 : Int32), hb_i (1 : Int32)]) (st := [hb_i x2, hb_r 11 g1 4]) dX2_readHoods_218 ml_X2_85 mf_X7_takeNumber mi_X7_takeNumber (ci := 7) rfl rfl (by decide) rfl rfl (Nat.le_of_ble_eq_true rfl) (Nat.le_of_ble_eq_true rfl) hr3 (fun _ _ q => q)
  · have ht1 := h.2 c1
    refine hb_iconst (pc := 192) (v := 0) dX2_readHoods_192 (by decide) ?_
    exact hb_zret (pc := 193) dX2_readHoods_193 rfl (Or.inl rfl) ht1
set_option maxRecDepth 20000 in
theorem bk_X2_readHoods_221 {d : Nat} {w : hb_W} {Q : Option hb_V → hb_W → Prop} {g1 : Nat} {x2 : Int32} {gs0 : Nat} {xs1 : Int32} {xs2 : Int32} (hg1 : g1 < hb_ct 11) (hgs0 : gs0 < hb_ct 11) (h : vp_in xs1 20 ∧ (vp_in x2 20 ∧ ((((hb_aI (hb_sI w 11 4 gs0 (upd (hb_aI w 11 4 gs0) xs1.toNatClampNeg xs2)) 11 4 g1 x2.toNatClampNeg) = (-1 : Int32)) → Q (some (hb_i (0 : Int32))) (hb_pI (hb_sI w 11 4 gs0 (upd (hb_aI w 11 4 gs0) xs1.toNatClampNeg xs2)) 11 4 g1 ((hb_fI w 11 4 g1) + (1 : Int32)))) ∧ ((¬ (hb_aI (hb_sI w 11 4 gs0 (upd (hb_aI w 11 4 gs0) xs1.toNatClampNeg xs2)) 11 4 g1 x2.toNatClampNeg) = (-1 : Int32)) → Q (some (hb_i (1 : Int32))) (hb_pI (hb_sI w 11 4 gs0 (upd (hb_aI w 11 4 gs0) xs1.toNatClampNeg xs2)) 11 4 g1 ((hb_fI w 11 4 g1) + (1 : Int32))))))) : hb_R yX2_readHoods cX2_readHoods 3 (some .boolean) (d + 1) 221 [some (hb_r 4 0 0), some (hb_r 11 g1 0), some (hb_i x2)] [hb_i xs2, hb_i xs1, hb_r 11 gs0 4] w Q := by
  obtain ⟨ho1, hr1⟩ := h
  refine hb_iastx (pc := 221) (f := upd (hb_aI w 11 4 gs0) xs1.toNatClampNeg xs2) dX2_readHoods_221 rfl hgs0 ho1 rfl ?_
  refine hb_aload_n (pc := 222) (i := 1) dX2_readHoods_222 rfl rfl ?_
  refine hb_dupr (pc := 223) dX2_readHoods_223 ?_
  refine hb_getIx (pc := 224) (x := hb_fI w 11 4 g1) dX2_readHoods_224 fw_X2_115 cw_6 rfl hg1 rfl rfl ?_
  refine hb_iconst (pc := 227) (v := 1) dX2_readHoods_227 (by decide) ?_
  refine hb_iadd (pc := 228) dX2_readHoods_228 ?_
  refine hb_putI (pc := 229) dX2_readHoods_229 fw_X2_115 cw_6 pw_6_4 rfl hg1 rfl rfl rfl ?_
  refine hb_aload_n (pc := 232) (i := 1) dX2_readHoods_232 rfl rfl ?_
  refine hb_getR (pc := 233) (g1 := g1) dX2_readHoods_233 fw_X2_138 cw_6 rfl hg1 rfl (by decide) rfl ?_
  refine hb_iload_n (pc := 236) (i := 2) dX2_readHoods_236 rfl rfl ?_
  obtain ⟨ho2, hr2⟩ := hr1
  refine hb_ialdx (pc := 237) (x := hb_aI (hb_sI w 11 4 gs0 (upd (hb_aI w 11 4 gs0) xs1.toNatClampNeg xs2)) 11 4 g1 x2.toNatClampNeg) dX2_readHoods_237 rfl hg1 ho2 rfl ?_
  refine hb_iconst (pc := 238) (v := -1) dX2_readHoods_238 (by decide) ?_
  refine hb_icmp_eq (pc := 239) (tgt := 246) dX2_readHoods_239 (by decide) (fun c3 => ?_) (fun c3 => ?_)
  · have ht3 := hr2.1 c3
    refine hb_iconst (pc := 246) (v := 0) dX2_readHoods_246 (by decide) ?_
    exact hb_zret (pc := 247) dX2_readHoods_247 rfl (Or.inl rfl) ht3
  · have ht3 := hr2.2 c3
    refine hb_iconst (pc := 242) (v := 1) dX2_readHoods_242 (by decide) ?_
    refine hb_goto (pc := 243) (tgt := 247) dX2_readHoods_243 (by decide) ?_
    exact hb_zret (pc := 247) dX2_readHoods_247 rfl (Or.inr rfl) ht3
theorem dX2_readMix_0 : decode cX2_readMix 0 = .ok (.aload_n 1, 1) := by decide +kernel
theorem dX2_readMix_1 : decode cX2_readMix 1 = .ok (.getfield 54, 3) := by decide +kernel
theorem dX2_readMix_4 : decode cX2_readMix 4 = .ok (.ifCond .eq 19, 3) := by decide +kernel
theorem dX2_readMix_7 : decode cX2_readMix 7 = .ok (.aload_n 0, 1) := by decide +kernel
theorem dX2_readMix_8 : decode cX2_readMix 8 = .ok (.getfield 9, 3) := by decide +kernel
theorem dX2_readMix_11 : decode cX2_readMix 11 = .ok (.iconst 5, 1) := by decide +kernel
theorem dX2_readMix_12 : decode cX2_readMix 12 = .ok (.aload_n 0, 1) := by decide +kernel
theorem dX2_readMix_13 : decode cX2_readMix 13 = .ok (.getfield 9, 3) := by decide +kernel
theorem dX2_readMix_16 : decode cX2_readMix 16 = .ok (.getfield 47, 3) := by decide +kernel
theorem dX2_readMix_19 : decode cX2_readMix 19 = .ok (.invokevirtual 50, 3) := by decide +kernel
theorem dX2_readMix_22 : decode cX2_readMix 22 = .ok (.ireturn, 1) := by decide +kernel
theorem dX2_readMix_23 : decode cX2_readMix 23 = .ok (.aload_n 0, 1) := by decide +kernel
theorem dX2_readMix_24 : decode cX2_readMix 24 = .ok (.getfield 9, 3) := by decide +kernel
theorem dX2_readMix_27 : decode cX2_readMix 27 = .ok (.invokevirtual 70, 3) := by decide +kernel
theorem dX2_readMix_30 : decode cX2_readMix 30 = .ok (.aload_n 0, 1) := by decide +kernel
theorem dX2_readMix_31 : decode cX2_readMix 31 = .ok (.iconst 1, 1) := by decide +kernel
theorem dX2_readMix_32 : decode cX2_readMix 32 = .ok (.putfield 19, 3) := by decide +kernel
theorem dX2_readMix_35 : decode cX2_readMix 35 = .ok (.aload_n 1, 1) := by decide +kernel
theorem dX2_readMix_36 : decode cX2_readMix 36 = .ok (.iconst 1, 1) := by decide +kernel
theorem dX2_readMix_37 : decode cX2_readMix 37 = .ok (.putfield 54, 3) := by decide +kernel
theorem dX2_readMix_40 : decode cX2_readMix 40 = .ok (.aload_n 1, 1) := by decide +kernel
theorem dX2_readMix_41 : decode cX2_readMix 41 = .ok (.aload_n 0, 1) := by decide +kernel
theorem dX2_readMix_42 : decode cX2_readMix 42 = .ok (.getfield 15, 3) := by decide +kernel
theorem dX2_readMix_45 : decode cX2_readMix 45 = .ok (.getfield 61, 3) := by decide +kernel
theorem dX2_readMix_48 : decode cX2_readMix 48 = .ok (.putfield 141, 3) := by decide +kernel
theorem dX2_readMix_51 : decode cX2_readMix 51 = .ok (.aload_n 0, 1) := by decide +kernel
theorem dX2_readMix_52 : decode cX2_readMix 52 = .ok (.iconst 0, 1) := by decide +kernel
theorem dX2_readMix_53 : decode cX2_readMix 53 = .ok (.invokevirtual 77, 3) := by decide +kernel
theorem dX2_readMix_56 : decode cX2_readMix 56 = .ok (.istore_n 2, 1) := by decide +kernel
theorem dX2_readMix_57 : decode cX2_readMix 57 = .ok (.aload_n 1, 1) := by decide +kernel
theorem dX2_readMix_58 : decode cX2_readMix 58 = .ok (.aload_n 0, 1) := by decide +kernel
theorem dX2_readMix_59 : decode cX2_readMix 59 = .ok (.getfield 15, 3) := by decide +kernel
theorem dX2_readMix_62 : decode cX2_readMix 62 = .ok (.getfield 61, 3) := by decide +kernel
theorem dX2_readMix_65 : decode cX2_readMix 65 = .ok (.putfield 144, 3) := by decide +kernel
theorem dX2_readMix_68 : decode cX2_readMix 68 = .ok (.iload_n 2, 1) := by decide +kernel
theorem dX2_readMix_69 : decode cX2_readMix 69 = .ok (.ireturn, 1) := by decide +kernel
set_option maxRecDepth 20000 in
theorem bk_X2_readMix_0 {d : Nat} {w : hb_W} {Q : Option hb_V → hb_W → Prop} {g1 : Nat} (hg1 : g1 < hb_ct 11) (h : (((hb_fI w 11 12 g1) = 0) → hb_O yX7_step cX7_step 4 none d [hb_r 3 0 0] w (fun rv w1 => hb_R yX2_readMix cX2_readMix 3 (some .boolean) (d + 1) 30 [some (hb_r 4 0 0), some (hb_r 11 g1 0), none] (rv.toList ++ []) w1 Q)) ∧ ((¬ (hb_fI w 11 12 g1) = 0) → hb_O yX7_stop cX7_stop 3 (some .boolean) d [hb_r 3 0 0, hb_i (5 : Int32), hb_i (hb_fI w 3 4 0)] w (fun rv w1 => hb_R yX2_readMix cX2_readMix 3 (some .boolean) (d + 1) 22 [some (hb_r 4 0 0), some (hb_r 11 g1 0), none] (rv.toList ++ []) w1 Q))) : hb_R yX2_readMix cX2_readMix 3 (some .boolean) (d + 1) 0 [some (hb_r 4 0 0), some (hb_r 11 g1 0), none] [] w Q := by
  refine hb_aload_n (pc := 0) (i := 1) dX2_readMix_0 rfl rfl ?_
  refine hb_getIx (pc := 1) (x := hb_fI w 11 12 g1) dX2_readMix_1 fw_X2_54 cw_6 rfl hg1 rfl rfl ?_
  refine hb_if_eq (pc := 4) (tgt := 23) dX2_readMix_4 (by decide) (fun c1 => ?_) (fun c1 => ?_)
  · have ht1 := h.1 c1
    refine hb_aload_n (pc := 23) (i := 0) dX2_readMix_23 rfl rfl ?_
    refine hb_getR (pc := 24) (g1 := 0) dX2_readMix_24 fw_X2_9 cw_2 rfl (by decide) rfl (by decide) rfl ?_
    exact hb_callV (pc := 27) (As := []) (st := []) dX2_readMix_27 ml_X2_70 mf_X7_step mi_X7_step (ci := 7) rfl rfl (by decide) rfl rfl (Nat.le_of_ble_eq_true rfl) (Nat.le_of_ble_eq_true rfl) ht1 (fun _ _ q => q)
  · have ht1 := h.2 c1
    refine hb_aload_n (pc := 7) (i := 0) dX2_readMix_7 rfl rfl ?_
    refine hb_getR (pc := 8) (g1 := 0) dX2_readMix_8 fw_X2_9 cw_2 rfl (by decide) rfl (by decide) rfl ?_
    refine hb_iconst (pc := 11) (v := 5) dX2_readMix_11 (by decide) ?_
    refine hb_aload_n (pc := 12) (i := 0) dX2_readMix_12 rfl rfl ?_
    refine hb_getR (pc := 13) (g1 := 0) dX2_readMix_13 fw_X2_9 cw_2 rfl (by decide) rfl (by decide) rfl ?_
    refine hb_getIx (pc := 16) (x := hb_fI w 3 4 0) dX2_readMix_16 fw_X2_47 cw_7 rfl (by decide) rfl rfl ?_
    exact hb_callV (pc := 19) (As := [hb_i (5 : Int32), hb_i (hb_fI w 3 4 0)]) (st := []) dX2_readMix_19 ml_X2_50 mf_X7_stop mi_X7_stop (ci := 7) rfl rfl (by decide) rfl rfl (Nat.le_of_ble_eq_true rfl) (Nat.le_of_ble_eq_true rfl) ht1 (fun _ _ q => q)
set_option maxRecDepth 20000 in
theorem bk_X2_readMix_22 {d : Nat} {w : hb_W} {Q : Option hb_V → hb_W → Prop} {g1 : Nat} {xs0 : Int32} (hg1 : g1 < hb_ct 11) (h : (xs0 = 0 ∨ xs0 = 1) ∧ Q (some (hb_i xs0)) w) : hb_R yX2_readMix cX2_readMix 3 (some .boolean) (d + 1) 22 [some (hb_r 4 0 0), some (hb_r 11 g1 0), none] [hb_i xs0] w Q := by
  exact hb_zret (pc := 22) dX2_readMix_22 rfl h.1 h.2
set_option maxRecDepth 20000 in
theorem bk_X2_readMix_30 {d : Nat} {w : hb_W} {Q : Option hb_V → hb_W → Prop} {g1 : Nat} (hg1 : g1 < hb_ct 11) (h : (hb_fR w 4 1 0) < hb_ct 2 ∧ (hb_O yX2_readSum cX2_readSum 5 (some .boolean) d [hb_r 4 0 0, hb_i (0 : Int32)] (hb_pI (hb_pI (hb_pI w 4 2 0 (1 : Int32)) 11 12 g1 (1 : Int32)) 11 13 g1 (hb_fI w 2 1 (hb_fR w 4 1 0))) (fun rv w1 => hb_R yX2_readMix cX2_readMix 3 (some .boolean) (d + 1) 56 [some (hb_r 4 0 0), some (hb_r 11 g1 0), none] (rv.toList ++ []) w1 Q))) : hb_R yX2_readMix cX2_readMix 3 (some .boolean) (d + 1) 30 [some (hb_r 4 0 0), some (hb_r 11 g1 0), none] [] w Q := by
  refine hb_aload_n (pc := 30) (i := 0) dX2_readMix_30 rfl rfl ?_
  refine hb_iconst (pc := 31) (v := 1) dX2_readMix_31 (by decide) ?_
  refine hb_putI (pc := 32) dX2_readMix_32 fw_X2_19 cw_2 pw_2_2 rfl (by decide) rfl rfl rfl ?_
  refine hb_aload_n (pc := 35) (i := 1) dX2_readMix_35 rfl rfl ?_
  refine hb_iconst (pc := 36) (v := 1) dX2_readMix_36 (by decide) ?_
  refine hb_putI (pc := 37) dX2_readMix_37 fw_X2_54 cw_6 pw_6_12 rfl hg1 rfl rfl rfl ?_
  refine hb_aload_n (pc := 40) (i := 1) dX2_readMix_40 rfl rfl ?_
  refine hb_aload_n (pc := 41) (i := 0) dX2_readMix_41 rfl rfl ?_
  refine hb_getR (pc := 42) (g1 := hb_fR w 4 1 0) dX2_readMix_42 fw_X2_15 cw_2 rfl (by decide) rfl (by decide) rfl ?_
  obtain ⟨ho1, hr1⟩ := h
  refine hb_getIx (pc := 45) (x := hb_fI w 2 1 (hb_fR w 4 1 0)) dX2_readMix_45 fw_X2_61 cw_1 rfl ho1 rfl (by simp [hb_fI, hb_fL, hb_fR, hb_aI, hb_aL, hb_pI, hb_pL, hb_pR, hb_sI, hb_sL, hb_u3]) ?_
  refine hb_putI (pc := 48) dX2_readMix_48 fw_X2_141 cw_6 pw_6_13 rfl hg1 rfl rfl rfl ?_
  refine hb_aload_n (pc := 51) (i := 0) dX2_readMix_51 rfl rfl ?_
  refine hb_iconst (pc := 52) (v := 0) dX2_readMix_52 (by decide) ?_
  exact hb_callV (pc := 53) (As := [hb_i (0 : Int32)]) (st := []) dX2_readMix_53 ml_X2_77 mf_X2_readSum mi_X2_readSum (ci := 2) rfl rfl (by decide) rfl rfl (Nat.le_of_ble_eq_true rfl) (Nat.le_of_ble_eq_true rfl) hr1 (fun _ _ q => q)
set_option maxRecDepth 20000 in
theorem bk_X2_readMix_56 {d : Nat} {w : hb_W} {Q : Option hb_V → hb_W → Prop} {g1 : Nat} {xs0 : Int32} (hg1 : g1 < hb_ct 11) (h : (hb_fR w 4 1 0) < hb_ct 2 ∧ ((xs0 = 0 ∨ xs0 = 1) ∧ Q (some (hb_i xs0)) (hb_pI w 11 14 g1 (hb_fI w 2 1 (hb_fR w 4 1 0))))) : hb_R yX2_readMix cX2_readMix 3 (some .boolean) (d + 1) 56 [some (hb_r 4 0 0), some (hb_r 11 g1 0), none] [hb_i xs0] w Q := by
  refine hb_istore_n (pc := 56) (i := 2) (ls1 := [some (hb_r 4 0 0), some (hb_r 11 g1 0), some (hb_i xs0)]) dX2_readMix_56 rfl (by decide) rfl ?_
  refine hb_aload_n (pc := 57) (i := 1) dX2_readMix_57 rfl rfl ?_
  refine hb_aload_n (pc := 58) (i := 0) dX2_readMix_58 rfl rfl ?_
  refine hb_getR (pc := 59) (g1 := hb_fR w 4 1 0) dX2_readMix_59 fw_X2_15 cw_2 rfl (by decide) rfl (by decide) rfl ?_
  obtain ⟨ho1, hr1⟩ := h
  refine hb_getIx (pc := 62) (x := hb_fI w 2 1 (hb_fR w 4 1 0)) dX2_readMix_62 fw_X2_61 cw_1 rfl ho1 rfl rfl ?_
  refine hb_putI (pc := 65) dX2_readMix_65 fw_X2_144 cw_6 pw_6_14 rfl hg1 rfl rfl rfl ?_
  refine hb_iload_n (pc := 68) (i := 2) dX2_readMix_68 rfl rfl ?_
  exact hb_zret (pc := 69) dX2_readMix_69 rfl hr1.1 hr1.2
theorem dX2_askedHere_0 : decode cX2_askedHere 0 = .ok (.aload_n 0, 1) := by decide +kernel
theorem dX2_askedHere_1 : decode cX2_askedHere 1 = .ok (.getfield 9, 3) := by decide +kernel
theorem dX2_askedHere_4 : decode cX2_askedHere 4 = .ok (.getfield 100, 3) := by decide +kernel
theorem dX2_askedHere_7 : decode cX2_askedHere 7 = .ok (.lookupswitch 70 #[(3642068, 59), (3689172, 65), (110515924, 57), (116658900, 67), (119856398, 61), (125394060, 63)], 57) := by decide +kernel
theorem dX2_askedHere_64 : decode cX2_askedHere 64 = .ok (.iconst 1, 1) := by decide +kernel
theorem dX2_askedHere_65 : decode cX2_askedHere 65 = .ok (.ireturn, 1) := by decide +kernel
theorem dX2_askedHere_66 : decode cX2_askedHere 66 = .ok (.iconst 2, 1) := by decide +kernel
theorem dX2_askedHere_67 : decode cX2_askedHere 67 = .ok (.ireturn, 1) := by decide +kernel
theorem dX2_askedHere_68 : decode cX2_askedHere 68 = .ok (.iconst 3, 1) := by decide +kernel
theorem dX2_askedHere_69 : decode cX2_askedHere 69 = .ok (.ireturn, 1) := by decide +kernel
theorem dX2_askedHere_70 : decode cX2_askedHere 70 = .ok (.iconst 4, 1) := by decide +kernel
theorem dX2_askedHere_71 : decode cX2_askedHere 71 = .ok (.ireturn, 1) := by decide +kernel
theorem dX2_askedHere_72 : decode cX2_askedHere 72 = .ok (.iconst 5, 1) := by decide +kernel
theorem dX2_askedHere_73 : decode cX2_askedHere 73 = .ok (.ireturn, 1) := by decide +kernel
theorem dX2_askedHere_74 : decode cX2_askedHere 74 = .ok (.bipush 6, 2) := by decide +kernel
theorem dX2_askedHere_76 : decode cX2_askedHere 76 = .ok (.ireturn, 1) := by decide +kernel
theorem dX2_askedHere_77 : decode cX2_askedHere 77 = .ok (.iconst 0, 1) := by decide +kernel
theorem dX2_askedHere_78 : decode cX2_askedHere 78 = .ok (.ireturn, 1) := by decide +kernel
set_option maxRecDepth 20000 in
theorem bk_X2_askedHere_0 {d : Nat} {w : hb_W} {Q : Option hb_V → hb_W → Prop} (h : ((hb_fI w 3 2 0) = (3642068 : Int32) → Q (some (hb_i (2 : Int32))) w) ∧ ((hb_fI w 3 2 0) = (3689172 : Int32) → Q (some (hb_i (5 : Int32))) w) ∧ ((hb_fI w 3 2 0) = (110515924 : Int32) → Q (some (hb_i (1 : Int32))) w) ∧ ((hb_fI w 3 2 0) = (116658900 : Int32) → Q (some (hb_i (6 : Int32))) w) ∧ ((hb_fI w 3 2 0) = (119856398 : Int32) → Q (some (hb_i (3 : Int32))) w) ∧ ((hb_fI w 3 2 0) = (125394060 : Int32) → Q (some (hb_i (4 : Int32))) w) ∧ (¬ (hb_fI w 3 2 0) = (3642068 : Int32) → ¬ (hb_fI w 3 2 0) = (3689172 : Int32) → ¬ (hb_fI w 3 2 0) = (110515924 : Int32) → ¬ (hb_fI w 3 2 0) = (116658900 : Int32) → ¬ (hb_fI w 3 2 0) = (119856398 : Int32) → ¬ (hb_fI w 3 2 0) = (125394060 : Int32) → Q (some (hb_i (0 : Int32))) w)) : hb_R yX2_askedHere cX2_askedHere 1 (some .int) d 0 [some (hb_r 4 0 0)] [] w Q := by
  refine hb_aload_n (pc := 0) (i := 0) dX2_askedHere_0 rfl rfl ?_
  refine hb_getR (pc := 1) (g1 := 0) dX2_askedHere_1 fw_X2_9 cw_2 rfl (by decide) rfl (by decide) rfl ?_
  refine hb_getIx (pc := 4) (x := hb_fI w 3 2 0) dX2_askedHere_4 fw_X2_100 cw_7 rfl (by decide) rfl rfl ?_
  by_cases e1_0 : (hb_fI w 3 2 0) = (3642068 : Int32)
  · have hk1_0 := h.1 e1_0
    have ei : (hb_fI w 3 2 0).toInt = 3642068 := by rw [e1_0]; rfl
    refine hb_look (pc := 7) (tgt := 66) (off := 59) dX2_askedHere_7 (by decide +kernel) (by rw [ei]; decide +kernel) (by decide) ?_
    refine hb_iconst (pc := 66) (v := 2) dX2_askedHere_66 (by decide) ?_
    exact hb_iret (pc := 67) dX2_askedHere_67 rfl hk1_0
  by_cases e1_1 : (hb_fI w 3 2 0) = (3689172 : Int32)
  · have hk1_1 := h.2.1 e1_1
    have ei : (hb_fI w 3 2 0).toInt = 3689172 := by rw [e1_1]; rfl
    refine hb_look (pc := 7) (tgt := 72) (off := 65) dX2_askedHere_7 (by decide +kernel) (by rw [ei]; decide +kernel) (by decide) ?_
    refine hb_iconst (pc := 72) (v := 5) dX2_askedHere_72 (by decide) ?_
    exact hb_iret (pc := 73) dX2_askedHere_73 rfl hk1_1
  by_cases e1_2 : (hb_fI w 3 2 0) = (110515924 : Int32)
  · have hk1_2 := h.2.2.1 e1_2
    have ei : (hb_fI w 3 2 0).toInt = 110515924 := by rw [e1_2]; rfl
    refine hb_look (pc := 7) (tgt := 64) (off := 57) dX2_askedHere_7 (by decide +kernel) (by rw [ei]; decide +kernel) (by decide) ?_
    refine hb_iconst (pc := 64) (v := 1) dX2_askedHere_64 (by decide) ?_
    exact hb_iret (pc := 65) dX2_askedHere_65 rfl hk1_2
  by_cases e1_3 : (hb_fI w 3 2 0) = (116658900 : Int32)
  · have hk1_3 := h.2.2.2.1 e1_3
    have ei : (hb_fI w 3 2 0).toInt = 116658900 := by rw [e1_3]; rfl
    refine hb_look (pc := 7) (tgt := 74) (off := 67) dX2_askedHere_7 (by decide +kernel) (by rw [ei]; decide +kernel) (by decide) ?_
    refine hb_bipush (pc := 74) (v := 6) dX2_askedHere_74 (by decide) ?_
    exact hb_iret (pc := 76) dX2_askedHere_76 rfl hk1_3
  by_cases e1_4 : (hb_fI w 3 2 0) = (119856398 : Int32)
  · have hk1_4 := h.2.2.2.2.1 e1_4
    have ei : (hb_fI w 3 2 0).toInt = 119856398 := by rw [e1_4]; rfl
    refine hb_look (pc := 7) (tgt := 68) (off := 61) dX2_askedHere_7 (by decide +kernel) (by rw [ei]; decide +kernel) (by decide) ?_
    refine hb_iconst (pc := 68) (v := 3) dX2_askedHere_68 (by decide) ?_
    exact hb_iret (pc := 69) dX2_askedHere_69 rfl hk1_4
  by_cases e1_5 : (hb_fI w 3 2 0) = (125394060 : Int32)
  · have hk1_5 := h.2.2.2.2.2.1 e1_5
    have ei : (hb_fI w 3 2 0).toInt = 125394060 := by rw [e1_5]; rfl
    refine hb_look (pc := 7) (tgt := 70) (off := 63) dX2_askedHere_7 (by decide +kernel) (by rw [ei]; decide +kernel) (by decide) ?_
    refine hb_iconst (pc := 70) (v := 4) dX2_askedHere_70 (by decide) ?_
    exact hb_iret (pc := 71) dX2_askedHere_71 rfl hk1_5
  have hk1_d := h.2.2.2.2.2.2 e1_0 e1_1 e1_2 e1_3 e1_4 e1_5
  refine hb_look (pc := 7) (tgt := 77) (off := 70) dX2_askedHere_7 (by decide +kernel) (by show Op.lookupswitch.offset [(3642068, 59), (3689172, 65), (110515924, 57), (116658900, 67), (119856398, 61), (125394060, 63)] _ _ = _; rw [lv_osw (k := (3642068 : Int32)) (a := 3642068) e1_0 (by decide), lv_osw (k := (3689172 : Int32)) (a := 3689172) e1_1 (by decide), lv_osw (k := (110515924 : Int32)) (a := 110515924) e1_2 (by decide), lv_osw (k := (116658900 : Int32)) (a := 116658900) e1_3 (by decide), lv_osw (k := (119856398 : Int32)) (a := 119856398) e1_4 (by decide), lv_osw (k := (125394060 : Int32)) (a := 125394060) e1_5 (by decide)]; rfl) (by decide) ?_
  refine hb_iconst (pc := 77) (v := 0) dX2_askedHere_77 (by decide) ?_
  exact hb_iret (pc := 78) dX2_askedHere_78 rfl hk1_d
theorem dX2_readTest_0 : decode cX2_readTest 0 = .ok (.aload_n 0, 1) := by decide +kernel
theorem dX2_readTest_1 : decode cX2_readTest 1 = .ok (.iload_n 1, 1) := by decide +kernel
theorem dX2_readTest_2 : decode cX2_readTest 2 = .ok (.invokevirtual 147, 3) := by decide +kernel
theorem dX2_readTest_5 : decode cX2_readTest 5 = .ok (.istore_n 2, 1) := by decide +kernel
theorem dX2_readTest_6 : decode cX2_readTest 6 = .ok (.iconst 0, 1) := by decide +kernel
theorem dX2_readTest_7 : decode cX2_readTest 7 = .ok (.istore_n 3, 1) := by decide +kernel
theorem dX2_readTest_8 : decode cX2_readTest 8 = .ok (.iload_n 3, 1) := by decide +kernel
theorem dX2_readTest_9 : decode cX2_readTest 9 = .ok (.sipush 1600, 3) := by decide +kernel
theorem dX2_readTest_12 : decode cX2_readTest 12 = .ok (.if_icmp .ge 48, 3) := by decide +kernel
theorem dX2_readTest_15 : decode cX2_readTest 15 = .ok (.iload_n 2, 1) := by decide +kernel
theorem dX2_readTest_16 : decode cX2_readTest 16 = .ok (.ifCond .eq 44, 3) := by decide +kernel
theorem dX2_readTest_19 : decode cX2_readTest 19 = .ok (.aload_n 0, 1) := by decide +kernel
theorem dX2_readTest_20 : decode cX2_readTest 20 = .ok (.getfield 9, 3) := by decide +kernel
theorem dX2_readTest_23 : decode cX2_readTest 23 = .ok (.getfield 100, 3) := by decide +kernel
theorem dX2_readTest_26 : decode cX2_readTest 26 = .ok (.sipush 3666, 3) := by decide +kernel
theorem dX2_readTest_29 : decode cX2_readTest 29 = .ok (.if_icmp .ne 31, 3) := by decide +kernel
theorem dX2_readTest_32 : decode cX2_readTest 32 = .ok (.aload_n 0, 1) := by decide +kernel
theorem dX2_readTest_33 : decode cX2_readTest 33 = .ok (.getfield 9, 3) := by decide +kernel
theorem dX2_readTest_36 : decode cX2_readTest 36 = .ok (.invokevirtual 70, 3) := by decide +kernel
theorem dX2_readTest_39 : decode cX2_readTest 39 = .ok (.aload_n 0, 1) := by decide +kernel
theorem dX2_readTest_40 : decode cX2_readTest 40 = .ok (.iload_n 1, 1) := by decide +kernel
theorem dX2_readTest_41 : decode cX2_readTest 41 = .ok (.invokevirtual 147, 3) := by decide +kernel
theorem dX2_readTest_44 : decode cX2_readTest 44 = .ok (.istore_n 2, 1) := by decide +kernel
theorem dX2_readTest_45 : decode cX2_readTest 45 = .ok (.aload_n 0, 1) := by decide +kernel
theorem dX2_readTest_46 : decode cX2_readTest 46 = .ok (.getfield 15, 3) := by decide +kernel
theorem dX2_readTest_49 : decode cX2_readTest 49 = .ok (.bipush (-31), 2) := by decide +kernel
theorem dX2_readTest_51 : decode cX2_readTest 51 = .ok (.invokevirtual 150, 3) := by decide +kernel
theorem dX2_readTest_54 : decode cX2_readTest 54 = .ok (.iinc 3 1, 3) := by decide +kernel
theorem dX2_readTest_57 : decode cX2_readTest 57 = .ok (.goto (-49), 3) := by decide +kernel
theorem dX2_readTest_60 : decode cX2_readTest 60 = .ok (.iload_n 2, 1) := by decide +kernel
theorem dX2_readTest_61 : decode cX2_readTest 61 = .ok (.ireturn, 1) := by decide +kernel
set_option maxRecDepth 20000 in
theorem bk_X2_readTest_0 {d : Nat} {w : hb_W} {Q : Option hb_V → hb_W → Prop} {x1 : Int32} (h : hb_O yX2_readBoth cX2_readBoth 4 (some .boolean) d [hb_r 4 0 0, hb_i x1] w (fun rv w1 => hb_R yX2_readTest cX2_readTest 4 (some .boolean) (d + 1) 5 [some (hb_r 4 0 0), some (hb_i x1), none, none] (rv.toList ++ []) w1 Q)) : hb_R yX2_readTest cX2_readTest 4 (some .boolean) (d + 1) 0 [some (hb_r 4 0 0), some (hb_i x1), none, none] [] w Q := by
  refine hb_aload_n (pc := 0) (i := 0) dX2_readTest_0 rfl rfl ?_
  refine hb_iload_n (pc := 1) (i := 1) dX2_readTest_1 rfl rfl ?_
  exact hb_callV (pc := 2) (As := [hb_i x1]) (st := []) dX2_readTest_2 ml_X2_147 mf_X2_readBoth mi_X2_readBoth (ci := 2) rfl rfl (by decide) rfl rfl (Nat.le_of_ble_eq_true rfl) (Nat.le_of_ble_eq_true rfl) h (fun _ _ q => q)
set_option maxRecDepth 20000 in
theorem bk_X2_readTest_5 {d : Nat} {w : hb_W} {Q : Option hb_V → hb_W → Prop} {x1 : Int32} {xs0 : Int32} (h : hb_R yX2_readTest cX2_readTest 4 (some .boolean) (d + 1) 8 [some (hb_r 4 0 0), some (hb_i x1), some (hb_i xs0), some (hb_i (0 : Int32))] [] w Q) : hb_R yX2_readTest cX2_readTest 4 (some .boolean) (d + 1) 5 [some (hb_r 4 0 0), some (hb_i x1), none, none] [hb_i xs0] w Q := by
  refine hb_istore_n (pc := 5) (i := 2) (ls1 := [some (hb_r 4 0 0), some (hb_i x1), some (hb_i xs0), none]) dX2_readTest_5 rfl (by decide) rfl ?_
  refine hb_iconst (pc := 6) (v := 0) dX2_readTest_6 (by decide) ?_
  refine hb_istore_n (pc := 7) (i := 3) (ls1 := [some (hb_r 4 0 0), some (hb_i x1), some (hb_i xs0), some (hb_i (0 : Int32))]) dX2_readTest_7 rfl (by decide) rfl ?_
  exact h
set_option maxRecDepth 20000 in
theorem bk_X2_readTest_8 {d : Nat} {w : hb_W} {Q : Option hb_V → hb_W → Prop} {x1 : Int32} {x2 : Int32} {x3 : Int32} (h : (((1600 : Int32) ≤ x3) → (x2 = 0 ∨ x2 = 1) ∧ Q (some (hb_i x2)) w) ∧ ((¬ (1600 : Int32) ≤ x3) → ((x2 = 0) → (x2 = 0 ∨ x2 = 1) ∧ Q (some (hb_i x2)) w) ∧ ((¬ x2 = 0) → ((¬ (hb_fI w 3 2 0) = (3666 : Int32)) → (x2 = 0 ∨ x2 = 1) ∧ Q (some (hb_i x2)) w) ∧ (((hb_fI w 3 2 0) = (3666 : Int32)) → hb_O yX7_step cX7_step 4 none d [hb_r 3 0 0] w (fun rv w1 => hb_R yX2_readTest cX2_readTest 4 (some .boolean) (d + 1) 39 [some (hb_r 4 0 0), some (hb_i x1), some (hb_i x2), some (hb_i x3)] (rv.toList ++ []) w1 Q))))) : hb_R yX2_readTest cX2_readTest 4 (some .boolean) (d + 1) 8 [some (hb_r 4 0 0), some (hb_i x1), some (hb_i x2), some (hb_i x3)] [] w Q := by
  refine hb_iload_n (pc := 8) (i := 3) dX2_readTest_8 rfl rfl ?_
  refine hb_sipush (pc := 9) (v := 1600) dX2_readTest_9 (by decide) ?_
  refine hb_icmp_ge (pc := 12) (tgt := 60) dX2_readTest_12 (by decide) (fun c1 => ?_) (fun c1 => ?_)
  · have ht1 := h.1 c1
    refine hb_iload_n (pc := 60) (i := 2) dX2_readTest_60 rfl rfl ?_
    exact hb_zret (pc := 61) dX2_readTest_61 rfl ht1.1 ht1.2
  · have ht1 := h.2 c1
    refine hb_iload_n (pc := 15) (i := 2) dX2_readTest_15 rfl rfl ?_
    refine hb_if_eq (pc := 16) (tgt := 60) dX2_readTest_16 (by decide) (fun c2 => ?_) (fun c2 => ?_)
    · have ht2 := ht1.1 c2
      refine hb_iload_n (pc := 60) (i := 2) dX2_readTest_60 rfl rfl ?_
      exact hb_zret (pc := 61) dX2_readTest_61 rfl ht2.1 ht2.2
    · have ht2 := ht1.2 c2
      refine hb_aload_n (pc := 19) (i := 0) dX2_readTest_19 rfl rfl ?_
      refine hb_getR (pc := 20) (g1 := 0) dX2_readTest_20 fw_X2_9 cw_2 rfl (by decide) rfl (by decide) rfl ?_
      refine hb_getIx (pc := 23) (x := hb_fI w 3 2 0) dX2_readTest_23 fw_X2_100 cw_7 rfl (by decide) rfl rfl ?_
      refine hb_sipush (pc := 26) (v := 3666) dX2_readTest_26 (by decide) ?_
      refine hb_icmp_ne (pc := 29) (tgt := 60) dX2_readTest_29 (by decide) (fun c3 => ?_) (fun c3 => ?_)
      · have ht3 := ht2.1 c3
        refine hb_iload_n (pc := 60) (i := 2) dX2_readTest_60 rfl rfl ?_
        exact hb_zret (pc := 61) dX2_readTest_61 rfl ht3.1 ht3.2
      · have ht3 := ht2.2 c3
        refine hb_aload_n (pc := 32) (i := 0) dX2_readTest_32 rfl rfl ?_
        refine hb_getR (pc := 33) (g1 := 0) dX2_readTest_33 fw_X2_9 cw_2 rfl (by decide) rfl (by decide) rfl ?_
        exact hb_callV (pc := 36) (As := []) (st := []) dX2_readTest_36 ml_X2_70 mf_X7_step mi_X7_step (ci := 7) rfl rfl (by decide) rfl rfl (Nat.le_of_ble_eq_true rfl) (Nat.le_of_ble_eq_true rfl) ht3 (fun _ _ q => q)
set_option maxRecDepth 20000 in
theorem bk_X2_readTest_39 {d : Nat} {w : hb_W} {Q : Option hb_V → hb_W → Prop} {x1 : Int32} {x2 : Int32} {x3 : Int32} (h : hb_O yX2_readBoth cX2_readBoth 4 (some .boolean) d [hb_r 4 0 0, hb_i x1] w (fun rv w1 => hb_R yX2_readTest cX2_readTest 4 (some .boolean) (d + 1) 44 [some (hb_r 4 0 0), some (hb_i x1), some (hb_i x2), some (hb_i x3)] (rv.toList ++ []) w1 Q)) : hb_R yX2_readTest cX2_readTest 4 (some .boolean) (d + 1) 39 [some (hb_r 4 0 0), some (hb_i x1), some (hb_i x2), some (hb_i x3)] [] w Q := by
  refine hb_aload_n (pc := 39) (i := 0) dX2_readTest_39 rfl rfl ?_
  refine hb_iload_n (pc := 40) (i := 1) dX2_readTest_40 rfl rfl ?_
  exact hb_callV (pc := 41) (As := [hb_i x1]) (st := []) dX2_readTest_41 ml_X2_147 mf_X2_readBoth mi_X2_readBoth (ci := 2) rfl rfl (by decide) rfl rfl (Nat.le_of_ble_eq_true rfl) (Nat.le_of_ble_eq_true rfl) h (fun _ _ q => q)
set_option maxRecDepth 20000 in
theorem bk_X2_readTest_44 {d : Nat} {w : hb_W} {Q : Option hb_V → hb_W → Prop} {x1 : Int32} {x2 : Int32} {x3 : Int32} {xs0 : Int32} (h : (hb_fR w 4 1 0) < hb_ct 2 ∧ (hb_O yX1_put cX1_put 2 none d [hb_r 2 (hb_fR w 4 1 0) 0, hb_i (-31 : Int32)] w (fun rv w1 => hb_R yX2_readTest cX2_readTest 4 (some .boolean) (d + 1) 54 [some (hb_r 4 0 0), some (hb_i x1), some (hb_i xs0), some (hb_i x3)] (rv.toList ++ []) w1 Q))) : hb_R yX2_readTest cX2_readTest 4 (some .boolean) (d + 1) 44 [some (hb_r 4 0 0), some (hb_i x1), some (hb_i x2), some (hb_i x3)] [hb_i xs0] w Q := by
  refine hb_istore_n (pc := 44) (i := 2) (ls1 := [some (hb_r 4 0 0), some (hb_i x1), some (hb_i xs0), some (hb_i x3)]) dX2_readTest_44 rfl (by decide) rfl ?_
  refine hb_aload_n (pc := 45) (i := 0) dX2_readTest_45 rfl rfl ?_
  refine hb_getR (pc := 46) (g1 := hb_fR w 4 1 0) dX2_readTest_46 fw_X2_15 cw_2 rfl (by decide) rfl (by decide) rfl ?_
  refine hb_bipush (pc := 49) (v := -31) dX2_readTest_49 (by decide) ?_
  obtain ⟨ho1, hr1⟩ := h
  exact hb_callV (pc := 51) (As := [hb_i (-31 : Int32)]) (st := []) dX2_readTest_51 ml_X2_150 mf_X1_put mi_X1_put (ci := 1) rfl rfl ho1 rfl rfl (Nat.le_of_ble_eq_true rfl) (Nat.le_of_ble_eq_true rfl) hr1 (fun _ _ q => q)
set_option maxRecDepth 20000 in
theorem bk_X2_readTest_54 {d : Nat} {w : hb_W} {Q : Option hb_V → hb_W → Prop} {x1 : Int32} {x2 : Int32} {x3 : Int32} (h : hb_R yX2_readTest cX2_readTest 4 (some .boolean) (d + 1) 8 [some (hb_r 4 0 0), some (hb_i x1), some (hb_i x2), some (hb_i (x3 + (1 : Int32)))] [] w Q) : hb_R yX2_readTest cX2_readTest 4 (some .boolean) (d + 1) 54 [some (hb_r 4 0 0), some (hb_i x1), some (hb_i x2), some (hb_i x3)] [] w Q := by
  refine hb_iinc (pc := 54) (v := x3 + (1 : Int32)) (ls1 := [some (hb_r 4 0 0), some (hb_i x1), some (hb_i x2), some (hb_i (x3 + (1 : Int32)))]) dX2_readTest_54 rfl rfl (by decide) rfl ?_
  refine hb_goto (pc := 57) (tgt := 8) dX2_readTest_57 (by decide) ?_
  exact h
theorem dX2_readBoth_0 : decode cX2_readBoth 0 = .ok (.aload_n 0, 1) := by decide +kernel
theorem dX2_readBoth_1 : decode cX2_readBoth 1 = .ok (.iload_n 1, 1) := by decide +kernel
theorem dX2_readBoth_2 : decode cX2_readBoth 2 = .ok (.invokevirtual 154, 3) := by decide +kernel
theorem dX2_readBoth_5 : decode cX2_readBoth 5 = .ok (.istore_n 2, 1) := by decide +kernel
theorem dX2_readBoth_6 : decode cX2_readBoth 6 = .ok (.iconst 0, 1) := by decide +kernel
theorem dX2_readBoth_7 : decode cX2_readBoth 7 = .ok (.istore_n 3, 1) := by decide +kernel
theorem dX2_readBoth_8 : decode cX2_readBoth 8 = .ok (.iload_n 3, 1) := by decide +kernel
theorem dX2_readBoth_9 : decode cX2_readBoth 9 = .ok (.sipush 1600, 3) := by decide +kernel
theorem dX2_readBoth_12 : decode cX2_readBoth 12 = .ok (.if_icmp .ge 47, 3) := by decide +kernel
theorem dX2_readBoth_15 : decode cX2_readBoth 15 = .ok (.iload_n 2, 1) := by decide +kernel
theorem dX2_readBoth_16 : decode cX2_readBoth 16 = .ok (.ifCond .eq 43, 3) := by decide +kernel
theorem dX2_readBoth_19 : decode cX2_readBoth 19 = .ok (.aload_n 0, 1) := by decide +kernel
theorem dX2_readBoth_20 : decode cX2_readBoth 20 = .ok (.getfield 9, 3) := by decide +kernel
theorem dX2_readBoth_23 : decode cX2_readBoth 23 = .ok (.getfield 100, 3) := by decide +kernel
theorem dX2_readBoth_26 : decode cX2_readBoth 26 = .ok (.ldc 157, 2) := by decide +kernel
theorem dX2_readBoth_28 : decode cX2_readBoth 28 = .ok (.if_icmp .ne 31, 3) := by decide +kernel
theorem dX2_readBoth_31 : decode cX2_readBoth 31 = .ok (.aload_n 0, 1) := by decide +kernel
theorem dX2_readBoth_32 : decode cX2_readBoth 32 = .ok (.getfield 9, 3) := by decide +kernel
theorem dX2_readBoth_35 : decode cX2_readBoth 35 = .ok (.invokevirtual 70, 3) := by decide +kernel
theorem dX2_readBoth_38 : decode cX2_readBoth 38 = .ok (.aload_n 0, 1) := by decide +kernel
theorem dX2_readBoth_39 : decode cX2_readBoth 39 = .ok (.iload_n 1, 1) := by decide +kernel
theorem dX2_readBoth_40 : decode cX2_readBoth 40 = .ok (.invokevirtual 154, 3) := by decide +kernel
theorem dX2_readBoth_43 : decode cX2_readBoth 43 = .ok (.istore_n 2, 1) := by decide +kernel
theorem dX2_readBoth_44 : decode cX2_readBoth 44 = .ok (.aload_n 0, 1) := by decide +kernel
theorem dX2_readBoth_45 : decode cX2_readBoth 45 = .ok (.getfield 15, 3) := by decide +kernel
theorem dX2_readBoth_48 : decode cX2_readBoth 48 = .ok (.bipush (-30), 2) := by decide +kernel
theorem dX2_readBoth_50 : decode cX2_readBoth 50 = .ok (.invokevirtual 150, 3) := by decide +kernel
theorem dX2_readBoth_53 : decode cX2_readBoth 53 = .ok (.iinc 3 1, 3) := by decide +kernel
theorem dX2_readBoth_56 : decode cX2_readBoth 56 = .ok (.goto (-48), 3) := by decide +kernel
theorem dX2_readBoth_59 : decode cX2_readBoth 59 = .ok (.iload_n 2, 1) := by decide +kernel
theorem dX2_readBoth_60 : decode cX2_readBoth 60 = .ok (.ireturn, 1) := by decide +kernel
set_option maxRecDepth 20000 in
theorem bk_X2_readBoth_0 {d : Nat} {w : hb_W} {Q : Option hb_V → hb_W → Prop} {x1 : Int32} (h : hb_O yX2_readFact cX2_readFact 3 (some .boolean) d [hb_r 4 0 0, hb_i x1] w (fun rv w1 => hb_R yX2_readBoth cX2_readBoth 4 (some .boolean) (d + 1) 5 [some (hb_r 4 0 0), some (hb_i x1), none, none] (rv.toList ++ []) w1 Q)) : hb_R yX2_readBoth cX2_readBoth 4 (some .boolean) (d + 1) 0 [some (hb_r 4 0 0), some (hb_i x1), none, none] [] w Q := by
  refine hb_aload_n (pc := 0) (i := 0) dX2_readBoth_0 rfl rfl ?_
  refine hb_iload_n (pc := 1) (i := 1) dX2_readBoth_1 rfl rfl ?_
  exact hb_callV (pc := 2) (As := [hb_i x1]) (st := []) dX2_readBoth_2 ml_X2_154 mf_X2_readFact mi_X2_readFact (ci := 2) rfl rfl (by decide) rfl rfl (Nat.le_of_ble_eq_true rfl) (Nat.le_of_ble_eq_true rfl) h (fun _ _ q => q)
set_option maxRecDepth 20000 in
theorem bk_X2_readBoth_5 {d : Nat} {w : hb_W} {Q : Option hb_V → hb_W → Prop} {x1 : Int32} {xs0 : Int32} (h : hb_R yX2_readBoth cX2_readBoth 4 (some .boolean) (d + 1) 8 [some (hb_r 4 0 0), some (hb_i x1), some (hb_i xs0), some (hb_i (0 : Int32))] [] w Q) : hb_R yX2_readBoth cX2_readBoth 4 (some .boolean) (d + 1) 5 [some (hb_r 4 0 0), some (hb_i x1), none, none] [hb_i xs0] w Q := by
  refine hb_istore_n (pc := 5) (i := 2) (ls1 := [some (hb_r 4 0 0), some (hb_i x1), some (hb_i xs0), none]) dX2_readBoth_5 rfl (by decide) rfl ?_
  refine hb_iconst (pc := 6) (v := 0) dX2_readBoth_6 (by decide) ?_
  refine hb_istore_n (pc := 7) (i := 3) (ls1 := [some (hb_r 4 0 0), some (hb_i x1), some (hb_i xs0), some (hb_i (0 : Int32))]) dX2_readBoth_7 rfl (by decide) rfl ?_
  exact h
set_option maxRecDepth 20000 in
theorem bk_X2_readBoth_8 {d : Nat} {w : hb_W} {Q : Option hb_V → hb_W → Prop} {x1 : Int32} {x2 : Int32} {x3 : Int32} (h : (((1600 : Int32) ≤ x3) → (x2 = 0 ∨ x2 = 1) ∧ Q (some (hb_i x2)) w) ∧ ((¬ (1600 : Int32) ≤ x3) → ((x2 = 0) → (x2 = 0 ∨ x2 = 1) ∧ Q (some (hb_i x2)) w) ∧ ((¬ x2 = 0) → ((¬ (hb_fI w 3 2 0) = (102948 : Int32)) → (x2 = 0 ∨ x2 = 1) ∧ Q (some (hb_i x2)) w) ∧ (((hb_fI w 3 2 0) = (102948 : Int32)) → hb_O yX7_step cX7_step 4 none d [hb_r 3 0 0] w (fun rv w1 => hb_R yX2_readBoth cX2_readBoth 4 (some .boolean) (d + 1) 38 [some (hb_r 4 0 0), some (hb_i x1), some (hb_i x2), some (hb_i x3)] (rv.toList ++ []) w1 Q))))) : hb_R yX2_readBoth cX2_readBoth 4 (some .boolean) (d + 1) 8 [some (hb_r 4 0 0), some (hb_i x1), some (hb_i x2), some (hb_i x3)] [] w Q := by
  refine hb_iload_n (pc := 8) (i := 3) dX2_readBoth_8 rfl rfl ?_
  refine hb_sipush (pc := 9) (v := 1600) dX2_readBoth_9 (by decide) ?_
  refine hb_icmp_ge (pc := 12) (tgt := 59) dX2_readBoth_12 (by decide) (fun c1 => ?_) (fun c1 => ?_)
  · have ht1 := h.1 c1
    refine hb_iload_n (pc := 59) (i := 2) dX2_readBoth_59 rfl rfl ?_
    exact hb_zret (pc := 60) dX2_readBoth_60 rfl ht1.1 ht1.2
  · have ht1 := h.2 c1
    refine hb_iload_n (pc := 15) (i := 2) dX2_readBoth_15 rfl rfl ?_
    refine hb_if_eq (pc := 16) (tgt := 59) dX2_readBoth_16 (by decide) (fun c2 => ?_) (fun c2 => ?_)
    · have ht2 := ht1.1 c2
      refine hb_iload_n (pc := 59) (i := 2) dX2_readBoth_59 rfl rfl ?_
      exact hb_zret (pc := 60) dX2_readBoth_60 rfl ht2.1 ht2.2
    · have ht2 := ht1.2 c2
      refine hb_aload_n (pc := 19) (i := 0) dX2_readBoth_19 rfl rfl ?_
      refine hb_getR (pc := 20) (g1 := 0) dX2_readBoth_20 fw_X2_9 cw_2 rfl (by decide) rfl (by decide) rfl ?_
      refine hb_getIx (pc := 23) (x := hb_fI w 3 2 0) dX2_readBoth_23 fw_X2_100 cw_7 rfl (by decide) rfl rfl ?_
      refine hb_ldc (pc := 26) (v := 102948) dX2_readBoth_26 kc_X2_157 ?_
      refine hb_icmp_ne (pc := 28) (tgt := 59) dX2_readBoth_28 (by decide) (fun c3 => ?_) (fun c3 => ?_)
      · have ht3 := ht2.1 c3
        refine hb_iload_n (pc := 59) (i := 2) dX2_readBoth_59 rfl rfl ?_
        exact hb_zret (pc := 60) dX2_readBoth_60 rfl ht3.1 ht3.2
      · have ht3 := ht2.2 c3
        refine hb_aload_n (pc := 31) (i := 0) dX2_readBoth_31 rfl rfl ?_
        refine hb_getR (pc := 32) (g1 := 0) dX2_readBoth_32 fw_X2_9 cw_2 rfl (by decide) rfl (by decide) rfl ?_
        exact hb_callV (pc := 35) (As := []) (st := []) dX2_readBoth_35 ml_X2_70 mf_X7_step mi_X7_step (ci := 7) rfl rfl (by decide) rfl rfl (Nat.le_of_ble_eq_true rfl) (Nat.le_of_ble_eq_true rfl) ht3 (fun _ _ q => q)
set_option maxRecDepth 20000 in
theorem bk_X2_readBoth_38 {d : Nat} {w : hb_W} {Q : Option hb_V → hb_W → Prop} {x1 : Int32} {x2 : Int32} {x3 : Int32} (h : hb_O yX2_readFact cX2_readFact 3 (some .boolean) d [hb_r 4 0 0, hb_i x1] w (fun rv w1 => hb_R yX2_readBoth cX2_readBoth 4 (some .boolean) (d + 1) 43 [some (hb_r 4 0 0), some (hb_i x1), some (hb_i x2), some (hb_i x3)] (rv.toList ++ []) w1 Q)) : hb_R yX2_readBoth cX2_readBoth 4 (some .boolean) (d + 1) 38 [some (hb_r 4 0 0), some (hb_i x1), some (hb_i x2), some (hb_i x3)] [] w Q := by
  refine hb_aload_n (pc := 38) (i := 0) dX2_readBoth_38 rfl rfl ?_
  refine hb_iload_n (pc := 39) (i := 1) dX2_readBoth_39 rfl rfl ?_
  exact hb_callV (pc := 40) (As := [hb_i x1]) (st := []) dX2_readBoth_40 ml_X2_154 mf_X2_readFact mi_X2_readFact (ci := 2) rfl rfl (by decide) rfl rfl (Nat.le_of_ble_eq_true rfl) (Nat.le_of_ble_eq_true rfl) h (fun _ _ q => q)
set_option maxRecDepth 20000 in
theorem bk_X2_readBoth_43 {d : Nat} {w : hb_W} {Q : Option hb_V → hb_W → Prop} {x1 : Int32} {x2 : Int32} {x3 : Int32} {xs0 : Int32} (h : (hb_fR w 4 1 0) < hb_ct 2 ∧ (hb_O yX1_put cX1_put 2 none d [hb_r 2 (hb_fR w 4 1 0) 0, hb_i (-30 : Int32)] w (fun rv w1 => hb_R yX2_readBoth cX2_readBoth 4 (some .boolean) (d + 1) 53 [some (hb_r 4 0 0), some (hb_i x1), some (hb_i xs0), some (hb_i x3)] (rv.toList ++ []) w1 Q))) : hb_R yX2_readBoth cX2_readBoth 4 (some .boolean) (d + 1) 43 [some (hb_r 4 0 0), some (hb_i x1), some (hb_i x2), some (hb_i x3)] [hb_i xs0] w Q := by
  refine hb_istore_n (pc := 43) (i := 2) (ls1 := [some (hb_r 4 0 0), some (hb_i x1), some (hb_i xs0), some (hb_i x3)]) dX2_readBoth_43 rfl (by decide) rfl ?_
  refine hb_aload_n (pc := 44) (i := 0) dX2_readBoth_44 rfl rfl ?_
  refine hb_getR (pc := 45) (g1 := hb_fR w 4 1 0) dX2_readBoth_45 fw_X2_15 cw_2 rfl (by decide) rfl (by decide) rfl ?_
  refine hb_bipush (pc := 48) (v := -30) dX2_readBoth_48 (by decide) ?_
  obtain ⟨ho1, hr1⟩ := h
  exact hb_callV (pc := 50) (As := [hb_i (-30 : Int32)]) (st := []) dX2_readBoth_50 ml_X2_150 mf_X1_put mi_X1_put (ci := 1) rfl rfl ho1 rfl rfl (Nat.le_of_ble_eq_true rfl) (Nat.le_of_ble_eq_true rfl) hr1 (fun _ _ q => q)
set_option maxRecDepth 20000 in
theorem bk_X2_readBoth_53 {d : Nat} {w : hb_W} {Q : Option hb_V → hb_W → Prop} {x1 : Int32} {x2 : Int32} {x3 : Int32} (h : hb_R yX2_readBoth cX2_readBoth 4 (some .boolean) (d + 1) 8 [some (hb_r 4 0 0), some (hb_i x1), some (hb_i x2), some (hb_i (x3 + (1 : Int32)))] [] w Q) : hb_R yX2_readBoth cX2_readBoth 4 (some .boolean) (d + 1) 53 [some (hb_r 4 0 0), some (hb_i x1), some (hb_i x2), some (hb_i x3)] [] w Q := by
  refine hb_iinc (pc := 53) (v := x3 + (1 : Int32)) (ls1 := [some (hb_r 4 0 0), some (hb_i x1), some (hb_i x2), some (hb_i (x3 + (1 : Int32)))]) dX2_readBoth_53 rfl rfl (by decide) rfl ?_
  refine hb_goto (pc := 56) (tgt := 8) dX2_readBoth_56 (by decide) ?_
  exact h
theorem dX2_readFact_0 : decode cX2_readFact 0 = .ok (.aload_n 0, 1) := by decide +kernel
theorem dX2_readFact_1 : decode cX2_readFact 1 = .ok (.getfield 9, 3) := by decide +kernel
theorem dX2_readFact_4 : decode cX2_readFact 4 = .ok (.getfield 100, 3) := by decide +kernel
theorem dX2_readFact_7 : decode cX2_readFact 7 = .ok (.ldc 158, 2) := by decide +kernel
theorem dX2_readFact_9 : decode cX2_readFact 9 = .ok (.if_icmp .ne 38, 3) := by decide +kernel
theorem dX2_readFact_12 : decode cX2_readFact 12 = .ok (.aload_n 0, 1) := by decide +kernel
theorem dX2_readFact_13 : decode cX2_readFact 13 = .ok (.iload_n 1, 1) := by decide +kernel
theorem dX2_readFact_14 : decode cX2_readFact 14 = .ok (.invokevirtual 159, 3) := by decide +kernel
theorem dX2_readFact_17 : decode cX2_readFact 17 = .ok (.ifCond .eq 17, 3) := by decide +kernel
theorem dX2_readFact_20 : decode cX2_readFact 20 = .ok (.aload_n 0, 1) := by decide +kernel
theorem dX2_readFact_21 : decode cX2_readFact 21 = .ok (.iload_n 1, 1) := by decide +kernel
theorem dX2_readFact_22 : decode cX2_readFact 22 = .ok (.iconst 1, 1) := by decide +kernel
theorem dX2_readFact_23 : decode cX2_readFact 23 = .ok (.iadd, 1) := by decide +kernel
theorem dX2_readFact_24 : decode cX2_readFact 24 = .ok (.invokevirtual 154, 3) := by decide +kernel
theorem dX2_readFact_27 : decode cX2_readFact 27 = .ok (.ifCond .eq 7, 3) := by decide +kernel
theorem dX2_readFact_30 : decode cX2_readFact 30 = .ok (.iconst 1, 1) := by decide +kernel
theorem dX2_readFact_31 : decode cX2_readFact 31 = .ok (.goto 4, 3) := by decide +kernel
theorem dX2_readFact_34 : decode cX2_readFact 34 = .ok (.iconst 0, 1) := by decide +kernel
theorem dX2_readFact_35 : decode cX2_readFact 35 = .ok (.istore_n 2, 1) := by decide +kernel
theorem dX2_readFact_36 : decode cX2_readFact 36 = .ok (.aload_n 0, 1) := by decide +kernel
theorem dX2_readFact_37 : decode cX2_readFact 37 = .ok (.getfield 15, 3) := by decide +kernel
theorem dX2_readFact_40 : decode cX2_readFact 40 = .ok (.bipush (-13), 2) := by decide +kernel
theorem dX2_readFact_42 : decode cX2_readFact 42 = .ok (.invokevirtual 150, 3) := by decide +kernel
theorem dX2_readFact_45 : decode cX2_readFact 45 = .ok (.iload_n 2, 1) := by decide +kernel
theorem dX2_readFact_46 : decode cX2_readFact 46 = .ok (.ireturn, 1) := by decide +kernel
theorem dX2_readFact_47 : decode cX2_readFact 47 = .ok (.aload_n 0, 1) := by decide +kernel
theorem dX2_readFact_48 : decode cX2_readFact 48 = .ok (.getfield 9, 3) := by decide +kernel
theorem dX2_readFact_51 : decode cX2_readFact 51 = .ok (.bipush 91, 2) := by decide +kernel
theorem dX2_readFact_53 : decode cX2_readFact 53 = .ok (.invokevirtual 162, 3) := by decide +kernel
theorem dX2_readFact_56 : decode cX2_readFact 56 = .ok (.ifCond .eq 39, 3) := by decide +kernel
theorem dX2_readFact_59 : decode cX2_readFact 59 = .ok (.aload_n 0, 1) := by decide +kernel
theorem dX2_readFact_60 : decode cX2_readFact 60 = .ok (.iload_n 1, 1) := by decide +kernel
theorem dX2_readFact_61 : decode cX2_readFact 61 = .ok (.invokevirtual 159, 3) := by decide +kernel
theorem dX2_readFact_64 : decode cX2_readFact 64 = .ok (.ifCond .eq 29, 3) := by decide +kernel
theorem dX2_readFact_67 : decode cX2_readFact 67 = .ok (.aload_n 0, 1) := by decide +kernel
theorem dX2_readFact_68 : decode cX2_readFact 68 = .ok (.iload_n 1, 1) := by decide +kernel
theorem dX2_readFact_69 : decode cX2_readFact 69 = .ok (.iconst 1, 1) := by decide +kernel
theorem dX2_readFact_70 : decode cX2_readFact 70 = .ok (.iadd, 1) := by decide +kernel
theorem dX2_readFact_71 : decode cX2_readFact 71 = .ok (.invokevirtual 73, 3) := by decide +kernel
theorem dX2_readFact_74 : decode cX2_readFact 74 = .ok (.ifCond .eq 19, 3) := by decide +kernel
theorem dX2_readFact_77 : decode cX2_readFact 77 = .ok (.aload_n 0, 1) := by decide +kernel
theorem dX2_readFact_78 : decode cX2_readFact 78 = .ok (.getfield 9, 3) := by decide +kernel
theorem dX2_readFact_81 : decode cX2_readFact 81 = .ok (.bipush 93, 2) := by decide +kernel
theorem dX2_readFact_83 : decode cX2_readFact 83 = .ok (.invokevirtual 96, 3) := by decide +kernel
theorem dX2_readFact_86 : decode cX2_readFact 86 = .ok (.ifCond .eq 7, 3) := by decide +kernel
theorem dX2_readFact_89 : decode cX2_readFact 89 = .ok (.iconst 1, 1) := by decide +kernel
theorem dX2_readFact_90 : decode cX2_readFact 90 = .ok (.goto 4, 3) := by decide +kernel
theorem dX2_readFact_93 : decode cX2_readFact 93 = .ok (.iconst 0, 1) := by decide +kernel
theorem dX2_readFact_94 : decode cX2_readFact 94 = .ok (.ireturn, 1) := by decide +kernel
theorem dX2_readFact_95 : decode cX2_readFact 95 = .ok (.aload_n 0, 1) := by decide +kernel
theorem dX2_readFact_96 : decode cX2_readFact 96 = .ok (.getfield 9, 3) := by decide +kernel
theorem dX2_readFact_99 : decode cX2_readFact 99 = .ok (.getfield 100, 3) := by decide +kernel
theorem dX2_readFact_102 : decode cX2_readFact 102 = .ok (.ldc 165, 2) := by decide +kernel
theorem dX2_readFact_104 : decode cX2_readFact 104 = .ok (.if_icmp .ne 20, 3) := by decide +kernel
theorem dX2_readFact_107 : decode cX2_readFact 107 = .ok (.aload_n 0, 1) := by decide +kernel
theorem dX2_readFact_108 : decode cX2_readFact 108 = .ok (.getfield 9, 3) := by decide +kernel
theorem dX2_readFact_111 : decode cX2_readFact 111 = .ok (.invokevirtual 70, 3) := by decide +kernel
theorem dX2_readFact_114 : decode cX2_readFact 114 = .ok (.aload_n 0, 1) := by decide +kernel
theorem dX2_readFact_115 : decode cX2_readFact 115 = .ok (.getfield 15, 3) := by decide +kernel
theorem dX2_readFact_118 : decode cX2_readFact 118 = .ok (.iconst 1, 1) := by decide +kernel
theorem dX2_readFact_119 : decode cX2_readFact 119 = .ok (.invokevirtual 150, 3) := by decide +kernel
theorem dX2_readFact_122 : decode cX2_readFact 122 = .ok (.iconst 1, 1) := by decide +kernel
theorem dX2_readFact_123 : decode cX2_readFact 123 = .ok (.ireturn, 1) := by decide +kernel
theorem dX2_readFact_124 : decode cX2_readFact 124 = .ok (.aload_n 0, 1) := by decide +kernel
theorem dX2_readFact_125 : decode cX2_readFact 125 = .ok (.iload_n 1, 1) := by decide +kernel
theorem dX2_readFact_126 : decode cX2_readFact 126 = .ok (.invokevirtual 166, 3) := by decide +kernel
theorem dX2_readFact_129 : decode cX2_readFact 129 = .ok (.ireturn, 1) := by decide +kernel
set_option maxRecDepth 20000 in
theorem bk_X2_readFact_0 {d : Nat} {w : hb_W} {Q : Option hb_V → hb_W → Prop} {x1 : Int32} (h : ((¬ (hb_fI w 3 2 0) = (116308 : Int32)) → hb_O yX7_isSign cX7_isSign 2 (some .boolean) d [hb_r 3 0 0, hb_i (91 : Int32)] w (fun rv w1 => hb_R yX2_readFact cX2_readFact 3 (some .boolean) (d + 1) 56 [some (hb_r 4 0 0), some (hb_i x1), none] (rv.toList ++ []) w1 Q)) ∧ (((hb_fI w 3 2 0) = (116308 : Int32)) → hb_O yX2_goIn cX2_goIn 2 (some .boolean) d [hb_r 4 0 0, hb_i x1] w (fun rv w1 => hb_R yX2_readFact cX2_readFact 3 (some .boolean) (d + 1) 17 [some (hb_r 4 0 0), some (hb_i x1), none] (rv.toList ++ []) w1 Q))) : hb_R yX2_readFact cX2_readFact 3 (some .boolean) (d + 1) 0 [some (hb_r 4 0 0), some (hb_i x1), none] [] w Q := by
  refine hb_aload_n (pc := 0) (i := 0) dX2_readFact_0 rfl rfl ?_
  refine hb_getR (pc := 1) (g1 := 0) dX2_readFact_1 fw_X2_9 cw_2 rfl (by decide) rfl (by decide) rfl ?_
  refine hb_getIx (pc := 4) (x := hb_fI w 3 2 0) dX2_readFact_4 fw_X2_100 cw_7 rfl (by decide) rfl rfl ?_
  refine hb_ldc (pc := 7) (v := 116308) dX2_readFact_7 kc_X2_158 ?_
  refine hb_icmp_ne (pc := 9) (tgt := 47) dX2_readFact_9 (by decide) (fun c1 => ?_) (fun c1 => ?_)
  · have ht1 := h.1 c1
    refine hb_aload_n (pc := 47) (i := 0) dX2_readFact_47 rfl rfl ?_
    refine hb_getR (pc := 48) (g1 := 0) dX2_readFact_48 fw_X2_9 cw_2 rfl (by decide) rfl (by decide) rfl ?_
    refine hb_bipush (pc := 51) (v := 91) dX2_readFact_51 (by decide) ?_
    exact hb_callV (pc := 53) (As := [hb_i (91 : Int32)]) (st := []) dX2_readFact_53 ml_X2_162 mf_X7_isSign mi_X7_isSign (ci := 7) rfl rfl (by decide) rfl rfl (Nat.le_of_ble_eq_true rfl) (Nat.le_of_ble_eq_true rfl) ht1 (fun _ _ q => q)
  · have ht1 := h.2 c1
    refine hb_aload_n (pc := 12) (i := 0) dX2_readFact_12 rfl rfl ?_
    refine hb_iload_n (pc := 13) (i := 1) dX2_readFact_13 rfl rfl ?_
    exact hb_callV (pc := 14) (As := [hb_i x1]) (st := []) dX2_readFact_14 ml_X2_159 mf_X2_goIn mi_X2_goIn (ci := 2) rfl rfl (by decide) rfl rfl (Nat.le_of_ble_eq_true rfl) (Nat.le_of_ble_eq_true rfl) ht1 (fun _ _ q => q)
set_option maxRecDepth 20000 in
theorem bk_X2_readFact_17 {d : Nat} {w : hb_W} {Q : Option hb_V → hb_W → Prop} {x1 : Int32} {xs0 : Int32} (h : ((xs0 = 0) → (hb_fR w 4 1 0) < hb_ct 2 ∧ (hb_O yX1_put cX1_put 2 none d [hb_r 2 (hb_fR w 4 1 0) 0, hb_i (-13 : Int32)] w (fun rv w1 => hb_R yX2_readFact cX2_readFact 3 (some .boolean) (d + 1) 45 [some (hb_r 4 0 0), some (hb_i x1), some (hb_i (0 : Int32))] (rv.toList ++ []) w1 Q))) ∧ ((¬ xs0 = 0) → hb_O yX2_readFact cX2_readFact 3 (some .boolean) d [hb_r 4 0 0, hb_i (x1 + (1 : Int32))] w (fun rv w1 => hb_R yX2_readFact cX2_readFact 3 (some .boolean) (d + 1) 27 [some (hb_r 4 0 0), some (hb_i x1), none] (rv.toList ++ []) w1 Q))) : hb_R yX2_readFact cX2_readFact 3 (some .boolean) (d + 1) 17 [some (hb_r 4 0 0), some (hb_i x1), none] [hb_i xs0] w Q := by
  refine hb_if_eq (pc := 17) (tgt := 34) dX2_readFact_17 (by decide) (fun c1 => ?_) (fun c1 => ?_)
  · have ht1 := h.1 c1
    refine hb_iconst (pc := 34) (v := 0) dX2_readFact_34 (by decide) ?_
    refine hb_istore_n (pc := 35) (i := 2) (ls1 := [some (hb_r 4 0 0), some (hb_i x1), some (hb_i (0 : Int32))]) dX2_readFact_35 rfl (by decide) rfl ?_
    refine hb_aload_n (pc := 36) (i := 0) dX2_readFact_36 rfl rfl ?_
    refine hb_getR (pc := 37) (g1 := hb_fR w 4 1 0) dX2_readFact_37 fw_X2_15 cw_2 rfl (by decide) rfl (by decide) rfl ?_
    refine hb_bipush (pc := 40) (v := -13) dX2_readFact_40 (by decide) ?_
    obtain ⟨ho2, hr2⟩ := ht1
    exact hb_callV (pc := 42) (As := [hb_i (-13 : Int32)]) (st := []) dX2_readFact_42 ml_X2_150 mf_X1_put mi_X1_put (ci := 1) rfl rfl ho2 rfl rfl (Nat.le_of_ble_eq_true rfl) (Nat.le_of_ble_eq_true rfl) hr2 (fun _ _ q => q)
  · have ht1 := h.2 c1
    refine hb_aload_n (pc := 20) (i := 0) dX2_readFact_20 rfl rfl ?_
    refine hb_iload_n (pc := 21) (i := 1) dX2_readFact_21 rfl rfl ?_
    refine hb_iconst (pc := 22) (v := 1) dX2_readFact_22 (by decide) ?_
    refine hb_iadd (pc := 23) dX2_readFact_23 ?_
    exact hb_callV (pc := 24) (As := [hb_i (x1 + (1 : Int32))]) (st := []) dX2_readFact_24 ml_X2_154 mf_X2_readFact mi_X2_readFact (ci := 2) rfl rfl (by decide) rfl rfl (Nat.le_of_ble_eq_true rfl) (Nat.le_of_ble_eq_true rfl) ht1 (fun _ _ q => q)
set_option maxRecDepth 20000 in
theorem bk_X2_readFact_27 {d : Nat} {w : hb_W} {Q : Option hb_V → hb_W → Prop} {x1 : Int32} {xs0 : Int32} (h : ((xs0 = 0) → (hb_fR w 4 1 0) < hb_ct 2 ∧ (hb_O yX1_put cX1_put 2 none d [hb_r 2 (hb_fR w 4 1 0) 0, hb_i (-13 : Int32)] w (fun rv w1 => hb_R yX2_readFact cX2_readFact 3 (some .boolean) (d + 1) 45 [some (hb_r 4 0 0), some (hb_i x1), some (hb_i (0 : Int32))] (rv.toList ++ []) w1 Q))) ∧ ((¬ xs0 = 0) → (hb_fR w 4 1 0) < hb_ct 2 ∧ (hb_O yX1_put cX1_put 2 none d [hb_r 2 (hb_fR w 4 1 0) 0, hb_i (-13 : Int32)] w (fun rv w1 => hb_R yX2_readFact cX2_readFact 3 (some .boolean) (d + 1) 45 [some (hb_r 4 0 0), some (hb_i x1), some (hb_i (1 : Int32))] (rv.toList ++ []) w1 Q)))) : hb_R yX2_readFact cX2_readFact 3 (some .boolean) (d + 1) 27 [some (hb_r 4 0 0), some (hb_i x1), none] [hb_i xs0] w Q := by
  refine hb_if_eq (pc := 27) (tgt := 34) dX2_readFact_27 (by decide) (fun c1 => ?_) (fun c1 => ?_)
  · have ht1 := h.1 c1
    refine hb_iconst (pc := 34) (v := 0) dX2_readFact_34 (by decide) ?_
    refine hb_istore_n (pc := 35) (i := 2) (ls1 := [some (hb_r 4 0 0), some (hb_i x1), some (hb_i (0 : Int32))]) dX2_readFact_35 rfl (by decide) rfl ?_
    refine hb_aload_n (pc := 36) (i := 0) dX2_readFact_36 rfl rfl ?_
    refine hb_getR (pc := 37) (g1 := hb_fR w 4 1 0) dX2_readFact_37 fw_X2_15 cw_2 rfl (by decide) rfl (by decide) rfl ?_
    refine hb_bipush (pc := 40) (v := -13) dX2_readFact_40 (by decide) ?_
    obtain ⟨ho2, hr2⟩ := ht1
    exact hb_callV (pc := 42) (As := [hb_i (-13 : Int32)]) (st := []) dX2_readFact_42 ml_X2_150 mf_X1_put mi_X1_put (ci := 1) rfl rfl ho2 rfl rfl (Nat.le_of_ble_eq_true rfl) (Nat.le_of_ble_eq_true rfl) hr2 (fun _ _ q => q)
  · have ht1 := h.2 c1
    refine hb_iconst (pc := 30) (v := 1) dX2_readFact_30 (by decide) ?_
    refine hb_goto (pc := 31) (tgt := 35) dX2_readFact_31 (by decide) ?_
    refine hb_istore_n (pc := 35) (i := 2) (ls1 := [some (hb_r 4 0 0), some (hb_i x1), some (hb_i (1 : Int32))]) dX2_readFact_35 rfl (by decide) rfl ?_
    refine hb_aload_n (pc := 36) (i := 0) dX2_readFact_36 rfl rfl ?_
    refine hb_getR (pc := 37) (g1 := hb_fR w 4 1 0) dX2_readFact_37 fw_X2_15 cw_2 rfl (by decide) rfl (by decide) rfl ?_
    refine hb_bipush (pc := 40) (v := -13) dX2_readFact_40 (by decide) ?_
    obtain ⟨ho3, hr3⟩ := ht1
    exact hb_callV (pc := 42) (As := [hb_i (-13 : Int32)]) (st := []) dX2_readFact_42 ml_X2_150 mf_X1_put mi_X1_put (ci := 1) rfl rfl ho3 rfl rfl (Nat.le_of_ble_eq_true rfl) (Nat.le_of_ble_eq_true rfl) hr3 (fun _ _ q => q)
set_option maxRecDepth 20000 in
theorem bk_X2_readFact_45 {d : Nat} {w : hb_W} {Q : Option hb_V → hb_W → Prop} {x1 : Int32} {x2 : Int32} (h : (x2 = 0 ∨ x2 = 1) ∧ Q (some (hb_i x2)) w) : hb_R yX2_readFact cX2_readFact 3 (some .boolean) (d + 1) 45 [some (hb_r 4 0 0), some (hb_i x1), some (hb_i x2)] [] w Q := by
  refine hb_iload_n (pc := 45) (i := 2) dX2_readFact_45 rfl rfl ?_
  exact hb_zret (pc := 46) dX2_readFact_46 rfl h.1 h.2
set_option maxRecDepth 20000 in
theorem bk_X2_readFact_56 {d : Nat} {w : hb_W} {Q : Option hb_V → hb_W → Prop} {x1 : Int32} {xs0 : Int32} (h : ((xs0 = 0) → ((¬ (hb_fI w 3 2 0) = (102892 : Int32)) → hb_O yX2_readComparison cX2_readComparison 4 (some .boolean) d [hb_r 4 0 0, hb_i x1] w (fun rv w1 => hb_R yX2_readFact cX2_readFact 3 (some .boolean) (d + 1) 129 [some (hb_r 4 0 0), some (hb_i x1), none] (rv.toList ++ []) w1 Q)) ∧ (((hb_fI w 3 2 0) = (102892 : Int32)) → hb_O yX7_step cX7_step 4 none d [hb_r 3 0 0] w (fun rv w1 => hb_R yX2_readFact cX2_readFact 3 (some .boolean) (d + 1) 114 [some (hb_r 4 0 0), some (hb_i x1), none] (rv.toList ++ []) w1 Q))) ∧ ((¬ xs0 = 0) → hb_O yX2_goIn cX2_goIn 2 (some .boolean) d [hb_r 4 0 0, hb_i x1] w (fun rv w1 => hb_R yX2_readFact cX2_readFact 3 (some .boolean) (d + 1) 64 [some (hb_r 4 0 0), some (hb_i x1), none] (rv.toList ++ []) w1 Q))) : hb_R yX2_readFact cX2_readFact 3 (some .boolean) (d + 1) 56 [some (hb_r 4 0 0), some (hb_i x1), none] [hb_i xs0] w Q := by
  refine hb_if_eq (pc := 56) (tgt := 95) dX2_readFact_56 (by decide) (fun c1 => ?_) (fun c1 => ?_)
  · have ht1 := h.1 c1
    refine hb_aload_n (pc := 95) (i := 0) dX2_readFact_95 rfl rfl ?_
    refine hb_getR (pc := 96) (g1 := 0) dX2_readFact_96 fw_X2_9 cw_2 rfl (by decide) rfl (by decide) rfl ?_
    refine hb_getIx (pc := 99) (x := hb_fI w 3 2 0) dX2_readFact_99 fw_X2_100 cw_7 rfl (by decide) rfl rfl ?_
    refine hb_ldc (pc := 102) (v := 102892) dX2_readFact_102 kc_X2_165 ?_
    refine hb_icmp_ne (pc := 104) (tgt := 124) dX2_readFact_104 (by decide) (fun c2 => ?_) (fun c2 => ?_)
    · have ht2 := ht1.1 c2
      refine hb_aload_n (pc := 124) (i := 0) dX2_readFact_124 rfl rfl ?_
      refine hb_iload_n (pc := 125) (i := 1) dX2_readFact_125 rfl rfl ?_
      exact hb_callV (pc := 126) (As := [hb_i x1]) (st := []) dX2_readFact_126 ml_X2_166 mf_X2_readComparison mi_X2_readComparison (ci := 2) rfl rfl (by decide) rfl rfl (Nat.le_of_ble_eq_true rfl) (Nat.le_of_ble_eq_true rfl) ht2 (fun _ _ q => q)
    · have ht2 := ht1.2 c2
      refine hb_aload_n (pc := 107) (i := 0) dX2_readFact_107 rfl rfl ?_
      refine hb_getR (pc := 108) (g1 := 0) dX2_readFact_108 fw_X2_9 cw_2 rfl (by decide) rfl (by decide) rfl ?_
      exact hb_callV (pc := 111) (As := []) (st := []) dX2_readFact_111 ml_X2_70 mf_X7_step mi_X7_step (ci := 7) rfl rfl (by decide) rfl rfl (Nat.le_of_ble_eq_true rfl) (Nat.le_of_ble_eq_true rfl) ht2 (fun _ _ q => q)
  · have ht1 := h.2 c1
    refine hb_aload_n (pc := 59) (i := 0) dX2_readFact_59 rfl rfl ?_
    refine hb_iload_n (pc := 60) (i := 1) dX2_readFact_60 rfl rfl ?_
    exact hb_callV (pc := 61) (As := [hb_i x1]) (st := []) dX2_readFact_61 ml_X2_159 mf_X2_goIn mi_X2_goIn (ci := 2) rfl rfl (by decide) rfl rfl (Nat.le_of_ble_eq_true rfl) (Nat.le_of_ble_eq_true rfl) ht1 (fun _ _ q => q)
set_option maxRecDepth 20000 in
theorem bk_X2_readFact_64 {d : Nat} {w : hb_W} {Q : Option hb_V → hb_W → Prop} {x1 : Int32} {xs0 : Int32} (h : ((xs0 = 0) → Q (some (hb_i (0 : Int32))) w) ∧ ((¬ xs0 = 0) → hb_O yX2_readTest cX2_readTest 4 (some .boolean) d [hb_r 4 0 0, hb_i (x1 + (1 : Int32))] w (fun rv w1 => hb_R yX2_readFact cX2_readFact 3 (some .boolean) (d + 1) 74 [some (hb_r 4 0 0), some (hb_i x1), none] (rv.toList ++ []) w1 Q))) : hb_R yX2_readFact cX2_readFact 3 (some .boolean) (d + 1) 64 [some (hb_r 4 0 0), some (hb_i x1), none] [hb_i xs0] w Q := by
  refine hb_if_eq (pc := 64) (tgt := 93) dX2_readFact_64 (by decide) (fun c1 => ?_) (fun c1 => ?_)
  · have ht1 := h.1 c1
    refine hb_iconst (pc := 93) (v := 0) dX2_readFact_93 (by decide) ?_
    exact hb_zret (pc := 94) dX2_readFact_94 rfl (Or.inl rfl) ht1
  · have ht1 := h.2 c1
    refine hb_aload_n (pc := 67) (i := 0) dX2_readFact_67 rfl rfl ?_
    refine hb_iload_n (pc := 68) (i := 1) dX2_readFact_68 rfl rfl ?_
    refine hb_iconst (pc := 69) (v := 1) dX2_readFact_69 (by decide) ?_
    refine hb_iadd (pc := 70) dX2_readFact_70 ?_
    exact hb_callV (pc := 71) (As := [hb_i (x1 + (1 : Int32))]) (st := []) dX2_readFact_71 ml_X2_73 mf_X2_readTest mi_X2_readTest (ci := 2) rfl rfl (by decide) rfl rfl (Nat.le_of_ble_eq_true rfl) (Nat.le_of_ble_eq_true rfl) ht1 (fun _ _ q => q)
set_option maxRecDepth 20000 in
theorem bk_X2_readFact_74 {d : Nat} {w : hb_W} {Q : Option hb_V → hb_W → Prop} {x1 : Int32} {xs0 : Int32} (h : ((xs0 = 0) → Q (some (hb_i (0 : Int32))) w) ∧ ((¬ xs0 = 0) → hb_O yX7_takeSign cX7_takeSign 2 (some .boolean) d [hb_r 3 0 0, hb_i (93 : Int32)] w (fun rv w1 => hb_R yX2_readFact cX2_readFact 3 (some .boolean) (d + 1) 86 [some (hb_r 4 0 0), some (hb_i x1), none] (rv.toList ++ []) w1 Q))) : hb_R yX2_readFact cX2_readFact 3 (some .boolean) (d + 1) 74 [some (hb_r 4 0 0), some (hb_i x1), none] [hb_i xs0] w Q := by
  refine hb_if_eq (pc := 74) (tgt := 93) dX2_readFact_74 (by decide) (fun c1 => ?_) (fun c1 => ?_)
  · have ht1 := h.1 c1
    refine hb_iconst (pc := 93) (v := 0) dX2_readFact_93 (by decide) ?_
    exact hb_zret (pc := 94) dX2_readFact_94 rfl (Or.inl rfl) ht1
  · have ht1 := h.2 c1
    refine hb_aload_n (pc := 77) (i := 0) dX2_readFact_77 rfl rfl ?_
    refine hb_getR (pc := 78) (g1 := 0) dX2_readFact_78 fw_X2_9 cw_2 rfl (by decide) rfl (by decide) rfl ?_
    refine hb_bipush (pc := 81) (v := 93) dX2_readFact_81 (by decide) ?_
    exact hb_callV (pc := 83) (As := [hb_i (93 : Int32)]) (st := []) dX2_readFact_83 ml_X2_96 mf_X7_takeSign mi_X7_takeSign (ci := 7) rfl rfl (by decide) rfl rfl (Nat.le_of_ble_eq_true rfl) (Nat.le_of_ble_eq_true rfl) ht1 (fun _ _ q => q)
set_option maxRecDepth 20000 in
theorem bk_X2_readFact_86 {d : Nat} {w : hb_W} {Q : Option hb_V → hb_W → Prop} {x1 : Int32} {xs0 : Int32} (h : ((xs0 = 0) → Q (some (hb_i (0 : Int32))) w) ∧ ((¬ xs0 = 0) → Q (some (hb_i (1 : Int32))) w)) : hb_R yX2_readFact cX2_readFact 3 (some .boolean) (d + 1) 86 [some (hb_r 4 0 0), some (hb_i x1), none] [hb_i xs0] w Q := by
  refine hb_if_eq (pc := 86) (tgt := 93) dX2_readFact_86 (by decide) (fun c1 => ?_) (fun c1 => ?_)
  · have ht1 := h.1 c1
    refine hb_iconst (pc := 93) (v := 0) dX2_readFact_93 (by decide) ?_
    exact hb_zret (pc := 94) dX2_readFact_94 rfl (Or.inl rfl) ht1
  · have ht1 := h.2 c1
    refine hb_iconst (pc := 89) (v := 1) dX2_readFact_89 (by decide) ?_
    refine hb_goto (pc := 90) (tgt := 94) dX2_readFact_90 (by decide) ?_
    exact hb_zret (pc := 94) dX2_readFact_94 rfl (Or.inr rfl) ht1
set_option maxRecDepth 20000 in
theorem bk_X2_readFact_114 {d : Nat} {w : hb_W} {Q : Option hb_V → hb_W → Prop} {x1 : Int32} (h : (hb_fR w 4 1 0) < hb_ct 2 ∧ (hb_O yX1_put cX1_put 2 none d [hb_r 2 (hb_fR w 4 1 0) 0, hb_i (1 : Int32)] w (fun rv w1 => hb_R yX2_readFact cX2_readFact 3 (some .boolean) (d + 1) 122 [some (hb_r 4 0 0), some (hb_i x1), none] (rv.toList ++ []) w1 Q))) : hb_R yX2_readFact cX2_readFact 3 (some .boolean) (d + 1) 114 [some (hb_r 4 0 0), some (hb_i x1), none] [] w Q := by
  refine hb_aload_n (pc := 114) (i := 0) dX2_readFact_114 rfl rfl ?_
  refine hb_getR (pc := 115) (g1 := hb_fR w 4 1 0) dX2_readFact_115 fw_X2_15 cw_2 rfl (by decide) rfl (by decide) rfl ?_
  refine hb_iconst (pc := 118) (v := 1) dX2_readFact_118 (by decide) ?_
  obtain ⟨ho1, hr1⟩ := h
  exact hb_callV (pc := 119) (As := [hb_i (1 : Int32)]) (st := []) dX2_readFact_119 ml_X2_150 mf_X1_put mi_X1_put (ci := 1) rfl rfl ho1 rfl rfl (Nat.le_of_ble_eq_true rfl) (Nat.le_of_ble_eq_true rfl) hr1 (fun _ _ q => q)
set_option maxRecDepth 20000 in
theorem bk_X2_readFact_122 {d : Nat} {w : hb_W} {Q : Option hb_V → hb_W → Prop} {x1 : Int32} (h : Q (some (hb_i (1 : Int32))) w) : hb_R yX2_readFact cX2_readFact 3 (some .boolean) (d + 1) 122 [some (hb_r 4 0 0), some (hb_i x1), none] [] w Q := by
  refine hb_iconst (pc := 122) (v := 1) dX2_readFact_122 (by decide) ?_
  exact hb_zret (pc := 123) dX2_readFact_123 rfl (Or.inr rfl) h
set_option maxRecDepth 20000 in
theorem bk_X2_readFact_129 {d : Nat} {w : hb_W} {Q : Option hb_V → hb_W → Prop} {x1 : Int32} {xs0 : Int32} (h : (xs0 = 0 ∨ xs0 = 1) ∧ Q (some (hb_i xs0)) w) : hb_R yX2_readFact cX2_readFact 3 (some .boolean) (d + 1) 129 [some (hb_r 4 0 0), some (hb_i x1), none] [hb_i xs0] w Q := by
  exact hb_zret (pc := 129) dX2_readFact_129 rfl h.1 h.2
theorem dX2_readComparison_0 : decode cX2_readComparison 0 = .ok (.aload_n 0, 1) := by decide +kernel
theorem dX2_readComparison_1 : decode cX2_readComparison 1 = .ok (.iload_n 1, 1) := by decide +kernel
theorem dX2_readComparison_2 : decode cX2_readComparison 2 = .ok (.invokevirtual 77, 3) := by decide +kernel
theorem dX2_readComparison_5 : decode cX2_readComparison 5 = .ok (.ifCond .ne 5, 3) := by decide +kernel
theorem dX2_readComparison_8 : decode cX2_readComparison 8 = .ok (.iconst 0, 1) := by decide +kernel
theorem dX2_readComparison_9 : decode cX2_readComparison 9 = .ok (.ireturn, 1) := by decide +kernel
theorem dX2_readComparison_10 : decode cX2_readComparison 10 = .ok (.aload_n 0, 1) := by decide +kernel
theorem dX2_readComparison_11 : decode cX2_readComparison 11 = .ok (.getfield 9, 3) := by decide +kernel
theorem dX2_readComparison_14 : decode cX2_readComparison 14 = .ok (.bipush 60, 2) := by decide +kernel
theorem dX2_readComparison_16 : decode cX2_readComparison 16 = .ok (.invokevirtual 162, 3) := by decide +kernel
theorem dX2_readComparison_19 : decode cX2_readComparison 19 = .ok (.ifCond .eq 8, 3) := by decide +kernel
theorem dX2_readComparison_22 : decode cX2_readComparison 22 = .ok (.bipush (-27), 2) := by decide +kernel
theorem dX2_readComparison_24 : decode cX2_readComparison 24 = .ok (.goto 22, 3) := by decide +kernel
theorem dX2_readComparison_27 : decode cX2_readComparison 27 = .ok (.aload_n 0, 1) := by decide +kernel
theorem dX2_readComparison_28 : decode cX2_readComparison 28 = .ok (.getfield 9, 3) := by decide +kernel
theorem dX2_readComparison_31 : decode cX2_readComparison 31 = .ok (.bipush 62, 2) := by decide +kernel
theorem dX2_readComparison_33 : decode cX2_readComparison 33 = .ok (.invokevirtual 162, 3) := by decide +kernel
theorem dX2_readComparison_36 : decode cX2_readComparison 36 = .ok (.ifCond .eq 8, 3) := by decide +kernel
theorem dX2_readComparison_39 : decode cX2_readComparison 39 = .ok (.bipush (-28), 2) := by decide +kernel
theorem dX2_readComparison_41 : decode cX2_readComparison 41 = .ok (.goto 5, 3) := by decide +kernel
theorem dX2_readComparison_44 : decode cX2_readComparison 44 = .ok (.bipush (-29), 2) := by decide +kernel
theorem dX2_readComparison_46 : decode cX2_readComparison 46 = .ok (.istore_n 2, 1) := by decide +kernel
theorem dX2_readComparison_47 : decode cX2_readComparison 47 = .ok (.iload_n 2, 1) := by decide +kernel
theorem dX2_readComparison_48 : decode cX2_readComparison 48 = .ok (.bipush (-29), 2) := by decide +kernel
theorem dX2_readComparison_50 : decode cX2_readComparison 50 = .ok (.if_icmp .ne 31, 3) := by decide +kernel
theorem dX2_readComparison_53 : decode cX2_readComparison 53 = .ok (.aload_n 0, 1) := by decide +kernel
theorem dX2_readComparison_54 : decode cX2_readComparison 54 = .ok (.getfield 9, 3) := by decide +kernel
theorem dX2_readComparison_57 : decode cX2_readComparison 57 = .ok (.bipush 61, 2) := by decide +kernel
theorem dX2_readComparison_59 : decode cX2_readComparison 59 = .ok (.invokevirtual 162, 3) := by decide +kernel
theorem dX2_readComparison_62 : decode cX2_readComparison 62 = .ok (.ifCond .ne 19, 3) := by decide +kernel
theorem dX2_readComparison_65 : decode cX2_readComparison 65 = .ok (.aload_n 0, 1) := by decide +kernel
theorem dX2_readComparison_66 : decode cX2_readComparison 66 = .ok (.getfield 9, 3) := by decide +kernel
theorem dX2_readComparison_69 : decode cX2_readComparison 69 = .ok (.iconst 1, 1) := by decide +kernel
theorem dX2_readComparison_70 : decode cX2_readComparison 70 = .ok (.aload_n 0, 1) := by decide +kernel
theorem dX2_readComparison_71 : decode cX2_readComparison 71 = .ok (.getfield 9, 3) := by decide +kernel
theorem dX2_readComparison_74 : decode cX2_readComparison 74 = .ok (.getfield 47, 3) := by decide +kernel
theorem dX2_readComparison_77 : decode cX2_readComparison 77 = .ok (.invokevirtual 50, 3) := by decide +kernel
theorem dX2_readComparison_80 : decode cX2_readComparison 80 = .ok (.ireturn, 1) := by decide +kernel
theorem dX2_readComparison_81 : decode cX2_readComparison 81 = .ok (.aload_n 0, 1) := by decide +kernel
theorem dX2_readComparison_82 : decode cX2_readComparison 82 = .ok (.getfield 9, 3) := by decide +kernel
theorem dX2_readComparison_85 : decode cX2_readComparison 85 = .ok (.invokevirtual 70, 3) := by decide +kernel
theorem dX2_readComparison_88 : decode cX2_readComparison 88 = .ok (.aload_n 0, 1) := by decide +kernel
theorem dX2_readComparison_89 : decode cX2_readComparison 89 = .ok (.iload_n 1, 1) := by decide +kernel
theorem dX2_readComparison_90 : decode cX2_readComparison 90 = .ok (.invokevirtual 77, 3) := by decide +kernel
theorem dX2_readComparison_93 : decode cX2_readComparison 93 = .ok (.istore_n 3, 1) := by decide +kernel
theorem dX2_readComparison_94 : decode cX2_readComparison 94 = .ok (.aload_n 0, 1) := by decide +kernel
theorem dX2_readComparison_95 : decode cX2_readComparison 95 = .ok (.getfield 15, 3) := by decide +kernel
theorem dX2_readComparison_98 : decode cX2_readComparison 98 = .ok (.iload_n 2, 1) := by decide +kernel
theorem dX2_readComparison_99 : decode cX2_readComparison 99 = .ok (.invokevirtual 150, 3) := by decide +kernel
theorem dX2_readComparison_102 : decode cX2_readComparison 102 = .ok (.iload_n 3, 1) := by decide +kernel
theorem dX2_readComparison_103 : decode cX2_readComparison 103 = .ok (.ireturn, 1) := by decide +kernel
set_option maxRecDepth 20000 in
theorem bk_X2_readComparison_0 {d : Nat} {w : hb_W} {Q : Option hb_V → hb_W → Prop} {x1 : Int32} (h : hb_O yX2_readSum cX2_readSum 5 (some .boolean) d [hb_r 4 0 0, hb_i x1] w (fun rv w1 => hb_R yX2_readComparison cX2_readComparison 4 (some .boolean) (d + 1) 5 [some (hb_r 4 0 0), some (hb_i x1), none, none] (rv.toList ++ []) w1 Q)) : hb_R yX2_readComparison cX2_readComparison 4 (some .boolean) (d + 1) 0 [some (hb_r 4 0 0), some (hb_i x1), none, none] [] w Q := by
  refine hb_aload_n (pc := 0) (i := 0) dX2_readComparison_0 rfl rfl ?_
  refine hb_iload_n (pc := 1) (i := 1) dX2_readComparison_1 rfl rfl ?_
  exact hb_callV (pc := 2) (As := [hb_i x1]) (st := []) dX2_readComparison_2 ml_X2_77 mf_X2_readSum mi_X2_readSum (ci := 2) rfl rfl (by decide) rfl rfl (Nat.le_of_ble_eq_true rfl) (Nat.le_of_ble_eq_true rfl) h (fun _ _ q => q)
set_option maxRecDepth 20000 in
theorem bk_X2_readComparison_5 {d : Nat} {w : hb_W} {Q : Option hb_V → hb_W → Prop} {x1 : Int32} {xs0 : Int32} (h : ((¬ xs0 = 0) → hb_O yX7_isSign cX7_isSign 2 (some .boolean) d [hb_r 3 0 0, hb_i (60 : Int32)] w (fun rv w1 => hb_R yX2_readComparison cX2_readComparison 4 (some .boolean) (d + 1) 19 [some (hb_r 4 0 0), some (hb_i x1), none, none] (rv.toList ++ []) w1 Q)) ∧ ((xs0 = 0) → Q (some (hb_i (0 : Int32))) w)) : hb_R yX2_readComparison cX2_readComparison 4 (some .boolean) (d + 1) 5 [some (hb_r 4 0 0), some (hb_i x1), none, none] [hb_i xs0] w Q := by
  refine hb_if_ne (pc := 5) (tgt := 10) dX2_readComparison_5 (by decide) (fun c1 => ?_) (fun c1 => ?_)
  · have ht1 := h.1 c1
    refine hb_aload_n (pc := 10) (i := 0) dX2_readComparison_10 rfl rfl ?_
    refine hb_getR (pc := 11) (g1 := 0) dX2_readComparison_11 fw_X2_9 cw_2 rfl (by decide) rfl (by decide) rfl ?_
    refine hb_bipush (pc := 14) (v := 60) dX2_readComparison_14 (by decide) ?_
    exact hb_callV (pc := 16) (As := [hb_i (60 : Int32)]) (st := []) dX2_readComparison_16 ml_X2_162 mf_X7_isSign mi_X7_isSign (ci := 7) rfl rfl (by decide) rfl rfl (Nat.le_of_ble_eq_true rfl) (Nat.le_of_ble_eq_true rfl) ht1 (fun _ _ q => q)
  · have ht1 := h.2 c1
    refine hb_iconst (pc := 8) (v := 0) dX2_readComparison_8 (by decide) ?_
    exact hb_zret (pc := 9) dX2_readComparison_9 rfl (Or.inl rfl) ht1
set_option maxRecDepth 20000 in
theorem bk_X2_readComparison_19 {d : Nat} {w : hb_W} {Q : Option hb_V → hb_W → Prop} {x1 : Int32} {xs0 : Int32} (h : ((xs0 = 0) → hb_O yX7_isSign cX7_isSign 2 (some .boolean) d [hb_r 3 0 0, hb_i (62 : Int32)] w (fun rv w1 => hb_R yX2_readComparison cX2_readComparison 4 (some .boolean) (d + 1) 36 [some (hb_r 4 0 0), some (hb_i x1), none, none] (rv.toList ++ []) w1 Q)) ∧ ((¬ xs0 = 0) → ((¬ (-27 : Int32) = (-29 : Int32)) → hb_O yX7_step cX7_step 4 none d [hb_r 3 0 0] w (fun rv w1 => hb_R yX2_readComparison cX2_readComparison 4 (some .boolean) (d + 1) 88 [some (hb_r 4 0 0), some (hb_i x1), some (hb_i (-27 : Int32)), none] (rv.toList ++ []) w1 Q)) ∧ (((-27 : Int32) = (-29 : Int32)) → hb_O yX7_isSign cX7_isSign 2 (some .boolean) d [hb_r 3 0 0, hb_i (61 : Int32)] w (fun rv w1 => hb_R yX2_readComparison cX2_readComparison 4 (some .boolean) (d + 1) 62 [some (hb_r 4 0 0), some (hb_i x1), some (hb_i (-27 : Int32)), none] (rv.toList ++ []) w1 Q)))) : hb_R yX2_readComparison cX2_readComparison 4 (some .boolean) (d + 1) 19 [some (hb_r 4 0 0), some (hb_i x1), none, none] [hb_i xs0] w Q := by
  refine hb_if_eq (pc := 19) (tgt := 27) dX2_readComparison_19 (by decide) (fun c1 => ?_) (fun c1 => ?_)
  · have ht1 := h.1 c1
    refine hb_aload_n (pc := 27) (i := 0) dX2_readComparison_27 rfl rfl ?_
    refine hb_getR (pc := 28) (g1 := 0) dX2_readComparison_28 fw_X2_9 cw_2 rfl (by decide) rfl (by decide) rfl ?_
    refine hb_bipush (pc := 31) (v := 62) dX2_readComparison_31 (by decide) ?_
    exact hb_callV (pc := 33) (As := [hb_i (62 : Int32)]) (st := []) dX2_readComparison_33 ml_X2_162 mf_X7_isSign mi_X7_isSign (ci := 7) rfl rfl (by decide) rfl rfl (Nat.le_of_ble_eq_true rfl) (Nat.le_of_ble_eq_true rfl) ht1 (fun _ _ q => q)
  · have ht1 := h.2 c1
    refine hb_bipush (pc := 22) (v := -27) dX2_readComparison_22 (by decide) ?_
    refine hb_goto (pc := 24) (tgt := 46) dX2_readComparison_24 (by decide) ?_
    refine hb_istore_n (pc := 46) (i := 2) (ls1 := [some (hb_r 4 0 0), some (hb_i x1), some (hb_i (-27 : Int32)), none]) dX2_readComparison_46 rfl (by decide) rfl ?_
    refine hb_iload_n (pc := 47) (i := 2) dX2_readComparison_47 rfl rfl ?_
    refine hb_bipush (pc := 48) (v := -29) dX2_readComparison_48 (by decide) ?_
    refine hb_icmp_ne (pc := 50) (tgt := 81) dX2_readComparison_50 (by decide) (fun c2 => ?_) (fun c2 => ?_)
    · have ht2 := ht1.1 c2
      refine hb_aload_n (pc := 81) (i := 0) dX2_readComparison_81 rfl rfl ?_
      refine hb_getR (pc := 82) (g1 := 0) dX2_readComparison_82 fw_X2_9 cw_2 rfl (by decide) rfl (by decide) rfl ?_
      exact hb_callV (pc := 85) (As := []) (st := []) dX2_readComparison_85 ml_X2_70 mf_X7_step mi_X7_step (ci := 7) rfl rfl (by decide) rfl rfl (Nat.le_of_ble_eq_true rfl) (Nat.le_of_ble_eq_true rfl) ht2 (fun _ _ q => q)
    · have ht2 := ht1.2 c2
      refine hb_aload_n (pc := 53) (i := 0) dX2_readComparison_53 rfl rfl ?_
      refine hb_getR (pc := 54) (g1 := 0) dX2_readComparison_54 fw_X2_9 cw_2 rfl (by decide) rfl (by decide) rfl ?_
      refine hb_bipush (pc := 57) (v := 61) dX2_readComparison_57 (by decide) ?_
      exact hb_callV (pc := 59) (As := [hb_i (61 : Int32)]) (st := []) dX2_readComparison_59 ml_X2_162 mf_X7_isSign mi_X7_isSign (ci := 7) rfl rfl (by decide) rfl rfl (Nat.le_of_ble_eq_true rfl) (Nat.le_of_ble_eq_true rfl) ht2 (fun _ _ q => q)
set_option maxRecDepth 20000 in
theorem bk_X2_readComparison_36 {d : Nat} {w : hb_W} {Q : Option hb_V → hb_W → Prop} {x1 : Int32} {xs0 : Int32} (h : ((xs0 = 0) → ((¬ (-29 : Int32) = (-29 : Int32)) → hb_O yX7_step cX7_step 4 none d [hb_r 3 0 0] w (fun rv w1 => hb_R yX2_readComparison cX2_readComparison 4 (some .boolean) (d + 1) 88 [some (hb_r 4 0 0), some (hb_i x1), some (hb_i (-29 : Int32)), none] (rv.toList ++ []) w1 Q)) ∧ (((-29 : Int32) = (-29 : Int32)) → hb_O yX7_isSign cX7_isSign 2 (some .boolean) d [hb_r 3 0 0, hb_i (61 : Int32)] w (fun rv w1 => hb_R yX2_readComparison cX2_readComparison 4 (some .boolean) (d + 1) 62 [some (hb_r 4 0 0), some (hb_i x1), some (hb_i (-29 : Int32)), none] (rv.toList ++ []) w1 Q))) ∧ ((¬ xs0 = 0) → ((¬ (-28 : Int32) = (-29 : Int32)) → hb_O yX7_step cX7_step 4 none d [hb_r 3 0 0] w (fun rv w1 => hb_R yX2_readComparison cX2_readComparison 4 (some .boolean) (d + 1) 88 [some (hb_r 4 0 0), some (hb_i x1), some (hb_i (-28 : Int32)), none] (rv.toList ++ []) w1 Q)) ∧ (((-28 : Int32) = (-29 : Int32)) → hb_O yX7_isSign cX7_isSign 2 (some .boolean) d [hb_r 3 0 0, hb_i (61 : Int32)] w (fun rv w1 => hb_R yX2_readComparison cX2_readComparison 4 (some .boolean) (d + 1) 62 [some (hb_r 4 0 0), some (hb_i x1), some (hb_i (-28 : Int32)), none] (rv.toList ++ []) w1 Q)))) : hb_R yX2_readComparison cX2_readComparison 4 (some .boolean) (d + 1) 36 [some (hb_r 4 0 0), some (hb_i x1), none, none] [hb_i xs0] w Q := by
  refine hb_if_eq (pc := 36) (tgt := 44) dX2_readComparison_36 (by decide) (fun c1 => ?_) (fun c1 => ?_)
  · have ht1 := h.1 c1
    refine hb_bipush (pc := 44) (v := -29) dX2_readComparison_44 (by decide) ?_
    refine hb_istore_n (pc := 46) (i := 2) (ls1 := [some (hb_r 4 0 0), some (hb_i x1), some (hb_i (-29 : Int32)), none]) dX2_readComparison_46 rfl (by decide) rfl ?_
    refine hb_iload_n (pc := 47) (i := 2) dX2_readComparison_47 rfl rfl ?_
    refine hb_bipush (pc := 48) (v := -29) dX2_readComparison_48 (by decide) ?_
    refine hb_icmp_ne (pc := 50) (tgt := 81) dX2_readComparison_50 (by decide) (fun c2 => ?_) (fun c2 => ?_)
    · have ht2 := ht1.1 c2
      refine hb_aload_n (pc := 81) (i := 0) dX2_readComparison_81 rfl rfl ?_
      refine hb_getR (pc := 82) (g1 := 0) dX2_readComparison_82 fw_X2_9 cw_2 rfl (by decide) rfl (by decide) rfl ?_
      exact hb_callV (pc := 85) (As := []) (st := []) dX2_readComparison_85 ml_X2_70 mf_X7_step mi_X7_step (ci := 7) rfl rfl (by decide) rfl rfl (Nat.le_of_ble_eq_true rfl) (Nat.le_of_ble_eq_true rfl) ht2 (fun _ _ q => q)
    · have ht2 := ht1.2 c2
      refine hb_aload_n (pc := 53) (i := 0) dX2_readComparison_53 rfl rfl ?_
      refine hb_getR (pc := 54) (g1 := 0) dX2_readComparison_54 fw_X2_9 cw_2 rfl (by decide) rfl (by decide) rfl ?_
      refine hb_bipush (pc := 57) (v := 61) dX2_readComparison_57 (by decide) ?_
      exact hb_callV (pc := 59) (As := [hb_i (61 : Int32)]) (st := []) dX2_readComparison_59 ml_X2_162 mf_X7_isSign mi_X7_isSign (ci := 7) rfl rfl (by decide) rfl rfl (Nat.le_of_ble_eq_true rfl) (Nat.le_of_ble_eq_true rfl) ht2 (fun _ _ q => q)
  · have ht1 := h.2 c1
    refine hb_bipush (pc := 39) (v := -28) dX2_readComparison_39 (by decide) ?_
    refine hb_goto (pc := 41) (tgt := 46) dX2_readComparison_41 (by decide) ?_
    refine hb_istore_n (pc := 46) (i := 2) (ls1 := [some (hb_r 4 0 0), some (hb_i x1), some (hb_i (-28 : Int32)), none]) dX2_readComparison_46 rfl (by decide) rfl ?_
    refine hb_iload_n (pc := 47) (i := 2) dX2_readComparison_47 rfl rfl ?_
    refine hb_bipush (pc := 48) (v := -29) dX2_readComparison_48 (by decide) ?_
    refine hb_icmp_ne (pc := 50) (tgt := 81) dX2_readComparison_50 (by decide) (fun c3 => ?_) (fun c3 => ?_)
    · have ht3 := ht1.1 c3
      refine hb_aload_n (pc := 81) (i := 0) dX2_readComparison_81 rfl rfl ?_
      refine hb_getR (pc := 82) (g1 := 0) dX2_readComparison_82 fw_X2_9 cw_2 rfl (by decide) rfl (by decide) rfl ?_
      exact hb_callV (pc := 85) (As := []) (st := []) dX2_readComparison_85 ml_X2_70 mf_X7_step mi_X7_step (ci := 7) rfl rfl (by decide) rfl rfl (Nat.le_of_ble_eq_true rfl) (Nat.le_of_ble_eq_true rfl) ht3 (fun _ _ q => q)
    · have ht3 := ht1.2 c3
      refine hb_aload_n (pc := 53) (i := 0) dX2_readComparison_53 rfl rfl ?_
      refine hb_getR (pc := 54) (g1 := 0) dX2_readComparison_54 fw_X2_9 cw_2 rfl (by decide) rfl (by decide) rfl ?_
      refine hb_bipush (pc := 57) (v := 61) dX2_readComparison_57 (by decide) ?_
      exact hb_callV (pc := 59) (As := [hb_i (61 : Int32)]) (st := []) dX2_readComparison_59 ml_X2_162 mf_X7_isSign mi_X7_isSign (ci := 7) rfl rfl (by decide) rfl rfl (Nat.le_of_ble_eq_true rfl) (Nat.le_of_ble_eq_true rfl) ht3 (fun _ _ q => q)
set_option maxRecDepth 20000 in
theorem bk_X2_readComparison_62 {d : Nat} {w : hb_W} {Q : Option hb_V → hb_W → Prop} {x1 : Int32} {x2 : Int32} {xs0 : Int32} (h : ((¬ xs0 = 0) → hb_O yX7_step cX7_step 4 none d [hb_r 3 0 0] w (fun rv w1 => hb_R yX2_readComparison cX2_readComparison 4 (some .boolean) (d + 1) 88 [some (hb_r 4 0 0), some (hb_i x1), some (hb_i x2), none] (rv.toList ++ []) w1 Q)) ∧ ((xs0 = 0) → hb_O yX7_stop cX7_stop 3 (some .boolean) d [hb_r 3 0 0, hb_i (1 : Int32), hb_i (hb_fI w 3 4 0)] w (fun rv w1 => hb_R yX2_readComparison cX2_readComparison 4 (some .boolean) (d + 1) 80 [some (hb_r 4 0 0), some (hb_i x1), some (hb_i x2), none] (rv.toList ++ []) w1 Q))) : hb_R yX2_readComparison cX2_readComparison 4 (some .boolean) (d + 1) 62 [some (hb_r 4 0 0), some (hb_i x1), some (hb_i x2), none] [hb_i xs0] w Q := by
  refine hb_if_ne (pc := 62) (tgt := 81) dX2_readComparison_62 (by decide) (fun c1 => ?_) (fun c1 => ?_)
  · have ht1 := h.1 c1
    refine hb_aload_n (pc := 81) (i := 0) dX2_readComparison_81 rfl rfl ?_
    refine hb_getR (pc := 82) (g1 := 0) dX2_readComparison_82 fw_X2_9 cw_2 rfl (by decide) rfl (by decide) rfl ?_
    exact hb_callV (pc := 85) (As := []) (st := []) dX2_readComparison_85 ml_X2_70 mf_X7_step mi_X7_step (ci := 7) rfl rfl (by decide) rfl rfl (Nat.le_of_ble_eq_true rfl) (Nat.le_of_ble_eq_true rfl) ht1 (fun _ _ q => q)
  · have ht1 := h.2 c1
    refine hb_aload_n (pc := 65) (i := 0) dX2_readComparison_65 rfl rfl ?_
    refine hb_getR (pc := 66) (g1 := 0) dX2_readComparison_66 fw_X2_9 cw_2 rfl (by decide) rfl (by decide) rfl ?_
    refine hb_iconst (pc := 69) (v := 1) dX2_readComparison_69 (by decide) ?_
    refine hb_aload_n (pc := 70) (i := 0) dX2_readComparison_70 rfl rfl ?_
    refine hb_getR (pc := 71) (g1 := 0) dX2_readComparison_71 fw_X2_9 cw_2 rfl (by decide) rfl (by decide) rfl ?_
    refine hb_getIx (pc := 74) (x := hb_fI w 3 4 0) dX2_readComparison_74 fw_X2_47 cw_7 rfl (by decide) rfl rfl ?_
    exact hb_callV (pc := 77) (As := [hb_i (1 : Int32), hb_i (hb_fI w 3 4 0)]) (st := []) dX2_readComparison_77 ml_X2_50 mf_X7_stop mi_X7_stop (ci := 7) rfl rfl (by decide) rfl rfl (Nat.le_of_ble_eq_true rfl) (Nat.le_of_ble_eq_true rfl) ht1 (fun _ _ q => q)
set_option maxRecDepth 20000 in
theorem bk_X2_readComparison_80 {d : Nat} {w : hb_W} {Q : Option hb_V → hb_W → Prop} {x1 : Int32} {x2 : Int32} {xs0 : Int32} (h : (xs0 = 0 ∨ xs0 = 1) ∧ Q (some (hb_i xs0)) w) : hb_R yX2_readComparison cX2_readComparison 4 (some .boolean) (d + 1) 80 [some (hb_r 4 0 0), some (hb_i x1), some (hb_i x2), none] [hb_i xs0] w Q := by
  exact hb_zret (pc := 80) dX2_readComparison_80 rfl h.1 h.2
set_option maxRecDepth 20000 in
theorem bk_X2_readComparison_88 {d : Nat} {w : hb_W} {Q : Option hb_V → hb_W → Prop} {x1 : Int32} {x2 : Int32} (h : hb_O yX2_readSum cX2_readSum 5 (some .boolean) d [hb_r 4 0 0, hb_i x1] w (fun rv w1 => hb_R yX2_readComparison cX2_readComparison 4 (some .boolean) (d + 1) 93 [some (hb_r 4 0 0), some (hb_i x1), some (hb_i x2), none] (rv.toList ++ []) w1 Q)) : hb_R yX2_readComparison cX2_readComparison 4 (some .boolean) (d + 1) 88 [some (hb_r 4 0 0), some (hb_i x1), some (hb_i x2), none] [] w Q := by
  refine hb_aload_n (pc := 88) (i := 0) dX2_readComparison_88 rfl rfl ?_
  refine hb_iload_n (pc := 89) (i := 1) dX2_readComparison_89 rfl rfl ?_
  exact hb_callV (pc := 90) (As := [hb_i x1]) (st := []) dX2_readComparison_90 ml_X2_77 mf_X2_readSum mi_X2_readSum (ci := 2) rfl rfl (by decide) rfl rfl (Nat.le_of_ble_eq_true rfl) (Nat.le_of_ble_eq_true rfl) h (fun _ _ q => q)
set_option maxRecDepth 20000 in
theorem bk_X2_readComparison_93 {d : Nat} {w : hb_W} {Q : Option hb_V → hb_W → Prop} {x1 : Int32} {x2 : Int32} {xs0 : Int32} (h : (hb_fR w 4 1 0) < hb_ct 2 ∧ (hb_O yX1_put cX1_put 2 none d [hb_r 2 (hb_fR w 4 1 0) 0, hb_i x2] w (fun rv w1 => hb_R yX2_readComparison cX2_readComparison 4 (some .boolean) (d + 1) 102 [some (hb_r 4 0 0), some (hb_i x1), some (hb_i x2), some (hb_i xs0)] (rv.toList ++ []) w1 Q))) : hb_R yX2_readComparison cX2_readComparison 4 (some .boolean) (d + 1) 93 [some (hb_r 4 0 0), some (hb_i x1), some (hb_i x2), none] [hb_i xs0] w Q := by
  refine hb_istore_n (pc := 93) (i := 3) (ls1 := [some (hb_r 4 0 0), some (hb_i x1), some (hb_i x2), some (hb_i xs0)]) dX2_readComparison_93 rfl (by decide) rfl ?_
  refine hb_aload_n (pc := 94) (i := 0) dX2_readComparison_94 rfl rfl ?_
  refine hb_getR (pc := 95) (g1 := hb_fR w 4 1 0) dX2_readComparison_95 fw_X2_15 cw_2 rfl (by decide) rfl (by decide) rfl ?_
  refine hb_iload_n (pc := 98) (i := 2) dX2_readComparison_98 rfl rfl ?_
  obtain ⟨ho1, hr1⟩ := h
  exact hb_callV (pc := 99) (As := [hb_i x2]) (st := []) dX2_readComparison_99 ml_X2_150 mf_X1_put mi_X1_put (ci := 1) rfl rfl ho1 rfl rfl (Nat.le_of_ble_eq_true rfl) (Nat.le_of_ble_eq_true rfl) hr1 (fun _ _ q => q)
set_option maxRecDepth 20000 in
theorem bk_X2_readComparison_102 {d : Nat} {w : hb_W} {Q : Option hb_V → hb_W → Prop} {x1 : Int32} {x2 : Int32} {x3 : Int32} (h : (x3 = 0 ∨ x3 = 1) ∧ Q (some (hb_i x3)) w) : hb_R yX2_readComparison cX2_readComparison 4 (some .boolean) (d + 1) 102 [some (hb_r 4 0 0), some (hb_i x1), some (hb_i x2), some (hb_i x3)] [] w Q := by
  refine hb_iload_n (pc := 102) (i := 3) dX2_readComparison_102 rfl rfl ?_
  exact hb_zret (pc := 103) dX2_readComparison_103 rfl h.1 h.2
theorem dX2_readSum_0 : decode cX2_readSum 0 = .ok (.aload_n 0, 1) := by decide +kernel
theorem dX2_readSum_1 : decode cX2_readSum 1 = .ok (.iload_n 1, 1) := by decide +kernel
theorem dX2_readSum_2 : decode cX2_readSum 2 = .ok (.invokevirtual 169, 3) := by decide +kernel
theorem dX2_readSum_5 : decode cX2_readSum 5 = .ok (.istore_n 2, 1) := by decide +kernel
theorem dX2_readSum_6 : decode cX2_readSum 6 = .ok (.iconst 0, 1) := by decide +kernel
theorem dX2_readSum_7 : decode cX2_readSum 7 = .ok (.istore_n 3, 1) := by decide +kernel
theorem dX2_readSum_8 : decode cX2_readSum 8 = .ok (.iload_n 3, 1) := by decide +kernel
theorem dX2_readSum_9 : decode cX2_readSum 9 = .ok (.sipush 1600, 3) := by decide +kernel
theorem dX2_readSum_12 : decode cX2_readSum 12 = .ok (.if_icmp .ge 75, 3) := by decide +kernel
theorem dX2_readSum_15 : decode cX2_readSum 15 = .ok (.iload_n 2, 1) := by decide +kernel
theorem dX2_readSum_16 : decode cX2_readSum 16 = .ok (.ifCond .eq 71, 3) := by decide +kernel
theorem dX2_readSum_19 : decode cX2_readSum 19 = .ok (.aload_n 0, 1) := by decide +kernel
theorem dX2_readSum_20 : decode cX2_readSum 20 = .ok (.getfield 9, 3) := by decide +kernel
theorem dX2_readSum_23 : decode cX2_readSum 23 = .ok (.bipush 43, 2) := by decide +kernel
theorem dX2_readSum_25 : decode cX2_readSum 25 = .ok (.invokevirtual 162, 3) := by decide +kernel
theorem dX2_readSum_28 : decode cX2_readSum 28 = .ok (.istore 4, 2) := by decide +kernel
theorem dX2_readSum_30 : decode cX2_readSum 30 = .ok (.iload 4, 2) := by decide +kernel
theorem dX2_readSum_32 : decode cX2_readSum 32 = .ok (.ifCond .ne 17, 3) := by decide +kernel
theorem dX2_readSum_35 : decode cX2_readSum 35 = .ok (.aload_n 0, 1) := by decide +kernel
theorem dX2_readSum_36 : decode cX2_readSum 36 = .ok (.getfield 9, 3) := by decide +kernel
theorem dX2_readSum_39 : decode cX2_readSum 39 = .ok (.bipush 45, 2) := by decide +kernel
theorem dX2_readSum_41 : decode cX2_readSum 41 = .ok (.invokevirtual 162, 3) := by decide +kernel
theorem dX2_readSum_44 : decode cX2_readSum 44 = .ok (.ifCond .ne 5, 3) := by decide +kernel
theorem dX2_readSum_47 : decode cX2_readSum 47 = .ok (.iconst 1, 1) := by decide +kernel
theorem dX2_readSum_48 : decode cX2_readSum 48 = .ok (.ireturn, 1) := by decide +kernel
theorem dX2_readSum_49 : decode cX2_readSum 49 = .ok (.aload_n 0, 1) := by decide +kernel
theorem dX2_readSum_50 : decode cX2_readSum 50 = .ok (.getfield 9, 3) := by decide +kernel
theorem dX2_readSum_53 : decode cX2_readSum 53 = .ok (.invokevirtual 70, 3) := by decide +kernel
theorem dX2_readSum_56 : decode cX2_readSum 56 = .ok (.aload_n 0, 1) := by decide +kernel
theorem dX2_readSum_57 : decode cX2_readSum 57 = .ok (.iload_n 1, 1) := by decide +kernel
theorem dX2_readSum_58 : decode cX2_readSum 58 = .ok (.invokevirtual 169, 3) := by decide +kernel
theorem dX2_readSum_61 : decode cX2_readSum 61 = .ok (.istore_n 2, 1) := by decide +kernel
theorem dX2_readSum_62 : decode cX2_readSum 62 = .ok (.aload_n 0, 1) := by decide +kernel
theorem dX2_readSum_63 : decode cX2_readSum 63 = .ok (.getfield 15, 3) := by decide +kernel
theorem dX2_readSum_66 : decode cX2_readSum 66 = .ok (.iload 4, 2) := by decide +kernel
theorem dX2_readSum_68 : decode cX2_readSum 68 = .ok (.ifCond .eq 8, 3) := by decide +kernel
theorem dX2_readSum_71 : decode cX2_readSum 71 = .ok (.bipush (-21), 2) := by decide +kernel
theorem dX2_readSum_73 : decode cX2_readSum 73 = .ok (.goto 5, 3) := by decide +kernel
theorem dX2_readSum_76 : decode cX2_readSum 76 = .ok (.bipush (-22), 2) := by decide +kernel
theorem dX2_readSum_78 : decode cX2_readSum 78 = .ok (.invokevirtual 150, 3) := by decide +kernel
theorem dX2_readSum_81 : decode cX2_readSum 81 = .ok (.iinc 3 1, 3) := by decide +kernel
theorem dX2_readSum_84 : decode cX2_readSum 84 = .ok (.goto (-76), 3) := by decide +kernel
theorem dX2_readSum_87 : decode cX2_readSum 87 = .ok (.iload_n 2, 1) := by decide +kernel
theorem dX2_readSum_88 : decode cX2_readSum 88 = .ok (.ireturn, 1) := by decide +kernel
set_option maxRecDepth 20000 in
theorem bk_X2_readSum_0 {d : Nat} {w : hb_W} {Q : Option hb_V → hb_W → Prop} {x1 : Int32} (h : hb_O yX2_readProduct cX2_readProduct 5 (some .boolean) d [hb_r 4 0 0, hb_i x1] w (fun rv w1 => hb_R yX2_readSum cX2_readSum 5 (some .boolean) (d + 1) 5 [some (hb_r 4 0 0), some (hb_i x1), none, none, none] (rv.toList ++ []) w1 Q)) : hb_R yX2_readSum cX2_readSum 5 (some .boolean) (d + 1) 0 [some (hb_r 4 0 0), some (hb_i x1), none, none, none] [] w Q := by
  refine hb_aload_n (pc := 0) (i := 0) dX2_readSum_0 rfl rfl ?_
  refine hb_iload_n (pc := 1) (i := 1) dX2_readSum_1 rfl rfl ?_
  exact hb_callV (pc := 2) (As := [hb_i x1]) (st := []) dX2_readSum_2 ml_X2_169 mf_X2_readProduct mi_X2_readProduct (ci := 2) rfl rfl (by decide) rfl rfl (Nat.le_of_ble_eq_true rfl) (Nat.le_of_ble_eq_true rfl) h (fun _ _ q => q)
set_option maxRecDepth 20000 in
theorem bk_X2_readSum_5 {d : Nat} {w : hb_W} {Q : Option hb_V → hb_W → Prop} {x1 : Int32} {xs0 : Int32} (h : hb_R yX2_readSum cX2_readSum 5 (some .boolean) (d + 1) 8 [some (hb_r 4 0 0), some (hb_i x1), some (hb_i xs0), some (hb_i (0 : Int32)), none] [] w Q) : hb_R yX2_readSum cX2_readSum 5 (some .boolean) (d + 1) 5 [some (hb_r 4 0 0), some (hb_i x1), none, none, none] [hb_i xs0] w Q := by
  refine hb_istore_n (pc := 5) (i := 2) (ls1 := [some (hb_r 4 0 0), some (hb_i x1), some (hb_i xs0), none, none]) dX2_readSum_5 rfl (by decide) rfl ?_
  refine hb_iconst (pc := 6) (v := 0) dX2_readSum_6 (by decide) ?_
  refine hb_istore_n (pc := 7) (i := 3) (ls1 := [some (hb_r 4 0 0), some (hb_i x1), some (hb_i xs0), some (hb_i (0 : Int32)), none]) dX2_readSum_7 rfl (by decide) rfl ?_
  exact h
set_option maxRecDepth 20000 in
theorem bk_X2_readSum_8 {d : Nat} {w : hb_W} {Q : Option hb_V → hb_W → Prop} {x1 : Int32} {x2 : Int32} {x3 : Int32} (h : (((1600 : Int32) ≤ x3) → (x2 = 0 ∨ x2 = 1) ∧ Q (some (hb_i x2)) w) ∧ ((¬ (1600 : Int32) ≤ x3) → ((x2 = 0) → (x2 = 0 ∨ x2 = 1) ∧ Q (some (hb_i x2)) w) ∧ ((¬ x2 = 0) → hb_O yX7_isSign cX7_isSign 2 (some .boolean) d [hb_r 3 0 0, hb_i (43 : Int32)] w (fun rv w1 => hb_R yX2_readSum cX2_readSum 5 (some .boolean) (d + 1) 28 [some (hb_r 4 0 0), some (hb_i x1), some (hb_i x2), some (hb_i x3), none] (rv.toList ++ []) w1 Q)))) : hb_R yX2_readSum cX2_readSum 5 (some .boolean) (d + 1) 8 [some (hb_r 4 0 0), some (hb_i x1), some (hb_i x2), some (hb_i x3), none] [] w Q := by
  refine hb_iload_n (pc := 8) (i := 3) dX2_readSum_8 rfl rfl ?_
  refine hb_sipush (pc := 9) (v := 1600) dX2_readSum_9 (by decide) ?_
  refine hb_icmp_ge (pc := 12) (tgt := 87) dX2_readSum_12 (by decide) (fun c1 => ?_) (fun c1 => ?_)
  · have ht1 := h.1 c1
    refine hb_iload_n (pc := 87) (i := 2) dX2_readSum_87 rfl rfl ?_
    exact hb_zret (pc := 88) dX2_readSum_88 rfl ht1.1 ht1.2
  · have ht1 := h.2 c1
    refine hb_iload_n (pc := 15) (i := 2) dX2_readSum_15 rfl rfl ?_
    refine hb_if_eq (pc := 16) (tgt := 87) dX2_readSum_16 (by decide) (fun c2 => ?_) (fun c2 => ?_)
    · have ht2 := ht1.1 c2
      refine hb_iload_n (pc := 87) (i := 2) dX2_readSum_87 rfl rfl ?_
      exact hb_zret (pc := 88) dX2_readSum_88 rfl ht2.1 ht2.2
    · have ht2 := ht1.2 c2
      refine hb_aload_n (pc := 19) (i := 0) dX2_readSum_19 rfl rfl ?_
      refine hb_getR (pc := 20) (g1 := 0) dX2_readSum_20 fw_X2_9 cw_2 rfl (by decide) rfl (by decide) rfl ?_
      refine hb_bipush (pc := 23) (v := 43) dX2_readSum_23 (by decide) ?_
      exact hb_callV (pc := 25) (As := [hb_i (43 : Int32)]) (st := []) dX2_readSum_25 ml_X2_162 mf_X7_isSign mi_X7_isSign (ci := 7) rfl rfl (by decide) rfl rfl (Nat.le_of_ble_eq_true rfl) (Nat.le_of_ble_eq_true rfl) ht2 (fun _ _ q => q)
set_option maxRecDepth 20000 in
theorem bk_X2_readSum_28 {d : Nat} {w : hb_W} {Q : Option hb_V → hb_W → Prop} {x1 : Int32} {x2 : Int32} {x3 : Int32} {xs0 : Int32} (h : ((¬ xs0 = 0) → hb_O yX7_step cX7_step 4 none d [hb_r 3 0 0] w (fun rv w1 => hb_R yX2_readSum cX2_readSum 5 (some .boolean) (d + 1) 56 [some (hb_r 4 0 0), some (hb_i x1), some (hb_i x2), some (hb_i x3), some (hb_i xs0)] (rv.toList ++ []) w1 Q)) ∧ ((xs0 = 0) → hb_O yX7_isSign cX7_isSign 2 (some .boolean) d [hb_r 3 0 0, hb_i (45 : Int32)] w (fun rv w1 => hb_R yX2_readSum cX2_readSum 5 (some .boolean) (d + 1) 44 [some (hb_r 4 0 0), some (hb_i x1), some (hb_i x2), some (hb_i x3), some (hb_i xs0)] (rv.toList ++ []) w1 Q))) : hb_R yX2_readSum cX2_readSum 5 (some .boolean) (d + 1) 28 [some (hb_r 4 0 0), some (hb_i x1), some (hb_i x2), some (hb_i x3), none] [hb_i xs0] w Q := by
  refine hb_istore (pc := 28) (i := 4) (ls1 := [some (hb_r 4 0 0), some (hb_i x1), some (hb_i x2), some (hb_i x3), some (hb_i xs0)]) dX2_readSum_28 (by decide) rfl ?_
  refine hb_iload (pc := 30) dX2_readSum_30 rfl ?_
  refine hb_if_ne (pc := 32) (tgt := 49) dX2_readSum_32 (by decide) (fun c1 => ?_) (fun c1 => ?_)
  · have ht1 := h.1 c1
    refine hb_aload_n (pc := 49) (i := 0) dX2_readSum_49 rfl rfl ?_
    refine hb_getR (pc := 50) (g1 := 0) dX2_readSum_50 fw_X2_9 cw_2 rfl (by decide) rfl (by decide) rfl ?_
    exact hb_callV (pc := 53) (As := []) (st := []) dX2_readSum_53 ml_X2_70 mf_X7_step mi_X7_step (ci := 7) rfl rfl (by decide) rfl rfl (Nat.le_of_ble_eq_true rfl) (Nat.le_of_ble_eq_true rfl) ht1 (fun _ _ q => q)
  · have ht1 := h.2 c1
    refine hb_aload_n (pc := 35) (i := 0) dX2_readSum_35 rfl rfl ?_
    refine hb_getR (pc := 36) (g1 := 0) dX2_readSum_36 fw_X2_9 cw_2 rfl (by decide) rfl (by decide) rfl ?_
    refine hb_bipush (pc := 39) (v := 45) dX2_readSum_39 (by decide) ?_
    exact hb_callV (pc := 41) (As := [hb_i (45 : Int32)]) (st := []) dX2_readSum_41 ml_X2_162 mf_X7_isSign mi_X7_isSign (ci := 7) rfl rfl (by decide) rfl rfl (Nat.le_of_ble_eq_true rfl) (Nat.le_of_ble_eq_true rfl) ht1 (fun _ _ q => q)
set_option maxRecDepth 20000 in
theorem bk_X2_readSum_44 {d : Nat} {w : hb_W} {Q : Option hb_V → hb_W → Prop} {x1 : Int32} {x2 : Int32} {x3 : Int32} {x4 : Int32} {xs0 : Int32} (h : ((¬ xs0 = 0) → hb_O yX7_step cX7_step 4 none d [hb_r 3 0 0] w (fun rv w1 => hb_R yX2_readSum cX2_readSum 5 (some .boolean) (d + 1) 56 [some (hb_r 4 0 0), some (hb_i x1), some (hb_i x2), some (hb_i x3), some (hb_i x4)] (rv.toList ++ []) w1 Q)) ∧ ((xs0 = 0) → Q (some (hb_i (1 : Int32))) w)) : hb_R yX2_readSum cX2_readSum 5 (some .boolean) (d + 1) 44 [some (hb_r 4 0 0), some (hb_i x1), some (hb_i x2), some (hb_i x3), some (hb_i x4)] [hb_i xs0] w Q := by
  refine hb_if_ne (pc := 44) (tgt := 49) dX2_readSum_44 (by decide) (fun c1 => ?_) (fun c1 => ?_)
  · have ht1 := h.1 c1
    refine hb_aload_n (pc := 49) (i := 0) dX2_readSum_49 rfl rfl ?_
    refine hb_getR (pc := 50) (g1 := 0) dX2_readSum_50 fw_X2_9 cw_2 rfl (by decide) rfl (by decide) rfl ?_
    exact hb_callV (pc := 53) (As := []) (st := []) dX2_readSum_53 ml_X2_70 mf_X7_step mi_X7_step (ci := 7) rfl rfl (by decide) rfl rfl (Nat.le_of_ble_eq_true rfl) (Nat.le_of_ble_eq_true rfl) ht1 (fun _ _ q => q)
  · have ht1 := h.2 c1
    refine hb_iconst (pc := 47) (v := 1) dX2_readSum_47 (by decide) ?_
    exact hb_zret (pc := 48) dX2_readSum_48 rfl (Or.inr rfl) ht1
set_option maxRecDepth 20000 in
theorem bk_X2_readSum_56 {d : Nat} {w : hb_W} {Q : Option hb_V → hb_W → Prop} {x1 : Int32} {x2 : Int32} {x3 : Int32} {x4 : Int32} (h : hb_O yX2_readProduct cX2_readProduct 5 (some .boolean) d [hb_r 4 0 0, hb_i x1] w (fun rv w1 => hb_R yX2_readSum cX2_readSum 5 (some .boolean) (d + 1) 61 [some (hb_r 4 0 0), some (hb_i x1), some (hb_i x2), some (hb_i x3), some (hb_i x4)] (rv.toList ++ []) w1 Q)) : hb_R yX2_readSum cX2_readSum 5 (some .boolean) (d + 1) 56 [some (hb_r 4 0 0), some (hb_i x1), some (hb_i x2), some (hb_i x3), some (hb_i x4)] [] w Q := by
  refine hb_aload_n (pc := 56) (i := 0) dX2_readSum_56 rfl rfl ?_
  refine hb_iload_n (pc := 57) (i := 1) dX2_readSum_57 rfl rfl ?_
  exact hb_callV (pc := 58) (As := [hb_i x1]) (st := []) dX2_readSum_58 ml_X2_169 mf_X2_readProduct mi_X2_readProduct (ci := 2) rfl rfl (by decide) rfl rfl (Nat.le_of_ble_eq_true rfl) (Nat.le_of_ble_eq_true rfl) h (fun _ _ q => q)
set_option maxRecDepth 20000 in
theorem bk_X2_readSum_61 {d : Nat} {w : hb_W} {Q : Option hb_V → hb_W → Prop} {x1 : Int32} {x2 : Int32} {x3 : Int32} {x4 : Int32} {xs0 : Int32} (h : ((x4 = 0) → (hb_fR w 4 1 0) < hb_ct 2 ∧ (hb_O yX1_put cX1_put 2 none d [hb_r 2 (hb_fR w 4 1 0) 0, hb_i (-22 : Int32)] w (fun rv w1 => hb_R yX2_readSum cX2_readSum 5 (some .boolean) (d + 1) 81 [some (hb_r 4 0 0), some (hb_i x1), some (hb_i xs0), some (hb_i x3), some (hb_i x4)] (rv.toList ++ []) w1 Q))) ∧ ((¬ x4 = 0) → (hb_fR w 4 1 0) < hb_ct 2 ∧ (hb_O yX1_put cX1_put 2 none d [hb_r 2 (hb_fR w 4 1 0) 0, hb_i (-21 : Int32)] w (fun rv w1 => hb_R yX2_readSum cX2_readSum 5 (some .boolean) (d + 1) 81 [some (hb_r 4 0 0), some (hb_i x1), some (hb_i xs0), some (hb_i x3), some (hb_i x4)] (rv.toList ++ []) w1 Q)))) : hb_R yX2_readSum cX2_readSum 5 (some .boolean) (d + 1) 61 [some (hb_r 4 0 0), some (hb_i x1), some (hb_i x2), some (hb_i x3), some (hb_i x4)] [hb_i xs0] w Q := by
  refine hb_istore_n (pc := 61) (i := 2) (ls1 := [some (hb_r 4 0 0), some (hb_i x1), some (hb_i xs0), some (hb_i x3), some (hb_i x4)]) dX2_readSum_61 rfl (by decide) rfl ?_
  refine hb_aload_n (pc := 62) (i := 0) dX2_readSum_62 rfl rfl ?_
  refine hb_getR (pc := 63) (g1 := hb_fR w 4 1 0) dX2_readSum_63 fw_X2_15 cw_2 rfl (by decide) rfl (by decide) rfl ?_
  refine hb_iload (pc := 66) dX2_readSum_66 rfl ?_
  refine hb_if_eq (pc := 68) (tgt := 76) dX2_readSum_68 (by decide) (fun c1 => ?_) (fun c1 => ?_)
  · have ht1 := h.1 c1
    refine hb_bipush (pc := 76) (v := -22) dX2_readSum_76 (by decide) ?_
    obtain ⟨ho2, hr2⟩ := ht1
    exact hb_callV (pc := 78) (As := [hb_i (-22 : Int32)]) (st := []) dX2_readSum_78 ml_X2_150 mf_X1_put mi_X1_put (ci := 1) rfl rfl ho2 rfl rfl (Nat.le_of_ble_eq_true rfl) (Nat.le_of_ble_eq_true rfl) hr2 (fun _ _ q => q)
  · have ht1 := h.2 c1
    refine hb_bipush (pc := 71) (v := -21) dX2_readSum_71 (by decide) ?_
    refine hb_goto (pc := 73) (tgt := 78) dX2_readSum_73 (by decide) ?_
    obtain ⟨ho3, hr3⟩ := ht1
    exact hb_callV (pc := 78) (As := [hb_i (-21 : Int32)]) (st := []) dX2_readSum_78 ml_X2_150 mf_X1_put mi_X1_put (ci := 1) rfl rfl ho3 rfl rfl (Nat.le_of_ble_eq_true rfl) (Nat.le_of_ble_eq_true rfl) hr3 (fun _ _ q => q)
set_option maxRecDepth 20000 in
theorem bk_X2_readSum_81 {d : Nat} {w : hb_W} {Q : Option hb_V → hb_W → Prop} {x1 : Int32} {x2 : Int32} {x3 : Int32} {x4 : Int32} (h : hb_R yX2_readSum cX2_readSum 5 (some .boolean) (d + 1) 8 [some (hb_r 4 0 0), some (hb_i x1), some (hb_i x2), some (hb_i (x3 + (1 : Int32))), some (hb_i x4)] [] w Q) : hb_R yX2_readSum cX2_readSum 5 (some .boolean) (d + 1) 81 [some (hb_r 4 0 0), some (hb_i x1), some (hb_i x2), some (hb_i x3), some (hb_i x4)] [] w Q := by
  refine hb_iinc (pc := 81) (v := x3 + (1 : Int32)) (ls1 := [some (hb_r 4 0 0), some (hb_i x1), some (hb_i x2), some (hb_i (x3 + (1 : Int32))), some (hb_i x4)]) dX2_readSum_81 rfl rfl (by decide) rfl ?_
  refine hb_goto (pc := 84) (tgt := 8) dX2_readSum_84 (by decide) ?_
  exact h
theorem dX2_readProduct_0 : decode cX2_readProduct 0 = .ok (.aload_n 0, 1) := by decide +kernel
theorem dX2_readProduct_1 : decode cX2_readProduct 1 = .ok (.iload_n 1, 1) := by decide +kernel
theorem dX2_readProduct_2 : decode cX2_readProduct 2 = .ok (.invokevirtual 172, 3) := by decide +kernel
theorem dX2_readProduct_5 : decode cX2_readProduct 5 = .ok (.istore_n 2, 1) := by decide +kernel
theorem dX2_readProduct_6 : decode cX2_readProduct 6 = .ok (.iconst 0, 1) := by decide +kernel
theorem dX2_readProduct_7 : decode cX2_readProduct 7 = .ok (.istore_n 3, 1) := by decide +kernel
theorem dX2_readProduct_8 : decode cX2_readProduct 8 = .ok (.iload_n 3, 1) := by decide +kernel
theorem dX2_readProduct_9 : decode cX2_readProduct 9 = .ok (.sipush 1600, 3) := by decide +kernel
theorem dX2_readProduct_12 : decode cX2_readProduct 12 = .ok (.if_icmp .ge 75, 3) := by decide +kernel
theorem dX2_readProduct_15 : decode cX2_readProduct 15 = .ok (.iload_n 2, 1) := by decide +kernel
theorem dX2_readProduct_16 : decode cX2_readProduct 16 = .ok (.ifCond .eq 71, 3) := by decide +kernel
theorem dX2_readProduct_19 : decode cX2_readProduct 19 = .ok (.aload_n 0, 1) := by decide +kernel
theorem dX2_readProduct_20 : decode cX2_readProduct 20 = .ok (.getfield 9, 3) := by decide +kernel
theorem dX2_readProduct_23 : decode cX2_readProduct 23 = .ok (.bipush 42, 2) := by decide +kernel
theorem dX2_readProduct_25 : decode cX2_readProduct 25 = .ok (.invokevirtual 162, 3) := by decide +kernel
theorem dX2_readProduct_28 : decode cX2_readProduct 28 = .ok (.istore 4, 2) := by decide +kernel
theorem dX2_readProduct_30 : decode cX2_readProduct 30 = .ok (.iload 4, 2) := by decide +kernel
theorem dX2_readProduct_32 : decode cX2_readProduct 32 = .ok (.ifCond .ne 17, 3) := by decide +kernel
theorem dX2_readProduct_35 : decode cX2_readProduct 35 = .ok (.aload_n 0, 1) := by decide +kernel
theorem dX2_readProduct_36 : decode cX2_readProduct 36 = .ok (.getfield 9, 3) := by decide +kernel
theorem dX2_readProduct_39 : decode cX2_readProduct 39 = .ok (.bipush 47, 2) := by decide +kernel
theorem dX2_readProduct_41 : decode cX2_readProduct 41 = .ok (.invokevirtual 162, 3) := by decide +kernel
theorem dX2_readProduct_44 : decode cX2_readProduct 44 = .ok (.ifCond .ne 5, 3) := by decide +kernel
theorem dX2_readProduct_47 : decode cX2_readProduct 47 = .ok (.iconst 1, 1) := by decide +kernel
theorem dX2_readProduct_48 : decode cX2_readProduct 48 = .ok (.ireturn, 1) := by decide +kernel
theorem dX2_readProduct_49 : decode cX2_readProduct 49 = .ok (.aload_n 0, 1) := by decide +kernel
theorem dX2_readProduct_50 : decode cX2_readProduct 50 = .ok (.getfield 9, 3) := by decide +kernel
theorem dX2_readProduct_53 : decode cX2_readProduct 53 = .ok (.invokevirtual 70, 3) := by decide +kernel
theorem dX2_readProduct_56 : decode cX2_readProduct 56 = .ok (.aload_n 0, 1) := by decide +kernel
theorem dX2_readProduct_57 : decode cX2_readProduct 57 = .ok (.iload_n 1, 1) := by decide +kernel
theorem dX2_readProduct_58 : decode cX2_readProduct 58 = .ok (.invokevirtual 172, 3) := by decide +kernel
theorem dX2_readProduct_61 : decode cX2_readProduct 61 = .ok (.istore_n 2, 1) := by decide +kernel
theorem dX2_readProduct_62 : decode cX2_readProduct 62 = .ok (.aload_n 0, 1) := by decide +kernel
theorem dX2_readProduct_63 : decode cX2_readProduct 63 = .ok (.getfield 15, 3) := by decide +kernel
theorem dX2_readProduct_66 : decode cX2_readProduct 66 = .ok (.iload 4, 2) := by decide +kernel
theorem dX2_readProduct_68 : decode cX2_readProduct 68 = .ok (.ifCond .eq 8, 3) := by decide +kernel
theorem dX2_readProduct_71 : decode cX2_readProduct 71 = .ok (.bipush (-23), 2) := by decide +kernel
theorem dX2_readProduct_73 : decode cX2_readProduct 73 = .ok (.goto 5, 3) := by decide +kernel
theorem dX2_readProduct_76 : decode cX2_readProduct 76 = .ok (.bipush (-24), 2) := by decide +kernel
theorem dX2_readProduct_78 : decode cX2_readProduct 78 = .ok (.invokevirtual 150, 3) := by decide +kernel
theorem dX2_readProduct_81 : decode cX2_readProduct 81 = .ok (.iinc 3 1, 3) := by decide +kernel
theorem dX2_readProduct_84 : decode cX2_readProduct 84 = .ok (.goto (-76), 3) := by decide +kernel
theorem dX2_readProduct_87 : decode cX2_readProduct 87 = .ok (.iload_n 2, 1) := by decide +kernel
theorem dX2_readProduct_88 : decode cX2_readProduct 88 = .ok (.ireturn, 1) := by decide +kernel
set_option maxRecDepth 20000 in
theorem bk_X2_readProduct_0 {d : Nat} {w : hb_W} {Q : Option hb_V → hb_W → Prop} {x1 : Int32} (h : hb_O yX2_readPart cX2_readPart 3 (some .boolean) d [hb_r 4 0 0, hb_i x1] w (fun rv w1 => hb_R yX2_readProduct cX2_readProduct 5 (some .boolean) (d + 1) 5 [some (hb_r 4 0 0), some (hb_i x1), none, none, none] (rv.toList ++ []) w1 Q)) : hb_R yX2_readProduct cX2_readProduct 5 (some .boolean) (d + 1) 0 [some (hb_r 4 0 0), some (hb_i x1), none, none, none] [] w Q := by
  refine hb_aload_n (pc := 0) (i := 0) dX2_readProduct_0 rfl rfl ?_
  refine hb_iload_n (pc := 1) (i := 1) dX2_readProduct_1 rfl rfl ?_
  exact hb_callV (pc := 2) (As := [hb_i x1]) (st := []) dX2_readProduct_2 ml_X2_172 mf_X2_readPart mi_X2_readPart (ci := 2) rfl rfl (by decide) rfl rfl (Nat.le_of_ble_eq_true rfl) (Nat.le_of_ble_eq_true rfl) h (fun _ _ q => q)
set_option maxRecDepth 20000 in
theorem bk_X2_readProduct_5 {d : Nat} {w : hb_W} {Q : Option hb_V → hb_W → Prop} {x1 : Int32} {xs0 : Int32} (h : hb_R yX2_readProduct cX2_readProduct 5 (some .boolean) (d + 1) 8 [some (hb_r 4 0 0), some (hb_i x1), some (hb_i xs0), some (hb_i (0 : Int32)), none] [] w Q) : hb_R yX2_readProduct cX2_readProduct 5 (some .boolean) (d + 1) 5 [some (hb_r 4 0 0), some (hb_i x1), none, none, none] [hb_i xs0] w Q := by
  refine hb_istore_n (pc := 5) (i := 2) (ls1 := [some (hb_r 4 0 0), some (hb_i x1), some (hb_i xs0), none, none]) dX2_readProduct_5 rfl (by decide) rfl ?_
  refine hb_iconst (pc := 6) (v := 0) dX2_readProduct_6 (by decide) ?_
  refine hb_istore_n (pc := 7) (i := 3) (ls1 := [some (hb_r 4 0 0), some (hb_i x1), some (hb_i xs0), some (hb_i (0 : Int32)), none]) dX2_readProduct_7 rfl (by decide) rfl ?_
  exact h
set_option maxRecDepth 20000 in
theorem bk_X2_readProduct_8 {d : Nat} {w : hb_W} {Q : Option hb_V → hb_W → Prop} {x1 : Int32} {x2 : Int32} {x3 : Int32} (h : (((1600 : Int32) ≤ x3) → (x2 = 0 ∨ x2 = 1) ∧ Q (some (hb_i x2)) w) ∧ ((¬ (1600 : Int32) ≤ x3) → ((x2 = 0) → (x2 = 0 ∨ x2 = 1) ∧ Q (some (hb_i x2)) w) ∧ ((¬ x2 = 0) → hb_O yX7_isSign cX7_isSign 2 (some .boolean) d [hb_r 3 0 0, hb_i (42 : Int32)] w (fun rv w1 => hb_R yX2_readProduct cX2_readProduct 5 (some .boolean) (d + 1) 28 [some (hb_r 4 0 0), some (hb_i x1), some (hb_i x2), some (hb_i x3), none] (rv.toList ++ []) w1 Q)))) : hb_R yX2_readProduct cX2_readProduct 5 (some .boolean) (d + 1) 8 [some (hb_r 4 0 0), some (hb_i x1), some (hb_i x2), some (hb_i x3), none] [] w Q := by
  refine hb_iload_n (pc := 8) (i := 3) dX2_readProduct_8 rfl rfl ?_
  refine hb_sipush (pc := 9) (v := 1600) dX2_readProduct_9 (by decide) ?_
  refine hb_icmp_ge (pc := 12) (tgt := 87) dX2_readProduct_12 (by decide) (fun c1 => ?_) (fun c1 => ?_)
  · have ht1 := h.1 c1
    refine hb_iload_n (pc := 87) (i := 2) dX2_readProduct_87 rfl rfl ?_
    exact hb_zret (pc := 88) dX2_readProduct_88 rfl ht1.1 ht1.2
  · have ht1 := h.2 c1
    refine hb_iload_n (pc := 15) (i := 2) dX2_readProduct_15 rfl rfl ?_
    refine hb_if_eq (pc := 16) (tgt := 87) dX2_readProduct_16 (by decide) (fun c2 => ?_) (fun c2 => ?_)
    · have ht2 := ht1.1 c2
      refine hb_iload_n (pc := 87) (i := 2) dX2_readProduct_87 rfl rfl ?_
      exact hb_zret (pc := 88) dX2_readProduct_88 rfl ht2.1 ht2.2
    · have ht2 := ht1.2 c2
      refine hb_aload_n (pc := 19) (i := 0) dX2_readProduct_19 rfl rfl ?_
      refine hb_getR (pc := 20) (g1 := 0) dX2_readProduct_20 fw_X2_9 cw_2 rfl (by decide) rfl (by decide) rfl ?_
      refine hb_bipush (pc := 23) (v := 42) dX2_readProduct_23 (by decide) ?_
      exact hb_callV (pc := 25) (As := [hb_i (42 : Int32)]) (st := []) dX2_readProduct_25 ml_X2_162 mf_X7_isSign mi_X7_isSign (ci := 7) rfl rfl (by decide) rfl rfl (Nat.le_of_ble_eq_true rfl) (Nat.le_of_ble_eq_true rfl) ht2 (fun _ _ q => q)
set_option maxRecDepth 20000 in
theorem bk_X2_readProduct_28 {d : Nat} {w : hb_W} {Q : Option hb_V → hb_W → Prop} {x1 : Int32} {x2 : Int32} {x3 : Int32} {xs0 : Int32} (h : ((¬ xs0 = 0) → hb_O yX7_step cX7_step 4 none d [hb_r 3 0 0] w (fun rv w1 => hb_R yX2_readProduct cX2_readProduct 5 (some .boolean) (d + 1) 56 [some (hb_r 4 0 0), some (hb_i x1), some (hb_i x2), some (hb_i x3), some (hb_i xs0)] (rv.toList ++ []) w1 Q)) ∧ ((xs0 = 0) → hb_O yX7_isSign cX7_isSign 2 (some .boolean) d [hb_r 3 0 0, hb_i (47 : Int32)] w (fun rv w1 => hb_R yX2_readProduct cX2_readProduct 5 (some .boolean) (d + 1) 44 [some (hb_r 4 0 0), some (hb_i x1), some (hb_i x2), some (hb_i x3), some (hb_i xs0)] (rv.toList ++ []) w1 Q))) : hb_R yX2_readProduct cX2_readProduct 5 (some .boolean) (d + 1) 28 [some (hb_r 4 0 0), some (hb_i x1), some (hb_i x2), some (hb_i x3), none] [hb_i xs0] w Q := by
  refine hb_istore (pc := 28) (i := 4) (ls1 := [some (hb_r 4 0 0), some (hb_i x1), some (hb_i x2), some (hb_i x3), some (hb_i xs0)]) dX2_readProduct_28 (by decide) rfl ?_
  refine hb_iload (pc := 30) dX2_readProduct_30 rfl ?_
  refine hb_if_ne (pc := 32) (tgt := 49) dX2_readProduct_32 (by decide) (fun c1 => ?_) (fun c1 => ?_)
  · have ht1 := h.1 c1
    refine hb_aload_n (pc := 49) (i := 0) dX2_readProduct_49 rfl rfl ?_
    refine hb_getR (pc := 50) (g1 := 0) dX2_readProduct_50 fw_X2_9 cw_2 rfl (by decide) rfl (by decide) rfl ?_
    exact hb_callV (pc := 53) (As := []) (st := []) dX2_readProduct_53 ml_X2_70 mf_X7_step mi_X7_step (ci := 7) rfl rfl (by decide) rfl rfl (Nat.le_of_ble_eq_true rfl) (Nat.le_of_ble_eq_true rfl) ht1 (fun _ _ q => q)
  · have ht1 := h.2 c1
    refine hb_aload_n (pc := 35) (i := 0) dX2_readProduct_35 rfl rfl ?_
    refine hb_getR (pc := 36) (g1 := 0) dX2_readProduct_36 fw_X2_9 cw_2 rfl (by decide) rfl (by decide) rfl ?_
    refine hb_bipush (pc := 39) (v := 47) dX2_readProduct_39 (by decide) ?_
    exact hb_callV (pc := 41) (As := [hb_i (47 : Int32)]) (st := []) dX2_readProduct_41 ml_X2_162 mf_X7_isSign mi_X7_isSign (ci := 7) rfl rfl (by decide) rfl rfl (Nat.le_of_ble_eq_true rfl) (Nat.le_of_ble_eq_true rfl) ht1 (fun _ _ q => q)
set_option maxRecDepth 20000 in
theorem bk_X2_readProduct_44 {d : Nat} {w : hb_W} {Q : Option hb_V → hb_W → Prop} {x1 : Int32} {x2 : Int32} {x3 : Int32} {x4 : Int32} {xs0 : Int32} (h : ((¬ xs0 = 0) → hb_O yX7_step cX7_step 4 none d [hb_r 3 0 0] w (fun rv w1 => hb_R yX2_readProduct cX2_readProduct 5 (some .boolean) (d + 1) 56 [some (hb_r 4 0 0), some (hb_i x1), some (hb_i x2), some (hb_i x3), some (hb_i x4)] (rv.toList ++ []) w1 Q)) ∧ ((xs0 = 0) → Q (some (hb_i (1 : Int32))) w)) : hb_R yX2_readProduct cX2_readProduct 5 (some .boolean) (d + 1) 44 [some (hb_r 4 0 0), some (hb_i x1), some (hb_i x2), some (hb_i x3), some (hb_i x4)] [hb_i xs0] w Q := by
  refine hb_if_ne (pc := 44) (tgt := 49) dX2_readProduct_44 (by decide) (fun c1 => ?_) (fun c1 => ?_)
  · have ht1 := h.1 c1
    refine hb_aload_n (pc := 49) (i := 0) dX2_readProduct_49 rfl rfl ?_
    refine hb_getR (pc := 50) (g1 := 0) dX2_readProduct_50 fw_X2_9 cw_2 rfl (by decide) rfl (by decide) rfl ?_
    exact hb_callV (pc := 53) (As := []) (st := []) dX2_readProduct_53 ml_X2_70 mf_X7_step mi_X7_step (ci := 7) rfl rfl (by decide) rfl rfl (Nat.le_of_ble_eq_true rfl) (Nat.le_of_ble_eq_true rfl) ht1 (fun _ _ q => q)
  · have ht1 := h.2 c1
    refine hb_iconst (pc := 47) (v := 1) dX2_readProduct_47 (by decide) ?_
    exact hb_zret (pc := 48) dX2_readProduct_48 rfl (Or.inr rfl) ht1
set_option maxRecDepth 20000 in
theorem bk_X2_readProduct_56 {d : Nat} {w : hb_W} {Q : Option hb_V → hb_W → Prop} {x1 : Int32} {x2 : Int32} {x3 : Int32} {x4 : Int32} (h : hb_O yX2_readPart cX2_readPart 3 (some .boolean) d [hb_r 4 0 0, hb_i x1] w (fun rv w1 => hb_R yX2_readProduct cX2_readProduct 5 (some .boolean) (d + 1) 61 [some (hb_r 4 0 0), some (hb_i x1), some (hb_i x2), some (hb_i x3), some (hb_i x4)] (rv.toList ++ []) w1 Q)) : hb_R yX2_readProduct cX2_readProduct 5 (some .boolean) (d + 1) 56 [some (hb_r 4 0 0), some (hb_i x1), some (hb_i x2), some (hb_i x3), some (hb_i x4)] [] w Q := by
  refine hb_aload_n (pc := 56) (i := 0) dX2_readProduct_56 rfl rfl ?_
  refine hb_iload_n (pc := 57) (i := 1) dX2_readProduct_57 rfl rfl ?_
  exact hb_callV (pc := 58) (As := [hb_i x1]) (st := []) dX2_readProduct_58 ml_X2_172 mf_X2_readPart mi_X2_readPart (ci := 2) rfl rfl (by decide) rfl rfl (Nat.le_of_ble_eq_true rfl) (Nat.le_of_ble_eq_true rfl) h (fun _ _ q => q)
set_option maxRecDepth 20000 in
theorem bk_X2_readProduct_61 {d : Nat} {w : hb_W} {Q : Option hb_V → hb_W → Prop} {x1 : Int32} {x2 : Int32} {x3 : Int32} {x4 : Int32} {xs0 : Int32} (h : ((x4 = 0) → (hb_fR w 4 1 0) < hb_ct 2 ∧ (hb_O yX1_put cX1_put 2 none d [hb_r 2 (hb_fR w 4 1 0) 0, hb_i (-24 : Int32)] w (fun rv w1 => hb_R yX2_readProduct cX2_readProduct 5 (some .boolean) (d + 1) 81 [some (hb_r 4 0 0), some (hb_i x1), some (hb_i xs0), some (hb_i x3), some (hb_i x4)] (rv.toList ++ []) w1 Q))) ∧ ((¬ x4 = 0) → (hb_fR w 4 1 0) < hb_ct 2 ∧ (hb_O yX1_put cX1_put 2 none d [hb_r 2 (hb_fR w 4 1 0) 0, hb_i (-23 : Int32)] w (fun rv w1 => hb_R yX2_readProduct cX2_readProduct 5 (some .boolean) (d + 1) 81 [some (hb_r 4 0 0), some (hb_i x1), some (hb_i xs0), some (hb_i x3), some (hb_i x4)] (rv.toList ++ []) w1 Q)))) : hb_R yX2_readProduct cX2_readProduct 5 (some .boolean) (d + 1) 61 [some (hb_r 4 0 0), some (hb_i x1), some (hb_i x2), some (hb_i x3), some (hb_i x4)] [hb_i xs0] w Q := by
  refine hb_istore_n (pc := 61) (i := 2) (ls1 := [some (hb_r 4 0 0), some (hb_i x1), some (hb_i xs0), some (hb_i x3), some (hb_i x4)]) dX2_readProduct_61 rfl (by decide) rfl ?_
  refine hb_aload_n (pc := 62) (i := 0) dX2_readProduct_62 rfl rfl ?_
  refine hb_getR (pc := 63) (g1 := hb_fR w 4 1 0) dX2_readProduct_63 fw_X2_15 cw_2 rfl (by decide) rfl (by decide) rfl ?_
  refine hb_iload (pc := 66) dX2_readProduct_66 rfl ?_
  refine hb_if_eq (pc := 68) (tgt := 76) dX2_readProduct_68 (by decide) (fun c1 => ?_) (fun c1 => ?_)
  · have ht1 := h.1 c1
    refine hb_bipush (pc := 76) (v := -24) dX2_readProduct_76 (by decide) ?_
    obtain ⟨ho2, hr2⟩ := ht1
    exact hb_callV (pc := 78) (As := [hb_i (-24 : Int32)]) (st := []) dX2_readProduct_78 ml_X2_150 mf_X1_put mi_X1_put (ci := 1) rfl rfl ho2 rfl rfl (Nat.le_of_ble_eq_true rfl) (Nat.le_of_ble_eq_true rfl) hr2 (fun _ _ q => q)
  · have ht1 := h.2 c1
    refine hb_bipush (pc := 71) (v := -23) dX2_readProduct_71 (by decide) ?_
    refine hb_goto (pc := 73) (tgt := 78) dX2_readProduct_73 (by decide) ?_
    obtain ⟨ho3, hr3⟩ := ht1
    exact hb_callV (pc := 78) (As := [hb_i (-23 : Int32)]) (st := []) dX2_readProduct_78 ml_X2_150 mf_X1_put mi_X1_put (ci := 1) rfl rfl ho3 rfl rfl (Nat.le_of_ble_eq_true rfl) (Nat.le_of_ble_eq_true rfl) hr3 (fun _ _ q => q)
set_option maxRecDepth 20000 in
theorem bk_X2_readProduct_81 {d : Nat} {w : hb_W} {Q : Option hb_V → hb_W → Prop} {x1 : Int32} {x2 : Int32} {x3 : Int32} {x4 : Int32} (h : hb_R yX2_readProduct cX2_readProduct 5 (some .boolean) (d + 1) 8 [some (hb_r 4 0 0), some (hb_i x1), some (hb_i x2), some (hb_i (x3 + (1 : Int32))), some (hb_i x4)] [] w Q) : hb_R yX2_readProduct cX2_readProduct 5 (some .boolean) (d + 1) 81 [some (hb_r 4 0 0), some (hb_i x1), some (hb_i x2), some (hb_i x3), some (hb_i x4)] [] w Q := by
  refine hb_iinc (pc := 81) (v := x3 + (1 : Int32)) (ls1 := [some (hb_r 4 0 0), some (hb_i x1), some (hb_i x2), some (hb_i (x3 + (1 : Int32))), some (hb_i x4)]) dX2_readProduct_81 rfl rfl (by decide) rfl ?_
  refine hb_goto (pc := 84) (tgt := 8) dX2_readProduct_84 (by decide) ?_
  exact h
theorem dX2_readPart_0 : decode cX2_readPart 0 = .ok (.aload_n 0, 1) := by decide +kernel
theorem dX2_readPart_1 : decode cX2_readPart 1 = .ok (.getfield 9, 3) := by decide +kernel
theorem dX2_readPart_4 : decode cX2_readPart 4 = .ok (.getfield 41, 3) := by decide +kernel
theorem dX2_readPart_7 : decode cX2_readPart 7 = .ok (.iconst 2, 1) := by decide +kernel
theorem dX2_readPart_8 : decode cX2_readPart 8 = .ok (.if_icmp .ne 34, 3) := by decide +kernel
theorem dX2_readPart_11 : decode cX2_readPart 11 = .ok (.aload_n 0, 1) := by decide +kernel
theorem dX2_readPart_12 : decode cX2_readPart 12 = .ok (.getfield 9, 3) := by decide +kernel
theorem dX2_readPart_15 : decode cX2_readPart 15 = .ok (.iconst 0, 1) := by decide +kernel
theorem dX2_readPart_16 : decode cX2_readPart 16 = .ok (.sipush 9999, 3) := by decide +kernel
theorem dX2_readPart_19 : decode cX2_readPart 19 = .ok (.invokevirtual 85, 3) := by decide +kernel
theorem dX2_readPart_22 : decode cX2_readPart 22 = .ok (.istore_n 2, 1) := by decide +kernel
theorem dX2_readPart_23 : decode cX2_readPart 23 = .ok (.aload_n 0, 1) := by decide +kernel
theorem dX2_readPart_24 : decode cX2_readPart 24 = .ok (.getfield 15, 3) := by decide +kernel
theorem dX2_readPart_27 : decode cX2_readPart 27 = .ok (.iload_n 2, 1) := by decide +kernel
theorem dX2_readPart_28 : decode cX2_readPart 28 = .ok (.invokevirtual 150, 3) := by decide +kernel
theorem dX2_readPart_31 : decode cX2_readPart 31 = .ok (.iload_n 2, 1) := by decide +kernel
theorem dX2_readPart_32 : decode cX2_readPart 32 = .ok (.iconst (-1), 1) := by decide +kernel
theorem dX2_readPart_33 : decode cX2_readPart 33 = .ok (.if_icmp .eq 7, 3) := by decide +kernel
theorem dX2_readPart_36 : decode cX2_readPart 36 = .ok (.iconst 1, 1) := by decide +kernel
theorem dX2_readPart_37 : decode cX2_readPart 37 = .ok (.goto 4, 3) := by decide +kernel
theorem dX2_readPart_40 : decode cX2_readPart 40 = .ok (.iconst 0, 1) := by decide +kernel
theorem dX2_readPart_41 : decode cX2_readPart 41 = .ok (.ireturn, 1) := by decide +kernel
theorem dX2_readPart_42 : decode cX2_readPart 42 = .ok (.aload_n 0, 1) := by decide +kernel
theorem dX2_readPart_43 : decode cX2_readPart 43 = .ok (.getfield 9, 3) := by decide +kernel
theorem dX2_readPart_46 : decode cX2_readPart 46 = .ok (.bipush 40, 2) := by decide +kernel
theorem dX2_readPart_48 : decode cX2_readPart 48 = .ok (.invokevirtual 162, 3) := by decide +kernel
theorem dX2_readPart_51 : decode cX2_readPart 51 = .ok (.ifCond .eq 39, 3) := by decide +kernel
theorem dX2_readPart_54 : decode cX2_readPart 54 = .ok (.aload_n 0, 1) := by decide +kernel
theorem dX2_readPart_55 : decode cX2_readPart 55 = .ok (.iload_n 1, 1) := by decide +kernel
theorem dX2_readPart_56 : decode cX2_readPart 56 = .ok (.invokevirtual 159, 3) := by decide +kernel
theorem dX2_readPart_59 : decode cX2_readPart 59 = .ok (.ifCond .eq 29, 3) := by decide +kernel
theorem dX2_readPart_62 : decode cX2_readPart 62 = .ok (.aload_n 0, 1) := by decide +kernel
theorem dX2_readPart_63 : decode cX2_readPart 63 = .ok (.iload_n 1, 1) := by decide +kernel
theorem dX2_readPart_64 : decode cX2_readPart 64 = .ok (.iconst 1, 1) := by decide +kernel
theorem dX2_readPart_65 : decode cX2_readPart 65 = .ok (.iadd, 1) := by decide +kernel
theorem dX2_readPart_66 : decode cX2_readPart 66 = .ok (.invokevirtual 77, 3) := by decide +kernel
theorem dX2_readPart_69 : decode cX2_readPart 69 = .ok (.ifCond .eq 19, 3) := by decide +kernel
theorem dX2_readPart_72 : decode cX2_readPart 72 = .ok (.aload_n 0, 1) := by decide +kernel
theorem dX2_readPart_73 : decode cX2_readPart 73 = .ok (.getfield 9, 3) := by decide +kernel
theorem dX2_readPart_76 : decode cX2_readPart 76 = .ok (.bipush 41, 2) := by decide +kernel
theorem dX2_readPart_78 : decode cX2_readPart 78 = .ok (.invokevirtual 96, 3) := by decide +kernel
theorem dX2_readPart_81 : decode cX2_readPart 81 = .ok (.ifCond .eq 7, 3) := by decide +kernel
theorem dX2_readPart_84 : decode cX2_readPart 84 = .ok (.iconst 1, 1) := by decide +kernel
theorem dX2_readPart_85 : decode cX2_readPart 85 = .ok (.goto 4, 3) := by decide +kernel
theorem dX2_readPart_88 : decode cX2_readPart 88 = .ok (.iconst 0, 1) := by decide +kernel
theorem dX2_readPart_89 : decode cX2_readPart 89 = .ok (.ireturn, 1) := by decide +kernel
theorem dX2_readPart_90 : decode cX2_readPart 90 = .ok (.aload_n 0, 1) := by decide +kernel
theorem dX2_readPart_91 : decode cX2_readPart 91 = .ok (.getfield 9, 3) := by decide +kernel
theorem dX2_readPart_94 : decode cX2_readPart 94 = .ok (.getfield 100, 3) := by decide +kernel
theorem dX2_readPart_97 : decode cX2_readPart 97 = .ok (.ldc 175, 2) := by decide +kernel
theorem dX2_readPart_99 : decode cX2_readPart 99 = .ok (.if_icmp .ne 11, 3) := by decide +kernel
theorem dX2_readPart_102 : decode cX2_readPart 102 = .ok (.aload_n 0, 1) := by decide +kernel
theorem dX2_readPart_103 : decode cX2_readPart 103 = .ok (.iload_n 1, 1) := by decide +kernel
theorem dX2_readPart_104 : decode cX2_readPart 104 = .ok (.bipush (-25), 2) := by decide +kernel
theorem dX2_readPart_106 : decode cX2_readPart 106 = .ok (.invokevirtual 176, 3) := by decide +kernel
theorem dX2_readPart_109 : decode cX2_readPart 109 = .ok (.ireturn, 1) := by decide +kernel
theorem dX2_readPart_110 : decode cX2_readPart 110 = .ok (.aload_n 0, 1) := by decide +kernel
theorem dX2_readPart_111 : decode cX2_readPart 111 = .ok (.getfield 9, 3) := by decide +kernel
theorem dX2_readPart_114 : decode cX2_readPart 114 = .ok (.getfield 100, 3) := by decide +kernel
theorem dX2_readPart_117 : decode cX2_readPart 117 = .ok (.ldc 179, 2) := by decide +kernel
theorem dX2_readPart_119 : decode cX2_readPart 119 = .ok (.if_icmp .ne 11, 3) := by decide +kernel
theorem dX2_readPart_122 : decode cX2_readPart 122 = .ok (.aload_n 0, 1) := by decide +kernel
theorem dX2_readPart_123 : decode cX2_readPart 123 = .ok (.iload_n 1, 1) := by decide +kernel
theorem dX2_readPart_124 : decode cX2_readPart 124 = .ok (.bipush (-26), 2) := by decide +kernel
theorem dX2_readPart_126 : decode cX2_readPart 126 = .ok (.invokevirtual 176, 3) := by decide +kernel
theorem dX2_readPart_129 : decode cX2_readPart 129 = .ok (.ireturn, 1) := by decide +kernel
theorem dX2_readPart_130 : decode cX2_readPart 130 = .ok (.aload_n 0, 1) := by decide +kernel
theorem dX2_readPart_131 : decode cX2_readPart 131 = .ok (.getfield 19, 3) := by decide +kernel
theorem dX2_readPart_134 : decode cX2_readPart 134 = .ok (.iconst 2, 1) := by decide +kernel
theorem dX2_readPart_135 : decode cX2_readPart 135 = .ok (.if_icmp .ne 23, 3) := by decide +kernel
theorem dX2_readPart_138 : decode cX2_readPart 138 = .ok (.aload_n 0, 1) := by decide +kernel
theorem dX2_readPart_139 : decode cX2_readPart 139 = .ok (.getfield 9, 3) := by decide +kernel
theorem dX2_readPart_142 : decode cX2_readPart 142 = .ok (.getfield 100, 3) := by decide +kernel
theorem dX2_readPart_145 : decode cX2_readPart 145 = .ok (.ldc 180, 2) := by decide +kernel
theorem dX2_readPart_147 : decode cX2_readPart 147 = .ok (.if_icmp .ne 11, 3) := by decide +kernel
theorem dX2_readPart_150 : decode cX2_readPart 150 = .ok (.aload_n 0, 1) := by decide +kernel
theorem dX2_readPart_151 : decode cX2_readPart 151 = .ok (.iload_n 1, 1) := by decide +kernel
theorem dX2_readPart_152 : decode cX2_readPart 152 = .ok (.bipush (-11), 2) := by decide +kernel
theorem dX2_readPart_154 : decode cX2_readPart 154 = .ok (.invokevirtual 181, 3) := by decide +kernel
theorem dX2_readPart_157 : decode cX2_readPart 157 = .ok (.ireturn, 1) := by decide +kernel
theorem dX2_readPart_158 : decode cX2_readPart 158 = .ok (.aload_n 0, 1) := by decide +kernel
theorem dX2_readPart_159 : decode cX2_readPart 159 = .ok (.getfield 19, 3) := by decide +kernel
theorem dX2_readPart_162 : decode cX2_readPart 162 = .ok (.iconst 2, 1) := by decide +kernel
theorem dX2_readPart_163 : decode cX2_readPart 163 = .ok (.if_icmp .ne 24, 3) := by decide +kernel
theorem dX2_readPart_166 : decode cX2_readPart 166 = .ok (.aload_n 0, 1) := by decide +kernel
theorem dX2_readPart_167 : decode cX2_readPart 167 = .ok (.getfield 9, 3) := by decide +kernel
theorem dX2_readPart_170 : decode cX2_readPart 170 = .ok (.getfield 100, 3) := by decide +kernel
theorem dX2_readPart_173 : decode cX2_readPart 173 = .ok (.sipush 3220, 3) := by decide +kernel
theorem dX2_readPart_176 : decode cX2_readPart 176 = .ok (.if_icmp .ne 11, 3) := by decide +kernel
theorem dX2_readPart_179 : decode cX2_readPart 179 = .ok (.aload_n 0, 1) := by decide +kernel
theorem dX2_readPart_180 : decode cX2_readPart 180 = .ok (.iload_n 1, 1) := by decide +kernel
theorem dX2_readPart_181 : decode cX2_readPart 181 = .ok (.bipush (-12), 2) := by decide +kernel
theorem dX2_readPart_183 : decode cX2_readPart 183 = .ok (.invokevirtual 181, 3) := by decide +kernel
theorem dX2_readPart_186 : decode cX2_readPart 186 = .ok (.ireturn, 1) := by decide +kernel
theorem dX2_readPart_187 : decode cX2_readPart 187 = .ok (.aload_n 0, 1) := by decide +kernel
theorem dX2_readPart_188 : decode cX2_readPart 188 = .ok (.invokevirtual 184, 3) := by decide +kernel
theorem dX2_readPart_191 : decode cX2_readPart 191 = .ok (.istore_n 2, 1) := by decide +kernel
theorem dX2_readPart_192 : decode cX2_readPart 192 = .ok (.iload_n 2, 1) := by decide +kernel
theorem dX2_readPart_193 : decode cX2_readPart 193 = .ok (.ifCond .ne 19, 3) := by decide +kernel
theorem dX2_readPart_196 : decode cX2_readPart 196 = .ok (.aload_n 0, 1) := by decide +kernel
theorem dX2_readPart_197 : decode cX2_readPart 197 = .ok (.getfield 9, 3) := by decide +kernel
theorem dX2_readPart_200 : decode cX2_readPart 200 = .ok (.iconst 1, 1) := by decide +kernel
theorem dX2_readPart_201 : decode cX2_readPart 201 = .ok (.aload_n 0, 1) := by decide +kernel
theorem dX2_readPart_202 : decode cX2_readPart 202 = .ok (.getfield 9, 3) := by decide +kernel
theorem dX2_readPart_205 : decode cX2_readPart 205 = .ok (.getfield 47, 3) := by decide +kernel
theorem dX2_readPart_208 : decode cX2_readPart 208 = .ok (.invokevirtual 50, 3) := by decide +kernel
theorem dX2_readPart_211 : decode cX2_readPart 211 = .ok (.ireturn, 1) := by decide +kernel
theorem dX2_readPart_212 : decode cX2_readPart 212 = .ok (.aload_n 0, 1) := by decide +kernel
theorem dX2_readPart_213 : decode cX2_readPart 213 = .ok (.getfield 15, 3) := by decide +kernel
theorem dX2_readPart_216 : decode cX2_readPart 216 = .ok (.iload_n 2, 1) := by decide +kernel
theorem dX2_readPart_217 : decode cX2_readPart 217 = .ok (.invokevirtual 150, 3) := by decide +kernel
theorem dX2_readPart_220 : decode cX2_readPart 220 = .ok (.aload_n 0, 1) := by decide +kernel
theorem dX2_readPart_221 : decode cX2_readPart 221 = .ok (.getfield 9, 3) := by decide +kernel
theorem dX2_readPart_224 : decode cX2_readPart 224 = .ok (.invokevirtual 70, 3) := by decide +kernel
theorem dX2_readPart_227 : decode cX2_readPart 227 = .ok (.iconst 1, 1) := by decide +kernel
theorem dX2_readPart_228 : decode cX2_readPart 228 = .ok (.ireturn, 1) := by decide +kernel
set_option maxRecDepth 20000 in
theorem bk_X2_readPart_0 {d : Nat} {w : hb_W} {Q : Option hb_V → hb_W → Prop} {x1 : Int32} (h : ((¬ (hb_fI w 3 1 0) = (2 : Int32)) → hb_O yX7_isSign cX7_isSign 2 (some .boolean) d [hb_r 3 0 0, hb_i (40 : Int32)] w (fun rv w1 => hb_R yX2_readPart cX2_readPart 3 (some .boolean) (d + 1) 51 [some (hb_r 4 0 0), some (hb_i x1), none] (rv.toList ++ []) w1 Q)) ∧ (((hb_fI w 3 1 0) = (2 : Int32)) → hb_O yX7_takeNumber cX7_takeNumber 4 (some .int) d [hb_r 3 0 0, hb_i (0 : Int32), hb_i (9999 : Int32)] w (fun rv w1 => hb_R yX2_readPart cX2_readPart 3 (some .boolean) (d + 1) 22 [some (hb_r 4 0 0), some (hb_i x1), none] (rv.toList ++ []) w1 Q))) : hb_R yX2_readPart cX2_readPart 3 (some .boolean) (d + 1) 0 [some (hb_r 4 0 0), some (hb_i x1), none] [] w Q := by
  refine hb_aload_n (pc := 0) (i := 0) dX2_readPart_0 rfl rfl ?_
  refine hb_getR (pc := 1) (g1 := 0) dX2_readPart_1 fw_X2_9 cw_2 rfl (by decide) rfl (by decide) rfl ?_
  refine hb_getIx (pc := 4) (x := hb_fI w 3 1 0) dX2_readPart_4 fw_X2_41 cw_7 rfl (by decide) rfl rfl ?_
  refine hb_iconst (pc := 7) (v := 2) dX2_readPart_7 (by decide) ?_
  refine hb_icmp_ne (pc := 8) (tgt := 42) dX2_readPart_8 (by decide) (fun c1 => ?_) (fun c1 => ?_)
  · have ht1 := h.1 c1
    refine hb_aload_n (pc := 42) (i := 0) dX2_readPart_42 rfl rfl ?_
    refine hb_getR (pc := 43) (g1 := 0) dX2_readPart_43 fw_X2_9 cw_2 rfl (by decide) rfl (by decide) rfl ?_
    refine hb_bipush (pc := 46) (v := 40) dX2_readPart_46 (by decide) ?_
    exact hb_callV (pc := 48) (As := [hb_i (40 : Int32)]) (st := []) dX2_readPart_48 ml_X2_162 mf_X7_isSign mi_X7_isSign (ci := 7) rfl rfl (by decide) rfl rfl (Nat.le_of_ble_eq_true rfl) (Nat.le_of_ble_eq_true rfl) ht1 (fun _ _ q => q)
  · have ht1 := h.2 c1
    refine hb_aload_n (pc := 11) (i := 0) dX2_readPart_11 rfl rfl ?_
    refine hb_getR (pc := 12) (g1 := 0) dX2_readPart_12 fw_X2_9 cw_2 rfl (by decide) rfl (by decide) rfl ?_
    refine hb_iconst (pc := 15) (v := 0) dX2_readPart_15 (by decide) ?_
    refine hb_sipush (pc := 16) (v := 9999) dX2_readPart_16 (by decide) ?_
    exact hb_callV (pc := 19) (As := [hb_i (0 : Int32), hb_i (9999 : Int32)]) (st := []) dX2_readPart_19 ml_X2_85 mf_X7_takeNumber mi_X7_takeNumber (ci := 7) rfl rfl (by decide) rfl rfl (Nat.le_of_ble_eq_true rfl) (Nat.le_of_ble_eq_true rfl) ht1 (fun _ _ q => q)
set_option maxRecDepth 20000 in
theorem bk_X2_readPart_22 {d : Nat} {w : hb_W} {Q : Option hb_V → hb_W → Prop} {x1 : Int32} {xs0 : Int32} (h : (hb_fR w 4 1 0) < hb_ct 2 ∧ (hb_O yX1_put cX1_put 2 none d [hb_r 2 (hb_fR w 4 1 0) 0, hb_i xs0] w (fun rv w1 => hb_R yX2_readPart cX2_readPart 3 (some .boolean) (d + 1) 31 [some (hb_r 4 0 0), some (hb_i x1), some (hb_i xs0)] (rv.toList ++ []) w1 Q))) : hb_R yX2_readPart cX2_readPart 3 (some .boolean) (d + 1) 22 [some (hb_r 4 0 0), some (hb_i x1), none] [hb_i xs0] w Q := by
  refine hb_istore_n (pc := 22) (i := 2) (ls1 := [some (hb_r 4 0 0), some (hb_i x1), some (hb_i xs0)]) dX2_readPart_22 rfl (by decide) rfl ?_
  refine hb_aload_n (pc := 23) (i := 0) dX2_readPart_23 rfl rfl ?_
  refine hb_getR (pc := 24) (g1 := hb_fR w 4 1 0) dX2_readPart_24 fw_X2_15 cw_2 rfl (by decide) rfl (by decide) rfl ?_
  refine hb_iload_n (pc := 27) (i := 2) dX2_readPart_27 rfl rfl ?_
  obtain ⟨ho1, hr1⟩ := h
  exact hb_callV (pc := 28) (As := [hb_i xs0]) (st := []) dX2_readPart_28 ml_X2_150 mf_X1_put mi_X1_put (ci := 1) rfl rfl ho1 rfl rfl (Nat.le_of_ble_eq_true rfl) (Nat.le_of_ble_eq_true rfl) hr1 (fun _ _ q => q)
set_option maxRecDepth 20000 in
theorem bk_X2_readPart_31 {d : Nat} {w : hb_W} {Q : Option hb_V → hb_W → Prop} {x1 : Int32} {x2 : Int32} (h : ((x2 = (-1 : Int32)) → Q (some (hb_i (0 : Int32))) w) ∧ ((¬ x2 = (-1 : Int32)) → Q (some (hb_i (1 : Int32))) w)) : hb_R yX2_readPart cX2_readPart 3 (some .boolean) (d + 1) 31 [some (hb_r 4 0 0), some (hb_i x1), some (hb_i x2)] [] w Q := by
  refine hb_iload_n (pc := 31) (i := 2) dX2_readPart_31 rfl rfl ?_
  refine hb_iconst (pc := 32) (v := -1) dX2_readPart_32 (by decide) ?_
  refine hb_icmp_eq (pc := 33) (tgt := 40) dX2_readPart_33 (by decide) (fun c1 => ?_) (fun c1 => ?_)
  · have ht1 := h.1 c1
    refine hb_iconst (pc := 40) (v := 0) dX2_readPart_40 (by decide) ?_
    exact hb_zret (pc := 41) dX2_readPart_41 rfl (Or.inl rfl) ht1
  · have ht1 := h.2 c1
    refine hb_iconst (pc := 36) (v := 1) dX2_readPart_36 (by decide) ?_
    refine hb_goto (pc := 37) (tgt := 41) dX2_readPart_37 (by decide) ?_
    exact hb_zret (pc := 41) dX2_readPart_41 rfl (Or.inr rfl) ht1
set_option maxRecDepth 20000 in
theorem bk_X2_readPart_51 {d : Nat} {w : hb_W} {Q : Option hb_V → hb_W → Prop} {x1 : Int32} {xs0 : Int32} (h : ((xs0 = 0) → ((¬ (hb_fI w 3 2 0) = (115086 : Int32)) → ((¬ (hb_fI w 3 2 0) = (114840 : Int32)) → ((¬ (hb_fI w 4 2 0) = (2 : Int32)) → ((¬ (hb_fI w 4 2 0) = (2 : Int32)) → hb_O yX2_nameHere cX2_nameHere 1 (some .int) d [hb_r 4 0 0] w (fun rv w1 => hb_R yX2_readPart cX2_readPart 3 (some .boolean) (d + 1) 191 [some (hb_r 4 0 0), some (hb_i x1), none] (rv.toList ++ []) w1 Q)) ∧ (((hb_fI w 4 2 0) = (2 : Int32)) → ((¬ (hb_fI w 3 2 0) = (3220 : Int32)) → hb_O yX2_nameHere cX2_nameHere 1 (some .int) d [hb_r 4 0 0] w (fun rv w1 => hb_R yX2_readPart cX2_readPart 3 (some .boolean) (d + 1) 191 [some (hb_r 4 0 0), some (hb_i x1), none] (rv.toList ++ []) w1 Q)) ∧ (((hb_fI w 3 2 0) = (3220 : Int32)) → hb_O yX2_readLookup cX2_readLookup 4 (some .boolean) d [hb_r 4 0 0, hb_i x1, hb_i (-12 : Int32)] w (fun rv w1 => hb_R yX2_readPart cX2_readPart 3 (some .boolean) (d + 1) 186 [some (hb_r 4 0 0), some (hb_i x1), none] (rv.toList ++ []) w1 Q)))) ∧ (((hb_fI w 4 2 0) = (2 : Int32)) → ((¬ (hb_fI w 3 2 0) = (3674795 : Int32)) → ((¬ (hb_fI w 4 2 0) = (2 : Int32)) → hb_O yX2_nameHere cX2_nameHere 1 (some .int) d [hb_r 4 0 0] w (fun rv w1 => hb_R yX2_readPart cX2_readPart 3 (some .boolean) (d + 1) 191 [some (hb_r 4 0 0), some (hb_i x1), none] (rv.toList ++ []) w1 Q)) ∧ (((hb_fI w 4 2 0) = (2 : Int32)) → ((¬ (hb_fI w 3 2 0) = (3220 : Int32)) → hb_O yX2_nameHere cX2_nameHere 1 (some .int) d [hb_r 4 0 0] w (fun rv w1 => hb_R yX2_readPart cX2_readPart 3 (some .boolean) (d + 1) 191 [some (hb_r 4 0 0), some (hb_i x1), none] (rv.toList ++ []) w1 Q)) ∧ (((hb_fI w 3 2 0) = (3220 : Int32)) → hb_O yX2_readLookup cX2_readLookup 4 (some .boolean) d [hb_r 4 0 0, hb_i x1, hb_i (-12 : Int32)] w (fun rv w1 => hb_R yX2_readPart cX2_readPart 3 (some .boolean) (d + 1) 186 [some (hb_r 4 0 0), some (hb_i x1), none] (rv.toList ++ []) w1 Q)))) ∧ (((hb_fI w 3 2 0) = (3674795 : Int32)) → hb_O yX2_readLookup cX2_readLookup 4 (some .boolean) d [hb_r 4 0 0, hb_i x1, hb_i (-11 : Int32)] w (fun rv w1 => hb_R yX2_readPart cX2_readPart 3 (some .boolean) (d + 1) 157 [some (hb_r 4 0 0), some (hb_i x1), none] (rv.toList ++ []) w1 Q)))) ∧ (((hb_fI w 3 2 0) = (114840 : Int32)) → hb_O yX2_readPair cX2_readPair 4 (some .boolean) d [hb_r 4 0 0, hb_i x1, hb_i (-26 : Int32)] w (fun rv w1 => hb_R yX2_readPart cX2_readPart 3 (some .boolean) (d + 1) 129 [some (hb_r 4 0 0), some (hb_i x1), none] (rv.toList ++ []) w1 Q))) ∧ (((hb_fI w 3 2 0) = (115086 : Int32)) → hb_O yX2_readPair cX2_readPair 4 (some .boolean) d [hb_r 4 0 0, hb_i x1, hb_i (-25 : Int32)] w (fun rv w1 => hb_R yX2_readPart cX2_readPart 3 (some .boolean) (d + 1) 109 [some (hb_r 4 0 0), some (hb_i x1), none] (rv.toList ++ []) w1 Q))) ∧ ((¬ xs0 = 0) → hb_O yX2_goIn cX2_goIn 2 (some .boolean) d [hb_r 4 0 0, hb_i x1] w (fun rv w1 => hb_R yX2_readPart cX2_readPart 3 (some .boolean) (d + 1) 59 [some (hb_r 4 0 0), some (hb_i x1), none] (rv.toList ++ []) w1 Q))) : hb_R yX2_readPart cX2_readPart 3 (some .boolean) (d + 1) 51 [some (hb_r 4 0 0), some (hb_i x1), none] [hb_i xs0] w Q := by
  refine hb_if_eq (pc := 51) (tgt := 90) dX2_readPart_51 (by decide) (fun c1 => ?_) (fun c1 => ?_)
  · have ht1 := h.1 c1
    refine hb_aload_n (pc := 90) (i := 0) dX2_readPart_90 rfl rfl ?_
    refine hb_getR (pc := 91) (g1 := 0) dX2_readPart_91 fw_X2_9 cw_2 rfl (by decide) rfl (by decide) rfl ?_
    refine hb_getIx (pc := 94) (x := hb_fI w 3 2 0) dX2_readPart_94 fw_X2_100 cw_7 rfl (by decide) rfl rfl ?_
    refine hb_ldc (pc := 97) (v := 115086) dX2_readPart_97 kc_X2_175 ?_
    refine hb_icmp_ne (pc := 99) (tgt := 110) dX2_readPart_99 (by decide) (fun c2 => ?_) (fun c2 => ?_)
    · have ht2 := ht1.1 c2
      refine hb_aload_n (pc := 110) (i := 0) dX2_readPart_110 rfl rfl ?_
      refine hb_getR (pc := 111) (g1 := 0) dX2_readPart_111 fw_X2_9 cw_2 rfl (by decide) rfl (by decide) rfl ?_
      refine hb_getIx (pc := 114) (x := hb_fI w 3 2 0) dX2_readPart_114 fw_X2_100 cw_7 rfl (by decide) rfl rfl ?_
      refine hb_ldc (pc := 117) (v := 114840) dX2_readPart_117 kc_X2_179 ?_
      refine hb_icmp_ne (pc := 119) (tgt := 130) dX2_readPart_119 (by decide) (fun c3 => ?_) (fun c3 => ?_)
      · have ht3 := ht2.1 c3
        refine hb_aload_n (pc := 130) (i := 0) dX2_readPart_130 rfl rfl ?_
        refine hb_getIx (pc := 131) (x := hb_fI w 4 2 0) dX2_readPart_131 fw_X2_19 cw_2 rfl (by decide) rfl rfl ?_
        refine hb_iconst (pc := 134) (v := 2) dX2_readPart_134 (by decide) ?_
        refine hb_icmp_ne (pc := 135) (tgt := 158) dX2_readPart_135 (by decide) (fun c4 => ?_) (fun c4 => ?_)
        · have ht4 := ht3.1 c4
          refine hb_aload_n (pc := 158) (i := 0) dX2_readPart_158 rfl rfl ?_
          refine hb_getIx (pc := 159) (x := hb_fI w 4 2 0) dX2_readPart_159 fw_X2_19 cw_2 rfl (by decide) rfl rfl ?_
          refine hb_iconst (pc := 162) (v := 2) dX2_readPart_162 (by decide) ?_
          refine hb_icmp_ne (pc := 163) (tgt := 187) dX2_readPart_163 (by decide) (fun c5 => ?_) (fun c5 => ?_)
          · have ht5 := ht4.1 c5
            refine hb_aload_n (pc := 187) (i := 0) dX2_readPart_187 rfl rfl ?_
            exact hb_callV (pc := 188) (As := []) (st := []) dX2_readPart_188 ml_X2_184 mf_X2_nameHere mi_X2_nameHere (ci := 2) rfl rfl (by decide) rfl rfl (Nat.le_of_ble_eq_true rfl) (Nat.le_of_ble_eq_true rfl) ht5 (fun _ _ q => q)
          · have ht5 := ht4.2 c5
            refine hb_aload_n (pc := 166) (i := 0) dX2_readPart_166 rfl rfl ?_
            refine hb_getR (pc := 167) (g1 := 0) dX2_readPart_167 fw_X2_9 cw_2 rfl (by decide) rfl (by decide) rfl ?_
            refine hb_getIx (pc := 170) (x := hb_fI w 3 2 0) dX2_readPart_170 fw_X2_100 cw_7 rfl (by decide) rfl rfl ?_
            refine hb_sipush (pc := 173) (v := 3220) dX2_readPart_173 (by decide) ?_
            refine hb_icmp_ne (pc := 176) (tgt := 187) dX2_readPart_176 (by decide) (fun c6 => ?_) (fun c6 => ?_)
            · have ht6 := ht5.1 c6
              refine hb_aload_n (pc := 187) (i := 0) dX2_readPart_187 rfl rfl ?_
              exact hb_callV (pc := 188) (As := []) (st := []) dX2_readPart_188 ml_X2_184 mf_X2_nameHere mi_X2_nameHere (ci := 2) rfl rfl (by decide) rfl rfl (Nat.le_of_ble_eq_true rfl) (Nat.le_of_ble_eq_true rfl) ht6 (fun _ _ q => q)
            · have ht6 := ht5.2 c6
              refine hb_aload_n (pc := 179) (i := 0) dX2_readPart_179 rfl rfl ?_
              refine hb_iload_n (pc := 180) (i := 1) dX2_readPart_180 rfl rfl ?_
              refine hb_bipush (pc := 181) (v := -12) dX2_readPart_181 (by decide) ?_
              exact hb_callV (pc := 183) (As := [hb_i x1, hb_i (-12 : Int32)]) (st := []) dX2_readPart_183 ml_X2_181 mf_X2_readLookup mi_X2_readLookup (ci := 2) rfl rfl (by decide) rfl rfl (Nat.le_of_ble_eq_true rfl) (Nat.le_of_ble_eq_true rfl) ht6 (fun _ _ q => q)
        · have ht4 := ht3.2 c4
          refine hb_aload_n (pc := 138) (i := 0) dX2_readPart_138 rfl rfl ?_
          refine hb_getR (pc := 139) (g1 := 0) dX2_readPart_139 fw_X2_9 cw_2 rfl (by decide) rfl (by decide) rfl ?_
          refine hb_getIx (pc := 142) (x := hb_fI w 3 2 0) dX2_readPart_142 fw_X2_100 cw_7 rfl (by decide) rfl rfl ?_
          refine hb_ldc (pc := 145) (v := 3674795) dX2_readPart_145 kc_X2_180 ?_
          refine hb_icmp_ne (pc := 147) (tgt := 158) dX2_readPart_147 (by decide) (fun c7 => ?_) (fun c7 => ?_)
          · have ht7 := ht4.1 c7
            refine hb_aload_n (pc := 158) (i := 0) dX2_readPart_158 rfl rfl ?_
            refine hb_getIx (pc := 159) (x := hb_fI w 4 2 0) dX2_readPart_159 fw_X2_19 cw_2 rfl (by decide) rfl rfl ?_
            refine hb_iconst (pc := 162) (v := 2) dX2_readPart_162 (by decide) ?_
            refine hb_icmp_ne (pc := 163) (tgt := 187) dX2_readPart_163 (by decide) (fun c8 => ?_) (fun c8 => ?_)
            · have ht8 := ht7.1 c8
              refine hb_aload_n (pc := 187) (i := 0) dX2_readPart_187 rfl rfl ?_
              exact hb_callV (pc := 188) (As := []) (st := []) dX2_readPart_188 ml_X2_184 mf_X2_nameHere mi_X2_nameHere (ci := 2) rfl rfl (by decide) rfl rfl (Nat.le_of_ble_eq_true rfl) (Nat.le_of_ble_eq_true rfl) ht8 (fun _ _ q => q)
            · have ht8 := ht7.2 c8
              refine hb_aload_n (pc := 166) (i := 0) dX2_readPart_166 rfl rfl ?_
              refine hb_getR (pc := 167) (g1 := 0) dX2_readPart_167 fw_X2_9 cw_2 rfl (by decide) rfl (by decide) rfl ?_
              refine hb_getIx (pc := 170) (x := hb_fI w 3 2 0) dX2_readPart_170 fw_X2_100 cw_7 rfl (by decide) rfl rfl ?_
              refine hb_sipush (pc := 173) (v := 3220) dX2_readPart_173 (by decide) ?_
              refine hb_icmp_ne (pc := 176) (tgt := 187) dX2_readPart_176 (by decide) (fun c9 => ?_) (fun c9 => ?_)
              · have ht9 := ht8.1 c9
                refine hb_aload_n (pc := 187) (i := 0) dX2_readPart_187 rfl rfl ?_
                exact hb_callV (pc := 188) (As := []) (st := []) dX2_readPart_188 ml_X2_184 mf_X2_nameHere mi_X2_nameHere (ci := 2) rfl rfl (by decide) rfl rfl (Nat.le_of_ble_eq_true rfl) (Nat.le_of_ble_eq_true rfl) ht9 (fun _ _ q => q)
              · have ht9 := ht8.2 c9
                refine hb_aload_n (pc := 179) (i := 0) dX2_readPart_179 rfl rfl ?_
                refine hb_iload_n (pc := 180) (i := 1) dX2_readPart_180 rfl rfl ?_
                refine hb_bipush (pc := 181) (v := -12) dX2_readPart_181 (by decide) ?_
                exact hb_callV (pc := 183) (As := [hb_i x1, hb_i (-12 : Int32)]) (st := []) dX2_readPart_183 ml_X2_181 mf_X2_readLookup mi_X2_readLookup (ci := 2) rfl rfl (by decide) rfl rfl (Nat.le_of_ble_eq_true rfl) (Nat.le_of_ble_eq_true rfl) ht9 (fun _ _ q => q)
          · have ht7 := ht4.2 c7
            refine hb_aload_n (pc := 150) (i := 0) dX2_readPart_150 rfl rfl ?_
            refine hb_iload_n (pc := 151) (i := 1) dX2_readPart_151 rfl rfl ?_
            refine hb_bipush (pc := 152) (v := -11) dX2_readPart_152 (by decide) ?_
            exact hb_callV (pc := 154) (As := [hb_i x1, hb_i (-11 : Int32)]) (st := []) dX2_readPart_154 ml_X2_181 mf_X2_readLookup mi_X2_readLookup (ci := 2) rfl rfl (by decide) rfl rfl (Nat.le_of_ble_eq_true rfl) (Nat.le_of_ble_eq_true rfl) ht7 (fun _ _ q => q)
      · have ht3 := ht2.2 c3
        refine hb_aload_n (pc := 122) (i := 0) dX2_readPart_122 rfl rfl ?_
        refine hb_iload_n (pc := 123) (i := 1) dX2_readPart_123 rfl rfl ?_
        refine hb_bipush (pc := 124) (v := -26) dX2_readPart_124 (by decide) ?_
        exact hb_callV (pc := 126) (As := [hb_i x1, hb_i (-26 : Int32)]) (st := []) dX2_readPart_126 ml_X2_176 mf_X2_readPair mi_X2_readPair (ci := 2) rfl rfl (by decide) rfl rfl (Nat.le_of_ble_eq_true rfl) (Nat.le_of_ble_eq_true rfl) ht3 (fun _ _ q => q)
    · have ht2 := ht1.2 c2
      refine hb_aload_n (pc := 102) (i := 0) dX2_readPart_102 rfl rfl ?_
      refine hb_iload_n (pc := 103) (i := 1) dX2_readPart_103 rfl rfl ?_
      refine hb_bipush (pc := 104) (v := -25) dX2_readPart_104 (by decide) ?_
      exact hb_callV (pc := 106) (As := [hb_i x1, hb_i (-25 : Int32)]) (st := []) dX2_readPart_106 ml_X2_176 mf_X2_readPair mi_X2_readPair (ci := 2) rfl rfl (by decide) rfl rfl (Nat.le_of_ble_eq_true rfl) (Nat.le_of_ble_eq_true rfl) ht2 (fun _ _ q => q)
  · have ht1 := h.2 c1
    refine hb_aload_n (pc := 54) (i := 0) dX2_readPart_54 rfl rfl ?_
    refine hb_iload_n (pc := 55) (i := 1) dX2_readPart_55 rfl rfl ?_
    exact hb_callV (pc := 56) (As := [hb_i x1]) (st := []) dX2_readPart_56 ml_X2_159 mf_X2_goIn mi_X2_goIn (ci := 2) rfl rfl (by decide) rfl rfl (Nat.le_of_ble_eq_true rfl) (Nat.le_of_ble_eq_true rfl) ht1 (fun _ _ q => q)
set_option maxRecDepth 20000 in
theorem bk_X2_readPart_59 {d : Nat} {w : hb_W} {Q : Option hb_V → hb_W → Prop} {x1 : Int32} {xs0 : Int32} (h : ((xs0 = 0) → Q (some (hb_i (0 : Int32))) w) ∧ ((¬ xs0 = 0) → hb_O yX2_readSum cX2_readSum 5 (some .boolean) d [hb_r 4 0 0, hb_i (x1 + (1 : Int32))] w (fun rv w1 => hb_R yX2_readPart cX2_readPart 3 (some .boolean) (d + 1) 69 [some (hb_r 4 0 0), some (hb_i x1), none] (rv.toList ++ []) w1 Q))) : hb_R yX2_readPart cX2_readPart 3 (some .boolean) (d + 1) 59 [some (hb_r 4 0 0), some (hb_i x1), none] [hb_i xs0] w Q := by
  refine hb_if_eq (pc := 59) (tgt := 88) dX2_readPart_59 (by decide) (fun c1 => ?_) (fun c1 => ?_)
  · have ht1 := h.1 c1
    refine hb_iconst (pc := 88) (v := 0) dX2_readPart_88 (by decide) ?_
    exact hb_zret (pc := 89) dX2_readPart_89 rfl (Or.inl rfl) ht1
  · have ht1 := h.2 c1
    refine hb_aload_n (pc := 62) (i := 0) dX2_readPart_62 rfl rfl ?_
    refine hb_iload_n (pc := 63) (i := 1) dX2_readPart_63 rfl rfl ?_
    refine hb_iconst (pc := 64) (v := 1) dX2_readPart_64 (by decide) ?_
    refine hb_iadd (pc := 65) dX2_readPart_65 ?_
    exact hb_callV (pc := 66) (As := [hb_i (x1 + (1 : Int32))]) (st := []) dX2_readPart_66 ml_X2_77 mf_X2_readSum mi_X2_readSum (ci := 2) rfl rfl (by decide) rfl rfl (Nat.le_of_ble_eq_true rfl) (Nat.le_of_ble_eq_true rfl) ht1 (fun _ _ q => q)
set_option maxRecDepth 20000 in
theorem bk_X2_readPart_69 {d : Nat} {w : hb_W} {Q : Option hb_V → hb_W → Prop} {x1 : Int32} {xs0 : Int32} (h : ((xs0 = 0) → Q (some (hb_i (0 : Int32))) w) ∧ ((¬ xs0 = 0) → hb_O yX7_takeSign cX7_takeSign 2 (some .boolean) d [hb_r 3 0 0, hb_i (41 : Int32)] w (fun rv w1 => hb_R yX2_readPart cX2_readPart 3 (some .boolean) (d + 1) 81 [some (hb_r 4 0 0), some (hb_i x1), none] (rv.toList ++ []) w1 Q))) : hb_R yX2_readPart cX2_readPart 3 (some .boolean) (d + 1) 69 [some (hb_r 4 0 0), some (hb_i x1), none] [hb_i xs0] w Q := by
  refine hb_if_eq (pc := 69) (tgt := 88) dX2_readPart_69 (by decide) (fun c1 => ?_) (fun c1 => ?_)
  · have ht1 := h.1 c1
    refine hb_iconst (pc := 88) (v := 0) dX2_readPart_88 (by decide) ?_
    exact hb_zret (pc := 89) dX2_readPart_89 rfl (Or.inl rfl) ht1
  · have ht1 := h.2 c1
    refine hb_aload_n (pc := 72) (i := 0) dX2_readPart_72 rfl rfl ?_
    refine hb_getR (pc := 73) (g1 := 0) dX2_readPart_73 fw_X2_9 cw_2 rfl (by decide) rfl (by decide) rfl ?_
    refine hb_bipush (pc := 76) (v := 41) dX2_readPart_76 (by decide) ?_
    exact hb_callV (pc := 78) (As := [hb_i (41 : Int32)]) (st := []) dX2_readPart_78 ml_X2_96 mf_X7_takeSign mi_X7_takeSign (ci := 7) rfl rfl (by decide) rfl rfl (Nat.le_of_ble_eq_true rfl) (Nat.le_of_ble_eq_true rfl) ht1 (fun _ _ q => q)
set_option maxRecDepth 20000 in
theorem bk_X2_readPart_81 {d : Nat} {w : hb_W} {Q : Option hb_V → hb_W → Prop} {x1 : Int32} {xs0 : Int32} (h : ((xs0 = 0) → Q (some (hb_i (0 : Int32))) w) ∧ ((¬ xs0 = 0) → Q (some (hb_i (1 : Int32))) w)) : hb_R yX2_readPart cX2_readPart 3 (some .boolean) (d + 1) 81 [some (hb_r 4 0 0), some (hb_i x1), none] [hb_i xs0] w Q := by
  refine hb_if_eq (pc := 81) (tgt := 88) dX2_readPart_81 (by decide) (fun c1 => ?_) (fun c1 => ?_)
  · have ht1 := h.1 c1
    refine hb_iconst (pc := 88) (v := 0) dX2_readPart_88 (by decide) ?_
    exact hb_zret (pc := 89) dX2_readPart_89 rfl (Or.inl rfl) ht1
  · have ht1 := h.2 c1
    refine hb_iconst (pc := 84) (v := 1) dX2_readPart_84 (by decide) ?_
    refine hb_goto (pc := 85) (tgt := 89) dX2_readPart_85 (by decide) ?_
    exact hb_zret (pc := 89) dX2_readPart_89 rfl (Or.inr rfl) ht1
set_option maxRecDepth 20000 in
theorem bk_X2_readPart_109 {d : Nat} {w : hb_W} {Q : Option hb_V → hb_W → Prop} {x1 : Int32} {xs0 : Int32} (h : (xs0 = 0 ∨ xs0 = 1) ∧ Q (some (hb_i xs0)) w) : hb_R yX2_readPart cX2_readPart 3 (some .boolean) (d + 1) 109 [some (hb_r 4 0 0), some (hb_i x1), none] [hb_i xs0] w Q := by
  exact hb_zret (pc := 109) dX2_readPart_109 rfl h.1 h.2
set_option maxRecDepth 20000 in
theorem bk_X2_readPart_129 {d : Nat} {w : hb_W} {Q : Option hb_V → hb_W → Prop} {x1 : Int32} {xs0 : Int32} (h : (xs0 = 0 ∨ xs0 = 1) ∧ Q (some (hb_i xs0)) w) : hb_R yX2_readPart cX2_readPart 3 (some .boolean) (d + 1) 129 [some (hb_r 4 0 0), some (hb_i x1), none] [hb_i xs0] w Q := by
  exact hb_zret (pc := 129) dX2_readPart_129 rfl h.1 h.2
set_option maxRecDepth 20000 in
theorem bk_X2_readPart_157 {d : Nat} {w : hb_W} {Q : Option hb_V → hb_W → Prop} {x1 : Int32} {xs0 : Int32} (h : (xs0 = 0 ∨ xs0 = 1) ∧ Q (some (hb_i xs0)) w) : hb_R yX2_readPart cX2_readPart 3 (some .boolean) (d + 1) 157 [some (hb_r 4 0 0), some (hb_i x1), none] [hb_i xs0] w Q := by
  exact hb_zret (pc := 157) dX2_readPart_157 rfl h.1 h.2
set_option maxRecDepth 20000 in
theorem bk_X2_readPart_186 {d : Nat} {w : hb_W} {Q : Option hb_V → hb_W → Prop} {x1 : Int32} {xs0 : Int32} (h : (xs0 = 0 ∨ xs0 = 1) ∧ Q (some (hb_i xs0)) w) : hb_R yX2_readPart cX2_readPart 3 (some .boolean) (d + 1) 186 [some (hb_r 4 0 0), some (hb_i x1), none] [hb_i xs0] w Q := by
  exact hb_zret (pc := 186) dX2_readPart_186 rfl h.1 h.2
set_option maxRecDepth 20000 in
theorem bk_X2_readPart_191 {d : Nat} {w : hb_W} {Q : Option hb_V → hb_W → Prop} {x1 : Int32} {xs0 : Int32} (h : ((¬ xs0 = 0) → (hb_fR w 4 1 0) < hb_ct 2 ∧ (hb_O yX1_put cX1_put 2 none d [hb_r 2 (hb_fR w 4 1 0) 0, hb_i xs0] w (fun rv w1 => hb_R yX2_readPart cX2_readPart 3 (some .boolean) (d + 1) 220 [some (hb_r 4 0 0), some (hb_i x1), some (hb_i xs0)] (rv.toList ++ []) w1 Q))) ∧ ((xs0 = 0) → hb_O yX7_stop cX7_stop 3 (some .boolean) d [hb_r 3 0 0, hb_i (1 : Int32), hb_i (hb_fI w 3 4 0)] w (fun rv w1 => hb_R yX2_readPart cX2_readPart 3 (some .boolean) (d + 1) 211 [some (hb_r 4 0 0), some (hb_i x1), some (hb_i xs0)] (rv.toList ++ []) w1 Q))) : hb_R yX2_readPart cX2_readPart 3 (some .boolean) (d + 1) 191 [some (hb_r 4 0 0), some (hb_i x1), none] [hb_i xs0] w Q := by
  refine hb_istore_n (pc := 191) (i := 2) (ls1 := [some (hb_r 4 0 0), some (hb_i x1), some (hb_i xs0)]) dX2_readPart_191 rfl (by decide) rfl ?_
  refine hb_iload_n (pc := 192) (i := 2) dX2_readPart_192 rfl rfl ?_
  refine hb_if_ne (pc := 193) (tgt := 212) dX2_readPart_193 (by decide) (fun c1 => ?_) (fun c1 => ?_)
  · have ht1 := h.1 c1
    refine hb_aload_n (pc := 212) (i := 0) dX2_readPart_212 rfl rfl ?_
    refine hb_getR (pc := 213) (g1 := hb_fR w 4 1 0) dX2_readPart_213 fw_X2_15 cw_2 rfl (by decide) rfl (by decide) rfl ?_
    refine hb_iload_n (pc := 216) (i := 2) dX2_readPart_216 rfl rfl ?_
    obtain ⟨ho2, hr2⟩ := ht1
    exact hb_callV (pc := 217) (As := [hb_i xs0]) (st := []) dX2_readPart_217 ml_X2_150 mf_X1_put mi_X1_put (ci := 1) rfl rfl ho2 rfl rfl (Nat.le_of_ble_eq_true rfl) (Nat.le_of_ble_eq_true rfl) hr2 (fun _ _ q => q)
  · have ht1 := h.2 c1
    refine hb_aload_n (pc := 196) (i := 0) dX2_readPart_196 rfl rfl ?_
    refine hb_getR (pc := 197) (g1 := 0) dX2_readPart_197 fw_X2_9 cw_2 rfl (by decide) rfl (by decide) rfl ?_
    refine hb_iconst (pc := 200) (v := 1) dX2_readPart_200 (by decide) ?_
    refine hb_aload_n (pc := 201) (i := 0) dX2_readPart_201 rfl rfl ?_
    refine hb_getR (pc := 202) (g1 := 0) dX2_readPart_202 fw_X2_9 cw_2 rfl (by decide) rfl (by decide) rfl ?_
    refine hb_getIx (pc := 205) (x := hb_fI w 3 4 0) dX2_readPart_205 fw_X2_47 cw_7 rfl (by decide) rfl rfl ?_
    exact hb_callV (pc := 208) (As := [hb_i (1 : Int32), hb_i (hb_fI w 3 4 0)]) (st := []) dX2_readPart_208 ml_X2_50 mf_X7_stop mi_X7_stop (ci := 7) rfl rfl (by decide) rfl rfl (Nat.le_of_ble_eq_true rfl) (Nat.le_of_ble_eq_true rfl) ht1 (fun _ _ q => q)
set_option maxRecDepth 20000 in
theorem bk_X2_readPart_211 {d : Nat} {w : hb_W} {Q : Option hb_V → hb_W → Prop} {x1 : Int32} {x2 : Int32} {xs0 : Int32} (h : (xs0 = 0 ∨ xs0 = 1) ∧ Q (some (hb_i xs0)) w) : hb_R yX2_readPart cX2_readPart 3 (some .boolean) (d + 1) 211 [some (hb_r 4 0 0), some (hb_i x1), some (hb_i x2)] [hb_i xs0] w Q := by
  exact hb_zret (pc := 211) dX2_readPart_211 rfl h.1 h.2
set_option maxRecDepth 20000 in
theorem bk_X2_readPart_220 {d : Nat} {w : hb_W} {Q : Option hb_V → hb_W → Prop} {x1 : Int32} {x2 : Int32} (h : hb_O yX7_step cX7_step 4 none d [hb_r 3 0 0] w (fun rv w1 => hb_R yX2_readPart cX2_readPart 3 (some .boolean) (d + 1) 227 [some (hb_r 4 0 0), some (hb_i x1), some (hb_i x2)] (rv.toList ++ []) w1 Q)) : hb_R yX2_readPart cX2_readPart 3 (some .boolean) (d + 1) 220 [some (hb_r 4 0 0), some (hb_i x1), some (hb_i x2)] [] w Q := by
  refine hb_aload_n (pc := 220) (i := 0) dX2_readPart_220 rfl rfl ?_
  refine hb_getR (pc := 221) (g1 := 0) dX2_readPart_221 fw_X2_9 cw_2 rfl (by decide) rfl (by decide) rfl ?_
  exact hb_callV (pc := 224) (As := []) (st := []) dX2_readPart_224 ml_X2_70 mf_X7_step mi_X7_step (ci := 7) rfl rfl (by decide) rfl rfl (Nat.le_of_ble_eq_true rfl) (Nat.le_of_ble_eq_true rfl) h (fun _ _ q => q)
set_option maxRecDepth 20000 in
theorem bk_X2_readPart_227 {d : Nat} {w : hb_W} {Q : Option hb_V → hb_W → Prop} {x1 : Int32} {x2 : Int32} (h : Q (some (hb_i (1 : Int32))) w) : hb_R yX2_readPart cX2_readPart 3 (some .boolean) (d + 1) 227 [some (hb_r 4 0 0), some (hb_i x1), some (hb_i x2)] [] w Q := by
  refine hb_iconst (pc := 227) (v := 1) dX2_readPart_227 (by decide) ?_
  exact hb_zret (pc := 228) dX2_readPart_228 rfl (Or.inr rfl) h
theorem dX2_readPair_0 : decode cX2_readPair 0 = .ok (.aload_n 0, 1) := by decide +kernel
theorem dX2_readPair_1 : decode cX2_readPair 1 = .ok (.getfield 9, 3) := by decide +kernel
theorem dX2_readPair_4 : decode cX2_readPair 4 = .ok (.invokevirtual 70, 3) := by decide +kernel
theorem dX2_readPair_7 : decode cX2_readPair 7 = .ok (.aload_n 0, 1) := by decide +kernel
theorem dX2_readPair_8 : decode cX2_readPair 8 = .ok (.getfield 9, 3) := by decide +kernel
theorem dX2_readPair_11 : decode cX2_readPair 11 = .ok (.bipush 40, 2) := by decide +kernel
theorem dX2_readPair_13 : decode cX2_readPair 13 = .ok (.invokevirtual 162, 3) := by decide +kernel
theorem dX2_readPair_16 : decode cX2_readPair 16 = .ok (.ifCond .ne 19, 3) := by decide +kernel
theorem dX2_readPair_19 : decode cX2_readPair 19 = .ok (.aload_n 0, 1) := by decide +kernel
theorem dX2_readPair_20 : decode cX2_readPair 20 = .ok (.getfield 9, 3) := by decide +kernel
theorem dX2_readPair_23 : decode cX2_readPair 23 = .ok (.iconst 1, 1) := by decide +kernel
theorem dX2_readPair_24 : decode cX2_readPair 24 = .ok (.aload_n 0, 1) := by decide +kernel
theorem dX2_readPair_25 : decode cX2_readPair 25 = .ok (.getfield 9, 3) := by decide +kernel
theorem dX2_readPair_28 : decode cX2_readPair 28 = .ok (.getfield 47, 3) := by decide +kernel
theorem dX2_readPair_31 : decode cX2_readPair 31 = .ok (.invokevirtual 50, 3) := by decide +kernel
theorem dX2_readPair_34 : decode cX2_readPair 34 = .ok (.ireturn, 1) := by decide +kernel
theorem dX2_readPair_35 : decode cX2_readPair 35 = .ok (.aload_n 0, 1) := by decide +kernel
theorem dX2_readPair_36 : decode cX2_readPair 36 = .ok (.iload_n 1, 1) := by decide +kernel
theorem dX2_readPair_37 : decode cX2_readPair 37 = .ok (.invokevirtual 159, 3) := by decide +kernel
theorem dX2_readPair_40 : decode cX2_readPair 40 = .ok (.ifCond .eq 51, 3) := by decide +kernel
theorem dX2_readPair_43 : decode cX2_readPair 43 = .ok (.aload_n 0, 1) := by decide +kernel
theorem dX2_readPair_44 : decode cX2_readPair 44 = .ok (.iload_n 1, 1) := by decide +kernel
theorem dX2_readPair_45 : decode cX2_readPair 45 = .ok (.iconst 1, 1) := by decide +kernel
theorem dX2_readPair_46 : decode cX2_readPair 46 = .ok (.iadd, 1) := by decide +kernel
theorem dX2_readPair_47 : decode cX2_readPair 47 = .ok (.invokevirtual 77, 3) := by decide +kernel
theorem dX2_readPair_50 : decode cX2_readPair 50 = .ok (.ifCond .eq 41, 3) := by decide +kernel
theorem dX2_readPair_53 : decode cX2_readPair 53 = .ok (.aload_n 0, 1) := by decide +kernel
theorem dX2_readPair_54 : decode cX2_readPair 54 = .ok (.getfield 9, 3) := by decide +kernel
theorem dX2_readPair_57 : decode cX2_readPair 57 = .ok (.bipush 44, 2) := by decide +kernel
theorem dX2_readPair_59 : decode cX2_readPair 59 = .ok (.invokevirtual 96, 3) := by decide +kernel
theorem dX2_readPair_62 : decode cX2_readPair 62 = .ok (.ifCond .eq 29, 3) := by decide +kernel
theorem dX2_readPair_65 : decode cX2_readPair 65 = .ok (.aload_n 0, 1) := by decide +kernel
theorem dX2_readPair_66 : decode cX2_readPair 66 = .ok (.iload_n 1, 1) := by decide +kernel
theorem dX2_readPair_67 : decode cX2_readPair 67 = .ok (.iconst 1, 1) := by decide +kernel
theorem dX2_readPair_68 : decode cX2_readPair 68 = .ok (.iadd, 1) := by decide +kernel
theorem dX2_readPair_69 : decode cX2_readPair 69 = .ok (.invokevirtual 77, 3) := by decide +kernel
theorem dX2_readPair_72 : decode cX2_readPair 72 = .ok (.ifCond .eq 19, 3) := by decide +kernel
theorem dX2_readPair_75 : decode cX2_readPair 75 = .ok (.aload_n 0, 1) := by decide +kernel
theorem dX2_readPair_76 : decode cX2_readPair 76 = .ok (.getfield 9, 3) := by decide +kernel
theorem dX2_readPair_79 : decode cX2_readPair 79 = .ok (.bipush 41, 2) := by decide +kernel
theorem dX2_readPair_81 : decode cX2_readPair 81 = .ok (.invokevirtual 96, 3) := by decide +kernel
theorem dX2_readPair_84 : decode cX2_readPair 84 = .ok (.ifCond .eq 7, 3) := by decide +kernel
theorem dX2_readPair_87 : decode cX2_readPair 87 = .ok (.iconst 1, 1) := by decide +kernel
theorem dX2_readPair_88 : decode cX2_readPair 88 = .ok (.goto 4, 3) := by decide +kernel
theorem dX2_readPair_91 : decode cX2_readPair 91 = .ok (.iconst 0, 1) := by decide +kernel
theorem dX2_readPair_92 : decode cX2_readPair 92 = .ok (.istore_n 3, 1) := by decide +kernel
theorem dX2_readPair_93 : decode cX2_readPair 93 = .ok (.aload_n 0, 1) := by decide +kernel
theorem dX2_readPair_94 : decode cX2_readPair 94 = .ok (.getfield 15, 3) := by decide +kernel
theorem dX2_readPair_97 : decode cX2_readPair 97 = .ok (.iload_n 2, 1) := by decide +kernel
theorem dX2_readPair_98 : decode cX2_readPair 98 = .ok (.invokevirtual 150, 3) := by decide +kernel
theorem dX2_readPair_101 : decode cX2_readPair 101 = .ok (.iload_n 3, 1) := by decide +kernel
theorem dX2_readPair_102 : decode cX2_readPair 102 = .ok (.ireturn, 1) := by decide +kernel
set_option maxRecDepth 20000 in
theorem bk_X2_readPair_0 {d : Nat} {w : hb_W} {Q : Option hb_V → hb_W → Prop} {x1 : Int32} {x2 : Int32} (h : hb_O yX7_step cX7_step 4 none d [hb_r 3 0 0] w (fun rv w1 => hb_R yX2_readPair cX2_readPair 4 (some .boolean) (d + 1) 7 [some (hb_r 4 0 0), some (hb_i x1), some (hb_i x2), none] (rv.toList ++ []) w1 Q)) : hb_R yX2_readPair cX2_readPair 4 (some .boolean) (d + 1) 0 [some (hb_r 4 0 0), some (hb_i x1), some (hb_i x2), none] [] w Q := by
  refine hb_aload_n (pc := 0) (i := 0) dX2_readPair_0 rfl rfl ?_
  refine hb_getR (pc := 1) (g1 := 0) dX2_readPair_1 fw_X2_9 cw_2 rfl (by decide) rfl (by decide) rfl ?_
  exact hb_callV (pc := 4) (As := []) (st := []) dX2_readPair_4 ml_X2_70 mf_X7_step mi_X7_step (ci := 7) rfl rfl (by decide) rfl rfl (Nat.le_of_ble_eq_true rfl) (Nat.le_of_ble_eq_true rfl) h (fun _ _ q => q)
set_option maxRecDepth 20000 in
theorem bk_X2_readPair_7 {d : Nat} {w : hb_W} {Q : Option hb_V → hb_W → Prop} {x1 : Int32} {x2 : Int32} (h : hb_O yX7_isSign cX7_isSign 2 (some .boolean) d [hb_r 3 0 0, hb_i (40 : Int32)] w (fun rv w1 => hb_R yX2_readPair cX2_readPair 4 (some .boolean) (d + 1) 16 [some (hb_r 4 0 0), some (hb_i x1), some (hb_i x2), none] (rv.toList ++ []) w1 Q)) : hb_R yX2_readPair cX2_readPair 4 (some .boolean) (d + 1) 7 [some (hb_r 4 0 0), some (hb_i x1), some (hb_i x2), none] [] w Q := by
  refine hb_aload_n (pc := 7) (i := 0) dX2_readPair_7 rfl rfl ?_
  refine hb_getR (pc := 8) (g1 := 0) dX2_readPair_8 fw_X2_9 cw_2 rfl (by decide) rfl (by decide) rfl ?_
  refine hb_bipush (pc := 11) (v := 40) dX2_readPair_11 (by decide) ?_
  exact hb_callV (pc := 13) (As := [hb_i (40 : Int32)]) (st := []) dX2_readPair_13 ml_X2_162 mf_X7_isSign mi_X7_isSign (ci := 7) rfl rfl (by decide) rfl rfl (Nat.le_of_ble_eq_true rfl) (Nat.le_of_ble_eq_true rfl) h (fun _ _ q => q)
set_option maxRecDepth 20000 in
theorem bk_X2_readPair_16 {d : Nat} {w : hb_W} {Q : Option hb_V → hb_W → Prop} {x1 : Int32} {x2 : Int32} {xs0 : Int32} (h : ((¬ xs0 = 0) → hb_O yX2_goIn cX2_goIn 2 (some .boolean) d [hb_r 4 0 0, hb_i x1] w (fun rv w1 => hb_R yX2_readPair cX2_readPair 4 (some .boolean) (d + 1) 40 [some (hb_r 4 0 0), some (hb_i x1), some (hb_i x2), none] (rv.toList ++ []) w1 Q)) ∧ ((xs0 = 0) → hb_O yX7_stop cX7_stop 3 (some .boolean) d [hb_r 3 0 0, hb_i (1 : Int32), hb_i (hb_fI w 3 4 0)] w (fun rv w1 => hb_R yX2_readPair cX2_readPair 4 (some .boolean) (d + 1) 34 [some (hb_r 4 0 0), some (hb_i x1), some (hb_i x2), none] (rv.toList ++ []) w1 Q))) : hb_R yX2_readPair cX2_readPair 4 (some .boolean) (d + 1) 16 [some (hb_r 4 0 0), some (hb_i x1), some (hb_i x2), none] [hb_i xs0] w Q := by
  refine hb_if_ne (pc := 16) (tgt := 35) dX2_readPair_16 (by decide) (fun c1 => ?_) (fun c1 => ?_)
  · have ht1 := h.1 c1
    refine hb_aload_n (pc := 35) (i := 0) dX2_readPair_35 rfl rfl ?_
    refine hb_iload_n (pc := 36) (i := 1) dX2_readPair_36 rfl rfl ?_
    exact hb_callV (pc := 37) (As := [hb_i x1]) (st := []) dX2_readPair_37 ml_X2_159 mf_X2_goIn mi_X2_goIn (ci := 2) rfl rfl (by decide) rfl rfl (Nat.le_of_ble_eq_true rfl) (Nat.le_of_ble_eq_true rfl) ht1 (fun _ _ q => q)
  · have ht1 := h.2 c1
    refine hb_aload_n (pc := 19) (i := 0) dX2_readPair_19 rfl rfl ?_
    refine hb_getR (pc := 20) (g1 := 0) dX2_readPair_20 fw_X2_9 cw_2 rfl (by decide) rfl (by decide) rfl ?_
    refine hb_iconst (pc := 23) (v := 1) dX2_readPair_23 (by decide) ?_
    refine hb_aload_n (pc := 24) (i := 0) dX2_readPair_24 rfl rfl ?_
    refine hb_getR (pc := 25) (g1 := 0) dX2_readPair_25 fw_X2_9 cw_2 rfl (by decide) rfl (by decide) rfl ?_
    refine hb_getIx (pc := 28) (x := hb_fI w 3 4 0) dX2_readPair_28 fw_X2_47 cw_7 rfl (by decide) rfl rfl ?_
    exact hb_callV (pc := 31) (As := [hb_i (1 : Int32), hb_i (hb_fI w 3 4 0)]) (st := []) dX2_readPair_31 ml_X2_50 mf_X7_stop mi_X7_stop (ci := 7) rfl rfl (by decide) rfl rfl (Nat.le_of_ble_eq_true rfl) (Nat.le_of_ble_eq_true rfl) ht1 (fun _ _ q => q)
set_option maxRecDepth 20000 in
theorem bk_X2_readPair_34 {d : Nat} {w : hb_W} {Q : Option hb_V → hb_W → Prop} {x1 : Int32} {x2 : Int32} {xs0 : Int32} (h : (xs0 = 0 ∨ xs0 = 1) ∧ Q (some (hb_i xs0)) w) : hb_R yX2_readPair cX2_readPair 4 (some .boolean) (d + 1) 34 [some (hb_r 4 0 0), some (hb_i x1), some (hb_i x2), none] [hb_i xs0] w Q := by
  exact hb_zret (pc := 34) dX2_readPair_34 rfl h.1 h.2
set_option maxRecDepth 20000 in
theorem bk_X2_readPair_40 {d : Nat} {w : hb_W} {Q : Option hb_V → hb_W → Prop} {x1 : Int32} {x2 : Int32} {xs0 : Int32} (h : ((xs0 = 0) → (hb_fR w 4 1 0) < hb_ct 2 ∧ (hb_O yX1_put cX1_put 2 none d [hb_r 2 (hb_fR w 4 1 0) 0, hb_i x2] w (fun rv w1 => hb_R yX2_readPair cX2_readPair 4 (some .boolean) (d + 1) 101 [some (hb_r 4 0 0), some (hb_i x1), some (hb_i x2), some (hb_i (0 : Int32))] (rv.toList ++ []) w1 Q))) ∧ ((¬ xs0 = 0) → hb_O yX2_readSum cX2_readSum 5 (some .boolean) d [hb_r 4 0 0, hb_i (x1 + (1 : Int32))] w (fun rv w1 => hb_R yX2_readPair cX2_readPair 4 (some .boolean) (d + 1) 50 [some (hb_r 4 0 0), some (hb_i x1), some (hb_i x2), none] (rv.toList ++ []) w1 Q))) : hb_R yX2_readPair cX2_readPair 4 (some .boolean) (d + 1) 40 [some (hb_r 4 0 0), some (hb_i x1), some (hb_i x2), none] [hb_i xs0] w Q := by
  refine hb_if_eq (pc := 40) (tgt := 91) dX2_readPair_40 (by decide) (fun c1 => ?_) (fun c1 => ?_)
  · have ht1 := h.1 c1
    refine hb_iconst (pc := 91) (v := 0) dX2_readPair_91 (by decide) ?_
    refine hb_istore_n (pc := 92) (i := 3) (ls1 := [some (hb_r 4 0 0), some (hb_i x1), some (hb_i x2), some (hb_i (0 : Int32))]) dX2_readPair_92 rfl (by decide) rfl ?_
    refine hb_aload_n (pc := 93) (i := 0) dX2_readPair_93 rfl rfl ?_
    refine hb_getR (pc := 94) (g1 := hb_fR w 4 1 0) dX2_readPair_94 fw_X2_15 cw_2 rfl (by decide) rfl (by decide) rfl ?_
    refine hb_iload_n (pc := 97) (i := 2) dX2_readPair_97 rfl rfl ?_
    obtain ⟨ho2, hr2⟩ := ht1
    exact hb_callV (pc := 98) (As := [hb_i x2]) (st := []) dX2_readPair_98 ml_X2_150 mf_X1_put mi_X1_put (ci := 1) rfl rfl ho2 rfl rfl (Nat.le_of_ble_eq_true rfl) (Nat.le_of_ble_eq_true rfl) hr2 (fun _ _ q => q)
  · have ht1 := h.2 c1
    refine hb_aload_n (pc := 43) (i := 0) dX2_readPair_43 rfl rfl ?_
    refine hb_iload_n (pc := 44) (i := 1) dX2_readPair_44 rfl rfl ?_
    refine hb_iconst (pc := 45) (v := 1) dX2_readPair_45 (by decide) ?_
    refine hb_iadd (pc := 46) dX2_readPair_46 ?_
    exact hb_callV (pc := 47) (As := [hb_i (x1 + (1 : Int32))]) (st := []) dX2_readPair_47 ml_X2_77 mf_X2_readSum mi_X2_readSum (ci := 2) rfl rfl (by decide) rfl rfl (Nat.le_of_ble_eq_true rfl) (Nat.le_of_ble_eq_true rfl) ht1 (fun _ _ q => q)
set_option maxRecDepth 20000 in
theorem bk_X2_readPair_50 {d : Nat} {w : hb_W} {Q : Option hb_V → hb_W → Prop} {x1 : Int32} {x2 : Int32} {xs0 : Int32} (h : ((xs0 = 0) → (hb_fR w 4 1 0) < hb_ct 2 ∧ (hb_O yX1_put cX1_put 2 none d [hb_r 2 (hb_fR w 4 1 0) 0, hb_i x2] w (fun rv w1 => hb_R yX2_readPair cX2_readPair 4 (some .boolean) (d + 1) 101 [some (hb_r 4 0 0), some (hb_i x1), some (hb_i x2), some (hb_i (0 : Int32))] (rv.toList ++ []) w1 Q))) ∧ ((¬ xs0 = 0) → hb_O yX7_takeSign cX7_takeSign 2 (some .boolean) d [hb_r 3 0 0, hb_i (44 : Int32)] w (fun rv w1 => hb_R yX2_readPair cX2_readPair 4 (some .boolean) (d + 1) 62 [some (hb_r 4 0 0), some (hb_i x1), some (hb_i x2), none] (rv.toList ++ []) w1 Q))) : hb_R yX2_readPair cX2_readPair 4 (some .boolean) (d + 1) 50 [some (hb_r 4 0 0), some (hb_i x1), some (hb_i x2), none] [hb_i xs0] w Q := by
  refine hb_if_eq (pc := 50) (tgt := 91) dX2_readPair_50 (by decide) (fun c1 => ?_) (fun c1 => ?_)
  · have ht1 := h.1 c1
    refine hb_iconst (pc := 91) (v := 0) dX2_readPair_91 (by decide) ?_
    refine hb_istore_n (pc := 92) (i := 3) (ls1 := [some (hb_r 4 0 0), some (hb_i x1), some (hb_i x2), some (hb_i (0 : Int32))]) dX2_readPair_92 rfl (by decide) rfl ?_
    refine hb_aload_n (pc := 93) (i := 0) dX2_readPair_93 rfl rfl ?_
    refine hb_getR (pc := 94) (g1 := hb_fR w 4 1 0) dX2_readPair_94 fw_X2_15 cw_2 rfl (by decide) rfl (by decide) rfl ?_
    refine hb_iload_n (pc := 97) (i := 2) dX2_readPair_97 rfl rfl ?_
    obtain ⟨ho2, hr2⟩ := ht1
    exact hb_callV (pc := 98) (As := [hb_i x2]) (st := []) dX2_readPair_98 ml_X2_150 mf_X1_put mi_X1_put (ci := 1) rfl rfl ho2 rfl rfl (Nat.le_of_ble_eq_true rfl) (Nat.le_of_ble_eq_true rfl) hr2 (fun _ _ q => q)
  · have ht1 := h.2 c1
    refine hb_aload_n (pc := 53) (i := 0) dX2_readPair_53 rfl rfl ?_
    refine hb_getR (pc := 54) (g1 := 0) dX2_readPair_54 fw_X2_9 cw_2 rfl (by decide) rfl (by decide) rfl ?_
    refine hb_bipush (pc := 57) (v := 44) dX2_readPair_57 (by decide) ?_
    exact hb_callV (pc := 59) (As := [hb_i (44 : Int32)]) (st := []) dX2_readPair_59 ml_X2_96 mf_X7_takeSign mi_X7_takeSign (ci := 7) rfl rfl (by decide) rfl rfl (Nat.le_of_ble_eq_true rfl) (Nat.le_of_ble_eq_true rfl) ht1 (fun _ _ q => q)
set_option maxRecDepth 20000 in
theorem bk_X2_readPair_62 {d : Nat} {w : hb_W} {Q : Option hb_V → hb_W → Prop} {x1 : Int32} {x2 : Int32} {xs0 : Int32} (h : ((xs0 = 0) → (hb_fR w 4 1 0) < hb_ct 2 ∧ (hb_O yX1_put cX1_put 2 none d [hb_r 2 (hb_fR w 4 1 0) 0, hb_i x2] w (fun rv w1 => hb_R yX2_readPair cX2_readPair 4 (some .boolean) (d + 1) 101 [some (hb_r 4 0 0), some (hb_i x1), some (hb_i x2), some (hb_i (0 : Int32))] (rv.toList ++ []) w1 Q))) ∧ ((¬ xs0 = 0) → hb_O yX2_readSum cX2_readSum 5 (some .boolean) d [hb_r 4 0 0, hb_i (x1 + (1 : Int32))] w (fun rv w1 => hb_R yX2_readPair cX2_readPair 4 (some .boolean) (d + 1) 72 [some (hb_r 4 0 0), some (hb_i x1), some (hb_i x2), none] (rv.toList ++ []) w1 Q))) : hb_R yX2_readPair cX2_readPair 4 (some .boolean) (d + 1) 62 [some (hb_r 4 0 0), some (hb_i x1), some (hb_i x2), none] [hb_i xs0] w Q := by
  refine hb_if_eq (pc := 62) (tgt := 91) dX2_readPair_62 (by decide) (fun c1 => ?_) (fun c1 => ?_)
  · have ht1 := h.1 c1
    refine hb_iconst (pc := 91) (v := 0) dX2_readPair_91 (by decide) ?_
    refine hb_istore_n (pc := 92) (i := 3) (ls1 := [some (hb_r 4 0 0), some (hb_i x1), some (hb_i x2), some (hb_i (0 : Int32))]) dX2_readPair_92 rfl (by decide) rfl ?_
    refine hb_aload_n (pc := 93) (i := 0) dX2_readPair_93 rfl rfl ?_
    refine hb_getR (pc := 94) (g1 := hb_fR w 4 1 0) dX2_readPair_94 fw_X2_15 cw_2 rfl (by decide) rfl (by decide) rfl ?_
    refine hb_iload_n (pc := 97) (i := 2) dX2_readPair_97 rfl rfl ?_
    obtain ⟨ho2, hr2⟩ := ht1
    exact hb_callV (pc := 98) (As := [hb_i x2]) (st := []) dX2_readPair_98 ml_X2_150 mf_X1_put mi_X1_put (ci := 1) rfl rfl ho2 rfl rfl (Nat.le_of_ble_eq_true rfl) (Nat.le_of_ble_eq_true rfl) hr2 (fun _ _ q => q)
  · have ht1 := h.2 c1
    refine hb_aload_n (pc := 65) (i := 0) dX2_readPair_65 rfl rfl ?_
    refine hb_iload_n (pc := 66) (i := 1) dX2_readPair_66 rfl rfl ?_
    refine hb_iconst (pc := 67) (v := 1) dX2_readPair_67 (by decide) ?_
    refine hb_iadd (pc := 68) dX2_readPair_68 ?_
    exact hb_callV (pc := 69) (As := [hb_i (x1 + (1 : Int32))]) (st := []) dX2_readPair_69 ml_X2_77 mf_X2_readSum mi_X2_readSum (ci := 2) rfl rfl (by decide) rfl rfl (Nat.le_of_ble_eq_true rfl) (Nat.le_of_ble_eq_true rfl) ht1 (fun _ _ q => q)
set_option maxRecDepth 20000 in
theorem bk_X2_readPair_72 {d : Nat} {w : hb_W} {Q : Option hb_V → hb_W → Prop} {x1 : Int32} {x2 : Int32} {xs0 : Int32} (h : ((xs0 = 0) → (hb_fR w 4 1 0) < hb_ct 2 ∧ (hb_O yX1_put cX1_put 2 none d [hb_r 2 (hb_fR w 4 1 0) 0, hb_i x2] w (fun rv w1 => hb_R yX2_readPair cX2_readPair 4 (some .boolean) (d + 1) 101 [some (hb_r 4 0 0), some (hb_i x1), some (hb_i x2), some (hb_i (0 : Int32))] (rv.toList ++ []) w1 Q))) ∧ ((¬ xs0 = 0) → hb_O yX7_takeSign cX7_takeSign 2 (some .boolean) d [hb_r 3 0 0, hb_i (41 : Int32)] w (fun rv w1 => hb_R yX2_readPair cX2_readPair 4 (some .boolean) (d + 1) 84 [some (hb_r 4 0 0), some (hb_i x1), some (hb_i x2), none] (rv.toList ++ []) w1 Q))) : hb_R yX2_readPair cX2_readPair 4 (some .boolean) (d + 1) 72 [some (hb_r 4 0 0), some (hb_i x1), some (hb_i x2), none] [hb_i xs0] w Q := by
  refine hb_if_eq (pc := 72) (tgt := 91) dX2_readPair_72 (by decide) (fun c1 => ?_) (fun c1 => ?_)
  · have ht1 := h.1 c1
    refine hb_iconst (pc := 91) (v := 0) dX2_readPair_91 (by decide) ?_
    refine hb_istore_n (pc := 92) (i := 3) (ls1 := [some (hb_r 4 0 0), some (hb_i x1), some (hb_i x2), some (hb_i (0 : Int32))]) dX2_readPair_92 rfl (by decide) rfl ?_
    refine hb_aload_n (pc := 93) (i := 0) dX2_readPair_93 rfl rfl ?_
    refine hb_getR (pc := 94) (g1 := hb_fR w 4 1 0) dX2_readPair_94 fw_X2_15 cw_2 rfl (by decide) rfl (by decide) rfl ?_
    refine hb_iload_n (pc := 97) (i := 2) dX2_readPair_97 rfl rfl ?_
    obtain ⟨ho2, hr2⟩ := ht1
    exact hb_callV (pc := 98) (As := [hb_i x2]) (st := []) dX2_readPair_98 ml_X2_150 mf_X1_put mi_X1_put (ci := 1) rfl rfl ho2 rfl rfl (Nat.le_of_ble_eq_true rfl) (Nat.le_of_ble_eq_true rfl) hr2 (fun _ _ q => q)
  · have ht1 := h.2 c1
    refine hb_aload_n (pc := 75) (i := 0) dX2_readPair_75 rfl rfl ?_
    refine hb_getR (pc := 76) (g1 := 0) dX2_readPair_76 fw_X2_9 cw_2 rfl (by decide) rfl (by decide) rfl ?_
    refine hb_bipush (pc := 79) (v := 41) dX2_readPair_79 (by decide) ?_
    exact hb_callV (pc := 81) (As := [hb_i (41 : Int32)]) (st := []) dX2_readPair_81 ml_X2_96 mf_X7_takeSign mi_X7_takeSign (ci := 7) rfl rfl (by decide) rfl rfl (Nat.le_of_ble_eq_true rfl) (Nat.le_of_ble_eq_true rfl) ht1 (fun _ _ q => q)
set_option maxRecDepth 20000 in
theorem bk_X2_readPair_84 {d : Nat} {w : hb_W} {Q : Option hb_V → hb_W → Prop} {x1 : Int32} {x2 : Int32} {xs0 : Int32} (h : ((xs0 = 0) → (hb_fR w 4 1 0) < hb_ct 2 ∧ (hb_O yX1_put cX1_put 2 none d [hb_r 2 (hb_fR w 4 1 0) 0, hb_i x2] w (fun rv w1 => hb_R yX2_readPair cX2_readPair 4 (some .boolean) (d + 1) 101 [some (hb_r 4 0 0), some (hb_i x1), some (hb_i x2), some (hb_i (0 : Int32))] (rv.toList ++ []) w1 Q))) ∧ ((¬ xs0 = 0) → (hb_fR w 4 1 0) < hb_ct 2 ∧ (hb_O yX1_put cX1_put 2 none d [hb_r 2 (hb_fR w 4 1 0) 0, hb_i x2] w (fun rv w1 => hb_R yX2_readPair cX2_readPair 4 (some .boolean) (d + 1) 101 [some (hb_r 4 0 0), some (hb_i x1), some (hb_i x2), some (hb_i (1 : Int32))] (rv.toList ++ []) w1 Q)))) : hb_R yX2_readPair cX2_readPair 4 (some .boolean) (d + 1) 84 [some (hb_r 4 0 0), some (hb_i x1), some (hb_i x2), none] [hb_i xs0] w Q := by
  refine hb_if_eq (pc := 84) (tgt := 91) dX2_readPair_84 (by decide) (fun c1 => ?_) (fun c1 => ?_)
  · have ht1 := h.1 c1
    refine hb_iconst (pc := 91) (v := 0) dX2_readPair_91 (by decide) ?_
    refine hb_istore_n (pc := 92) (i := 3) (ls1 := [some (hb_r 4 0 0), some (hb_i x1), some (hb_i x2), some (hb_i (0 : Int32))]) dX2_readPair_92 rfl (by decide) rfl ?_
    refine hb_aload_n (pc := 93) (i := 0) dX2_readPair_93 rfl rfl ?_
    refine hb_getR (pc := 94) (g1 := hb_fR w 4 1 0) dX2_readPair_94 fw_X2_15 cw_2 rfl (by decide) rfl (by decide) rfl ?_
    refine hb_iload_n (pc := 97) (i := 2) dX2_readPair_97 rfl rfl ?_
    obtain ⟨ho2, hr2⟩ := ht1
    exact hb_callV (pc := 98) (As := [hb_i x2]) (st := []) dX2_readPair_98 ml_X2_150 mf_X1_put mi_X1_put (ci := 1) rfl rfl ho2 rfl rfl (Nat.le_of_ble_eq_true rfl) (Nat.le_of_ble_eq_true rfl) hr2 (fun _ _ q => q)
  · have ht1 := h.2 c1
    refine hb_iconst (pc := 87) (v := 1) dX2_readPair_87 (by decide) ?_
    refine hb_goto (pc := 88) (tgt := 92) dX2_readPair_88 (by decide) ?_
    refine hb_istore_n (pc := 92) (i := 3) (ls1 := [some (hb_r 4 0 0), some (hb_i x1), some (hb_i x2), some (hb_i (1 : Int32))]) dX2_readPair_92 rfl (by decide) rfl ?_
    refine hb_aload_n (pc := 93) (i := 0) dX2_readPair_93 rfl rfl ?_
    refine hb_getR (pc := 94) (g1 := hb_fR w 4 1 0) dX2_readPair_94 fw_X2_15 cw_2 rfl (by decide) rfl (by decide) rfl ?_
    refine hb_iload_n (pc := 97) (i := 2) dX2_readPair_97 rfl rfl ?_
    obtain ⟨ho3, hr3⟩ := ht1
    exact hb_callV (pc := 98) (As := [hb_i x2]) (st := []) dX2_readPair_98 ml_X2_150 mf_X1_put mi_X1_put (ci := 1) rfl rfl ho3 rfl rfl (Nat.le_of_ble_eq_true rfl) (Nat.le_of_ble_eq_true rfl) hr3 (fun _ _ q => q)
set_option maxRecDepth 20000 in
theorem bk_X2_readPair_101 {d : Nat} {w : hb_W} {Q : Option hb_V → hb_W → Prop} {x1 : Int32} {x2 : Int32} {x3 : Int32} (h : (x3 = 0 ∨ x3 = 1) ∧ Q (some (hb_i x3)) w) : hb_R yX2_readPair cX2_readPair 4 (some .boolean) (d + 1) 101 [some (hb_r 4 0 0), some (hb_i x1), some (hb_i x2), some (hb_i x3)] [] w Q := by
  refine hb_iload_n (pc := 101) (i := 3) dX2_readPair_101 rfl rfl ?_
  exact hb_zret (pc := 102) dX2_readPair_102 rfl h.1 h.2
theorem dX2_readLookup_0 : decode cX2_readLookup 0 = .ok (.aload_n 0, 1) := by decide +kernel
theorem dX2_readLookup_1 : decode cX2_readLookup 1 = .ok (.iload_n 1, 1) := by decide +kernel
theorem dX2_readLookup_2 : decode cX2_readLookup 2 = .ok (.invokevirtual 159, 3) := by decide +kernel
theorem dX2_readLookup_5 : decode cX2_readLookup 5 = .ok (.ifCond .eq 17, 3) := by decide +kernel
theorem dX2_readLookup_8 : decode cX2_readLookup 8 = .ok (.aload_n 0, 1) := by decide +kernel
theorem dX2_readLookup_9 : decode cX2_readLookup 9 = .ok (.iload_n 1, 1) := by decide +kernel
theorem dX2_readLookup_10 : decode cX2_readLookup 10 = .ok (.iconst 1, 1) := by decide +kernel
theorem dX2_readLookup_11 : decode cX2_readLookup 11 = .ok (.iadd, 1) := by decide +kernel
theorem dX2_readLookup_12 : decode cX2_readLookup 12 = .ok (.invokevirtual 172, 3) := by decide +kernel
theorem dX2_readLookup_15 : decode cX2_readLookup 15 = .ok (.ifCond .eq 7, 3) := by decide +kernel
theorem dX2_readLookup_18 : decode cX2_readLookup 18 = .ok (.iconst 1, 1) := by decide +kernel
theorem dX2_readLookup_19 : decode cX2_readLookup 19 = .ok (.goto 4, 3) := by decide +kernel
theorem dX2_readLookup_22 : decode cX2_readLookup 22 = .ok (.iconst 0, 1) := by decide +kernel
theorem dX2_readLookup_23 : decode cX2_readLookup 23 = .ok (.istore_n 3, 1) := by decide +kernel
theorem dX2_readLookup_24 : decode cX2_readLookup 24 = .ok (.aload_n 0, 1) := by decide +kernel
theorem dX2_readLookup_25 : decode cX2_readLookup 25 = .ok (.getfield 15, 3) := by decide +kernel
theorem dX2_readLookup_28 : decode cX2_readLookup 28 = .ok (.iload_n 2, 1) := by decide +kernel
theorem dX2_readLookup_29 : decode cX2_readLookup 29 = .ok (.invokevirtual 150, 3) := by decide +kernel
theorem dX2_readLookup_32 : decode cX2_readLookup 32 = .ok (.iload_n 3, 1) := by decide +kernel
theorem dX2_readLookup_33 : decode cX2_readLookup 33 = .ok (.ireturn, 1) := by decide +kernel
set_option maxRecDepth 20000 in
theorem bk_X2_readLookup_0 {d : Nat} {w : hb_W} {Q : Option hb_V → hb_W → Prop} {x1 : Int32} {x2 : Int32} (h : hb_O yX2_goIn cX2_goIn 2 (some .boolean) d [hb_r 4 0 0, hb_i x1] w (fun rv w1 => hb_R yX2_readLookup cX2_readLookup 4 (some .boolean) (d + 1) 5 [some (hb_r 4 0 0), some (hb_i x1), some (hb_i x2), none] (rv.toList ++ []) w1 Q)) : hb_R yX2_readLookup cX2_readLookup 4 (some .boolean) (d + 1) 0 [some (hb_r 4 0 0), some (hb_i x1), some (hb_i x2), none] [] w Q := by
  refine hb_aload_n (pc := 0) (i := 0) dX2_readLookup_0 rfl rfl ?_
  refine hb_iload_n (pc := 1) (i := 1) dX2_readLookup_1 rfl rfl ?_
  exact hb_callV (pc := 2) (As := [hb_i x1]) (st := []) dX2_readLookup_2 ml_X2_159 mf_X2_goIn mi_X2_goIn (ci := 2) rfl rfl (by decide) rfl rfl (Nat.le_of_ble_eq_true rfl) (Nat.le_of_ble_eq_true rfl) h (fun _ _ q => q)
set_option maxRecDepth 20000 in
theorem bk_X2_readLookup_5 {d : Nat} {w : hb_W} {Q : Option hb_V → hb_W → Prop} {x1 : Int32} {x2 : Int32} {xs0 : Int32} (h : ((xs0 = 0) → (hb_fR w 4 1 0) < hb_ct 2 ∧ (hb_O yX1_put cX1_put 2 none d [hb_r 2 (hb_fR w 4 1 0) 0, hb_i x2] w (fun rv w1 => hb_R yX2_readLookup cX2_readLookup 4 (some .boolean) (d + 1) 32 [some (hb_r 4 0 0), some (hb_i x1), some (hb_i x2), some (hb_i (0 : Int32))] (rv.toList ++ []) w1 Q))) ∧ ((¬ xs0 = 0) → hb_O yX2_readPart cX2_readPart 3 (some .boolean) d [hb_r 4 0 0, hb_i (x1 + (1 : Int32))] w (fun rv w1 => hb_R yX2_readLookup cX2_readLookup 4 (some .boolean) (d + 1) 15 [some (hb_r 4 0 0), some (hb_i x1), some (hb_i x2), none] (rv.toList ++ []) w1 Q))) : hb_R yX2_readLookup cX2_readLookup 4 (some .boolean) (d + 1) 5 [some (hb_r 4 0 0), some (hb_i x1), some (hb_i x2), none] [hb_i xs0] w Q := by
  refine hb_if_eq (pc := 5) (tgt := 22) dX2_readLookup_5 (by decide) (fun c1 => ?_) (fun c1 => ?_)
  · have ht1 := h.1 c1
    refine hb_iconst (pc := 22) (v := 0) dX2_readLookup_22 (by decide) ?_
    refine hb_istore_n (pc := 23) (i := 3) (ls1 := [some (hb_r 4 0 0), some (hb_i x1), some (hb_i x2), some (hb_i (0 : Int32))]) dX2_readLookup_23 rfl (by decide) rfl ?_
    refine hb_aload_n (pc := 24) (i := 0) dX2_readLookup_24 rfl rfl ?_
    refine hb_getR (pc := 25) (g1 := hb_fR w 4 1 0) dX2_readLookup_25 fw_X2_15 cw_2 rfl (by decide) rfl (by decide) rfl ?_
    refine hb_iload_n (pc := 28) (i := 2) dX2_readLookup_28 rfl rfl ?_
    obtain ⟨ho2, hr2⟩ := ht1
    exact hb_callV (pc := 29) (As := [hb_i x2]) (st := []) dX2_readLookup_29 ml_X2_150 mf_X1_put mi_X1_put (ci := 1) rfl rfl ho2 rfl rfl (Nat.le_of_ble_eq_true rfl) (Nat.le_of_ble_eq_true rfl) hr2 (fun _ _ q => q)
  · have ht1 := h.2 c1
    refine hb_aload_n (pc := 8) (i := 0) dX2_readLookup_8 rfl rfl ?_
    refine hb_iload_n (pc := 9) (i := 1) dX2_readLookup_9 rfl rfl ?_
    refine hb_iconst (pc := 10) (v := 1) dX2_readLookup_10 (by decide) ?_
    refine hb_iadd (pc := 11) dX2_readLookup_11 ?_
    exact hb_callV (pc := 12) (As := [hb_i (x1 + (1 : Int32))]) (st := []) dX2_readLookup_12 ml_X2_172 mf_X2_readPart mi_X2_readPart (ci := 2) rfl rfl (by decide) rfl rfl (Nat.le_of_ble_eq_true rfl) (Nat.le_of_ble_eq_true rfl) ht1 (fun _ _ q => q)
set_option maxRecDepth 20000 in
theorem bk_X2_readLookup_15 {d : Nat} {w : hb_W} {Q : Option hb_V → hb_W → Prop} {x1 : Int32} {x2 : Int32} {xs0 : Int32} (h : ((xs0 = 0) → (hb_fR w 4 1 0) < hb_ct 2 ∧ (hb_O yX1_put cX1_put 2 none d [hb_r 2 (hb_fR w 4 1 0) 0, hb_i x2] w (fun rv w1 => hb_R yX2_readLookup cX2_readLookup 4 (some .boolean) (d + 1) 32 [some (hb_r 4 0 0), some (hb_i x1), some (hb_i x2), some (hb_i (0 : Int32))] (rv.toList ++ []) w1 Q))) ∧ ((¬ xs0 = 0) → (hb_fR w 4 1 0) < hb_ct 2 ∧ (hb_O yX1_put cX1_put 2 none d [hb_r 2 (hb_fR w 4 1 0) 0, hb_i x2] w (fun rv w1 => hb_R yX2_readLookup cX2_readLookup 4 (some .boolean) (d + 1) 32 [some (hb_r 4 0 0), some (hb_i x1), some (hb_i x2), some (hb_i (1 : Int32))] (rv.toList ++ []) w1 Q)))) : hb_R yX2_readLookup cX2_readLookup 4 (some .boolean) (d + 1) 15 [some (hb_r 4 0 0), some (hb_i x1), some (hb_i x2), none] [hb_i xs0] w Q := by
  refine hb_if_eq (pc := 15) (tgt := 22) dX2_readLookup_15 (by decide) (fun c1 => ?_) (fun c1 => ?_)
  · have ht1 := h.1 c1
    refine hb_iconst (pc := 22) (v := 0) dX2_readLookup_22 (by decide) ?_
    refine hb_istore_n (pc := 23) (i := 3) (ls1 := [some (hb_r 4 0 0), some (hb_i x1), some (hb_i x2), some (hb_i (0 : Int32))]) dX2_readLookup_23 rfl (by decide) rfl ?_
    refine hb_aload_n (pc := 24) (i := 0) dX2_readLookup_24 rfl rfl ?_
    refine hb_getR (pc := 25) (g1 := hb_fR w 4 1 0) dX2_readLookup_25 fw_X2_15 cw_2 rfl (by decide) rfl (by decide) rfl ?_
    refine hb_iload_n (pc := 28) (i := 2) dX2_readLookup_28 rfl rfl ?_
    obtain ⟨ho2, hr2⟩ := ht1
    exact hb_callV (pc := 29) (As := [hb_i x2]) (st := []) dX2_readLookup_29 ml_X2_150 mf_X1_put mi_X1_put (ci := 1) rfl rfl ho2 rfl rfl (Nat.le_of_ble_eq_true rfl) (Nat.le_of_ble_eq_true rfl) hr2 (fun _ _ q => q)
  · have ht1 := h.2 c1
    refine hb_iconst (pc := 18) (v := 1) dX2_readLookup_18 (by decide) ?_
    refine hb_goto (pc := 19) (tgt := 23) dX2_readLookup_19 (by decide) ?_
    refine hb_istore_n (pc := 23) (i := 3) (ls1 := [some (hb_r 4 0 0), some (hb_i x1), some (hb_i x2), some (hb_i (1 : Int32))]) dX2_readLookup_23 rfl (by decide) rfl ?_
    refine hb_aload_n (pc := 24) (i := 0) dX2_readLookup_24 rfl rfl ?_
    refine hb_getR (pc := 25) (g1 := hb_fR w 4 1 0) dX2_readLookup_25 fw_X2_15 cw_2 rfl (by decide) rfl (by decide) rfl ?_
    refine hb_iload_n (pc := 28) (i := 2) dX2_readLookup_28 rfl rfl ?_
    obtain ⟨ho3, hr3⟩ := ht1
    exact hb_callV (pc := 29) (As := [hb_i x2]) (st := []) dX2_readLookup_29 ml_X2_150 mf_X1_put mi_X1_put (ci := 1) rfl rfl ho3 rfl rfl (Nat.le_of_ble_eq_true rfl) (Nat.le_of_ble_eq_true rfl) hr3 (fun _ _ q => q)
set_option maxRecDepth 20000 in
theorem bk_X2_readLookup_32 {d : Nat} {w : hb_W} {Q : Option hb_V → hb_W → Prop} {x1 : Int32} {x2 : Int32} {x3 : Int32} (h : (x3 = 0 ∨ x3 = 1) ∧ Q (some (hb_i x3)) w) : hb_R yX2_readLookup cX2_readLookup 4 (some .boolean) (d + 1) 32 [some (hb_r 4 0 0), some (hb_i x1), some (hb_i x2), some (hb_i x3)] [] w Q := by
  refine hb_iload_n (pc := 32) (i := 3) dX2_readLookup_32 rfl rfl ?_
  exact hb_zret (pc := 33) dX2_readLookup_33 rfl h.1 h.2
theorem dX2_nameHere_0 : decode cX2_nameHere 0 = .ok (.aload_n 0, 1) := by decide +kernel
theorem dX2_nameHere_1 : decode cX2_nameHere 1 = .ok (.getfield 9, 3) := by decide +kernel
theorem dX2_nameHere_4 : decode cX2_nameHere 4 = .ok (.getfield 100, 3) := by decide +kernel
theorem dX2_nameHere_7 : decode cX2_nameHere 7 = .ok (.lookupswitch 155 #[(3361166, 96), (3525188, 65), (3650085, 81), (3918308, 125), (3924654, 67), (111552243, 140), (125190419, 110)], 65) := by decide +kernel
theorem dX2_nameHere_72 : decode cX2_nameHere 72 = .ok (.iconst (-1), 1) := by decide +kernel
theorem dX2_nameHere_73 : decode cX2_nameHere 73 = .ok (.ireturn, 1) := by decide +kernel
theorem dX2_nameHere_74 : decode cX2_nameHere 74 = .ok (.aload_n 0, 1) := by decide +kernel
theorem dX2_nameHere_75 : decode cX2_nameHere 75 = .ok (.getfield 19, 3) := by decide +kernel
theorem dX2_nameHere_78 : decode cX2_nameHere 78 = .ok (.ifCond .ne 8, 3) := by decide +kernel
theorem dX2_nameHere_81 : decode cX2_nameHere 81 = .ok (.bipush (-2), 2) := by decide +kernel
theorem dX2_nameHere_83 : decode cX2_nameHere 83 = .ok (.goto 4, 3) := by decide +kernel
theorem dX2_nameHere_86 : decode cX2_nameHere 86 = .ok (.iconst 0, 1) := by decide +kernel
theorem dX2_nameHere_87 : decode cX2_nameHere 87 = .ok (.ireturn, 1) := by decide +kernel
theorem dX2_nameHere_88 : decode cX2_nameHere 88 = .ok (.aload_n 0, 1) := by decide +kernel
theorem dX2_nameHere_89 : decode cX2_nameHere 89 = .ok (.getfield 19, 3) := by decide +kernel
theorem dX2_nameHere_92 : decode cX2_nameHere 92 = .ok (.iconst 1, 1) := by decide +kernel
theorem dX2_nameHere_93 : decode cX2_nameHere 93 = .ok (.if_icmp .ne 8, 3) := by decide +kernel
theorem dX2_nameHere_96 : decode cX2_nameHere 96 = .ok (.bipush (-3), 2) := by decide +kernel
theorem dX2_nameHere_98 : decode cX2_nameHere 98 = .ok (.goto 4, 3) := by decide +kernel
theorem dX2_nameHere_101 : decode cX2_nameHere 101 = .ok (.iconst 0, 1) := by decide +kernel
theorem dX2_nameHere_102 : decode cX2_nameHere 102 = .ok (.ireturn, 1) := by decide +kernel
theorem dX2_nameHere_103 : decode cX2_nameHere 103 = .ok (.aload_n 0, 1) := by decide +kernel
theorem dX2_nameHere_104 : decode cX2_nameHere 104 = .ok (.getfield 19, 3) := by decide +kernel
theorem dX2_nameHere_107 : decode cX2_nameHere 107 = .ok (.ifCond .eq 8, 3) := by decide +kernel
theorem dX2_nameHere_110 : decode cX2_nameHere 110 = .ok (.bipush (-4), 2) := by decide +kernel
theorem dX2_nameHere_112 : decode cX2_nameHere 112 = .ok (.goto 4, 3) := by decide +kernel
theorem dX2_nameHere_115 : decode cX2_nameHere 115 = .ok (.iconst 0, 1) := by decide +kernel
theorem dX2_nameHere_116 : decode cX2_nameHere 116 = .ok (.ireturn, 1) := by decide +kernel
theorem dX2_nameHere_117 : decode cX2_nameHere 117 = .ok (.aload_n 0, 1) := by decide +kernel
theorem dX2_nameHere_118 : decode cX2_nameHere 118 = .ok (.getfield 19, 3) := by decide +kernel
theorem dX2_nameHere_121 : decode cX2_nameHere 121 = .ok (.iconst 2, 1) := by decide +kernel
theorem dX2_nameHere_122 : decode cX2_nameHere 122 = .ok (.if_icmp .ne 8, 3) := by decide +kernel
theorem dX2_nameHere_125 : decode cX2_nameHere 125 = .ok (.bipush (-5), 2) := by decide +kernel
theorem dX2_nameHere_127 : decode cX2_nameHere 127 = .ok (.goto 4, 3) := by decide +kernel
theorem dX2_nameHere_130 : decode cX2_nameHere 130 = .ok (.iconst 0, 1) := by decide +kernel
theorem dX2_nameHere_131 : decode cX2_nameHere 131 = .ok (.ireturn, 1) := by decide +kernel
theorem dX2_nameHere_132 : decode cX2_nameHere 132 = .ok (.aload_n 0, 1) := by decide +kernel
theorem dX2_nameHere_133 : decode cX2_nameHere 133 = .ok (.getfield 19, 3) := by decide +kernel
theorem dX2_nameHere_136 : decode cX2_nameHere 136 = .ok (.iconst 2, 1) := by decide +kernel
theorem dX2_nameHere_137 : decode cX2_nameHere 137 = .ok (.if_icmp .ne 8, 3) := by decide +kernel
theorem dX2_nameHere_140 : decode cX2_nameHere 140 = .ok (.bipush (-6), 2) := by decide +kernel
theorem dX2_nameHere_142 : decode cX2_nameHere 142 = .ok (.goto 4, 3) := by decide +kernel
theorem dX2_nameHere_145 : decode cX2_nameHere 145 = .ok (.iconst 0, 1) := by decide +kernel
theorem dX2_nameHere_146 : decode cX2_nameHere 146 = .ok (.ireturn, 1) := by decide +kernel
theorem dX2_nameHere_147 : decode cX2_nameHere 147 = .ok (.aload_n 0, 1) := by decide +kernel
theorem dX2_nameHere_148 : decode cX2_nameHere 148 = .ok (.getfield 19, 3) := by decide +kernel
theorem dX2_nameHere_151 : decode cX2_nameHere 151 = .ok (.iconst 2, 1) := by decide +kernel
theorem dX2_nameHere_152 : decode cX2_nameHere 152 = .ok (.if_icmp .ne 8, 3) := by decide +kernel
theorem dX2_nameHere_155 : decode cX2_nameHere 155 = .ok (.bipush (-7), 2) := by decide +kernel
theorem dX2_nameHere_157 : decode cX2_nameHere 157 = .ok (.goto 4, 3) := by decide +kernel
theorem dX2_nameHere_160 : decode cX2_nameHere 160 = .ok (.iconst 0, 1) := by decide +kernel
theorem dX2_nameHere_161 : decode cX2_nameHere 161 = .ok (.ireturn, 1) := by decide +kernel
theorem dX2_nameHere_162 : decode cX2_nameHere 162 = .ok (.iconst 0, 1) := by decide +kernel
theorem dX2_nameHere_163 : decode cX2_nameHere 163 = .ok (.ireturn, 1) := by decide +kernel
set_option maxRecDepth 20000 in
theorem bk_X2_nameHere_0 {d : Nat} {w : hb_W} {Q : Option hb_V → hb_W → Prop} (h : ((hb_fI w 3 2 0) = (3361166 : Int32) → (((hb_fI w 4 2 0) = 0) → Q (some (hb_i (0 : Int32))) w) ∧ ((¬ (hb_fI w 4 2 0) = 0) → Q (some (hb_i (-4 : Int32))) w)) ∧ ((hb_fI w 3 2 0) = (3525188 : Int32) → Q (some (hb_i (-1 : Int32))) w) ∧ ((hb_fI w 3 2 0) = (3650085 : Int32) → ((¬ (hb_fI w 4 2 0) = (1 : Int32)) → Q (some (hb_i (0 : Int32))) w) ∧ (((hb_fI w 4 2 0) = (1 : Int32)) → Q (some (hb_i (-3 : Int32))) w)) ∧ ((hb_fI w 3 2 0) = (3918308 : Int32) → ((¬ (hb_fI w 4 2 0) = (2 : Int32)) → Q (some (hb_i (0 : Int32))) w) ∧ (((hb_fI w 4 2 0) = (2 : Int32)) → Q (some (hb_i (-6 : Int32))) w)) ∧ ((hb_fI w 3 2 0) = (3924654 : Int32) → ((¬ (hb_fI w 4 2 0) = 0) → Q (some (hb_i (0 : Int32))) w) ∧ (((hb_fI w 4 2 0) = 0) → Q (some (hb_i (-2 : Int32))) w)) ∧ ((hb_fI w 3 2 0) = (111552243 : Int32) → ((¬ (hb_fI w 4 2 0) = (2 : Int32)) → Q (some (hb_i (0 : Int32))) w) ∧ (((hb_fI w 4 2 0) = (2 : Int32)) → Q (some (hb_i (-7 : Int32))) w)) ∧ ((hb_fI w 3 2 0) = (125190419 : Int32) → ((¬ (hb_fI w 4 2 0) = (2 : Int32)) → Q (some (hb_i (0 : Int32))) w) ∧ (((hb_fI w 4 2 0) = (2 : Int32)) → Q (some (hb_i (-5 : Int32))) w)) ∧ (¬ (hb_fI w 3 2 0) = (3361166 : Int32) → ¬ (hb_fI w 3 2 0) = (3525188 : Int32) → ¬ (hb_fI w 3 2 0) = (3650085 : Int32) → ¬ (hb_fI w 3 2 0) = (3918308 : Int32) → ¬ (hb_fI w 3 2 0) = (3924654 : Int32) → ¬ (hb_fI w 3 2 0) = (111552243 : Int32) → ¬ (hb_fI w 3 2 0) = (125190419 : Int32) → Q (some (hb_i (0 : Int32))) w)) : hb_R yX2_nameHere cX2_nameHere 1 (some .int) d 0 [some (hb_r 4 0 0)] [] w Q := by
  refine hb_aload_n (pc := 0) (i := 0) dX2_nameHere_0 rfl rfl ?_
  refine hb_getR (pc := 1) (g1 := 0) dX2_nameHere_1 fw_X2_9 cw_2 rfl (by decide) rfl (by decide) rfl ?_
  refine hb_getIx (pc := 4) (x := hb_fI w 3 2 0) dX2_nameHere_4 fw_X2_100 cw_7 rfl (by decide) rfl rfl ?_
  by_cases e1_0 : (hb_fI w 3 2 0) = (3361166 : Int32)
  · have hk1_0 := h.1 e1_0
    have ei : (hb_fI w 3 2 0).toInt = 3361166 := by rw [e1_0]; rfl
    refine hb_look (pc := 7) (tgt := 103) (off := 96) dX2_nameHere_7 (by decide +kernel) (by rw [ei]; decide +kernel) (by decide) ?_
    refine hb_aload_n (pc := 103) (i := 0) dX2_nameHere_103 rfl rfl ?_
    refine hb_getIx (pc := 104) (x := hb_fI w 4 2 0) dX2_nameHere_104 fw_X2_19 cw_2 rfl (by decide) rfl rfl ?_
    refine hb_if_eq (pc := 107) (tgt := 115) dX2_nameHere_107 (by decide) (fun c2 => ?_) (fun c2 => ?_)
    · have ht2 := hk1_0.1 c2
      refine hb_iconst (pc := 115) (v := 0) dX2_nameHere_115 (by decide) ?_
      exact hb_iret (pc := 116) dX2_nameHere_116 rfl ht2
    · have ht2 := hk1_0.2 c2
      refine hb_bipush (pc := 110) (v := -4) dX2_nameHere_110 (by decide) ?_
      refine hb_goto (pc := 112) (tgt := 116) dX2_nameHere_112 (by decide) ?_
      exact hb_iret (pc := 116) dX2_nameHere_116 rfl ht2
  by_cases e1_1 : (hb_fI w 3 2 0) = (3525188 : Int32)
  · have hk1_1 := h.2.1 e1_1
    have ei : (hb_fI w 3 2 0).toInt = 3525188 := by rw [e1_1]; rfl
    refine hb_look (pc := 7) (tgt := 72) (off := 65) dX2_nameHere_7 (by decide +kernel) (by rw [ei]; decide +kernel) (by decide) ?_
    refine hb_iconst (pc := 72) (v := -1) dX2_nameHere_72 (by decide) ?_
    exact hb_iret (pc := 73) dX2_nameHere_73 rfl hk1_1
  by_cases e1_2 : (hb_fI w 3 2 0) = (3650085 : Int32)
  · have hk1_2 := h.2.2.1 e1_2
    have ei : (hb_fI w 3 2 0).toInt = 3650085 := by rw [e1_2]; rfl
    refine hb_look (pc := 7) (tgt := 88) (off := 81) dX2_nameHere_7 (by decide +kernel) (by rw [ei]; decide +kernel) (by decide) ?_
    refine hb_aload_n (pc := 88) (i := 0) dX2_nameHere_88 rfl rfl ?_
    refine hb_getIx (pc := 89) (x := hb_fI w 4 2 0) dX2_nameHere_89 fw_X2_19 cw_2 rfl (by decide) rfl rfl ?_
    refine hb_iconst (pc := 92) (v := 1) dX2_nameHere_92 (by decide) ?_
    refine hb_icmp_ne (pc := 93) (tgt := 101) dX2_nameHere_93 (by decide) (fun c3 => ?_) (fun c3 => ?_)
    · have ht3 := hk1_2.1 c3
      refine hb_iconst (pc := 101) (v := 0) dX2_nameHere_101 (by decide) ?_
      exact hb_iret (pc := 102) dX2_nameHere_102 rfl ht3
    · have ht3 := hk1_2.2 c3
      refine hb_bipush (pc := 96) (v := -3) dX2_nameHere_96 (by decide) ?_
      refine hb_goto (pc := 98) (tgt := 102) dX2_nameHere_98 (by decide) ?_
      exact hb_iret (pc := 102) dX2_nameHere_102 rfl ht3
  by_cases e1_3 : (hb_fI w 3 2 0) = (3918308 : Int32)
  · have hk1_3 := h.2.2.2.1 e1_3
    have ei : (hb_fI w 3 2 0).toInt = 3918308 := by rw [e1_3]; rfl
    refine hb_look (pc := 7) (tgt := 132) (off := 125) dX2_nameHere_7 (by decide +kernel) (by rw [ei]; decide +kernel) (by decide) ?_
    refine hb_aload_n (pc := 132) (i := 0) dX2_nameHere_132 rfl rfl ?_
    refine hb_getIx (pc := 133) (x := hb_fI w 4 2 0) dX2_nameHere_133 fw_X2_19 cw_2 rfl (by decide) rfl rfl ?_
    refine hb_iconst (pc := 136) (v := 2) dX2_nameHere_136 (by decide) ?_
    refine hb_icmp_ne (pc := 137) (tgt := 145) dX2_nameHere_137 (by decide) (fun c4 => ?_) (fun c4 => ?_)
    · have ht4 := hk1_3.1 c4
      refine hb_iconst (pc := 145) (v := 0) dX2_nameHere_145 (by decide) ?_
      exact hb_iret (pc := 146) dX2_nameHere_146 rfl ht4
    · have ht4 := hk1_3.2 c4
      refine hb_bipush (pc := 140) (v := -6) dX2_nameHere_140 (by decide) ?_
      refine hb_goto (pc := 142) (tgt := 146) dX2_nameHere_142 (by decide) ?_
      exact hb_iret (pc := 146) dX2_nameHere_146 rfl ht4
  by_cases e1_4 : (hb_fI w 3 2 0) = (3924654 : Int32)
  · have hk1_4 := h.2.2.2.2.1 e1_4
    have ei : (hb_fI w 3 2 0).toInt = 3924654 := by rw [e1_4]; rfl
    refine hb_look (pc := 7) (tgt := 74) (off := 67) dX2_nameHere_7 (by decide +kernel) (by rw [ei]; decide +kernel) (by decide) ?_
    refine hb_aload_n (pc := 74) (i := 0) dX2_nameHere_74 rfl rfl ?_
    refine hb_getIx (pc := 75) (x := hb_fI w 4 2 0) dX2_nameHere_75 fw_X2_19 cw_2 rfl (by decide) rfl rfl ?_
    refine hb_if_ne (pc := 78) (tgt := 86) dX2_nameHere_78 (by decide) (fun c5 => ?_) (fun c5 => ?_)
    · have ht5 := hk1_4.1 c5
      refine hb_iconst (pc := 86) (v := 0) dX2_nameHere_86 (by decide) ?_
      exact hb_iret (pc := 87) dX2_nameHere_87 rfl ht5
    · have ht5 := hk1_4.2 c5
      refine hb_bipush (pc := 81) (v := -2) dX2_nameHere_81 (by decide) ?_
      refine hb_goto (pc := 83) (tgt := 87) dX2_nameHere_83 (by decide) ?_
      exact hb_iret (pc := 87) dX2_nameHere_87 rfl ht5
  by_cases e1_5 : (hb_fI w 3 2 0) = (111552243 : Int32)
  · have hk1_5 := h.2.2.2.2.2.1 e1_5
    have ei : (hb_fI w 3 2 0).toInt = 111552243 := by rw [e1_5]; rfl
    refine hb_look (pc := 7) (tgt := 147) (off := 140) dX2_nameHere_7 (by decide +kernel) (by rw [ei]; decide +kernel) (by decide) ?_
    refine hb_aload_n (pc := 147) (i := 0) dX2_nameHere_147 rfl rfl ?_
    refine hb_getIx (pc := 148) (x := hb_fI w 4 2 0) dX2_nameHere_148 fw_X2_19 cw_2 rfl (by decide) rfl rfl ?_
    refine hb_iconst (pc := 151) (v := 2) dX2_nameHere_151 (by decide) ?_
    refine hb_icmp_ne (pc := 152) (tgt := 160) dX2_nameHere_152 (by decide) (fun c6 => ?_) (fun c6 => ?_)
    · have ht6 := hk1_5.1 c6
      refine hb_iconst (pc := 160) (v := 0) dX2_nameHere_160 (by decide) ?_
      exact hb_iret (pc := 161) dX2_nameHere_161 rfl ht6
    · have ht6 := hk1_5.2 c6
      refine hb_bipush (pc := 155) (v := -7) dX2_nameHere_155 (by decide) ?_
      refine hb_goto (pc := 157) (tgt := 161) dX2_nameHere_157 (by decide) ?_
      exact hb_iret (pc := 161) dX2_nameHere_161 rfl ht6
  by_cases e1_6 : (hb_fI w 3 2 0) = (125190419 : Int32)
  · have hk1_6 := h.2.2.2.2.2.2.1 e1_6
    have ei : (hb_fI w 3 2 0).toInt = 125190419 := by rw [e1_6]; rfl
    refine hb_look (pc := 7) (tgt := 117) (off := 110) dX2_nameHere_7 (by decide +kernel) (by rw [ei]; decide +kernel) (by decide) ?_
    refine hb_aload_n (pc := 117) (i := 0) dX2_nameHere_117 rfl rfl ?_
    refine hb_getIx (pc := 118) (x := hb_fI w 4 2 0) dX2_nameHere_118 fw_X2_19 cw_2 rfl (by decide) rfl rfl ?_
    refine hb_iconst (pc := 121) (v := 2) dX2_nameHere_121 (by decide) ?_
    refine hb_icmp_ne (pc := 122) (tgt := 130) dX2_nameHere_122 (by decide) (fun c7 => ?_) (fun c7 => ?_)
    · have ht7 := hk1_6.1 c7
      refine hb_iconst (pc := 130) (v := 0) dX2_nameHere_130 (by decide) ?_
      exact hb_iret (pc := 131) dX2_nameHere_131 rfl ht7
    · have ht7 := hk1_6.2 c7
      refine hb_bipush (pc := 125) (v := -5) dX2_nameHere_125 (by decide) ?_
      refine hb_goto (pc := 127) (tgt := 131) dX2_nameHere_127 (by decide) ?_
      exact hb_iret (pc := 131) dX2_nameHere_131 rfl ht7
  have hk1_d := h.2.2.2.2.2.2.2 e1_0 e1_1 e1_2 e1_3 e1_4 e1_5 e1_6
  refine hb_look (pc := 7) (tgt := 162) (off := 155) dX2_nameHere_7 (by decide +kernel) (by show Op.lookupswitch.offset [(3361166, 96), (3525188, 65), (3650085, 81), (3918308, 125), (3924654, 67), (111552243, 140), (125190419, 110)] _ _ = _; rw [lv_osw (k := (3361166 : Int32)) (a := 3361166) e1_0 (by decide), lv_osw (k := (3525188 : Int32)) (a := 3525188) e1_1 (by decide), lv_osw (k := (3650085 : Int32)) (a := 3650085) e1_2 (by decide), lv_osw (k := (3918308 : Int32)) (a := 3918308) e1_3 (by decide), lv_osw (k := (3924654 : Int32)) (a := 3924654) e1_4 (by decide), lv_osw (k := (111552243 : Int32)) (a := 111552243) e1_5 (by decide), lv_osw (k := (125190419 : Int32)) (a := 125190419) e1_6 (by decide)]; rfl) (by decide) ?_
  refine hb_iconst (pc := 162) (v := 0) dX2_nameHere_162 (by decide) ?_
  exact hb_iret (pc := 163) dX2_nameHere_163 rfl hk1_d
theorem dX2_goIn_0 : decode cX2_goIn 0 = .ok (.iload_n 1, 1) := by decide +kernel
theorem dX2_goIn_1 : decode cX2_goIn 1 = .ok (.bipush 6, 2) := by decide +kernel
theorem dX2_goIn_3 : decode cX2_goIn 3 = .ok (.if_icmp .lt 19, 3) := by decide +kernel
theorem dX2_goIn_6 : decode cX2_goIn 6 = .ok (.aload_n 0, 1) := by decide +kernel
theorem dX2_goIn_7 : decode cX2_goIn 7 = .ok (.getfield 9, 3) := by decide +kernel
theorem dX2_goIn_10 : decode cX2_goIn 10 = .ok (.iconst 4, 1) := by decide +kernel
theorem dX2_goIn_11 : decode cX2_goIn 11 = .ok (.aload_n 0, 1) := by decide +kernel
theorem dX2_goIn_12 : decode cX2_goIn 12 = .ok (.getfield 9, 3) := by decide +kernel
theorem dX2_goIn_15 : decode cX2_goIn 15 = .ok (.getfield 47, 3) := by decide +kernel
theorem dX2_goIn_18 : decode cX2_goIn 18 = .ok (.invokevirtual 50, 3) := by decide +kernel
theorem dX2_goIn_21 : decode cX2_goIn 21 = .ok (.ireturn, 1) := by decide +kernel
theorem dX2_goIn_22 : decode cX2_goIn 22 = .ok (.aload_n 0, 1) := by decide +kernel
theorem dX2_goIn_23 : decode cX2_goIn 23 = .ok (.getfield 9, 3) := by decide +kernel
theorem dX2_goIn_26 : decode cX2_goIn 26 = .ok (.invokevirtual 70, 3) := by decide +kernel
theorem dX2_goIn_29 : decode cX2_goIn 29 = .ok (.iconst 1, 1) := by decide +kernel
theorem dX2_goIn_30 : decode cX2_goIn 30 = .ok (.ireturn, 1) := by decide +kernel
set_option maxRecDepth 20000 in
theorem bk_X2_goIn_0 {d : Nat} {w : hb_W} {Q : Option hb_V → hb_W → Prop} {x1 : Int32} (h : ((x1 < (6 : Int32)) → hb_O yX7_step cX7_step 4 none d [hb_r 3 0 0] w (fun rv w1 => hb_R yX2_goIn cX2_goIn 2 (some .boolean) (d + 1) 29 [some (hb_r 4 0 0), some (hb_i x1)] (rv.toList ++ []) w1 Q)) ∧ ((¬ x1 < (6 : Int32)) → hb_O yX7_stop cX7_stop 3 (some .boolean) d [hb_r 3 0 0, hb_i (4 : Int32), hb_i (hb_fI w 3 4 0)] w (fun rv w1 => hb_R yX2_goIn cX2_goIn 2 (some .boolean) (d + 1) 21 [some (hb_r 4 0 0), some (hb_i x1)] (rv.toList ++ []) w1 Q))) : hb_R yX2_goIn cX2_goIn 2 (some .boolean) (d + 1) 0 [some (hb_r 4 0 0), some (hb_i x1)] [] w Q := by
  refine hb_iload_n (pc := 0) (i := 1) dX2_goIn_0 rfl rfl ?_
  refine hb_bipush (pc := 1) (v := 6) dX2_goIn_1 (by decide) ?_
  refine hb_icmp_lt (pc := 3) (tgt := 22) dX2_goIn_3 (by decide) (fun c1 => ?_) (fun c1 => ?_)
  · have ht1 := h.1 c1
    refine hb_aload_n (pc := 22) (i := 0) dX2_goIn_22 rfl rfl ?_
    refine hb_getR (pc := 23) (g1 := 0) dX2_goIn_23 fw_X2_9 cw_2 rfl (by decide) rfl (by decide) rfl ?_
    exact hb_callV (pc := 26) (As := []) (st := []) dX2_goIn_26 ml_X2_70 mf_X7_step mi_X7_step (ci := 7) rfl rfl (by decide) rfl rfl (Nat.le_of_ble_eq_true rfl) (Nat.le_of_ble_eq_true rfl) ht1 (fun _ _ q => q)
  · have ht1 := h.2 c1
    refine hb_aload_n (pc := 6) (i := 0) dX2_goIn_6 rfl rfl ?_
    refine hb_getR (pc := 7) (g1 := 0) dX2_goIn_7 fw_X2_9 cw_2 rfl (by decide) rfl (by decide) rfl ?_
    refine hb_iconst (pc := 10) (v := 4) dX2_goIn_10 (by decide) ?_
    refine hb_aload_n (pc := 11) (i := 0) dX2_goIn_11 rfl rfl ?_
    refine hb_getR (pc := 12) (g1 := 0) dX2_goIn_12 fw_X2_9 cw_2 rfl (by decide) rfl (by decide) rfl ?_
    refine hb_getIx (pc := 15) (x := hb_fI w 3 4 0) dX2_goIn_15 fw_X2_47 cw_7 rfl (by decide) rfl rfl ?_
    exact hb_callV (pc := 18) (As := [hb_i (4 : Int32), hb_i (hb_fI w 3 4 0)]) (st := []) dX2_goIn_18 ml_X2_50 mf_X7_stop mi_X7_stop (ci := 7) rfl rfl (by decide) rfl rfl (Nat.le_of_ble_eq_true rfl) (Nat.le_of_ble_eq_true rfl) ht1 (fun _ _ q => q)
set_option maxRecDepth 20000 in
theorem bk_X2_goIn_21 {d : Nat} {w : hb_W} {Q : Option hb_V → hb_W → Prop} {x1 : Int32} {xs0 : Int32} (h : (xs0 = 0 ∨ xs0 = 1) ∧ Q (some (hb_i xs0)) w) : hb_R yX2_goIn cX2_goIn 2 (some .boolean) (d + 1) 21 [some (hb_r 4 0 0), some (hb_i x1)] [hb_i xs0] w Q := by
  exact hb_zret (pc := 21) dX2_goIn_21 rfl h.1 h.2
set_option maxRecDepth 20000 in
theorem bk_X2_goIn_29 {d : Nat} {w : hb_W} {Q : Option hb_V → hb_W → Prop} {x1 : Int32} (h : Q (some (hb_i (1 : Int32))) w) : hb_R yX2_goIn cX2_goIn 2 (some .boolean) (d + 1) 29 [some (hb_r 4 0 0), some (hb_i x1)] [] w Q := by
  refine hb_iconst (pc := 29) (v := 1) dX2_goIn_29 (by decide) ?_
  exact hb_zret (pc := 30) dX2_goIn_30 rfl (Or.inr rfl) h
