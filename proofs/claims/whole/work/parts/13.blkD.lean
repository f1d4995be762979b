theorem dX0_begin_0 : decode cX0_begin 0 = .ok (.aload_n 0, 1) := by decide +kernel
theorem dX0_begin_1 : decode cX0_begin 1 = .ok (.iconst 1, 1) := by decide +kernel
theorem dX0_begin_2 : decode cX0_begin 2 = .ok (.bipush 9, 2) := by decide +kernel
theorem dX0_begin_4 : decode cX0_begin 4 = .ok (.iload_n 1, 1) := by decide +kernel
theorem dX0_begin_5 : decode cX0_begin 5 = .ok (.invokestatic 56, 3) := by decide +kernel
theorem dX0_begin_8 : decode cX0_begin 8 = .ok (.invokestatic 62, 3) := by decide +kernel
theorem dX0_begin_11 : decode cX0_begin 11 = .ok (.putfield 9, 3) := by decide +kernel
theorem dX0_begin_14 : decode cX0_begin 14 = .ok (.aload_n 0, 1) := by decide +kernel
theorem dX0_begin_15 : decode cX0_begin 15 = .ok (.iconst 1, 1) := by decide +kernel
theorem dX0_begin_16 : decode cX0_begin 16 = .ok (.iconst 3, 1) := by decide +kernel
theorem dX0_begin_17 : decode cX0_begin 17 = .ok (.iload_n 2, 1) := by decide +kernel
theorem dX0_begin_18 : decode cX0_begin 18 = .ok (.invokestatic 56, 3) := by decide +kernel
theorem dX0_begin_21 : decode cX0_begin 21 = .ok (.invokestatic 62, 3) := by decide +kernel
theorem dX0_begin_24 : decode cX0_begin 24 = .ok (.putfield 15, 3) := by decide +kernel
theorem dX0_begin_27 : decode cX0_begin 27 = .ok (.aload_n 0, 1) := by decide +kernel
theorem dX0_begin_28 : decode cX0_begin 28 = .ok (.iconst 0, 1) := by decide +kernel
theorem dX0_begin_29 : decode cX0_begin 29 = .ok (.putfield 65, 3) := by decide +kernel
theorem dX0_begin_32 : decode cX0_begin 32 = .ok (.aload_n 0, 1) := by decide +kernel
theorem dX0_begin_33 : decode cX0_begin 33 = .ok (.iconst 0, 1) := by decide +kernel
theorem dX0_begin_34 : decode cX0_begin 34 = .ok (.putfield 68, 3) := by decide +kernel
theorem dX0_begin_37 : decode cX0_begin 37 = .ok (.aload_n 0, 1) := by decide +kernel
theorem dX0_begin_38 : decode cX0_begin 38 = .ok (.getfield 22, 3) := by decide +kernel
theorem dX0_begin_41 : decode cX0_begin 41 = .ok (.iconst 0, 1) := by decide +kernel
theorem dX0_begin_42 : decode cX0_begin 42 = .ok (.invokestatic 71, 3) := by decide +kernel
theorem dX0_begin_45 : decode cX0_begin 45 = .ok (.aload_n 0, 1) := by decide +kernel
theorem dX0_begin_46 : decode cX0_begin 46 = .ok (.getfield 26, 3) := by decide +kernel
theorem dX0_begin_49 : decode cX0_begin 49 = .ok (.iconst 0, 1) := by decide +kernel
theorem dX0_begin_50 : decode cX0_begin 50 = .ok (.invokestatic 71, 3) := by decide +kernel
theorem dX0_begin_53 : decode cX0_begin 53 = .ok (.aload_n 0, 1) := by decide +kernel
theorem dX0_begin_54 : decode cX0_begin 54 = .ok (.getfield 29, 3) := by decide +kernel
theorem dX0_begin_57 : decode cX0_begin 57 = .ok (.iconst 0, 1) := by decide +kernel
theorem dX0_begin_58 : decode cX0_begin 58 = .ok (.invokestatic 71, 3) := by decide +kernel
theorem dX0_begin_61 : decode cX0_begin 61 = .ok (.aload_n 0, 1) := by decide +kernel
theorem dX0_begin_62 : decode cX0_begin 62 = .ok (.getfield 38, 3) := by decide +kernel
theorem dX0_begin_65 : decode cX0_begin 65 = .ok (.iconst 0, 1) := by decide +kernel
theorem dX0_begin_66 : decode cX0_begin 66 = .ok (.invokestatic 71, 3) := by decide +kernel
theorem dX0_begin_69 : decode cX0_begin 69 = .ok (.aload_n 0, 1) := by decide +kernel
theorem dX0_begin_70 : decode cX0_begin 70 = .ok (.getfield 47, 3) := by decide +kernel
theorem dX0_begin_73 : decode cX0_begin 73 = .ok (.iconst 0, 1) := by decide +kernel
theorem dX0_begin_74 : decode cX0_begin 74 = .ok (.invokestatic 71, 3) := by decide +kernel
theorem dX0_begin_77 : decode cX0_begin 77 = .ok (.aload_n 0, 1) := by decide +kernel
theorem dX0_begin_78 : decode cX0_begin 78 = .ok (.invokevirtual 77, 3) := by decide +kernel
theorem dX0_begin_81 : decode cX0_begin 81 = .ok (.return_, 1) := by decide +kernel
set_option maxRecDepth 20000 in
theorem bk_X0_begin_0 {d : Nat} {w : hb_W} {Q : Option hb_V → hb_W → Prop} {g0 : Nat} {x1 : Int32} {x2 : Int32} (hg0 : g0 < hb_ct 9) (h : hb_O yJ7_fill_53178 cJ7_fill_53178 4 none d [hb_r 9 g0 1, hb_i (0 : Int32)] (hb_pI (hb_pI (hb_pI (hb_pI w 9 0 g0 (if (1 : Int32) < (if x1 < (9 : Int32) then x1 else (9 : Int32)) then (if x1 < (9 : Int32) then x1 else (9 : Int32)) else (1 : Int32))) 9 1 g0 (if (1 : Int32) < (if x2 < (3 : Int32) then x2 else (3 : Int32)) then (if x2 < (3 : Int32) then x2 else (3 : Int32)) else (1 : Int32))) 9 3 g0 (0 : Int32)) 9 4 g0 (0 : Int32)) (fun rv w1 => hb_R yX0_begin cX0_begin 3 none (d + 1) 45 [some (hb_r 9 g0 0), some (hb_i x1), some (hb_i x2)] (rv.toList ++ []) w1 Q)) : hb_R yX0_begin cX0_begin 3 none (d + 1) 0 [some (hb_r 9 g0 0), some (hb_i x1), some (hb_i x2)] [] w Q := by
  refine hb_aload_n (pc := 0) (i := 0) dX0_begin_0 rfl rfl ?_
  refine hb_iconst (pc := 1) (v := 1) dX0_begin_1 (by decide) ?_
  refine hb_bipush (pc := 2) (v := 9) dX0_begin_2 (by decide) ?_
  refine hb_iload_n (pc := 4) (i := 1) dX0_begin_4 rfl rfl ?_
  refine hb_mmin (pc := 5) dX0_begin_5 ml_X0_56 (Nat.le_of_ble_eq_true rfl) ?_
  refine hb_mmax (pc := 8) dX0_begin_8 ml_X0_62 (Nat.le_of_ble_eq_true rfl) ?_
  refine hb_putI (pc := 11) dX0_begin_11 fw_X0_9 cw_0 pw_0_0 rfl hg0 rfl rfl rfl ?_
  refine hb_aload_n (pc := 14) (i := 0) dX0_begin_14 rfl rfl ?_
  refine hb_iconst (pc := 15) (v := 1) dX0_begin_15 (by decide) ?_
  refine hb_iconst (pc := 16) (v := 3) dX0_begin_16 (by decide) ?_
  refine hb_iload_n (pc := 17) (i := 2) dX0_begin_17 rfl rfl ?_
  refine hb_mmin (pc := 18) dX0_begin_18 ml_X0_56 (Nat.le_of_ble_eq_true rfl) ?_
  refine hb_mmax (pc := 21) dX0_begin_21 ml_X0_62 (Nat.le_of_ble_eq_true rfl) ?_
  refine hb_putI (pc := 24) dX0_begin_24 fw_X0_15 cw_0 pw_0_1 rfl hg0 rfl rfl rfl ?_
  refine hb_aload_n (pc := 27) (i := 0) dX0_begin_27 rfl rfl ?_
  refine hb_iconst (pc := 28) (v := 0) dX0_begin_28 (by decide) ?_
  refine hb_putI (pc := 29) dX0_begin_29 fw_X0_65 cw_0 pw_0_3 rfl hg0 rfl rfl rfl ?_
  refine hb_aload_n (pc := 32) (i := 0) dX0_begin_32 rfl rfl ?_
  refine hb_iconst (pc := 33) (v := 0) dX0_begin_33 (by decide) ?_
  refine hb_putI (pc := 34) dX0_begin_34 fw_X0_68 cw_0 pw_0_4 rfl hg0 rfl rfl rfl ?_
  refine hb_aload_n (pc := 37) (i := 0) dX0_begin_37 rfl rfl ?_
  refine hb_getR (pc := 38) (g1 := g0) dX0_begin_38 fw_X0_22 cw_0 rfl hg0 rfl (by decide) rfl ?_
  refine hb_iconst (pc := 41) (v := 0) dX0_begin_41 (by decide) ?_
  exact hb_callS (pc := 42) (As := [hb_r 9 g0 1, hb_i (0 : Int32)]) (st := []) dX0_begin_42 ml_X0_71 mf_J7_fill_53178 ms_J7_fill_53178 rfl rfl (Nat.le_of_ble_eq_true rfl) (Nat.le_of_ble_eq_true rfl) h (fun _ _ q => q)
set_option maxRecDepth 20000 in
theorem bk_X0_begin_45 {d : Nat} {w : hb_W} {Q : Option hb_V → hb_W → Prop} {g0 : Nat} {x1 : Int32} {x2 : Int32} (hg0 : g0 < hb_ct 9) (h : hb_O yJ7_fill_53178 cJ7_fill_53178 4 none d [hb_r 9 g0 2, hb_i (0 : Int32)] w (fun rv w1 => hb_R yX0_begin cX0_begin 3 none (d + 1) 53 [some (hb_r 9 g0 0), some (hb_i x1), some (hb_i x2)] (rv.toList ++ []) w1 Q)) : hb_R yX0_begin cX0_begin 3 none (d + 1) 45 [some (hb_r 9 g0 0), some (hb_i x1), some (hb_i x2)] [] w Q := by
  refine hb_aload_n (pc := 45) (i := 0) dX0_begin_45 rfl rfl ?_
  refine hb_getR (pc := 46) (g1 := g0) dX0_begin_46 fw_X0_26 cw_0 rfl hg0 rfl (by decide) rfl ?_
  refine hb_iconst (pc := 49) (v := 0) dX0_begin_49 (by decide) ?_
  exact hb_callS (pc := 50) (As := [hb_r 9 g0 2, hb_i (0 : Int32)]) (st := []) dX0_begin_50 ml_X0_71 mf_J7_fill_53178 ms_J7_fill_53178 rfl rfl (Nat.le_of_ble_eq_true rfl) (Nat.le_of_ble_eq_true rfl) h (fun _ _ q => q)
set_option maxRecDepth 20000 in
theorem bk_X0_begin_53 {d : Nat} {w : hb_W} {Q : Option hb_V → hb_W → Prop} {g0 : Nat} {x1 : Int32} {x2 : Int32} (hg0 : g0 < hb_ct 9) (h : hb_O yJ7_fill_53178 cJ7_fill_53178 4 none d [hb_r 9 g0 3, hb_i (0 : Int32)] w (fun rv w1 => hb_R yX0_begin cX0_begin 3 none (d + 1) 61 [some (hb_r 9 g0 0), some (hb_i x1), some (hb_i x2)] (rv.toList ++ []) w1 Q)) : hb_R yX0_begin cX0_begin 3 none (d + 1) 53 [some (hb_r 9 g0 0), some (hb_i x1), some (hb_i x2)] [] w Q := by
  refine hb_aload_n (pc := 53) (i := 0) dX0_begin_53 rfl rfl ?_
  refine hb_getR (pc := 54) (g1 := g0) dX0_begin_54 fw_X0_29 cw_0 rfl hg0 rfl (by decide) rfl ?_
  refine hb_iconst (pc := 57) (v := 0) dX0_begin_57 (by decide) ?_
  exact hb_callS (pc := 58) (As := [hb_r 9 g0 3, hb_i (0 : Int32)]) (st := []) dX0_begin_58 ml_X0_71 mf_J7_fill_53178 ms_J7_fill_53178 rfl rfl (Nat.le_of_ble_eq_true rfl) (Nat.le_of_ble_eq_true rfl) h (fun _ _ q => q)
set_option maxRecDepth 20000 in
theorem bk_X0_begin_61 {d : Nat} {w : hb_W} {Q : Option hb_V → hb_W → Prop} {g0 : Nat} {x1 : Int32} {x2 : Int32} (hg0 : g0 < hb_ct 9) (h : hb_O yJ7_fill_53178 cJ7_fill_53178 4 none d [hb_r 9 g0 6, hb_i (0 : Int32)] w (fun rv w1 => hb_R yX0_begin cX0_begin 3 none (d + 1) 69 [some (hb_r 9 g0 0), some (hb_i x1), some (hb_i x2)] (rv.toList ++ []) w1 Q)) : hb_R yX0_begin cX0_begin 3 none (d + 1) 61 [some (hb_r 9 g0 0), some (hb_i x1), some (hb_i x2)] [] w Q := by
  refine hb_aload_n (pc := 61) (i := 0) dX0_begin_61 rfl rfl ?_
  refine hb_getR (pc := 62) (g1 := g0) dX0_begin_62 fw_X0_38 cw_0 rfl hg0 rfl (by decide) rfl ?_
  refine hb_iconst (pc := 65) (v := 0) dX0_begin_65 (by decide) ?_
  exact hb_callS (pc := 66) (As := [hb_r 9 g0 6, hb_i (0 : Int32)]) (st := []) dX0_begin_66 ml_X0_71 mf_J7_fill_53178 ms_J7_fill_53178 rfl rfl (Nat.le_of_ble_eq_true rfl) (Nat.le_of_ble_eq_true rfl) h (fun _ _ q => q)
set_option maxRecDepth 20000 in
theorem bk_X0_begin_69 {d : Nat} {w : hb_W} {Q : Option hb_V → hb_W → Prop} {g0 : Nat} {x1 : Int32} {x2 : Int32} (hg0 : g0 < hb_ct 9) (h : hb_O yJ7_fill_53178 cJ7_fill_53178 4 none d [hb_r 9 g0 9, hb_i (0 : Int32)] w (fun rv w1 => hb_R yX0_begin cX0_begin 3 none (d + 1) 77 [some (hb_r 9 g0 0), some (hb_i x1), some (hb_i x2)] (rv.toList ++ []) w1 Q)) : hb_R yX0_begin cX0_begin 3 none (d + 1) 69 [some (hb_r 9 g0 0), some (hb_i x1), some (hb_i x2)] [] w Q := by
  refine hb_aload_n (pc := 69) (i := 0) dX0_begin_69 rfl rfl ?_
  refine hb_getR (pc := 70) (g1 := g0) dX0_begin_70 fw_X0_47 cw_0 rfl hg0 rfl (by decide) rfl ?_
  refine hb_iconst (pc := 73) (v := 0) dX0_begin_73 (by decide) ?_
  exact hb_callS (pc := 74) (As := [hb_r 9 g0 9, hb_i (0 : Int32)]) (st := []) dX0_begin_74 ml_X0_71 mf_J7_fill_53178 ms_J7_fill_53178 rfl rfl (Nat.le_of_ble_eq_true rfl) (Nat.le_of_ble_eq_true rfl) h (fun _ _ q => q)
set_option maxRecDepth 20000 in
theorem bk_X0_begin_77 {d : Nat} {w : hb_W} {Q : Option hb_V → hb_W → Prop} {g0 : Nat} {x1 : Int32} {x2 : Int32} (hg0 : g0 < hb_ct 9) (h : hb_O yX0_wipeMarks cX0_wipeMarks 1 none d [hb_r 9 g0 0] w (fun rv w1 => hb_R yX0_begin cX0_begin 3 none (d + 1) 81 [some (hb_r 9 g0 0), some (hb_i x1), some (hb_i x2)] (rv.toList ++ []) w1 Q)) : hb_R yX0_begin cX0_begin 3 none (d + 1) 77 [some (hb_r 9 g0 0), some (hb_i x1), some (hb_i x2)] [] w Q := by
  refine hb_aload_n (pc := 77) (i := 0) dX0_begin_77 rfl rfl ?_
  exact hb_callV (pc := 78) (As := []) (st := []) dX0_begin_78 ml_X0_77 mf_X0_wipeMarks mi_X0_wipeMarks (ci := 0) rfl rfl hg0 rfl rfl (Nat.le_of_ble_eq_true rfl) (Nat.le_of_ble_eq_true rfl) h (fun _ _ q => q)
set_option maxRecDepth 20000 in
theorem bk_X0_begin_81 {d : Nat} {w : hb_W} {Q : Option hb_V → hb_W → Prop} {g0 : Nat} {x1 : Int32} {x2 : Int32} (hg0 : g0 < hb_ct 9) (h : Q none w) : hb_R yX0_begin cX0_begin 3 none (d + 1) 81 [some (hb_r 9 g0 0), some (hb_i x1), some (hb_i x2)] [] w Q := by
  exact hb_vret (pc := 81) dX0_begin_81 rfl h
theorem dX0_wipeMarks_0 : decode cX0_wipeMarks 0 = .ok (.aload_n 0, 1) := by decide +kernel
theorem dX0_wipeMarks_1 : decode cX0_wipeMarks 1 = .ok (.iconst 0, 1) := by decide +kernel
theorem dX0_wipeMarks_2 : decode cX0_wipeMarks 2 = .ok (.putfield 80, 3) := by decide +kernel
theorem dX0_wipeMarks_5 : decode cX0_wipeMarks 5 = .ok (.aload_n 0, 1) := by decide +kernel
theorem dX0_wipeMarks_6 : decode cX0_wipeMarks 6 = .ok (.iconst (-1), 1) := by decide +kernel
theorem dX0_wipeMarks_7 : decode cX0_wipeMarks 7 = .ok (.putfield 53, 3) := by decide +kernel
theorem dX0_wipeMarks_10 : decode cX0_wipeMarks 10 = .ok (.aload_n 0, 1) := by decide +kernel
theorem dX0_wipeMarks_11 : decode cX0_wipeMarks 11 = .ok (.getfield 41, 3) := by decide +kernel
theorem dX0_wipeMarks_14 : decode cX0_wipeMarks 14 = .ok (.iconst 0, 1) := by decide +kernel
theorem dX0_wipeMarks_15 : decode cX0_wipeMarks 15 = .ok (.invokestatic 71, 3) := by decide +kernel
theorem dX0_wipeMarks_18 : decode cX0_wipeMarks 18 = .ok (.aload_n 0, 1) := by decide +kernel
theorem dX0_wipeMarks_19 : decode cX0_wipeMarks 19 = .ok (.getfield 44, 3) := by decide +kernel
theorem dX0_wipeMarks_22 : decode cX0_wipeMarks 22 = .ok (.iconst 0, 1) := by decide +kernel
theorem dX0_wipeMarks_23 : decode cX0_wipeMarks 23 = .ok (.invokestatic 71, 3) := by decide +kernel
theorem dX0_wipeMarks_26 : decode cX0_wipeMarks 26 = .ok (.aload_n 0, 1) := by decide +kernel
theorem dX0_wipeMarks_27 : decode cX0_wipeMarks 27 = .ok (.getfield 50, 3) := by decide +kernel
theorem dX0_wipeMarks_30 : decode cX0_wipeMarks 30 = .ok (.sipush 1000, 3) := by decide +kernel
theorem dX0_wipeMarks_33 : decode cX0_wipeMarks 33 = .ok (.invokestatic 71, 3) := by decide +kernel
theorem dX0_wipeMarks_36 : decode cX0_wipeMarks 36 = .ok (.return_, 1) := by decide +kernel
set_option maxRecDepth 20000 in
theorem bk_X0_wipeMarks_0 {d : Nat} {w : hb_W} {Q : Option hb_V → hb_W → Prop} {g0 : Nat} (hg0 : g0 < hb_ct 9) (h : hb_O yJ7_fill_53178 cJ7_fill_53178 4 none d [hb_r 9 g0 7, hb_i (0 : Int32)] (hb_pI (hb_pI w 9 8 g0 (0 : Int32)) 9 10 g0 (-1 : Int32)) (fun rv w1 => hb_R yX0_wipeMarks cX0_wipeMarks 1 none (d + 1) 18 [some (hb_r 9 g0 0)] (rv.toList ++ []) w1 Q)) : hb_R yX0_wipeMarks cX0_wipeMarks 1 none (d + 1) 0 [some (hb_r 9 g0 0)] [] w Q := by
  refine hb_aload_n (pc := 0) (i := 0) dX0_wipeMarks_0 rfl rfl ?_
  refine hb_iconst (pc := 1) (v := 0) dX0_wipeMarks_1 (by decide) ?_
  refine hb_putI (pc := 2) dX0_wipeMarks_2 fw_X0_80 cw_0 pw_0_8 rfl hg0 rfl rfl rfl ?_
  refine hb_aload_n (pc := 5) (i := 0) dX0_wipeMarks_5 rfl rfl ?_
  refine hb_iconst (pc := 6) (v := -1) dX0_wipeMarks_6 (by decide) ?_
  refine hb_putI (pc := 7) dX0_wipeMarks_7 fw_X0_53 cw_0 pw_0_10 rfl hg0 rfl rfl rfl ?_
  refine hb_aload_n (pc := 10) (i := 0) dX0_wipeMarks_10 rfl rfl ?_
  refine hb_getR (pc := 11) (g1 := g0) dX0_wipeMarks_11 fw_X0_41 cw_0 rfl hg0 rfl (by decide) rfl ?_
  refine hb_iconst (pc := 14) (v := 0) dX0_wipeMarks_14 (by decide) ?_
  exact hb_callS (pc := 15) (As := [hb_r 9 g0 7, hb_i (0 : Int32)]) (st := []) dX0_wipeMarks_15 ml_X0_71 mf_J7_fill_53178 ms_J7_fill_53178 rfl rfl (Nat.le_of_ble_eq_true rfl) (Nat.le_of_ble_eq_true rfl) h (fun _ _ q => q)
set_option maxRecDepth 20000 in
theorem bk_X0_wipeMarks_18 {d : Nat} {w : hb_W} {Q : Option hb_V → hb_W → Prop} {g0 : Nat} (hg0 : g0 < hb_ct 9) (h : hb_O yJ7_fill_53178 cJ7_fill_53178 4 none d [hb_r 9 g0 8, hb_i (0 : Int32)] w (fun rv w1 => hb_R yX0_wipeMarks cX0_wipeMarks 1 none (d + 1) 26 [some (hb_r 9 g0 0)] (rv.toList ++ []) w1 Q)) : hb_R yX0_wipeMarks cX0_wipeMarks 1 none (d + 1) 18 [some (hb_r 9 g0 0)] [] w Q := by
  refine hb_aload_n (pc := 18) (i := 0) dX0_wipeMarks_18 rfl rfl ?_
  refine hb_getR (pc := 19) (g1 := g0) dX0_wipeMarks_19 fw_X0_44 cw_0 rfl hg0 rfl (by decide) rfl ?_
  refine hb_iconst (pc := 22) (v := 0) dX0_wipeMarks_22 (by decide) ?_
  exact hb_callS (pc := 23) (As := [hb_r 9 g0 8, hb_i (0 : Int32)]) (st := []) dX0_wipeMarks_23 ml_X0_71 mf_J7_fill_53178 ms_J7_fill_53178 rfl rfl (Nat.le_of_ble_eq_true rfl) (Nat.le_of_ble_eq_true rfl) h (fun _ _ q => q)
set_option maxRecDepth 20000 in
theorem bk_X0_wipeMarks_26 {d : Nat} {w : hb_W} {Q : Option hb_V → hb_W → Prop} {g0 : Nat} (hg0 : g0 < hb_ct 9) (h : hb_O yJ7_fill_53178 cJ7_fill_53178 4 none d [hb_r 9 g0 10, hb_i (1000 : Int32)] w (fun rv w1 => hb_R yX0_wipeMarks cX0_wipeMarks 1 none (d + 1) 36 [some (hb_r 9 g0 0)] (rv.toList ++ []) w1 Q)) : hb_R yX0_wipeMarks cX0_wipeMarks 1 none (d + 1) 26 [some (hb_r 9 g0 0)] [] w Q := by
  refine hb_aload_n (pc := 26) (i := 0) dX0_wipeMarks_26 rfl rfl ?_
  refine hb_getR (pc := 27) (g1 := g0) dX0_wipeMarks_27 fw_X0_50 cw_0 rfl hg0 rfl (by decide) rfl ?_
  refine hb_sipush (pc := 30) (v := 1000) dX0_wipeMarks_30 (by decide) ?_
  exact hb_callS (pc := 33) (As := [hb_r 9 g0 10, hb_i (1000 : Int32)]) (st := []) dX0_wipeMarks_33 ml_X0_71 mf_J7_fill_53178 ms_J7_fill_53178 rfl rfl (Nat.le_of_ble_eq_true rfl) (Nat.le_of_ble_eq_true rfl) h (fun _ _ q => q)
set_option maxRecDepth 20000 in
theorem bk_X0_wipeMarks_36 {d : Nat} {w : hb_W} {Q : Option hb_V → hb_W → Prop} {g0 : Nat} (hg0 : g0 < hb_ct 9) (h : Q none w) : hb_R yX0_wipeMarks cX0_wipeMarks 1 none (d + 1) 36 [some (hb_r 9 g0 0)] [] w Q := by
  exact hb_vret (pc := 36) dX0_wipeMarks_36 rfl h
theorem dX0_copy_0 : decode cX0_copy 0 = .ok (.aload_n 0, 1) := by decide +kernel
theorem dX0_copy_1 : decode cX0_copy 1 = .ok (.aload_n 1, 1) := by decide +kernel
theorem dX0_copy_2 : decode cX0_copy 2 = .ok (.getfield 9, 3) := by decide +kernel
theorem dX0_copy_5 : decode cX0_copy 5 = .ok (.putfield 9, 3) := by decide +kernel
theorem dX0_copy_8 : decode cX0_copy 8 = .ok (.aload_n 0, 1) := by decide +kernel
theorem dX0_copy_9 : decode cX0_copy 9 = .ok (.aload_n 1, 1) := by decide +kernel
theorem dX0_copy_10 : decode cX0_copy 10 = .ok (.getfield 15, 3) := by decide +kernel
theorem dX0_copy_13 : decode cX0_copy 13 = .ok (.putfield 15, 3) := by decide +kernel
theorem dX0_copy_16 : decode cX0_copy 16 = .ok (.aload_n 0, 1) := by decide +kernel
theorem dX0_copy_17 : decode cX0_copy 17 = .ok (.aload_n 1, 1) := by decide +kernel
theorem dX0_copy_18 : decode cX0_copy 18 = .ok (.getfield 65, 3) := by decide +kernel
theorem dX0_copy_21 : decode cX0_copy 21 = .ok (.putfield 65, 3) := by decide +kernel
theorem dX0_copy_24 : decode cX0_copy 24 = .ok (.aload_n 0, 1) := by decide +kernel
theorem dX0_copy_25 : decode cX0_copy 25 = .ok (.aload_n 1, 1) := by decide +kernel
theorem dX0_copy_26 : decode cX0_copy 26 = .ok (.getfield 68, 3) := by decide +kernel
theorem dX0_copy_29 : decode cX0_copy 29 = .ok (.putfield 68, 3) := by decide +kernel
theorem dX0_copy_32 : decode cX0_copy 32 = .ok (.aload_n 0, 1) := by decide +kernel
theorem dX0_copy_33 : decode cX0_copy 33 = .ok (.aload_n 1, 1) := by decide +kernel
theorem dX0_copy_34 : decode cX0_copy 34 = .ok (.getfield 80, 3) := by decide +kernel
theorem dX0_copy_37 : decode cX0_copy 37 = .ok (.putfield 80, 3) := by decide +kernel
theorem dX0_copy_40 : decode cX0_copy 40 = .ok (.aload_n 0, 1) := by decide +kernel
theorem dX0_copy_41 : decode cX0_copy 41 = .ok (.aload_n 1, 1) := by decide +kernel
theorem dX0_copy_42 : decode cX0_copy 42 = .ok (.getfield 53, 3) := by decide +kernel
theorem dX0_copy_45 : decode cX0_copy 45 = .ok (.putfield 53, 3) := by decide +kernel
theorem dX0_copy_48 : decode cX0_copy 48 = .ok (.aload_n 1, 1) := by decide +kernel
theorem dX0_copy_49 : decode cX0_copy 49 = .ok (.getfield 22, 3) := by decide +kernel
theorem dX0_copy_52 : decode cX0_copy 52 = .ok (.iconst 0, 1) := by decide +kernel
theorem dX0_copy_53 : decode cX0_copy 53 = .ok (.aload_n 0, 1) := by decide +kernel
theorem dX0_copy_54 : decode cX0_copy 54 = .ok (.getfield 22, 3) := by decide +kernel
theorem dX0_copy_57 : decode cX0_copy 57 = .ok (.iconst 0, 1) := by decide +kernel
theorem dX0_copy_58 : decode cX0_copy 58 = .ok (.bipush 64, 2) := by decide +kernel
theorem dX0_copy_60 : decode cX0_copy 60 = .ok (.invokestatic 83, 3) := by decide +kernel
theorem dX0_copy_63 : decode cX0_copy 63 = .ok (.aload_n 1, 1) := by decide +kernel
theorem dX0_copy_64 : decode cX0_copy 64 = .ok (.getfield 26, 3) := by decide +kernel
theorem dX0_copy_67 : decode cX0_copy 67 = .ok (.iconst 0, 1) := by decide +kernel
theorem dX0_copy_68 : decode cX0_copy 68 = .ok (.aload_n 0, 1) := by decide +kernel
theorem dX0_copy_69 : decode cX0_copy 69 = .ok (.getfield 26, 3) := by decide +kernel
theorem dX0_copy_72 : decode cX0_copy 72 = .ok (.iconst 0, 1) := by decide +kernel
theorem dX0_copy_73 : decode cX0_copy 73 = .ok (.bipush 64, 2) := by decide +kernel
theorem dX0_copy_75 : decode cX0_copy 75 = .ok (.invokestatic 83, 3) := by decide +kernel
theorem dX0_copy_78 : decode cX0_copy 78 = .ok (.aload_n 1, 1) := by decide +kernel
theorem dX0_copy_79 : decode cX0_copy 79 = .ok (.getfield 29, 3) := by decide +kernel
theorem dX0_copy_82 : decode cX0_copy 82 = .ok (.iconst 0, 1) := by decide +kernel
theorem dX0_copy_83 : decode cX0_copy 83 = .ok (.aload_n 0, 1) := by decide +kernel
theorem dX0_copy_84 : decode cX0_copy 84 = .ok (.getfield 29, 3) := by decide +kernel
theorem dX0_copy_87 : decode cX0_copy 87 = .ok (.iconst 0, 1) := by decide +kernel
theorem dX0_copy_88 : decode cX0_copy 88 = .ok (.bipush 100, 2) := by decide +kernel
theorem dX0_copy_90 : decode cX0_copy 90 = .ok (.invokestatic 83, 3) := by decide +kernel
theorem dX0_copy_93 : decode cX0_copy 93 = .ok (.aload_n 1, 1) := by decide +kernel
theorem dX0_copy_94 : decode cX0_copy 94 = .ok (.getfield 32, 3) := by decide +kernel
theorem dX0_copy_97 : decode cX0_copy 97 = .ok (.iconst 0, 1) := by decide +kernel
theorem dX0_copy_98 : decode cX0_copy 98 = .ok (.aload_n 0, 1) := by decide +kernel
theorem dX0_copy_99 : decode cX0_copy 99 = .ok (.getfield 32, 3) := by decide +kernel
theorem dX0_copy_102 : decode cX0_copy 102 = .ok (.iconst 0, 1) := by decide +kernel
theorem dX0_copy_103 : decode cX0_copy 103 = .ok (.bipush 9, 2) := by decide +kernel
theorem dX0_copy_105 : decode cX0_copy 105 = .ok (.invokestatic 83, 3) := by decide +kernel
theorem dX0_copy_108 : decode cX0_copy 108 = .ok (.aload_n 1, 1) := by decide +kernel
theorem dX0_copy_109 : decode cX0_copy 109 = .ok (.getfield 35, 3) := by decide +kernel
theorem dX0_copy_112 : decode cX0_copy 112 = .ok (.iconst 0, 1) := by decide +kernel
theorem dX0_copy_113 : decode cX0_copy 113 = .ok (.aload_n 0, 1) := by decide +kernel
theorem dX0_copy_114 : decode cX0_copy 114 = .ok (.getfield 35, 3) := by decide +kernel
theorem dX0_copy_117 : decode cX0_copy 117 = .ok (.iconst 0, 1) := by decide +kernel
theorem dX0_copy_118 : decode cX0_copy 118 = .ok (.bipush 9, 2) := by decide +kernel
theorem dX0_copy_120 : decode cX0_copy 120 = .ok (.invokestatic 83, 3) := by decide +kernel
theorem dX0_copy_123 : decode cX0_copy 123 = .ok (.aload_n 1, 1) := by decide +kernel
theorem dX0_copy_124 : decode cX0_copy 124 = .ok (.getfield 38, 3) := by decide +kernel
theorem dX0_copy_127 : decode cX0_copy 127 = .ok (.iconst 0, 1) := by decide +kernel
theorem dX0_copy_128 : decode cX0_copy 128 = .ok (.aload_n 0, 1) := by decide +kernel
theorem dX0_copy_129 : decode cX0_copy 129 = .ok (.getfield 38, 3) := by decide +kernel
theorem dX0_copy_132 : decode cX0_copy 132 = .ok (.iconst 0, 1) := by decide +kernel
theorem dX0_copy_133 : decode cX0_copy 133 = .ok (.bipush 9, 2) := by decide +kernel
theorem dX0_copy_135 : decode cX0_copy 135 = .ok (.invokestatic 83, 3) := by decide +kernel
theorem dX0_copy_138 : decode cX0_copy 138 = .ok (.aload_n 1, 1) := by decide +kernel
theorem dX0_copy_139 : decode cX0_copy 139 = .ok (.getfield 41, 3) := by decide +kernel
theorem dX0_copy_142 : decode cX0_copy 142 = .ok (.iconst 0, 1) := by decide +kernel
theorem dX0_copy_143 : decode cX0_copy 143 = .ok (.aload_n 0, 1) := by decide +kernel
theorem dX0_copy_144 : decode cX0_copy 144 = .ok (.getfield 41, 3) := by decide +kernel
theorem dX0_copy_147 : decode cX0_copy 147 = .ok (.iconst 0, 1) := by decide +kernel
theorem dX0_copy_148 : decode cX0_copy 148 = .ok (.bipush 27, 2) := by decide +kernel
theorem dX0_copy_150 : decode cX0_copy 150 = .ok (.invokestatic 83, 3) := by decide +kernel
theorem dX0_copy_153 : decode cX0_copy 153 = .ok (.aload_n 1, 1) := by decide +kernel
theorem dX0_copy_154 : decode cX0_copy 154 = .ok (.getfield 44, 3) := by decide +kernel
theorem dX0_copy_157 : decode cX0_copy 157 = .ok (.iconst 0, 1) := by decide +kernel
theorem dX0_copy_158 : decode cX0_copy 158 = .ok (.aload_n 0, 1) := by decide +kernel
theorem dX0_copy_159 : decode cX0_copy 159 = .ok (.getfield 44, 3) := by decide +kernel
theorem dX0_copy_162 : decode cX0_copy 162 = .ok (.iconst 0, 1) := by decide +kernel
theorem dX0_copy_163 : decode cX0_copy 163 = .ok (.bipush 72, 2) := by decide +kernel
theorem dX0_copy_165 : decode cX0_copy 165 = .ok (.invokestatic 83, 3) := by decide +kernel
theorem dX0_copy_168 : decode cX0_copy 168 = .ok (.aload_n 1, 1) := by decide +kernel
theorem dX0_copy_169 : decode cX0_copy 169 = .ok (.getfield 47, 3) := by decide +kernel
theorem dX0_copy_172 : decode cX0_copy 172 = .ok (.iconst 0, 1) := by decide +kernel
theorem dX0_copy_173 : decode cX0_copy 173 = .ok (.aload_n 0, 1) := by decide +kernel
theorem dX0_copy_174 : decode cX0_copy 174 = .ok (.getfield 47, 3) := by decide +kernel
theorem dX0_copy_177 : decode cX0_copy 177 = .ok (.iconst 0, 1) := by decide +kernel
theorem dX0_copy_178 : decode cX0_copy 178 = .ok (.bipush 9, 2) := by decide +kernel
theorem dX0_copy_180 : decode cX0_copy 180 = .ok (.invokestatic 83, 3) := by decide +kernel
theorem dX0_copy_183 : decode cX0_copy 183 = .ok (.aload_n 1, 1) := by decide +kernel
theorem dX0_copy_184 : decode cX0_copy 184 = .ok (.getfield 50, 3) := by decide +kernel
theorem dX0_copy_187 : decode cX0_copy 187 = .ok (.iconst 0, 1) := by decide +kernel
theorem dX0_copy_188 : decode cX0_copy 188 = .ok (.aload_n 0, 1) := by decide +kernel
theorem dX0_copy_189 : decode cX0_copy 189 = .ok (.getfield 50, 3) := by decide +kernel
theorem dX0_copy_192 : decode cX0_copy 192 = .ok (.iconst 0, 1) := by decide +kernel
theorem dX0_copy_193 : decode cX0_copy 193 = .ok (.bipush 9, 2) := by decide +kernel
theorem dX0_copy_195 : decode cX0_copy 195 = .ok (.invokestatic 83, 3) := by decide +kernel
theorem dX0_copy_198 : decode cX0_copy 198 = .ok (.return_, 1) := by decide +kernel
set_option maxRecDepth 20000 in
theorem bk_X0_copy_0 {d : Nat} {w : hb_W} {Q : Option hb_V → hb_W → Prop} {g0 : Nat} {g1 : Nat} (hg0 : g0 < hb_ct 9) (hg1 : g1 < hb_ct 9) (h : Q none (hb_sI (hb_sI (hb_sI (hb_sI (hb_sI (hb_sI (hb_sI (hb_sI (hb_sI (hb_sI (hb_pI (hb_pI (hb_pI (hb_pI (hb_pI (hb_pI w 9 0 g0 (hb_fI w 9 0 g1)) 9 1 g0 (hb_fI w 9 1 g1)) 9 3 g0 (hb_fI w 9 3 g1)) 9 4 g0 (hb_fI w 9 4 g1)) 9 8 g0 (hb_fI w 9 8 g1)) 9 10 g0 (hb_fI w 9 10 g1)) 9 1 g0 (va_cpy (hb_aI w 9 1 g1) (hb_aI w 9 1 g0) (0 : Int32).toNatClampNeg (0 : Int32).toNatClampNeg (64 : Int32).toNatClampNeg)) 9 2 g0 (va_cpy (hb_aI w 9 2 g1) (hb_aI w 9 2 g0) (0 : Int32).toNatClampNeg (0 : Int32).toNatClampNeg (64 : Int32).toNatClampNeg)) 9 3 g0 (va_cpy (hb_aI w 9 3 g1) (hb_aI w 9 3 g0) (0 : Int32).toNatClampNeg (0 : Int32).toNatClampNeg (100 : Int32).toNatClampNeg)) 9 4 g0 (va_cpy (hb_aI w 9 4 g1) (hb_aI w 9 4 g0) (0 : Int32).toNatClampNeg (0 : Int32).toNatClampNeg (9 : Int32).toNatClampNeg)) 9 5 g0 (va_cpy (hb_aI w 9 5 g1) (hb_aI w 9 5 g0) (0 : Int32).toNatClampNeg (0 : Int32).toNatClampNeg (9 : Int32).toNatClampNeg)) 9 6 g0 (va_cpy (hb_aI w 9 6 g1) (hb_aI w 9 6 g0) (0 : Int32).toNatClampNeg (0 : Int32).toNatClampNeg (9 : Int32).toNatClampNeg)) 9 7 g0 (va_cpy (hb_aI w 9 7 g1) (hb_aI w 9 7 g0) (0 : Int32).toNatClampNeg (0 : Int32).toNatClampNeg (27 : Int32).toNatClampNeg)) 9 8 g0 (va_cpy (hb_aI w 9 8 g1) (hb_aI w 9 8 g0) (0 : Int32).toNatClampNeg (0 : Int32).toNatClampNeg (72 : Int32).toNatClampNeg)) 9 9 g0 (va_cpy (hb_aI w 9 9 g1) (hb_aI w 9 9 g0) (0 : Int32).toNatClampNeg (0 : Int32).toNatClampNeg (9 : Int32).toNatClampNeg)) 9 10 g0 (va_cpy (hb_aI w 9 10 g1) (hb_aI w 9 10 g0) (0 : Int32).toNatClampNeg (0 : Int32).toNatClampNeg (9 : Int32).toNatClampNeg))) : hb_R yX0_copy cX0_copy 2 none (d + 1) 0 [some (hb_r 9 g0 0), some (hb_r 9 g1 0)] [] w Q := by
  refine hb_aload_n (pc := 0) (i := 0) dX0_copy_0 rfl rfl ?_
  refine hb_aload_n (pc := 1) (i := 1) dX0_copy_1 rfl rfl ?_
  refine hb_getIx (pc := 2) (x := hb_fI w 9 0 g1) dX0_copy_2 fw_X0_9 cw_0 rfl hg1 rfl rfl ?_
  refine hb_putI (pc := 5) dX0_copy_5 fw_X0_9 cw_0 pw_0_0 rfl hg0 rfl rfl rfl ?_
  refine hb_aload_n (pc := 8) (i := 0) dX0_copy_8 rfl rfl ?_
  refine hb_aload_n (pc := 9) (i := 1) dX0_copy_9 rfl rfl ?_
  refine hb_getIx (pc := 10) (x := hb_fI w 9 1 g1) dX0_copy_10 fw_X0_15 cw_0 rfl hg1 rfl (by simp [hb_fI, hb_fL, hb_fR, hb_aI, hb_aL, hb_pI, hb_pL, hb_pR, hb_sI, hb_sL, hb_u3]) ?_
  refine hb_putI (pc := 13) dX0_copy_13 fw_X0_15 cw_0 pw_0_1 rfl hg0 rfl rfl rfl ?_
  refine hb_aload_n (pc := 16) (i := 0) dX0_copy_16 rfl rfl ?_
  refine hb_aload_n (pc := 17) (i := 1) dX0_copy_17 rfl rfl ?_
  refine hb_getIx (pc := 18) (x := hb_fI w 9 3 g1) dX0_copy_18 fw_X0_65 cw_0 rfl hg1 rfl (by simp [hb_fI, hb_fL, hb_fR, hb_aI, hb_aL, hb_pI, hb_pL, hb_pR, hb_sI, hb_sL, hb_u3]) ?_
  refine hb_putI (pc := 21) dX0_copy_21 fw_X0_65 cw_0 pw_0_3 rfl hg0 rfl rfl rfl ?_
  refine hb_aload_n (pc := 24) (i := 0) dX0_copy_24 rfl rfl ?_
  refine hb_aload_n (pc := 25) (i := 1) dX0_copy_25 rfl rfl ?_
  refine hb_getIx (pc := 26) (x := hb_fI w 9 4 g1) dX0_copy_26 fw_X0_68 cw_0 rfl hg1 rfl (by simp [hb_fI, hb_fL, hb_fR, hb_aI, hb_aL, hb_pI, hb_pL, hb_pR, hb_sI, hb_sL, hb_u3]) ?_
  refine hb_putI (pc := 29) dX0_copy_29 fw_X0_68 cw_0 pw_0_4 rfl hg0 rfl rfl rfl ?_
  refine hb_aload_n (pc := 32) (i := 0) dX0_copy_32 rfl rfl ?_
  refine hb_aload_n (pc := 33) (i := 1) dX0_copy_33 rfl rfl ?_
  refine hb_getIx (pc := 34) (x := hb_fI w 9 8 g1) dX0_copy_34 fw_X0_80 cw_0 rfl hg1 rfl (by simp [hb_fI, hb_fL, hb_fR, hb_aI, hb_aL, hb_pI, hb_pL, hb_pR, hb_sI, hb_sL, hb_u3]) ?_
  refine hb_putI (pc := 37) dX0_copy_37 fw_X0_80 cw_0 pw_0_8 rfl hg0 rfl rfl rfl ?_
  refine hb_aload_n (pc := 40) (i := 0) dX0_copy_40 rfl rfl ?_
  refine hb_aload_n (pc := 41) (i := 1) dX0_copy_41 rfl rfl ?_
  refine hb_getIx (pc := 42) (x := hb_fI w 9 10 g1) dX0_copy_42 fw_X0_53 cw_0 rfl hg1 rfl (by simp [hb_fI, hb_fL, hb_fR, hb_aI, hb_aL, hb_pI, hb_pL, hb_pR, hb_sI, hb_sL, hb_u3]) ?_
  refine hb_putI (pc := 45) dX0_copy_45 fw_X0_53 cw_0 pw_0_10 rfl hg0 rfl rfl rfl ?_
  refine hb_aload_n (pc := 48) (i := 1) dX0_copy_48 rfl rfl ?_
  refine hb_getR (pc := 49) (g1 := g1) dX0_copy_49 fw_X0_22 cw_0 rfl hg1 rfl (by decide) rfl ?_
  refine hb_iconst (pc := 52) (v := 0) dX0_copy_52 (by decide) ?_
  refine hb_aload_n (pc := 53) (i := 0) dX0_copy_53 rfl rfl ?_
  refine hb_getR (pc := 54) (g1 := g0) dX0_copy_54 fw_X0_22 cw_0 rfl hg0 rfl (by decide) rfl ?_
  refine hb_iconst (pc := 57) (v := 0) dX0_copy_57 (by decide) ?_
  refine hb_bipush (pc := 58) (v := 64) dX0_copy_58 (by decide) ?_
  refine hb_copyx (pc := 60) (f := va_cpy (hb_aI w 9 1 g1) (hb_aI w 9 1 g0) (0 : Int32).toNatClampNeg (0 : Int32).toNatClampNeg (64 : Int32).toNatClampNeg) dX0_copy_60 ml_X0_83 (Nat.le_of_ble_eq_true rfl) (n1 := 64) rfl hg1 (n2 := 64) rfl hg0 (by decide) (by decide) (by decide) (by decide) (by decide) rfl ?_
  refine hb_aload_n (pc := 63) (i := 1) dX0_copy_63 rfl rfl ?_
  refine hb_getR (pc := 64) (g1 := g1) dX0_copy_64 fw_X0_26 cw_0 rfl hg1 rfl (by decide) rfl ?_
  refine hb_iconst (pc := 67) (v := 0) dX0_copy_67 (by decide) ?_
  refine hb_aload_n (pc := 68) (i := 0) dX0_copy_68 rfl rfl ?_
  refine hb_getR (pc := 69) (g1 := g0) dX0_copy_69 fw_X0_26 cw_0 rfl hg0 rfl (by decide) rfl ?_
  refine hb_iconst (pc := 72) (v := 0) dX0_copy_72 (by decide) ?_
  refine hb_bipush (pc := 73) (v := 64) dX0_copy_73 (by decide) ?_
  refine hb_copyx (pc := 75) (f := va_cpy (hb_aI w 9 2 g1) (hb_aI w 9 2 g0) (0 : Int32).toNatClampNeg (0 : Int32).toNatClampNeg (64 : Int32).toNatClampNeg) dX0_copy_75 ml_X0_83 (Nat.le_of_ble_eq_true rfl) (n1 := 64) rfl hg1 (n2 := 64) rfl hg0 (by decide) (by decide) (by decide) (by decide) (by decide) (by simp [hb_fI, hb_fL, hb_fR, hb_aI, hb_aL, hb_pI, hb_pL, hb_pR, hb_sI, hb_sL, hb_u3]) ?_
  refine hb_aload_n (pc := 78) (i := 1) dX0_copy_78 rfl rfl ?_
  refine hb_getR (pc := 79) (g1 := g1) dX0_copy_79 fw_X0_29 cw_0 rfl hg1 rfl (by decide) rfl ?_
  refine hb_iconst (pc := 82) (v := 0) dX0_copy_82 (by decide) ?_
  refine hb_aload_n (pc := 83) (i := 0) dX0_copy_83 rfl rfl ?_
  refine hb_getR (pc := 84) (g1 := g0) dX0_copy_84 fw_X0_29 cw_0 rfl hg0 rfl (by decide) rfl ?_
  refine hb_iconst (pc := 87) (v := 0) dX0_copy_87 (by decide) ?_
  refine hb_bipush (pc := 88) (v := 100) dX0_copy_88 (by decide) ?_
  refine hb_copyx (pc := 90) (f := va_cpy (hb_aI w 9 3 g1) (hb_aI w 9 3 g0) (0 : Int32).toNatClampNeg (0 : Int32).toNatClampNeg (100 : Int32).toNatClampNeg) dX0_copy_90 ml_X0_83 (Nat.le_of_ble_eq_true rfl) (n1 := 100) rfl hg1 (n2 := 100) rfl hg0 (by decide) (by decide) (by decide) (by decide) (by decide) (by simp [hb_fI, hb_fL, hb_fR, hb_aI, hb_aL, hb_pI, hb_pL, hb_pR, hb_sI, hb_sL, hb_u3]) ?_
  refine hb_aload_n (pc := 93) (i := 1) dX0_copy_93 rfl rfl ?_
  refine hb_getR (pc := 94) (g1 := g1) dX0_copy_94 fw_X0_32 cw_0 rfl hg1 rfl (by decide) rfl ?_
  refine hb_iconst (pc := 97) (v := 0) dX0_copy_97 (by decide) ?_
  refine hb_aload_n (pc := 98) (i := 0) dX0_copy_98 rfl rfl ?_
  refine hb_getR (pc := 99) (g1 := g0) dX0_copy_99 fw_X0_32 cw_0 rfl hg0 rfl (by decide) rfl ?_
  refine hb_iconst (pc := 102) (v := 0) dX0_copy_102 (by decide) ?_
  refine hb_bipush (pc := 103) (v := 9) dX0_copy_103 (by decide) ?_
  refine hb_copyx (pc := 105) (f := va_cpy (hb_aI w 9 4 g1) (hb_aI w 9 4 g0) (0 : Int32).toNatClampNeg (0 : Int32).toNatClampNeg (9 : Int32).toNatClampNeg) dX0_copy_105 ml_X0_83 (Nat.le_of_ble_eq_true rfl) (n1 := 9) rfl hg1 (n2 := 9) rfl hg0 (by decide) (by decide) (by decide) (by decide) (by decide) (by simp [hb_fI, hb_fL, hb_fR, hb_aI, hb_aL, hb_pI, hb_pL, hb_pR, hb_sI, hb_sL, hb_u3]) ?_
  refine hb_aload_n (pc := 108) (i := 1) dX0_copy_108 rfl rfl ?_
  refine hb_getR (pc := 109) (g1 := g1) dX0_copy_109 fw_X0_35 cw_0 rfl hg1 rfl (by decide) rfl ?_
  refine hb_iconst (pc := 112) (v := 0) dX0_copy_112 (by decide) ?_
  refine hb_aload_n (pc := 113) (i := 0) dX0_copy_113 rfl rfl ?_
  refine hb_getR (pc := 114) (g1 := g0) dX0_copy_114 fw_X0_35 cw_0 rfl hg0 rfl (by decide) rfl ?_
  refine hb_iconst (pc := 117) (v := 0) dX0_copy_117 (by decide) ?_
  refine hb_bipush (pc := 118) (v := 9) dX0_copy_118 (by decide) ?_
  refine hb_copyx (pc := 120) (f := va_cpy (hb_aI w 9 5 g1) (hb_aI w 9 5 g0) (0 : Int32).toNatClampNeg (0 : Int32).toNatClampNeg (9 : Int32).toNatClampNeg) dX0_copy_120 ml_X0_83 (Nat.le_of_ble_eq_true rfl) (n1 := 9) rfl hg1 (n2 := 9) rfl hg0 (by decide) (by decide) (by decide) (by decide) (by decide) (by simp [hb_fI, hb_fL, hb_fR, hb_aI, hb_aL, hb_pI, hb_pL, hb_pR, hb_sI, hb_sL, hb_u3]) ?_
  refine hb_aload_n (pc := 123) (i := 1) dX0_copy_123 rfl rfl ?_
  refine hb_getR (pc := 124) (g1 := g1) dX0_copy_124 fw_X0_38 cw_0 rfl hg1 rfl (by decide) rfl ?_
  refine hb_iconst (pc := 127) (v := 0) dX0_copy_127 (by decide) ?_
  refine hb_aload_n (pc := 128) (i := 0) dX0_copy_128 rfl rfl ?_
  refine hb_getR (pc := 129) (g1 := g0) dX0_copy_129 fw_X0_38 cw_0 rfl hg0 rfl (by decide) rfl ?_
  refine hb_iconst (pc := 132) (v := 0) dX0_copy_132 (by decide) ?_
  refine hb_bipush (pc := 133) (v := 9) dX0_copy_133 (by decide) ?_
  refine hb_copyx (pc := 135) (f := va_cpy (hb_aI w 9 6 g1) (hb_aI w 9 6 g0) (0 : Int32).toNatClampNeg (0 : Int32).toNatClampNeg (9 : Int32).toNatClampNeg) dX0_copy_135 ml_X0_83 (Nat.le_of_ble_eq_true rfl) (n1 := 9) rfl hg1 (n2 := 9) rfl hg0 (by decide) (by decide) (by decide) (by decide) (by decide) (by simp [hb_fI, hb_fL, hb_fR, hb_aI, hb_aL, hb_pI, hb_pL, hb_pR, hb_sI, hb_sL, hb_u3]) ?_
  refine hb_aload_n (pc := 138) (i := 1) dX0_copy_138 rfl rfl ?_
  refine hb_getR (pc := 139) (g1 := g1) dX0_copy_139 fw_X0_41 cw_0 rfl hg1 rfl (by decide) rfl ?_
  refine hb_iconst (pc := 142) (v := 0) dX0_copy_142 (by decide) ?_
  refine hb_aload_n (pc := 143) (i := 0) dX0_copy_143 rfl rfl ?_
  refine hb_getR (pc := 144) (g1 := g0) dX0_copy_144 fw_X0_41 cw_0 rfl hg0 rfl (by decide) rfl ?_
  refine hb_iconst (pc := 147) (v := 0) dX0_copy_147 (by decide) ?_
  refine hb_bipush (pc := 148) (v := 27) dX0_copy_148 (by decide) ?_
  refine hb_copyx (pc := 150) (f := va_cpy (hb_aI w 9 7 g1) (hb_aI w 9 7 g0) (0 : Int32).toNatClampNeg (0 : Int32).toNatClampNeg (27 : Int32).toNatClampNeg) dX0_copy_150 ml_X0_83 (Nat.le_of_ble_eq_true rfl) (n1 := 27) rfl hg1 (n2 := 27) rfl hg0 (by decide) (by decide) (by decide) (by decide) (by decide) (by simp [hb_fI, hb_fL, hb_fR, hb_aI, hb_aL, hb_pI, hb_pL, hb_pR, hb_sI, hb_sL, hb_u3]) ?_
  refine hb_aload_n (pc := 153) (i := 1) dX0_copy_153 rfl rfl ?_
  refine hb_getR (pc := 154) (g1 := g1) dX0_copy_154 fw_X0_44 cw_0 rfl hg1 rfl (by decide) rfl ?_
  refine hb_iconst (pc := 157) (v := 0) dX0_copy_157 (by decide) ?_
  refine hb_aload_n (pc := 158) (i := 0) dX0_copy_158 rfl rfl ?_
  refine hb_getR (pc := 159) (g1 := g0) dX0_copy_159 fw_X0_44 cw_0 rfl hg0 rfl (by decide) rfl ?_
  refine hb_iconst (pc := 162) (v := 0) dX0_copy_162 (by decide) ?_
  refine hb_bipush (pc := 163) (v := 72) dX0_copy_163 (by decide) ?_
  refine hb_copyx (pc := 165) (f := va_cpy (hb_aI w 9 8 g1) (hb_aI w 9 8 g0) (0 : Int32).toNatClampNeg (0 : Int32).toNatClampNeg (72 : Int32).toNatClampNeg) dX0_copy_165 ml_X0_83 (Nat.le_of_ble_eq_true rfl) (n1 := 72) rfl hg1 (n2 := 72) rfl hg0 (by decide) (by decide) (by decide) (by decide) (by decide) (by simp [hb_fI, hb_fL, hb_fR, hb_aI, hb_aL, hb_pI, hb_pL, hb_pR, hb_sI, hb_sL, hb_u3]) ?_
  refine hb_aload_n (pc := 168) (i := 1) dX0_copy_168 rfl rfl ?_
  refine hb_getR (pc := 169) (g1 := g1) dX0_copy_169 fw_X0_47 cw_0 rfl hg1 rfl (by decide) rfl ?_
  refine hb_iconst (pc := 172) (v := 0) dX0_copy_172 (by decide) ?_
  refine hb_aload_n (pc := 173) (i := 0) dX0_copy_173 rfl rfl ?_
  refine hb_getR (pc := 174) (g1 := g0) dX0_copy_174 fw_X0_47 cw_0 rfl hg0 rfl (by decide) rfl ?_
  refine hb_iconst (pc := 177) (v := 0) dX0_copy_177 (by decide) ?_
  refine hb_bipush (pc := 178) (v := 9) dX0_copy_178 (by decide) ?_
  refine hb_copyx (pc := 180) (f := va_cpy (hb_aI w 9 9 g1) (hb_aI w 9 9 g0) (0 : Int32).toNatClampNeg (0 : Int32).toNatClampNeg (9 : Int32).toNatClampNeg) dX0_copy_180 ml_X0_83 (Nat.le_of_ble_eq_true rfl) (n1 := 9) rfl hg1 (n2 := 9) rfl hg0 (by decide) (by decide) (by decide) (by decide) (by decide) (by simp [hb_fI, hb_fL, hb_fR, hb_aI, hb_aL, hb_pI, hb_pL, hb_pR, hb_sI, hb_sL, hb_u3]) ?_
  refine hb_aload_n (pc := 183) (i := 1) dX0_copy_183 rfl rfl ?_
  refine hb_getR (pc := 184) (g1 := g1) dX0_copy_184 fw_X0_50 cw_0 rfl hg1 rfl (by decide) rfl ?_
  refine hb_iconst (pc := 187) (v := 0) dX0_copy_187 (by decide) ?_
  refine hb_aload_n (pc := 188) (i := 0) dX0_copy_188 rfl rfl ?_
  refine hb_getR (pc := 189) (g1 := g0) dX0_copy_189 fw_X0_50 cw_0 rfl hg0 rfl (by decide) rfl ?_
  refine hb_iconst (pc := 192) (v := 0) dX0_copy_192 (by decide) ?_
  refine hb_bipush (pc := 193) (v := 9) dX0_copy_193 (by decide) ?_
  refine hb_copyx (pc := 195) (f := va_cpy (hb_aI w 9 10 g1) (hb_aI w 9 10 g0) (0 : Int32).toNatClampNeg (0 : Int32).toNatClampNeg (9 : Int32).toNatClampNeg) dX0_copy_195 ml_X0_83 (Nat.le_of_ble_eq_true rfl) (n1 := 9) rfl hg1 (n2 := 9) rfl hg0 (by decide) (by decide) (by decide) (by decide) (by decide) (by simp [hb_fI, hb_fL, hb_fR, hb_aI, hb_aL, hb_pI, hb_pL, hb_pR, hb_sI, hb_sL, hb_u3]) ?_
  exact hb_vret (pc := 198) dX0_copy_198 rfl h
theorem dX0_add_0 : decode cX0_add 0 = .ok (.iload_n 1, 1) := by decide +kernel
theorem dX0_add_1 : decode cX0_add 1 = .ok (.invokestatic 89, 3) := by decide +kernel
theorem dX0_add_4 : decode cX0_add 4 = .ok (.ifCond .eq 13, 3) := by decide +kernel
theorem dX0_add_7 : decode cX0_add 7 = .ok (.iload_n 2, 1) := by decide +kernel
theorem dX0_add_8 : decode cX0_add 8 = .ok (.ifCond .lt 9, 3) := by decide +kernel
theorem dX0_add_11 : decode cX0_add 11 = .ok (.iload_n 2, 1) := by decide +kernel
theorem dX0_add_12 : decode cX0_add 12 = .ok (.bipush 100, 2) := by decide +kernel
theorem dX0_add_14 : decode cX0_add 14 = .ok (.if_icmp .lt 4, 3) := by decide +kernel
theorem dX0_add_17 : decode cX0_add 17 = .ok (.return_, 1) := by decide +kernel
theorem dX0_add_18 : decode cX0_add 18 = .ok (.aload_n 0, 1) := by decide +kernel
theorem dX0_add_19 : decode cX0_add 19 = .ok (.getfield 22, 3) := by decide +kernel
theorem dX0_add_22 : decode cX0_add 22 = .ok (.iload_n 1, 1) := by decide +kernel
theorem dX0_add_23 : decode cX0_add 23 = .ok (.iaload, 1) := by decide +kernel
theorem dX0_add_24 : decode cX0_add 24 = .ok (.ifCond .ne 13, 3) := by decide +kernel
theorem dX0_add_27 : decode cX0_add 27 = .ok (.aload_n 0, 1) := by decide +kernel
theorem dX0_add_28 : decode cX0_add 28 = .ok (.dup, 1) := by decide +kernel
theorem dX0_add_29 : decode cX0_add 29 = .ok (.getfield 68, 3) := by decide +kernel
theorem dX0_add_32 : decode cX0_add 32 = .ok (.iconst 1, 1) := by decide +kernel
theorem dX0_add_33 : decode cX0_add 33 = .ok (.iadd, 1) := by decide +kernel
theorem dX0_add_34 : decode cX0_add 34 = .ok (.putfield 68, 3) := by decide +kernel
theorem dX0_add_37 : decode cX0_add 37 = .ok (.aload_n 0, 1) := by decide +kernel
theorem dX0_add_38 : decode cX0_add 38 = .ok (.dup, 1) := by decide +kernel
theorem dX0_add_39 : decode cX0_add 39 = .ok (.getfield 65, 3) := by decide +kernel
theorem dX0_add_42 : decode cX0_add 42 = .ok (.iconst 1, 1) := by decide +kernel
theorem dX0_add_43 : decode cX0_add 43 = .ok (.iadd, 1) := by decide +kernel
theorem dX0_add_44 : decode cX0_add 44 = .ok (.putfield 65, 3) := by decide +kernel
theorem dX0_add_47 : decode cX0_add 47 = .ok (.aload_n 0, 1) := by decide +kernel
theorem dX0_add_48 : decode cX0_add 48 = .ok (.getfield 22, 3) := by decide +kernel
theorem dX0_add_51 : decode cX0_add 51 = .ok (.iload_n 1, 1) := by decide +kernel
theorem dX0_add_52 : decode cX0_add 52 = .ok (.dup2, 1) := by decide +kernel
theorem dX0_add_53 : decode cX0_add 53 = .ok (.iaload, 1) := by decide +kernel
theorem dX0_add_54 : decode cX0_add 54 = .ok (.iconst 1, 1) := by decide +kernel
theorem dX0_add_55 : decode cX0_add 55 = .ok (.iadd, 1) := by decide +kernel
theorem dX0_add_56 : decode cX0_add 56 = .ok (.iastore, 1) := by decide +kernel
theorem dX0_add_57 : decode cX0_add 57 = .ok (.aload_n 0, 1) := by decide +kernel
theorem dX0_add_58 : decode cX0_add 58 = .ok (.getfield 26, 3) := by decide +kernel
theorem dX0_add_61 : decode cX0_add 61 = .ok (.iload_n 1, 1) := by decide +kernel
theorem dX0_add_62 : decode cX0_add 62 = .ok (.dup2, 1) := by decide +kernel
theorem dX0_add_63 : decode cX0_add 63 = .ok (.iaload, 1) := by decide +kernel
theorem dX0_add_64 : decode cX0_add 64 = .ok (.iload_n 2, 1) := by decide +kernel
theorem dX0_add_65 : decode cX0_add 65 = .ok (.iadd, 1) := by decide +kernel
theorem dX0_add_66 : decode cX0_add 66 = .ok (.iastore, 1) := by decide +kernel
theorem dX0_add_67 : decode cX0_add 67 = .ok (.aload_n 0, 1) := by decide +kernel
theorem dX0_add_68 : decode cX0_add 68 = .ok (.getfield 29, 3) := by decide +kernel
theorem dX0_add_71 : decode cX0_add 71 = .ok (.iload_n 2, 1) := by decide +kernel
theorem dX0_add_72 : decode cX0_add 72 = .ok (.dup2, 1) := by decide +kernel
theorem dX0_add_73 : decode cX0_add 73 = .ok (.iaload, 1) := by decide +kernel
theorem dX0_add_74 : decode cX0_add 74 = .ok (.iconst 1, 1) := by decide +kernel
theorem dX0_add_75 : decode cX0_add 75 = .ok (.iadd, 1) := by decide +kernel
theorem dX0_add_76 : decode cX0_add 76 = .ok (.iastore, 1) := by decide +kernel
theorem dX0_add_77 : decode cX0_add 77 = .ok (.aload_n 0, 1) := by decide +kernel
theorem dX0_add_78 : decode cX0_add 78 = .ok (.getfield 47, 3) := by decide +kernel
theorem dX0_add_81 : decode cX0_add 81 = .ok (.iload_n 2, 1) := by decide +kernel
theorem dX0_add_82 : decode cX0_add 82 = .ok (.aload_n 0, 1) := by decide +kernel
theorem dX0_add_83 : decode cX0_add 83 = .ok (.getfield 9, 3) := by decide +kernel
theorem dX0_add_86 : decode cX0_add 86 = .ok (.imul, 1) := by decide +kernel
theorem dX0_add_87 : decode cX0_add 87 = .ok (.bipush 100, 2) := by decide +kernel
theorem dX0_add_89 : decode cX0_add 89 = .ok (.idiv, 1) := by decide +kernel
theorem dX0_add_90 : decode cX0_add 90 = .ok (.dup2, 1) := by decide +kernel
theorem dX0_add_91 : decode cX0_add 91 = .ok (.iaload, 1) := by decide +kernel
theorem dX0_add_92 : decode cX0_add 92 = .ok (.iconst 1, 1) := by decide +kernel
theorem dX0_add_93 : decode cX0_add 93 = .ok (.iadd, 1) := by decide +kernel
theorem dX0_add_94 : decode cX0_add 94 = .ok (.iastore, 1) := by decide +kernel
theorem dX0_add_95 : decode cX0_add 95 = .ok (.aload_n 0, 1) := by decide +kernel
theorem dX0_add_96 : decode cX0_add 96 = .ok (.iload_n 1, 1) := by decide +kernel
theorem dX0_add_97 : decode cX0_add 97 = .ok (.invokevirtual 93, 3) := by decide +kernel
theorem dX0_add_100 : decode cX0_add 100 = .ok (.iconst 0, 1) := by decide +kernel
theorem dX0_add_101 : decode cX0_add 101 = .ok (.istore_n 3, 1) := by decide +kernel
theorem dX0_add_102 : decode cX0_add 102 = .ok (.iload_n 3, 1) := by decide +kernel
theorem dX0_add_103 : decode cX0_add 103 = .ok (.iconst 3, 1) := by decide +kernel
theorem dX0_add_104 : decode cX0_add 104 = .ok (.if_icmp .gt 16, 3) := by decide +kernel
theorem dX0_add_107 : decode cX0_add 107 = .ok (.aload_n 0, 1) := by decide +kernel
theorem dX0_add_108 : decode cX0_add 108 = .ok (.iload_n 1, 1) := by decide +kernel
theorem dX0_add_109 : decode cX0_add 109 = .ok (.iconst 1, 1) := by decide +kernel
theorem dX0_add_110 : decode cX0_add 110 = .ok (.iload_n 3, 1) := by decide +kernel
theorem dX0_add_111 : decode cX0_add 111 = .ok (.invokevirtual 97, 3) := by decide +kernel
theorem dX0_add_114 : decode cX0_add 114 = .ok (.iinc 3 1, 3) := by decide +kernel
theorem dX0_add_117 : decode cX0_add 117 = .ok (.goto (-15), 3) := by decide +kernel
theorem dX0_add_120 : decode cX0_add 120 = .ok (.iconst 0, 1) := by decide +kernel
theorem dX0_add_121 : decode cX0_add 121 = .ok (.istore_n 3, 1) := by decide +kernel
theorem dX0_add_122 : decode cX0_add 122 = .ok (.iload_n 3, 1) := by decide +kernel
theorem dX0_add_123 : decode cX0_add 123 = .ok (.aload_n 0, 1) := by decide +kernel
theorem dX0_add_124 : decode cX0_add 124 = .ok (.getfield 9, 3) := by decide +kernel
theorem dX0_add_127 : decode cX0_add 127 = .ok (.if_icmp .ge 33, 3) := by decide +kernel
theorem dX0_add_130 : decode cX0_add 130 = .ok (.aload_n 0, 1) := by decide +kernel
theorem dX0_add_131 : decode cX0_add 131 = .ok (.getfield 50, 3) := by decide +kernel
theorem dX0_add_134 : decode cX0_add 134 = .ok (.iload_n 3, 1) := by decide +kernel
theorem dX0_add_135 : decode cX0_add 135 = .ok (.aload_n 0, 1) := by decide +kernel
theorem dX0_add_136 : decode cX0_add 136 = .ok (.getfield 50, 3) := by decide +kernel
theorem dX0_add_139 : decode cX0_add 139 = .ok (.iload_n 3, 1) := by decide +kernel
theorem dX0_add_140 : decode cX0_add 140 = .ok (.iaload, 1) := by decide +kernel
theorem dX0_add_141 : decode cX0_add 141 = .ok (.aload_n 0, 1) := by decide +kernel
theorem dX0_add_142 : decode cX0_add 142 = .ok (.getfield 18, 3) := by decide +kernel
theorem dX0_add_145 : decode cX0_add 145 = .ok (.iload_n 1, 1) := by decide +kernel
theorem dX0_add_146 : decode cX0_add 146 = .ok (.iload_n 3, 1) := by decide +kernel
theorem dX0_add_147 : decode cX0_add 147 = .ok (.invokevirtual 101, 3) := by decide +kernel
theorem dX0_add_150 : decode cX0_add 150 = .ok (.invokestatic 56, 3) := by decide +kernel
theorem dX0_add_153 : decode cX0_add 153 = .ok (.iastore, 1) := by decide +kernel
theorem dX0_add_154 : decode cX0_add 154 = .ok (.iinc 3 1, 3) := by decide +kernel
theorem dX0_add_157 : decode cX0_add 157 = .ok (.goto (-35), 3) := by decide +kernel
theorem dX0_add_160 : decode cX0_add 160 = .ok (.return_, 1) := by decide +kernel
set_option maxRecDepth 20000 in
theorem bk_X0_add_0 {d : Nat} {w : hb_W} {Q : Option hb_V → hb_W → Prop} {g0 : Nat} {x1 : Int32} {x2 : Int32} (hg0 : g0 < hb_ct 9) (h : hb_O yX11_isHood cX11_isHood 1 (some .boolean) d [hb_i x1] w (fun rv w1 => hb_R yX0_add cX0_add 4 none (d + 1) 4 [some (hb_r 9 g0 0), some (hb_i x1), some (hb_i x2), none] (rv.toList ++ []) w1 Q)) : hb_R yX0_add cX0_add 4 none (d + 1) 0 [some (hb_r 9 g0 0), some (hb_i x1), some (hb_i x2), none] [] w Q := by
  refine hb_iload_n (pc := 0) (i := 1) dX0_add_0 rfl rfl ?_
  exact hb_callSN (pc := 1) (As := [hb_i x1]) (st := []) dX0_add_1 (by first | exact Or.inl rfl | exact Or.inr rfl) mf_X11_isHood ms_X11_isHood rfl rfl (Nat.le_of_ble_eq_true rfl) (Nat.le_of_ble_eq_true rfl) h (fun _ _ q => q)
set_option maxRecDepth 20000 in
theorem bk_X0_add_4 {d : Nat} {w : hb_W} {Q : Option hb_V → hb_W → Prop} {g0 : Nat} {x1 : Int32} {x2 : Int32} {xs0 : Int32} (hg0 : g0 < hb_ct 9) (h : ((xs0 = 0) → Q none w) ∧ ((¬ xs0 = 0) → ((x2 < 0) → Q none w) ∧ ((¬ x2 < 0) → ((x2 < (100 : Int32)) → vp_in x1 64 ∧ (((¬ (hb_aI w 9 1 g0 x1.toNatClampNeg) = 0) → vp_in x1 64 ∧ (vp_in x1 64 ∧ (vp_in x1 64 ∧ (vp_in x1 64 ∧ (vp_in x2 100 ∧ (vp_in x2 100 ∧ (vp_in ((x2 * (hb_fI w 9 0 g0)) / (100 : Int32)) 9 ∧ (vp_in ((x2 * (hb_fI w 9 0 g0)) / (100 : Int32)) 9 ∧ (hb_O yX0_addOften cX0_addOften 4 none d [hb_r 9 g0 0, hb_i x1] (hb_sI (hb_sI (hb_sI (hb_sI (hb_pI w 9 3 g0 ((hb_fI w 9 3 g0) + (1 : Int32))) 9 1 g0 (upd (hb_aI w 9 1 g0) x1.toNatClampNeg ((hb_aI w 9 1 g0 x1.toNatClampNeg) + (1 : Int32)))) 9 2 g0 (upd (hb_aI w 9 2 g0) x1.toNatClampNeg ((hb_aI w 9 2 g0 x1.toNatClampNeg) + x2))) 9 3 g0 (upd (hb_aI w 9 3 g0) x2.toNatClampNeg ((hb_aI w 9 3 g0 x2.toNatClampNeg) + (1 : Int32)))) 9 9 g0 (upd (hb_aI w 9 9 g0) ((x2 * (hb_fI w 9 0 g0)) / (100 : Int32)).toNatClampNeg ((hb_aI w 9 9 g0 ((x2 * (hb_fI w 9 0 g0)) / (100 : Int32)).toNatClampNeg) + (1 : Int32)))) (fun rv w1 => hb_R yX0_add cX0_add 4 none (d + 1) 100 [some (hb_r 9 g0 0), some (hb_i x1), some (hb_i x2), none] (rv.toList ++ []) w1 Q)))))))))) ∧ (((hb_aI w 9 1 g0 x1.toNatClampNeg) = 0) → vp_in x1 64 ∧ (vp_in x1 64 ∧ (vp_in x1 64 ∧ (vp_in x1 64 ∧ (vp_in x2 100 ∧ (vp_in x2 100 ∧ (vp_in ((x2 * (hb_fI w 9 0 g0)) / (100 : Int32)) 9 ∧ (vp_in ((x2 * (hb_fI w 9 0 g0)) / (100 : Int32)) 9 ∧ (hb_O yX0_addOften cX0_addOften 4 none d [hb_r 9 g0 0, hb_i x1] (hb_sI (hb_sI (hb_sI (hb_sI (hb_pI (hb_pI w 9 4 g0 ((hb_fI w 9 4 g0) + (1 : Int32))) 9 3 g0 ((hb_fI w 9 3 g0) + (1 : Int32))) 9 1 g0 (upd (hb_aI w 9 1 g0) x1.toNatClampNeg ((hb_aI w 9 1 g0 x1.toNatClampNeg) + (1 : Int32)))) 9 2 g0 (upd (hb_aI w 9 2 g0) x1.toNatClampNeg ((hb_aI w 9 2 g0 x1.toNatClampNeg) + x2))) 9 3 g0 (upd (hb_aI w 9 3 g0) x2.toNatClampNeg ((hb_aI w 9 3 g0 x2.toNatClampNeg) + (1 : Int32)))) 9 9 g0 (upd (hb_aI w 9 9 g0) ((x2 * (hb_fI w 9 0 g0)) / (100 : Int32)).toNatClampNeg ((hb_aI w 9 9 g0 ((x2 * (hb_fI w 9 0 g0)) / (100 : Int32)).toNatClampNeg) + (1 : Int32)))) (fun rv w1 => hb_R yX0_add cX0_add 4 none (d + 1) 100 [some (hb_r 9 g0 0), some (hb_i x1), some (hb_i x2), none] (rv.toList ++ []) w1 Q)))))))))))) ∧ ((¬ x2 < (100 : Int32)) → Q none w)))) : hb_R yX0_add cX0_add 4 none (d + 1) 4 [some (hb_r 9 g0 0), some (hb_i x1), some (hb_i x2), none] [hb_i xs0] w Q := by
  refine hb_if_eq (pc := 4) (tgt := 17) dX0_add_4 (by decide) (fun c1 => ?_) (fun c1 => ?_)
  · have ht1 := h.1 c1
    exact hb_vret (pc := 17) dX0_add_17 rfl ht1
  · have ht1 := h.2 c1
    refine hb_iload_n (pc := 7) (i := 2) dX0_add_7 rfl rfl ?_
    refine hb_if_lt (pc := 8) (tgt := 17) dX0_add_8 (by decide) (fun c2 => ?_) (fun c2 => ?_)
    · have ht2 := ht1.1 c2
      exact hb_vret (pc := 17) dX0_add_17 rfl ht2
    · have ht2 := ht1.2 c2
      refine hb_iload_n (pc := 11) (i := 2) dX0_add_11 rfl rfl ?_
      refine hb_bipush (pc := 12) (v := 100) dX0_add_12 (by decide) ?_
      refine hb_icmp_lt (pc := 14) (tgt := 18) dX0_add_14 (by decide) (fun c3 => ?_) (fun c3 => ?_)
      · have ht3 := ht2.1 c3
        refine hb_aload_n (pc := 18) (i := 0) dX0_add_18 rfl rfl ?_
        refine hb_getR (pc := 19) (g1 := g0) dX0_add_19 fw_X0_22 cw_0 rfl hg0 rfl (by decide) rfl ?_
        refine hb_iload_n (pc := 22) (i := 1) dX0_add_22 rfl rfl ?_
        obtain ⟨ho4, hr4⟩ := ht3
        refine hb_ialdx (pc := 23) (x := hb_aI w 9 1 g0 x1.toNatClampNeg) dX0_add_23 rfl hg0 ho4 rfl ?_
        refine hb_if_ne (pc := 24) (tgt := 37) dX0_add_24 (by decide) (fun c5 => ?_) (fun c5 => ?_)
        · have ht5 := hr4.1 c5
          refine hb_aload_n (pc := 37) (i := 0) dX0_add_37 rfl rfl ?_
          refine hb_dupr (pc := 38) dX0_add_38 ?_
          refine hb_getIx (pc := 39) (x := hb_fI w 9 3 g0) dX0_add_39 fw_X0_65 cw_0 rfl hg0 rfl rfl ?_
          refine hb_iconst (pc := 42) (v := 1) dX0_add_42 (by decide) ?_
          refine hb_iadd (pc := 43) dX0_add_43 ?_
          refine hb_putI (pc := 44) dX0_add_44 fw_X0_65 cw_0 pw_0_3 rfl hg0 rfl rfl rfl ?_
          refine hb_aload_n (pc := 47) (i := 0) dX0_add_47 rfl rfl ?_
          refine hb_getR (pc := 48) (g1 := g0) dX0_add_48 fw_X0_22 cw_0 rfl hg0 rfl (by decide) rfl ?_
          refine hb_iload_n (pc := 51) (i := 1) dX0_add_51 rfl rfl ?_
          refine hb_dup2ir (pc := 52) dX0_add_52 ?_
          obtain ⟨ho6, hr6⟩ := ht5
          refine hb_ialdx (pc := 53) (x := hb_aI w 9 1 g0 x1.toNatClampNeg) dX0_add_53 rfl hg0 ho6 rfl ?_
          refine hb_iconst (pc := 54) (v := 1) dX0_add_54 (by decide) ?_
          refine hb_iadd (pc := 55) dX0_add_55 ?_
          obtain ⟨ho7, hr7⟩ := hr6
          refine hb_iastx (pc := 56) (f := upd (hb_aI w 9 1 g0) x1.toNatClampNeg ((hb_aI w 9 1 g0 x1.toNatClampNeg) + (1 : Int32))) dX0_add_56 rfl hg0 ho7 rfl ?_
          refine hb_aload_n (pc := 57) (i := 0) dX0_add_57 rfl rfl ?_
          refine hb_getR (pc := 58) (g1 := g0) dX0_add_58 fw_X0_26 cw_0 rfl hg0 rfl (by decide) rfl ?_
          refine hb_iload_n (pc := 61) (i := 1) dX0_add_61 rfl rfl ?_
          refine hb_dup2ir (pc := 62) dX0_add_62 ?_
          obtain ⟨ho8, hr8⟩ := hr7
          refine hb_ialdx (pc := 63) (x := hb_aI w 9 2 g0 x1.toNatClampNeg) dX0_add_63 rfl hg0 ho8 (by simp [hb_fI, hb_fL, hb_fR, hb_aI, hb_aL, hb_pI, hb_pL, hb_pR, hb_sI, hb_sL, hb_u3]) ?_
          refine hb_iload_n (pc := 64) (i := 2) dX0_add_64 rfl rfl ?_
          refine hb_iadd (pc := 65) dX0_add_65 ?_
          obtain ⟨ho9, hr9⟩ := hr8
          refine hb_iastx (pc := 66) (f := upd (hb_aI w 9 2 g0) x1.toNatClampNeg ((hb_aI w 9 2 g0 x1.toNatClampNeg) + x2)) dX0_add_66 rfl hg0 ho9 (by simp [hb_fI, hb_fL, hb_fR, hb_aI, hb_aL, hb_pI, hb_pL, hb_pR, hb_sI, hb_sL, hb_u3]) ?_
          refine hb_aload_n (pc := 67) (i := 0) dX0_add_67 rfl rfl ?_
          refine hb_getR (pc := 68) (g1 := g0) dX0_add_68 fw_X0_29 cw_0 rfl hg0 rfl (by decide) rfl ?_
          refine hb_iload_n (pc := 71) (i := 2) dX0_add_71 rfl rfl ?_
          refine hb_dup2ir (pc := 72) dX0_add_72 ?_
          obtain ⟨ho10, hr10⟩ := hr9
          refine hb_ialdx (pc := 73) (x := hb_aI w 9 3 g0 x2.toNatClampNeg) dX0_add_73 rfl hg0 ho10 (by simp [hb_fI, hb_fL, hb_fR, hb_aI, hb_aL, hb_pI, hb_pL, hb_pR, hb_sI, hb_sL, hb_u3]) ?_
          refine hb_iconst (pc := 74) (v := 1) dX0_add_74 (by decide) ?_
          refine hb_iadd (pc := 75) dX0_add_75 ?_
          obtain ⟨ho11, hr11⟩ := hr10
          refine hb_iastx (pc := 76) (f := upd (hb_aI w 9 3 g0) x2.toNatClampNeg ((hb_aI w 9 3 g0 x2.toNatClampNeg) + (1 : Int32))) dX0_add_76 rfl hg0 ho11 (by simp [hb_fI, hb_fL, hb_fR, hb_aI, hb_aL, hb_pI, hb_pL, hb_pR, hb_sI, hb_sL, hb_u3]) ?_
          refine hb_aload_n (pc := 77) (i := 0) dX0_add_77 rfl rfl ?_
          refine hb_getR (pc := 78) (g1 := g0) dX0_add_78 fw_X0_47 cw_0 rfl hg0 rfl (by decide) rfl ?_
          refine hb_iload_n (pc := 81) (i := 2) dX0_add_81 rfl rfl ?_
          refine hb_aload_n (pc := 82) (i := 0) dX0_add_82 rfl rfl ?_
          refine hb_getIx (pc := 83) (x := hb_fI w 9 0 g0) dX0_add_83 fw_X0_9 cw_0 rfl hg0 rfl (by simp [hb_fI, hb_fL, hb_fR, hb_aI, hb_aL, hb_pI, hb_pL, hb_pR, hb_sI, hb_sL, hb_u3]) ?_
          refine hb_imul (pc := 86) dX0_add_86 ?_
          refine hb_bipush (pc := 87) (v := 100) dX0_add_87 (by decide) ?_
          refine hb_idiv (pc := 89) dX0_add_89 (by decide) ?_
          refine hb_dup2ir (pc := 90) dX0_add_90 ?_
          obtain ⟨ho12, hr12⟩ := hr11
          refine hb_ialdx (pc := 91) (x := hb_aI w 9 9 g0 ((x2 * (hb_fI w 9 0 g0)) / (100 : Int32)).toNatClampNeg) dX0_add_91 rfl hg0 ho12 (by simp [hb_fI, hb_fL, hb_fR, hb_aI, hb_aL, hb_pI, hb_pL, hb_pR, hb_sI, hb_sL, hb_u3]) ?_
          refine hb_iconst (pc := 92) (v := 1) dX0_add_92 (by decide) ?_
          refine hb_iadd (pc := 93) dX0_add_93 ?_
          obtain ⟨ho13, hr13⟩ := hr12
          refine hb_iastx (pc := 94) (f := upd (hb_aI w 9 9 g0) ((x2 * (hb_fI w 9 0 g0)) / (100 : Int32)).toNatClampNeg ((hb_aI w 9 9 g0 ((x2 * (hb_fI w 9 0 g0)) / (100 : Int32)).toNatClampNeg) + (1 : Int32))) dX0_add_94 rfl hg0 ho13 (by simp [hb_fI, hb_fL, hb_fR, hb_aI, hb_aL, hb_pI, hb_pL, hb_pR, hb_sI, hb_sL, hb_u3]) ?_
          refine hb_aload_n (pc := 95) (i := 0) dX0_add_95 rfl rfl ?_
          refine hb_iload_n (pc := 96) (i := 1) dX0_add_96 rfl rfl ?_
          exact hb_callV (pc := 97) (As := [hb_i x1]) (st := []) dX0_add_97 ml_X0_93 mf_X0_addOften mi_X0_addOften (ci := 0) rfl rfl hg0 rfl rfl (Nat.le_of_ble_eq_true rfl) (Nat.le_of_ble_eq_true rfl) hr13 (fun _ _ q => q)
        · have ht5 := hr4.2 c5
          refine hb_aload_n (pc := 27) (i := 0) dX0_add_27 rfl rfl ?_
          refine hb_dupr (pc := 28) dX0_add_28 ?_
          refine hb_getIx (pc := 29) (x := hb_fI w 9 4 g0) dX0_add_29 fw_X0_68 cw_0 rfl hg0 rfl rfl ?_
          refine hb_iconst (pc := 32) (v := 1) dX0_add_32 (by decide) ?_
          refine hb_iadd (pc := 33) dX0_add_33 ?_
          refine hb_putI (pc := 34) dX0_add_34 fw_X0_68 cw_0 pw_0_4 rfl hg0 rfl rfl rfl ?_
          refine hb_aload_n (pc := 37) (i := 0) dX0_add_37 rfl rfl ?_
          refine hb_dupr (pc := 38) dX0_add_38 ?_
          refine hb_getIx (pc := 39) (x := hb_fI w 9 3 g0) dX0_add_39 fw_X0_65 cw_0 rfl hg0 rfl (by simp [hb_fI, hb_fL, hb_fR, hb_aI, hb_aL, hb_pI, hb_pL, hb_pR, hb_sI, hb_sL, hb_u3]) ?_
          refine hb_iconst (pc := 42) (v := 1) dX0_add_42 (by decide) ?_
          refine hb_iadd (pc := 43) dX0_add_43 ?_
          refine hb_putI (pc := 44) dX0_add_44 fw_X0_65 cw_0 pw_0_3 rfl hg0 rfl rfl rfl ?_
          refine hb_aload_n (pc := 47) (i := 0) dX0_add_47 rfl rfl ?_
          refine hb_getR (pc := 48) (g1 := g0) dX0_add_48 fw_X0_22 cw_0 rfl hg0 rfl (by decide) rfl ?_
          refine hb_iload_n (pc := 51) (i := 1) dX0_add_51 rfl rfl ?_
          refine hb_dup2ir (pc := 52) dX0_add_52 ?_
          obtain ⟨ho14, hr14⟩ := ht5
          refine hb_ialdx (pc := 53) (x := hb_aI w 9 1 g0 x1.toNatClampNeg) dX0_add_53 rfl hg0 ho14 rfl ?_
          refine hb_iconst (pc := 54) (v := 1) dX0_add_54 (by decide) ?_
          refine hb_iadd (pc := 55) dX0_add_55 ?_
          obtain ⟨ho15, hr15⟩ := hr14
          refine hb_iastx (pc := 56) (f := upd (hb_aI w 9 1 g0) x1.toNatClampNeg ((hb_aI w 9 1 g0 x1.toNatClampNeg) + (1 : Int32))) dX0_add_56 rfl hg0 ho15 rfl ?_
          refine hb_aload_n (pc := 57) (i := 0) dX0_add_57 rfl rfl ?_
          refine hb_getR (pc := 58) (g1 := g0) dX0_add_58 fw_X0_26 cw_0 rfl hg0 rfl (by decide) rfl ?_
          refine hb_iload_n (pc := 61) (i := 1) dX0_add_61 rfl rfl ?_
          refine hb_dup2ir (pc := 62) dX0_add_62 ?_
          obtain ⟨ho16, hr16⟩ := hr15
          refine hb_ialdx (pc := 63) (x := hb_aI w 9 2 g0 x1.toNatClampNeg) dX0_add_63 rfl hg0 ho16 (by simp [hb_fI, hb_fL, hb_fR, hb_aI, hb_aL, hb_pI, hb_pL, hb_pR, hb_sI, hb_sL, hb_u3]) ?_
          refine hb_iload_n (pc := 64) (i := 2) dX0_add_64 rfl rfl ?_
          refine hb_iadd (pc := 65) dX0_add_65 ?_
          obtain ⟨ho17, hr17⟩ := hr16
          refine hb_iastx (pc := 66) (f := upd (hb_aI w 9 2 g0) x1.toNatClampNeg ((hb_aI w 9 2 g0 x1.toNatClampNeg) + x2)) dX0_add_66 rfl hg0 ho17 (by simp [hb_fI, hb_fL, hb_fR, hb_aI, hb_aL, hb_pI, hb_pL, hb_pR, hb_sI, hb_sL, hb_u3]) ?_
          refine hb_aload_n (pc := 67) (i := 0) dX0_add_67 rfl rfl ?_
          refine hb_getR (pc := 68) (g1 := g0) dX0_add_68 fw_X0_29 cw_0 rfl hg0 rfl (by decide) rfl ?_
          refine hb_iload_n (pc := 71) (i := 2) dX0_add_71 rfl rfl ?_
          refine hb_dup2ir (pc := 72) dX0_add_72 ?_
          obtain ⟨ho18, hr18⟩ := hr17
          refine hb_ialdx (pc := 73) (x := hb_aI w 9 3 g0 x2.toNatClampNeg) dX0_add_73 rfl hg0 ho18 (by simp [hb_fI, hb_fL, hb_fR, hb_aI, hb_aL, hb_pI, hb_pL, hb_pR, hb_sI, hb_sL, hb_u3]) ?_
          refine hb_iconst (pc := 74) (v := 1) dX0_add_74 (by decide) ?_
          refine hb_iadd (pc := 75) dX0_add_75 ?_
          obtain ⟨ho19, hr19⟩ := hr18
          refine hb_iastx (pc := 76) (f := upd (hb_aI w 9 3 g0) x2.toNatClampNeg ((hb_aI w 9 3 g0 x2.toNatClampNeg) + (1 : Int32))) dX0_add_76 rfl hg0 ho19 (by simp [hb_fI, hb_fL, hb_fR, hb_aI, hb_aL, hb_pI, hb_pL, hb_pR, hb_sI, hb_sL, hb_u3]) ?_
          refine hb_aload_n (pc := 77) (i := 0) dX0_add_77 rfl rfl ?_
          refine hb_getR (pc := 78) (g1 := g0) dX0_add_78 fw_X0_47 cw_0 rfl hg0 rfl (by decide) rfl ?_
          refine hb_iload_n (pc := 81) (i := 2) dX0_add_81 rfl rfl ?_
          refine hb_aload_n (pc := 82) (i := 0) dX0_add_82 rfl rfl ?_
          refine hb_getIx (pc := 83) (x := hb_fI w 9 0 g0) dX0_add_83 fw_X0_9 cw_0 rfl hg0 rfl (by simp [hb_fI, hb_fL, hb_fR, hb_aI, hb_aL, hb_pI, hb_pL, hb_pR, hb_sI, hb_sL, hb_u3]) ?_
          refine hb_imul (pc := 86) dX0_add_86 ?_
          refine hb_bipush (pc := 87) (v := 100) dX0_add_87 (by decide) ?_
          refine hb_idiv (pc := 89) dX0_add_89 (by decide) ?_
          refine hb_dup2ir (pc := 90) dX0_add_90 ?_
          obtain ⟨ho20, hr20⟩ := hr19
          refine hb_ialdx (pc := 91) (x := hb_aI w 9 9 g0 ((x2 * (hb_fI w 9 0 g0)) / (100 : Int32)).toNatClampNeg) dX0_add_91 rfl hg0 ho20 (by simp [hb_fI, hb_fL, hb_fR, hb_aI, hb_aL, hb_pI, hb_pL, hb_pR, hb_sI, hb_sL, hb_u3]) ?_
          refine hb_iconst (pc := 92) (v := 1) dX0_add_92 (by decide) ?_
          refine hb_iadd (pc := 93) dX0_add_93 ?_
          obtain ⟨ho21, hr21⟩ := hr20
          refine hb_iastx (pc := 94) (f := upd (hb_aI w 9 9 g0) ((x2 * (hb_fI w 9 0 g0)) / (100 : Int32)).toNatClampNeg ((hb_aI w 9 9 g0 ((x2 * (hb_fI w 9 0 g0)) / (100 : Int32)).toNatClampNeg) + (1 : Int32))) dX0_add_94 rfl hg0 ho21 (by simp [hb_fI, hb_fL, hb_fR, hb_aI, hb_aL, hb_pI, hb_pL, hb_pR, hb_sI, hb_sL, hb_u3]) ?_
          refine hb_aload_n (pc := 95) (i := 0) dX0_add_95 rfl rfl ?_
          refine hb_iload_n (pc := 96) (i := 1) dX0_add_96 rfl rfl ?_
          exact hb_callV (pc := 97) (As := [hb_i x1]) (st := []) dX0_add_97 ml_X0_93 mf_X0_addOften mi_X0_addOften (ci := 0) rfl rfl hg0 rfl rfl (Nat.le_of_ble_eq_true rfl) (Nat.le_of_ble_eq_true rfl) hr21 (fun _ _ q => q)
      · have ht3 := ht2.2 c3
        exact hb_vret (pc := 17) dX0_add_17 rfl ht3
set_option maxRecDepth 20000 in
theorem bk_X0_add_100 {d : Nat} {w : hb_W} {Q : Option hb_V → hb_W → Prop} {g0 : Nat} {x1 : Int32} {x2 : Int32} (hg0 : g0 < hb_ct 9) (h : hb_R yX0_add cX0_add 4 none (d + 1) 102 [some (hb_r 9 g0 0), some (hb_i x1), some (hb_i x2), some (hb_i (0 : Int32))] [] w Q) : hb_R yX0_add cX0_add 4 none (d + 1) 100 [some (hb_r 9 g0 0), some (hb_i x1), some (hb_i x2), none] [] w Q := by
  refine hb_iconst (pc := 100) (v := 0) dX0_add_100 (by decide) ?_
  refine hb_istore_n (pc := 101) (i := 3) (ls1 := [some (hb_r 9 g0 0), some (hb_i x1), some (hb_i x2), some (hb_i (0 : Int32))]) dX0_add_101 rfl (by decide) rfl ?_
  exact h
set_option maxRecDepth 20000 in
theorem bk_X0_add_102 {d : Nat} {w : hb_W} {Q : Option hb_V → hb_W → Prop} {g0 : Nat} {x1 : Int32} {x2 : Int32} {x3 : Int32} (hg0 : g0 < hb_ct 9) (h : (((3 : Int32) < x3) → hb_R yX0_add cX0_add 4 none (d + 1) 122 [some (hb_r 9 g0 0), some (hb_i x1), some (hb_i x2), some (hb_i (0 : Int32))] [] w Q) ∧ ((¬ (3 : Int32) < x3) → hb_O yX0_addMarks cX0_addMarks 5 none d [hb_r 9 g0 0, hb_i x1, hb_i (1 : Int32), hb_i x3] w (fun rv w1 => hb_R yX0_add cX0_add 4 none (d + 1) 114 [some (hb_r 9 g0 0), some (hb_i x1), some (hb_i x2), some (hb_i x3)] (rv.toList ++ []) w1 Q))) : hb_R yX0_add cX0_add 4 none (d + 1) 102 [some (hb_r 9 g0 0), some (hb_i x1), some (hb_i x2), some (hb_i x3)] [] w Q := by
  refine hb_iload_n (pc := 102) (i := 3) dX0_add_102 rfl rfl ?_
  refine hb_iconst (pc := 103) (v := 3) dX0_add_103 (by decide) ?_
  refine hb_icmp_gt (pc := 104) (tgt := 120) dX0_add_104 (by decide) (fun c1 => ?_) (fun c1 => ?_)
  · have ht1 := h.1 c1
    refine hb_iconst (pc := 120) (v := 0) dX0_add_120 (by decide) ?_
    refine hb_istore_n (pc := 121) (i := 3) (ls1 := [some (hb_r 9 g0 0), some (hb_i x1), some (hb_i x2), some (hb_i (0 : Int32))]) dX0_add_121 rfl (by decide) rfl ?_
    exact ht1
  · have ht1 := h.2 c1
    refine hb_aload_n (pc := 107) (i := 0) dX0_add_107 rfl rfl ?_
    refine hb_iload_n (pc := 108) (i := 1) dX0_add_108 rfl rfl ?_
    refine hb_iconst (pc := 109) (v := 1) dX0_add_109 (by decide) ?_
    refine hb_iload_n (pc := 110) (i := 3) dX0_add_110 rfl rfl ?_
    exact hb_callV (pc := 111) (As := [hb_i x1, hb_i (1 : Int32), hb_i x3]) (st := []) dX0_add_111 ml_X0_97 mf_X0_addMarks mi_X0_addMarks (ci := 0) rfl rfl hg0 rfl rfl (Nat.le_of_ble_eq_true rfl) (Nat.le_of_ble_eq_true rfl) ht1 (fun _ _ q => q)
set_option maxRecDepth 20000 in
theorem bk_X0_add_114 {d : Nat} {w : hb_W} {Q : Option hb_V → hb_W → Prop} {g0 : Nat} {x1 : Int32} {x2 : Int32} {x3 : Int32} (hg0 : g0 < hb_ct 9) (h : hb_R yX0_add cX0_add 4 none (d + 1) 102 [some (hb_r 9 g0 0), some (hb_i x1), some (hb_i x2), some (hb_i (x3 + (1 : Int32)))] [] w Q) : hb_R yX0_add cX0_add 4 none (d + 1) 114 [some (hb_r 9 g0 0), some (hb_i x1), some (hb_i x2), some (hb_i x3)] [] w Q := by
  refine hb_iinc (pc := 114) (v := x3 + (1 : Int32)) (ls1 := [some (hb_r 9 g0 0), some (hb_i x1), some (hb_i x2), some (hb_i (x3 + (1 : Int32)))]) dX0_add_114 rfl rfl (by decide) rfl ?_
  refine hb_goto (pc := 117) (tgt := 102) dX0_add_117 (by decide) ?_
  exact h
set_option maxRecDepth 20000 in
theorem bk_X0_add_122 {d : Nat} {w : hb_W} {Q : Option hb_V → hb_W → Prop} {g0 : Nat} {x1 : Int32} {x2 : Int32} {x3 : Int32} (hg0 : g0 < hb_ct 9) (h : (((hb_fI w 9 0 g0) ≤ x3) → Q none w) ∧ ((¬ (hb_fI w 9 0 g0) ≤ x3) → vp_in x3 9 ∧ ((hb_fR w 9 2 g0) < hb_ct 5 ∧ (hb_O yX5_of cX5_of 4 (some .int) d [hb_r 5 (hb_fR w 9 2 g0) 0, hb_i x1, hb_i x3] w (fun rv w1 => hb_R yX0_add cX0_add 4 none (d + 1) 150 [some (hb_r 9 g0 0), some (hb_i x1), some (hb_i x2), some (hb_i x3)] (rv.toList ++ [hb_i (hb_aI w 9 10 g0 x3.toNatClampNeg), hb_i x3, hb_r 9 g0 10]) w1 Q))))) : hb_R yX0_add cX0_add 4 none (d + 1) 122 [some (hb_r 9 g0 0), some (hb_i x1), some (hb_i x2), some (hb_i x3)] [] w Q := by
  refine hb_iload_n (pc := 122) (i := 3) dX0_add_122 rfl rfl ?_
  refine hb_aload_n (pc := 123) (i := 0) dX0_add_123 rfl rfl ?_
  refine hb_getIx (pc := 124) (x := hb_fI w 9 0 g0) dX0_add_124 fw_X0_9 cw_0 rfl hg0 rfl rfl ?_
  refine hb_icmp_ge (pc := 127) (tgt := 160) dX0_add_127 (by decide) (fun c1 => ?_) (fun c1 => ?_)
  · have ht1 := h.1 c1
    exact hb_vret (pc := 160) dX0_add_160 rfl ht1
  · have ht1 := h.2 c1
    refine hb_aload_n (pc := 130) (i := 0) dX0_add_130 rfl rfl ?_
    refine hb_getR (pc := 131) (g1 := g0) dX0_add_131 fw_X0_50 cw_0 rfl hg0 rfl (by decide) rfl ?_
    refine hb_iload_n (pc := 134) (i := 3) dX0_add_134 rfl rfl ?_
    refine hb_aload_n (pc := 135) (i := 0) dX0_add_135 rfl rfl ?_
    refine hb_getR (pc := 136) (g1 := g0) dX0_add_136 fw_X0_50 cw_0 rfl hg0 rfl (by decide) rfl ?_
    refine hb_iload_n (pc := 139) (i := 3) dX0_add_139 rfl rfl ?_
    obtain ⟨ho2, hr2⟩ := ht1
    refine hb_ialdx (pc := 140) (x := hb_aI w 9 10 g0 x3.toNatClampNeg) dX0_add_140 rfl hg0 ho2 rfl ?_
    refine hb_aload_n (pc := 141) (i := 0) dX0_add_141 rfl rfl ?_
    refine hb_getR (pc := 142) (g1 := hb_fR w 9 2 g0) dX0_add_142 fw_X0_18 cw_0 rfl hg0 rfl (by decide) rfl ?_
    refine hb_iload_n (pc := 145) (i := 1) dX0_add_145 rfl rfl ?_
    refine hb_iload_n (pc := 146) (i := 3) dX0_add_146 rfl rfl ?_
    obtain ⟨ho3, hr3⟩ := hr2
    exact hb_callV (pc := 147) (As := [hb_i x1, hb_i x3]) (st := [hb_i (hb_aI w 9 10 g0 x3.toNatClampNeg), hb_i x3, hb_r 9 g0 10]) dX0_add_147 ml_X0_101 mf_X5_of mi_X5_of (ci := 5) rfl rfl ho3 rfl rfl (Nat.le_of_ble_eq_true rfl) (Nat.le_of_ble_eq_true rfl) hr3 (fun _ _ q => q)
set_option maxRecDepth 20000 in
theorem bk_X0_add_150 {d : Nat} {w : hb_W} {Q : Option hb_V → hb_W → Prop} {g0 : Nat} {x1 : Int32} {x2 : Int32} {x3 : Int32} {gs0 : Nat} {xs1 : Int32} {xs2 : Int32} {xs3 : Int32} (hg0 : g0 < hb_ct 9) (hgs0 : gs0 < hb_ct 9) (h : vp_in xs1 9 ∧ (hb_R yX0_add cX0_add 4 none (d + 1) 122 [some (hb_r 9 g0 0), some (hb_i x1), some (hb_i x2), some (hb_i (x3 + (1 : Int32)))] [] (hb_sI w 9 10 gs0 (upd (hb_aI w 9 10 gs0) xs1.toNatClampNeg (if xs3 < xs2 then xs3 else xs2))) Q)) : hb_R yX0_add cX0_add 4 none (d + 1) 150 [some (hb_r 9 g0 0), some (hb_i x1), some (hb_i x2), some (hb_i x3)] [hb_i xs3, hb_i xs2, hb_i xs1, hb_r 9 gs0 10] w Q := by
  refine hb_mmin (pc := 150) dX0_add_150 ml_X0_56 (Nat.le_of_ble_eq_true rfl) ?_
  obtain ⟨ho1, hr1⟩ := h
  refine hb_iastx (pc := 153) (f := upd (hb_aI w 9 10 gs0) xs1.toNatClampNeg (if xs3 < xs2 then xs3 else xs2)) dX0_add_153 rfl hgs0 ho1 rfl ?_
  refine hb_iinc (pc := 154) (v := x3 + (1 : Int32)) (ls1 := [some (hb_r 9 g0 0), some (hb_i x1), some (hb_i x2), some (hb_i (x3 + (1 : Int32)))]) dX0_add_154 rfl rfl (by decide) rfl ?_
  refine hb_goto (pc := 157) (tgt := 122) dX0_add_157 (by decide) ?_
  exact hr1
theorem dX0_addMarks_0 : decode cX0_addMarks 0 = .ok (.iload_n 3, 1) := by decide +kernel
theorem dX0_addMarks_1 : decode cX0_addMarks 1 = .ok (.tableswitch 138 0 3 #[31, 47, 73, 110], 31) := by decide +kernel
theorem dX0_addMarks_32 : decode cX0_addMarks 32 = .ok (.aload_n 0, 1) := by decide +kernel
theorem dX0_addMarks_33 : decode cX0_addMarks 33 = .ok (.aload_n 0, 1) := by decide +kernel
theorem dX0_addMarks_34 : decode cX0_addMarks 34 = .ok (.getfield 18, 3) := by decide +kernel
theorem dX0_addMarks_37 : decode cX0_addMarks 37 = .ok (.iload_n 1, 1) := by decide +kernel
theorem dX0_addMarks_38 : decode cX0_addMarks 38 = .ok (.iconst 0, 1) := by decide +kernel
theorem dX0_addMarks_39 : decode cX0_addMarks 39 = .ok (.invokevirtual 101, 3) := by decide +kernel
theorem dX0_addMarks_42 : decode cX0_addMarks 42 = .ok (.invokevirtual 106, 3) := by decide +kernel
theorem dX0_addMarks_45 : decode cX0_addMarks 45 = .ok (.goto 94, 3) := by decide +kernel
theorem dX0_addMarks_48 : decode cX0_addMarks 48 = .ok (.aload_n 0, 1) := by decide +kernel
theorem dX0_addMarks_49 : decode cX0_addMarks 49 = .ok (.aload_n 0, 1) := by decide +kernel
theorem dX0_addMarks_50 : decode cX0_addMarks 50 = .ok (.getfield 53, 3) := by decide +kernel
theorem dX0_addMarks_53 : decode cX0_addMarks 53 = .ok (.aload_n 0, 1) := by decide +kernel
theorem dX0_addMarks_54 : decode cX0_addMarks 54 = .ok (.getfield 18, 3) := by decide +kernel
theorem dX0_addMarks_57 : decode cX0_addMarks 57 = .ok (.iload_n 1, 1) := by decide +kernel
theorem dX0_addMarks_58 : decode cX0_addMarks 58 = .ok (.iconst 1, 1) := by decide +kernel
theorem dX0_addMarks_59 : decode cX0_addMarks 59 = .ok (.invokevirtual 101, 3) := by decide +kernel
theorem dX0_addMarks_62 : decode cX0_addMarks 62 = .ok (.invokestatic 109, 3) := by decide +kernel
theorem dX0_addMarks_65 : decode cX0_addMarks 65 = .ok (.invokestatic 62, 3) := by decide +kernel
theorem dX0_addMarks_68 : decode cX0_addMarks 68 = .ok (.putfield 53, 3) := by decide +kernel
theorem dX0_addMarks_71 : decode cX0_addMarks 71 = .ok (.goto 68, 3) := by decide +kernel
theorem dX0_addMarks_74 : decode cX0_addMarks 74 = .ok (.iconst 0, 1) := by decide +kernel
theorem dX0_addMarks_75 : decode cX0_addMarks 75 = .ok (.istore 4, 2) := by decide +kernel
theorem dX0_addMarks_77 : decode cX0_addMarks 77 = .ok (.iload 4, 2) := by decide +kernel
theorem dX0_addMarks_79 : decode cX0_addMarks 79 = .ok (.aload_n 0, 1) := by decide +kernel
theorem dX0_addMarks_80 : decode cX0_addMarks 80 = .ok (.getfield 15, 3) := by decide +kernel
theorem dX0_addMarks_83 : decode cX0_addMarks 83 = .ok (.if_icmp .ge 25, 3) := by decide +kernel
theorem dX0_addMarks_86 : decode cX0_addMarks 86 = .ok (.aload_n 0, 1) := by decide +kernel
theorem dX0_addMarks_87 : decode cX0_addMarks 87 = .ok (.getfield 41, 3) := by decide +kernel
theorem dX0_addMarks_90 : decode cX0_addMarks 90 = .ok (.aload_n 0, 1) := by decide +kernel
theorem dX0_addMarks_91 : decode cX0_addMarks 91 = .ok (.iload 4, 2) := by decide +kernel
theorem dX0_addMarks_93 : decode cX0_addMarks 93 = .ok (.iload_n 1, 1) := by decide +kernel
theorem dX0_addMarks_94 : decode cX0_addMarks 94 = .ok (.invokevirtual 113, 3) := by decide +kernel
theorem dX0_addMarks_97 : decode cX0_addMarks 97 = .ok (.dup2, 1) := by decide +kernel
theorem dX0_addMarks_98 : decode cX0_addMarks 98 = .ok (.iaload, 1) := by decide +kernel
theorem dX0_addMarks_99 : decode cX0_addMarks 99 = .ok (.iload_n 2, 1) := by decide +kernel
theorem dX0_addMarks_100 : decode cX0_addMarks 100 = .ok (.iadd, 1) := by decide +kernel
theorem dX0_addMarks_101 : decode cX0_addMarks 101 = .ok (.iastore, 1) := by decide +kernel
theorem dX0_addMarks_102 : decode cX0_addMarks 102 = .ok (.iinc 4 1, 3) := by decide +kernel
theorem dX0_addMarks_105 : decode cX0_addMarks 105 = .ok (.goto (-28), 3) := by decide +kernel
theorem dX0_addMarks_108 : decode cX0_addMarks 108 = .ok (.goto 31, 3) := by decide +kernel
theorem dX0_addMarks_111 : decode cX0_addMarks 111 = .ok (.aload_n 0, 1) := by decide +kernel
theorem dX0_addMarks_112 : decode cX0_addMarks 112 = .ok (.getfield 44, 3) := by decide +kernel
theorem dX0_addMarks_115 : decode cX0_addMarks 115 = .ok (.aload_n 0, 1) := by decide +kernel
theorem dX0_addMarks_116 : decode cX0_addMarks 116 = .ok (.iload_n 1, 1) := by decide +kernel
theorem dX0_addMarks_117 : decode cX0_addMarks 117 = .ok (.iconst 5, 1) := by decide +kernel
theorem dX0_addMarks_118 : decode cX0_addMarks 118 = .ok (.invokevirtual 116, 3) := by decide +kernel
theorem dX0_addMarks_121 : decode cX0_addMarks 121 = .ok (.iconst 1, 1) := by decide +kernel
theorem dX0_addMarks_122 : decode cX0_addMarks 122 = .ok (.iastore, 1) := by decide +kernel
theorem dX0_addMarks_123 : decode cX0_addMarks 123 = .ok (.aload_n 0, 1) := by decide +kernel
theorem dX0_addMarks_124 : decode cX0_addMarks 124 = .ok (.getfield 44, 3) := by decide +kernel
theorem dX0_addMarks_127 : decode cX0_addMarks 127 = .ok (.aload_n 0, 1) := by decide +kernel
theorem dX0_addMarks_128 : decode cX0_addMarks 128 = .ok (.iload_n 1, 1) := by decide +kernel
theorem dX0_addMarks_129 : decode cX0_addMarks 129 = .ok (.bipush 6, 2) := by decide +kernel
theorem dX0_addMarks_131 : decode cX0_addMarks 131 = .ok (.invokevirtual 116, 3) := by decide +kernel
theorem dX0_addMarks_134 : decode cX0_addMarks 134 = .ok (.iconst 1, 1) := by decide +kernel
theorem dX0_addMarks_135 : decode cX0_addMarks 135 = .ok (.iastore, 1) := by decide +kernel
theorem dX0_addMarks_136 : decode cX0_addMarks 136 = .ok (.goto 3, 3) := by decide +kernel
theorem dX0_addMarks_139 : decode cX0_addMarks 139 = .ok (.return_, 1) := by decide +kernel
set_option maxRecDepth 20000 in
theorem bk_X0_addMarks_0 {d : Nat} {w : hb_W} {Q : Option hb_V → hb_W → Prop} {g0 : Nat} {x1 : Int32} {x2 : Int32} {x3 : Int32} (hg0 : g0 < hb_ct 9) (h : (x3 = (0 : Int32) → (hb_fR w 9 2 g0) < hb_ct 5 ∧ (hb_O yX5_of cX5_of 4 (some .int) d [hb_r 5 (hb_fR w 9 2 g0) 0, hb_i x1, hb_i (0 : Int32)] w (fun rv w1 => hb_R yX0_addMarks cX0_addMarks 5 none (d + 1) 42 [some (hb_r 9 g0 0), some (hb_i x1), some (hb_i x2), some (hb_i x3), none] (rv.toList ++ [hb_r 9 g0 0]) w1 Q))) ∧ (x3 = (1 : Int32) → (hb_fR w 9 2 g0) < hb_ct 5 ∧ (hb_O yX5_of cX5_of 4 (some .int) d [hb_r 5 (hb_fR w 9 2 g0) 0, hb_i x1, hb_i (1 : Int32)] w (fun rv w1 => hb_R yX0_addMarks cX0_addMarks 5 none (d + 1) 62 [some (hb_r 9 g0 0), some (hb_i x1), some (hb_i x2), some (hb_i x3), none] (rv.toList ++ [hb_i (hb_fI w 9 10 g0), hb_r 9 g0 0]) w1 Q))) ∧ (x3 = (2 : Int32) → hb_R yX0_addMarks cX0_addMarks 5 none (d + 1) 77 [some (hb_r 9 g0 0), some (hb_i x1), some (hb_i x2), some (hb_i x3), some (hb_i (0 : Int32))] [] w Q) ∧ (x3 = (3 : Int32) → hb_O yX0_bitPlace cX0_bitPlace 3 (some .int) d [hb_r 9 g0 0, hb_i x1, hb_i (5 : Int32)] w (fun rv w1 => hb_R yX0_addMarks cX0_addMarks 5 none (d + 1) 121 [some (hb_r 9 g0 0), some (hb_i x1), some (hb_i x2), some (hb_i x3), none] (rv.toList ++ [hb_r 9 g0 8]) w1 Q)) ∧ (¬ x3 = (0 : Int32) → ¬ x3 = (1 : Int32) → ¬ x3 = (2 : Int32) → ¬ x3 = (3 : Int32) → Q none w)) : hb_R yX0_addMarks cX0_addMarks 5 none (d + 1) 0 [some (hb_r 9 g0 0), some (hb_i x1), some (hb_i x2), some (hb_i x3), none] [] w Q := by
  refine hb_iload_n (pc := 0) (i := 3) dX0_addMarks_0 rfl rfl ?_
  by_cases e1_0 : x3 = (0 : Int32)
  · have hk1_0 := h.1 e1_0
    have ei : x3.toInt = 0 := by rw [e1_0]; rfl
    refine hb_tabIn (pc := 1) (tgt := 32) (off := 31) dX0_addMarks_1 (by rw [ei]; decide) (by rw [ei]; decide) (by rw [ei]; rfl) (by decide) ?_
    refine hb_aload_n (pc := 32) (i := 0) dX0_addMarks_32 rfl rfl ?_
    refine hb_aload_n (pc := 33) (i := 0) dX0_addMarks_33 rfl rfl ?_
    refine hb_getR (pc := 34) (g1 := hb_fR w 9 2 g0) dX0_addMarks_34 fw_X0_18 cw_0 rfl hg0 rfl (by decide) rfl ?_
    refine hb_iload_n (pc := 37) (i := 1) dX0_addMarks_37 rfl rfl ?_
    refine hb_iconst (pc := 38) (v := 0) dX0_addMarks_38 (by decide) ?_
    obtain ⟨ho2, hr2⟩ := hk1_0
    exact hb_callV (pc := 39) (As := [hb_i x1, hb_i (0 : Int32)]) (st := [hb_r 9 g0 0]) dX0_addMarks_39 ml_X0_101 mf_X5_of mi_X5_of (ci := 5) rfl rfl ho2 rfl rfl (Nat.le_of_ble_eq_true rfl) (Nat.le_of_ble_eq_true rfl) hr2 (fun _ _ q => q)
  by_cases e1_1 : x3 = (1 : Int32)
  · have hk1_1 := h.2.1 e1_1
    have ei : x3.toInt = 1 := by rw [e1_1]; rfl
    refine hb_tabIn (pc := 1) (tgt := 48) (off := 47) dX0_addMarks_1 (by rw [ei]; decide) (by rw [ei]; decide) (by rw [ei]; rfl) (by decide) ?_
    refine hb_aload_n (pc := 48) (i := 0) dX0_addMarks_48 rfl rfl ?_
    refine hb_aload_n (pc := 49) (i := 0) dX0_addMarks_49 rfl rfl ?_
    refine hb_getIx (pc := 50) (x := hb_fI w 9 10 g0) dX0_addMarks_50 fw_X0_53 cw_0 rfl hg0 rfl rfl ?_
    refine hb_aload_n (pc := 53) (i := 0) dX0_addMarks_53 rfl rfl ?_
    refine hb_getR (pc := 54) (g1 := hb_fR w 9 2 g0) dX0_addMarks_54 fw_X0_18 cw_0 rfl hg0 rfl (by decide) rfl ?_
    refine hb_iload_n (pc := 57) (i := 1) dX0_addMarks_57 rfl rfl ?_
    refine hb_iconst (pc := 58) (v := 1) dX0_addMarks_58 (by decide) ?_
    obtain ⟨ho3, hr3⟩ := hk1_1
    exact hb_callV (pc := 59) (As := [hb_i x1, hb_i (1 : Int32)]) (st := [hb_i (hb_fI w 9 10 g0), hb_r 9 g0 0]) dX0_addMarks_59 ml_X0_101 mf_X5_of mi_X5_of (ci := 5) rfl rfl ho3 rfl rfl (Nat.le_of_ble_eq_true rfl) (Nat.le_of_ble_eq_true rfl) hr3 (fun _ _ q => q)
  by_cases e1_2 : x3 = (2 : Int32)
  · have hk1_2 := h.2.2.1 e1_2
    have ei : x3.toInt = 2 := by rw [e1_2]; rfl
    refine hb_tabIn (pc := 1) (tgt := 74) (off := 73) dX0_addMarks_1 (by rw [ei]; decide) (by rw [ei]; decide) (by rw [ei]; rfl) (by decide) ?_
    refine hb_iconst (pc := 74) (v := 0) dX0_addMarks_74 (by decide) ?_
    refine hb_istore (pc := 75) (i := 4) (ls1 := [some (hb_r 9 g0 0), some (hb_i x1), some (hb_i x2), some (hb_i x3), some (hb_i (0 : Int32))]) dX0_addMarks_75 (by decide) rfl ?_
    exact hk1_2
  by_cases e1_3 : x3 = (3 : Int32)
  · have hk1_3 := h.2.2.2.1 e1_3
    have ei : x3.toInt = 3 := by rw [e1_3]; rfl
    refine hb_tabIn (pc := 1) (tgt := 111) (off := 110) dX0_addMarks_1 (by rw [ei]; decide) (by rw [ei]; decide) (by rw [ei]; rfl) (by decide) ?_
    refine hb_aload_n (pc := 111) (i := 0) dX0_addMarks_111 rfl rfl ?_
    refine hb_getR (pc := 112) (g1 := g0) dX0_addMarks_112 fw_X0_44 cw_0 rfl hg0 rfl (by decide) rfl ?_
    refine hb_aload_n (pc := 115) (i := 0) dX0_addMarks_115 rfl rfl ?_
    refine hb_iload_n (pc := 116) (i := 1) dX0_addMarks_116 rfl rfl ?_
    refine hb_iconst (pc := 117) (v := 5) dX0_addMarks_117 (by decide) ?_
    exact hb_callV (pc := 118) (As := [hb_i x1, hb_i (5 : Int32)]) (st := [hb_r 9 g0 8]) dX0_addMarks_118 ml_X0_116 mf_X0_bitPlace mi_X0_bitPlace (ci := 0) rfl rfl hg0 rfl rfl (Nat.le_of_ble_eq_true rfl) (Nat.le_of_ble_eq_true rfl) hk1_3 (fun _ _ q => q)
  have hk1_d := h.2.2.2.2 e1_0 e1_1 e1_2 e1_3
  have n1_0 := lv_neT (a := 0) e1_0 rfl
  have n1_1 := lv_neT (a := 1) e1_1 rfl
  have n1_2 := lv_neT (a := 2) e1_2 rfl
  have n1_3 := lv_neT (a := 3) e1_3 rfl
  refine hb_tabOut (pc := 1) (tgt := 139) dX0_addMarks_1 (by omega) (by decide) ?_
  exact hb_vret (pc := 139) dX0_addMarks_139 rfl hk1_d
set_option maxRecDepth 20000 in
theorem bk_X0_addMarks_42 {d : Nat} {w : hb_W} {Q : Option hb_V → hb_W → Prop} {g0 : Nat} {x1 : Int32} {x2 : Int32} {x3 : Int32} {gs0 : Nat} {xs1 : Int32} (hg0 : g0 < hb_ct 9) (hgs0 : gs0 < hb_ct 9) (h : hb_O yX0_addLeast cX0_addLeast 4 none d [hb_r 9 gs0 0, hb_i xs1] w (fun rv w1 => hb_R yX0_addMarks cX0_addMarks 5 none (d + 1) 45 [some (hb_r 9 g0 0), some (hb_i x1), some (hb_i x2), some (hb_i x3), none] (rv.toList ++ []) w1 Q)) : hb_R yX0_addMarks cX0_addMarks 5 none (d + 1) 42 [some (hb_r 9 g0 0), some (hb_i x1), some (hb_i x2), some (hb_i x3), none] [hb_i xs1, hb_r 9 gs0 0] w Q := by
  exact hb_callV (pc := 42) (As := [hb_i xs1]) (st := []) dX0_addMarks_42 ml_X0_106 mf_X0_addLeast mi_X0_addLeast (ci := 0) rfl rfl hgs0 rfl rfl (Nat.le_of_ble_eq_true rfl) (Nat.le_of_ble_eq_true rfl) h (fun _ _ q => q)
set_option maxRecDepth 20000 in
theorem bk_X0_addMarks_45 {d : Nat} {w : hb_W} {Q : Option hb_V → hb_W → Prop} {g0 : Nat} {x1 : Int32} {x2 : Int32} {x3 : Int32} (hg0 : g0 < hb_ct 9) (h : Q none w) : hb_R yX0_addMarks cX0_addMarks 5 none (d + 1) 45 [some (hb_r 9 g0 0), some (hb_i x1), some (hb_i x2), some (hb_i x3), none] [] w Q := by
  refine hb_goto (pc := 45) (tgt := 139) dX0_addMarks_45 (by decide) ?_
  exact hb_vret (pc := 139) dX0_addMarks_139 rfl h
set_option maxRecDepth 20000 in
theorem bk_X0_addMarks_62 {d : Nat} {w : hb_W} {Q : Option hb_V → hb_W → Prop} {g0 : Nat} {x1 : Int32} {x2 : Int32} {x3 : Int32} {gs0 : Nat} {xs1 : Int32} {xs2 : Int32} (hg0 : g0 < hb_ct 9) (hgs0 : gs0 < hb_ct 9) (h : hb_O yX0_noughtsAtEnd cX0_noughtsAtEnd 2 (some .int) d [hb_i xs2] w (fun rv w1 => hb_R yX0_addMarks cX0_addMarks 5 none (d + 1) 65 [some (hb_r 9 g0 0), some (hb_i x1), some (hb_i x2), some (hb_i x3), none] (rv.toList ++ [hb_i xs1, hb_r 9 gs0 0]) w1 Q)) : hb_R yX0_addMarks cX0_addMarks 5 none (d + 1) 62 [some (hb_r 9 g0 0), some (hb_i x1), some (hb_i x2), some (hb_i x3), none] [hb_i xs2, hb_i xs1, hb_r 9 gs0 0] w Q := by
  exact hb_callS (pc := 62) (As := [hb_i xs2]) (st := [hb_i xs1, hb_r 9 gs0 0]) dX0_addMarks_62 ml_X0_109 mf_X0_noughtsAtEnd ms_X0_noughtsAtEnd rfl rfl (Nat.le_of_ble_eq_true rfl) (Nat.le_of_ble_eq_true rfl) h (fun _ _ q => q)
set_option maxRecDepth 20000 in
theorem bk_X0_addMarks_65 {d : Nat} {w : hb_W} {Q : Option hb_V → hb_W → Prop} {g0 : Nat} {x1 : Int32} {x2 : Int32} {x3 : Int32} {gs0 : Nat} {xs1 : Int32} {xs2 : Int32} (hg0 : g0 < hb_ct 9) (hgs0 : gs0 < hb_ct 9) (h : Q none (hb_pI w 9 10 gs0 (if xs1 < xs2 then xs2 else xs1))) : hb_R yX0_addMarks cX0_addMarks 5 none (d + 1) 65 [some (hb_r 9 g0 0), some (hb_i x1), some (hb_i x2), some (hb_i x3), none] [hb_i xs2, hb_i xs1, hb_r 9 gs0 0] w Q := by
  refine hb_mmax (pc := 65) dX0_addMarks_65 ml_X0_62 (Nat.le_of_ble_eq_true rfl) ?_
  refine hb_putI (pc := 68) dX0_addMarks_68 fw_X0_53 cw_0 pw_0_10 rfl hgs0 rfl rfl rfl ?_
  refine hb_goto (pc := 71) (tgt := 139) dX0_addMarks_71 (by decide) ?_
  exact hb_vret (pc := 139) dX0_addMarks_139 rfl h
set_option maxRecDepth 20000 in
theorem bk_X0_addMarks_77 {d : Nat} {w : hb_W} {Q : Option hb_V → hb_W → Prop} {g0 : Nat} {x1 : Int32} {x2 : Int32} {x3 : Int32} {x4 : Int32} (hg0 : g0 < hb_ct 9) (h : (((hb_fI w 9 1 g0) ≤ x4) → Q none w) ∧ ((¬ (hb_fI w 9 1 g0) ≤ x4) → hb_O yX0_crossing cX0_crossing 3 (some .int) d [hb_r 9 g0 0, hb_i x4, hb_i x1] w (fun rv w1 => hb_R yX0_addMarks cX0_addMarks 5 none (d + 1) 97 [some (hb_r 9 g0 0), some (hb_i x1), some (hb_i x2), some (hb_i x3), some (hb_i x4)] (rv.toList ++ [hb_r 9 g0 7]) w1 Q))) : hb_R yX0_addMarks cX0_addMarks 5 none (d + 1) 77 [some (hb_r 9 g0 0), some (hb_i x1), some (hb_i x2), some (hb_i x3), some (hb_i x4)] [] w Q := by
  refine hb_iload (pc := 77) dX0_addMarks_77 rfl ?_
  refine hb_aload_n (pc := 79) (i := 0) dX0_addMarks_79 rfl rfl ?_
  refine hb_getIx (pc := 80) (x := hb_fI w 9 1 g0) dX0_addMarks_80 fw_X0_15 cw_0 rfl hg0 rfl rfl ?_
  refine hb_icmp_ge (pc := 83) (tgt := 108) dX0_addMarks_83 (by decide) (fun c1 => ?_) (fun c1 => ?_)
  · have ht1 := h.1 c1
    refine hb_goto (pc := 108) (tgt := 139) dX0_addMarks_108 (by decide) ?_
    exact hb_vret (pc := 139) dX0_addMarks_139 rfl ht1
  · have ht1 := h.2 c1
    refine hb_aload_n (pc := 86) (i := 0) dX0_addMarks_86 rfl rfl ?_
    refine hb_getR (pc := 87) (g1 := g0) dX0_addMarks_87 fw_X0_41 cw_0 rfl hg0 rfl (by decide) rfl ?_
    refine hb_aload_n (pc := 90) (i := 0) dX0_addMarks_90 rfl rfl ?_
    refine hb_iload (pc := 91) dX0_addMarks_91 rfl ?_
    refine hb_iload_n (pc := 93) (i := 1) dX0_addMarks_93 rfl rfl ?_
    exact hb_callV (pc := 94) (As := [hb_i x4, hb_i x1]) (st := [hb_r 9 g0 7]) dX0_addMarks_94 ml_X0_113 mf_X0_crossing mi_X0_crossing (ci := 0) rfl rfl hg0 rfl rfl (Nat.le_of_ble_eq_true rfl) (Nat.le_of_ble_eq_true rfl) ht1 (fun _ _ q => q)
set_option maxRecDepth 20000 in
theorem bk_X0_addMarks_97 {d : Nat} {w : hb_W} {Q : Option hb_V → hb_W → Prop} {g0 : Nat} {x1 : Int32} {x2 : Int32} {x3 : Int32} {x4 : Int32} {gs0 : Nat} {xs1 : Int32} (hg0 : g0 < hb_ct 9) (hgs0 : gs0 < hb_ct 9) (h : vp_in xs1 27 ∧ (vp_in xs1 27 ∧ (hb_R yX0_addMarks cX0_addMarks 5 none (d + 1) 77 [some (hb_r 9 g0 0), some (hb_i x1), some (hb_i x2), some (hb_i x3), some (hb_i (x4 + (1 : Int32)))] [] (hb_sI w 9 7 gs0 (upd (hb_aI w 9 7 gs0) xs1.toNatClampNeg ((hb_aI w 9 7 gs0 xs1.toNatClampNeg) + x2))) Q))) : hb_R yX0_addMarks cX0_addMarks 5 none (d + 1) 97 [some (hb_r 9 g0 0), some (hb_i x1), some (hb_i x2), some (hb_i x3), some (hb_i x4)] [hb_i xs1, hb_r 9 gs0 7] w Q := by
  refine hb_dup2ir (pc := 97) dX0_addMarks_97 ?_
  obtain ⟨ho1, hr1⟩ := h
  refine hb_ialdx (pc := 98) (x := hb_aI w 9 7 gs0 xs1.toNatClampNeg) dX0_addMarks_98 rfl hgs0 ho1 rfl ?_
  refine hb_iload_n (pc := 99) (i := 2) dX0_addMarks_99 rfl rfl ?_
  refine hb_iadd (pc := 100) dX0_addMarks_100 ?_
  obtain ⟨ho2, hr2⟩ := hr1
  refine hb_iastx (pc := 101) (f := upd (hb_aI w 9 7 gs0) xs1.toNatClampNeg ((hb_aI w 9 7 gs0 xs1.toNatClampNeg) + x2)) dX0_addMarks_101 rfl hgs0 ho2 rfl ?_
  refine hb_iinc (pc := 102) (v := x4 + (1 : Int32)) (ls1 := [some (hb_r 9 g0 0), some (hb_i x1), some (hb_i x2), some (hb_i x3), some (hb_i (x4 + (1 : Int32)))]) dX0_addMarks_102 rfl rfl (by decide) rfl ?_
  refine hb_goto (pc := 105) (tgt := 77) dX0_addMarks_105 (by decide) ?_
  exact hr2
set_option maxRecDepth 20000 in
theorem bk_X0_addMarks_121 {d : Nat} {w : hb_W} {Q : Option hb_V → hb_W → Prop} {g0 : Nat} {x1 : Int32} {x2 : Int32} {x3 : Int32} {gs0 : Nat} {xs1 : Int32} (hg0 : g0 < hb_ct 9) (hgs0 : gs0 < hb_ct 9) (h : vp_in xs1 72 ∧ (hb_O yX0_bitPlace cX0_bitPlace 3 (some .int) d [hb_r 9 g0 0, hb_i x1, hb_i (6 : Int32)] (hb_sI w 9 8 gs0 (upd (hb_aI w 9 8 gs0) xs1.toNatClampNeg (1 : Int32))) (fun rv w1 => hb_R yX0_addMarks cX0_addMarks 5 none (d + 1) 134 [some (hb_r 9 g0 0), some (hb_i x1), some (hb_i x2), some (hb_i x3), none] (rv.toList ++ [hb_r 9 g0 8]) w1 Q))) : hb_R yX0_addMarks cX0_addMarks 5 none (d + 1) 121 [some (hb_r 9 g0 0), some (hb_i x1), some (hb_i x2), some (hb_i x3), none] [hb_i xs1, hb_r 9 gs0 8] w Q := by
  refine hb_iconst (pc := 121) (v := 1) dX0_addMarks_121 (by decide) ?_
  obtain ⟨ho1, hr1⟩ := h
  refine hb_iastx (pc := 122) (f := upd (hb_aI w 9 8 gs0) xs1.toNatClampNeg (1 : Int32)) dX0_addMarks_122 rfl hgs0 ho1 rfl ?_
  refine hb_aload_n (pc := 123) (i := 0) dX0_addMarks_123 rfl rfl ?_
  refine hb_getR (pc := 124) (g1 := g0) dX0_addMarks_124 fw_X0_44 cw_0 rfl hg0 rfl (by decide) rfl ?_
  refine hb_aload_n (pc := 127) (i := 0) dX0_addMarks_127 rfl rfl ?_
  refine hb_iload_n (pc := 128) (i := 1) dX0_addMarks_128 rfl rfl ?_
  refine hb_bipush (pc := 129) (v := 6) dX0_addMarks_129 (by decide) ?_
  exact hb_callV (pc := 131) (As := [hb_i x1, hb_i (6 : Int32)]) (st := [hb_r 9 g0 8]) dX0_addMarks_131 ml_X0_116 mf_X0_bitPlace mi_X0_bitPlace (ci := 0) rfl rfl hg0 rfl rfl (Nat.le_of_ble_eq_true rfl) (Nat.le_of_ble_eq_true rfl) hr1 (fun _ _ q => q)
set_option maxRecDepth 20000 in
theorem bk_X0_addMarks_134 {d : Nat} {w : hb_W} {Q : Option hb_V → hb_W → Prop} {g0 : Nat} {x1 : Int32} {x2 : Int32} {x3 : Int32} {gs0 : Nat} {xs1 : Int32} (hg0 : g0 < hb_ct 9) (hgs0 : gs0 < hb_ct 9) (h : vp_in xs1 72 ∧ (Q none (hb_sI w 9 8 gs0 (upd (hb_aI w 9 8 gs0) xs1.toNatClampNeg (1 : Int32))))) : hb_R yX0_addMarks cX0_addMarks 5 none (d + 1) 134 [some (hb_r 9 g0 0), some (hb_i x1), some (hb_i x2), some (hb_i x3), none] [hb_i xs1, hb_r 9 gs0 8] w Q := by
  refine hb_iconst (pc := 134) (v := 1) dX0_addMarks_134 (by decide) ?_
  obtain ⟨ho1, hr1⟩ := h
  refine hb_iastx (pc := 135) (f := upd (hb_aI w 9 8 gs0) xs1.toNatClampNeg (1 : Int32)) dX0_addMarks_135 rfl hgs0 ho1 rfl ?_
  refine hb_goto (pc := 136) (tgt := 139) dX0_addMarks_136 (by decide) ?_
  exact hb_vret (pc := 139) dX0_addMarks_139 rfl hr1
theorem dX0_addLeast_0 : decode cX0_addLeast 0 = .ok (.iconst 0, 1) := by decide +kernel
theorem dX0_addLeast_1 : decode cX0_addLeast 1 = .ok (.istore_n 2, 1) := by decide +kernel
theorem dX0_addLeast_2 : decode cX0_addLeast 2 = .ok (.iload_n 2, 1) := by decide +kernel
theorem dX0_addLeast_3 : decode cX0_addLeast 3 = .ok (.aload_n 0, 1) := by decide +kernel
theorem dX0_addLeast_4 : decode cX0_addLeast 4 = .ok (.getfield 80, 3) := by decide +kernel
theorem dX0_addLeast_7 : decode cX0_addLeast 7 = .ok (.if_icmp .ge 19, 3) := by decide +kernel
theorem dX0_addLeast_10 : decode cX0_addLeast 10 = .ok (.aload_n 0, 1) := by decide +kernel
theorem dX0_addLeast_11 : decode cX0_addLeast 11 = .ok (.getfield 32, 3) := by decide +kernel
theorem dX0_addLeast_14 : decode cX0_addLeast 14 = .ok (.iload_n 2, 1) := by decide +kernel
theorem dX0_addLeast_15 : decode cX0_addLeast 15 = .ok (.iaload, 1) := by decide +kernel
theorem dX0_addLeast_16 : decode cX0_addLeast 16 = .ok (.iload_n 1, 1) := by decide +kernel
theorem dX0_addLeast_17 : decode cX0_addLeast 17 = .ok (.if_icmp .ge 9, 3) := by decide +kernel
theorem dX0_addLeast_20 : decode cX0_addLeast 20 = .ok (.iinc 2 1, 3) := by decide +kernel
theorem dX0_addLeast_23 : decode cX0_addLeast 23 = .ok (.goto (-21), 3) := by decide +kernel
theorem dX0_addLeast_26 : decode cX0_addLeast 26 = .ok (.iload_n 2, 1) := by decide +kernel
theorem dX0_addLeast_27 : decode cX0_addLeast 27 = .ok (.aload_n 0, 1) := by decide +kernel
theorem dX0_addLeast_28 : decode cX0_addLeast 28 = .ok (.getfield 9, 3) := by decide +kernel
theorem dX0_addLeast_31 : decode cX0_addLeast 31 = .ok (.if_icmp .ge 21, 3) := by decide +kernel
theorem dX0_addLeast_34 : decode cX0_addLeast 34 = .ok (.iload_n 2, 1) := by decide +kernel
theorem dX0_addLeast_35 : decode cX0_addLeast 35 = .ok (.aload_n 0, 1) := by decide +kernel
theorem dX0_addLeast_36 : decode cX0_addLeast 36 = .ok (.getfield 80, 3) := by decide +kernel
theorem dX0_addLeast_39 : decode cX0_addLeast 39 = .ok (.if_icmp .ge 14, 3) := by decide +kernel
theorem dX0_addLeast_42 : decode cX0_addLeast 42 = .ok (.aload_n 0, 1) := by decide +kernel
theorem dX0_addLeast_43 : decode cX0_addLeast 43 = .ok (.getfield 32, 3) := by decide +kernel
theorem dX0_addLeast_46 : decode cX0_addLeast 46 = .ok (.iload_n 2, 1) := by decide +kernel
theorem dX0_addLeast_47 : decode cX0_addLeast 47 = .ok (.iaload, 1) := by decide +kernel
theorem dX0_addLeast_48 : decode cX0_addLeast 48 = .ok (.iload_n 1, 1) := by decide +kernel
theorem dX0_addLeast_49 : decode cX0_addLeast 49 = .ok (.if_icmp .ne 4, 3) := by decide +kernel
theorem dX0_addLeast_52 : decode cX0_addLeast 52 = .ok (.return_, 1) := by decide +kernel
theorem dX0_addLeast_53 : decode cX0_addLeast 53 = .ok (.aload_n 0, 1) := by decide +kernel
theorem dX0_addLeast_54 : decode cX0_addLeast 54 = .ok (.aload_n 0, 1) := by decide +kernel
theorem dX0_addLeast_55 : decode cX0_addLeast 55 = .ok (.getfield 9, 3) := by decide +kernel
theorem dX0_addLeast_58 : decode cX0_addLeast 58 = .ok (.aload_n 0, 1) := by decide +kernel
theorem dX0_addLeast_59 : decode cX0_addLeast 59 = .ok (.getfield 80, 3) := by decide +kernel
theorem dX0_addLeast_62 : decode cX0_addLeast 62 = .ok (.iconst 1, 1) := by decide +kernel
theorem dX0_addLeast_63 : decode cX0_addLeast 63 = .ok (.iadd, 1) := by decide +kernel
theorem dX0_addLeast_64 : decode cX0_addLeast 64 = .ok (.invokestatic 56, 3) := by decide +kernel
theorem dX0_addLeast_67 : decode cX0_addLeast 67 = .ok (.putfield 80, 3) := by decide +kernel
theorem dX0_addLeast_70 : decode cX0_addLeast 70 = .ok (.aload_n 0, 1) := by decide +kernel
theorem dX0_addLeast_71 : decode cX0_addLeast 71 = .ok (.getfield 80, 3) := by decide +kernel
theorem dX0_addLeast_74 : decode cX0_addLeast 74 = .ok (.iconst 1, 1) := by decide +kernel
theorem dX0_addLeast_75 : decode cX0_addLeast 75 = .ok (.isub, 1) := by decide +kernel
theorem dX0_addLeast_76 : decode cX0_addLeast 76 = .ok (.istore_n 3, 1) := by decide +kernel
theorem dX0_addLeast_77 : decode cX0_addLeast 77 = .ok (.iload_n 3, 1) := by decide +kernel
theorem dX0_addLeast_78 : decode cX0_addLeast 78 = .ok (.iload_n 2, 1) := by decide +kernel
theorem dX0_addLeast_79 : decode cX0_addLeast 79 = .ok (.if_icmp .le 23, 3) := by decide +kernel
theorem dX0_addLeast_82 : decode cX0_addLeast 82 = .ok (.aload_n 0, 1) := by decide +kernel
theorem dX0_addLeast_83 : decode cX0_addLeast 83 = .ok (.getfield 32, 3) := by decide +kernel
theorem dX0_addLeast_86 : decode cX0_addLeast 86 = .ok (.iload_n 3, 1) := by decide +kernel
theorem dX0_addLeast_87 : decode cX0_addLeast 87 = .ok (.aload_n 0, 1) := by decide +kernel
theorem dX0_addLeast_88 : decode cX0_addLeast 88 = .ok (.getfield 32, 3) := by decide +kernel
theorem dX0_addLeast_91 : decode cX0_addLeast 91 = .ok (.iload_n 3, 1) := by decide +kernel
theorem dX0_addLeast_92 : decode cX0_addLeast 92 = .ok (.iconst 1, 1) := by decide +kernel
theorem dX0_addLeast_93 : decode cX0_addLeast 93 = .ok (.isub, 1) := by decide +kernel
theorem dX0_addLeast_94 : decode cX0_addLeast 94 = .ok (.iaload, 1) := by decide +kernel
theorem dX0_addLeast_95 : decode cX0_addLeast 95 = .ok (.iastore, 1) := by decide +kernel
theorem dX0_addLeast_96 : decode cX0_addLeast 96 = .ok (.iinc 3 (-1), 3) := by decide +kernel
theorem dX0_addLeast_99 : decode cX0_addLeast 99 = .ok (.goto (-22), 3) := by decide +kernel
theorem dX0_addLeast_102 : decode cX0_addLeast 102 = .ok (.aload_n 0, 1) := by decide +kernel
theorem dX0_addLeast_103 : decode cX0_addLeast 103 = .ok (.getfield 32, 3) := by decide +kernel
theorem dX0_addLeast_106 : decode cX0_addLeast 106 = .ok (.iload_n 2, 1) := by decide +kernel
theorem dX0_addLeast_107 : decode cX0_addLeast 107 = .ok (.iload_n 1, 1) := by decide +kernel
theorem dX0_addLeast_108 : decode cX0_addLeast 108 = .ok (.iastore, 1) := by decide +kernel
theorem dX0_addLeast_109 : decode cX0_addLeast 109 = .ok (.return_, 1) := by decide +kernel
set_option maxRecDepth 20000 in
theorem bk_X0_addLeast_0 {d : Nat} {w : hb_W} {Q : Option hb_V → hb_W → Prop} {g0 : Nat} {x1 : Int32} (hg0 : g0 < hb_ct 9) (h : hb_R yX0_addLeast cX0_addLeast 4 none (d + 1) 2 [some (hb_r 9 g0 0), some (hb_i x1), some (hb_i (0 : Int32)), none] [] w Q) : hb_R yX0_addLeast cX0_addLeast 4 none (d + 1) 0 [some (hb_r 9 g0 0), some (hb_i x1), none, none] [] w Q := by
  refine hb_iconst (pc := 0) (v := 0) dX0_addLeast_0 (by decide) ?_
  refine hb_istore_n (pc := 1) (i := 2) (ls1 := [some (hb_r 9 g0 0), some (hb_i x1), some (hb_i (0 : Int32)), none]) dX0_addLeast_1 rfl (by decide) rfl ?_
  exact h
set_option maxRecDepth 20000 in
theorem bk_X0_addLeast_2 {d : Nat} {w : hb_W} {Q : Option hb_V → hb_W → Prop} {g0 : Nat} {x1 : Int32} {x2 : Int32} (hg0 : g0 < hb_ct 9) (h : (((hb_fI w 9 8 g0) ≤ x2) → (((hb_fI w 9 0 g0) ≤ x2) → Q none w) ∧ ((¬ (hb_fI w 9 0 g0) ≤ x2) → (((hb_fI w 9 8 g0) ≤ x2) → hb_R yX0_addLeast cX0_addLeast 4 none (d + 1) 77 [some (hb_r 9 g0 0), some (hb_i x1), some (hb_i x2), some (hb_i ((if ((hb_fI w 9 8 g0) + (1 : Int32)) < (hb_fI w 9 0 g0) then ((hb_fI w 9 8 g0) + (1 : Int32)) else (hb_fI w 9 0 g0)) - (1 : Int32)))] [] (hb_pI w 9 8 g0 (if ((hb_fI w 9 8 g0) + (1 : Int32)) < (hb_fI w 9 0 g0) then ((hb_fI w 9 8 g0) + (1 : Int32)) else (hb_fI w 9 0 g0))) Q) ∧ ((¬ (hb_fI w 9 8 g0) ≤ x2) → vp_in x2 9 ∧ (((¬ (hb_aI w 9 4 g0 x2.toNatClampNeg) = x1) → hb_R yX0_addLeast cX0_addLeast 4 none (d + 1) 77 [some (hb_r 9 g0 0), some (hb_i x1), some (hb_i x2), some (hb_i ((if ((hb_fI w 9 8 g0) + (1 : Int32)) < (hb_fI w 9 0 g0) then ((hb_fI w 9 8 g0) + (1 : Int32)) else (hb_fI w 9 0 g0)) - (1 : Int32)))] [] (hb_pI w 9 8 g0 (if ((hb_fI w 9 8 g0) + (1 : Int32)) < (hb_fI w 9 0 g0) then ((hb_fI w 9 8 g0) + (1 : Int32)) else (hb_fI w 9 0 g0))) Q) ∧ (((hb_aI w 9 4 g0 x2.toNatClampNeg) = x1) → Q none w))))) ∧ ((¬ (hb_fI w 9 8 g0) ≤ x2) → vp_in x2 9 ∧ (((x1 ≤ (hb_aI w 9 4 g0 x2.toNatClampNeg)) → (((hb_fI w 9 0 g0) ≤ x2) → Q none w) ∧ ((¬ (hb_fI w 9 0 g0) ≤ x2) → (((hb_fI w 9 8 g0) ≤ x2) → hb_R yX0_addLeast cX0_addLeast 4 none (d + 1) 77 [some (hb_r 9 g0 0), some (hb_i x1), some (hb_i x2), some (hb_i ((if ((hb_fI w 9 8 g0) + (1 : Int32)) < (hb_fI w 9 0 g0) then ((hb_fI w 9 8 g0) + (1 : Int32)) else (hb_fI w 9 0 g0)) - (1 : Int32)))] [] (hb_pI w 9 8 g0 (if ((hb_fI w 9 8 g0) + (1 : Int32)) < (hb_fI w 9 0 g0) then ((hb_fI w 9 8 g0) + (1 : Int32)) else (hb_fI w 9 0 g0))) Q) ∧ ((¬ (hb_fI w 9 8 g0) ≤ x2) → vp_in x2 9 ∧ (((¬ (hb_aI w 9 4 g0 x2.toNatClampNeg) = x1) → hb_R yX0_addLeast cX0_addLeast 4 none (d + 1) 77 [some (hb_r 9 g0 0), some (hb_i x1), some (hb_i x2), some (hb_i ((if ((hb_fI w 9 8 g0) + (1 : Int32)) < (hb_fI w 9 0 g0) then ((hb_fI w 9 8 g0) + (1 : Int32)) else (hb_fI w 9 0 g0)) - (1 : Int32)))] [] (hb_pI w 9 8 g0 (if ((hb_fI w 9 8 g0) + (1 : Int32)) < (hb_fI w 9 0 g0) then ((hb_fI w 9 8 g0) + (1 : Int32)) else (hb_fI w 9 0 g0))) Q) ∧ (((hb_aI w 9 4 g0 x2.toNatClampNeg) = x1) → Q none w))))) ∧ ((¬ x1 ≤ (hb_aI w 9 4 g0 x2.toNatClampNeg)) → hb_R yX0_addLeast cX0_addLeast 4 none (d + 1) 2 [some (hb_r 9 g0 0), some (hb_i x1), some (hb_i (x2 + (1 : Int32))), none] [] w Q)))) : hb_R yX0_addLeast cX0_addLeast 4 none (d + 1) 2 [some (hb_r 9 g0 0), some (hb_i x1), some (hb_i x2), none] [] w Q := by
  refine hb_iload_n (pc := 2) (i := 2) dX0_addLeast_2 rfl rfl ?_
  refine hb_aload_n (pc := 3) (i := 0) dX0_addLeast_3 rfl rfl ?_
  refine hb_getIx (pc := 4) (x := hb_fI w 9 8 g0) dX0_addLeast_4 fw_X0_80 cw_0 rfl hg0 rfl rfl ?_
  refine hb_icmp_ge (pc := 7) (tgt := 26) dX0_addLeast_7 (by decide) (fun c1 => ?_) (fun c1 => ?_)
  · have ht1 := h.1 c1
    refine hb_iload_n (pc := 26) (i := 2) dX0_addLeast_26 rfl rfl ?_
    refine hb_aload_n (pc := 27) (i := 0) dX0_addLeast_27 rfl rfl ?_
    refine hb_getIx (pc := 28) (x := hb_fI w 9 0 g0) dX0_addLeast_28 fw_X0_9 cw_0 rfl hg0 rfl rfl ?_
    refine hb_icmp_ge (pc := 31) (tgt := 52) dX0_addLeast_31 (by decide) (fun c2 => ?_) (fun c2 => ?_)
    · have ht2 := ht1.1 c2
      exact hb_vret (pc := 52) dX0_addLeast_52 rfl ht2
    · have ht2 := ht1.2 c2
      refine hb_iload_n (pc := 34) (i := 2) dX0_addLeast_34 rfl rfl ?_
      refine hb_aload_n (pc := 35) (i := 0) dX0_addLeast_35 rfl rfl ?_
      refine hb_getIx (pc := 36) (x := hb_fI w 9 8 g0) dX0_addLeast_36 fw_X0_80 cw_0 rfl hg0 rfl rfl ?_
      refine hb_icmp_ge (pc := 39) (tgt := 53) dX0_addLeast_39 (by decide) (fun c3 => ?_) (fun c3 => ?_)
      · have ht3 := ht2.1 c3
        refine hb_aload_n (pc := 53) (i := 0) dX0_addLeast_53 rfl rfl ?_
        refine hb_aload_n (pc := 54) (i := 0) dX0_addLeast_54 rfl rfl ?_
        refine hb_getIx (pc := 55) (x := hb_fI w 9 0 g0) dX0_addLeast_55 fw_X0_9 cw_0 rfl hg0 rfl rfl ?_
        refine hb_aload_n (pc := 58) (i := 0) dX0_addLeast_58 rfl rfl ?_
        refine hb_getIx (pc := 59) (x := hb_fI w 9 8 g0) dX0_addLeast_59 fw_X0_80 cw_0 rfl hg0 rfl rfl ?_
        refine hb_iconst (pc := 62) (v := 1) dX0_addLeast_62 (by decide) ?_
        refine hb_iadd (pc := 63) dX0_addLeast_63 ?_
        refine hb_mmin (pc := 64) dX0_addLeast_64 ml_X0_56 (Nat.le_of_ble_eq_true rfl) ?_
        refine hb_putI (pc := 67) dX0_addLeast_67 fw_X0_80 cw_0 pw_0_8 rfl hg0 rfl rfl rfl ?_
        refine hb_aload_n (pc := 70) (i := 0) dX0_addLeast_70 rfl rfl ?_
        refine hb_getIx (pc := 71) (x := if ((hb_fI w 9 8 g0) + (1 : Int32)) < (hb_fI w 9 0 g0) then ((hb_fI w 9 8 g0) + (1 : Int32)) else (hb_fI w 9 0 g0)) dX0_addLeast_71 fw_X0_80 cw_0 rfl hg0 rfl (by simp [hb_fI, hb_fL, hb_fR, hb_aI, hb_aL, hb_pI, hb_pL, hb_pR, hb_sI, hb_sL, hb_u3]) ?_
        refine hb_iconst (pc := 74) (v := 1) dX0_addLeast_74 (by decide) ?_
        refine hb_isub (pc := 75) dX0_addLeast_75 ?_
        refine hb_istore_n (pc := 76) (i := 3) (ls1 := [some (hb_r 9 g0 0), some (hb_i x1), some (hb_i x2), some (hb_i ((if ((hb_fI w 9 8 g0) + (1 : Int32)) < (hb_fI w 9 0 g0) then ((hb_fI w 9 8 g0) + (1 : Int32)) else (hb_fI w 9 0 g0)) - (1 : Int32)))]) dX0_addLeast_76 rfl (by decide) rfl ?_
        exact ht3
      · have ht3 := ht2.2 c3
        refine hb_aload_n (pc := 42) (i := 0) dX0_addLeast_42 rfl rfl ?_
        refine hb_getR (pc := 43) (g1 := g0) dX0_addLeast_43 fw_X0_32 cw_0 rfl hg0 rfl (by decide) rfl ?_
        refine hb_iload_n (pc := 46) (i := 2) dX0_addLeast_46 rfl rfl ?_
        obtain ⟨ho4, hr4⟩ := ht3
        refine hb_ialdx (pc := 47) (x := hb_aI w 9 4 g0 x2.toNatClampNeg) dX0_addLeast_47 rfl hg0 ho4 rfl ?_
        refine hb_iload_n (pc := 48) (i := 1) dX0_addLeast_48 rfl rfl ?_
        refine hb_icmp_ne (pc := 49) (tgt := 53) dX0_addLeast_49 (by decide) (fun c5 => ?_) (fun c5 => ?_)
        · have ht5 := hr4.1 c5
          refine hb_aload_n (pc := 53) (i := 0) dX0_addLeast_53 rfl rfl ?_
          refine hb_aload_n (pc := 54) (i := 0) dX0_addLeast_54 rfl rfl ?_
          refine hb_getIx (pc := 55) (x := hb_fI w 9 0 g0) dX0_addLeast_55 fw_X0_9 cw_0 rfl hg0 rfl rfl ?_
          refine hb_aload_n (pc := 58) (i := 0) dX0_addLeast_58 rfl rfl ?_
          refine hb_getIx (pc := 59) (x := hb_fI w 9 8 g0) dX0_addLeast_59 fw_X0_80 cw_0 rfl hg0 rfl rfl ?_
          refine hb_iconst (pc := 62) (v := 1) dX0_addLeast_62 (by decide) ?_
          refine hb_iadd (pc := 63) dX0_addLeast_63 ?_
          refine hb_mmin (pc := 64) dX0_addLeast_64 ml_X0_56 (Nat.le_of_ble_eq_true rfl) ?_
          refine hb_putI (pc := 67) dX0_addLeast_67 fw_X0_80 cw_0 pw_0_8 rfl hg0 rfl rfl rfl ?_
          refine hb_aload_n (pc := 70) (i := 0) dX0_addLeast_70 rfl rfl ?_
          refine hb_getIx (pc := 71) (x := if ((hb_fI w 9 8 g0) + (1 : Int32)) < (hb_fI w 9 0 g0) then ((hb_fI w 9 8 g0) + (1 : Int32)) else (hb_fI w 9 0 g0)) dX0_addLeast_71 fw_X0_80 cw_0 rfl hg0 rfl (by simp [hb_fI, hb_fL, hb_fR, hb_aI, hb_aL, hb_pI, hb_pL, hb_pR, hb_sI, hb_sL, hb_u3]) ?_
          refine hb_iconst (pc := 74) (v := 1) dX0_addLeast_74 (by decide) ?_
          refine hb_isub (pc := 75) dX0_addLeast_75 ?_
          refine hb_istore_n (pc := 76) (i := 3) (ls1 := [some (hb_r 9 g0 0), some (hb_i x1), some (hb_i x2), some (hb_i ((if ((hb_fI w 9 8 g0) + (1 : Int32)) < (hb_fI w 9 0 g0) then ((hb_fI w 9 8 g0) + (1 : Int32)) else (hb_fI w 9 0 g0)) - (1 : Int32)))]) dX0_addLeast_76 rfl (by decide) rfl ?_
          exact ht5
        · have ht5 := hr4.2 c5
          exact hb_vret (pc := 52) dX0_addLeast_52 rfl ht5
  · have ht1 := h.2 c1
    refine hb_aload_n (pc := 10) (i := 0) dX0_addLeast_10 rfl rfl ?_
    refine hb_getR (pc := 11) (g1 := g0) dX0_addLeast_11 fw_X0_32 cw_0 rfl hg0 rfl (by decide) rfl ?_
    refine hb_iload_n (pc := 14) (i := 2) dX0_addLeast_14 rfl rfl ?_
    obtain ⟨ho6, hr6⟩ := ht1
    refine hb_ialdx (pc := 15) (x := hb_aI w 9 4 g0 x2.toNatClampNeg) dX0_addLeast_15 rfl hg0 ho6 rfl ?_
    refine hb_iload_n (pc := 16) (i := 1) dX0_addLeast_16 rfl rfl ?_
    refine hb_icmp_ge (pc := 17) (tgt := 26) dX0_addLeast_17 (by decide) (fun c7 => ?_) (fun c7 => ?_)
    · have ht7 := hr6.1 c7
      refine hb_iload_n (pc := 26) (i := 2) dX0_addLeast_26 rfl rfl ?_
      refine hb_aload_n (pc := 27) (i := 0) dX0_addLeast_27 rfl rfl ?_
      refine hb_getIx (pc := 28) (x := hb_fI w 9 0 g0) dX0_addLeast_28 fw_X0_9 cw_0 rfl hg0 rfl rfl ?_
      refine hb_icmp_ge (pc := 31) (tgt := 52) dX0_addLeast_31 (by decide) (fun c8 => ?_) (fun c8 => ?_)
      · have ht8 := ht7.1 c8
        exact hb_vret (pc := 52) dX0_addLeast_52 rfl ht8
      · have ht8 := ht7.2 c8
        refine hb_iload_n (pc := 34) (i := 2) dX0_addLeast_34 rfl rfl ?_
        refine hb_aload_n (pc := 35) (i := 0) dX0_addLeast_35 rfl rfl ?_
        refine hb_getIx (pc := 36) (x := hb_fI w 9 8 g0) dX0_addLeast_36 fw_X0_80 cw_0 rfl hg0 rfl rfl ?_
        refine hb_icmp_ge (pc := 39) (tgt := 53) dX0_addLeast_39 (by decide) (fun c9 => ?_) (fun c9 => ?_)
        · have ht9 := ht8.1 c9
          refine hb_aload_n (pc := 53) (i := 0) dX0_addLeast_53 rfl rfl ?_
          refine hb_aload_n (pc := 54) (i := 0) dX0_addLeast_54 rfl rfl ?_
          refine hb_getIx (pc := 55) (x := hb_fI w 9 0 g0) dX0_addLeast_55 fw_X0_9 cw_0 rfl hg0 rfl rfl ?_
          refine hb_aload_n (pc := 58) (i := 0) dX0_addLeast_58 rfl rfl ?_
          refine hb_getIx (pc := 59) (x := hb_fI w 9 8 g0) dX0_addLeast_59 fw_X0_80 cw_0 rfl hg0 rfl rfl ?_
          refine hb_iconst (pc := 62) (v := 1) dX0_addLeast_62 (by decide) ?_
          refine hb_iadd (pc := 63) dX0_addLeast_63 ?_
          refine hb_mmin (pc := 64) dX0_addLeast_64 ml_X0_56 (Nat.le_of_ble_eq_true rfl) ?_
          refine hb_putI (pc := 67) dX0_addLeast_67 fw_X0_80 cw_0 pw_0_8 rfl hg0 rfl rfl rfl ?_
          refine hb_aload_n (pc := 70) (i := 0) dX0_addLeast_70 rfl rfl ?_
          refine hb_getIx (pc := 71) (x := if ((hb_fI w 9 8 g0) + (1 : Int32)) < (hb_fI w 9 0 g0) then ((hb_fI w 9 8 g0) + (1 : Int32)) else (hb_fI w 9 0 g0)) dX0_addLeast_71 fw_X0_80 cw_0 rfl hg0 rfl (by simp [hb_fI, hb_fL, hb_fR, hb_aI, hb_aL, hb_pI, hb_pL, hb_pR, hb_sI, hb_sL, hb_u3]) ?_
          refine hb_iconst (pc := 74) (v := 1) dX0_addLeast_74 (by decide) ?_
          refine hb_isub (pc := 75) dX0_addLeast_75 ?_
          refine hb_istore_n (pc := 76) (i := 3) (ls1 := [some (hb_r 9 g0 0), some (hb_i x1), some (hb_i x2), some (hb_i ((if ((hb_fI w 9 8 g0) + (1 : Int32)) < (hb_fI w 9 0 g0) then ((hb_fI w 9 8 g0) + (1 : Int32)) else (hb_fI w 9 0 g0)) - (1 : Int32)))]) dX0_addLeast_76 rfl (by decide) rfl ?_
          exact ht9
        · have ht9 := ht8.2 c9
          refine hb_aload_n (pc := 42) (i := 0) dX0_addLeast_42 rfl rfl ?_
          refine hb_getR (pc := 43) (g1 := g0) dX0_addLeast_43 fw_X0_32 cw_0 rfl hg0 rfl (by decide) rfl ?_
          refine hb_iload_n (pc := 46) (i := 2) dX0_addLeast_46 rfl rfl ?_
          obtain ⟨ho10, hr10⟩ := ht9
          refine hb_ialdx (pc := 47) (x := hb_aI w 9 4 g0 x2.toNatClampNeg) dX0_addLeast_47 rfl hg0 ho10 rfl ?_
          refine hb_iload_n (pc := 48) (i := 1) dX0_addLeast_48 rfl rfl ?_
          refine hb_icmp_ne (pc := 49) (tgt := 53) dX0_addLeast_49 (by decide) (fun c11 => ?_) (fun c11 => ?_)
          · have ht11 := hr10.1 c11
            refine hb_aload_n (pc := 53) (i := 0) dX0_addLeast_53 rfl rfl ?_
            refine hb_aload_n (pc := 54) (i := 0) dX0_addLeast_54 rfl rfl ?_
            refine hb_getIx (pc := 55) (x := hb_fI w 9 0 g0) dX0_addLeast_55 fw_X0_9 cw_0 rfl hg0 rfl rfl ?_
            refine hb_aload_n (pc := 58) (i := 0) dX0_addLeast_58 rfl rfl ?_
            refine hb_getIx (pc := 59) (x := hb_fI w 9 8 g0) dX0_addLeast_59 fw_X0_80 cw_0 rfl hg0 rfl rfl ?_
            refine hb_iconst (pc := 62) (v := 1) dX0_addLeast_62 (by decide) ?_
            refine hb_iadd (pc := 63) dX0_addLeast_63 ?_
            refine hb_mmin (pc := 64) dX0_addLeast_64 ml_X0_56 (Nat.le_of_ble_eq_true rfl) ?_
            refine hb_putI (pc := 67) dX0_addLeast_67 fw_X0_80 cw_0 pw_0_8 rfl hg0 rfl rfl rfl ?_
            refine hb_aload_n (pc := 70) (i := 0) dX0_addLeast_70 rfl rfl ?_
            refine hb_getIx (pc := 71) (x := if ((hb_fI w 9 8 g0) + (1 : Int32)) < (hb_fI w 9 0 g0) then ((hb_fI w 9 8 g0) + (1 : Int32)) else (hb_fI w 9 0 g0)) dX0_addLeast_71 fw_X0_80 cw_0 rfl hg0 rfl (by simp [hb_fI, hb_fL, hb_fR, hb_aI, hb_aL, hb_pI, hb_pL, hb_pR, hb_sI, hb_sL, hb_u3]) ?_
            refine hb_iconst (pc := 74) (v := 1) dX0_addLeast_74 (by decide) ?_
            refine hb_isub (pc := 75) dX0_addLeast_75 ?_
            refine hb_istore_n (pc := 76) (i := 3) (ls1 := [some (hb_r 9 g0 0), some (hb_i x1), some (hb_i x2), some (hb_i ((if ((hb_fI w 9 8 g0) + (1 : Int32)) < (hb_fI w 9 0 g0) then ((hb_fI w 9 8 g0) + (1 : Int32)) else (hb_fI w 9 0 g0)) - (1 : Int32)))]) dX0_addLeast_76 rfl (by decide) rfl ?_
            exact ht11
          · have ht11 := hr10.2 c11
            exact hb_vret (pc := 52) dX0_addLeast_52 rfl ht11
    · have ht7 := hr6.2 c7
      refine hb_iinc (pc := 20) (v := x2 + (1 : Int32)) (ls1 := [some (hb_r 9 g0 0), some (hb_i x1), some (hb_i (x2 + (1 : Int32))), none]) dX0_addLeast_20 rfl rfl (by decide) rfl ?_
      refine hb_goto (pc := 23) (tgt := 2) dX0_addLeast_23 (by decide) ?_
      exact ht7
set_option maxRecDepth 20000 in
theorem bk_X0_addLeast_77 {d : Nat} {w : hb_W} {Q : Option hb_V → hb_W → Prop} {g0 : Nat} {x1 : Int32} {x2 : Int32} {x3 : Int32} (hg0 : g0 < hb_ct 9) (h : ((x3 ≤ x2) → vp_in x2 9 ∧ (Q none (hb_sI w 9 4 g0 (upd (hb_aI w 9 4 g0) x2.toNatClampNeg x1)))) ∧ ((¬ x3 ≤ x2) → vp_in (x3 - (1 : Int32)) 9 ∧ (vp_in x3 9 ∧ (hb_R yX0_addLeast cX0_addLeast 4 none (d + 1) 77 [some (hb_r 9 g0 0), some (hb_i x1), some (hb_i x2), some (hb_i (x3 + (-1 : Int32)))] [] (hb_sI w 9 4 g0 (upd (hb_aI w 9 4 g0) x3.toNatClampNeg (hb_aI w 9 4 g0 (x3 - (1 : Int32)).toNatClampNeg))) Q)))) : hb_R yX0_addLeast cX0_addLeast 4 none (d + 1) 77 [some (hb_r 9 g0 0), some (hb_i x1), some (hb_i x2), some (hb_i x3)] [] w Q := by
  refine hb_iload_n (pc := 77) (i := 3) dX0_addLeast_77 rfl rfl ?_
  refine hb_iload_n (pc := 78) (i := 2) dX0_addLeast_78 rfl rfl ?_
  refine hb_icmp_le (pc := 79) (tgt := 102) dX0_addLeast_79 (by decide) (fun c1 => ?_) (fun c1 => ?_)
  · have ht1 := h.1 c1
    refine hb_aload_n (pc := 102) (i := 0) dX0_addLeast_102 rfl rfl ?_
    refine hb_getR (pc := 103) (g1 := g0) dX0_addLeast_103 fw_X0_32 cw_0 rfl hg0 rfl (by decide) rfl ?_
    refine hb_iload_n (pc := 106) (i := 2) dX0_addLeast_106 rfl rfl ?_
    refine hb_iload_n (pc := 107) (i := 1) dX0_addLeast_107 rfl rfl ?_
    obtain ⟨ho2, hr2⟩ := ht1
    refine hb_iastx (pc := 108) (f := upd (hb_aI w 9 4 g0) x2.toNatClampNeg x1) dX0_addLeast_108 rfl hg0 ho2 rfl ?_
    exact hb_vret (pc := 109) dX0_addLeast_109 rfl hr2
  · have ht1 := h.2 c1
    refine hb_aload_n (pc := 82) (i := 0) dX0_addLeast_82 rfl rfl ?_
    refine hb_getR (pc := 83) (g1 := g0) dX0_addLeast_83 fw_X0_32 cw_0 rfl hg0 rfl (by decide) rfl ?_
    refine hb_iload_n (pc := 86) (i := 3) dX0_addLeast_86 rfl rfl ?_
    refine hb_aload_n (pc := 87) (i := 0) dX0_addLeast_87 rfl rfl ?_
    refine hb_getR (pc := 88) (g1 := g0) dX0_addLeast_88 fw_X0_32 cw_0 rfl hg0 rfl (by decide) rfl ?_
    refine hb_iload_n (pc := 91) (i := 3) dX0_addLeast_91 rfl rfl ?_
    refine hb_iconst (pc := 92) (v := 1) dX0_addLeast_92 (by decide) ?_
    refine hb_isub (pc := 93) dX0_addLeast_93 ?_
    obtain ⟨ho3, hr3⟩ := ht1
    refine hb_ialdx (pc := 94) (x := hb_aI w 9 4 g0 (x3 - (1 : Int32)).toNatClampNeg) dX0_addLeast_94 rfl hg0 ho3 rfl ?_
    obtain ⟨ho4, hr4⟩ := hr3
    refine hb_iastx (pc := 95) (f := upd (hb_aI w 9 4 g0) x3.toNatClampNeg (hb_aI w 9 4 g0 (x3 - (1 : Int32)).toNatClampNeg)) dX0_addLeast_95 rfl hg0 ho4 rfl ?_
    refine hb_iinc (pc := 96) (v := x3 + (-1 : Int32)) (ls1 := [some (hb_r 9 g0 0), some (hb_i x1), some (hb_i x2), some (hb_i (x3 + (-1 : Int32)))]) dX0_addLeast_96 rfl rfl (by decide) rfl ?_
    refine hb_goto (pc := 99) (tgt := 77) dX0_addLeast_99 (by decide) ?_
    exact hr4
theorem dX0_addOften_0 : decode cX0_addOften 0 = .ok (.aload_n 0, 1) := by decide +kernel
theorem dX0_addOften_1 : decode cX0_addOften 1 = .ok (.iload_n 1, 1) := by decide +kernel
theorem dX0_addOften_2 : decode cX0_addOften 2 = .ok (.invokevirtual 119, 3) := by decide +kernel
theorem dX0_addOften_5 : decode cX0_addOften 5 = .ok (.istore_n 2, 1) := by decide +kernel
theorem dX0_addOften_6 : decode cX0_addOften 6 = .ok (.iload_n 2, 1) := by decide +kernel
theorem dX0_addOften_7 : decode cX0_addOften 7 = .ok (.iconst (-1), 1) := by decide +kernel
theorem dX0_addOften_8 : decode cX0_addOften 8 = .ok (.if_icmp .eq 14, 3) := by decide +kernel
theorem dX0_addOften_11 : decode cX0_addOften 11 = .ok (.aload_n 0, 1) := by decide +kernel
theorem dX0_addOften_12 : decode cX0_addOften 12 = .ok (.getfield 38, 3) := by decide +kernel
theorem dX0_addOften_15 : decode cX0_addOften 15 = .ok (.iload_n 2, 1) := by decide +kernel
theorem dX0_addOften_16 : decode cX0_addOften 16 = .ok (.dup2, 1) := by decide +kernel
theorem dX0_addOften_17 : decode cX0_addOften 17 = .ok (.iaload, 1) := by decide +kernel
theorem dX0_addOften_18 : decode cX0_addOften 18 = .ok (.iconst 1, 1) := by decide +kernel
theorem dX0_addOften_19 : decode cX0_addOften 19 = .ok (.iadd, 1) := by decide +kernel
theorem dX0_addOften_20 : decode cX0_addOften 20 = .ok (.iastore, 1) := by decide +kernel
theorem dX0_addOften_21 : decode cX0_addOften 21 = .ok (.return_, 1) := by decide +kernel
theorem dX0_addOften_22 : decode cX0_addOften 22 = .ok (.iconst 0, 1) := by decide +kernel
theorem dX0_addOften_23 : decode cX0_addOften 23 = .ok (.istore_n 3, 1) := by decide +kernel
theorem dX0_addOften_24 : decode cX0_addOften 24 = .ok (.iload_n 3, 1) := by decide +kernel
theorem dX0_addOften_25 : decode cX0_addOften 25 = .ok (.aload_n 0, 1) := by decide +kernel
theorem dX0_addOften_26 : decode cX0_addOften 26 = .ok (.getfield 9, 3) := by decide +kernel
theorem dX0_addOften_29 : decode cX0_addOften 29 = .ok (.if_icmp .ge 33, 3) := by decide +kernel
theorem dX0_addOften_32 : decode cX0_addOften 32 = .ok (.aload_n 0, 1) := by decide +kernel
theorem dX0_addOften_33 : decode cX0_addOften 33 = .ok (.getfield 38, 3) := by decide +kernel
theorem dX0_addOften_36 : decode cX0_addOften 36 = .ok (.iload_n 3, 1) := by decide +kernel
theorem dX0_addOften_37 : decode cX0_addOften 37 = .ok (.iaload, 1) := by decide +kernel
theorem dX0_addOften_38 : decode cX0_addOften 38 = .ok (.ifCond .ne 18, 3) := by decide +kernel
theorem dX0_addOften_41 : decode cX0_addOften 41 = .ok (.aload_n 0, 1) := by decide +kernel
theorem dX0_addOften_42 : decode cX0_addOften 42 = .ok (.getfield 35, 3) := by decide +kernel
theorem dX0_addOften_45 : decode cX0_addOften 45 = .ok (.iload_n 3, 1) := by decide +kernel
theorem dX0_addOften_46 : decode cX0_addOften 46 = .ok (.iload_n 1, 1) := by decide +kernel
theorem dX0_addOften_47 : decode cX0_addOften 47 = .ok (.iastore, 1) := by decide +kernel
theorem dX0_addOften_48 : decode cX0_addOften 48 = .ok (.aload_n 0, 1) := by decide +kernel
theorem dX0_addOften_49 : decode cX0_addOften 49 = .ok (.getfield 38, 3) := by decide +kernel
theorem dX0_addOften_52 : decode cX0_addOften 52 = .ok (.iload_n 3, 1) := by decide +kernel
theorem dX0_addOften_53 : decode cX0_addOften 53 = .ok (.iconst 1, 1) := by decide +kernel
theorem dX0_addOften_54 : decode cX0_addOften 54 = .ok (.iastore, 1) := by decide +kernel
theorem dX0_addOften_55 : decode cX0_addOften 55 = .ok (.return_, 1) := by decide +kernel
theorem dX0_addOften_56 : decode cX0_addOften 56 = .ok (.iinc 3 1, 3) := by decide +kernel
theorem dX0_addOften_59 : decode cX0_addOften 59 = .ok (.goto (-35), 3) := by decide +kernel
theorem dX0_addOften_62 : decode cX0_addOften 62 = .ok (.iconst 0, 1) := by decide +kernel
theorem dX0_addOften_63 : decode cX0_addOften 63 = .ok (.istore_n 3, 1) := by decide +kernel
theorem dX0_addOften_64 : decode cX0_addOften 64 = .ok (.iload_n 3, 1) := by decide +kernel
theorem dX0_addOften_65 : decode cX0_addOften 65 = .ok (.aload_n 0, 1) := by decide +kernel
theorem dX0_addOften_66 : decode cX0_addOften 66 = .ok (.getfield 9, 3) := by decide +kernel
theorem dX0_addOften_69 : decode cX0_addOften 69 = .ok (.if_icmp .ge 19, 3) := by decide +kernel
theorem dX0_addOften_72 : decode cX0_addOften 72 = .ok (.aload_n 0, 1) := by decide +kernel
theorem dX0_addOften_73 : decode cX0_addOften 73 = .ok (.getfield 38, 3) := by decide +kernel
theorem dX0_addOften_76 : decode cX0_addOften 76 = .ok (.iload_n 3, 1) := by decide +kernel
theorem dX0_addOften_77 : decode cX0_addOften 77 = .ok (.dup2, 1) := by decide +kernel
theorem dX0_addOften_78 : decode cX0_addOften 78 = .ok (.iaload, 1) := by decide +kernel
theorem dX0_addOften_79 : decode cX0_addOften 79 = .ok (.iconst 1, 1) := by decide +kernel
theorem dX0_addOften_80 : decode cX0_addOften 80 = .ok (.isub, 1) := by decide +kernel
theorem dX0_addOften_81 : decode cX0_addOften 81 = .ok (.iastore, 1) := by decide +kernel
theorem dX0_addOften_82 : decode cX0_addOften 82 = .ok (.iinc 3 1, 3) := by decide +kernel
theorem dX0_addOften_85 : decode cX0_addOften 85 = .ok (.goto (-21), 3) := by decide +kernel
theorem dX0_addOften_88 : decode cX0_addOften 88 = .ok (.return_, 1) := by decide +kernel
set_option maxRecDepth 20000 in
theorem bk_X0_addOften_0 {d : Nat} {w : hb_W} {Q : Option hb_V → hb_W → Prop} {g0 : Nat} {x1 : Int32} (hg0 : g0 < hb_ct 9) (h : hb_O yX0_oftenPlace cX0_oftenPlace 3 (some .int) d [hb_r 9 g0 0, hb_i x1] w (fun rv w1 => hb_R yX0_addOften cX0_addOften 4 none (d + 1) 5 [some (hb_r 9 g0 0), some (hb_i x1), none, none] (rv.toList ++ []) w1 Q)) : hb_R yX0_addOften cX0_addOften 4 none (d + 1) 0 [some (hb_r 9 g0 0), some (hb_i x1), none, none] [] w Q := by
  refine hb_aload_n (pc := 0) (i := 0) dX0_addOften_0 rfl rfl ?_
  refine hb_iload_n (pc := 1) (i := 1) dX0_addOften_1 rfl rfl ?_
  exact hb_callV (pc := 2) (As := [hb_i x1]) (st := []) dX0_addOften_2 ml_X0_119 mf_X0_oftenPlace mi_X0_oftenPlace (ci := 0) rfl rfl hg0 rfl rfl (Nat.le_of_ble_eq_true rfl) (Nat.le_of_ble_eq_true rfl) h (fun _ _ q => q)
set_option maxRecDepth 20000 in
theorem bk_X0_addOften_5 {d : Nat} {w : hb_W} {Q : Option hb_V → hb_W → Prop} {g0 : Nat} {x1 : Int32} {xs0 : Int32} (hg0 : g0 < hb_ct 9) (h : ((xs0 = (-1 : Int32)) → hb_R yX0_addOften cX0_addOften 4 none (d + 1) 24 [some (hb_r 9 g0 0), some (hb_i x1), some (hb_i xs0), some (hb_i (0 : Int32))] [] w Q) ∧ ((¬ xs0 = (-1 : Int32)) → vp_in xs0 9 ∧ (vp_in xs0 9 ∧ (Q none (hb_sI w 9 6 g0 (upd (hb_aI w 9 6 g0) xs0.toNatClampNeg ((hb_aI w 9 6 g0 xs0.toNatClampNeg) + (1 : Int32)))))))) : hb_R yX0_addOften cX0_addOften 4 none (d + 1) 5 [some (hb_r 9 g0 0), some (hb_i x1), none, none] [hb_i xs0] w Q := by
  refine hb_istore_n (pc := 5) (i := 2) (ls1 := [some (hb_r 9 g0 0), some (hb_i x1), some (hb_i xs0), none]) dX0_addOften_5 rfl (by decide) rfl ?_
  refine hb_iload_n (pc := 6) (i := 2) dX0_addOften_6 rfl rfl ?_
  refine hb_iconst (pc := 7) (v := -1) dX0_addOften_7 (by decide) ?_
  refine hb_icmp_eq (pc := 8) (tgt := 22) dX0_addOften_8 (by decide) (fun c1 => ?_) (fun c1 => ?_)
  · have ht1 := h.1 c1
    refine hb_iconst (pc := 22) (v := 0) dX0_addOften_22 (by decide) ?_
    refine hb_istore_n (pc := 23) (i := 3) (ls1 := [some (hb_r 9 g0 0), some (hb_i x1), some (hb_i xs0), some (hb_i (0 : Int32))]) dX0_addOften_23 rfl (by decide) rfl ?_
    exact ht1
  · have ht1 := h.2 c1
    refine hb_aload_n (pc := 11) (i := 0) dX0_addOften_11 rfl rfl ?_
    refine hb_getR (pc := 12) (g1 := g0) dX0_addOften_12 fw_X0_38 cw_0 rfl hg0 rfl (by decide) rfl ?_
    refine hb_iload_n (pc := 15) (i := 2) dX0_addOften_15 rfl rfl ?_
    refine hb_dup2ir (pc := 16) dX0_addOften_16 ?_
    obtain ⟨ho2, hr2⟩ := ht1
    refine hb_ialdx (pc := 17) (x := hb_aI w 9 6 g0 xs0.toNatClampNeg) dX0_addOften_17 rfl hg0 ho2 rfl ?_
    refine hb_iconst (pc := 18) (v := 1) dX0_addOften_18 (by decide) ?_
    refine hb_iadd (pc := 19) dX0_addOften_19 ?_
    obtain ⟨ho3, hr3⟩ := hr2
    refine hb_iastx (pc := 20) (f := upd (hb_aI w 9 6 g0) xs0.toNatClampNeg ((hb_aI w 9 6 g0 xs0.toNatClampNeg) + (1 : Int32))) dX0_addOften_20 rfl hg0 ho3 rfl ?_
    exact hb_vret (pc := 21) dX0_addOften_21 rfl hr3
set_option maxRecDepth 20000 in
theorem bk_X0_addOften_24 {d : Nat} {w : hb_W} {Q : Option hb_V → hb_W → Prop} {g0 : Nat} {x1 : Int32} {x2 : Int32} {x3 : Int32} (hg0 : g0 < hb_ct 9) (h : (((hb_fI w 9 0 g0) ≤ x3) → hb_R yX0_addOften cX0_addOften 4 none (d + 1) 64 [some (hb_r 9 g0 0), some (hb_i x1), some (hb_i x2), some (hb_i (0 : Int32))] [] w Q) ∧ ((¬ (hb_fI w 9 0 g0) ≤ x3) → vp_in x3 9 ∧ (((¬ (hb_aI w 9 6 g0 x3.toNatClampNeg) = 0) → hb_R yX0_addOften cX0_addOften 4 none (d + 1) 24 [some (hb_r 9 g0 0), some (hb_i x1), some (hb_i x2), some (hb_i (x3 + (1 : Int32)))] [] w Q) ∧ (((hb_aI w 9 6 g0 x3.toNatClampNeg) = 0) → vp_in x3 9 ∧ (vp_in x3 9 ∧ (Q none (hb_sI (hb_sI w 9 5 g0 (upd (hb_aI w 9 5 g0) x3.toNatClampNeg x1)) 9 6 g0 (upd (hb_aI w 9 6 g0) x3.toNatClampNeg (1 : Int32))))))))) : hb_R yX0_addOften cX0_addOften 4 none (d + 1) 24 [some (hb_r 9 g0 0), some (hb_i x1), some (hb_i x2), some (hb_i x3)] [] w Q := by
  refine hb_iload_n (pc := 24) (i := 3) dX0_addOften_24 rfl rfl ?_
  refine hb_aload_n (pc := 25) (i := 0) dX0_addOften_25 rfl rfl ?_
  refine hb_getIx (pc := 26) (x := hb_fI w 9 0 g0) dX0_addOften_26 fw_X0_9 cw_0 rfl hg0 rfl rfl ?_
  refine hb_icmp_ge (pc := 29) (tgt := 62) dX0_addOften_29 (by decide) (fun c1 => ?_) (fun c1 => ?_)
  · have ht1 := h.1 c1
    refine hb_iconst (pc := 62) (v := 0) dX0_addOften_62 (by decide) ?_
    refine hb_istore_n (pc := 63) (i := 3) (ls1 := [some (hb_r 9 g0 0), some (hb_i x1), some (hb_i x2), some (hb_i (0 : Int32))]) dX0_addOften_63 rfl (by decide) rfl ?_
    exact ht1
  · have ht1 := h.2 c1
    refine hb_aload_n (pc := 32) (i := 0) dX0_addOften_32 rfl rfl ?_
    refine hb_getR (pc := 33) (g1 := g0) dX0_addOften_33 fw_X0_38 cw_0 rfl hg0 rfl (by decide) rfl ?_
    refine hb_iload_n (pc := 36) (i := 3) dX0_addOften_36 rfl rfl ?_
    obtain ⟨ho2, hr2⟩ := ht1
    refine hb_ialdx (pc := 37) (x := hb_aI w 9 6 g0 x3.toNatClampNeg) dX0_addOften_37 rfl hg0 ho2 rfl ?_
    refine hb_if_ne (pc := 38) (tgt := 56) dX0_addOften_38 (by decide) (fun c3 => ?_) (fun c3 => ?_)
    · have ht3 := hr2.1 c3
      refine hb_iinc (pc := 56) (v := x3 + (1 : Int32)) (ls1 := [some (hb_r 9 g0 0), some (hb_i x1), some (hb_i x2), some (hb_i (x3 + (1 : Int32)))]) dX0_addOften_56 rfl rfl (by decide) rfl ?_
      refine hb_goto (pc := 59) (tgt := 24) dX0_addOften_59 (by decide) ?_
      exact ht3
    · have ht3 := hr2.2 c3
      refine hb_aload_n (pc := 41) (i := 0) dX0_addOften_41 rfl rfl ?_
      refine hb_getR (pc := 42) (g1 := g0) dX0_addOften_42 fw_X0_35 cw_0 rfl hg0 rfl (by decide) rfl ?_
      refine hb_iload_n (pc := 45) (i := 3) dX0_addOften_45 rfl rfl ?_
      refine hb_iload_n (pc := 46) (i := 1) dX0_addOften_46 rfl rfl ?_
      obtain ⟨ho4, hr4⟩ := ht3
      refine hb_iastx (pc := 47) (f := upd (hb_aI w 9 5 g0) x3.toNatClampNeg x1) dX0_addOften_47 rfl hg0 ho4 rfl ?_
      refine hb_aload_n (pc := 48) (i := 0) dX0_addOften_48 rfl rfl ?_
      refine hb_getR (pc := 49) (g1 := g0) dX0_addOften_49 fw_X0_38 cw_0 rfl hg0 rfl (by decide) rfl ?_
      refine hb_iload_n (pc := 52) (i := 3) dX0_addOften_52 rfl rfl ?_
      refine hb_iconst (pc := 53) (v := 1) dX0_addOften_53 (by decide) ?_
      obtain ⟨ho5, hr5⟩ := hr4
      refine hb_iastx (pc := 54) (f := upd (hb_aI w 9 6 g0) x3.toNatClampNeg (1 : Int32)) dX0_addOften_54 rfl hg0 ho5 (by simp [hb_fI, hb_fL, hb_fR, hb_aI, hb_aL, hb_pI, hb_pL, hb_pR, hb_sI, hb_sL, hb_u3]) ?_
      exact hb_vret (pc := 55) dX0_addOften_55 rfl hr5
set_option maxRecDepth 20000 in
theorem bk_X0_addOften_64 {d : Nat} {w : hb_W} {Q : Option hb_V → hb_W → Prop} {g0 : Nat} {x1 : Int32} {x2 : Int32} {x3 : Int32} (hg0 : g0 < hb_ct 9) (h : (((hb_fI w 9 0 g0) ≤ x3) → Q none w) ∧ ((¬ (hb_fI w 9 0 g0) ≤ x3) → vp_in x3 9 ∧ (vp_in x3 9 ∧ (hb_R yX0_addOften cX0_addOften 4 none (d + 1) 64 [some (hb_r 9 g0 0), some (hb_i x1), some (hb_i x2), some (hb_i (x3 + (1 : Int32)))] [] (hb_sI w 9 6 g0 (upd (hb_aI w 9 6 g0) x3.toNatClampNeg ((hb_aI w 9 6 g0 x3.toNatClampNeg) - (1 : Int32)))) Q)))) : hb_R yX0_addOften cX0_addOften 4 none (d + 1) 64 [some (hb_r 9 g0 0), some (hb_i x1), some (hb_i x2), some (hb_i x3)] [] w Q := by
  refine hb_iload_n (pc := 64) (i := 3) dX0_addOften_64 rfl rfl ?_
  refine hb_aload_n (pc := 65) (i := 0) dX0_addOften_65 rfl rfl ?_
  refine hb_getIx (pc := 66) (x := hb_fI w 9 0 g0) dX0_addOften_66 fw_X0_9 cw_0 rfl hg0 rfl rfl ?_
  refine hb_icmp_ge (pc := 69) (tgt := 88) dX0_addOften_69 (by decide) (fun c1 => ?_) (fun c1 => ?_)
  · have ht1 := h.1 c1
    exact hb_vret (pc := 88) dX0_addOften_88 rfl ht1
  · have ht1 := h.2 c1
    refine hb_aload_n (pc := 72) (i := 0) dX0_addOften_72 rfl rfl ?_
    refine hb_getR (pc := 73) (g1 := g0) dX0_addOften_73 fw_X0_38 cw_0 rfl hg0 rfl (by decide) rfl ?_
    refine hb_iload_n (pc := 76) (i := 3) dX0_addOften_76 rfl rfl ?_
    refine hb_dup2ir (pc := 77) dX0_addOften_77 ?_
    obtain ⟨ho2, hr2⟩ := ht1
    refine hb_ialdx (pc := 78) (x := hb_aI w 9 6 g0 x3.toNatClampNeg) dX0_addOften_78 rfl hg0 ho2 rfl ?_
    refine hb_iconst (pc := 79) (v := 1) dX0_addOften_79 (by decide) ?_
    refine hb_isub (pc := 80) dX0_addOften_80 ?_
    obtain ⟨ho3, hr3⟩ := hr2
    refine hb_iastx (pc := 81) (f := upd (hb_aI w 9 6 g0) x3.toNatClampNeg ((hb_aI w 9 6 g0 x3.toNatClampNeg) - (1 : Int32))) dX0_addOften_81 rfl hg0 ho3 rfl ?_
    refine hb_iinc (pc := 82) (v := x3 + (1 : Int32)) (ls1 := [some (hb_r 9 g0 0), some (hb_i x1), some (hb_i x2), some (hb_i (x3 + (1 : Int32)))]) dX0_addOften_82 rfl rfl (by decide) rfl ?_
    refine hb_goto (pc := 85) (tgt := 64) dX0_addOften_85 (by decide) ?_
    exact hr3
theorem dX0_oftenPlace_0 : decode cX0_oftenPlace 0 = .ok (.iconst 0, 1) := by decide +kernel
theorem dX0_oftenPlace_1 : decode cX0_oftenPlace 1 = .ok (.istore_n 2, 1) := by decide +kernel
theorem dX0_oftenPlace_2 : decode cX0_oftenPlace 2 = .ok (.iload_n 2, 1) := by decide +kernel
theorem dX0_oftenPlace_3 : decode cX0_oftenPlace 3 = .ok (.aload_n 0, 1) := by decide +kernel
theorem dX0_oftenPlace_4 : decode cX0_oftenPlace 4 = .ok (.getfield 9, 3) := by decide +kernel
theorem dX0_oftenPlace_7 : decode cX0_oftenPlace 7 = .ok (.if_icmp .ge 30, 3) := by decide +kernel
theorem dX0_oftenPlace_10 : decode cX0_oftenPlace 10 = .ok (.aload_n 0, 1) := by decide +kernel
theorem dX0_oftenPlace_11 : decode cX0_oftenPlace 11 = .ok (.getfield 38, 3) := by decide +kernel
theorem dX0_oftenPlace_14 : decode cX0_oftenPlace 14 = .ok (.iload_n 2, 1) := by decide +kernel
theorem dX0_oftenPlace_15 : decode cX0_oftenPlace 15 = .ok (.iaload, 1) := by decide +kernel
theorem dX0_oftenPlace_16 : decode cX0_oftenPlace 16 = .ok (.ifCond .le 15, 3) := by decide +kernel
theorem dX0_oftenPlace_19 : decode cX0_oftenPlace 19 = .ok (.aload_n 0, 1) := by decide +kernel
theorem dX0_oftenPlace_20 : decode cX0_oftenPlace 20 = .ok (.getfield 35, 3) := by decide +kernel
theorem dX0_oftenPlace_23 : decode cX0_oftenPlace 23 = .ok (.iload_n 2, 1) := by decide +kernel
theorem dX0_oftenPlace_24 : decode cX0_oftenPlace 24 = .ok (.iaload, 1) := by decide +kernel
theorem dX0_oftenPlace_25 : decode cX0_oftenPlace 25 = .ok (.iload_n 1, 1) := by decide +kernel
theorem dX0_oftenPlace_26 : decode cX0_oftenPlace 26 = .ok (.if_icmp .ne 5, 3) := by decide +kernel
theorem dX0_oftenPlace_29 : decode cX0_oftenPlace 29 = .ok (.iload_n 2, 1) := by decide +kernel
theorem dX0_oftenPlace_30 : decode cX0_oftenPlace 30 = .ok (.ireturn, 1) := by decide +kernel
theorem dX0_oftenPlace_31 : decode cX0_oftenPlace 31 = .ok (.iinc 2 1, 3) := by decide +kernel
theorem dX0_oftenPlace_34 : decode cX0_oftenPlace 34 = .ok (.goto (-32), 3) := by decide +kernel
theorem dX0_oftenPlace_37 : decode cX0_oftenPlace 37 = .ok (.iconst (-1), 1) := by decide +kernel
theorem dX0_oftenPlace_38 : decode cX0_oftenPlace 38 = .ok (.ireturn, 1) := by decide +kernel
set_option maxRecDepth 20000 in
theorem bk_X0_oftenPlace_0 {d : Nat} {w : hb_W} {Q : Option hb_V → hb_W → Prop} {g0 : Nat} {x1 : Int32} (hg0 : g0 < hb_ct 9) (h : hb_R yX0_oftenPlace cX0_oftenPlace 3 (some .int) d 2 [some (hb_r 9 g0 0), some (hb_i x1), some (hb_i (0 : Int32))] [] w Q) : hb_R yX0_oftenPlace cX0_oftenPlace 3 (some .int) d 0 [some (hb_r 9 g0 0), some (hb_i x1), none] [] w Q := by
  refine hb_iconst (pc := 0) (v := 0) dX0_oftenPlace_0 (by decide) ?_
  refine hb_istore_n (pc := 1) (i := 2) (ls1 := [some (hb_r 9 g0 0), some (hb_i x1), some (hb_i (0 : Int32))]) dX0_oftenPlace_1 rfl (by decide) rfl ?_
  exact h
set_option maxRecDepth 20000 in
theorem bk_X0_oftenPlace_2 {d : Nat} {w : hb_W} {Q : Option hb_V → hb_W → Prop} {g0 : Nat} {x1 : Int32} {x2 : Int32} (hg0 : g0 < hb_ct 9) (h : (((hb_fI w 9 0 g0) ≤ x2) → Q (some (hb_i (-1 : Int32))) w) ∧ ((¬ (hb_fI w 9 0 g0) ≤ x2) → vp_in x2 9 ∧ ((((hb_aI w 9 6 g0 x2.toNatClampNeg) ≤ 0) → hb_R yX0_oftenPlace cX0_oftenPlace 3 (some .int) d 2 [some (hb_r 9 g0 0), some (hb_i x1), some (hb_i (x2 + (1 : Int32)))] [] w Q) ∧ ((¬ (hb_aI w 9 6 g0 x2.toNatClampNeg) ≤ 0) → vp_in x2 9 ∧ (((¬ (hb_aI w 9 5 g0 x2.toNatClampNeg) = x1) → hb_R yX0_oftenPlace cX0_oftenPlace 3 (some .int) d 2 [some (hb_r 9 g0 0), some (hb_i x1), some (hb_i (x2 + (1 : Int32)))] [] w Q) ∧ (((hb_aI w 9 5 g0 x2.toNatClampNeg) = x1) → Q (some (hb_i x2)) w)))))) : hb_R yX0_oftenPlace cX0_oftenPlace 3 (some .int) d 2 [some (hb_r 9 g0 0), some (hb_i x1), some (hb_i x2)] [] w Q := by
  refine hb_iload_n (pc := 2) (i := 2) dX0_oftenPlace_2 rfl rfl ?_
  refine hb_aload_n (pc := 3) (i := 0) dX0_oftenPlace_3 rfl rfl ?_
  refine hb_getIx (pc := 4) (x := hb_fI w 9 0 g0) dX0_oftenPlace_4 fw_X0_9 cw_0 rfl hg0 rfl rfl ?_
  refine hb_icmp_ge (pc := 7) (tgt := 37) dX0_oftenPlace_7 (by decide) (fun c1 => ?_) (fun c1 => ?_)
  · have ht1 := h.1 c1
    refine hb_iconst (pc := 37) (v := -1) dX0_oftenPlace_37 (by decide) ?_
    exact hb_iret (pc := 38) dX0_oftenPlace_38 rfl ht1
  · have ht1 := h.2 c1
    refine hb_aload_n (pc := 10) (i := 0) dX0_oftenPlace_10 rfl rfl ?_
    refine hb_getR (pc := 11) (g1 := g0) dX0_oftenPlace_11 fw_X0_38 cw_0 rfl hg0 rfl (by decide) rfl ?_
    refine hb_iload_n (pc := 14) (i := 2) dX0_oftenPlace_14 rfl rfl ?_
    obtain ⟨ho2, hr2⟩ := ht1
    refine hb_ialdx (pc := 15) (x := hb_aI w 9 6 g0 x2.toNatClampNeg) dX0_oftenPlace_15 rfl hg0 ho2 rfl ?_
    refine hb_if_le (pc := 16) (tgt := 31) dX0_oftenPlace_16 (by decide) (fun c3 => ?_) (fun c3 => ?_)
    · have ht3 := hr2.1 c3
      refine hb_iinc (pc := 31) (v := x2 + (1 : Int32)) (ls1 := [some (hb_r 9 g0 0), some (hb_i x1), some (hb_i (x2 + (1 : Int32)))]) dX0_oftenPlace_31 rfl rfl (by decide) rfl ?_
      refine hb_goto (pc := 34) (tgt := 2) dX0_oftenPlace_34 (by decide) ?_
      exact ht3
    · have ht3 := hr2.2 c3
      refine hb_aload_n (pc := 19) (i := 0) dX0_oftenPlace_19 rfl rfl ?_
      refine hb_getR (pc := 20) (g1 := g0) dX0_oftenPlace_20 fw_X0_35 cw_0 rfl hg0 rfl (by decide) rfl ?_
      refine hb_iload_n (pc := 23) (i := 2) dX0_oftenPlace_23 rfl rfl ?_
      obtain ⟨ho4, hr4⟩ := ht3
      refine hb_ialdx (pc := 24) (x := hb_aI w 9 5 g0 x2.toNatClampNeg) dX0_oftenPlace_24 rfl hg0 ho4 rfl ?_
      refine hb_iload_n (pc := 25) (i := 1) dX0_oftenPlace_25 rfl rfl ?_
      refine hb_icmp_ne (pc := 26) (tgt := 31) dX0_oftenPlace_26 (by decide) (fun c5 => ?_) (fun c5 => ?_)
      · have ht5 := hr4.1 c5
        refine hb_iinc (pc := 31) (v := x2 + (1 : Int32)) (ls1 := [some (hb_r 9 g0 0), some (hb_i x1), some (hb_i (x2 + (1 : Int32)))]) dX0_oftenPlace_31 rfl rfl (by decide) rfl ?_
        refine hb_goto (pc := 34) (tgt := 2) dX0_oftenPlace_34 (by decide) ?_
        exact ht5
      · have ht5 := hr4.2 c5
        refine hb_iload_n (pc := 29) (i := 2) dX0_oftenPlace_29 rfl rfl ?_
        exact hb_iret (pc := 30) dX0_oftenPlace_30 rfl ht5
theorem dX0_crossing_0 : decode cX0_crossing 0 = .ok (.iload_n 1, 1) := by decide +kernel
theorem dX0_crossing_1 : decode cX0_crossing 1 = .ok (.bipush 9, 2) := by decide +kernel
theorem dX0_crossing_3 : decode cX0_crossing 3 = .ok (.imul, 1) := by decide +kernel
theorem dX0_crossing_4 : decode cX0_crossing 4 = .ok (.aload_n 0, 1) := by decide +kernel
theorem dX0_crossing_5 : decode cX0_crossing 5 = .ok (.getfield 18, 3) := by decide +kernel
theorem dX0_crossing_8 : decode cX0_crossing 8 = .ok (.iload_n 2, 1) := by decide +kernel
theorem dX0_crossing_9 : decode cX0_crossing 9 = .ok (.iconst 2, 1) := by decide +kernel
theorem dX0_crossing_10 : decode cX0_crossing 10 = .ok (.iload_n 1, 1) := by decide +kernel
theorem dX0_crossing_11 : decode cX0_crossing 11 = .ok (.iadd, 1) := by decide +kernel
theorem dX0_crossing_12 : decode cX0_crossing 12 = .ok (.invokevirtual 101, 3) := by decide +kernel
theorem dX0_crossing_15 : decode cX0_crossing 15 = .ok (.aload_n 0, 1) := by decide +kernel
theorem dX0_crossing_16 : decode cX0_crossing 16 = .ok (.getfield 9, 3) := by decide +kernel
theorem dX0_crossing_19 : decode cX0_crossing 19 = .ok (.irem, 1) := by decide +kernel
theorem dX0_crossing_20 : decode cX0_crossing 20 = .ok (.iadd, 1) := by decide +kernel
theorem dX0_crossing_21 : decode cX0_crossing 21 = .ok (.ireturn, 1) := by decide +kernel
set_option maxRecDepth 20000 in
theorem bk_X0_crossing_0 {d : Nat} {w : hb_W} {Q : Option hb_V → hb_W → Prop} {g0 : Nat} {x1 : Int32} {x2 : Int32} (hg0 : g0 < hb_ct 9) (h : (hb_fR w 9 2 g0) < hb_ct 5 ∧ (hb_O yX5_of cX5_of 4 (some .int) d [hb_r 5 (hb_fR w 9 2 g0) 0, hb_i x2, hb_i ((2 : Int32) + x1)] w (fun rv w1 => hb_R yX0_crossing cX0_crossing 3 (some .int) (d + 1) 15 [some (hb_r 9 g0 0), some (hb_i x1), some (hb_i x2)] (rv.toList ++ [hb_i (x1 * (9 : Int32))]) w1 Q))) : hb_R yX0_crossing cX0_crossing 3 (some .int) (d + 1) 0 [some (hb_r 9 g0 0), some (hb_i x1), some (hb_i x2)] [] w Q := by
  refine hb_iload_n (pc := 0) (i := 1) dX0_crossing_0 rfl rfl ?_
  refine hb_bipush (pc := 1) (v := 9) dX0_crossing_1 (by decide) ?_
  refine hb_imul (pc := 3) dX0_crossing_3 ?_
  refine hb_aload_n (pc := 4) (i := 0) dX0_crossing_4 rfl rfl ?_
  refine hb_getR (pc := 5) (g1 := hb_fR w 9 2 g0) dX0_crossing_5 fw_X0_18 cw_0 rfl hg0 rfl (by decide) rfl ?_
  refine hb_iload_n (pc := 8) (i := 2) dX0_crossing_8 rfl rfl ?_
  refine hb_iconst (pc := 9) (v := 2) dX0_crossing_9 (by decide) ?_
  refine hb_iload_n (pc := 10) (i := 1) dX0_crossing_10 rfl rfl ?_
  refine hb_iadd (pc := 11) dX0_crossing_11 ?_
  obtain ⟨ho1, hr1⟩ := h
  exact hb_callV (pc := 12) (As := [hb_i x2, hb_i ((2 : Int32) + x1)]) (st := [hb_i (x1 * (9 : Int32))]) dX0_crossing_12 ml_X0_101 mf_X5_of mi_X5_of (ci := 5) rfl rfl ho1 rfl rfl (Nat.le_of_ble_eq_true rfl) (Nat.le_of_ble_eq_true rfl) hr1 (fun _ _ q => q)
set_option maxRecDepth 20000 in
theorem bk_X0_crossing_15 {d : Nat} {w : hb_W} {Q : Option hb_V → hb_W → Prop} {g0 : Nat} {x1 : Int32} {x2 : Int32} {xs0 : Int32} {xs1 : Int32} (hg0 : g0 < hb_ct 9) (h : ¬ hb_fI w 9 0 g0 = 0 ∧ (Q (some (hb_i (xs0 + (xs1 - xs1 / (hb_fI w 9 0 g0) * (hb_fI w 9 0 g0))))) w)) : hb_R yX0_crossing cX0_crossing 3 (some .int) (d + 1) 15 [some (hb_r 9 g0 0), some (hb_i x1), some (hb_i x2)] [hb_i xs1, hb_i xs0] w Q := by
  refine hb_aload_n (pc := 15) (i := 0) dX0_crossing_15 rfl rfl ?_
  refine hb_getIx (pc := 16) (x := hb_fI w 9 0 g0) dX0_crossing_16 fw_X0_9 cw_0 rfl hg0 rfl rfl ?_
  obtain ⟨ho1, hr1⟩ := h
  refine hb_irem (pc := 19) dX0_crossing_19 ho1 ?_
  refine hb_iadd (pc := 20) dX0_crossing_20 ?_
  exact hb_iret (pc := 21) dX0_crossing_21 rfl hr1
theorem dX0_bitPlace_0 : decode cX0_bitPlace 0 = .ok (.aload_n 0, 1) := by decide +kernel
theorem dX0_bitPlace_1 : decode cX0_bitPlace 1 = .ok (.getfield 18, 3) := by decide +kernel
theorem dX0_bitPlace_4 : decode cX0_bitPlace 4 = .ok (.iload_n 1, 1) := by decide +kernel
theorem dX0_bitPlace_5 : decode cX0_bitPlace 5 = .ok (.iload_n 2, 1) := by decide +kernel
theorem dX0_bitPlace_6 : decode cX0_bitPlace 6 = .ok (.invokevirtual 101, 3) := by decide +kernel
theorem dX0_bitPlace_9 : decode cX0_bitPlace 9 = .ok (.bipush 8, 2) := by decide +kernel
theorem dX0_bitPlace_11 : decode cX0_bitPlace 11 = .ok (.aload_n 0, 1) := by decide +kernel
theorem dX0_bitPlace_12 : decode cX0_bitPlace 12 = .ok (.getfield 9, 3) := by decide +kernel
theorem dX0_bitPlace_15 : decode cX0_bitPlace 15 = .ok (.imul, 1) := by decide +kernel
theorem dX0_bitPlace_16 : decode cX0_bitPlace 16 = .ok (.irem, 1) := by decide +kernel
theorem dX0_bitPlace_17 : decode cX0_bitPlace 17 = .ok (.ireturn, 1) := by decide +kernel
set_option maxRecDepth 20000 in
theorem bk_X0_bitPlace_0 {d : Nat} {w : hb_W} {Q : Option hb_V → hb_W → Prop} {g0 : Nat} {x1 : Int32} {x2 : Int32} (hg0 : g0 < hb_ct 9) (h : (hb_fR w 9 2 g0) < hb_ct 5 ∧ (hb_O yX5_of cX5_of 4 (some .int) d [hb_r 5 (hb_fR w 9 2 g0) 0, hb_i x1, hb_i x2] w (fun rv w1 => hb_R yX0_bitPlace cX0_bitPlace 3 (some .int) (d + 1) 9 [some (hb_r 9 g0 0), some (hb_i x1), some (hb_i x2)] (rv.toList ++ []) w1 Q))) : hb_R yX0_bitPlace cX0_bitPlace 3 (some .int) (d + 1) 0 [some (hb_r 9 g0 0), some (hb_i x1), some (hb_i x2)] [] w Q := by
  refine hb_aload_n (pc := 0) (i := 0) dX0_bitPlace_0 rfl rfl ?_
  refine hb_getR (pc := 1) (g1 := hb_fR w 9 2 g0) dX0_bitPlace_1 fw_X0_18 cw_0 rfl hg0 rfl (by decide) rfl ?_
  refine hb_iload_n (pc := 4) (i := 1) dX0_bitPlace_4 rfl rfl ?_
  refine hb_iload_n (pc := 5) (i := 2) dX0_bitPlace_5 rfl rfl ?_
  obtain ⟨ho1, hr1⟩ := h
  exact hb_callV (pc := 6) (As := [hb_i x1, hb_i x2]) (st := []) dX0_bitPlace_6 ml_X0_101 mf_X5_of mi_X5_of (ci := 5) rfl rfl ho1 rfl rfl (Nat.le_of_ble_eq_true rfl) (Nat.le_of_ble_eq_true rfl) hr1 (fun _ _ q => q)
set_option maxRecDepth 20000 in
theorem bk_X0_bitPlace_9 {d : Nat} {w : hb_W} {Q : Option hb_V → hb_W → Prop} {g0 : Nat} {x1 : Int32} {x2 : Int32} {xs0 : Int32} (hg0 : g0 < hb_ct 9) (h : ¬ (8 : Int32) * (hb_fI w 9 0 g0) = 0 ∧ (Q (some (hb_i (xs0 - xs0 / ((8 : Int32) * (hb_fI w 9 0 g0)) * ((8 : Int32) * (hb_fI w 9 0 g0))))) w)) : hb_R yX0_bitPlace cX0_bitPlace 3 (some .int) (d + 1) 9 [some (hb_r 9 g0 0), some (hb_i x1), some (hb_i x2)] [hb_i xs0] w Q := by
  refine hb_bipush (pc := 9) (v := 8) dX0_bitPlace_9 (by decide) ?_
  refine hb_aload_n (pc := 11) (i := 0) dX0_bitPlace_11 rfl rfl ?_
  refine hb_getIx (pc := 12) (x := hb_fI w 9 0 g0) dX0_bitPlace_12 fw_X0_9 cw_0 rfl hg0 rfl rfl ?_
  refine hb_imul (pc := 15) dX0_bitPlace_15 ?_
  obtain ⟨ho1, hr1⟩ := h
  refine hb_irem (pc := 16) dX0_bitPlace_16 ho1 ?_
  exact hb_iret (pc := 17) dX0_bitPlace_17 rfl hr1
theorem dX0_noughtsAtEnd_0 : decode cX0_noughtsAtEnd 0 = .ok (.iconst 0, 1) := by decide +kernel
theorem dX0_noughtsAtEnd_1 : decode cX0_noughtsAtEnd 1 = .ok (.istore_n 1, 1) := by decide +kernel
theorem dX0_noughtsAtEnd_2 : decode cX0_noughtsAtEnd 2 = .ok (.iload_n 1, 1) := by decide +kernel
theorem dX0_noughtsAtEnd_3 : decode cX0_noughtsAtEnd 3 = .ok (.bipush 10, 2) := by decide +kernel
theorem dX0_noughtsAtEnd_5 : decode cX0_noughtsAtEnd 5 = .ok (.if_icmp .ge 17, 3) := by decide +kernel
theorem dX0_noughtsAtEnd_8 : decode cX0_noughtsAtEnd 8 = .ok (.iload_n 0, 1) := by decide +kernel
theorem dX0_noughtsAtEnd_9 : decode cX0_noughtsAtEnd 9 = .ok (.iload_n 1, 1) := by decide +kernel
theorem dX0_noughtsAtEnd_10 : decode cX0_noughtsAtEnd 10 = .ok (.ishr, 1) := by decide +kernel
theorem dX0_noughtsAtEnd_11 : decode cX0_noughtsAtEnd 11 = .ok (.iconst 1, 1) := by decide +kernel
theorem dX0_noughtsAtEnd_12 : decode cX0_noughtsAtEnd 12 = .ok (.iand, 1) := by decide +kernel
theorem dX0_noughtsAtEnd_13 : decode cX0_noughtsAtEnd 13 = .ok (.ifCond .ne 9, 3) := by decide +kernel
theorem dX0_noughtsAtEnd_16 : decode cX0_noughtsAtEnd 16 = .ok (.iinc 1 1, 3) := by decide +kernel
theorem dX0_noughtsAtEnd_19 : decode cX0_noughtsAtEnd 19 = .ok (.goto (-17), 3) := by decide +kernel
theorem dX0_noughtsAtEnd_22 : decode cX0_noughtsAtEnd 22 = .ok (.iload_n 1, 1) := by decide +kernel
theorem dX0_noughtsAtEnd_23 : decode cX0_noughtsAtEnd 23 = .ok (.ireturn, 1) := by decide +kernel
set_option maxRecDepth 20000 in
theorem bk_X0_noughtsAtEnd_0 {d : Nat} {w : hb_W} {Q : Option hb_V → hb_W → Prop} {x0 : Int32} (h : hb_R yX0_noughtsAtEnd cX0_noughtsAtEnd 2 (some .int) d 2 [some (hb_i x0), some (hb_i (0 : Int32))] [] w Q) : hb_R yX0_noughtsAtEnd cX0_noughtsAtEnd 2 (some .int) d 0 [some (hb_i x0), none] [] w Q := by
  refine hb_iconst (pc := 0) (v := 0) dX0_noughtsAtEnd_0 (by decide) ?_
  refine hb_istore_n (pc := 1) (i := 1) (ls1 := [some (hb_i x0), some (hb_i (0 : Int32))]) dX0_noughtsAtEnd_1 rfl (by decide) rfl ?_
  exact h
set_option maxRecDepth 20000 in
theorem bk_X0_noughtsAtEnd_2 {d : Nat} {w : hb_W} {Q : Option hb_V → hb_W → Prop} {x0 : Int32} {x1 : Int32} (h : (((10 : Int32) ≤ x1) → Q (some (hb_i x1)) w) ∧ ((¬ (10 : Int32) ≤ x1) → ((¬ ((x0 >>> (x1 &&& 31)) &&& (1 : Int32)) = 0) → Q (some (hb_i x1)) w) ∧ ((((x0 >>> (x1 &&& 31)) &&& (1 : Int32)) = 0) → hb_R yX0_noughtsAtEnd cX0_noughtsAtEnd 2 (some .int) d 2 [some (hb_i x0), some (hb_i (x1 + (1 : Int32)))] [] w Q))) : hb_R yX0_noughtsAtEnd cX0_noughtsAtEnd 2 (some .int) d 2 [some (hb_i x0), some (hb_i x1)] [] w Q := by
  refine hb_iload_n (pc := 2) (i := 1) dX0_noughtsAtEnd_2 rfl rfl ?_
  refine hb_bipush (pc := 3) (v := 10) dX0_noughtsAtEnd_3 (by decide) ?_
  refine hb_icmp_ge (pc := 5) (tgt := 22) dX0_noughtsAtEnd_5 (by decide) (fun c1 => ?_) (fun c1 => ?_)
  · have ht1 := h.1 c1
    refine hb_iload_n (pc := 22) (i := 1) dX0_noughtsAtEnd_22 rfl rfl ?_
    exact hb_iret (pc := 23) dX0_noughtsAtEnd_23 rfl ht1
  · have ht1 := h.2 c1
    refine hb_iload_n (pc := 8) (i := 0) dX0_noughtsAtEnd_8 rfl rfl ?_
    refine hb_iload_n (pc := 9) (i := 1) dX0_noughtsAtEnd_9 rfl rfl ?_
    refine hb_ishr (pc := 10) dX0_noughtsAtEnd_10 ?_
    refine hb_iconst (pc := 11) (v := 1) dX0_noughtsAtEnd_11 (by decide) ?_
    refine hb_iand (pc := 12) dX0_noughtsAtEnd_12 ?_
    refine hb_if_ne (pc := 13) (tgt := 22) dX0_noughtsAtEnd_13 (by decide) (fun c2 => ?_) (fun c2 => ?_)
    · have ht2 := ht1.1 c2
      refine hb_iload_n (pc := 22) (i := 1) dX0_noughtsAtEnd_22 rfl rfl ?_
      exact hb_iret (pc := 23) dX0_noughtsAtEnd_23 rfl ht2
    · have ht2 := ht1.2 c2
      refine hb_iinc (pc := 16) (v := x1 + (1 : Int32)) (ls1 := [some (hb_i x0), some (hb_i (x1 + (1 : Int32)))]) dX0_noughtsAtEnd_16 rfl rfl (by decide) rfl ?_
      refine hb_goto (pc := 19) (tgt := 2) dX0_noughtsAtEnd_19 (by decide) ?_
      exact ht2
theorem dX0_unlikeSaid_0 : decode cX0_unlikeSaid 0 = .ok (.aload_n 0, 1) := by decide +kernel
theorem dX0_unlikeSaid_1 : decode cX0_unlikeSaid 1 = .ok (.getfield 80, 3) := by decide +kernel
theorem dX0_unlikeSaid_4 : decode cX0_unlikeSaid 4 = .ok (.aload_n 0, 1) := by decide +kernel
theorem dX0_unlikeSaid_5 : decode cX0_unlikeSaid 5 = .ok (.getfield 9, 3) := by decide +kernel
theorem dX0_unlikeSaid_8 : decode cX0_unlikeSaid 8 = .ok (.if_icmp .ge 8, 3) := by decide +kernel
theorem dX0_unlikeSaid_11 : decode cX0_unlikeSaid 11 = .ok (.aload_n 0, 1) := by decide +kernel
theorem dX0_unlikeSaid_12 : decode cX0_unlikeSaid 12 = .ok (.getfield 80, 3) := by decide +kernel
theorem dX0_unlikeSaid_15 : decode cX0_unlikeSaid 15 = .ok (.ireturn, 1) := by decide +kernel
theorem dX0_unlikeSaid_16 : decode cX0_unlikeSaid 16 = .ok (.aload_n 0, 1) := by decide +kernel
theorem dX0_unlikeSaid_17 : decode cX0_unlikeSaid 17 = .ok (.getfield 32, 3) := by decide +kernel
theorem dX0_unlikeSaid_20 : decode cX0_unlikeSaid 20 = .ok (.aload_n 0, 1) := by decide +kernel
theorem dX0_unlikeSaid_21 : decode cX0_unlikeSaid 21 = .ok (.getfield 9, 3) := by decide +kernel
theorem dX0_unlikeSaid_24 : decode cX0_unlikeSaid 24 = .ok (.iconst 1, 1) := by decide +kernel
theorem dX0_unlikeSaid_25 : decode cX0_unlikeSaid 25 = .ok (.isub, 1) := by decide +kernel
theorem dX0_unlikeSaid_26 : decode cX0_unlikeSaid 26 = .ok (.iaload, 1) := by decide +kernel
theorem dX0_unlikeSaid_27 : decode cX0_unlikeSaid 27 = .ok (.istore_n 1, 1) := by decide +kernel
theorem dX0_unlikeSaid_28 : decode cX0_unlikeSaid 28 = .ok (.iload_n 1, 1) := by decide +kernel
theorem dX0_unlikeSaid_29 : decode cX0_unlikeSaid 29 = .ok (.ifCond .ne 7, 3) := by decide +kernel
theorem dX0_unlikeSaid_32 : decode cX0_unlikeSaid 32 = .ok (.iconst 0, 1) := by decide +kernel
theorem dX0_unlikeSaid_33 : decode cX0_unlikeSaid 33 = .ok (.goto 15, 3) := by decide +kernel
theorem dX0_unlikeSaid_36 : decode cX0_unlikeSaid 36 = .ok (.aload_n 0, 1) := by decide +kernel
theorem dX0_unlikeSaid_37 : decode cX0_unlikeSaid 37 = .ok (.getfield 9, 3) := by decide +kernel
theorem dX0_unlikeSaid_40 : decode cX0_unlikeSaid 40 = .ok (.iconst 1, 1) := by decide +kernel
theorem dX0_unlikeSaid_41 : decode cX0_unlikeSaid 41 = .ok (.isub, 1) := by decide +kernel
theorem dX0_unlikeSaid_42 : decode cX0_unlikeSaid 42 = .ok (.sipush 1000, 3) := by decide +kernel
theorem dX0_unlikeSaid_45 : decode cX0_unlikeSaid 45 = .ok (.imul, 1) := by decide +kernel
theorem dX0_unlikeSaid_46 : decode cX0_unlikeSaid 46 = .ok (.iload_n 1, 1) := by decide +kernel
theorem dX0_unlikeSaid_47 : decode cX0_unlikeSaid 47 = .ok (.idiv, 1) := by decide +kernel
theorem dX0_unlikeSaid_48 : decode cX0_unlikeSaid 48 = .ok (.ireturn, 1) := by decide +kernel
set_option maxRecDepth 20000 in
theorem bk_X0_unlikeSaid_0 {d : Nat} {w : hb_W} {Q : Option hb_V → hb_W → Prop} {g0 : Nat} (hg0 : g0 < hb_ct 9) (h : (((hb_fI w 9 0 g0) ≤ (hb_fI w 9 8 g0)) → vp_in ((hb_fI w 9 0 g0) - (1 : Int32)) 9 ∧ (((¬ (hb_aI w 9 4 g0 ((hb_fI w 9 0 g0) - (1 : Int32)).toNatClampNeg) = 0) → ¬ hb_aI w 9 4 g0 ((hb_fI w 9 0 g0) - (1 : Int32)).toNatClampNeg = 0 ∧ (Q (some (hb_i ((((hb_fI w 9 0 g0) - (1 : Int32)) * (1000 : Int32)) / (hb_aI w 9 4 g0 ((hb_fI w 9 0 g0) - (1 : Int32)).toNatClampNeg)))) w)) ∧ (((hb_aI w 9 4 g0 ((hb_fI w 9 0 g0) - (1 : Int32)).toNatClampNeg) = 0) → Q (some (hb_i (0 : Int32))) w))) ∧ ((¬ (hb_fI w 9 0 g0) ≤ (hb_fI w 9 8 g0)) → Q (some (hb_i (hb_fI w 9 8 g0))) w)) : hb_R yX0_unlikeSaid cX0_unlikeSaid 2 (some .int) d 0 [some (hb_r 9 g0 0), none] [] w Q := by
  refine hb_aload_n (pc := 0) (i := 0) dX0_unlikeSaid_0 rfl rfl ?_
  refine hb_getIx (pc := 1) (x := hb_fI w 9 8 g0) dX0_unlikeSaid_1 fw_X0_80 cw_0 rfl hg0 rfl rfl ?_
  refine hb_aload_n (pc := 4) (i := 0) dX0_unlikeSaid_4 rfl rfl ?_
  refine hb_getIx (pc := 5) (x := hb_fI w 9 0 g0) dX0_unlikeSaid_5 fw_X0_9 cw_0 rfl hg0 rfl rfl ?_
  refine hb_icmp_ge (pc := 8) (tgt := 16) dX0_unlikeSaid_8 (by decide) (fun c1 => ?_) (fun c1 => ?_)
  · have ht1 := h.1 c1
    refine hb_aload_n (pc := 16) (i := 0) dX0_unlikeSaid_16 rfl rfl ?_
    refine hb_getR (pc := 17) (g1 := g0) dX0_unlikeSaid_17 fw_X0_32 cw_0 rfl hg0 rfl (by decide) rfl ?_
    refine hb_aload_n (pc := 20) (i := 0) dX0_unlikeSaid_20 rfl rfl ?_
    refine hb_getIx (pc := 21) (x := hb_fI w 9 0 g0) dX0_unlikeSaid_21 fw_X0_9 cw_0 rfl hg0 rfl rfl ?_
    refine hb_iconst (pc := 24) (v := 1) dX0_unlikeSaid_24 (by decide) ?_
    refine hb_isub (pc := 25) dX0_unlikeSaid_25 ?_
    obtain ⟨ho2, hr2⟩ := ht1
    refine hb_ialdx (pc := 26) (x := hb_aI w 9 4 g0 ((hb_fI w 9 0 g0) - (1 : Int32)).toNatClampNeg) dX0_unlikeSaid_26 rfl hg0 ho2 rfl ?_
    refine hb_istore_n (pc := 27) (i := 1) (ls1 := [some (hb_r 9 g0 0), some (hb_i (hb_aI w 9 4 g0 ((hb_fI w 9 0 g0) - (1 : Int32)).toNatClampNeg))]) dX0_unlikeSaid_27 rfl (by decide) rfl ?_
    refine hb_iload_n (pc := 28) (i := 1) dX0_unlikeSaid_28 rfl rfl ?_
    refine hb_if_ne (pc := 29) (tgt := 36) dX0_unlikeSaid_29 (by decide) (fun c3 => ?_) (fun c3 => ?_)
    · have ht3 := hr2.1 c3
      refine hb_aload_n (pc := 36) (i := 0) dX0_unlikeSaid_36 rfl rfl ?_
      refine hb_getIx (pc := 37) (x := hb_fI w 9 0 g0) dX0_unlikeSaid_37 fw_X0_9 cw_0 rfl hg0 rfl rfl ?_
      refine hb_iconst (pc := 40) (v := 1) dX0_unlikeSaid_40 (by decide) ?_
      refine hb_isub (pc := 41) dX0_unlikeSaid_41 ?_
      refine hb_sipush (pc := 42) (v := 1000) dX0_unlikeSaid_42 (by decide) ?_
      refine hb_imul (pc := 45) dX0_unlikeSaid_45 ?_
      refine hb_iload_n (pc := 46) (i := 1) dX0_unlikeSaid_46 rfl rfl ?_
      obtain ⟨ho4, hr4⟩ := ht3
      refine hb_idiv (pc := 47) dX0_unlikeSaid_47 ho4 ?_
      exact hb_iret (pc := 48) dX0_unlikeSaid_48 rfl hr4
    · have ht3 := hr2.2 c3
      refine hb_iconst (pc := 32) (v := 0) dX0_unlikeSaid_32 (by decide) ?_
      refine hb_goto (pc := 33) (tgt := 48) dX0_unlikeSaid_33 (by decide) ?_
      exact hb_iret (pc := 48) dX0_unlikeSaid_48 rfl ht3
  · have ht1 := h.2 c1
    refine hb_aload_n (pc := 11) (i := 0) dX0_unlikeSaid_11 rfl rfl ?_
    refine hb_getIx (pc := 12) (x := hb_fI w 9 8 g0) dX0_unlikeSaid_12 fw_X0_80 cw_0 rfl hg0 rfl rfl ?_
    exact hb_iret (pc := 15) dX0_unlikeSaid_15 rfl ht1
theorem dX0_runsSaid_0 : decode cX0_runsSaid 0 = .ok (.aload_n 0, 1) := by decide +kernel
theorem dX0_runsSaid_1 : decode cX0_runsSaid 1 = .ok (.getfield 65, 3) := by decide +kernel
theorem dX0_runsSaid_4 : decode cX0_runsSaid 4 = .ok (.ifCond .ne 7, 3) := by decide +kernel
theorem dX0_runsSaid_7 : decode cX0_runsSaid 7 = .ok (.iconst 0, 1) := by decide +kernel
theorem dX0_runsSaid_8 : decode cX0_runsSaid 8 = .ok (.goto 9, 3) := by decide +kernel
theorem dX0_runsSaid_11 : decode cX0_runsSaid 11 = .ok (.iconst 1, 1) := by decide +kernel
theorem dX0_runsSaid_12 : decode cX0_runsSaid 12 = .ok (.aload_n 0, 1) := by decide +kernel
theorem dX0_runsSaid_13 : decode cX0_runsSaid 13 = .ok (.getfield 53, 3) := by decide +kernel
theorem dX0_runsSaid_16 : decode cX0_runsSaid 16 = .ok (.ishl, 1) := by decide +kernel
theorem dX0_runsSaid_17 : decode cX0_runsSaid 17 = .ok (.ireturn, 1) := by decide +kernel
set_option maxRecDepth 20000 in
theorem bk_X0_runsSaid_0 {d : Nat} {w : hb_W} {Q : Option hb_V → hb_W → Prop} {g0 : Nat} (hg0 : g0 < hb_ct 9) (h : ((¬ (hb_fI w 9 3 g0) = 0) → Q (some (hb_i ((1 : Int32) <<< ((hb_fI w 9 10 g0) &&& 31)))) w) ∧ (((hb_fI w 9 3 g0) = 0) → Q (some (hb_i (0 : Int32))) w)) : hb_R yX0_runsSaid cX0_runsSaid 1 (some .int) d 0 [some (hb_r 9 g0 0)] [] w Q := by
  refine hb_aload_n (pc := 0) (i := 0) dX0_runsSaid_0 rfl rfl ?_
  refine hb_getIx (pc := 1) (x := hb_fI w 9 3 g0) dX0_runsSaid_1 fw_X0_65 cw_0 rfl hg0 rfl rfl ?_
  refine hb_if_ne (pc := 4) (tgt := 11) dX0_runsSaid_4 (by decide) (fun c1 => ?_) (fun c1 => ?_)
  · have ht1 := h.1 c1
    refine hb_iconst (pc := 11) (v := 1) dX0_runsSaid_11 (by decide) ?_
    refine hb_aload_n (pc := 12) (i := 0) dX0_runsSaid_12 rfl rfl ?_
    refine hb_getIx (pc := 13) (x := hb_fI w 9 10 g0) dX0_runsSaid_13 fw_X0_53 cw_0 rfl hg0 rfl rfl ?_
    refine hb_ishl (pc := 16) dX0_runsSaid_16 ?_
    exact hb_iret (pc := 17) dX0_runsSaid_17 rfl ht1
  · have ht1 := h.2 c1
    refine hb_iconst (pc := 7) (v := 0) dX0_runsSaid_7 (by decide) ?_
    refine hb_goto (pc := 8) (tgt := 17) dX0_runsSaid_8 (by decide) ?_
    exact hb_iret (pc := 17) dX0_runsSaid_17 rfl ht1
theorem dX0_toldOf_0 : decode cX0_toldOf 0 = .ok (.aload_n 0, 1) := by decide +kernel
theorem dX0_toldOf_1 : decode cX0_toldOf 1 = .ok (.getfield 41, 3) := by decide +kernel
theorem dX0_toldOf_4 : decode cX0_toldOf 4 = .ok (.aload_n 0, 1) := by decide +kernel
theorem dX0_toldOf_5 : decode cX0_toldOf 5 = .ok (.iconst 0, 1) := by decide +kernel
theorem dX0_toldOf_6 : decode cX0_toldOf 6 = .ok (.iload_n 1, 1) := by decide +kernel
theorem dX0_toldOf_7 : decode cX0_toldOf 7 = .ok (.invokevirtual 113, 3) := by decide +kernel
theorem dX0_toldOf_10 : decode cX0_toldOf 10 = .ok (.iaload, 1) := by decide +kernel
theorem dX0_toldOf_11 : decode cX0_toldOf 11 = .ok (.istore_n 2, 1) := by decide +kernel
theorem dX0_toldOf_12 : decode cX0_toldOf 12 = .ok (.iconst 1, 1) := by decide +kernel
theorem dX0_toldOf_13 : decode cX0_toldOf 13 = .ok (.istore_n 3, 1) := by decide +kernel
theorem dX0_toldOf_14 : decode cX0_toldOf 14 = .ok (.iload_n 3, 1) := by decide +kernel
theorem dX0_toldOf_15 : decode cX0_toldOf 15 = .ok (.aload_n 0, 1) := by decide +kernel
theorem dX0_toldOf_16 : decode cX0_toldOf 16 = .ok (.getfield 15, 3) := by decide +kernel
theorem dX0_toldOf_19 : decode cX0_toldOf 19 = .ok (.if_icmp .ge 25, 3) := by decide +kernel
theorem dX0_toldOf_22 : decode cX0_toldOf 22 = .ok (.iload_n 2, 1) := by decide +kernel
theorem dX0_toldOf_23 : decode cX0_toldOf 23 = .ok (.aload_n 0, 1) := by decide +kernel
theorem dX0_toldOf_24 : decode cX0_toldOf 24 = .ok (.getfield 41, 3) := by decide +kernel
theorem dX0_toldOf_27 : decode cX0_toldOf 27 = .ok (.aload_n 0, 1) := by decide +kernel
theorem dX0_toldOf_28 : decode cX0_toldOf 28 = .ok (.iload_n 3, 1) := by decide +kernel
theorem dX0_toldOf_29 : decode cX0_toldOf 29 = .ok (.iload_n 1, 1) := by decide +kernel
theorem dX0_toldOf_30 : decode cX0_toldOf 30 = .ok (.invokevirtual 113, 3) := by decide +kernel
theorem dX0_toldOf_33 : decode cX0_toldOf 33 = .ok (.iaload, 1) := by decide +kernel
theorem dX0_toldOf_34 : decode cX0_toldOf 34 = .ok (.invokestatic 56, 3) := by decide +kernel
theorem dX0_toldOf_37 : decode cX0_toldOf 37 = .ok (.istore_n 2, 1) := by decide +kernel
theorem dX0_toldOf_38 : decode cX0_toldOf 38 = .ok (.iinc 3 1, 3) := by decide +kernel
theorem dX0_toldOf_41 : decode cX0_toldOf 41 = .ok (.goto (-27), 3) := by decide +kernel
theorem dX0_toldOf_44 : decode cX0_toldOf 44 = .ok (.iload_n 2, 1) := by decide +kernel
theorem dX0_toldOf_45 : decode cX0_toldOf 45 = .ok (.ireturn, 1) := by decide +kernel
set_option maxRecDepth 20000 in
theorem bk_X0_toldOf_0 {d : Nat} {w : hb_W} {Q : Option hb_V → hb_W → Prop} {g0 : Nat} {x1 : Int32} (hg0 : g0 < hb_ct 9) (h : hb_O yX0_crossing cX0_crossing 3 (some .int) d [hb_r 9 g0 0, hb_i (0 : Int32), hb_i x1] w (fun rv w1 => hb_R yX0_toldOf cX0_toldOf 4 (some .int) (d + 1) 10 [some (hb_r 9 g0 0), some (hb_i x1), none, none] (rv.toList ++ [hb_r 9 g0 7]) w1 Q)) : hb_R yX0_toldOf cX0_toldOf 4 (some .int) (d + 1) 0 [some (hb_r 9 g0 0), some (hb_i x1), none, none] [] w Q := by
  refine hb_aload_n (pc := 0) (i := 0) dX0_toldOf_0 rfl rfl ?_
  refine hb_getR (pc := 1) (g1 := g0) dX0_toldOf_1 fw_X0_41 cw_0 rfl hg0 rfl (by decide) rfl ?_
  refine hb_aload_n (pc := 4) (i := 0) dX0_toldOf_4 rfl rfl ?_
  refine hb_iconst (pc := 5) (v := 0) dX0_toldOf_5 (by decide) ?_
  refine hb_iload_n (pc := 6) (i := 1) dX0_toldOf_6 rfl rfl ?_
  exact hb_callV (pc := 7) (As := [hb_i (0 : Int32), hb_i x1]) (st := [hb_r 9 g0 7]) dX0_toldOf_7 ml_X0_113 mf_X0_crossing mi_X0_crossing (ci := 0) rfl rfl hg0 rfl rfl (Nat.le_of_ble_eq_true rfl) (Nat.le_of_ble_eq_true rfl) h (fun _ _ q => q)
set_option maxRecDepth 20000 in
theorem bk_X0_toldOf_10 {d : Nat} {w : hb_W} {Q : Option hb_V → hb_W → Prop} {g0 : Nat} {x1 : Int32} {gs0 : Nat} {xs1 : Int32} (hg0 : g0 < hb_ct 9) (hgs0 : gs0 < hb_ct 9) (h : vp_in xs1 27 ∧ (hb_R yX0_toldOf cX0_toldOf 4 (some .int) (d + 1) 14 [some (hb_r 9 g0 0), some (hb_i x1), some (hb_i (hb_aI w 9 7 gs0 xs1.toNatClampNeg)), some (hb_i (1 : Int32))] [] w Q)) : hb_R yX0_toldOf cX0_toldOf 4 (some .int) (d + 1) 10 [some (hb_r 9 g0 0), some (hb_i x1), none, none] [hb_i xs1, hb_r 9 gs0 7] w Q := by
  obtain ⟨ho1, hr1⟩ := h
  refine hb_ialdx (pc := 10) (x := hb_aI w 9 7 gs0 xs1.toNatClampNeg) dX0_toldOf_10 rfl hgs0 ho1 rfl ?_
  refine hb_istore_n (pc := 11) (i := 2) (ls1 := [some (hb_r 9 g0 0), some (hb_i x1), some (hb_i (hb_aI w 9 7 gs0 xs1.toNatClampNeg)), none]) dX0_toldOf_11 rfl (by decide) rfl ?_
  refine hb_iconst (pc := 12) (v := 1) dX0_toldOf_12 (by decide) ?_
  refine hb_istore_n (pc := 13) (i := 3) (ls1 := [some (hb_r 9 g0 0), some (hb_i x1), some (hb_i (hb_aI w 9 7 gs0 xs1.toNatClampNeg)), some (hb_i (1 : Int32))]) dX0_toldOf_13 rfl (by decide) rfl ?_
  exact hr1
set_option maxRecDepth 20000 in
theorem bk_X0_toldOf_14 {d : Nat} {w : hb_W} {Q : Option hb_V → hb_W → Prop} {g0 : Nat} {x1 : Int32} {x2 : Int32} {x3 : Int32} (hg0 : g0 < hb_ct 9) (h : (((hb_fI w 9 1 g0) ≤ x3) → Q (some (hb_i x2)) w) ∧ ((¬ (hb_fI w 9 1 g0) ≤ x3) → hb_O yX0_crossing cX0_crossing 3 (some .int) d [hb_r 9 g0 0, hb_i x3, hb_i x1] w (fun rv w1 => hb_R yX0_toldOf cX0_toldOf 4 (some .int) (d + 1) 33 [some (hb_r 9 g0 0), some (hb_i x1), some (hb_i x2), some (hb_i x3)] (rv.toList ++ [hb_r 9 g0 7, hb_i x2]) w1 Q))) : hb_R yX0_toldOf cX0_toldOf 4 (some .int) (d + 1) 14 [some (hb_r 9 g0 0), some (hb_i x1), some (hb_i x2), some (hb_i x3)] [] w Q := by
  refine hb_iload_n (pc := 14) (i := 3) dX0_toldOf_14 rfl rfl ?_
  refine hb_aload_n (pc := 15) (i := 0) dX0_toldOf_15 rfl rfl ?_
  refine hb_getIx (pc := 16) (x := hb_fI w 9 1 g0) dX0_toldOf_16 fw_X0_15 cw_0 rfl hg0 rfl rfl ?_
  refine hb_icmp_ge (pc := 19) (tgt := 44) dX0_toldOf_19 (by decide) (fun c1 => ?_) (fun c1 => ?_)
  · have ht1 := h.1 c1
    refine hb_iload_n (pc := 44) (i := 2) dX0_toldOf_44 rfl rfl ?_
    exact hb_iret (pc := 45) dX0_toldOf_45 rfl ht1
  · have ht1 := h.2 c1
    refine hb_iload_n (pc := 22) (i := 2) dX0_toldOf_22 rfl rfl ?_
    refine hb_aload_n (pc := 23) (i := 0) dX0_toldOf_23 rfl rfl ?_
    refine hb_getR (pc := 24) (g1 := g0) dX0_toldOf_24 fw_X0_41 cw_0 rfl hg0 rfl (by decide) rfl ?_
    refine hb_aload_n (pc := 27) (i := 0) dX0_toldOf_27 rfl rfl ?_
    refine hb_iload_n (pc := 28) (i := 3) dX0_toldOf_28 rfl rfl ?_
    refine hb_iload_n (pc := 29) (i := 1) dX0_toldOf_29 rfl rfl ?_
    exact hb_callV (pc := 30) (As := [hb_i x3, hb_i x1]) (st := [hb_r 9 g0 7, hb_i x2]) dX0_toldOf_30 ml_X0_113 mf_X0_crossing mi_X0_crossing (ci := 0) rfl rfl hg0 rfl rfl (Nat.le_of_ble_eq_true rfl) (Nat.le_of_ble_eq_true rfl) ht1 (fun _ _ q => q)
set_option maxRecDepth 20000 in
theorem bk_X0_toldOf_33 {d : Nat} {w : hb_W} {Q : Option hb_V → hb_W → Prop} {g0 : Nat} {x1 : Int32} {x2 : Int32} {x3 : Int32} {xs0 : Int32} {gs1 : Nat} {xs2 : Int32} (hg0 : g0 < hb_ct 9) (hgs1 : gs1 < hb_ct 9) (h : vp_in xs2 27 ∧ (hb_R yX0_toldOf cX0_toldOf 4 (some .int) (d + 1) 14 [some (hb_r 9 g0 0), some (hb_i x1), some (hb_i (if (hb_aI w 9 7 gs1 xs2.toNatClampNeg) < xs0 then (hb_aI w 9 7 gs1 xs2.toNatClampNeg) else xs0)), some (hb_i (x3 + (1 : Int32)))] [] w Q)) : hb_R yX0_toldOf cX0_toldOf 4 (some .int) (d + 1) 33 [some (hb_r 9 g0 0), some (hb_i x1), some (hb_i x2), some (hb_i x3)] [hb_i xs2, hb_r 9 gs1 7, hb_i xs0] w Q := by
  obtain ⟨ho1, hr1⟩ := h
  refine hb_ialdx (pc := 33) (x := hb_aI w 9 7 gs1 xs2.toNatClampNeg) dX0_toldOf_33 rfl hgs1 ho1 rfl ?_
  refine hb_mmin (pc := 34) dX0_toldOf_34 ml_X0_56 (Nat.le_of_ble_eq_true rfl) ?_
  refine hb_istore_n (pc := 37) (i := 2) (ls1 := [some (hb_r 9 g0 0), some (hb_i x1), some (hb_i (if (hb_aI w 9 7 gs1 xs2.toNatClampNeg) < xs0 then (hb_aI w 9 7 gs1 xs2.toNatClampNeg) else xs0)), some (hb_i x3)]) dX0_toldOf_37 rfl (by decide) rfl ?_
  refine hb_iinc (pc := 38) (v := x3 + (1 : Int32)) (ls1 := [some (hb_r 9 g0 0), some (hb_i x1), some (hb_i (if (hb_aI w 9 7 gs1 xs2.toNatClampNeg) < xs0 then (hb_aI w 9 7 gs1 xs2.toNatClampNeg) else xs0)), some (hb_i (x3 + (1 : Int32)))]) dX0_toldOf_38 rfl rfl (by decide) rfl ?_
  refine hb_goto (pc := 41) (tgt := 14) dX0_toldOf_41 (by decide) ?_
  exact hr1
theorem dX0_seemsThere_0 : decode cX0_seemsThere 0 = .ok (.aload_n 0, 1) := by decide +kernel
theorem dX0_seemsThere_1 : decode cX0_seemsThere 1 = .ok (.getfield 44, 3) := by decide +kernel
theorem dX0_seemsThere_4 : decode cX0_seemsThere 4 = .ok (.aload_n 0, 1) := by decide +kernel
theorem dX0_seemsThere_5 : decode cX0_seemsThere 5 = .ok (.iload_n 1, 1) := by decide +kernel
theorem dX0_seemsThere_6 : decode cX0_seemsThere 6 = .ok (.iconst 5, 1) := by decide +kernel
theorem dX0_seemsThere_7 : decode cX0_seemsThere 7 = .ok (.invokevirtual 116, 3) := by decide +kernel
theorem dX0_seemsThere_10 : decode cX0_seemsThere 10 = .ok (.iaload, 1) := by decide +kernel
theorem dX0_seemsThere_11 : decode cX0_seemsThere 11 = .ok (.iconst 1, 1) := by decide +kernel
theorem dX0_seemsThere_12 : decode cX0_seemsThere 12 = .ok (.if_icmp .ne 23, 3) := by decide +kernel
theorem dX0_seemsThere_15 : decode cX0_seemsThere 15 = .ok (.aload_n 0, 1) := by decide +kernel
theorem dX0_seemsThere_16 : decode cX0_seemsThere 16 = .ok (.getfield 44, 3) := by decide +kernel
theorem dX0_seemsThere_19 : decode cX0_seemsThere 19 = .ok (.aload_n 0, 1) := by decide +kernel
theorem dX0_seemsThere_20 : decode cX0_seemsThere 20 = .ok (.iload_n 1, 1) := by decide +kernel
theorem dX0_seemsThere_21 : decode cX0_seemsThere 21 = .ok (.bipush 6, 2) := by decide +kernel
theorem dX0_seemsThere_23 : decode cX0_seemsThere 23 = .ok (.invokevirtual 116, 3) := by decide +kernel
theorem dX0_seemsThere_26 : decode cX0_seemsThere 26 = .ok (.iaload, 1) := by decide +kernel
theorem dX0_seemsThere_27 : decode cX0_seemsThere 27 = .ok (.iconst 1, 1) := by decide +kernel
theorem dX0_seemsThere_28 : decode cX0_seemsThere 28 = .ok (.if_icmp .ne 7, 3) := by decide +kernel
theorem dX0_seemsThere_31 : decode cX0_seemsThere 31 = .ok (.iconst 1, 1) := by decide +kernel
theorem dX0_seemsThere_32 : decode cX0_seemsThere 32 = .ok (.goto 4, 3) := by decide +kernel
theorem dX0_seemsThere_35 : decode cX0_seemsThere 35 = .ok (.iconst 0, 1) := by decide +kernel
theorem dX0_seemsThere_36 : decode cX0_seemsThere 36 = .ok (.ireturn, 1) := by decide +kernel
set_option maxRecDepth 20000 in
theorem bk_X0_seemsThere_0 {d : Nat} {w : hb_W} {Q : Option hb_V → hb_W → Prop} {g0 : Nat} {x1 : Int32} (hg0 : g0 < hb_ct 9) (h : hb_O yX0_bitPlace cX0_bitPlace 3 (some .int) d [hb_r 9 g0 0, hb_i x1, hb_i (5 : Int32)] w (fun rv w1 => hb_R yX0_seemsThere cX0_seemsThere 2 (some .boolean) (d + 1) 10 [some (hb_r 9 g0 0), some (hb_i x1)] (rv.toList ++ [hb_r 9 g0 8]) w1 Q)) : hb_R yX0_seemsThere cX0_seemsThere 2 (some .boolean) (d + 1) 0 [some (hb_r 9 g0 0), some (hb_i x1)] [] w Q := by
  refine hb_aload_n (pc := 0) (i := 0) dX0_seemsThere_0 rfl rfl ?_
  refine hb_getR (pc := 1) (g1 := g0) dX0_seemsThere_1 fw_X0_44 cw_0 rfl hg0 rfl (by decide) rfl ?_
  refine hb_aload_n (pc := 4) (i := 0) dX0_seemsThere_4 rfl rfl ?_
  refine hb_iload_n (pc := 5) (i := 1) dX0_seemsThere_5 rfl rfl ?_
  refine hb_iconst (pc := 6) (v := 5) dX0_seemsThere_6 (by decide) ?_
  exact hb_callV (pc := 7) (As := [hb_i x1, hb_i (5 : Int32)]) (st := [hb_r 9 g0 8]) dX0_seemsThere_7 ml_X0_116 mf_X0_bitPlace mi_X0_bitPlace (ci := 0) rfl rfl hg0 rfl rfl (Nat.le_of_ble_eq_true rfl) (Nat.le_of_ble_eq_true rfl) h (fun _ _ q => q)
set_option maxRecDepth 20000 in
theorem bk_X0_seemsThere_10 {d : Nat} {w : hb_W} {Q : Option hb_V → hb_W → Prop} {g0 : Nat} {x1 : Int32} {gs0 : Nat} {xs1 : Int32} (hg0 : g0 < hb_ct 9) (hgs0 : gs0 < hb_ct 9) (h : vp_in xs1 72 ∧ (((¬ (hb_aI w 9 8 gs0 xs1.toNatClampNeg) = (1 : Int32)) → Q (some (hb_i (0 : Int32))) w) ∧ (((hb_aI w 9 8 gs0 xs1.toNatClampNeg) = (1 : Int32)) → hb_O yX0_bitPlace cX0_bitPlace 3 (some .int) d [hb_r 9 g0 0, hb_i x1, hb_i (6 : Int32)] w (fun rv w1 => hb_R yX0_seemsThere cX0_seemsThere 2 (some .boolean) (d + 1) 26 [some (hb_r 9 g0 0), some (hb_i x1)] (rv.toList ++ [hb_r 9 g0 8]) w1 Q)))) : hb_R yX0_seemsThere cX0_seemsThere 2 (some .boolean) (d + 1) 10 [some (hb_r 9 g0 0), some (hb_i x1)] [hb_i xs1, hb_r 9 gs0 8] w Q := by
  obtain ⟨ho1, hr1⟩ := h
  refine hb_ialdx (pc := 10) (x := hb_aI w 9 8 gs0 xs1.toNatClampNeg) dX0_seemsThere_10 rfl hgs0 ho1 rfl ?_
  refine hb_iconst (pc := 11) (v := 1) dX0_seemsThere_11 (by decide) ?_
  refine hb_icmp_ne (pc := 12) (tgt := 35) dX0_seemsThere_12 (by decide) (fun c2 => ?_) (fun c2 => ?_)
  · have ht2 := hr1.1 c2
    refine hb_iconst (pc := 35) (v := 0) dX0_seemsThere_35 (by decide) ?_
    exact hb_zret (pc := 36) dX0_seemsThere_36 rfl (Or.inl rfl) ht2
  · have ht2 := hr1.2 c2
    refine hb_aload_n (pc := 15) (i := 0) dX0_seemsThere_15 rfl rfl ?_
    refine hb_getR (pc := 16) (g1 := g0) dX0_seemsThere_16 fw_X0_44 cw_0 rfl hg0 rfl (by decide) rfl ?_
    refine hb_aload_n (pc := 19) (i := 0) dX0_seemsThere_19 rfl rfl ?_
    refine hb_iload_n (pc := 20) (i := 1) dX0_seemsThere_20 rfl rfl ?_
    refine hb_bipush (pc := 21) (v := 6) dX0_seemsThere_21 (by decide) ?_
    exact hb_callV (pc := 23) (As := [hb_i x1, hb_i (6 : Int32)]) (st := [hb_r 9 g0 8]) dX0_seemsThere_23 ml_X0_116 mf_X0_bitPlace mi_X0_bitPlace (ci := 0) rfl rfl hg0 rfl rfl (Nat.le_of_ble_eq_true rfl) (Nat.le_of_ble_eq_true rfl) ht2 (fun _ _ q => q)
set_option maxRecDepth 20000 in
theorem bk_X0_seemsThere_26 {d : Nat} {w : hb_W} {Q : Option hb_V → hb_W → Prop} {g0 : Nat} {x1 : Int32} {gs0 : Nat} {xs1 : Int32} (hg0 : g0 < hb_ct 9) (hgs0 : gs0 < hb_ct 9) (h : vp_in xs1 72 ∧ (((¬ (hb_aI w 9 8 gs0 xs1.toNatClampNeg) = (1 : Int32)) → Q (some (hb_i (0 : Int32))) w) ∧ (((hb_aI w 9 8 gs0 xs1.toNatClampNeg) = (1 : Int32)) → Q (some (hb_i (1 : Int32))) w))) : hb_R yX0_seemsThere cX0_seemsThere 2 (some .boolean) (d + 1) 26 [some (hb_r 9 g0 0), some (hb_i x1)] [hb_i xs1, hb_r 9 gs0 8] w Q := by
  obtain ⟨ho1, hr1⟩ := h
  refine hb_ialdx (pc := 26) (x := hb_aI w 9 8 gs0 xs1.toNatClampNeg) dX0_seemsThere_26 rfl hgs0 ho1 rfl ?_
  refine hb_iconst (pc := 27) (v := 1) dX0_seemsThere_27 (by decide) ?_
  refine hb_icmp_ne (pc := 28) (tgt := 35) dX0_seemsThere_28 (by decide) (fun c2 => ?_) (fun c2 => ?_)
  · have ht2 := hr1.1 c2
    refine hb_iconst (pc := 35) (v := 0) dX0_seemsThere_35 (by decide) ?_
    exact hb_zret (pc := 36) dX0_seemsThere_36 rfl (Or.inl rfl) ht2
  · have ht2 := hr1.2 c2
    refine hb_iconst (pc := 31) (v := 1) dX0_seemsThere_31 (by decide) ?_
    refine hb_goto (pc := 32) (tgt := 36) dX0_seemsThere_32 (by decide) ?_
    exact hb_zret (pc := 36) dX0_seemsThere_36 rfl (Or.inr rfl) ht2
theorem dX0_middleSaid_0 : decode cX0_middleSaid 0 = .ok (.iconst 0, 1) := by decide +kernel
theorem dX0_middleSaid_1 : decode cX0_middleSaid 1 = .ok (.istore_n 1, 1) := by decide +kernel
theorem dX0_middleSaid_2 : decode cX0_middleSaid 2 = .ok (.iconst 0, 1) := by decide +kernel
theorem dX0_middleSaid_3 : decode cX0_middleSaid 3 = .ok (.istore_n 2, 1) := by decide +kernel
theorem dX0_middleSaid_4 : decode cX0_middleSaid 4 = .ok (.iload_n 2, 1) := by decide +kernel
theorem dX0_middleSaid_5 : decode cX0_middleSaid 5 = .ok (.aload_n 0, 1) := by decide +kernel
theorem dX0_middleSaid_6 : decode cX0_middleSaid 6 = .ok (.getfield 9, 3) := by decide +kernel
theorem dX0_middleSaid_9 : decode cX0_middleSaid 9 = .ok (.if_icmp .ge 45, 3) := by decide +kernel
theorem dX0_middleSaid_12 : decode cX0_middleSaid 12 = .ok (.iload_n 1, 1) := by decide +kernel
theorem dX0_middleSaid_13 : decode cX0_middleSaid 13 = .ok (.aload_n 0, 1) := by decide +kernel
theorem dX0_middleSaid_14 : decode cX0_middleSaid 14 = .ok (.getfield 47, 3) := by decide +kernel
theorem dX0_middleSaid_17 : decode cX0_middleSaid 17 = .ok (.iload_n 2, 1) := by decide +kernel
theorem dX0_middleSaid_18 : decode cX0_middleSaid 18 = .ok (.iaload, 1) := by decide +kernel
theorem dX0_middleSaid_19 : decode cX0_middleSaid 19 = .ok (.iadd, 1) := by decide +kernel
theorem dX0_middleSaid_20 : decode cX0_middleSaid 20 = .ok (.istore_n 1, 1) := by decide +kernel
theorem dX0_middleSaid_21 : decode cX0_middleSaid 21 = .ok (.iload_n 1, 1) := by decide +kernel
theorem dX0_middleSaid_22 : decode cX0_middleSaid 22 = .ok (.aload_n 0, 1) := by decide +kernel
theorem dX0_middleSaid_23 : decode cX0_middleSaid 23 = .ok (.getfield 65, 3) := by decide +kernel
theorem dX0_middleSaid_26 : decode cX0_middleSaid 26 = .ok (.iconst 2, 1) := by decide +kernel
theorem dX0_middleSaid_27 : decode cX0_middleSaid 27 = .ok (.idiv, 1) := by decide +kernel
theorem dX0_middleSaid_28 : decode cX0_middleSaid 28 = .ok (.if_icmp .le 20, 3) := by decide +kernel
theorem dX0_middleSaid_31 : decode cX0_middleSaid 31 = .ok (.iload_n 2, 1) := by decide +kernel
theorem dX0_middleSaid_32 : decode cX0_middleSaid 32 = .ok (.bipush 100, 2) := by decide +kernel
theorem dX0_middleSaid_34 : decode cX0_middleSaid 34 = .ok (.imul, 1) := by decide +kernel
theorem dX0_middleSaid_35 : decode cX0_middleSaid 35 = .ok (.aload_n 0, 1) := by decide +kernel
theorem dX0_middleSaid_36 : decode cX0_middleSaid 36 = .ok (.getfield 9, 3) := by decide +kernel
theorem dX0_middleSaid_39 : decode cX0_middleSaid 39 = .ok (.iadd, 1) := by decide +kernel
theorem dX0_middleSaid_40 : decode cX0_middleSaid 40 = .ok (.iconst 1, 1) := by decide +kernel
theorem dX0_middleSaid_41 : decode cX0_middleSaid 41 = .ok (.isub, 1) := by decide +kernel
theorem dX0_middleSaid_42 : decode cX0_middleSaid 42 = .ok (.aload_n 0, 1) := by decide +kernel
theorem dX0_middleSaid_43 : decode cX0_middleSaid 43 = .ok (.getfield 9, 3) := by decide +kernel
theorem dX0_middleSaid_46 : decode cX0_middleSaid 46 = .ok (.idiv, 1) := by decide +kernel
theorem dX0_middleSaid_47 : decode cX0_middleSaid 47 = .ok (.ireturn, 1) := by decide +kernel
theorem dX0_middleSaid_48 : decode cX0_middleSaid 48 = .ok (.iinc 2 1, 3) := by decide +kernel
theorem dX0_middleSaid_51 : decode cX0_middleSaid 51 = .ok (.goto (-47), 3) := by decide +kernel
theorem dX0_middleSaid_54 : decode cX0_middleSaid 54 = .ok (.iconst (-1), 1) := by decide +kernel
theorem dX0_middleSaid_55 : decode cX0_middleSaid 55 = .ok (.ireturn, 1) := by decide +kernel
set_option maxRecDepth 20000 in
theorem bk_X0_middleSaid_0 {d : Nat} {w : hb_W} {Q : Option hb_V → hb_W → Prop} {g0 : Nat} (hg0 : g0 < hb_ct 9) (h : hb_R yX0_middleSaid cX0_middleSaid 3 (some .int) d 4 [some (hb_r 9 g0 0), some (hb_i (0 : Int32)), some (hb_i (0 : Int32))] [] w Q) : hb_R yX0_middleSaid cX0_middleSaid 3 (some .int) d 0 [some (hb_r 9 g0 0), none, none] [] w Q := by
  refine hb_iconst (pc := 0) (v := 0) dX0_middleSaid_0 (by decide) ?_
  refine hb_istore_n (pc := 1) (i := 1) (ls1 := [some (hb_r 9 g0 0), some (hb_i (0 : Int32)), none]) dX0_middleSaid_1 rfl (by decide) rfl ?_
  refine hb_iconst (pc := 2) (v := 0) dX0_middleSaid_2 (by decide) ?_
  refine hb_istore_n (pc := 3) (i := 2) (ls1 := [some (hb_r 9 g0 0), some (hb_i (0 : Int32)), some (hb_i (0 : Int32))]) dX0_middleSaid_3 rfl (by decide) rfl ?_
  exact h
set_option maxRecDepth 20000 in
theorem bk_X0_middleSaid_4 {d : Nat} {w : hb_W} {Q : Option hb_V → hb_W → Prop} {g0 : Nat} {x1 : Int32} {x2 : Int32} (hg0 : g0 < hb_ct 9) (h : (((hb_fI w 9 0 g0) ≤ x2) → Q (some (hb_i (-1 : Int32))) w) ∧ ((¬ (hb_fI w 9 0 g0) ≤ x2) → vp_in x2 9 ∧ ((((x1 + (hb_aI w 9 9 g0 x2.toNatClampNeg)) ≤ ((hb_fI w 9 3 g0) / (2 : Int32))) → hb_R yX0_middleSaid cX0_middleSaid 3 (some .int) d 4 [some (hb_r 9 g0 0), some (hb_i (x1 + (hb_aI w 9 9 g0 x2.toNatClampNeg))), some (hb_i (x2 + (1 : Int32)))] [] w Q) ∧ ((¬ (x1 + (hb_aI w 9 9 g0 x2.toNatClampNeg)) ≤ ((hb_fI w 9 3 g0) / (2 : Int32))) → ¬ hb_fI w 9 0 g0 = 0 ∧ (Q (some (hb_i ((((x2 * (100 : Int32)) + (hb_fI w 9 0 g0)) - (1 : Int32)) / (hb_fI w 9 0 g0)))) w))))) : hb_R yX0_middleSaid cX0_middleSaid 3 (some .int) d 4 [some (hb_r 9 g0 0), some (hb_i x1), some (hb_i x2)] [] w Q := by
  refine hb_iload_n (pc := 4) (i := 2) dX0_middleSaid_4 rfl rfl ?_
  refine hb_aload_n (pc := 5) (i := 0) dX0_middleSaid_5 rfl rfl ?_
  refine hb_getIx (pc := 6) (x := hb_fI w 9 0 g0) dX0_middleSaid_6 fw_X0_9 cw_0 rfl hg0 rfl rfl ?_
  refine hb_icmp_ge (pc := 9) (tgt := 54) dX0_middleSaid_9 (by decide) (fun c1 => ?_) (fun c1 => ?_)
  · have ht1 := h.1 c1
    refine hb_iconst (pc := 54) (v := -1) dX0_middleSaid_54 (by decide) ?_
    exact hb_iret (pc := 55) dX0_middleSaid_55 rfl ht1
  · have ht1 := h.2 c1
    refine hb_iload_n (pc := 12) (i := 1) dX0_middleSaid_12 rfl rfl ?_
    refine hb_aload_n (pc := 13) (i := 0) dX0_middleSaid_13 rfl rfl ?_
    refine hb_getR (pc := 14) (g1 := g0) dX0_middleSaid_14 fw_X0_47 cw_0 rfl hg0 rfl (by decide) rfl ?_
    refine hb_iload_n (pc := 17) (i := 2) dX0_middleSaid_17 rfl rfl ?_
    obtain ⟨ho2, hr2⟩ := ht1
    refine hb_ialdx (pc := 18) (x := hb_aI w 9 9 g0 x2.toNatClampNeg) dX0_middleSaid_18 rfl hg0 ho2 rfl ?_
    refine hb_iadd (pc := 19) dX0_middleSaid_19 ?_
    refine hb_istore_n (pc := 20) (i := 1) (ls1 := [some (hb_r 9 g0 0), some (hb_i (x1 + (hb_aI w 9 9 g0 x2.toNatClampNeg))), some (hb_i x2)]) dX0_middleSaid_20 rfl (by decide) rfl ?_
    refine hb_iload_n (pc := 21) (i := 1) dX0_middleSaid_21 rfl rfl ?_
    refine hb_aload_n (pc := 22) (i := 0) dX0_middleSaid_22 rfl rfl ?_
    refine hb_getIx (pc := 23) (x := hb_fI w 9 3 g0) dX0_middleSaid_23 fw_X0_65 cw_0 rfl hg0 rfl rfl ?_
    refine hb_iconst (pc := 26) (v := 2) dX0_middleSaid_26 (by decide) ?_
    refine hb_idiv (pc := 27) dX0_middleSaid_27 (by decide) ?_
    refine hb_icmp_le (pc := 28) (tgt := 48) dX0_middleSaid_28 (by decide) (fun c3 => ?_) (fun c3 => ?_)
    · have ht3 := hr2.1 c3
      refine hb_iinc (pc := 48) (v := x2 + (1 : Int32)) (ls1 := [some (hb_r 9 g0 0), some (hb_i (x1 + (hb_aI w 9 9 g0 x2.toNatClampNeg))), some (hb_i (x2 + (1 : Int32)))]) dX0_middleSaid_48 rfl rfl (by decide) rfl ?_
      refine hb_goto (pc := 51) (tgt := 4) dX0_middleSaid_51 (by decide) ?_
      exact ht3
    · have ht3 := hr2.2 c3
      refine hb_iload_n (pc := 31) (i := 2) dX0_middleSaid_31 rfl rfl ?_
      refine hb_bipush (pc := 32) (v := 100) dX0_middleSaid_32 (by decide) ?_
      refine hb_imul (pc := 34) dX0_middleSaid_34 ?_
      refine hb_aload_n (pc := 35) (i := 0) dX0_middleSaid_35 rfl rfl ?_
      refine hb_getIx (pc := 36) (x := hb_fI w 9 0 g0) dX0_middleSaid_36 fw_X0_9 cw_0 rfl hg0 rfl rfl ?_
      refine hb_iadd (pc := 39) dX0_middleSaid_39 ?_
      refine hb_iconst (pc := 40) (v := 1) dX0_middleSaid_40 (by decide) ?_
      refine hb_isub (pc := 41) dX0_middleSaid_41 ?_
      refine hb_aload_n (pc := 42) (i := 0) dX0_middleSaid_42 rfl rfl ?_
      refine hb_getIx (pc := 43) (x := hb_fI w 9 0 g0) dX0_middleSaid_43 fw_X0_9 cw_0 rfl hg0 rfl rfl ?_
      obtain ⟨ho4, hr4⟩ := ht3
      refine hb_idiv (pc := 46) dX0_middleSaid_46 ho4 ?_
      exact hb_iret (pc := 47) dX0_middleSaid_47 rfl hr4
theorem dX0_middleGift_0 : decode cX0_middleGift 0 = .ok (.iconst 0, 1) := by decide +kernel
theorem dX0_middleGift_1 : decode cX0_middleGift 1 = .ok (.istore_n 1, 1) := by decide +kernel
theorem dX0_middleGift_2 : decode cX0_middleGift 2 = .ok (.iconst 0, 1) := by decide +kernel
theorem dX0_middleGift_3 : decode cX0_middleGift 3 = .ok (.istore_n 2, 1) := by decide +kernel
theorem dX0_middleGift_4 : decode cX0_middleGift 4 = .ok (.iload_n 2, 1) := by decide +kernel
theorem dX0_middleGift_5 : decode cX0_middleGift 5 = .ok (.bipush 100, 2) := by decide +kernel
theorem dX0_middleGift_7 : decode cX0_middleGift 7 = .ok (.if_icmp .ge 30, 3) := by decide +kernel
theorem dX0_middleGift_10 : decode cX0_middleGift 10 = .ok (.iload_n 1, 1) := by decide +kernel
theorem dX0_middleGift_11 : decode cX0_middleGift 11 = .ok (.aload_n 0, 1) := by decide +kernel
theorem dX0_middleGift_12 : decode cX0_middleGift 12 = .ok (.getfield 29, 3) := by decide +kernel
theorem dX0_middleGift_15 : decode cX0_middleGift 15 = .ok (.iload_n 2, 1) := by decide +kernel
theorem dX0_middleGift_16 : decode cX0_middleGift 16 = .ok (.iaload, 1) := by decide +kernel
theorem dX0_middleGift_17 : decode cX0_middleGift 17 = .ok (.iadd, 1) := by decide +kernel
theorem dX0_middleGift_18 : decode cX0_middleGift 18 = .ok (.istore_n 1, 1) := by decide +kernel
theorem dX0_middleGift_19 : decode cX0_middleGift 19 = .ok (.iload_n 1, 1) := by decide +kernel
theorem dX0_middleGift_20 : decode cX0_middleGift 20 = .ok (.aload_n 0, 1) := by decide +kernel
theorem dX0_middleGift_21 : decode cX0_middleGift 21 = .ok (.getfield 65, 3) := by decide +kernel
theorem dX0_middleGift_24 : decode cX0_middleGift 24 = .ok (.iconst 2, 1) := by decide +kernel
theorem dX0_middleGift_25 : decode cX0_middleGift 25 = .ok (.idiv, 1) := by decide +kernel
theorem dX0_middleGift_26 : decode cX0_middleGift 26 = .ok (.if_icmp .le 5, 3) := by decide +kernel
theorem dX0_middleGift_29 : decode cX0_middleGift 29 = .ok (.iload_n 2, 1) := by decide +kernel
theorem dX0_middleGift_30 : decode cX0_middleGift 30 = .ok (.ireturn, 1) := by decide +kernel
theorem dX0_middleGift_31 : decode cX0_middleGift 31 = .ok (.iinc 2 1, 3) := by decide +kernel
theorem dX0_middleGift_34 : decode cX0_middleGift 34 = .ok (.goto (-30), 3) := by decide +kernel
theorem dX0_middleGift_37 : decode cX0_middleGift 37 = .ok (.iconst (-1), 1) := by decide +kernel
theorem dX0_middleGift_38 : decode cX0_middleGift 38 = .ok (.ireturn, 1) := by decide +kernel
set_option maxRecDepth 20000 in
theorem bk_X0_middleGift_0 {d : Nat} {w : hb_W} {Q : Option hb_V → hb_W → Prop} {g0 : Nat} (hg0 : g0 < hb_ct 9) (h : hb_R yX0_middleGift cX0_middleGift 3 (some .int) d 4 [some (hb_r 9 g0 0), some (hb_i (0 : Int32)), some (hb_i (0 : Int32))] [] w Q) : hb_R yX0_middleGift cX0_middleGift 3 (some .int) d 0 [some (hb_r 9 g0 0), none, none] [] w Q := by
  refine hb_iconst (pc := 0) (v := 0) dX0_middleGift_0 (by decide) ?_
  refine hb_istore_n (pc := 1) (i := 1) (ls1 := [some (hb_r 9 g0 0), some (hb_i (0 : Int32)), none]) dX0_middleGift_1 rfl (by decide) rfl ?_
  refine hb_iconst (pc := 2) (v := 0) dX0_middleGift_2 (by decide) ?_
  refine hb_istore_n (pc := 3) (i := 2) (ls1 := [some (hb_r 9 g0 0), some (hb_i (0 : Int32)), some (hb_i (0 : Int32))]) dX0_middleGift_3 rfl (by decide) rfl ?_
  exact h
set_option maxRecDepth 20000 in
theorem bk_X0_middleGift_4 {d : Nat} {w : hb_W} {Q : Option hb_V → hb_W → Prop} {g0 : Nat} {x1 : Int32} {x2 : Int32} (hg0 : g0 < hb_ct 9) (h : (((100 : Int32) ≤ x2) → Q (some (hb_i (-1 : Int32))) w) ∧ ((¬ (100 : Int32) ≤ x2) → vp_in x2 100 ∧ ((((x1 + (hb_aI w 9 3 g0 x2.toNatClampNeg)) ≤ ((hb_fI w 9 3 g0) / (2 : Int32))) → hb_R yX0_middleGift cX0_middleGift 3 (some .int) d 4 [some (hb_r 9 g0 0), some (hb_i (x1 + (hb_aI w 9 3 g0 x2.toNatClampNeg))), some (hb_i (x2 + (1 : Int32)))] [] w Q) ∧ ((¬ (x1 + (hb_aI w 9 3 g0 x2.toNatClampNeg)) ≤ ((hb_fI w 9 3 g0) / (2 : Int32))) → Q (some (hb_i x2)) w)))) : hb_R yX0_middleGift cX0_middleGift 3 (some .int) d 4 [some (hb_r 9 g0 0), some (hb_i x1), some (hb_i x2)] [] w Q := by
  refine hb_iload_n (pc := 4) (i := 2) dX0_middleGift_4 rfl rfl ?_
  refine hb_bipush (pc := 5) (v := 100) dX0_middleGift_5 (by decide) ?_
  refine hb_icmp_ge (pc := 7) (tgt := 37) dX0_middleGift_7 (by decide) (fun c1 => ?_) (fun c1 => ?_)
  · have ht1 := h.1 c1
    refine hb_iconst (pc := 37) (v := -1) dX0_middleGift_37 (by decide) ?_
    exact hb_iret (pc := 38) dX0_middleGift_38 rfl ht1
  · have ht1 := h.2 c1
    refine hb_iload_n (pc := 10) (i := 1) dX0_middleGift_10 rfl rfl ?_
    refine hb_aload_n (pc := 11) (i := 0) dX0_middleGift_11 rfl rfl ?_
    refine hb_getR (pc := 12) (g1 := g0) dX0_middleGift_12 fw_X0_29 cw_0 rfl hg0 rfl (by decide) rfl ?_
    refine hb_iload_n (pc := 15) (i := 2) dX0_middleGift_15 rfl rfl ?_
    obtain ⟨ho2, hr2⟩ := ht1
    refine hb_ialdx (pc := 16) (x := hb_aI w 9 3 g0 x2.toNatClampNeg) dX0_middleGift_16 rfl hg0 ho2 rfl ?_
    refine hb_iadd (pc := 17) dX0_middleGift_17 ?_
    refine hb_istore_n (pc := 18) (i := 1) (ls1 := [some (hb_r 9 g0 0), some (hb_i (x1 + (hb_aI w 9 3 g0 x2.toNatClampNeg))), some (hb_i x2)]) dX0_middleGift_18 rfl (by decide) rfl ?_
    refine hb_iload_n (pc := 19) (i := 1) dX0_middleGift_19 rfl rfl ?_
    refine hb_aload_n (pc := 20) (i := 0) dX0_middleGift_20 rfl rfl ?_
    refine hb_getIx (pc := 21) (x := hb_fI w 9 3 g0) dX0_middleGift_21 fw_X0_65 cw_0 rfl hg0 rfl rfl ?_
    refine hb_iconst (pc := 24) (v := 2) dX0_middleGift_24 (by decide) ?_
    refine hb_idiv (pc := 25) dX0_middleGift_25 (by decide) ?_
    refine hb_icmp_le (pc := 26) (tgt := 31) dX0_middleGift_26 (by decide) (fun c3 => ?_) (fun c3 => ?_)
    · have ht3 := hr2.1 c3
      refine hb_iinc (pc := 31) (v := x2 + (1 : Int32)) (ls1 := [some (hb_r 9 g0 0), some (hb_i (x1 + (hb_aI w 9 3 g0 x2.toNatClampNeg))), some (hb_i (x2 + (1 : Int32)))]) dX0_middleGift_31 rfl rfl (by decide) rfl ?_
      refine hb_goto (pc := 34) (tgt := 4) dX0_middleGift_34 (by decide) ?_
      exact ht3
    · have ht3 := hr2.2 c3
      refine hb_iload_n (pc := 29) (i := 2) dX0_middleGift_29 rfl rfl ?_
      exact hb_iret (pc := 30) dX0_middleGift_30 rfl ht3
theorem dX0_oftenestSaid_0 : decode cX0_oftenestSaid 0 = .ok (.iconst (-1), 1) := by decide +kernel
theorem dX0_oftenestSaid_1 : decode cX0_oftenestSaid 1 = .ok (.istore_n 1, 1) := by decide +kernel
theorem dX0_oftenestSaid_2 : decode cX0_oftenestSaid 2 = .ok (.iconst 0, 1) := by decide +kernel
theorem dX0_oftenestSaid_3 : decode cX0_oftenestSaid 3 = .ok (.istore_n 2, 1) := by decide +kernel
theorem dX0_oftenestSaid_4 : decode cX0_oftenestSaid 4 = .ok (.iconst 0, 1) := by decide +kernel
theorem dX0_oftenestSaid_5 : decode cX0_oftenestSaid 5 = .ok (.istore_n 3, 1) := by decide +kernel
theorem dX0_oftenestSaid_6 : decode cX0_oftenestSaid 6 = .ok (.iload_n 3, 1) := by decide +kernel
theorem dX0_oftenestSaid_7 : decode cX0_oftenestSaid 7 = .ok (.aload_n 0, 1) := by decide +kernel
theorem dX0_oftenestSaid_8 : decode cX0_oftenestSaid 8 = .ok (.getfield 9, 3) := by decide +kernel
theorem dX0_oftenestSaid_11 : decode cX0_oftenestSaid 11 = .ok (.if_icmp .ge 33, 3) := by decide +kernel
theorem dX0_oftenestSaid_14 : decode cX0_oftenestSaid 14 = .ok (.aload_n 0, 1) := by decide +kernel
theorem dX0_oftenestSaid_15 : decode cX0_oftenestSaid 15 = .ok (.getfield 38, 3) := by decide +kernel
theorem dX0_oftenestSaid_18 : decode cX0_oftenestSaid 18 = .ok (.iload_n 3, 1) := by decide +kernel
theorem dX0_oftenestSaid_19 : decode cX0_oftenestSaid 19 = .ok (.iaload, 1) := by decide +kernel
theorem dX0_oftenestSaid_20 : decode cX0_oftenestSaid 20 = .ok (.iload_n 2, 1) := by decide +kernel
theorem dX0_oftenestSaid_21 : decode cX0_oftenestSaid 21 = .ok (.if_icmp .le 17, 3) := by decide +kernel
theorem dX0_oftenestSaid_24 : decode cX0_oftenestSaid 24 = .ok (.aload_n 0, 1) := by decide +kernel
theorem dX0_oftenestSaid_25 : decode cX0_oftenestSaid 25 = .ok (.getfield 38, 3) := by decide +kernel
theorem dX0_oftenestSaid_28 : decode cX0_oftenestSaid 28 = .ok (.iload_n 3, 1) := by decide +kernel
theorem dX0_oftenestSaid_29 : decode cX0_oftenestSaid 29 = .ok (.iaload, 1) := by decide +kernel
theorem dX0_oftenestSaid_30 : decode cX0_oftenestSaid 30 = .ok (.istore_n 2, 1) := by decide +kernel
theorem dX0_oftenestSaid_31 : decode cX0_oftenestSaid 31 = .ok (.aload_n 0, 1) := by decide +kernel
theorem dX0_oftenestSaid_32 : decode cX0_oftenestSaid 32 = .ok (.getfield 35, 3) := by decide +kernel
theorem dX0_oftenestSaid_35 : decode cX0_oftenestSaid 35 = .ok (.iload_n 3, 1) := by decide +kernel
theorem dX0_oftenestSaid_36 : decode cX0_oftenestSaid 36 = .ok (.iaload, 1) := by decide +kernel
theorem dX0_oftenestSaid_37 : decode cX0_oftenestSaid 37 = .ok (.istore_n 1, 1) := by decide +kernel
theorem dX0_oftenestSaid_38 : decode cX0_oftenestSaid 38 = .ok (.iinc 3 1, 3) := by decide +kernel
theorem dX0_oftenestSaid_41 : decode cX0_oftenestSaid 41 = .ok (.goto (-35), 3) := by decide +kernel
theorem dX0_oftenestSaid_44 : decode cX0_oftenestSaid 44 = .ok (.iload_n 1, 1) := by decide +kernel
theorem dX0_oftenestSaid_45 : decode cX0_oftenestSaid 45 = .ok (.ireturn, 1) := by decide +kernel
set_option maxRecDepth 20000 in
theorem bk_X0_oftenestSaid_0 {d : Nat} {w : hb_W} {Q : Option hb_V → hb_W → Prop} {g0 : Nat} (hg0 : g0 < hb_ct 9) (h : hb_R yX0_oftenestSaid cX0_oftenestSaid 4 (some .int) d 6 [some (hb_r 9 g0 0), some (hb_i (-1 : Int32)), some (hb_i (0 : Int32)), some (hb_i (0 : Int32))] [] w Q) : hb_R yX0_oftenestSaid cX0_oftenestSaid 4 (some .int) d 0 [some (hb_r 9 g0 0), none, none, none] [] w Q := by
  refine hb_iconst (pc := 0) (v := -1) dX0_oftenestSaid_0 (by decide) ?_
  refine hb_istore_n (pc := 1) (i := 1) (ls1 := [some (hb_r 9 g0 0), some (hb_i (-1 : Int32)), none, none]) dX0_oftenestSaid_1 rfl (by decide) rfl ?_
  refine hb_iconst (pc := 2) (v := 0) dX0_oftenestSaid_2 (by decide) ?_
  refine hb_istore_n (pc := 3) (i := 2) (ls1 := [some (hb_r 9 g0 0), some (hb_i (-1 : Int32)), some (hb_i (0 : Int32)), none]) dX0_oftenestSaid_3 rfl (by decide) rfl ?_
  refine hb_iconst (pc := 4) (v := 0) dX0_oftenestSaid_4 (by decide) ?_
  refine hb_istore_n (pc := 5) (i := 3) (ls1 := [some (hb_r 9 g0 0), some (hb_i (-1 : Int32)), some (hb_i (0 : Int32)), some (hb_i (0 : Int32))]) dX0_oftenestSaid_5 rfl (by decide) rfl ?_
  exact h
set_option maxRecDepth 20000 in
theorem bk_X0_oftenestSaid_6 {d : Nat} {w : hb_W} {Q : Option hb_V → hb_W → Prop} {g0 : Nat} {x1 : Int32} {x2 : Int32} {x3 : Int32} (hg0 : g0 < hb_ct 9) (h : (((hb_fI w 9 0 g0) ≤ x3) → Q (some (hb_i x1)) w) ∧ ((¬ (hb_fI w 9 0 g0) ≤ x3) → vp_in x3 9 ∧ ((((hb_aI w 9 6 g0 x3.toNatClampNeg) ≤ x2) → hb_R yX0_oftenestSaid cX0_oftenestSaid 4 (some .int) d 6 [some (hb_r 9 g0 0), some (hb_i x1), some (hb_i x2), some (hb_i (x3 + (1 : Int32)))] [] w Q) ∧ ((¬ (hb_aI w 9 6 g0 x3.toNatClampNeg) ≤ x2) → vp_in x3 9 ∧ (vp_in x3 9 ∧ (hb_R yX0_oftenestSaid cX0_oftenestSaid 4 (some .int) d 6 [some (hb_r 9 g0 0), some (hb_i (hb_aI w 9 5 g0 x3.toNatClampNeg)), some (hb_i (hb_aI w 9 6 g0 x3.toNatClampNeg)), some (hb_i (x3 + (1 : Int32)))] [] w Q)))))) : hb_R yX0_oftenestSaid cX0_oftenestSaid 4 (some .int) d 6 [some (hb_r 9 g0 0), some (hb_i x1), some (hb_i x2), some (hb_i x3)] [] w Q := by
  refine hb_iload_n (pc := 6) (i := 3) dX0_oftenestSaid_6 rfl rfl ?_
  refine hb_aload_n (pc := 7) (i := 0) dX0_oftenestSaid_7 rfl rfl ?_
  refine hb_getIx (pc := 8) (x := hb_fI w 9 0 g0) dX0_oftenestSaid_8 fw_X0_9 cw_0 rfl hg0 rfl rfl ?_
  refine hb_icmp_ge (pc := 11) (tgt := 44) dX0_oftenestSaid_11 (by decide) (fun c1 => ?_) (fun c1 => ?_)
  · have ht1 := h.1 c1
    refine hb_iload_n (pc := 44) (i := 1) dX0_oftenestSaid_44 rfl rfl ?_
    exact hb_iret (pc := 45) dX0_oftenestSaid_45 rfl ht1
  · have ht1 := h.2 c1
    refine hb_aload_n (pc := 14) (i := 0) dX0_oftenestSaid_14 rfl rfl ?_
    refine hb_getR (pc := 15) (g1 := g0) dX0_oftenestSaid_15 fw_X0_38 cw_0 rfl hg0 rfl (by decide) rfl ?_
    refine hb_iload_n (pc := 18) (i := 3) dX0_oftenestSaid_18 rfl rfl ?_
    obtain ⟨ho2, hr2⟩ := ht1
    refine hb_ialdx (pc := 19) (x := hb_aI w 9 6 g0 x3.toNatClampNeg) dX0_oftenestSaid_19 rfl hg0 ho2 rfl ?_
    refine hb_iload_n (pc := 20) (i := 2) dX0_oftenestSaid_20 rfl rfl ?_
    refine hb_icmp_le (pc := 21) (tgt := 38) dX0_oftenestSaid_21 (by decide) (fun c3 => ?_) (fun c3 => ?_)
    · have ht3 := hr2.1 c3
      refine hb_iinc (pc := 38) (v := x3 + (1 : Int32)) (ls1 := [some (hb_r 9 g0 0), some (hb_i x1), some (hb_i x2), some (hb_i (x3 + (1 : Int32)))]) dX0_oftenestSaid_38 rfl rfl (by decide) rfl ?_
      refine hb_goto (pc := 41) (tgt := 6) dX0_oftenestSaid_41 (by decide) ?_
      exact ht3
    · have ht3 := hr2.2 c3
      refine hb_aload_n (pc := 24) (i := 0) dX0_oftenestSaid_24 rfl rfl ?_
      refine hb_getR (pc := 25) (g1 := g0) dX0_oftenestSaid_25 fw_X0_38 cw_0 rfl hg0 rfl (by decide) rfl ?_
      refine hb_iload_n (pc := 28) (i := 3) dX0_oftenestSaid_28 rfl rfl ?_
      obtain ⟨ho4, hr4⟩ := ht3
      refine hb_ialdx (pc := 29) (x := hb_aI w 9 6 g0 x3.toNatClampNeg) dX0_oftenestSaid_29 rfl hg0 ho4 rfl ?_
      refine hb_istore_n (pc := 30) (i := 2) (ls1 := [some (hb_r 9 g0 0), some (hb_i x1), some (hb_i (hb_aI w 9 6 g0 x3.toNatClampNeg)), some (hb_i x3)]) dX0_oftenestSaid_30 rfl (by decide) rfl ?_
      refine hb_aload_n (pc := 31) (i := 0) dX0_oftenestSaid_31 rfl rfl ?_
      refine hb_getR (pc := 32) (g1 := g0) dX0_oftenestSaid_32 fw_X0_35 cw_0 rfl hg0 rfl (by decide) rfl ?_
      refine hb_iload_n (pc := 35) (i := 3) dX0_oftenestSaid_35 rfl rfl ?_
      obtain ⟨ho5, hr5⟩ := hr4
      refine hb_ialdx (pc := 36) (x := hb_aI w 9 5 g0 x3.toNatClampNeg) dX0_oftenestSaid_36 rfl hg0 ho5 rfl ?_
      refine hb_istore_n (pc := 37) (i := 1) (ls1 := [some (hb_r 9 g0 0), some (hb_i (hb_aI w 9 5 g0 x3.toNatClampNeg)), some (hb_i (hb_aI w 9 6 g0 x3.toNatClampNeg)), some (hb_i x3)]) dX0_oftenestSaid_37 rfl (by decide) rfl ?_
      refine hb_iinc (pc := 38) (v := x3 + (1 : Int32)) (ls1 := [some (hb_r 9 g0 0), some (hb_i (hb_aI w 9 5 g0 x3.toNatClampNeg)), some (hb_i (hb_aI w 9 6 g0 x3.toNatClampNeg)), some (hb_i (x3 + (1 : Int32)))]) dX0_oftenestSaid_38 rfl rfl (by decide) rfl ?_
      refine hb_goto (pc := 41) (tgt := 6) dX0_oftenestSaid_41 (by decide) ?_
      exact hr5
theorem dX0_oftenestHood_0 : decode cX0_oftenestHood 0 = .ok (.iconst (-1), 1) := by decide +kernel
theorem dX0_oftenestHood_1 : decode cX0_oftenestHood 1 = .ok (.istore_n 1, 1) := by decide +kernel
theorem dX0_oftenestHood_2 : decode cX0_oftenestHood 2 = .ok (.iconst 0, 1) := by decide +kernel
theorem dX0_oftenestHood_3 : decode cX0_oftenestHood 3 = .ok (.istore_n 2, 1) := by decide +kernel
theorem dX0_oftenestHood_4 : decode cX0_oftenestHood 4 = .ok (.iconst 0, 1) := by decide +kernel
theorem dX0_oftenestHood_5 : decode cX0_oftenestHood 5 = .ok (.istore_n 3, 1) := by decide +kernel
theorem dX0_oftenestHood_6 : decode cX0_oftenestHood 6 = .ok (.iload_n 3, 1) := by decide +kernel
theorem dX0_oftenestHood_7 : decode cX0_oftenestHood 7 = .ok (.bipush 64, 2) := by decide +kernel
theorem dX0_oftenestHood_9 : decode cX0_oftenestHood 9 = .ok (.if_icmp .ge 28, 3) := by decide +kernel
theorem dX0_oftenestHood_12 : decode cX0_oftenestHood 12 = .ok (.aload_n 0, 1) := by decide +kernel
theorem dX0_oftenestHood_13 : decode cX0_oftenestHood 13 = .ok (.getfield 22, 3) := by decide +kernel
theorem dX0_oftenestHood_16 : decode cX0_oftenestHood 16 = .ok (.iload_n 3, 1) := by decide +kernel
theorem dX0_oftenestHood_17 : decode cX0_oftenestHood 17 = .ok (.iaload, 1) := by decide +kernel
theorem dX0_oftenestHood_18 : decode cX0_oftenestHood 18 = .ok (.iload_n 2, 1) := by decide +kernel
theorem dX0_oftenestHood_19 : decode cX0_oftenestHood 19 = .ok (.if_icmp .le 12, 3) := by decide +kernel
theorem dX0_oftenestHood_22 : decode cX0_oftenestHood 22 = .ok (.aload_n 0, 1) := by decide +kernel
theorem dX0_oftenestHood_23 : decode cX0_oftenestHood 23 = .ok (.getfield 22, 3) := by decide +kernel
theorem dX0_oftenestHood_26 : decode cX0_oftenestHood 26 = .ok (.iload_n 3, 1) := by decide +kernel
theorem dX0_oftenestHood_27 : decode cX0_oftenestHood 27 = .ok (.iaload, 1) := by decide +kernel
theorem dX0_oftenestHood_28 : decode cX0_oftenestHood 28 = .ok (.istore_n 2, 1) := by decide +kernel
theorem dX0_oftenestHood_29 : decode cX0_oftenestHood 29 = .ok (.iload_n 3, 1) := by decide +kernel
theorem dX0_oftenestHood_30 : decode cX0_oftenestHood 30 = .ok (.istore_n 1, 1) := by decide +kernel
theorem dX0_oftenestHood_31 : decode cX0_oftenestHood 31 = .ok (.iinc 3 1, 3) := by decide +kernel
theorem dX0_oftenestHood_34 : decode cX0_oftenestHood 34 = .ok (.goto (-28), 3) := by decide +kernel
theorem dX0_oftenestHood_37 : decode cX0_oftenestHood 37 = .ok (.iload_n 1, 1) := by decide +kernel
theorem dX0_oftenestHood_38 : decode cX0_oftenestHood 38 = .ok (.ireturn, 1) := by decide +kernel
set_option maxRecDepth 20000 in
theorem bk_X0_oftenestHood_0 {d : Nat} {w : hb_W} {Q : Option hb_V → hb_W → Prop} {g0 : Nat} (hg0 : g0 < hb_ct 9) (h : hb_R yX0_oftenestHood cX0_oftenestHood 4 (some .int) d 6 [some (hb_r 9 g0 0), some (hb_i (-1 : Int32)), some (hb_i (0 : Int32)), some (hb_i (0 : Int32))] [] w Q) : hb_R yX0_oftenestHood cX0_oftenestHood 4 (some .int) d 0 [some (hb_r 9 g0 0), none, none, none] [] w Q := by
  refine hb_iconst (pc := 0) (v := -1) dX0_oftenestHood_0 (by decide) ?_
  refine hb_istore_n (pc := 1) (i := 1) (ls1 := [some (hb_r 9 g0 0), some (hb_i (-1 : Int32)), none, none]) dX0_oftenestHood_1 rfl (by decide) rfl ?_
  refine hb_iconst (pc := 2) (v := 0) dX0_oftenestHood_2 (by decide) ?_
  refine hb_istore_n (pc := 3) (i := 2) (ls1 := [some (hb_r 9 g0 0), some (hb_i (-1 : Int32)), some (hb_i (0 : Int32)), none]) dX0_oftenestHood_3 rfl (by decide) rfl ?_
  refine hb_iconst (pc := 4) (v := 0) dX0_oftenestHood_4 (by decide) ?_
  refine hb_istore_n (pc := 5) (i := 3) (ls1 := [some (hb_r 9 g0 0), some (hb_i (-1 : Int32)), some (hb_i (0 : Int32)), some (hb_i (0 : Int32))]) dX0_oftenestHood_5 rfl (by decide) rfl ?_
  exact h
set_option maxRecDepth 20000 in
theorem bk_X0_oftenestHood_6 {d : Nat} {w : hb_W} {Q : Option hb_V → hb_W → Prop} {g0 : Nat} {x1 : Int32} {x2 : Int32} {x3 : Int32} (hg0 : g0 < hb_ct 9) (h : (((64 : Int32) ≤ x3) → Q (some (hb_i x1)) w) ∧ ((¬ (64 : Int32) ≤ x3) → vp_in x3 64 ∧ ((((hb_aI w 9 1 g0 x3.toNatClampNeg) ≤ x2) → hb_R yX0_oftenestHood cX0_oftenestHood 4 (some .int) d 6 [some (hb_r 9 g0 0), some (hb_i x1), some (hb_i x2), some (hb_i (x3 + (1 : Int32)))] [] w Q) ∧ ((¬ (hb_aI w 9 1 g0 x3.toNatClampNeg) ≤ x2) → vp_in x3 64 ∧ (hb_R yX0_oftenestHood cX0_oftenestHood 4 (some .int) d 6 [some (hb_r 9 g0 0), some (hb_i x3), some (hb_i (hb_aI w 9 1 g0 x3.toNatClampNeg)), some (hb_i (x3 + (1 : Int32)))] [] w Q))))) : hb_R yX0_oftenestHood cX0_oftenestHood 4 (some .int) d 6 [some (hb_r 9 g0 0), some (hb_i x1), some (hb_i x2), some (hb_i x3)] [] w Q := by
  refine hb_iload_n (pc := 6) (i := 3) dX0_oftenestHood_6 rfl rfl ?_
  refine hb_bipush (pc := 7) (v := 64) dX0_oftenestHood_7 (by decide) ?_
  refine hb_icmp_ge (pc := 9) (tgt := 37) dX0_oftenestHood_9 (by decide) (fun c1 => ?_) (fun c1 => ?_)
  · have ht1 := h.1 c1
    refine hb_iload_n (pc := 37) (i := 1) dX0_oftenestHood_37 rfl rfl ?_
    exact hb_iret (pc := 38) dX0_oftenestHood_38 rfl ht1
  · have ht1 := h.2 c1
    refine hb_aload_n (pc := 12) (i := 0) dX0_oftenestHood_12 rfl rfl ?_
    refine hb_getR (pc := 13) (g1 := g0) dX0_oftenestHood_13 fw_X0_22 cw_0 rfl hg0 rfl (by decide) rfl ?_
    refine hb_iload_n (pc := 16) (i := 3) dX0_oftenestHood_16 rfl rfl ?_
    obtain ⟨ho2, hr2⟩ := ht1
    refine hb_ialdx (pc := 17) (x := hb_aI w 9 1 g0 x3.toNatClampNeg) dX0_oftenestHood_17 rfl hg0 ho2 rfl ?_
    refine hb_iload_n (pc := 18) (i := 2) dX0_oftenestHood_18 rfl rfl ?_
    refine hb_icmp_le (pc := 19) (tgt := 31) dX0_oftenestHood_19 (by decide) (fun c3 => ?_) (fun c3 => ?_)
    · have ht3 := hr2.1 c3
      refine hb_iinc (pc := 31) (v := x3 + (1 : Int32)) (ls1 := [some (hb_r 9 g0 0), some (hb_i x1), some (hb_i x2), some (hb_i (x3 + (1 : Int32)))]) dX0_oftenestHood_31 rfl rfl (by decide) rfl ?_
      refine hb_goto (pc := 34) (tgt := 6) dX0_oftenestHood_34 (by decide) ?_
      exact ht3
    · have ht3 := hr2.2 c3
      refine hb_aload_n (pc := 22) (i := 0) dX0_oftenestHood_22 rfl rfl ?_
      refine hb_getR (pc := 23) (g1 := g0) dX0_oftenestHood_23 fw_X0_22 cw_0 rfl hg0 rfl (by decide) rfl ?_
      refine hb_iload_n (pc := 26) (i := 3) dX0_oftenestHood_26 rfl rfl ?_
      obtain ⟨ho4, hr4⟩ := ht3
      refine hb_ialdx (pc := 27) (x := hb_aI w 9 1 g0 x3.toNatClampNeg) dX0_oftenestHood_27 rfl hg0 ho4 rfl ?_
      refine hb_istore_n (pc := 28) (i := 2) (ls1 := [some (hb_r 9 g0 0), some (hb_i x1), some (hb_i (hb_aI w 9 1 g0 x3.toNatClampNeg)), some (hb_i x3)]) dX0_oftenestHood_28 rfl (by decide) rfl ?_
      refine hb_iload_n (pc := 29) (i := 3) dX0_oftenestHood_29 rfl rfl ?_
      refine hb_istore_n (pc := 30) (i := 1) (ls1 := [some (hb_r 9 g0 0), some (hb_i x3), some (hb_i (hb_aI w 9 1 g0 x3.toNatClampNeg)), some (hb_i x3)]) dX0_oftenestHood_30 rfl (by decide) rfl ?_
      refine hb_iinc (pc := 31) (v := x3 + (1 : Int32)) (ls1 := [some (hb_r 9 g0 0), some (hb_i x3), some (hb_i (hb_aI w 9 1 g0 x3.toNatClampNeg)), some (hb_i (x3 + (1 : Int32)))]) dX0_oftenestHood_31 rfl rfl (by decide) rfl ?_
      refine hb_goto (pc := 34) (tgt := 6) dX0_oftenestHood_34 (by decide) ?_
      exact hr4
theorem dX0_outBy_0 : decode cX0_outBy 0 = .ok (.iload_n 1, 1) := by decide +kernel
theorem dX0_outBy_1 : decode cX0_outBy 1 = .ok (.tableswitch 84 0 4 #[35, 48, 61, 66, 71], 35) := by decide +kernel
theorem dX0_outBy_36 : decode cX0_outBy 36 = .ok (.aload_n 0, 1) := by decide +kernel
theorem dX0_outBy_37 : decode cX0_outBy 37 = .ok (.invokevirtual 122, 3) := by decide +kernel
theorem dX0_outBy_40 : decode cX0_outBy 40 = .ok (.aload_n 0, 1) := by decide +kernel
theorem dX0_outBy_41 : decode cX0_outBy 41 = .ok (.getfield 68, 3) := by decide +kernel
theorem dX0_outBy_44 : decode cX0_outBy 44 = .ok (.isub, 1) := by decide +kernel
theorem dX0_outBy_45 : decode cX0_outBy 45 = .ok (.invokestatic 126, 3) := by decide +kernel
theorem dX0_outBy_48 : decode cX0_outBy 48 = .ok (.ireturn, 1) := by decide +kernel
theorem dX0_outBy_49 : decode cX0_outBy 49 = .ok (.aload_n 0, 1) := by decide +kernel
theorem dX0_outBy_50 : decode cX0_outBy 50 = .ok (.invokevirtual 129, 3) := by decide +kernel
theorem dX0_outBy_53 : decode cX0_outBy 53 = .ok (.aload_n 0, 1) := by decide +kernel
theorem dX0_outBy_54 : decode cX0_outBy 54 = .ok (.getfield 68, 3) := by decide +kernel
theorem dX0_outBy_57 : decode cX0_outBy 57 = .ok (.isub, 1) := by decide +kernel
theorem dX0_outBy_58 : decode cX0_outBy 58 = .ok (.invokestatic 126, 3) := by decide +kernel
theorem dX0_outBy_61 : decode cX0_outBy 61 = .ok (.ireturn, 1) := by decide +kernel
theorem dX0_outBy_62 : decode cX0_outBy 62 = .ok (.aload_n 0, 1) := by decide +kernel
theorem dX0_outBy_63 : decode cX0_outBy 63 = .ok (.invokevirtual 132, 3) := by decide +kernel
theorem dX0_outBy_66 : decode cX0_outBy 66 = .ok (.ireturn, 1) := by decide +kernel
theorem dX0_outBy_67 : decode cX0_outBy 67 = .ok (.aload_n 0, 1) := by decide +kernel
theorem dX0_outBy_68 : decode cX0_outBy 68 = .ok (.invokevirtual 135, 3) := by decide +kernel
theorem dX0_outBy_71 : decode cX0_outBy 71 = .ok (.ireturn, 1) := by decide +kernel
theorem dX0_outBy_72 : decode cX0_outBy 72 = .ok (.aload_n 0, 1) := by decide +kernel
theorem dX0_outBy_73 : decode cX0_outBy 73 = .ok (.invokevirtual 138, 3) := by decide +kernel
theorem dX0_outBy_76 : decode cX0_outBy 76 = .ok (.aload_n 0, 1) := by decide +kernel
theorem dX0_outBy_77 : decode cX0_outBy 77 = .ok (.invokevirtual 141, 3) := by decide +kernel
theorem dX0_outBy_80 : decode cX0_outBy 80 = .ok (.isub, 1) := by decide +kernel
theorem dX0_outBy_81 : decode cX0_outBy 81 = .ok (.invokestatic 126, 3) := by decide +kernel
theorem dX0_outBy_84 : decode cX0_outBy 84 = .ok (.ireturn, 1) := by decide +kernel
theorem dX0_outBy_85 : decode cX0_outBy 85 = .ok (.aload_n 0, 1) := by decide +kernel
theorem dX0_outBy_86 : decode cX0_outBy 86 = .ok (.invokevirtual 144, 3) := by decide +kernel
theorem dX0_outBy_89 : decode cX0_outBy 89 = .ok (.ireturn, 1) := by decide +kernel
set_option maxRecDepth 20000 in
theorem bk_X0_outBy_0 {d : Nat} {w : hb_W} {Q : Option hb_V → hb_W → Prop} {g0 : Nat} {x1 : Int32} (hg0 : g0 < hb_ct 9) (h : (x1 = (0 : Int32) → hb_O yX0_unlikeSaid cX0_unlikeSaid 2 (some .int) d [hb_r 9 g0 0] w (fun rv w1 => hb_R yX0_outBy cX0_outBy 2 (some .int) (d + 1) 40 [some (hb_r 9 g0 0), some (hb_i x1)] (rv.toList ++ []) w1 Q)) ∧ (x1 = (1 : Int32) → hb_O yX0_runsSaid cX0_runsSaid 1 (some .int) d [hb_r 9 g0 0] w (fun rv w1 => hb_R yX0_outBy cX0_outBy 2 (some .int) (d + 1) 53 [some (hb_r 9 g0 0), some (hb_i x1)] (rv.toList ++ []) w1 Q)) ∧ (x1 = (2 : Int32) → hb_O yX0_mostToldAbove cX0_mostToldAbove 3 (some .int) d [hb_r 9 g0 0] w (fun rv w1 => hb_R yX0_outBy cX0_outBy 2 (some .int) (d + 1) 66 [some (hb_r 9 g0 0), some (hb_i x1)] (rv.toList ++ []) w1 Q)) ∧ (x1 = (3 : Int32) → hb_O yX0_wronglyThere cX0_wronglyThere 3 (some .int) d [hb_r 9 g0 0] w (fun rv w1 => hb_R yX0_outBy cX0_outBy 2 (some .int) (d + 1) 71 [some (hb_r 9 g0 0), some (hb_i x1)] (rv.toList ++ []) w1 Q)) ∧ (x1 = (4 : Int32) → hb_O yX0_middleSaid cX0_middleSaid 3 (some .int) d [hb_r 9 g0 0] w (fun rv w1 => hb_R yX0_outBy cX0_outBy 2 (some .int) (d + 1) 76 [some (hb_r 9 g0 0), some (hb_i x1)] (rv.toList ++ []) w1 Q)) ∧ (¬ x1 = (0 : Int32) → ¬ x1 = (1 : Int32) → ¬ x1 = (2 : Int32) → ¬ x1 = (3 : Int32) → ¬ x1 = (4 : Int32) → hb_O yX0_oftenestMissed cX0_oftenestMissed 4 (some .int) d [hb_r 9 g0 0] w (fun rv w1 => hb_R yX0_outBy cX0_outBy 2 (some .int) (d + 1) 89 [some (hb_r 9 g0 0), some (hb_i x1)] (rv.toList ++ []) w1 Q))) : hb_R yX0_outBy cX0_outBy 2 (some .int) (d + 1) 0 [some (hb_r 9 g0 0), some (hb_i x1)] [] w Q := by
  refine hb_iload_n (pc := 0) (i := 1) dX0_outBy_0 rfl rfl ?_
  by_cases e1_0 : x1 = (0 : Int32)
  · have hk1_0 := h.1 e1_0
    have ei : x1.toInt = 0 := by rw [e1_0]; rfl
    refine hb_tabIn (pc := 1) (tgt := 36) (off := 35) dX0_outBy_1 (by rw [ei]; decide) (by rw [ei]; decide) (by rw [ei]; rfl) (by decide) ?_
    refine hb_aload_n (pc := 36) (i := 0) dX0_outBy_36 rfl rfl ?_
    exact hb_callV (pc := 37) (As := []) (st := []) dX0_outBy_37 ml_X0_122 mf_X0_unlikeSaid mi_X0_unlikeSaid (ci := 0) rfl rfl hg0 rfl rfl (Nat.le_of_ble_eq_true rfl) (Nat.le_of_ble_eq_true rfl) hk1_0 (fun _ _ q => q)
  by_cases e1_1 : x1 = (1 : Int32)
  · have hk1_1 := h.2.1 e1_1
    have ei : x1.toInt = 1 := by rw [e1_1]; rfl
    refine hb_tabIn (pc := 1) (tgt := 49) (off := 48) dX0_outBy_1 (by rw [ei]; decide) (by rw [ei]; decide) (by rw [ei]; rfl) (by decide) ?_
    refine hb_aload_n (pc := 49) (i := 0) dX0_outBy_49 rfl rfl ?_
    exact hb_callV (pc := 50) (As := []) (st := []) dX0_outBy_50 ml_X0_129 mf_X0_runsSaid mi_X0_runsSaid (ci := 0) rfl rfl hg0 rfl rfl (Nat.le_of_ble_eq_true rfl) (Nat.le_of_ble_eq_true rfl) hk1_1 (fun _ _ q => q)
  by_cases e1_2 : x1 = (2 : Int32)
  · have hk1_2 := h.2.2.1 e1_2
    have ei : x1.toInt = 2 := by rw [e1_2]; rfl
    refine hb_tabIn (pc := 1) (tgt := 62) (off := 61) dX0_outBy_1 (by rw [ei]; decide) (by rw [ei]; decide) (by rw [ei]; rfl) (by decide) ?_
    refine hb_aload_n (pc := 62) (i := 0) dX0_outBy_62 rfl rfl ?_
    exact hb_callV (pc := 63) (As := []) (st := []) dX0_outBy_63 ml_X0_132 mf_X0_mostToldAbove mi_X0_mostToldAbove (ci := 0) rfl rfl hg0 rfl rfl (Nat.le_of_ble_eq_true rfl) (Nat.le_of_ble_eq_true rfl) hk1_2 (fun _ _ q => q)
  by_cases e1_3 : x1 = (3 : Int32)
  · have hk1_3 := h.2.2.2.1 e1_3
    have ei : x1.toInt = 3 := by rw [e1_3]; rfl
    refine hb_tabIn (pc := 1) (tgt := 67) (off := 66) dX0_outBy_1 (by rw [ei]; decide) (by rw [ei]; decide) (by rw [ei]; rfl) (by decide) ?_
    refine hb_aload_n (pc := 67) (i := 0) dX0_outBy_67 rfl rfl ?_
    exact hb_callV (pc := 68) (As := []) (st := []) dX0_outBy_68 ml_X0_135 mf_X0_wronglyThere mi_X0_wronglyThere (ci := 0) rfl rfl hg0 rfl rfl (Nat.le_of_ble_eq_true rfl) (Nat.le_of_ble_eq_true rfl) hk1_3 (fun _ _ q => q)
  by_cases e1_4 : x1 = (4 : Int32)
  · have hk1_4 := h.2.2.2.2.1 e1_4
    have ei : x1.toInt = 4 := by rw [e1_4]; rfl
    refine hb_tabIn (pc := 1) (tgt := 72) (off := 71) dX0_outBy_1 (by rw [ei]; decide) (by rw [ei]; decide) (by rw [ei]; rfl) (by decide) ?_
    refine hb_aload_n (pc := 72) (i := 0) dX0_outBy_72 rfl rfl ?_
    exact hb_callV (pc := 73) (As := []) (st := []) dX0_outBy_73 ml_X0_138 mf_X0_middleSaid mi_X0_middleSaid (ci := 0) rfl rfl hg0 rfl rfl (Nat.le_of_ble_eq_true rfl) (Nat.le_of_ble_eq_true rfl) hk1_4 (fun _ _ q => q)
  have hk1_d := h.2.2.2.2.2 e1_0 e1_1 e1_2 e1_3 e1_4
  have n1_0 := lv_neT (a := 0) e1_0 rfl
  have n1_1 := lv_neT (a := 1) e1_1 rfl
  have n1_2 := lv_neT (a := 2) e1_2 rfl
  have n1_3 := lv_neT (a := 3) e1_3 rfl
  have n1_4 := lv_neT (a := 4) e1_4 rfl
  refine hb_tabOut (pc := 1) (tgt := 85) dX0_outBy_1 (by omega) (by decide) ?_
  refine hb_aload_n (pc := 85) (i := 0) dX0_outBy_85 rfl rfl ?_
  exact hb_callV (pc := 86) (As := []) (st := []) dX0_outBy_86 ml_X0_144 mf_X0_oftenestMissed mi_X0_oftenestMissed (ci := 0) rfl rfl hg0 rfl rfl (Nat.le_of_ble_eq_true rfl) (Nat.le_of_ble_eq_true rfl) hk1_d (fun _ _ q => q)
set_option maxRecDepth 20000 in
theorem bk_X0_outBy_40 {d : Nat} {w : hb_W} {Q : Option hb_V → hb_W → Prop} {g0 : Nat} {x1 : Int32} {xs0 : Int32} (hg0 : g0 < hb_ct 9) (h : Q (some (hb_i (if 0 ≤ (xs0 - (hb_fI w 9 4 g0)) then (xs0 - (hb_fI w 9 4 g0)) else 0 - (xs0 - (hb_fI w 9 4 g0))))) w) : hb_R yX0_outBy cX0_outBy 2 (some .int) (d + 1) 40 [some (hb_r 9 g0 0), some (hb_i x1)] [hb_i xs0] w Q := by
  refine hb_aload_n (pc := 40) (i := 0) dX0_outBy_40 rfl rfl ?_
  refine hb_getIx (pc := 41) (x := hb_fI w 9 4 g0) dX0_outBy_41 fw_X0_68 cw_0 rfl hg0 rfl rfl ?_
  refine hb_isub (pc := 44) dX0_outBy_44 ?_
  refine hb_mabs (pc := 45) (b := 0) dX0_outBy_45 ml_X0_126 (Nat.le_of_ble_eq_true rfl) ?_
  exact hb_iret (pc := 48) dX0_outBy_48 rfl h
set_option maxRecDepth 20000 in
theorem bk_X0_outBy_53 {d : Nat} {w : hb_W} {Q : Option hb_V → hb_W → Prop} {g0 : Nat} {x1 : Int32} {xs0 : Int32} (hg0 : g0 < hb_ct 9) (h : Q (some (hb_i (if 0 ≤ (xs0 - (hb_fI w 9 4 g0)) then (xs0 - (hb_fI w 9 4 g0)) else 0 - (xs0 - (hb_fI w 9 4 g0))))) w) : hb_R yX0_outBy cX0_outBy 2 (some .int) (d + 1) 53 [some (hb_r 9 g0 0), some (hb_i x1)] [hb_i xs0] w Q := by
  refine hb_aload_n (pc := 53) (i := 0) dX0_outBy_53 rfl rfl ?_
  refine hb_getIx (pc := 54) (x := hb_fI w 9 4 g0) dX0_outBy_54 fw_X0_68 cw_0 rfl hg0 rfl rfl ?_
  refine hb_isub (pc := 57) dX0_outBy_57 ?_
  refine hb_mabs (pc := 58) (b := 0) dX0_outBy_58 ml_X0_126 (Nat.le_of_ble_eq_true rfl) ?_
  exact hb_iret (pc := 61) dX0_outBy_61 rfl h
set_option maxRecDepth 20000 in
theorem bk_X0_outBy_66 {d : Nat} {w : hb_W} {Q : Option hb_V → hb_W → Prop} {g0 : Nat} {x1 : Int32} {xs0 : Int32} (hg0 : g0 < hb_ct 9) (h : Q (some (hb_i xs0)) w) : hb_R yX0_outBy cX0_outBy 2 (some .int) (d + 1) 66 [some (hb_r 9 g0 0), some (hb_i x1)] [hb_i xs0] w Q := by
  exact hb_iret (pc := 66) dX0_outBy_66 rfl h
set_option maxRecDepth 20000 in
theorem bk_X0_outBy_71 {d : Nat} {w : hb_W} {Q : Option hb_V → hb_W → Prop} {g0 : Nat} {x1 : Int32} {xs0 : Int32} (hg0 : g0 < hb_ct 9) (h : Q (some (hb_i xs0)) w) : hb_R yX0_outBy cX0_outBy 2 (some .int) (d + 1) 71 [some (hb_r 9 g0 0), some (hb_i x1)] [hb_i xs0] w Q := by
  exact hb_iret (pc := 71) dX0_outBy_71 rfl h
set_option maxRecDepth 20000 in
theorem bk_X0_outBy_76 {d : Nat} {w : hb_W} {Q : Option hb_V → hb_W → Prop} {g0 : Nat} {x1 : Int32} {xs0 : Int32} (hg0 : g0 < hb_ct 9) (h : hb_O yX0_middleGift cX0_middleGift 3 (some .int) d [hb_r 9 g0 0] w (fun rv w1 => hb_R yX0_outBy cX0_outBy 2 (some .int) (d + 1) 80 [some (hb_r 9 g0 0), some (hb_i x1)] (rv.toList ++ [hb_i xs0]) w1 Q)) : hb_R yX0_outBy cX0_outBy 2 (some .int) (d + 1) 76 [some (hb_r 9 g0 0), some (hb_i x1)] [hb_i xs0] w Q := by
  refine hb_aload_n (pc := 76) (i := 0) dX0_outBy_76 rfl rfl ?_
  exact hb_callV (pc := 77) (As := []) (st := [hb_i xs0]) dX0_outBy_77 ml_X0_141 mf_X0_middleGift mi_X0_middleGift (ci := 0) rfl rfl hg0 rfl rfl (Nat.le_of_ble_eq_true rfl) (Nat.le_of_ble_eq_true rfl) h (fun _ _ q => q)
set_option maxRecDepth 20000 in
theorem bk_X0_outBy_80 {d : Nat} {w : hb_W} {Q : Option hb_V → hb_W → Prop} {g0 : Nat} {x1 : Int32} {xs0 : Int32} {xs1 : Int32} (hg0 : g0 < hb_ct 9) (h : Q (some (hb_i (if 0 ≤ (xs0 - xs1) then (xs0 - xs1) else 0 - (xs0 - xs1)))) w) : hb_R yX0_outBy cX0_outBy 2 (some .int) (d + 1) 80 [some (hb_r 9 g0 0), some (hb_i x1)] [hb_i xs1, hb_i xs0] w Q := by
  refine hb_isub (pc := 80) dX0_outBy_80 ?_
  refine hb_mabs (pc := 81) (b := 0) dX0_outBy_81 ml_X0_126 (Nat.le_of_ble_eq_true rfl) ?_
  exact hb_iret (pc := 84) dX0_outBy_84 rfl h
set_option maxRecDepth 20000 in
theorem bk_X0_outBy_89 {d : Nat} {w : hb_W} {Q : Option hb_V → hb_W → Prop} {g0 : Nat} {x1 : Int32} {xs0 : Int32} (hg0 : g0 < hb_ct 9) (h : Q (some (hb_i xs0)) w) : hb_R yX0_outBy cX0_outBy 2 (some .int) (d + 1) 89 [some (hb_r 9 g0 0), some (hb_i x1)] [hb_i xs0] w Q := by
  exact hb_iret (pc := 89) dX0_outBy_89 rfl h
theorem dX0_mostToldAbove_0 : decode cX0_mostToldAbove 0 = .ok (.iconst 0, 1) := by decide +kernel
theorem dX0_mostToldAbove_1 : decode cX0_mostToldAbove 1 = .ok (.istore_n 1, 1) := by decide +kernel
theorem dX0_mostToldAbove_2 : decode cX0_mostToldAbove 2 = .ok (.iconst 0, 1) := by decide +kernel
theorem dX0_mostToldAbove_3 : decode cX0_mostToldAbove 3 = .ok (.istore_n 2, 1) := by decide +kernel
theorem dX0_mostToldAbove_4 : decode cX0_mostToldAbove 4 = .ok (.iload_n 2, 1) := by decide +kernel
theorem dX0_mostToldAbove_5 : decode cX0_mostToldAbove 5 = .ok (.bipush 64, 2) := by decide +kernel
theorem dX0_mostToldAbove_7 : decode cX0_mostToldAbove 7 = .ok (.if_icmp .ge 26, 3) := by decide +kernel
theorem dX0_mostToldAbove_10 : decode cX0_mostToldAbove 10 = .ok (.iload_n 1, 1) := by decide +kernel
theorem dX0_mostToldAbove_11 : decode cX0_mostToldAbove 11 = .ok (.aload_n 0, 1) := by decide +kernel
theorem dX0_mostToldAbove_12 : decode cX0_mostToldAbove 12 = .ok (.iload_n 2, 1) := by decide +kernel
theorem dX0_mostToldAbove_13 : decode cX0_mostToldAbove 13 = .ok (.invokevirtual 147, 3) := by decide +kernel
theorem dX0_mostToldAbove_16 : decode cX0_mostToldAbove 16 = .ok (.aload_n 0, 1) := by decide +kernel
theorem dX0_mostToldAbove_17 : decode cX0_mostToldAbove 17 = .ok (.getfield 22, 3) := by decide +kernel
theorem dX0_mostToldAbove_20 : decode cX0_mostToldAbove 20 = .ok (.iload_n 2, 1) := by decide +kernel
theorem dX0_mostToldAbove_21 : decode cX0_mostToldAbove 21 = .ok (.iaload, 1) := by decide +kernel
theorem dX0_mostToldAbove_22 : decode cX0_mostToldAbove 22 = .ok (.isub, 1) := by decide +kernel
theorem dX0_mostToldAbove_23 : decode cX0_mostToldAbove 23 = .ok (.invokestatic 62, 3) := by decide +kernel
theorem dX0_mostToldAbove_26 : decode cX0_mostToldAbove 26 = .ok (.istore_n 1, 1) := by decide +kernel
theorem dX0_mostToldAbove_27 : decode cX0_mostToldAbove 27 = .ok (.iinc 2 1, 3) := by decide +kernel
theorem dX0_mostToldAbove_30 : decode cX0_mostToldAbove 30 = .ok (.goto (-26), 3) := by decide +kernel
theorem dX0_mostToldAbove_33 : decode cX0_mostToldAbove 33 = .ok (.iload_n 1, 1) := by decide +kernel
theorem dX0_mostToldAbove_34 : decode cX0_mostToldAbove 34 = .ok (.ireturn, 1) := by decide +kernel
set_option maxRecDepth 20000 in
theorem bk_X0_mostToldAbove_0 {d : Nat} {w : hb_W} {Q : Option hb_V → hb_W → Prop} {g0 : Nat} (hg0 : g0 < hb_ct 9) (h : hb_R yX0_mostToldAbove cX0_mostToldAbove 3 (some .int) (d + 1) 4 [some (hb_r 9 g0 0), some (hb_i (0 : Int32)), some (hb_i (0 : Int32))] [] w Q) : hb_R yX0_mostToldAbove cX0_mostToldAbove 3 (some .int) (d + 1) 0 [some (hb_r 9 g0 0), none, none] [] w Q := by
  refine hb_iconst (pc := 0) (v := 0) dX0_mostToldAbove_0 (by decide) ?_
  refine hb_istore_n (pc := 1) (i := 1) (ls1 := [some (hb_r 9 g0 0), some (hb_i (0 : Int32)), none]) dX0_mostToldAbove_1 rfl (by decide) rfl ?_
  refine hb_iconst (pc := 2) (v := 0) dX0_mostToldAbove_2 (by decide) ?_
  refine hb_istore_n (pc := 3) (i := 2) (ls1 := [some (hb_r 9 g0 0), some (hb_i (0 : Int32)), some (hb_i (0 : Int32))]) dX0_mostToldAbove_3 rfl (by decide) rfl ?_
  exact h
set_option maxRecDepth 20000 in
theorem bk_X0_mostToldAbove_4 {d : Nat} {w : hb_W} {Q : Option hb_V → hb_W → Prop} {g0 : Nat} {x1 : Int32} {x2 : Int32} (hg0 : g0 < hb_ct 9) (h : (((64 : Int32) ≤ x2) → Q (some (hb_i x1)) w) ∧ ((¬ (64 : Int32) ≤ x2) → hb_O yX0_toldOf cX0_toldOf 4 (some .int) d [hb_r 9 g0 0, hb_i x2] w (fun rv w1 => hb_R yX0_mostToldAbove cX0_mostToldAbove 3 (some .int) (d + 1) 16 [some (hb_r 9 g0 0), some (hb_i x1), some (hb_i x2)] (rv.toList ++ [hb_i x1]) w1 Q))) : hb_R yX0_mostToldAbove cX0_mostToldAbove 3 (some .int) (d + 1) 4 [some (hb_r 9 g0 0), some (hb_i x1), some (hb_i x2)] [] w Q := by
  refine hb_iload_n (pc := 4) (i := 2) dX0_mostToldAbove_4 rfl rfl ?_
  refine hb_bipush (pc := 5) (v := 64) dX0_mostToldAbove_5 (by decide) ?_
  refine hb_icmp_ge (pc := 7) (tgt := 33) dX0_mostToldAbove_7 (by decide) (fun c1 => ?_) (fun c1 => ?_)
  · have ht1 := h.1 c1
    refine hb_iload_n (pc := 33) (i := 1) dX0_mostToldAbove_33 rfl rfl ?_
    exact hb_iret (pc := 34) dX0_mostToldAbove_34 rfl ht1
  · have ht1 := h.2 c1
    refine hb_iload_n (pc := 10) (i := 1) dX0_mostToldAbove_10 rfl rfl ?_
    refine hb_aload_n (pc := 11) (i := 0) dX0_mostToldAbove_11 rfl rfl ?_
    refine hb_iload_n (pc := 12) (i := 2) dX0_mostToldAbove_12 rfl rfl ?_
    exact hb_callV (pc := 13) (As := [hb_i x2]) (st := [hb_i x1]) dX0_mostToldAbove_13 ml_X0_147 mf_X0_toldOf mi_X0_toldOf (ci := 0) rfl rfl hg0 rfl rfl (Nat.le_of_ble_eq_true rfl) (Nat.le_of_ble_eq_true rfl) ht1 (fun _ _ q => q)
set_option maxRecDepth 20000 in
theorem bk_X0_mostToldAbove_16 {d : Nat} {w : hb_W} {Q : Option hb_V → hb_W → Prop} {g0 : Nat} {x1 : Int32} {x2 : Int32} {xs0 : Int32} {xs1 : Int32} (hg0 : g0 < hb_ct 9) (h : vp_in x2 64 ∧ (hb_R yX0_mostToldAbove cX0_mostToldAbove 3 (some .int) (d + 1) 4 [some (hb_r 9 g0 0), some (hb_i (if xs0 < (xs1 - (hb_aI w 9 1 g0 x2.toNatClampNeg)) then (xs1 - (hb_aI w 9 1 g0 x2.toNatClampNeg)) else xs0)), some (hb_i (x2 + (1 : Int32)))] [] w Q)) : hb_R yX0_mostToldAbove cX0_mostToldAbove 3 (some .int) (d + 1) 16 [some (hb_r 9 g0 0), some (hb_i x1), some (hb_i x2)] [hb_i xs1, hb_i xs0] w Q := by
  refine hb_aload_n (pc := 16) (i := 0) dX0_mostToldAbove_16 rfl rfl ?_
  refine hb_getR (pc := 17) (g1 := g0) dX0_mostToldAbove_17 fw_X0_22 cw_0 rfl hg0 rfl (by decide) rfl ?_
  refine hb_iload_n (pc := 20) (i := 2) dX0_mostToldAbove_20 rfl rfl ?_
  obtain ⟨ho1, hr1⟩ := h
  refine hb_ialdx (pc := 21) (x := hb_aI w 9 1 g0 x2.toNatClampNeg) dX0_mostToldAbove_21 rfl hg0 ho1 rfl ?_
  refine hb_isub (pc := 22) dX0_mostToldAbove_22 ?_
  refine hb_mmax (pc := 23) dX0_mostToldAbove_23 ml_X0_62 (Nat.le_of_ble_eq_true rfl) ?_
  refine hb_istore_n (pc := 26) (i := 1) (ls1 := [some (hb_r 9 g0 0), some (hb_i (if xs0 < (xs1 - (hb_aI w 9 1 g0 x2.toNatClampNeg)) then (xs1 - (hb_aI w 9 1 g0 x2.toNatClampNeg)) else xs0)), some (hb_i x2)]) dX0_mostToldAbove_26 rfl (by decide) rfl ?_
  refine hb_iinc (pc := 27) (v := x2 + (1 : Int32)) (ls1 := [some (hb_r 9 g0 0), some (hb_i (if xs0 < (xs1 - (hb_aI w 9 1 g0 x2.toNatClampNeg)) then (xs1 - (hb_aI w 9 1 g0 x2.toNatClampNeg)) else xs0)), some (hb_i (x2 + (1 : Int32)))]) dX0_mostToldAbove_27 rfl rfl (by decide) rfl ?_
  refine hb_goto (pc := 30) (tgt := 4) dX0_mostToldAbove_30 (by decide) ?_
  exact hr1
theorem dX0_wronglyThere_0 : decode cX0_wronglyThere 0 = .ok (.iconst 0, 1) := by decide +kernel
theorem dX0_wronglyThere_1 : decode cX0_wronglyThere 1 = .ok (.istore_n 1, 1) := by decide +kernel
theorem dX0_wronglyThere_2 : decode cX0_wronglyThere 2 = .ok (.iconst 0, 1) := by decide +kernel
theorem dX0_wronglyThere_3 : decode cX0_wronglyThere 3 = .ok (.istore_n 2, 1) := by decide +kernel
theorem dX0_wronglyThere_4 : decode cX0_wronglyThere 4 = .ok (.iload_n 2, 1) := by decide +kernel
theorem dX0_wronglyThere_5 : decode cX0_wronglyThere 5 = .ok (.bipush 64, 2) := by decide +kernel
theorem dX0_wronglyThere_7 : decode cX0_wronglyThere 7 = .ok (.if_icmp .ge 29, 3) := by decide +kernel
theorem dX0_wronglyThere_10 : decode cX0_wronglyThere 10 = .ok (.aload_n 0, 1) := by decide +kernel
theorem dX0_wronglyThere_11 : decode cX0_wronglyThere 11 = .ok (.getfield 22, 3) := by decide +kernel
theorem dX0_wronglyThere_14 : decode cX0_wronglyThere 14 = .ok (.iload_n 2, 1) := by decide +kernel
theorem dX0_wronglyThere_15 : decode cX0_wronglyThere 15 = .ok (.iaload, 1) := by decide +kernel
theorem dX0_wronglyThere_16 : decode cX0_wronglyThere 16 = .ok (.ifCond .ne 14, 3) := by decide +kernel
theorem dX0_wronglyThere_19 : decode cX0_wronglyThere 19 = .ok (.aload_n 0, 1) := by decide +kernel
theorem dX0_wronglyThere_20 : decode cX0_wronglyThere 20 = .ok (.iload_n 2, 1) := by decide +kernel
theorem dX0_wronglyThere_21 : decode cX0_wronglyThere 21 = .ok (.invokevirtual 150, 3) := by decide +kernel
theorem dX0_wronglyThere_24 : decode cX0_wronglyThere 24 = .ok (.ifCond .eq 6, 3) := by decide +kernel
theorem dX0_wronglyThere_27 : decode cX0_wronglyThere 27 = .ok (.iinc 1 1, 3) := by decide +kernel
theorem dX0_wronglyThere_30 : decode cX0_wronglyThere 30 = .ok (.iinc 2 1, 3) := by decide +kernel
theorem dX0_wronglyThere_33 : decode cX0_wronglyThere 33 = .ok (.goto (-29), 3) := by decide +kernel
theorem dX0_wronglyThere_36 : decode cX0_wronglyThere 36 = .ok (.iload_n 1, 1) := by decide +kernel
theorem dX0_wronglyThere_37 : decode cX0_wronglyThere 37 = .ok (.ireturn, 1) := by decide +kernel
set_option maxRecDepth 20000 in
theorem bk_X0_wronglyThere_0 {d : Nat} {w : hb_W} {Q : Option hb_V → hb_W → Prop} {g0 : Nat} (hg0 : g0 < hb_ct 9) (h : hb_R yX0_wronglyThere cX0_wronglyThere 3 (some .int) (d + 1) 4 [some (hb_r 9 g0 0), some (hb_i (0 : Int32)), some (hb_i (0 : Int32))] [] w Q) : hb_R yX0_wronglyThere cX0_wronglyThere 3 (some .int) (d + 1) 0 [some (hb_r 9 g0 0), none, none] [] w Q := by
  refine hb_iconst (pc := 0) (v := 0) dX0_wronglyThere_0 (by decide) ?_
  refine hb_istore_n (pc := 1) (i := 1) (ls1 := [some (hb_r 9 g0 0), some (hb_i (0 : Int32)), none]) dX0_wronglyThere_1 rfl (by decide) rfl ?_
  refine hb_iconst (pc := 2) (v := 0) dX0_wronglyThere_2 (by decide) ?_
  refine hb_istore_n (pc := 3) (i := 2) (ls1 := [some (hb_r 9 g0 0), some (hb_i (0 : Int32)), some (hb_i (0 : Int32))]) dX0_wronglyThere_3 rfl (by decide) rfl ?_
  exact h
set_option maxRecDepth 20000 in
theorem bk_X0_wronglyThere_4 {d : Nat} {w : hb_W} {Q : Option hb_V → hb_W → Prop} {g0 : Nat} {x1 : Int32} {x2 : Int32} (hg0 : g0 < hb_ct 9) (h : (((64 : Int32) ≤ x2) → Q (some (hb_i x1)) w) ∧ ((¬ (64 : Int32) ≤ x2) → vp_in x2 64 ∧ (((¬ (hb_aI w 9 1 g0 x2.toNatClampNeg) = 0) → hb_R yX0_wronglyThere cX0_wronglyThere 3 (some .int) (d + 1) 4 [some (hb_r 9 g0 0), some (hb_i x1), some (hb_i (x2 + (1 : Int32)))] [] w Q) ∧ (((hb_aI w 9 1 g0 x2.toNatClampNeg) = 0) → hb_O yX0_seemsThere cX0_seemsThere 2 (some .boolean) d [hb_r 9 g0 0, hb_i x2] w (fun rv w1 => hb_R yX0_wronglyThere cX0_wronglyThere 3 (some .int) (d + 1) 24 [some (hb_r 9 g0 0), some (hb_i x1), some (hb_i x2)] (rv.toList ++ []) w1 Q))))) : hb_R yX0_wronglyThere cX0_wronglyThere 3 (some .int) (d + 1) 4 [some (hb_r 9 g0 0), some (hb_i x1), some (hb_i x2)] [] w Q := by
  refine hb_iload_n (pc := 4) (i := 2) dX0_wronglyThere_4 rfl rfl ?_
  refine hb_bipush (pc := 5) (v := 64) dX0_wronglyThere_5 (by decide) ?_
  refine hb_icmp_ge (pc := 7) (tgt := 36) dX0_wronglyThere_7 (by decide) (fun c1 => ?_) (fun c1 => ?_)
  · have ht1 := h.1 c1
    refine hb_iload_n (pc := 36) (i := 1) dX0_wronglyThere_36 rfl rfl ?_
    exact hb_iret (pc := 37) dX0_wronglyThere_37 rfl ht1
  · have ht1 := h.2 c1
    refine hb_aload_n (pc := 10) (i := 0) dX0_wronglyThere_10 rfl rfl ?_
    refine hb_getR (pc := 11) (g1 := g0) dX0_wronglyThere_11 fw_X0_22 cw_0 rfl hg0 rfl (by decide) rfl ?_
    refine hb_iload_n (pc := 14) (i := 2) dX0_wronglyThere_14 rfl rfl ?_
    obtain ⟨ho2, hr2⟩ := ht1
    refine hb_ialdx (pc := 15) (x := hb_aI w 9 1 g0 x2.toNatClampNeg) dX0_wronglyThere_15 rfl hg0 ho2 rfl ?_
    refine hb_if_ne (pc := 16) (tgt := 30) dX0_wronglyThere_16 (by decide) (fun c3 => ?_) (fun c3 => ?_)
    · have ht3 := hr2.1 c3
      refine hb_iinc (pc := 30) (v := x2 + (1 : Int32)) (ls1 := [some (hb_r 9 g0 0), some (hb_i x1), some (hb_i (x2 + (1 : Int32)))]) dX0_wronglyThere_30 rfl rfl (by decide) rfl ?_
      refine hb_goto (pc := 33) (tgt := 4) dX0_wronglyThere_33 (by decide) ?_
      exact ht3
    · have ht3 := hr2.2 c3
      refine hb_aload_n (pc := 19) (i := 0) dX0_wronglyThere_19 rfl rfl ?_
      refine hb_iload_n (pc := 20) (i := 2) dX0_wronglyThere_20 rfl rfl ?_
      exact hb_callV (pc := 21) (As := [hb_i x2]) (st := []) dX0_wronglyThere_21 ml_X0_150 mf_X0_seemsThere mi_X0_seemsThere (ci := 0) rfl rfl hg0 rfl rfl (Nat.le_of_ble_eq_true rfl) (Nat.le_of_ble_eq_true rfl) ht3 (fun _ _ q => q)
set_option maxRecDepth 20000 in
theorem bk_X0_wronglyThere_24 {d : Nat} {w : hb_W} {Q : Option hb_V → hb_W → Prop} {g0 : Nat} {x1 : Int32} {x2 : Int32} {xs0 : Int32} (hg0 : g0 < hb_ct 9) (h : ((xs0 = 0) → hb_R yX0_wronglyThere cX0_wronglyThere 3 (some .int) (d + 1) 4 [some (hb_r 9 g0 0), some (hb_i x1), some (hb_i (x2 + (1 : Int32)))] [] w Q) ∧ ((¬ xs0 = 0) → hb_R yX0_wronglyThere cX0_wronglyThere 3 (some .int) (d + 1) 4 [some (hb_r 9 g0 0), some (hb_i (x1 + (1 : Int32))), some (hb_i (x2 + (1 : Int32)))] [] w Q)) : hb_R yX0_wronglyThere cX0_wronglyThere 3 (some .int) (d + 1) 24 [some (hb_r 9 g0 0), some (hb_i x1), some (hb_i x2)] [hb_i xs0] w Q := by
  refine hb_if_eq (pc := 24) (tgt := 30) dX0_wronglyThere_24 (by decide) (fun c1 => ?_) (fun c1 => ?_)
  · have ht1 := h.1 c1
    refine hb_iinc (pc := 30) (v := x2 + (1 : Int32)) (ls1 := [some (hb_r 9 g0 0), some (hb_i x1), some (hb_i (x2 + (1 : Int32)))]) dX0_wronglyThere_30 rfl rfl (by decide) rfl ?_
    refine hb_goto (pc := 33) (tgt := 4) dX0_wronglyThere_33 (by decide) ?_
    exact ht1
  · have ht1 := h.2 c1
    refine hb_iinc (pc := 27) (v := x1 + (1 : Int32)) (ls1 := [some (hb_r 9 g0 0), some (hb_i (x1 + (1 : Int32))), some (hb_i x2)]) dX0_wronglyThere_27 rfl rfl (by decide) rfl ?_
    refine hb_iinc (pc := 30) (v := x2 + (1 : Int32)) (ls1 := [some (hb_r 9 g0 0), some (hb_i (x1 + (1 : Int32))), some (hb_i (x2 + (1 : Int32)))]) dX0_wronglyThere_30 rfl rfl (by decide) rfl ?_
    refine hb_goto (pc := 33) (tgt := 4) dX0_wronglyThere_33 (by decide) ?_
    exact ht1
theorem dX0_oftenestMissed_0 : decode cX0_oftenestMissed 0 = .ok (.aload_n 0, 1) := by decide +kernel
theorem dX0_oftenestMissed_1 : decode cX0_oftenestMissed 1 = .ok (.invokevirtual 153, 3) := by decide +kernel
theorem dX0_oftenestMissed_4 : decode cX0_oftenestMissed 4 = .ok (.istore_n 1, 1) := by decide +kernel
theorem dX0_oftenestMissed_5 : decode cX0_oftenestMissed 5 = .ok (.iload_n 1, 1) := by decide +kernel
theorem dX0_oftenestMissed_6 : decode cX0_oftenestMissed 6 = .ok (.iconst (-1), 1) := by decide +kernel
theorem dX0_oftenestMissed_7 : decode cX0_oftenestMissed 7 = .ok (.if_icmp .ne 5, 3) := by decide +kernel
theorem dX0_oftenestMissed_10 : decode cX0_oftenestMissed 10 = .ok (.iconst 0, 1) := by decide +kernel
theorem dX0_oftenestMissed_11 : decode cX0_oftenestMissed 11 = .ok (.ireturn, 1) := by decide +kernel
theorem dX0_oftenestMissed_12 : decode cX0_oftenestMissed 12 = .ok (.aload_n 0, 1) := by decide +kernel
theorem dX0_oftenestMissed_13 : decode cX0_oftenestMissed 13 = .ok (.iload_n 1, 1) := by decide +kernel
theorem dX0_oftenestMissed_14 : decode cX0_oftenestMissed 14 = .ok (.invokevirtual 119, 3) := by decide +kernel
theorem dX0_oftenestMissed_17 : decode cX0_oftenestMissed 17 = .ok (.istore_n 2, 1) := by decide +kernel
theorem dX0_oftenestMissed_18 : decode cX0_oftenestMissed 18 = .ok (.iload_n 2, 1) := by decide +kernel
theorem dX0_oftenestMissed_19 : decode cX0_oftenestMissed 19 = .ok (.iconst (-1), 1) := by decide +kernel
theorem dX0_oftenestMissed_20 : decode cX0_oftenestMissed 20 = .ok (.if_icmp .ne 7, 3) := by decide +kernel
theorem dX0_oftenestMissed_23 : decode cX0_oftenestMissed 23 = .ok (.iconst 0, 1) := by decide +kernel
theorem dX0_oftenestMissed_24 : decode cX0_oftenestMissed 24 = .ok (.goto 9, 3) := by decide +kernel
theorem dX0_oftenestMissed_27 : decode cX0_oftenestMissed 27 = .ok (.aload_n 0, 1) := by decide +kernel
theorem dX0_oftenestMissed_28 : decode cX0_oftenestMissed 28 = .ok (.getfield 38, 3) := by decide +kernel
theorem dX0_oftenestMissed_31 : decode cX0_oftenestMissed 31 = .ok (.iload_n 2, 1) := by decide +kernel
theorem dX0_oftenestMissed_32 : decode cX0_oftenestMissed 32 = .ok (.iaload, 1) := by decide +kernel
theorem dX0_oftenestMissed_33 : decode cX0_oftenestMissed 33 = .ok (.istore_n 3, 1) := by decide +kernel
theorem dX0_oftenestMissed_34 : decode cX0_oftenestMissed 34 = .ok (.iload_n 3, 1) := by decide +kernel
theorem dX0_oftenestMissed_35 : decode cX0_oftenestMissed 35 = .ok (.aload_n 0, 1) := by decide +kernel
theorem dX0_oftenestMissed_36 : decode cX0_oftenestMissed 36 = .ok (.getfield 22, 3) := by decide +kernel
theorem dX0_oftenestMissed_39 : decode cX0_oftenestMissed 39 = .ok (.iload_n 1, 1) := by decide +kernel
theorem dX0_oftenestMissed_40 : decode cX0_oftenestMissed 40 = .ok (.iaload, 1) := by decide +kernel
theorem dX0_oftenestMissed_41 : decode cX0_oftenestMissed 41 = .ok (.isub, 1) := by decide +kernel
theorem dX0_oftenestMissed_42 : decode cX0_oftenestMissed 42 = .ok (.invokestatic 126, 3) := by decide +kernel
theorem dX0_oftenestMissed_45 : decode cX0_oftenestMissed 45 = .ok (.ireturn, 1) := by decide +kernel
set_option maxRecDepth 20000 in
theorem bk_X0_oftenestMissed_0 {d : Nat} {w : hb_W} {Q : Option hb_V → hb_W → Prop} {g0 : Nat} (hg0 : g0 < hb_ct 9) (h : hb_O yX0_oftenestHood cX0_oftenestHood 4 (some .int) d [hb_r 9 g0 0] w (fun rv w1 => hb_R yX0_oftenestMissed cX0_oftenestMissed 4 (some .int) (d + 1) 4 [some (hb_r 9 g0 0), none, none, none] (rv.toList ++ []) w1 Q)) : hb_R yX0_oftenestMissed cX0_oftenestMissed 4 (some .int) (d + 1) 0 [some (hb_r 9 g0 0), none, none, none] [] w Q := by
  refine hb_aload_n (pc := 0) (i := 0) dX0_oftenestMissed_0 rfl rfl ?_
  exact hb_callV (pc := 1) (As := []) (st := []) dX0_oftenestMissed_1 ml_X0_153 mf_X0_oftenestHood mi_X0_oftenestHood (ci := 0) rfl rfl hg0 rfl rfl (Nat.le_of_ble_eq_true rfl) (Nat.le_of_ble_eq_true rfl) h (fun _ _ q => q)
set_option maxRecDepth 20000 in
theorem bk_X0_oftenestMissed_4 {d : Nat} {w : hb_W} {Q : Option hb_V → hb_W → Prop} {g0 : Nat} {xs0 : Int32} (hg0 : g0 < hb_ct 9) (h : ((¬ xs0 = (-1 : Int32)) → hb_O yX0_oftenPlace cX0_oftenPlace 3 (some .int) d [hb_r 9 g0 0, hb_i xs0] w (fun rv w1 => hb_R yX0_oftenestMissed cX0_oftenestMissed 4 (some .int) (d + 1) 17 [some (hb_r 9 g0 0), some (hb_i xs0), none, none] (rv.toList ++ []) w1 Q)) ∧ ((xs0 = (-1 : Int32)) → Q (some (hb_i (0 : Int32))) w)) : hb_R yX0_oftenestMissed cX0_oftenestMissed 4 (some .int) (d + 1) 4 [some (hb_r 9 g0 0), none, none, none] [hb_i xs0] w Q := by
  refine hb_istore_n (pc := 4) (i := 1) (ls1 := [some (hb_r 9 g0 0), some (hb_i xs0), none, none]) dX0_oftenestMissed_4 rfl (by decide) rfl ?_
  refine hb_iload_n (pc := 5) (i := 1) dX0_oftenestMissed_5 rfl rfl ?_
  refine hb_iconst (pc := 6) (v := -1) dX0_oftenestMissed_6 (by decide) ?_
  refine hb_icmp_ne (pc := 7) (tgt := 12) dX0_oftenestMissed_7 (by decide) (fun c1 => ?_) (fun c1 => ?_)
  · have ht1 := h.1 c1
    refine hb_aload_n (pc := 12) (i := 0) dX0_oftenestMissed_12 rfl rfl ?_
    refine hb_iload_n (pc := 13) (i := 1) dX0_oftenestMissed_13 rfl rfl ?_
    exact hb_callV (pc := 14) (As := [hb_i xs0]) (st := []) dX0_oftenestMissed_14 ml_X0_119 mf_X0_oftenPlace mi_X0_oftenPlace (ci := 0) rfl rfl hg0 rfl rfl (Nat.le_of_ble_eq_true rfl) (Nat.le_of_ble_eq_true rfl) ht1 (fun _ _ q => q)
  · have ht1 := h.2 c1
    refine hb_iconst (pc := 10) (v := 0) dX0_oftenestMissed_10 (by decide) ?_
    exact hb_iret (pc := 11) dX0_oftenestMissed_11 rfl ht1
set_option maxRecDepth 20000 in
theorem bk_X0_oftenestMissed_17 {d : Nat} {w : hb_W} {Q : Option hb_V → hb_W → Prop} {g0 : Nat} {x1 : Int32} {xs0 : Int32} (hg0 : g0 < hb_ct 9) (h : ((¬ xs0 = (-1 : Int32)) → vp_in xs0 9 ∧ (vp_in x1 64 ∧ (Q (some (hb_i (if 0 ≤ ((hb_aI w 9 6 g0 xs0.toNatClampNeg) - (hb_aI w 9 1 g0 x1.toNatClampNeg)) then ((hb_aI w 9 6 g0 xs0.toNatClampNeg) - (hb_aI w 9 1 g0 x1.toNatClampNeg)) else 0 - ((hb_aI w 9 6 g0 xs0.toNatClampNeg) - (hb_aI w 9 1 g0 x1.toNatClampNeg))))) w))) ∧ ((xs0 = (-1 : Int32)) → vp_in x1 64 ∧ (Q (some (hb_i (if 0 ≤ ((0 : Int32) - (hb_aI w 9 1 g0 x1.toNatClampNeg)) then ((0 : Int32) - (hb_aI w 9 1 g0 x1.toNatClampNeg)) else 0 - ((0 : Int32) - (hb_aI w 9 1 g0 x1.toNatClampNeg))))) w))) : hb_R yX0_oftenestMissed cX0_oftenestMissed 4 (some .int) (d + 1) 17 [some (hb_r 9 g0 0), some (hb_i x1), none, none] [hb_i xs0] w Q := by
  refine hb_istore_n (pc := 17) (i := 2) (ls1 := [some (hb_r 9 g0 0), some (hb_i x1), some (hb_i xs0), none]) dX0_oftenestMissed_17 rfl (by decide) rfl ?_
  refine hb_iload_n (pc := 18) (i := 2) dX0_oftenestMissed_18 rfl rfl ?_
  refine hb_iconst (pc := 19) (v := -1) dX0_oftenestMissed_19 (by decide) ?_
  refine hb_icmp_ne (pc := 20) (tgt := 27) dX0_oftenestMissed_20 (by decide) (fun c1 => ?_) (fun c1 => ?_)
  · have ht1 := h.1 c1
    refine hb_aload_n (pc := 27) (i := 0) dX0_oftenestMissed_27 rfl rfl ?_
    refine hb_getR (pc := 28) (g1 := g0) dX0_oftenestMissed_28 fw_X0_38 cw_0 rfl hg0 rfl (by decide) rfl ?_
    refine hb_iload_n (pc := 31) (i := 2) dX0_oftenestMissed_31 rfl rfl ?_
    obtain ⟨ho2, hr2⟩ := ht1
    refine hb_ialdx (pc := 32) (x := hb_aI w 9 6 g0 xs0.toNatClampNeg) dX0_oftenestMissed_32 rfl hg0 ho2 rfl ?_
    refine hb_istore_n (pc := 33) (i := 3) (ls1 := [some (hb_r 9 g0 0), some (hb_i x1), some (hb_i xs0), some (hb_i (hb_aI w 9 6 g0 xs0.toNatClampNeg))]) dX0_oftenestMissed_33 rfl (by decide) rfl ?_
    refine hb_iload_n (pc := 34) (i := 3) dX0_oftenestMissed_34 rfl rfl ?_
    refine hb_aload_n (pc := 35) (i := 0) dX0_oftenestMissed_35 rfl rfl ?_
    refine hb_getR (pc := 36) (g1 := g0) dX0_oftenestMissed_36 fw_X0_22 cw_0 rfl hg0 rfl (by decide) rfl ?_
    refine hb_iload_n (pc := 39) (i := 1) dX0_oftenestMissed_39 rfl rfl ?_
    obtain ⟨ho3, hr3⟩ := hr2
    refine hb_ialdx (pc := 40) (x := hb_aI w 9 1 g0 x1.toNatClampNeg) dX0_oftenestMissed_40 rfl hg0 ho3 rfl ?_
    refine hb_isub (pc := 41) dX0_oftenestMissed_41 ?_
    refine hb_mabs (pc := 42) (b := 0) dX0_oftenestMissed_42 ml_X0_126 (Nat.le_of_ble_eq_true rfl) ?_
    exact hb_iret (pc := 45) dX0_oftenestMissed_45 rfl hr3
  · have ht1 := h.2 c1
    refine hb_iconst (pc := 23) (v := 0) dX0_oftenestMissed_23 (by decide) ?_
    refine hb_goto (pc := 24) (tgt := 33) dX0_oftenestMissed_24 (by decide) ?_
    refine hb_istore_n (pc := 33) (i := 3) (ls1 := [some (hb_r 9 g0 0), some (hb_i x1), some (hb_i xs0), some (hb_i (0 : Int32))]) dX0_oftenestMissed_33 rfl (by decide) rfl ?_
    refine hb_iload_n (pc := 34) (i := 3) dX0_oftenestMissed_34 rfl rfl ?_
    refine hb_aload_n (pc := 35) (i := 0) dX0_oftenestMissed_35 rfl rfl ?_
    refine hb_getR (pc := 36) (g1 := g0) dX0_oftenestMissed_36 fw_X0_22 cw_0 rfl hg0 rfl (by decide) rfl ?_
    refine hb_iload_n (pc := 39) (i := 1) dX0_oftenestMissed_39 rfl rfl ?_
    obtain ⟨ho4, hr4⟩ := ht1
    refine hb_ialdx (pc := 40) (x := hb_aI w 9 1 g0 x1.toNatClampNeg) dX0_oftenestMissed_40 rfl hg0 ho4 rfl ?_
    refine hb_isub (pc := 41) dX0_oftenestMissed_41 ?_
    refine hb_mabs (pc := 42) (b := 0) dX0_oftenestMissed_42 ml_X0_126 (Nat.le_of_ble_eq_true rfl) ?_
    exact hb_iret (pc := 45) dX0_oftenestMissed_45 rfl hr4
theorem dX0_leavesNoTrace_0 : decode cX0_leavesNoTrace 0 = .ok (.aload_n 0, 1) := by decide +kernel
theorem dX0_leavesNoTrace_1 : decode cX0_leavesNoTrace 1 = .ok (.iload_n 1, 1) := by decide +kernel
theorem dX0_leavesNoTrace_2 : decode cX0_leavesNoTrace 2 = .ok (.invokevirtual 150, 3) := by decide +kernel
theorem dX0_leavesNoTrace_5 : decode cX0_leavesNoTrace 5 = .ok (.ifCond .eq 22, 3) := by decide +kernel
theorem dX0_leavesNoTrace_8 : decode cX0_leavesNoTrace 8 = .ok (.aload_n 0, 1) := by decide +kernel
theorem dX0_leavesNoTrace_9 : decode cX0_leavesNoTrace 9 = .ok (.getfield 18, 3) := by decide +kernel
theorem dX0_leavesNoTrace_12 : decode cX0_leavesNoTrace 12 = .ok (.iload_n 1, 1) := by decide +kernel
theorem dX0_leavesNoTrace_13 : decode cX0_leavesNoTrace 13 = .ok (.iconst 1, 1) := by decide +kernel
theorem dX0_leavesNoTrace_14 : decode cX0_leavesNoTrace 14 = .ok (.invokevirtual 101, 3) := by decide +kernel
theorem dX0_leavesNoTrace_17 : decode cX0_leavesNoTrace 17 = .ok (.invokestatic 109, 3) := by decide +kernel
theorem dX0_leavesNoTrace_20 : decode cX0_leavesNoTrace 20 = .ok (.aload_n 0, 1) := by decide +kernel
theorem dX0_leavesNoTrace_21 : decode cX0_leavesNoTrace 21 = .ok (.getfield 53, 3) := by decide +kernel
theorem dX0_leavesNoTrace_24 : decode cX0_leavesNoTrace 24 = .ok (.if_icmp .le 5, 3) := by decide +kernel
theorem dX0_leavesNoTrace_27 : decode cX0_leavesNoTrace 27 = .ok (.iconst 0, 1) := by decide +kernel
theorem dX0_leavesNoTrace_28 : decode cX0_leavesNoTrace 28 = .ok (.ireturn, 1) := by decide +kernel
theorem dX0_leavesNoTrace_29 : decode cX0_leavesNoTrace 29 = .ok (.iconst 0, 1) := by decide +kernel
theorem dX0_leavesNoTrace_30 : decode cX0_leavesNoTrace 30 = .ok (.istore_n 2, 1) := by decide +kernel
theorem dX0_leavesNoTrace_31 : decode cX0_leavesNoTrace 31 = .ok (.iload_n 2, 1) := by decide +kernel
theorem dX0_leavesNoTrace_32 : decode cX0_leavesNoTrace 32 = .ok (.aload_n 0, 1) := by decide +kernel
theorem dX0_leavesNoTrace_33 : decode cX0_leavesNoTrace 33 = .ok (.getfield 9, 3) := by decide +kernel
theorem dX0_leavesNoTrace_36 : decode cX0_leavesNoTrace 36 = .ok (.if_icmp .ge 29, 3) := by decide +kernel
theorem dX0_leavesNoTrace_39 : decode cX0_leavesNoTrace 39 = .ok (.aload_n 0, 1) := by decide +kernel
theorem dX0_leavesNoTrace_40 : decode cX0_leavesNoTrace 40 = .ok (.getfield 18, 3) := by decide +kernel
theorem dX0_leavesNoTrace_43 : decode cX0_leavesNoTrace 43 = .ok (.iload_n 1, 1) := by decide +kernel
theorem dX0_leavesNoTrace_44 : decode cX0_leavesNoTrace 44 = .ok (.iload_n 2, 1) := by decide +kernel
theorem dX0_leavesNoTrace_45 : decode cX0_leavesNoTrace 45 = .ok (.invokevirtual 101, 3) := by decide +kernel
theorem dX0_leavesNoTrace_48 : decode cX0_leavesNoTrace 48 = .ok (.aload_n 0, 1) := by decide +kernel
theorem dX0_leavesNoTrace_49 : decode cX0_leavesNoTrace 49 = .ok (.getfield 50, 3) := by decide +kernel
theorem dX0_leavesNoTrace_52 : decode cX0_leavesNoTrace 52 = .ok (.iload_n 2, 1) := by decide +kernel
theorem dX0_leavesNoTrace_53 : decode cX0_leavesNoTrace 53 = .ok (.iaload, 1) := by decide +kernel
theorem dX0_leavesNoTrace_54 : decode cX0_leavesNoTrace 54 = .ok (.if_icmp .ge 5, 3) := by decide +kernel
theorem dX0_leavesNoTrace_57 : decode cX0_leavesNoTrace 57 = .ok (.iconst 0, 1) := by decide +kernel
theorem dX0_leavesNoTrace_58 : decode cX0_leavesNoTrace 58 = .ok (.ireturn, 1) := by decide +kernel
theorem dX0_leavesNoTrace_59 : decode cX0_leavesNoTrace 59 = .ok (.iinc 2 1, 3) := by decide +kernel
theorem dX0_leavesNoTrace_62 : decode cX0_leavesNoTrace 62 = .ok (.goto (-31), 3) := by decide +kernel
theorem dX0_leavesNoTrace_65 : decode cX0_leavesNoTrace 65 = .ok (.aload_n 0, 1) := by decide +kernel
theorem dX0_leavesNoTrace_66 : decode cX0_leavesNoTrace 66 = .ok (.aload_n 0, 1) := by decide +kernel
theorem dX0_leavesNoTrace_67 : decode cX0_leavesNoTrace 67 = .ok (.getfield 18, 3) := by decide +kernel
theorem dX0_leavesNoTrace_70 : decode cX0_leavesNoTrace 70 = .ok (.iload_n 1, 1) := by decide +kernel
theorem dX0_leavesNoTrace_71 : decode cX0_leavesNoTrace 71 = .ok (.iconst 0, 1) := by decide +kernel
theorem dX0_leavesNoTrace_72 : decode cX0_leavesNoTrace 72 = .ok (.invokevirtual 101, 3) := by decide +kernel
theorem dX0_leavesNoTrace_75 : decode cX0_leavesNoTrace 75 = .ok (.invokevirtual 156, 3) := by decide +kernel
theorem dX0_leavesNoTrace_78 : decode cX0_leavesNoTrace 78 = .ok (.ireturn, 1) := by decide +kernel
set_option maxRecDepth 20000 in
theorem bk_X0_leavesNoTrace_0 {d : Nat} {w : hb_W} {Q : Option hb_V → hb_W → Prop} {g0 : Nat} {x1 : Int32} (hg0 : g0 < hb_ct 9) (h : hb_O yX0_seemsThere cX0_seemsThere 2 (some .boolean) d [hb_r 9 g0 0, hb_i x1] w (fun rv w1 => hb_R yX0_leavesNoTrace cX0_leavesNoTrace 3 (some .boolean) (d + 1) 5 [some (hb_r 9 g0 0), some (hb_i x1), none] (rv.toList ++ []) w1 Q)) : hb_R yX0_leavesNoTrace cX0_leavesNoTrace 3 (some .boolean) (d + 1) 0 [some (hb_r 9 g0 0), some (hb_i x1), none] [] w Q := by
  refine hb_aload_n (pc := 0) (i := 0) dX0_leavesNoTrace_0 rfl rfl ?_
  refine hb_iload_n (pc := 1) (i := 1) dX0_leavesNoTrace_1 rfl rfl ?_
  exact hb_callV (pc := 2) (As := [hb_i x1]) (st := []) dX0_leavesNoTrace_2 ml_X0_150 mf_X0_seemsThere mi_X0_seemsThere (ci := 0) rfl rfl hg0 rfl rfl (Nat.le_of_ble_eq_true rfl) (Nat.le_of_ble_eq_true rfl) h (fun _ _ q => q)
set_option maxRecDepth 20000 in
theorem bk_X0_leavesNoTrace_5 {d : Nat} {w : hb_W} {Q : Option hb_V → hb_W → Prop} {g0 : Nat} {x1 : Int32} {xs0 : Int32} (hg0 : g0 < hb_ct 9) (h : ((xs0 = 0) → Q (some (hb_i (0 : Int32))) w) ∧ ((¬ xs0 = 0) → (hb_fR w 9 2 g0) < hb_ct 5 ∧ (hb_O yX5_of cX5_of 4 (some .int) d [hb_r 5 (hb_fR w 9 2 g0) 0, hb_i x1, hb_i (1 : Int32)] w (fun rv w1 => hb_R yX0_leavesNoTrace cX0_leavesNoTrace 3 (some .boolean) (d + 1) 17 [some (hb_r 9 g0 0), some (hb_i x1), none] (rv.toList ++ []) w1 Q)))) : hb_R yX0_leavesNoTrace cX0_leavesNoTrace 3 (some .boolean) (d + 1) 5 [some (hb_r 9 g0 0), some (hb_i x1), none] [hb_i xs0] w Q := by
  refine hb_if_eq (pc := 5) (tgt := 27) dX0_leavesNoTrace_5 (by decide) (fun c1 => ?_) (fun c1 => ?_)
  · have ht1 := h.1 c1
    refine hb_iconst (pc := 27) (v := 0) dX0_leavesNoTrace_27 (by decide) ?_
    exact hb_zret (pc := 28) dX0_leavesNoTrace_28 rfl (Or.inl rfl) ht1
  · have ht1 := h.2 c1
    refine hb_aload_n (pc := 8) (i := 0) dX0_leavesNoTrace_8 rfl rfl ?_
    refine hb_getR (pc := 9) (g1 := hb_fR w 9 2 g0) dX0_leavesNoTrace_9 fw_X0_18 cw_0 rfl hg0 rfl (by decide) rfl ?_
    refine hb_iload_n (pc := 12) (i := 1) dX0_leavesNoTrace_12 rfl rfl ?_
    refine hb_iconst (pc := 13) (v := 1) dX0_leavesNoTrace_13 (by decide) ?_
    obtain ⟨ho2, hr2⟩ := ht1
    exact hb_callV (pc := 14) (As := [hb_i x1, hb_i (1 : Int32)]) (st := []) dX0_leavesNoTrace_14 ml_X0_101 mf_X5_of mi_X5_of (ci := 5) rfl rfl ho2 rfl rfl (Nat.le_of_ble_eq_true rfl) (Nat.le_of_ble_eq_true rfl) hr2 (fun _ _ q => q)
set_option maxRecDepth 20000 in
theorem bk_X0_leavesNoTrace_17 {d : Nat} {w : hb_W} {Q : Option hb_V → hb_W → Prop} {g0 : Nat} {x1 : Int32} {xs0 : Int32} (hg0 : g0 < hb_ct 9) (h : hb_O yX0_noughtsAtEnd cX0_noughtsAtEnd 2 (some .int) d [hb_i xs0] w (fun rv w1 => hb_R yX0_leavesNoTrace cX0_leavesNoTrace 3 (some .boolean) (d + 1) 20 [some (hb_r 9 g0 0), some (hb_i x1), none] (rv.toList ++ []) w1 Q)) : hb_R yX0_leavesNoTrace cX0_leavesNoTrace 3 (some .boolean) (d + 1) 17 [some (hb_r 9 g0 0), some (hb_i x1), none] [hb_i xs0] w Q := by
  exact hb_callS (pc := 17) (As := [hb_i xs0]) (st := []) dX0_leavesNoTrace_17 ml_X0_109 mf_X0_noughtsAtEnd ms_X0_noughtsAtEnd rfl rfl (Nat.le_of_ble_eq_true rfl) (Nat.le_of_ble_eq_true rfl) h (fun _ _ q => q)
set_option maxRecDepth 20000 in
theorem bk_X0_leavesNoTrace_20 {d : Nat} {w : hb_W} {Q : Option hb_V → hb_W → Prop} {g0 : Nat} {x1 : Int32} {xs0 : Int32} (hg0 : g0 < hb_ct 9) (h : ((xs0 ≤ (hb_fI w 9 10 g0)) → hb_R yX0_leavesNoTrace cX0_leavesNoTrace 3 (some .boolean) (d + 1) 31 [some (hb_r 9 g0 0), some (hb_i x1), some (hb_i (0 : Int32))] [] w Q) ∧ ((¬ xs0 ≤ (hb_fI w 9 10 g0)) → Q (some (hb_i (0 : Int32))) w)) : hb_R yX0_leavesNoTrace cX0_leavesNoTrace 3 (some .boolean) (d + 1) 20 [some (hb_r 9 g0 0), some (hb_i x1), none] [hb_i xs0] w Q := by
  refine hb_aload_n (pc := 20) (i := 0) dX0_leavesNoTrace_20 rfl rfl ?_
  refine hb_getIx (pc := 21) (x := hb_fI w 9 10 g0) dX0_leavesNoTrace_21 fw_X0_53 cw_0 rfl hg0 rfl rfl ?_
  refine hb_icmp_le (pc := 24) (tgt := 29) dX0_leavesNoTrace_24 (by decide) (fun c1 => ?_) (fun c1 => ?_)
  · have ht1 := h.1 c1
    refine hb_iconst (pc := 29) (v := 0) dX0_leavesNoTrace_29 (by decide) ?_
    refine hb_istore_n (pc := 30) (i := 2) (ls1 := [some (hb_r 9 g0 0), some (hb_i x1), some (hb_i (0 : Int32))]) dX0_leavesNoTrace_30 rfl (by decide) rfl ?_
    exact ht1
  · have ht1 := h.2 c1
    refine hb_iconst (pc := 27) (v := 0) dX0_leavesNoTrace_27 (by decide) ?_
    exact hb_zret (pc := 28) dX0_leavesNoTrace_28 rfl (Or.inl rfl) ht1
set_option maxRecDepth 20000 in
theorem bk_X0_leavesNoTrace_31 {d : Nat} {w : hb_W} {Q : Option hb_V → hb_W → Prop} {g0 : Nat} {x1 : Int32} {x2 : Int32} (hg0 : g0 < hb_ct 9) (h : (((hb_fI w 9 0 g0) ≤ x2) → (hb_fR w 9 2 g0) < hb_ct 5 ∧ (hb_O yX5_of cX5_of 4 (some .int) d [hb_r 5 (hb_fR w 9 2 g0) 0, hb_i x1, hb_i (0 : Int32)] w (fun rv w1 => hb_R yX0_leavesNoTrace cX0_leavesNoTrace 3 (some .boolean) (d + 1) 75 [some (hb_r 9 g0 0), some (hb_i x1), some (hb_i x2)] (rv.toList ++ [hb_r 9 g0 0]) w1 Q))) ∧ ((¬ (hb_fI w 9 0 g0) ≤ x2) → (hb_fR w 9 2 g0) < hb_ct 5 ∧ (hb_O yX5_of cX5_of 4 (some .int) d [hb_r 5 (hb_fR w 9 2 g0) 0, hb_i x1, hb_i x2] w (fun rv w1 => hb_R yX0_leavesNoTrace cX0_leavesNoTrace 3 (some .boolean) (d + 1) 48 [some (hb_r 9 g0 0), some (hb_i x1), some (hb_i x2)] (rv.toList ++ []) w1 Q)))) : hb_R yX0_leavesNoTrace cX0_leavesNoTrace 3 (some .boolean) (d + 1) 31 [some (hb_r 9 g0 0), some (hb_i x1), some (hb_i x2)] [] w Q := by
  refine hb_iload_n (pc := 31) (i := 2) dX0_leavesNoTrace_31 rfl rfl ?_
  refine hb_aload_n (pc := 32) (i := 0) dX0_leavesNoTrace_32 rfl rfl ?_
  refine hb_getIx (pc := 33) (x := hb_fI w 9 0 g0) dX0_leavesNoTrace_33 fw_X0_9 cw_0 rfl hg0 rfl rfl ?_
  refine hb_icmp_ge (pc := 36) (tgt := 65) dX0_leavesNoTrace_36 (by decide) (fun c1 => ?_) (fun c1 => ?_)
  · have ht1 := h.1 c1
    refine hb_aload_n (pc := 65) (i := 0) dX0_leavesNoTrace_65 rfl rfl ?_
    refine hb_aload_n (pc := 66) (i := 0) dX0_leavesNoTrace_66 rfl rfl ?_
    refine hb_getR (pc := 67) (g1 := hb_fR w 9 2 g0) dX0_leavesNoTrace_67 fw_X0_18 cw_0 rfl hg0 rfl (by decide) rfl ?_
    refine hb_iload_n (pc := 70) (i := 1) dX0_leavesNoTrace_70 rfl rfl ?_
    refine hb_iconst (pc := 71) (v := 0) dX0_leavesNoTrace_71 (by decide) ?_
    obtain ⟨ho2, hr2⟩ := ht1
    exact hb_callV (pc := 72) (As := [hb_i x1, hb_i (0 : Int32)]) (st := [hb_r 9 g0 0]) dX0_leavesNoTrace_72 ml_X0_101 mf_X5_of mi_X5_of (ci := 5) rfl rfl ho2 rfl rfl (Nat.le_of_ble_eq_true rfl) (Nat.le_of_ble_eq_true rfl) hr2 (fun _ _ q => q)
  · have ht1 := h.2 c1
    refine hb_aload_n (pc := 39) (i := 0) dX0_leavesNoTrace_39 rfl rfl ?_
    refine hb_getR (pc := 40) (g1 := hb_fR w 9 2 g0) dX0_leavesNoTrace_40 fw_X0_18 cw_0 rfl hg0 rfl (by decide) rfl ?_
    refine hb_iload_n (pc := 43) (i := 1) dX0_leavesNoTrace_43 rfl rfl ?_
    refine hb_iload_n (pc := 44) (i := 2) dX0_leavesNoTrace_44 rfl rfl ?_
    obtain ⟨ho3, hr3⟩ := ht1
    exact hb_callV (pc := 45) (As := [hb_i x1, hb_i x2]) (st := []) dX0_leavesNoTrace_45 ml_X0_101 mf_X5_of mi_X5_of (ci := 5) rfl rfl ho3 rfl rfl (Nat.le_of_ble_eq_true rfl) (Nat.le_of_ble_eq_true rfl) hr3 (fun _ _ q => q)
set_option maxRecDepth 20000 in
theorem bk_X0_leavesNoTrace_48 {d : Nat} {w : hb_W} {Q : Option hb_V → hb_W → Prop} {g0 : Nat} {x1 : Int32} {x2 : Int32} {xs0 : Int32} (hg0 : g0 < hb_ct 9) (h : vp_in x2 9 ∧ ((((hb_aI w 9 10 g0 x2.toNatClampNeg) ≤ xs0) → hb_R yX0_leavesNoTrace cX0_leavesNoTrace 3 (some .boolean) (d + 1) 31 [some (hb_r 9 g0 0), some (hb_i x1), some (hb_i (x2 + (1 : Int32)))] [] w Q) ∧ ((¬ (hb_aI w 9 10 g0 x2.toNatClampNeg) ≤ xs0) → Q (some (hb_i (0 : Int32))) w))) : hb_R yX0_leavesNoTrace cX0_leavesNoTrace 3 (some .boolean) (d + 1) 48 [some (hb_r 9 g0 0), some (hb_i x1), some (hb_i x2)] [hb_i xs0] w Q := by
  refine hb_aload_n (pc := 48) (i := 0) dX0_leavesNoTrace_48 rfl rfl ?_
  refine hb_getR (pc := 49) (g1 := g0) dX0_leavesNoTrace_49 fw_X0_50 cw_0 rfl hg0 rfl (by decide) rfl ?_
  refine hb_iload_n (pc := 52) (i := 2) dX0_leavesNoTrace_52 rfl rfl ?_
  obtain ⟨ho1, hr1⟩ := h
  refine hb_ialdx (pc := 53) (x := hb_aI w 9 10 g0 x2.toNatClampNeg) dX0_leavesNoTrace_53 rfl hg0 ho1 rfl ?_
  refine hb_icmp_ge (pc := 54) (tgt := 59) dX0_leavesNoTrace_54 (by decide) (fun c2 => ?_) (fun c2 => ?_)
  · have ht2 := hr1.1 c2
    refine hb_iinc (pc := 59) (v := x2 + (1 : Int32)) (ls1 := [some (hb_r 9 g0 0), some (hb_i x1), some (hb_i (x2 + (1 : Int32)))]) dX0_leavesNoTrace_59 rfl rfl (by decide) rfl ?_
    refine hb_goto (pc := 62) (tgt := 31) dX0_leavesNoTrace_62 (by decide) ?_
    exact ht2
  · have ht2 := hr1.2 c2
    refine hb_iconst (pc := 57) (v := 0) dX0_leavesNoTrace_57 (by decide) ?_
    exact hb_zret (pc := 58) dX0_leavesNoTrace_58 rfl (Or.inl rfl) ht2
set_option maxRecDepth 20000 in
theorem bk_X0_leavesNoTrace_75 {d : Nat} {w : hb_W} {Q : Option hb_V → hb_W → Prop} {g0 : Nat} {x1 : Int32} {x2 : Int32} {gs0 : Nat} {xs1 : Int32} (hg0 : g0 < hb_ct 9) (hgs0 : gs0 < hb_ct 9) (h : hb_O yX0_leavesLeast cX0_leavesLeast 3 (some .boolean) d [hb_r 9 gs0 0, hb_i xs1] w (fun rv w1 => hb_R yX0_leavesNoTrace cX0_leavesNoTrace 3 (some .boolean) (d + 1) 78 [some (hb_r 9 g0 0), some (hb_i x1), some (hb_i x2)] (rv.toList ++ []) w1 Q)) : hb_R yX0_leavesNoTrace cX0_leavesNoTrace 3 (some .boolean) (d + 1) 75 [some (hb_r 9 g0 0), some (hb_i x1), some (hb_i x2)] [hb_i xs1, hb_r 9 gs0 0] w Q := by
  exact hb_callV (pc := 75) (As := [hb_i xs1]) (st := []) dX0_leavesNoTrace_75 ml_X0_156 mf_X0_leavesLeast mi_X0_leavesLeast (ci := 0) rfl rfl hgs0 rfl rfl (Nat.le_of_ble_eq_true rfl) (Nat.le_of_ble_eq_true rfl) h (fun _ _ q => q)
set_option maxRecDepth 20000 in
theorem bk_X0_leavesNoTrace_78 {d : Nat} {w : hb_W} {Q : Option hb_V → hb_W → Prop} {g0 : Nat} {x1 : Int32} {x2 : Int32} {xs0 : Int32} (hg0 : g0 < hb_ct 9) (h : (xs0 = 0 ∨ xs0 = 1) ∧ Q (some (hb_i xs0)) w) : hb_R yX0_leavesNoTrace cX0_leavesNoTrace 3 (some .boolean) (d + 1) 78 [some (hb_r 9 g0 0), some (hb_i x1), some (hb_i x2)] [hb_i xs0] w Q := by
  exact hb_zret (pc := 78) dX0_leavesNoTrace_78 rfl h.1 h.2
theorem dX0_leavesLeast_0 : decode cX0_leavesLeast 0 = .ok (.iconst 0, 1) := by decide +kernel
theorem dX0_leavesLeast_1 : decode cX0_leavesLeast 1 = .ok (.istore_n 2, 1) := by decide +kernel
theorem dX0_leavesLeast_2 : decode cX0_leavesLeast 2 = .ok (.iload_n 2, 1) := by decide +kernel
theorem dX0_leavesLeast_3 : decode cX0_leavesLeast 3 = .ok (.aload_n 0, 1) := by decide +kernel
theorem dX0_leavesLeast_4 : decode cX0_leavesLeast 4 = .ok (.getfield 80, 3) := by decide +kernel
theorem dX0_leavesLeast_7 : decode cX0_leavesLeast 7 = .ok (.if_icmp .ge 21, 3) := by decide +kernel
theorem dX0_leavesLeast_10 : decode cX0_leavesLeast 10 = .ok (.aload_n 0, 1) := by decide +kernel
theorem dX0_leavesLeast_11 : decode cX0_leavesLeast 11 = .ok (.getfield 32, 3) := by decide +kernel
theorem dX0_leavesLeast_14 : decode cX0_leavesLeast 14 = .ok (.iload_n 2, 1) := by decide +kernel
theorem dX0_leavesLeast_15 : decode cX0_leavesLeast 15 = .ok (.iaload, 1) := by decide +kernel
theorem dX0_leavesLeast_16 : decode cX0_leavesLeast 16 = .ok (.iload_n 1, 1) := by decide +kernel
theorem dX0_leavesLeast_17 : decode cX0_leavesLeast 17 = .ok (.if_icmp .ne 5, 3) := by decide +kernel
theorem dX0_leavesLeast_20 : decode cX0_leavesLeast 20 = .ok (.iconst 1, 1) := by decide +kernel
theorem dX0_leavesLeast_21 : decode cX0_leavesLeast 21 = .ok (.ireturn, 1) := by decide +kernel
theorem dX0_leavesLeast_22 : decode cX0_leavesLeast 22 = .ok (.iinc 2 1, 3) := by decide +kernel
theorem dX0_leavesLeast_25 : decode cX0_leavesLeast 25 = .ok (.goto (-23), 3) := by decide +kernel
theorem dX0_leavesLeast_28 : decode cX0_leavesLeast 28 = .ok (.aload_n 0, 1) := by decide +kernel
theorem dX0_leavesLeast_29 : decode cX0_leavesLeast 29 = .ok (.getfield 80, 3) := by decide +kernel
theorem dX0_leavesLeast_32 : decode cX0_leavesLeast 32 = .ok (.aload_n 0, 1) := by decide +kernel
theorem dX0_leavesLeast_33 : decode cX0_leavesLeast 33 = .ok (.getfield 9, 3) := by decide +kernel
theorem dX0_leavesLeast_36 : decode cX0_leavesLeast 36 = .ok (.if_icmp .ne 22, 3) := by decide +kernel
theorem dX0_leavesLeast_39 : decode cX0_leavesLeast 39 = .ok (.iload_n 1, 1) := by decide +kernel
theorem dX0_leavesLeast_40 : decode cX0_leavesLeast 40 = .ok (.aload_n 0, 1) := by decide +kernel
theorem dX0_leavesLeast_41 : decode cX0_leavesLeast 41 = .ok (.getfield 32, 3) := by decide +kernel
theorem dX0_leavesLeast_44 : decode cX0_leavesLeast 44 = .ok (.aload_n 0, 1) := by decide +kernel
theorem dX0_leavesLeast_45 : decode cX0_leavesLeast 45 = .ok (.getfield 9, 3) := by decide +kernel
theorem dX0_leavesLeast_48 : decode cX0_leavesLeast 48 = .ok (.iconst 1, 1) := by decide +kernel
theorem dX0_leavesLeast_49 : decode cX0_leavesLeast 49 = .ok (.isub, 1) := by decide +kernel
theorem dX0_leavesLeast_50 : decode cX0_leavesLeast 50 = .ok (.iaload, 1) := by decide +kernel
theorem dX0_leavesLeast_51 : decode cX0_leavesLeast 51 = .ok (.if_icmp .le 7, 3) := by decide +kernel
theorem dX0_leavesLeast_54 : decode cX0_leavesLeast 54 = .ok (.iconst 1, 1) := by decide +kernel
theorem dX0_leavesLeast_55 : decode cX0_leavesLeast 55 = .ok (.goto 4, 3) := by decide +kernel
theorem dX0_leavesLeast_58 : decode cX0_leavesLeast 58 = .ok (.iconst 0, 1) := by decide +kernel
theorem dX0_leavesLeast_59 : decode cX0_leavesLeast 59 = .ok (.ireturn, 1) := by decide +kernel
set_option maxRecDepth 20000 in
theorem bk_X0_leavesLeast_0 {d : Nat} {w : hb_W} {Q : Option hb_V → hb_W → Prop} {g0 : Nat} {x1 : Int32} (hg0 : g0 < hb_ct 9) (h : hb_R yX0_leavesLeast cX0_leavesLeast 3 (some .boolean) d 2 [some (hb_r 9 g0 0), some (hb_i x1), some (hb_i (0 : Int32))] [] w Q) : hb_R yX0_leavesLeast cX0_leavesLeast 3 (some .boolean) d 0 [some (hb_r 9 g0 0), some (hb_i x1), none] [] w Q := by
  refine hb_iconst (pc := 0) (v := 0) dX0_leavesLeast_0 (by decide) ?_
  refine hb_istore_n (pc := 1) (i := 2) (ls1 := [some (hb_r 9 g0 0), some (hb_i x1), some (hb_i (0 : Int32))]) dX0_leavesLeast_1 rfl (by decide) rfl ?_
  exact h
set_option maxRecDepth 20000 in
theorem bk_X0_leavesLeast_2 {d : Nat} {w : hb_W} {Q : Option hb_V → hb_W → Prop} {g0 : Nat} {x1 : Int32} {x2 : Int32} (hg0 : g0 < hb_ct 9) (h : (((hb_fI w 9 8 g0) ≤ x2) → ((¬ (hb_fI w 9 8 g0) = (hb_fI w 9 0 g0)) → Q (some (hb_i (0 : Int32))) w) ∧ (((hb_fI w 9 8 g0) = (hb_fI w 9 0 g0)) → vp_in ((hb_fI w 9 0 g0) - (1 : Int32)) 9 ∧ (((x1 ≤ (hb_aI w 9 4 g0 ((hb_fI w 9 0 g0) - (1 : Int32)).toNatClampNeg)) → Q (some (hb_i (0 : Int32))) w) ∧ ((¬ x1 ≤ (hb_aI w 9 4 g0 ((hb_fI w 9 0 g0) - (1 : Int32)).toNatClampNeg)) → Q (some (hb_i (1 : Int32))) w)))) ∧ ((¬ (hb_fI w 9 8 g0) ≤ x2) → vp_in x2 9 ∧ (((¬ (hb_aI w 9 4 g0 x2.toNatClampNeg) = x1) → hb_R yX0_leavesLeast cX0_leavesLeast 3 (some .boolean) d 2 [some (hb_r 9 g0 0), some (hb_i x1), some (hb_i (x2 + (1 : Int32)))] [] w Q) ∧ (((hb_aI w 9 4 g0 x2.toNatClampNeg) = x1) → Q (some (hb_i (1 : Int32))) w)))) : hb_R yX0_leavesLeast cX0_leavesLeast 3 (some .boolean) d 2 [some (hb_r 9 g0 0), some (hb_i x1), some (hb_i x2)] [] w Q := by
  refine hb_iload_n (pc := 2) (i := 2) dX0_leavesLeast_2 rfl rfl ?_
  refine hb_aload_n (pc := 3) (i := 0) dX0_leavesLeast_3 rfl rfl ?_
  refine hb_getIx (pc := 4) (x := hb_fI w 9 8 g0) dX0_leavesLeast_4 fw_X0_80 cw_0 rfl hg0 rfl rfl ?_
  refine hb_icmp_ge (pc := 7) (tgt := 28) dX0_leavesLeast_7 (by decide) (fun c1 => ?_) (fun c1 => ?_)
  · have ht1 := h.1 c1
    refine hb_aload_n (pc := 28) (i := 0) dX0_leavesLeast_28 rfl rfl ?_
    refine hb_getIx (pc := 29) (x := hb_fI w 9 8 g0) dX0_leavesLeast_29 fw_X0_80 cw_0 rfl hg0 rfl rfl ?_
    refine hb_aload_n (pc := 32) (i := 0) dX0_leavesLeast_32 rfl rfl ?_
    refine hb_getIx (pc := 33) (x := hb_fI w 9 0 g0) dX0_leavesLeast_33 fw_X0_9 cw_0 rfl hg0 rfl rfl ?_
    refine hb_icmp_ne (pc := 36) (tgt := 58) dX0_leavesLeast_36 (by decide) (fun c2 => ?_) (fun c2 => ?_)
    · have ht2 := ht1.1 c2
      refine hb_iconst (pc := 58) (v := 0) dX0_leavesLeast_58 (by decide) ?_
      exact hb_zret (pc := 59) dX0_leavesLeast_59 rfl (Or.inl rfl) ht2
    · have ht2 := ht1.2 c2
      refine hb_iload_n (pc := 39) (i := 1) dX0_leavesLeast_39 rfl rfl ?_
      refine hb_aload_n (pc := 40) (i := 0) dX0_leavesLeast_40 rfl rfl ?_
      refine hb_getR (pc := 41) (g1 := g0) dX0_leavesLeast_41 fw_X0_32 cw_0 rfl hg0 rfl (by decide) rfl ?_
      refine hb_aload_n (pc := 44) (i := 0) dX0_leavesLeast_44 rfl rfl ?_
      refine hb_getIx (pc := 45) (x := hb_fI w 9 0 g0) dX0_leavesLeast_45 fw_X0_9 cw_0 rfl hg0 rfl rfl ?_
      refine hb_iconst (pc := 48) (v := 1) dX0_leavesLeast_48 (by decide) ?_
      refine hb_isub (pc := 49) dX0_leavesLeast_49 ?_
      obtain ⟨ho3, hr3⟩ := ht2
      refine hb_ialdx (pc := 50) (x := hb_aI w 9 4 g0 ((hb_fI w 9 0 g0) - (1 : Int32)).toNatClampNeg) dX0_leavesLeast_50 rfl hg0 ho3 rfl ?_
      refine hb_icmp_le (pc := 51) (tgt := 58) dX0_leavesLeast_51 (by decide) (fun c4 => ?_) (fun c4 => ?_)
      · have ht4 := hr3.1 c4
        refine hb_iconst (pc := 58) (v := 0) dX0_leavesLeast_58 (by decide) ?_
        exact hb_zret (pc := 59) dX0_leavesLeast_59 rfl (Or.inl rfl) ht4
      · have ht4 := hr3.2 c4
        refine hb_iconst (pc := 54) (v := 1) dX0_leavesLeast_54 (by decide) ?_
        refine hb_goto (pc := 55) (tgt := 59) dX0_leavesLeast_55 (by decide) ?_
        exact hb_zret (pc := 59) dX0_leavesLeast_59 rfl (Or.inr rfl) ht4
  · have ht1 := h.2 c1
    refine hb_aload_n (pc := 10) (i := 0) dX0_leavesLeast_10 rfl rfl ?_
    refine hb_getR (pc := 11) (g1 := g0) dX0_leavesLeast_11 fw_X0_32 cw_0 rfl hg0 rfl (by decide) rfl ?_
    refine hb_iload_n (pc := 14) (i := 2) dX0_leavesLeast_14 rfl rfl ?_
    obtain ⟨ho5, hr5⟩ := ht1
    refine hb_ialdx (pc := 15) (x := hb_aI w 9 4 g0 x2.toNatClampNeg) dX0_leavesLeast_15 rfl hg0 ho5 rfl ?_
    refine hb_iload_n (pc := 16) (i := 1) dX0_leavesLeast_16 rfl rfl ?_
    refine hb_icmp_ne (pc := 17) (tgt := 22) dX0_leavesLeast_17 (by decide) (fun c6 => ?_) (fun c6 => ?_)
    · have ht6 := hr5.1 c6
      refine hb_iinc (pc := 22) (v := x2 + (1 : Int32)) (ls1 := [some (hb_r 9 g0 0), some (hb_i x1), some (hb_i (x2 + (1 : Int32)))]) dX0_leavesLeast_22 rfl rfl (by decide) rfl ?_
      refine hb_goto (pc := 25) (tgt := 2) dX0_leavesLeast_25 (by decide) ?_
      exact ht6
    · have ht6 := hr5.2 c6
      refine hb_iconst (pc := 20) (v := 1) dX0_leavesLeast_20 (by decide) ?_
      exact hb_zret (pc := 21) dX0_leavesLeast_21 rfl (Or.inr rfl) ht6
