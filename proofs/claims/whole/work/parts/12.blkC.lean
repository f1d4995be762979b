theorem dX3_write_0 : decode cX3_write 0 = .ok (.aload_n 0, 1) := by decide +kernel
theorem dX3_write_1 : decode cX3_write 1 = .ok (.iconst 0, 1) := by decide +kernel
theorem dX3_write_2 : decode cX3_write 2 = .ok (.putfield 15, 3) := by decide +kernel
theorem dX3_write_5 : decode cX3_write 5 = .ok (.aload_n 0, 1) := by decide +kernel
theorem dX3_write_6 : decode cX3_write 6 = .ok (.aload_n 1, 1) := by decide +kernel
theorem dX3_write_7 : decode cX3_write 7 = .ok (.getfield 19, 3) := by decide +kernel
theorem dX3_write_10 : decode cX3_write 10 = .ok (.invokevirtual 24, 3) := by decide +kernel
theorem dX3_write_13 : decode cX3_write 13 = .ok (.aload_n 0, 1) := by decide +kernel
theorem dX3_write_14 : decode cX3_write 14 = .ok (.aload_n 1, 1) := by decide +kernel
theorem dX3_write_15 : decode cX3_write 15 = .ok (.getfield 28, 3) := by decide +kernel
theorem dX3_write_18 : decode cX3_write 18 = .ok (.sipush 256, 3) := by decide +kernel
theorem dX3_write_21 : decode cX3_write 21 = .ok (.idiv, 1) := by decide +kernel
theorem dX3_write_22 : decode cX3_write 22 = .ok (.invokevirtual 24, 3) := by decide +kernel
theorem dX3_write_25 : decode cX3_write 25 = .ok (.aload_n 0, 1) := by decide +kernel
theorem dX3_write_26 : decode cX3_write 26 = .ok (.aload_n 1, 1) := by decide +kernel
theorem dX3_write_27 : decode cX3_write 27 = .ok (.getfield 28, 3) := by decide +kernel
theorem dX3_write_30 : decode cX3_write 30 = .ok (.sipush 256, 3) := by decide +kernel
theorem dX3_write_33 : decode cX3_write 33 = .ok (.irem, 1) := by decide +kernel
theorem dX3_write_34 : decode cX3_write 34 = .ok (.invokevirtual 24, 3) := by decide +kernel
theorem dX3_write_37 : decode cX3_write 37 = .ok (.iconst 0, 1) := by decide +kernel
theorem dX3_write_38 : decode cX3_write 38 = .ok (.istore_n 3, 1) := by decide +kernel
theorem dX3_write_39 : decode cX3_write 39 = .ok (.iload_n 3, 1) := by decide +kernel
theorem dX3_write_40 : decode cX3_write 40 = .ok (.aload_n 1, 1) := by decide +kernel
theorem dX3_write_41 : decode cX3_write 41 = .ok (.getfield 28, 3) := by decide +kernel
theorem dX3_write_44 : decode cX3_write 44 = .ok (.if_icmp .ge 39, 3) := by decide +kernel
theorem dX3_write_47 : decode cX3_write 47 = .ok (.aload_n 0, 1) := by decide +kernel
theorem dX3_write_48 : decode cX3_write 48 = .ok (.aload_n 1, 1) := by decide +kernel
theorem dX3_write_49 : decode cX3_write 49 = .ok (.getfield 31, 3) := by decide +kernel
theorem dX3_write_52 : decode cX3_write 52 = .ok (.iload_n 3, 1) := by decide +kernel
theorem dX3_write_53 : decode cX3_write 53 = .ok (.iaload, 1) := by decide +kernel
theorem dX3_write_54 : decode cX3_write 54 = .ok (.invokevirtual 24, 3) := by decide +kernel
theorem dX3_write_57 : decode cX3_write 57 = .ok (.aload_n 0, 1) := by decide +kernel
theorem dX3_write_58 : decode cX3_write 58 = .ok (.aload_n 1, 1) := by decide +kernel
theorem dX3_write_59 : decode cX3_write 59 = .ok (.getfield 34, 3) := by decide +kernel
theorem dX3_write_62 : decode cX3_write 62 = .ok (.iload_n 3, 1) := by decide +kernel
theorem dX3_write_63 : decode cX3_write 63 = .ok (.iaload, 1) := by decide +kernel
theorem dX3_write_64 : decode cX3_write 64 = .ok (.invokevirtual 24, 3) := by decide +kernel
theorem dX3_write_67 : decode cX3_write 67 = .ok (.aload_n 0, 1) := by decide +kernel
theorem dX3_write_68 : decode cX3_write 68 = .ok (.aload_n 1, 1) := by decide +kernel
theorem dX3_write_69 : decode cX3_write 69 = .ok (.getfield 37, 3) := by decide +kernel
theorem dX3_write_72 : decode cX3_write 72 = .ok (.iload_n 3, 1) := by decide +kernel
theorem dX3_write_73 : decode cX3_write 73 = .ok (.iaload, 1) := by decide +kernel
theorem dX3_write_74 : decode cX3_write 74 = .ok (.invokevirtual 24, 3) := by decide +kernel
theorem dX3_write_77 : decode cX3_write 77 = .ok (.iinc 3 1, 3) := by decide +kernel
theorem dX3_write_80 : decode cX3_write 80 = .ok (.goto (-41), 3) := by decide +kernel
theorem dX3_write_83 : decode cX3_write 83 = .ok (.iconst 0, 1) := by decide +kernel
theorem dX3_write_84 : decode cX3_write 84 = .ok (.istore_n 3, 1) := by decide +kernel
theorem dX3_write_85 : decode cX3_write 85 = .ok (.iload_n 3, 1) := by decide +kernel
theorem dX3_write_86 : decode cX3_write 86 = .ok (.iload_n 2, 1) := by decide +kernel
theorem dX3_write_87 : decode cX3_write 87 = .ok (.if_icmp .ge 41, 3) := by decide +kernel
theorem dX3_write_90 : decode cX3_write 90 = .ok (.iload_n 3, 1) := by decide +kernel
theorem dX3_write_91 : decode cX3_write 91 = .ok (.bipush 9, 2) := by decide +kernel
theorem dX3_write_93 : decode cX3_write 93 = .ok (.if_icmp .ge 35, 3) := by decide +kernel
theorem dX3_write_96 : decode cX3_write 96 = .ok (.aload_n 0, 1) := by decide +kernel
theorem dX3_write_97 : decode cX3_write 97 = .ok (.aload_n 1, 1) := by decide +kernel
theorem dX3_write_98 : decode cX3_write 98 = .ok (.getfield 40, 3) := by decide +kernel
theorem dX3_write_101 : decode cX3_write 101 = .ok (.iload_n 3, 1) := by decide +kernel
theorem dX3_write_102 : decode cX3_write 102 = .ok (.iaload, 1) := by decide +kernel
theorem dX3_write_103 : decode cX3_write 103 = .ok (.iconst (-1), 1) := by decide +kernel
theorem dX3_write_104 : decode cX3_write 104 = .ok (.if_icmp .ne 9, 3) := by decide +kernel
theorem dX3_write_107 : decode cX3_write 107 = .ok (.sipush 255, 3) := by decide +kernel
theorem dX3_write_110 : decode cX3_write 110 = .ok (.goto 9, 3) := by decide +kernel
theorem dX3_write_113 : decode cX3_write 113 = .ok (.aload_n 1, 1) := by decide +kernel
theorem dX3_write_114 : decode cX3_write 114 = .ok (.getfield 40, 3) := by decide +kernel
theorem dX3_write_117 : decode cX3_write 117 = .ok (.iload_n 3, 1) := by decide +kernel
theorem dX3_write_118 : decode cX3_write 118 = .ok (.iaload, 1) := by decide +kernel
theorem dX3_write_119 : decode cX3_write 119 = .ok (.invokevirtual 24, 3) := by decide +kernel
theorem dX3_write_122 : decode cX3_write 122 = .ok (.iinc 3 1, 3) := by decide +kernel
theorem dX3_write_125 : decode cX3_write 125 = .ok (.goto (-40), 3) := by decide +kernel
theorem dX3_write_128 : decode cX3_write 128 = .ok (.sipush 211, 3) := by decide +kernel
theorem dX3_write_131 : decode cX3_write 131 = .ok (.istore_n 3, 1) := by decide +kernel
theorem dX3_write_132 : decode cX3_write 132 = .ok (.iconst 0, 1) := by decide +kernel
theorem dX3_write_133 : decode cX3_write 133 = .ok (.istore 4, 2) := by decide +kernel
theorem dX3_write_135 : decode cX3_write 135 = .ok (.iload 4, 2) := by decide +kernel
theorem dX3_write_137 : decode cX3_write 137 = .ok (.aload_n 0, 1) := by decide +kernel
theorem dX3_write_138 : decode cX3_write 138 = .ok (.getfield 15, 3) := by decide +kernel
theorem dX3_write_141 : decode cX3_write 141 = .ok (.if_icmp .ge 21, 3) := by decide +kernel
theorem dX3_write_144 : decode cX3_write 144 = .ok (.iload_n 3, 1) := by decide +kernel
theorem dX3_write_145 : decode cX3_write 145 = .ok (.aload_n 0, 1) := by decide +kernel
theorem dX3_write_146 : decode cX3_write 146 = .ok (.getfield 11, 3) := by decide +kernel
theorem dX3_write_149 : decode cX3_write 149 = .ok (.iload 4, 2) := by decide +kernel
theorem dX3_write_151 : decode cX3_write 151 = .ok (.iaload, 1) := by decide +kernel
theorem dX3_write_152 : decode cX3_write 152 = .ok (.invokestatic 43, 3) := by decide +kernel
theorem dX3_write_155 : decode cX3_write 155 = .ok (.istore_n 3, 1) := by decide +kernel
theorem dX3_write_156 : decode cX3_write 156 = .ok (.iinc 4 1, 3) := by decide +kernel
theorem dX3_write_159 : decode cX3_write 159 = .ok (.goto (-24), 3) := by decide +kernel
theorem dX3_write_162 : decode cX3_write 162 = .ok (.aload_n 0, 1) := by decide +kernel
theorem dX3_write_163 : decode cX3_write 163 = .ok (.iload_n 3, 1) := by decide +kernel
theorem dX3_write_164 : decode cX3_write 164 = .ok (.invokevirtual 24, 3) := by decide +kernel
theorem dX3_write_167 : decode cX3_write 167 = .ok (.return_, 1) := by decide +kernel
set_option maxRecDepth 20000 in
theorem bk_X3_write_0 {d : Nat} {w : hb_W} {Q : Option hb_V → hb_W → Prop} {x2 : Int32} (h : hb_O yX3_put cX3_put 2 none d [hb_r 10 0 0, hb_i (hb_fI w 7 4 0)] (hb_pI w 10 1 0 (0 : Int32)) (fun rv w1 => hb_R yX3_write cX3_write 5 none (d + 1) 13 [some (hb_r 10 0 0), some (hb_r 7 0 0), some (hb_i x2), none, none] (rv.toList ++ []) w1 Q)) : hb_R yX3_write cX3_write 5 none (d + 1) 0 [some (hb_r 10 0 0), some (hb_r 7 0 0), some (hb_i x2), none, none] [] w Q := by
  refine hb_aload_n (pc := 0) (i := 0) dX3_write_0 rfl rfl ?_
  refine hb_iconst (pc := 1) (v := 0) dX3_write_1 (by decide) ?_
  refine hb_putI (pc := 2) dX3_write_2 fw_X3_15 cw_3 pw_3_1 rfl (by decide) rfl rfl rfl ?_
  refine hb_aload_n (pc := 5) (i := 0) dX3_write_5 rfl rfl ?_
  refine hb_aload_n (pc := 6) (i := 1) dX3_write_6 rfl rfl ?_
  refine hb_getIx (pc := 7) (x := hb_fI w 7 4 0) dX3_write_7 fw_X3_19 cw_8 rfl (by decide) rfl rfl ?_
  exact hb_callV (pc := 10) (As := [hb_i (hb_fI w 7 4 0)]) (st := []) dX3_write_10 ml_X3_24 mf_X3_put mi_X3_put (ci := 3) rfl rfl (by decide) rfl rfl (Nat.le_of_ble_eq_true rfl) (Nat.le_of_ble_eq_true rfl) h (fun _ _ q => q)
set_option maxRecDepth 20000 in
theorem bk_X3_write_13 {d : Nat} {w : hb_W} {Q : Option hb_V → hb_W → Prop} {x2 : Int32} (h : hb_O yX3_put cX3_put 2 none d [hb_r 10 0 0, hb_i ((hb_fI w 7 3 0) / (256 : Int32))] w (fun rv w1 => hb_R yX3_write cX3_write 5 none (d + 1) 25 [some (hb_r 10 0 0), some (hb_r 7 0 0), some (hb_i x2), none, none] (rv.toList ++ []) w1 Q)) : hb_R yX3_write cX3_write 5 none (d + 1) 13 [some (hb_r 10 0 0), some (hb_r 7 0 0), some (hb_i x2), none, none] [] w Q := by
  refine hb_aload_n (pc := 13) (i := 0) dX3_write_13 rfl rfl ?_
  refine hb_aload_n (pc := 14) (i := 1) dX3_write_14 rfl rfl ?_
  refine hb_getIx (pc := 15) (x := hb_fI w 7 3 0) dX3_write_15 fw_X3_28 cw_8 rfl (by decide) rfl rfl ?_
  refine hb_sipush (pc := 18) (v := 256) dX3_write_18 (by decide) ?_
  refine hb_idiv (pc := 21) dX3_write_21 (by decide) ?_
  exact hb_callV (pc := 22) (As := [hb_i ((hb_fI w 7 3 0) / (256 : Int32))]) (st := []) dX3_write_22 ml_X3_24 mf_X3_put mi_X3_put (ci := 3) rfl rfl (by decide) rfl rfl (Nat.le_of_ble_eq_true rfl) (Nat.le_of_ble_eq_true rfl) h (fun _ _ q => q)
set_option maxRecDepth 20000 in
theorem bk_X3_write_25 {d : Nat} {w : hb_W} {Q : Option hb_V → hb_W → Prop} {x2 : Int32} (h : hb_O yX3_put cX3_put 2 none d [hb_r 10 0 0, hb_i ((hb_fI w 7 3 0) - (hb_fI w 7 3 0) / (256 : Int32) * (256 : Int32))] w (fun rv w1 => hb_R yX3_write cX3_write 5 none (d + 1) 37 [some (hb_r 10 0 0), some (hb_r 7 0 0), some (hb_i x2), none, none] (rv.toList ++ []) w1 Q)) : hb_R yX3_write cX3_write 5 none (d + 1) 25 [some (hb_r 10 0 0), some (hb_r 7 0 0), some (hb_i x2), none, none] [] w Q := by
  refine hb_aload_n (pc := 25) (i := 0) dX3_write_25 rfl rfl ?_
  refine hb_aload_n (pc := 26) (i := 1) dX3_write_26 rfl rfl ?_
  refine hb_getIx (pc := 27) (x := hb_fI w 7 3 0) dX3_write_27 fw_X3_28 cw_8 rfl (by decide) rfl rfl ?_
  refine hb_sipush (pc := 30) (v := 256) dX3_write_30 (by decide) ?_
  refine hb_irem (pc := 33) dX3_write_33 (by decide) ?_
  exact hb_callV (pc := 34) (As := [hb_i ((hb_fI w 7 3 0) - (hb_fI w 7 3 0) / (256 : Int32) * (256 : Int32))]) (st := []) dX3_write_34 ml_X3_24 mf_X3_put mi_X3_put (ci := 3) rfl rfl (by decide) rfl rfl (Nat.le_of_ble_eq_true rfl) (Nat.le_of_ble_eq_true rfl) h (fun _ _ q => q)
set_option maxRecDepth 20000 in
theorem bk_X3_write_37 {d : Nat} {w : hb_W} {Q : Option hb_V → hb_W → Prop} {x2 : Int32} (h : hb_R yX3_write cX3_write 5 none (d + 1) 39 [some (hb_r 10 0 0), some (hb_r 7 0 0), some (hb_i x2), some (hb_i (0 : Int32)), none] [] w Q) : hb_R yX3_write cX3_write 5 none (d + 1) 37 [some (hb_r 10 0 0), some (hb_r 7 0 0), some (hb_i x2), none, none] [] w Q := by
  refine hb_iconst (pc := 37) (v := 0) dX3_write_37 (by decide) ?_
  refine hb_istore_n (pc := 38) (i := 3) (ls1 := [some (hb_r 10 0 0), some (hb_r 7 0 0), some (hb_i x2), some (hb_i (0 : Int32)), none]) dX3_write_38 rfl (by decide) rfl ?_
  exact h
set_option maxRecDepth 20000 in
theorem bk_X3_write_39 {d : Nat} {w : hb_W} {Q : Option hb_V → hb_W → Prop} {x2 : Int32} {x3 : Int32} (h : (((hb_fI w 7 3 0) ≤ x3) → hb_R yX3_write cX3_write 5 none (d + 1) 85 [some (hb_r 10 0 0), some (hb_r 7 0 0), some (hb_i x2), some (hb_i (0 : Int32)), none] [] w Q) ∧ ((¬ (hb_fI w 7 3 0) ≤ x3) → vp_in x3 400 ∧ (hb_O yX3_put cX3_put 2 none d [hb_r 10 0 0, hb_i (hb_aI w 7 1 0 x3.toNatClampNeg)] w (fun rv w1 => hb_R yX3_write cX3_write 5 none (d + 1) 57 [some (hb_r 10 0 0), some (hb_r 7 0 0), some (hb_i x2), some (hb_i x3), none] (rv.toList ++ []) w1 Q)))) : hb_R yX3_write cX3_write 5 none (d + 1) 39 [some (hb_r 10 0 0), some (hb_r 7 0 0), some (hb_i x2), some (hb_i x3), none] [] w Q := by
  refine hb_iload_n (pc := 39) (i := 3) dX3_write_39 rfl rfl ?_
  refine hb_aload_n (pc := 40) (i := 1) dX3_write_40 rfl rfl ?_
  refine hb_getIx (pc := 41) (x := hb_fI w 7 3 0) dX3_write_41 fw_X3_28 cw_8 rfl (by decide) rfl rfl ?_
  refine hb_icmp_ge (pc := 44) (tgt := 83) dX3_write_44 (by decide) (fun c1 => ?_) (fun c1 => ?_)
  · have ht1 := h.1 c1
    refine hb_iconst (pc := 83) (v := 0) dX3_write_83 (by decide) ?_
    refine hb_istore_n (pc := 84) (i := 3) (ls1 := [some (hb_r 10 0 0), some (hb_r 7 0 0), some (hb_i x2), some (hb_i (0 : Int32)), none]) dX3_write_84 rfl (by decide) rfl ?_
    exact ht1
  · have ht1 := h.2 c1
    refine hb_aload_n (pc := 47) (i := 0) dX3_write_47 rfl rfl ?_
    refine hb_aload_n (pc := 48) (i := 1) dX3_write_48 rfl rfl ?_
    refine hb_getR (pc := 49) (g1 := 0) dX3_write_49 fw_X3_31 cw_8 rfl (by decide) rfl (by decide) rfl ?_
    refine hb_iload_n (pc := 52) (i := 3) dX3_write_52 rfl rfl ?_
    obtain ⟨ho2, hr2⟩ := ht1
    refine hb_ialdx (pc := 53) (x := hb_aI w 7 1 0 x3.toNatClampNeg) dX3_write_53 rfl (by decide) ho2 rfl ?_
    exact hb_callV (pc := 54) (As := [hb_i (hb_aI w 7 1 0 x3.toNatClampNeg)]) (st := []) dX3_write_54 ml_X3_24 mf_X3_put mi_X3_put (ci := 3) rfl rfl (by decide) rfl rfl (Nat.le_of_ble_eq_true rfl) (Nat.le_of_ble_eq_true rfl) hr2 (fun _ _ q => q)
set_option maxRecDepth 20000 in
theorem bk_X3_write_57 {d : Nat} {w : hb_W} {Q : Option hb_V → hb_W → Prop} {x2 : Int32} {x3 : Int32} (h : vp_in x3 400 ∧ (hb_O yX3_put cX3_put 2 none d [hb_r 10 0 0, hb_i (hb_aI w 7 2 0 x3.toNatClampNeg)] w (fun rv w1 => hb_R yX3_write cX3_write 5 none (d + 1) 67 [some (hb_r 10 0 0), some (hb_r 7 0 0), some (hb_i x2), some (hb_i x3), none] (rv.toList ++ []) w1 Q))) : hb_R yX3_write cX3_write 5 none (d + 1) 57 [some (hb_r 10 0 0), some (hb_r 7 0 0), some (hb_i x2), some (hb_i x3), none] [] w Q := by
  refine hb_aload_n (pc := 57) (i := 0) dX3_write_57 rfl rfl ?_
  refine hb_aload_n (pc := 58) (i := 1) dX3_write_58 rfl rfl ?_
  refine hb_getR (pc := 59) (g1 := 0) dX3_write_59 fw_X3_34 cw_8 rfl (by decide) rfl (by decide) rfl ?_
  refine hb_iload_n (pc := 62) (i := 3) dX3_write_62 rfl rfl ?_
  obtain ⟨ho1, hr1⟩ := h
  refine hb_ialdx (pc := 63) (x := hb_aI w 7 2 0 x3.toNatClampNeg) dX3_write_63 rfl (by decide) ho1 rfl ?_
  exact hb_callV (pc := 64) (As := [hb_i (hb_aI w 7 2 0 x3.toNatClampNeg)]) (st := []) dX3_write_64 ml_X3_24 mf_X3_put mi_X3_put (ci := 3) rfl rfl (by decide) rfl rfl (Nat.le_of_ble_eq_true rfl) (Nat.le_of_ble_eq_true rfl) hr1 (fun _ _ q => q)
set_option maxRecDepth 20000 in
theorem bk_X3_write_67 {d : Nat} {w : hb_W} {Q : Option hb_V → hb_W → Prop} {x2 : Int32} {x3 : Int32} (h : vp_in x3 400 ∧ (hb_O yX3_put cX3_put 2 none d [hb_r 10 0 0, hb_i (hb_aI w 7 3 0 x3.toNatClampNeg)] w (fun rv w1 => hb_R yX3_write cX3_write 5 none (d + 1) 77 [some (hb_r 10 0 0), some (hb_r 7 0 0), some (hb_i x2), some (hb_i x3), none] (rv.toList ++ []) w1 Q))) : hb_R yX3_write cX3_write 5 none (d + 1) 67 [some (hb_r 10 0 0), some (hb_r 7 0 0), some (hb_i x2), some (hb_i x3), none] [] w Q := by
  refine hb_aload_n (pc := 67) (i := 0) dX3_write_67 rfl rfl ?_
  refine hb_aload_n (pc := 68) (i := 1) dX3_write_68 rfl rfl ?_
  refine hb_getR (pc := 69) (g1 := 0) dX3_write_69 fw_X3_37 cw_8 rfl (by decide) rfl (by decide) rfl ?_
  refine hb_iload_n (pc := 72) (i := 3) dX3_write_72 rfl rfl ?_
  obtain ⟨ho1, hr1⟩ := h
  refine hb_ialdx (pc := 73) (x := hb_aI w 7 3 0 x3.toNatClampNeg) dX3_write_73 rfl (by decide) ho1 rfl ?_
  exact hb_callV (pc := 74) (As := [hb_i (hb_aI w 7 3 0 x3.toNatClampNeg)]) (st := []) dX3_write_74 ml_X3_24 mf_X3_put mi_X3_put (ci := 3) rfl rfl (by decide) rfl rfl (Nat.le_of_ble_eq_true rfl) (Nat.le_of_ble_eq_true rfl) hr1 (fun _ _ q => q)
set_option maxRecDepth 20000 in
theorem bk_X3_write_77 {d : Nat} {w : hb_W} {Q : Option hb_V → hb_W → Prop} {x2 : Int32} {x3 : Int32} (h : hb_R yX3_write cX3_write 5 none (d + 1) 39 [some (hb_r 10 0 0), some (hb_r 7 0 0), some (hb_i x2), some (hb_i (x3 + (1 : Int32))), none] [] w Q) : hb_R yX3_write cX3_write 5 none (d + 1) 77 [some (hb_r 10 0 0), some (hb_r 7 0 0), some (hb_i x2), some (hb_i x3), none] [] w Q := by
  refine hb_iinc (pc := 77) (v := x3 + (1 : Int32)) (ls1 := [some (hb_r 10 0 0), some (hb_r 7 0 0), some (hb_i x2), some (hb_i (x3 + (1 : Int32))), none]) dX3_write_77 rfl rfl (by decide) rfl ?_
  refine hb_goto (pc := 80) (tgt := 39) dX3_write_80 (by decide) ?_
  exact h
set_option maxRecDepth 20000 in
theorem bk_X3_write_85 {d : Nat} {w : hb_W} {Q : Option hb_V → hb_W → Prop} {x2 : Int32} {x3 : Int32} (h : ((x2 ≤ x3) → hb_R yX3_write cX3_write 5 none (d + 1) 135 [some (hb_r 10 0 0), some (hb_r 7 0 0), some (hb_i x2), some (hb_i (211 : Int32)), some (hb_i (0 : Int32))] [] w Q) ∧ ((¬ x2 ≤ x3) → (((9 : Int32) ≤ x3) → hb_R yX3_write cX3_write 5 none (d + 1) 135 [some (hb_r 10 0 0), some (hb_r 7 0 0), some (hb_i x2), some (hb_i (211 : Int32)), some (hb_i (0 : Int32))] [] w Q) ∧ ((¬ (9 : Int32) ≤ x3) → vp_in x3 9 ∧ (((¬ (hb_aI w 7 4 0 x3.toNatClampNeg) = (-1 : Int32)) → vp_in x3 9 ∧ (hb_O yX3_put cX3_put 2 none d [hb_r 10 0 0, hb_i (hb_aI w 7 4 0 x3.toNatClampNeg)] w (fun rv w1 => hb_R yX3_write cX3_write 5 none (d + 1) 122 [some (hb_r 10 0 0), some (hb_r 7 0 0), some (hb_i x2), some (hb_i x3), none] (rv.toList ++ []) w1 Q))) ∧ (((hb_aI w 7 4 0 x3.toNatClampNeg) = (-1 : Int32)) → hb_O yX3_put cX3_put 2 none d [hb_r 10 0 0, hb_i (255 : Int32)] w (fun rv w1 => hb_R yX3_write cX3_write 5 none (d + 1) 122 [some (hb_r 10 0 0), some (hb_r 7 0 0), some (hb_i x2), some (hb_i x3), none] (rv.toList ++ []) w1 Q)))))) : hb_R yX3_write cX3_write 5 none (d + 1) 85 [some (hb_r 10 0 0), some (hb_r 7 0 0), some (hb_i x2), some (hb_i x3), none] [] w Q := by
  refine hb_iload_n (pc := 85) (i := 3) dX3_write_85 rfl rfl ?_
  refine hb_iload_n (pc := 86) (i := 2) dX3_write_86 rfl rfl ?_
  refine hb_icmp_ge (pc := 87) (tgt := 128) dX3_write_87 (by decide) (fun c1 => ?_) (fun c1 => ?_)
  · have ht1 := h.1 c1
    refine hb_sipush (pc := 128) (v := 211) dX3_write_128 (by decide) ?_
    refine hb_istore_n (pc := 131) (i := 3) (ls1 := [some (hb_r 10 0 0), some (hb_r 7 0 0), some (hb_i x2), some (hb_i (211 : Int32)), none]) dX3_write_131 rfl (by decide) rfl ?_
    refine hb_iconst (pc := 132) (v := 0) dX3_write_132 (by decide) ?_
    refine hb_istore (pc := 133) (i := 4) (ls1 := [some (hb_r 10 0 0), some (hb_r 7 0 0), some (hb_i x2), some (hb_i (211 : Int32)), some (hb_i (0 : Int32))]) dX3_write_133 (by decide) rfl ?_
    exact ht1
  · have ht1 := h.2 c1
    refine hb_iload_n (pc := 90) (i := 3) dX3_write_90 rfl rfl ?_
    refine hb_bipush (pc := 91) (v := 9) dX3_write_91 (by decide) ?_
    refine hb_icmp_ge (pc := 93) (tgt := 128) dX3_write_93 (by decide) (fun c2 => ?_) (fun c2 => ?_)
    · have ht2 := ht1.1 c2
      refine hb_sipush (pc := 128) (v := 211) dX3_write_128 (by decide) ?_
      refine hb_istore_n (pc := 131) (i := 3) (ls1 := [some (hb_r 10 0 0), some (hb_r 7 0 0), some (hb_i x2), some (hb_i (211 : Int32)), none]) dX3_write_131 rfl (by decide) rfl ?_
      refine hb_iconst (pc := 132) (v := 0) dX3_write_132 (by decide) ?_
      refine hb_istore (pc := 133) (i := 4) (ls1 := [some (hb_r 10 0 0), some (hb_r 7 0 0), some (hb_i x2), some (hb_i (211 : Int32)), some (hb_i (0 : Int32))]) dX3_write_133 (by decide) rfl ?_
      exact ht2
    · have ht2 := ht1.2 c2
      refine hb_aload_n (pc := 96) (i := 0) dX3_write_96 rfl rfl ?_
      refine hb_aload_n (pc := 97) (i := 1) dX3_write_97 rfl rfl ?_
      refine hb_getR (pc := 98) (g1 := 0) dX3_write_98 fw_X3_40 cw_8 rfl (by decide) rfl (by decide) rfl ?_
      refine hb_iload_n (pc := 101) (i := 3) dX3_write_101 rfl rfl ?_
      obtain ⟨ho3, hr3⟩ := ht2
      refine hb_ialdx (pc := 102) (x := hb_aI w 7 4 0 x3.toNatClampNeg) dX3_write_102 rfl (by decide) ho3 rfl ?_
      refine hb_iconst (pc := 103) (v := -1) dX3_write_103 (by decide) ?_
      refine hb_icmp_ne (pc := 104) (tgt := 113) dX3_write_104 (by decide) (fun c4 => ?_) (fun c4 => ?_)
      · have ht4 := hr3.1 c4
        refine hb_aload_n (pc := 113) (i := 1) dX3_write_113 rfl rfl ?_
        refine hb_getR (pc := 114) (g1 := 0) dX3_write_114 fw_X3_40 cw_8 rfl (by decide) rfl (by decide) rfl ?_
        refine hb_iload_n (pc := 117) (i := 3) dX3_write_117 rfl rfl ?_
        obtain ⟨ho5, hr5⟩ := ht4
        refine hb_ialdx (pc := 118) (x := hb_aI w 7 4 0 x3.toNatClampNeg) dX3_write_118 rfl (by decide) ho5 rfl ?_
        exact hb_callV (pc := 119) (As := [hb_i (hb_aI w 7 4 0 x3.toNatClampNeg)]) (st := []) dX3_write_119 ml_X3_24 mf_X3_put mi_X3_put (ci := 3) rfl rfl (by decide) rfl rfl (Nat.le_of_ble_eq_true rfl) (Nat.le_of_ble_eq_true rfl) hr5 (fun _ _ q => q)
      · have ht4 := hr3.2 c4
        refine hb_sipush (pc := 107) (v := 255) dX3_write_107 (by decide) ?_
        refine hb_goto (pc := 110) (tgt := 119) dX3_write_110 (by decide) ?_
        exact hb_callV (pc := 119) (As := [hb_i (255 : Int32)]) (st := []) dX3_write_119 ml_X3_24 mf_X3_put mi_X3_put (ci := 3) rfl rfl (by decide) rfl rfl (Nat.le_of_ble_eq_true rfl) (Nat.le_of_ble_eq_true rfl) ht4 (fun _ _ q => q)
set_option maxRecDepth 20000 in
theorem bk_X3_write_122 {d : Nat} {w : hb_W} {Q : Option hb_V → hb_W → Prop} {x2 : Int32} {x3 : Int32} (h : hb_R yX3_write cX3_write 5 none (d + 1) 85 [some (hb_r 10 0 0), some (hb_r 7 0 0), some (hb_i x2), some (hb_i (x3 + (1 : Int32))), none] [] w Q) : hb_R yX3_write cX3_write 5 none (d + 1) 122 [some (hb_r 10 0 0), some (hb_r 7 0 0), some (hb_i x2), some (hb_i x3), none] [] w Q := by
  refine hb_iinc (pc := 122) (v := x3 + (1 : Int32)) (ls1 := [some (hb_r 10 0 0), some (hb_r 7 0 0), some (hb_i x2), some (hb_i (x3 + (1 : Int32))), none]) dX3_write_122 rfl rfl (by decide) rfl ?_
  refine hb_goto (pc := 125) (tgt := 85) dX3_write_125 (by decide) ?_
  exact h
set_option maxRecDepth 20000 in
theorem bk_X3_write_135 {d : Nat} {w : hb_W} {Q : Option hb_V → hb_W → Prop} {x2 : Int32} {x3 : Int32} {x4 : Int32} (h : (((hb_fI w 10 1 0) ≤ x4) → hb_O yX3_put cX3_put 2 none d [hb_r 10 0 0, hb_i x3] w (fun rv w1 => hb_R yX3_write cX3_write 5 none (d + 1) 167 [some (hb_r 10 0 0), some (hb_r 7 0 0), some (hb_i x2), some (hb_i x3), some (hb_i x4)] (rv.toList ++ []) w1 Q)) ∧ ((¬ (hb_fI w 10 1 0) ≤ x4) → vp_in x4 1213 ∧ (hb_O yX3_checked cX3_checked 2 (some .int) d [hb_i x3, hb_i (hb_aI w 10 1 0 x4.toNatClampNeg)] w (fun rv w1 => hb_R yX3_write cX3_write 5 none (d + 1) 155 [some (hb_r 10 0 0), some (hb_r 7 0 0), some (hb_i x2), some (hb_i x3), some (hb_i x4)] (rv.toList ++ []) w1 Q)))) : hb_R yX3_write cX3_write 5 none (d + 1) 135 [some (hb_r 10 0 0), some (hb_r 7 0 0), some (hb_i x2), some (hb_i x3), some (hb_i x4)] [] w Q := by
  refine hb_iload (pc := 135) dX3_write_135 rfl ?_
  refine hb_aload_n (pc := 137) (i := 0) dX3_write_137 rfl rfl ?_
  refine hb_getIx (pc := 138) (x := hb_fI w 10 1 0) dX3_write_138 fw_X3_15 cw_3 rfl (by decide) rfl rfl ?_
  refine hb_icmp_ge (pc := 141) (tgt := 162) dX3_write_141 (by decide) (fun c1 => ?_) (fun c1 => ?_)
  · have ht1 := h.1 c1
    refine hb_aload_n (pc := 162) (i := 0) dX3_write_162 rfl rfl ?_
    refine hb_iload_n (pc := 163) (i := 3) dX3_write_163 rfl rfl ?_
    exact hb_callV (pc := 164) (As := [hb_i x3]) (st := []) dX3_write_164 ml_X3_24 mf_X3_put mi_X3_put (ci := 3) rfl rfl (by decide) rfl rfl (Nat.le_of_ble_eq_true rfl) (Nat.le_of_ble_eq_true rfl) ht1 (fun _ _ q => q)
  · have ht1 := h.2 c1
    refine hb_iload_n (pc := 144) (i := 3) dX3_write_144 rfl rfl ?_
    refine hb_aload_n (pc := 145) (i := 0) dX3_write_145 rfl rfl ?_
    refine hb_getR (pc := 146) (g1 := 0) dX3_write_146 fw_X3_11 cw_3 rfl (by decide) rfl (by decide) rfl ?_
    refine hb_iload (pc := 149) dX3_write_149 rfl ?_
    obtain ⟨ho2, hr2⟩ := ht1
    refine hb_ialdx (pc := 151) (x := hb_aI w 10 1 0 x4.toNatClampNeg) dX3_write_151 rfl (by decide) ho2 rfl ?_
    exact hb_callS (pc := 152) (As := [hb_i x3, hb_i (hb_aI w 10 1 0 x4.toNatClampNeg)]) (st := []) dX3_write_152 ml_X3_43 mf_X3_checked ms_X3_checked rfl rfl (Nat.le_of_ble_eq_true rfl) (Nat.le_of_ble_eq_true rfl) hr2 (fun _ _ q => q)
set_option maxRecDepth 20000 in
theorem bk_X3_write_155 {d : Nat} {w : hb_W} {Q : Option hb_V → hb_W → Prop} {x2 : Int32} {x3 : Int32} {x4 : Int32} {xs0 : Int32} (h : hb_R yX3_write cX3_write 5 none (d + 1) 135 [some (hb_r 10 0 0), some (hb_r 7 0 0), some (hb_i x2), some (hb_i xs0), some (hb_i (x4 + (1 : Int32)))] [] w Q) : hb_R yX3_write cX3_write 5 none (d + 1) 155 [some (hb_r 10 0 0), some (hb_r 7 0 0), some (hb_i x2), some (hb_i x3), some (hb_i x4)] [hb_i xs0] w Q := by
  refine hb_istore_n (pc := 155) (i := 3) (ls1 := [some (hb_r 10 0 0), some (hb_r 7 0 0), some (hb_i x2), some (hb_i xs0), some (hb_i x4)]) dX3_write_155 rfl (by decide) rfl ?_
  refine hb_iinc (pc := 156) (v := x4 + (1 : Int32)) (ls1 := [some (hb_r 10 0 0), some (hb_r 7 0 0), some (hb_i x2), some (hb_i xs0), some (hb_i (x4 + (1 : Int32)))]) dX3_write_156 rfl rfl (by decide) rfl ?_
  refine hb_goto (pc := 159) (tgt := 135) dX3_write_159 (by decide) ?_
  exact h
set_option maxRecDepth 20000 in
theorem bk_X3_write_167 {d : Nat} {w : hb_W} {Q : Option hb_V → hb_W → Prop} {x2 : Int32} {x3 : Int32} {x4 : Int32} (h : Q none w) : hb_R yX3_write cX3_write 5 none (d + 1) 167 [some (hb_r 10 0 0), some (hb_r 7 0 0), some (hb_i x2), some (hb_i x3), some (hb_i x4)] [] w Q := by
  exact hb_vret (pc := 167) dX3_write_167 rfl h
theorem dX3_put_0 : decode cX3_put 0 = .ok (.aload_n 0, 1) := by decide +kernel
theorem dX3_put_1 : decode cX3_put 1 = .ok (.getfield 15, 3) := by decide +kernel
theorem dX3_put_4 : decode cX3_put 4 = .ok (.aload_n 0, 1) := by decide +kernel
theorem dX3_put_5 : decode cX3_put 5 = .ok (.getfield 11, 3) := by decide +kernel
theorem dX3_put_8 : decode cX3_put 8 = .ok (.arraylength, 1) := by decide +kernel
theorem dX3_put_9 : decode cX3_put 9 = .ok (.if_icmp .ge 23, 3) := by decide +kernel
theorem dX3_put_12 : decode cX3_put 12 = .ok (.aload_n 0, 1) := by decide +kernel
theorem dX3_put_13 : decode cX3_put 13 = .ok (.getfield 11, 3) := by decide +kernel
theorem dX3_put_16 : decode cX3_put 16 = .ok (.aload_n 0, 1) := by decide +kernel
theorem dX3_put_17 : decode cX3_put 17 = .ok (.getfield 15, 3) := by decide +kernel
theorem dX3_put_20 : decode cX3_put 20 = .ok (.iload_n 1, 1) := by decide +kernel
theorem dX3_put_21 : decode cX3_put 21 = .ok (.iastore, 1) := by decide +kernel
theorem dX3_put_22 : decode cX3_put 22 = .ok (.aload_n 0, 1) := by decide +kernel
theorem dX3_put_23 : decode cX3_put 23 = .ok (.dup, 1) := by decide +kernel
theorem dX3_put_24 : decode cX3_put 24 = .ok (.getfield 15, 3) := by decide +kernel
theorem dX3_put_27 : decode cX3_put 27 = .ok (.iconst 1, 1) := by decide +kernel
theorem dX3_put_28 : decode cX3_put 28 = .ok (.iadd, 1) := by decide +kernel
theorem dX3_put_29 : decode cX3_put 29 = .ok (.putfield 15, 3) := by decide +kernel
theorem dX3_put_32 : decode cX3_put 32 = .ok (.return_, 1) := by decide +kernel
set_option maxRecDepth 20000 in
theorem bk_X3_put_0 {d : Nat} {w : hb_W} {Q : Option hb_V → hb_W → Prop} {x1 : Int32} (h : (((1213 : Int32) ≤ (hb_fI w 10 1 0)) → Q none w) ∧ ((¬ (1213 : Int32) ≤ (hb_fI w 10 1 0)) → vp_in (hb_fI w 10 1 0) 1213 ∧ (Q none (hb_pI (hb_sI w 10 1 0 (upd (hb_aI w 10 1 0) (hb_fI w 10 1 0).toNatClampNeg x1)) 10 1 0 ((hb_fI w 10 1 0) + (1 : Int32)))))) : hb_R yX3_put cX3_put 2 none d 0 [some (hb_r 10 0 0), some (hb_i x1)] [] w Q := by
  refine hb_aload_n (pc := 0) (i := 0) dX3_put_0 rfl rfl ?_
  refine hb_getIx (pc := 1) (x := hb_fI w 10 1 0) dX3_put_1 fw_X3_15 cw_3 rfl (by decide) rfl rfl ?_
  refine hb_aload_n (pc := 4) (i := 0) dX3_put_4 rfl rfl ?_
  refine hb_getR (pc := 5) (g1 := 0) dX3_put_5 fw_X3_11 cw_3 rfl (by decide) rfl (by decide) rfl ?_
  refine hb_alen (pc := 8) (v := (1213 : Int32)) dX3_put_8 rfl (by decide) (by decide) rfl ?_
  refine hb_icmp_ge (pc := 9) (tgt := 32) dX3_put_9 (by decide) (fun c1 => ?_) (fun c1 => ?_)
  · have ht1 := h.1 c1
    exact hb_vret (pc := 32) dX3_put_32 rfl ht1
  · have ht1 := h.2 c1
    refine hb_aload_n (pc := 12) (i := 0) dX3_put_12 rfl rfl ?_
    refine hb_getR (pc := 13) (g1 := 0) dX3_put_13 fw_X3_11 cw_3 rfl (by decide) rfl (by decide) rfl ?_
    refine hb_aload_n (pc := 16) (i := 0) dX3_put_16 rfl rfl ?_
    refine hb_getIx (pc := 17) (x := hb_fI w 10 1 0) dX3_put_17 fw_X3_15 cw_3 rfl (by decide) rfl rfl ?_
    refine hb_iload_n (pc := 20) (i := 1) dX3_put_20 rfl rfl ?_
    obtain ⟨ho2, hr2⟩ := ht1
    refine hb_iastx (pc := 21) (f := upd (hb_aI w 10 1 0) (hb_fI w 10 1 0).toNatClampNeg x1) dX3_put_21 rfl (by decide) ho2 rfl ?_
    refine hb_aload_n (pc := 22) (i := 0) dX3_put_22 rfl rfl ?_
    refine hb_dupr (pc := 23) dX3_put_23 ?_
    refine hb_getIx (pc := 24) (x := hb_fI w 10 1 0) dX3_put_24 fw_X3_15 cw_3 rfl (by decide) rfl rfl ?_
    refine hb_iconst (pc := 27) (v := 1) dX3_put_27 (by decide) ?_
    refine hb_iadd (pc := 28) dX3_put_28 ?_
    refine hb_putI (pc := 29) dX3_put_29 fw_X3_15 cw_3 pw_3_1 rfl (by decide) rfl rfl rfl ?_
    exact hb_vret (pc := 32) dX3_put_32 rfl hr2
theorem dX3_checked_0 : decode cX3_checked 0 = .ok (.iconst 3, 1) := by decide +kernel
theorem dX3_checked_1 : decode cX3_checked 1 = .ok (.iload_n 0, 1) := by decide +kernel
theorem dX3_checked_2 : decode cX3_checked 2 = .ok (.imul, 1) := by decide +kernel
theorem dX3_checked_3 : decode cX3_checked 3 = .ok (.iload_n 1, 1) := by decide +kernel
theorem dX3_checked_4 : decode cX3_checked 4 = .ok (.iadd, 1) := by decide +kernel
theorem dX3_checked_5 : decode cX3_checked 5 = .ok (.sipush 251, 3) := by decide +kernel
theorem dX3_checked_8 : decode cX3_checked 8 = .ok (.irem, 1) := by decide +kernel
theorem dX3_checked_9 : decode cX3_checked 9 = .ok (.ireturn, 1) := by decide +kernel
set_option maxRecDepth 20000 in
theorem bk_X3_checked_0 {d : Nat} {w : hb_W} {Q : Option hb_V → hb_W → Prop} {x0 : Int32} {x1 : Int32} (h : Q (some (hb_i ((((3 : Int32) * x0) + x1) - (((3 : Int32) * x0) + x1) / (251 : Int32) * (251 : Int32)))) w) : hb_R yX3_checked cX3_checked 2 (some .int) d 0 [some (hb_i x0), some (hb_i x1)] [] w Q := by
  refine hb_iconst (pc := 0) (v := 3) dX3_checked_0 (by decide) ?_
  refine hb_iload_n (pc := 1) (i := 0) dX3_checked_1 rfl rfl ?_
  refine hb_imul (pc := 2) dX3_checked_2 ?_
  refine hb_iload_n (pc := 3) (i := 1) dX3_checked_3 rfl rfl ?_
  refine hb_iadd (pc := 4) dX3_checked_4 ?_
  refine hb_sipush (pc := 5) (v := 251) dX3_checked_5 (by decide) ?_
  refine hb_irem (pc := 8) dX3_checked_8 (by decide) ?_
  exact hb_iret (pc := 9) dX3_checked_9 rfl h
theorem dX3_passesTold_0 : decode cX3_passesTold 0 = .ok (.aload_n 0, 1) := by decide +kernel
theorem dX3_passesTold_1 : decode cX3_passesTold 1 = .ok (.getfield 47, 3) := by decide +kernel
theorem dX3_passesTold_4 : decode cX3_passesTold 4 = .ok (.iconst 4, 1) := by decide +kernel
theorem dX3_passesTold_5 : decode cX3_passesTold 5 = .ok (.if_icmp .ge 7, 3) := by decide +kernel
theorem dX3_passesTold_8 : decode cX3_passesTold 8 = .ok (.iconst 0, 1) := by decide +kernel
theorem dX3_passesTold_9 : decode cX3_passesTold 9 = .ok (.goto 24, 3) := by decide +kernel
theorem dX3_passesTold_12 : decode cX3_passesTold 12 = .ok (.sipush 400, 3) := by decide +kernel
theorem dX3_passesTold_15 : decode cX3_passesTold 15 = .ok (.aload_n 0, 1) := by decide +kernel
theorem dX3_passesTold_16 : decode cX3_passesTold 16 = .ok (.iconst 1, 1) := by decide +kernel
theorem dX3_passesTold_17 : decode cX3_passesTold 17 = .ok (.invokevirtual 50, 3) := by decide +kernel
theorem dX3_passesTold_20 : decode cX3_passesTold 20 = .ok (.sipush 256, 3) := by decide +kernel
theorem dX3_passesTold_23 : decode cX3_passesTold 23 = .ok (.imul, 1) := by decide +kernel
theorem dX3_passesTold_24 : decode cX3_passesTold 24 = .ok (.aload_n 0, 1) := by decide +kernel
theorem dX3_passesTold_25 : decode cX3_passesTold 25 = .ok (.iconst 2, 1) := by decide +kernel
theorem dX3_passesTold_26 : decode cX3_passesTold 26 = .ok (.invokevirtual 50, 3) := by decide +kernel
theorem dX3_passesTold_29 : decode cX3_passesTold 29 = .ok (.iadd, 1) := by decide +kernel
theorem dX3_passesTold_30 : decode cX3_passesTold 30 = .ok (.invokestatic 54, 3) := by decide +kernel
theorem dX3_passesTold_33 : decode cX3_passesTold 33 = .ok (.ireturn, 1) := by decide +kernel
set_option maxRecDepth 20000 in
theorem bk_X3_passesTold_0 {d : Nat} {w : hb_W} {Q : Option hb_V → hb_W → Prop} (h : (((4 : Int32) ≤ (hb_fI w 1 1 0)) → hb_O yX10_at cX10_at 2 (some .int) d [hb_r 1 0 0, hb_i (1 : Int32)] w (fun rv w1 => hb_R yX3_passesTold cX3_passesTold 1 (some .int) (d + 1) 20 [some (hb_r 1 0 0)] (rv.toList ++ [hb_i (400 : Int32)]) w1 Q)) ∧ ((¬ (4 : Int32) ≤ (hb_fI w 1 1 0)) → Q (some (hb_i (0 : Int32))) w)) : hb_R yX3_passesTold cX3_passesTold 1 (some .int) (d + 1) 0 [some (hb_r 1 0 0)] [] w Q := by
  refine hb_aload_n (pc := 0) (i := 0) dX3_passesTold_0 rfl rfl ?_
  refine hb_getIx (pc := 1) (x := hb_fI w 1 1 0) dX3_passesTold_1 fw_X3_47 cw_10 rfl (by decide) rfl rfl ?_
  refine hb_iconst (pc := 4) (v := 4) dX3_passesTold_4 (by decide) ?_
  refine hb_icmp_ge (pc := 5) (tgt := 12) dX3_passesTold_5 (by decide) (fun c1 => ?_) (fun c1 => ?_)
  · have ht1 := h.1 c1
    refine hb_sipush (pc := 12) (v := 400) dX3_passesTold_12 (by decide) ?_
    refine hb_aload_n (pc := 15) (i := 0) dX3_passesTold_15 rfl rfl ?_
    refine hb_iconst (pc := 16) (v := 1) dX3_passesTold_16 (by decide) ?_
    exact hb_callV (pc := 17) (As := [hb_i (1 : Int32)]) (st := [hb_i (400 : Int32)]) dX3_passesTold_17 ml_X3_50 mf_X10_at mi_X10_at (ci := 10) rfl rfl (by decide) rfl rfl (Nat.le_of_ble_eq_true rfl) (Nat.le_of_ble_eq_true rfl) ht1 (fun _ _ q => q)
  · have ht1 := h.2 c1
    refine hb_iconst (pc := 8) (v := 0) dX3_passesTold_8 (by decide) ?_
    refine hb_goto (pc := 9) (tgt := 33) dX3_passesTold_9 (by decide) ?_
    exact hb_iret (pc := 33) dX3_passesTold_33 rfl ht1
set_option maxRecDepth 20000 in
theorem bk_X3_passesTold_20 {d : Nat} {w : hb_W} {Q : Option hb_V → hb_W → Prop} {xs0 : Int32} {xs1 : Int32} (h : hb_O yX10_at cX10_at 2 (some .int) d [hb_r 1 0 0, hb_i (2 : Int32)] w (fun rv w1 => hb_R yX3_passesTold cX3_passesTold 1 (some .int) (d + 1) 29 [some (hb_r 1 0 0)] (rv.toList ++ [hb_i (xs1 * (256 : Int32)), hb_i xs0]) w1 Q)) : hb_R yX3_passesTold cX3_passesTold 1 (some .int) (d + 1) 20 [some (hb_r 1 0 0)] [hb_i xs1, hb_i xs0] w Q := by
  refine hb_sipush (pc := 20) (v := 256) dX3_passesTold_20 (by decide) ?_
  refine hb_imul (pc := 23) dX3_passesTold_23 ?_
  refine hb_aload_n (pc := 24) (i := 0) dX3_passesTold_24 rfl rfl ?_
  refine hb_iconst (pc := 25) (v := 2) dX3_passesTold_25 (by decide) ?_
  exact hb_callV (pc := 26) (As := [hb_i (2 : Int32)]) (st := [hb_i (xs1 * (256 : Int32)), hb_i xs0]) dX3_passesTold_26 ml_X3_50 mf_X10_at mi_X10_at (ci := 10) rfl rfl (by decide) rfl rfl (Nat.le_of_ble_eq_true rfl) (Nat.le_of_ble_eq_true rfl) h (fun _ _ q => q)
set_option maxRecDepth 20000 in
theorem bk_X3_passesTold_29 {d : Nat} {w : hb_W} {Q : Option hb_V → hb_W → Prop} {xs0 : Int32} {xs1 : Int32} {xs2 : Int32} (h : Q (some (hb_i (if (xs1 + xs2) < xs0 then (xs1 + xs2) else xs0))) w) : hb_R yX3_passesTold cX3_passesTold 1 (some .int) (d + 1) 29 [some (hb_r 1 0 0)] [hb_i xs2, hb_i xs1, hb_i xs0] w Q := by
  refine hb_iadd (pc := 29) dX3_passesTold_29 ?_
  refine hb_mmin (pc := 30) dX3_passesTold_30 ml_X3_54 (Nat.le_of_ble_eq_true rfl) ?_
  exact hb_iret (pc := 33) dX3_passesTold_33 rfl h
theorem dX3_isOn_0 : decode cX3_isOn 0 = .ok (.aload_n 0, 1) := by decide +kernel
theorem dX3_isOn_1 : decode cX3_isOn 1 = .ok (.getfield 47, 3) := by decide +kernel
theorem dX3_isOn_4 : decode cX3_isOn 4 = .ok (.iconst 4, 1) := by decide +kernel
theorem dX3_isOn_5 : decode cX3_isOn 5 = .ok (.if_icmp .lt 34, 3) := by decide +kernel
theorem dX3_isOn_8 : decode cX3_isOn 8 = .ok (.aload_n 0, 1) := by decide +kernel
theorem dX3_isOn_9 : decode cX3_isOn 9 = .ok (.iconst 0, 1) := by decide +kernel
theorem dX3_isOn_10 : decode cX3_isOn 10 = .ok (.invokevirtual 50, 3) := by decide +kernel
theorem dX3_isOn_13 : decode cX3_isOn 13 = .ok (.bipush 100, 2) := by decide +kernel
theorem dX3_isOn_15 : decode cX3_isOn 15 = .ok (.if_icmp .ge 24, 3) := by decide +kernel
theorem dX3_isOn_18 : decode cX3_isOn 18 = .ok (.aload_n 0, 1) := by decide +kernel
theorem dX3_isOn_19 : decode cX3_isOn 19 = .ok (.iconst 1, 1) := by decide +kernel
theorem dX3_isOn_20 : decode cX3_isOn 20 = .ok (.invokevirtual 50, 3) := by decide +kernel
theorem dX3_isOn_23 : decode cX3_isOn 23 = .ok (.sipush 256, 3) := by decide +kernel
theorem dX3_isOn_26 : decode cX3_isOn 26 = .ok (.imul, 1) := by decide +kernel
theorem dX3_isOn_27 : decode cX3_isOn 27 = .ok (.aload_n 0, 1) := by decide +kernel
theorem dX3_isOn_28 : decode cX3_isOn 28 = .ok (.iconst 2, 1) := by decide +kernel
theorem dX3_isOn_29 : decode cX3_isOn 29 = .ok (.invokevirtual 50, 3) := by decide +kernel
theorem dX3_isOn_32 : decode cX3_isOn 32 = .ok (.iadd, 1) := by decide +kernel
theorem dX3_isOn_33 : decode cX3_isOn 33 = .ok (.sipush 400, 3) := by decide +kernel
theorem dX3_isOn_36 : decode cX3_isOn 36 = .ok (.if_icmp .le 5, 3) := by decide +kernel
theorem dX3_isOn_39 : decode cX3_isOn 39 = .ok (.iconst 0, 1) := by decide +kernel
theorem dX3_isOn_40 : decode cX3_isOn 40 = .ok (.ireturn, 1) := by decide +kernel
theorem dX3_isOn_41 : decode cX3_isOn 41 = .ok (.aload_n 0, 1) := by decide +kernel
theorem dX3_isOn_42 : decode cX3_isOn 42 = .ok (.invokestatic 59, 3) := by decide +kernel
theorem dX3_isOn_45 : decode cX3_isOn 45 = .ok (.istore_n 2, 1) := by decide +kernel
theorem dX3_isOn_46 : decode cX3_isOn 46 = .ok (.aload_n 0, 1) := by decide +kernel
theorem dX3_isOn_47 : decode cX3_isOn 47 = .ok (.getfield 47, 3) := by decide +kernel
theorem dX3_isOn_50 : decode cX3_isOn 50 = .ok (.iconst 4, 1) := by decide +kernel
theorem dX3_isOn_51 : decode cX3_isOn 51 = .ok (.iconst 3, 1) := by decide +kernel
theorem dX3_isOn_52 : decode cX3_isOn 52 = .ok (.iload_n 2, 1) := by decide +kernel
theorem dX3_isOn_53 : decode cX3_isOn 53 = .ok (.imul, 1) := by decide +kernel
theorem dX3_isOn_54 : decode cX3_isOn 54 = .ok (.iadd, 1) := by decide +kernel
theorem dX3_isOn_55 : decode cX3_isOn 55 = .ok (.iload_n 1, 1) := by decide +kernel
theorem dX3_isOn_56 : decode cX3_isOn 56 = .ok (.iadd, 1) := by decide +kernel
theorem dX3_isOn_57 : decode cX3_isOn 57 = .ok (.if_icmp .eq 5, 3) := by decide +kernel
theorem dX3_isOn_60 : decode cX3_isOn 60 = .ok (.iconst 0, 1) := by decide +kernel
theorem dX3_isOn_61 : decode cX3_isOn 61 = .ok (.ireturn, 1) := by decide +kernel
theorem dX3_isOn_62 : decode cX3_isOn 62 = .ok (.sipush 211, 3) := by decide +kernel
theorem dX3_isOn_65 : decode cX3_isOn 65 = .ok (.istore_n 3, 1) := by decide +kernel
theorem dX3_isOn_66 : decode cX3_isOn 66 = .ok (.iconst 0, 1) := by decide +kernel
theorem dX3_isOn_67 : decode cX3_isOn 67 = .ok (.istore 4, 2) := by decide +kernel
theorem dX3_isOn_69 : decode cX3_isOn 69 = .ok (.iload 4, 2) := by decide +kernel
theorem dX3_isOn_71 : decode cX3_isOn 71 = .ok (.aload_n 0, 1) := by decide +kernel
theorem dX3_isOn_72 : decode cX3_isOn 72 = .ok (.getfield 47, 3) := by decide +kernel
theorem dX3_isOn_75 : decode cX3_isOn 75 = .ok (.iconst 1, 1) := by decide +kernel
theorem dX3_isOn_76 : decode cX3_isOn 76 = .ok (.isub, 1) := by decide +kernel
theorem dX3_isOn_77 : decode cX3_isOn 77 = .ok (.if_icmp .ge 20, 3) := by decide +kernel
theorem dX3_isOn_80 : decode cX3_isOn 80 = .ok (.iload_n 3, 1) := by decide +kernel
theorem dX3_isOn_81 : decode cX3_isOn 81 = .ok (.aload_n 0, 1) := by decide +kernel
theorem dX3_isOn_82 : decode cX3_isOn 82 = .ok (.iload 4, 2) := by decide +kernel
theorem dX3_isOn_84 : decode cX3_isOn 84 = .ok (.invokevirtual 50, 3) := by decide +kernel
theorem dX3_isOn_87 : decode cX3_isOn 87 = .ok (.invokestatic 43, 3) := by decide +kernel
theorem dX3_isOn_90 : decode cX3_isOn 90 = .ok (.istore_n 3, 1) := by decide +kernel
theorem dX3_isOn_91 : decode cX3_isOn 91 = .ok (.iinc 4 1, 3) := by decide +kernel
theorem dX3_isOn_94 : decode cX3_isOn 94 = .ok (.goto (-25), 3) := by decide +kernel
theorem dX3_isOn_97 : decode cX3_isOn 97 = .ok (.iload_n 3, 1) := by decide +kernel
theorem dX3_isOn_98 : decode cX3_isOn 98 = .ok (.aload_n 0, 1) := by decide +kernel
theorem dX3_isOn_99 : decode cX3_isOn 99 = .ok (.aload_n 0, 1) := by decide +kernel
theorem dX3_isOn_100 : decode cX3_isOn 100 = .ok (.getfield 47, 3) := by decide +kernel
theorem dX3_isOn_103 : decode cX3_isOn 103 = .ok (.iconst 1, 1) := by decide +kernel
theorem dX3_isOn_104 : decode cX3_isOn 104 = .ok (.isub, 1) := by decide +kernel
theorem dX3_isOn_105 : decode cX3_isOn 105 = .ok (.invokevirtual 50, 3) := by decide +kernel
theorem dX3_isOn_108 : decode cX3_isOn 108 = .ok (.if_icmp .ne 24, 3) := by decide +kernel
theorem dX3_isOn_111 : decode cX3_isOn 111 = .ok (.aload_n 0, 1) := by decide +kernel
theorem dX3_isOn_112 : decode cX3_isOn 112 = .ok (.iload_n 2, 1) := by decide +kernel
theorem dX3_isOn_113 : decode cX3_isOn 113 = .ok (.invokestatic 63, 3) := by decide +kernel
theorem dX3_isOn_116 : decode cX3_isOn 116 = .ok (.ifCond .eq 16, 3) := by decide +kernel
theorem dX3_isOn_119 : decode cX3_isOn 119 = .ok (.aload_n 0, 1) := by decide +kernel
theorem dX3_isOn_120 : decode cX3_isOn 120 = .ok (.iload_n 2, 1) := by decide +kernel
theorem dX3_isOn_121 : decode cX3_isOn 121 = .ok (.iload_n 1, 1) := by decide +kernel
theorem dX3_isOn_122 : decode cX3_isOn 122 = .ok (.invokestatic 67, 3) := by decide +kernel
theorem dX3_isOn_125 : decode cX3_isOn 125 = .ok (.ifCond .eq 7, 3) := by decide +kernel
theorem dX3_isOn_128 : decode cX3_isOn 128 = .ok (.iconst 1, 1) := by decide +kernel
theorem dX3_isOn_129 : decode cX3_isOn 129 = .ok (.goto 4, 3) := by decide +kernel
theorem dX3_isOn_132 : decode cX3_isOn 132 = .ok (.iconst 0, 1) := by decide +kernel
theorem dX3_isOn_133 : decode cX3_isOn 133 = .ok (.ireturn, 1) := by decide +kernel
set_option maxRecDepth 20000 in
theorem bk_X3_isOn_0 {d : Nat} {w : hb_W} {Q : Option hb_V → hb_W → Prop} {x1 : Int32} (h : (((hb_fI w 1 1 0) < (4 : Int32)) → Q (some (hb_i (0 : Int32))) w) ∧ ((¬ (hb_fI w 1 1 0) < (4 : Int32)) → hb_O yX10_at cX10_at 2 (some .int) d [hb_r 1 0 0, hb_i (0 : Int32)] w (fun rv w1 => hb_R yX3_isOn cX3_isOn 5 (some .boolean) (d + 1) 13 [some (hb_r 1 0 0), some (hb_i x1), none, none, none] (rv.toList ++ []) w1 Q))) : hb_R yX3_isOn cX3_isOn 5 (some .boolean) (d + 1) 0 [some (hb_r 1 0 0), some (hb_i x1), none, none, none] [] w Q := by
  refine hb_aload_n (pc := 0) (i := 0) dX3_isOn_0 rfl rfl ?_
  refine hb_getIx (pc := 1) (x := hb_fI w 1 1 0) dX3_isOn_1 fw_X3_47 cw_10 rfl (by decide) rfl rfl ?_
  refine hb_iconst (pc := 4) (v := 4) dX3_isOn_4 (by decide) ?_
  refine hb_icmp_lt (pc := 5) (tgt := 39) dX3_isOn_5 (by decide) (fun c1 => ?_) (fun c1 => ?_)
  · have ht1 := h.1 c1
    refine hb_iconst (pc := 39) (v := 0) dX3_isOn_39 (by decide) ?_
    exact hb_zret (pc := 40) dX3_isOn_40 rfl (Or.inl rfl) ht1
  · have ht1 := h.2 c1
    refine hb_aload_n (pc := 8) (i := 0) dX3_isOn_8 rfl rfl ?_
    refine hb_iconst (pc := 9) (v := 0) dX3_isOn_9 (by decide) ?_
    exact hb_callV (pc := 10) (As := [hb_i (0 : Int32)]) (st := []) dX3_isOn_10 ml_X3_50 mf_X10_at mi_X10_at (ci := 10) rfl rfl (by decide) rfl rfl (Nat.le_of_ble_eq_true rfl) (Nat.le_of_ble_eq_true rfl) ht1 (fun _ _ q => q)
set_option maxRecDepth 20000 in
theorem bk_X3_isOn_13 {d : Nat} {w : hb_W} {Q : Option hb_V → hb_W → Prop} {x1 : Int32} {xs0 : Int32} (h : (((100 : Int32) ≤ xs0) → Q (some (hb_i (0 : Int32))) w) ∧ ((¬ (100 : Int32) ≤ xs0) → hb_O yX10_at cX10_at 2 (some .int) d [hb_r 1 0 0, hb_i (1 : Int32)] w (fun rv w1 => hb_R yX3_isOn cX3_isOn 5 (some .boolean) (d + 1) 23 [some (hb_r 1 0 0), some (hb_i x1), none, none, none] (rv.toList ++ []) w1 Q))) : hb_R yX3_isOn cX3_isOn 5 (some .boolean) (d + 1) 13 [some (hb_r 1 0 0), some (hb_i x1), none, none, none] [hb_i xs0] w Q := by
  refine hb_bipush (pc := 13) (v := 100) dX3_isOn_13 (by decide) ?_
  refine hb_icmp_ge (pc := 15) (tgt := 39) dX3_isOn_15 (by decide) (fun c1 => ?_) (fun c1 => ?_)
  · have ht1 := h.1 c1
    refine hb_iconst (pc := 39) (v := 0) dX3_isOn_39 (by decide) ?_
    exact hb_zret (pc := 40) dX3_isOn_40 rfl (Or.inl rfl) ht1
  · have ht1 := h.2 c1
    refine hb_aload_n (pc := 18) (i := 0) dX3_isOn_18 rfl rfl ?_
    refine hb_iconst (pc := 19) (v := 1) dX3_isOn_19 (by decide) ?_
    exact hb_callV (pc := 20) (As := [hb_i (1 : Int32)]) (st := []) dX3_isOn_20 ml_X3_50 mf_X10_at mi_X10_at (ci := 10) rfl rfl (by decide) rfl rfl (Nat.le_of_ble_eq_true rfl) (Nat.le_of_ble_eq_true rfl) ht1 (fun _ _ q => q)
set_option maxRecDepth 20000 in
theorem bk_X3_isOn_23 {d : Nat} {w : hb_W} {Q : Option hb_V → hb_W → Prop} {x1 : Int32} {xs0 : Int32} (h : hb_O yX10_at cX10_at 2 (some .int) d [hb_r 1 0 0, hb_i (2 : Int32)] w (fun rv w1 => hb_R yX3_isOn cX3_isOn 5 (some .boolean) (d + 1) 32 [some (hb_r 1 0 0), some (hb_i x1), none, none, none] (rv.toList ++ [hb_i (xs0 * (256 : Int32))]) w1 Q)) : hb_R yX3_isOn cX3_isOn 5 (some .boolean) (d + 1) 23 [some (hb_r 1 0 0), some (hb_i x1), none, none, none] [hb_i xs0] w Q := by
  refine hb_sipush (pc := 23) (v := 256) dX3_isOn_23 (by decide) ?_
  refine hb_imul (pc := 26) dX3_isOn_26 ?_
  refine hb_aload_n (pc := 27) (i := 0) dX3_isOn_27 rfl rfl ?_
  refine hb_iconst (pc := 28) (v := 2) dX3_isOn_28 (by decide) ?_
  exact hb_callV (pc := 29) (As := [hb_i (2 : Int32)]) (st := [hb_i (xs0 * (256 : Int32))]) dX3_isOn_29 ml_X3_50 mf_X10_at mi_X10_at (ci := 10) rfl rfl (by decide) rfl rfl (Nat.le_of_ble_eq_true rfl) (Nat.le_of_ble_eq_true rfl) h (fun _ _ q => q)
set_option maxRecDepth 20000 in
theorem bk_X3_isOn_32 {d : Nat} {w : hb_W} {Q : Option hb_V → hb_W → Prop} {x1 : Int32} {xs0 : Int32} {xs1 : Int32} (h : (((xs0 + xs1) ≤ (400 : Int32)) → hb_O yX3_passesTold cX3_passesTold 1 (some .int) d [hb_r 1 0 0] w (fun rv w1 => hb_R yX3_isOn cX3_isOn 5 (some .boolean) (d + 1) 45 [some (hb_r 1 0 0), some (hb_i x1), none, none, none] (rv.toList ++ []) w1 Q)) ∧ ((¬ (xs0 + xs1) ≤ (400 : Int32)) → Q (some (hb_i (0 : Int32))) w)) : hb_R yX3_isOn cX3_isOn 5 (some .boolean) (d + 1) 32 [some (hb_r 1 0 0), some (hb_i x1), none, none, none] [hb_i xs1, hb_i xs0] w Q := by
  refine hb_iadd (pc := 32) dX3_isOn_32 ?_
  refine hb_sipush (pc := 33) (v := 400) dX3_isOn_33 (by decide) ?_
  refine hb_icmp_le (pc := 36) (tgt := 41) dX3_isOn_36 (by decide) (fun c1 => ?_) (fun c1 => ?_)
  · have ht1 := h.1 c1
    refine hb_aload_n (pc := 41) (i := 0) dX3_isOn_41 rfl rfl ?_
    exact hb_callS (pc := 42) (As := [hb_r 1 0 0]) (st := []) dX3_isOn_42 ml_X3_59 mf_X3_passesTold ms_X3_passesTold rfl rfl (Nat.le_of_ble_eq_true rfl) (Nat.le_of_ble_eq_true rfl) ht1 (fun _ _ q => q)
  · have ht1 := h.2 c1
    refine hb_iconst (pc := 39) (v := 0) dX3_isOn_39 (by decide) ?_
    exact hb_zret (pc := 40) dX3_isOn_40 rfl (Or.inl rfl) ht1
set_option maxRecDepth 20000 in
theorem bk_X3_isOn_45 {d : Nat} {w : hb_W} {Q : Option hb_V → hb_W → Prop} {x1 : Int32} {xs0 : Int32} (h : (((hb_fI w 1 1 0) = (((4 : Int32) + ((3 : Int32) * xs0)) + x1)) → hb_R yX3_isOn cX3_isOn 5 (some .boolean) (d + 1) 69 [some (hb_r 1 0 0), some (hb_i x1), some (hb_i xs0), some (hb_i (211 : Int32)), some (hb_i (0 : Int32))] [] w Q) ∧ ((¬ (hb_fI w 1 1 0) = (((4 : Int32) + ((3 : Int32) * xs0)) + x1)) → Q (some (hb_i (0 : Int32))) w)) : hb_R yX3_isOn cX3_isOn 5 (some .boolean) (d + 1) 45 [some (hb_r 1 0 0), some (hb_i x1), none, none, none] [hb_i xs0] w Q := by
  refine hb_istore_n (pc := 45) (i := 2) (ls1 := [some (hb_r 1 0 0), some (hb_i x1), some (hb_i xs0), none, none]) dX3_isOn_45 rfl (by decide) rfl ?_
  refine hb_aload_n (pc := 46) (i := 0) dX3_isOn_46 rfl rfl ?_
  refine hb_getIx (pc := 47) (x := hb_fI w 1 1 0) dX3_isOn_47 fw_X3_47 cw_10 rfl (by decide) rfl rfl ?_
  refine hb_iconst (pc := 50) (v := 4) dX3_isOn_50 (by decide) ?_
  refine hb_iconst (pc := 51) (v := 3) dX3_isOn_51 (by decide) ?_
  refine hb_iload_n (pc := 52) (i := 2) dX3_isOn_52 rfl rfl ?_
  refine hb_imul (pc := 53) dX3_isOn_53 ?_
  refine hb_iadd (pc := 54) dX3_isOn_54 ?_
  refine hb_iload_n (pc := 55) (i := 1) dX3_isOn_55 rfl rfl ?_
  refine hb_iadd (pc := 56) dX3_isOn_56 ?_
  refine hb_icmp_eq (pc := 57) (tgt := 62) dX3_isOn_57 (by decide) (fun c1 => ?_) (fun c1 => ?_)
  · have ht1 := h.1 c1
    refine hb_sipush (pc := 62) (v := 211) dX3_isOn_62 (by decide) ?_
    refine hb_istore_n (pc := 65) (i := 3) (ls1 := [some (hb_r 1 0 0), some (hb_i x1), some (hb_i xs0), some (hb_i (211 : Int32)), none]) dX3_isOn_65 rfl (by decide) rfl ?_
    refine hb_iconst (pc := 66) (v := 0) dX3_isOn_66 (by decide) ?_
    refine hb_istore (pc := 67) (i := 4) (ls1 := [some (hb_r 1 0 0), some (hb_i x1), some (hb_i xs0), some (hb_i (211 : Int32)), some (hb_i (0 : Int32))]) dX3_isOn_67 (by decide) rfl ?_
    exact ht1
  · have ht1 := h.2 c1
    refine hb_iconst (pc := 60) (v := 0) dX3_isOn_60 (by decide) ?_
    exact hb_zret (pc := 61) dX3_isOn_61 rfl (Or.inl rfl) ht1
set_option maxRecDepth 20000 in
theorem bk_X3_isOn_69 {d : Nat} {w : hb_W} {Q : Option hb_V → hb_W → Prop} {x1 : Int32} {x2 : Int32} {x3 : Int32} {x4 : Int32} (h : ((((hb_fI w 1 1 0) - (1 : Int32)) ≤ x4) → hb_O yX10_at cX10_at 2 (some .int) d [hb_r 1 0 0, hb_i ((hb_fI w 1 1 0) - (1 : Int32))] w (fun rv w1 => hb_R yX3_isOn cX3_isOn 5 (some .boolean) (d + 1) 108 [some (hb_r 1 0 0), some (hb_i x1), some (hb_i x2), some (hb_i x3), some (hb_i x4)] (rv.toList ++ [hb_i x3]) w1 Q)) ∧ ((¬ ((hb_fI w 1 1 0) - (1 : Int32)) ≤ x4) → hb_O yX10_at cX10_at 2 (some .int) d [hb_r 1 0 0, hb_i x4] w (fun rv w1 => hb_R yX3_isOn cX3_isOn 5 (some .boolean) (d + 1) 87 [some (hb_r 1 0 0), some (hb_i x1), some (hb_i x2), some (hb_i x3), some (hb_i x4)] (rv.toList ++ [hb_i x3]) w1 Q))) : hb_R yX3_isOn cX3_isOn 5 (some .boolean) (d + 1) 69 [some (hb_r 1 0 0), some (hb_i x1), some (hb_i x2), some (hb_i x3), some (hb_i x4)] [] w Q := by
  refine hb_iload (pc := 69) dX3_isOn_69 rfl ?_
  refine hb_aload_n (pc := 71) (i := 0) dX3_isOn_71 rfl rfl ?_
  refine hb_getIx (pc := 72) (x := hb_fI w 1 1 0) dX3_isOn_72 fw_X3_47 cw_10 rfl (by decide) rfl rfl ?_
  refine hb_iconst (pc := 75) (v := 1) dX3_isOn_75 (by decide) ?_
  refine hb_isub (pc := 76) dX3_isOn_76 ?_
  refine hb_icmp_ge (pc := 77) (tgt := 97) dX3_isOn_77 (by decide) (fun c1 => ?_) (fun c1 => ?_)
  · have ht1 := h.1 c1
    refine hb_iload_n (pc := 97) (i := 3) dX3_isOn_97 rfl rfl ?_
    refine hb_aload_n (pc := 98) (i := 0) dX3_isOn_98 rfl rfl ?_
    refine hb_aload_n (pc := 99) (i := 0) dX3_isOn_99 rfl rfl ?_
    refine hb_getIx (pc := 100) (x := hb_fI w 1 1 0) dX3_isOn_100 fw_X3_47 cw_10 rfl (by decide) rfl rfl ?_
    refine hb_iconst (pc := 103) (v := 1) dX3_isOn_103 (by decide) ?_
    refine hb_isub (pc := 104) dX3_isOn_104 ?_
    exact hb_callV (pc := 105) (As := [hb_i ((hb_fI w 1 1 0) - (1 : Int32))]) (st := [hb_i x3]) dX3_isOn_105 ml_X3_50 mf_X10_at mi_X10_at (ci := 10) rfl rfl (by decide) rfl rfl (Nat.le_of_ble_eq_true rfl) (Nat.le_of_ble_eq_true rfl) ht1 (fun _ _ q => q)
  · have ht1 := h.2 c1
    refine hb_iload_n (pc := 80) (i := 3) dX3_isOn_80 rfl rfl ?_
    refine hb_aload_n (pc := 81) (i := 0) dX3_isOn_81 rfl rfl ?_
    refine hb_iload (pc := 82) dX3_isOn_82 rfl ?_
    exact hb_callV (pc := 84) (As := [hb_i x4]) (st := [hb_i x3]) dX3_isOn_84 ml_X3_50 mf_X10_at mi_X10_at (ci := 10) rfl rfl (by decide) rfl rfl (Nat.le_of_ble_eq_true rfl) (Nat.le_of_ble_eq_true rfl) ht1 (fun _ _ q => q)
set_option maxRecDepth 20000 in
theorem bk_X3_isOn_87 {d : Nat} {w : hb_W} {Q : Option hb_V → hb_W → Prop} {x1 : Int32} {x2 : Int32} {x3 : Int32} {x4 : Int32} {xs0 : Int32} {xs1 : Int32} (h : hb_O yX3_checked cX3_checked 2 (some .int) d [hb_i xs0, hb_i xs1] w (fun rv w1 => hb_R yX3_isOn cX3_isOn 5 (some .boolean) (d + 1) 90 [some (hb_r 1 0 0), some (hb_i x1), some (hb_i x2), some (hb_i x3), some (hb_i x4)] (rv.toList ++ []) w1 Q)) : hb_R yX3_isOn cX3_isOn 5 (some .boolean) (d + 1) 87 [some (hb_r 1 0 0), some (hb_i x1), some (hb_i x2), some (hb_i x3), some (hb_i x4)] [hb_i xs1, hb_i xs0] w Q := by
  exact hb_callS (pc := 87) (As := [hb_i xs0, hb_i xs1]) (st := []) dX3_isOn_87 ml_X3_43 mf_X3_checked ms_X3_checked rfl rfl (Nat.le_of_ble_eq_true rfl) (Nat.le_of_ble_eq_true rfl) h (fun _ _ q => q)
set_option maxRecDepth 20000 in
theorem bk_X3_isOn_90 {d : Nat} {w : hb_W} {Q : Option hb_V → hb_W → Prop} {x1 : Int32} {x2 : Int32} {x3 : Int32} {x4 : Int32} {xs0 : Int32} (h : hb_R yX3_isOn cX3_isOn 5 (some .boolean) (d + 1) 69 [some (hb_r 1 0 0), some (hb_i x1), some (hb_i x2), some (hb_i xs0), some (hb_i (x4 + (1 : Int32)))] [] w Q) : hb_R yX3_isOn cX3_isOn 5 (some .boolean) (d + 1) 90 [some (hb_r 1 0 0), some (hb_i x1), some (hb_i x2), some (hb_i x3), some (hb_i x4)] [hb_i xs0] w Q := by
  refine hb_istore_n (pc := 90) (i := 3) (ls1 := [some (hb_r 1 0 0), some (hb_i x1), some (hb_i x2), some (hb_i xs0), some (hb_i x4)]) dX3_isOn_90 rfl (by decide) rfl ?_
  refine hb_iinc (pc := 91) (v := x4 + (1 : Int32)) (ls1 := [some (hb_r 1 0 0), some (hb_i x1), some (hb_i x2), some (hb_i xs0), some (hb_i (x4 + (1 : Int32)))]) dX3_isOn_91 rfl rfl (by decide) rfl ?_
  refine hb_goto (pc := 94) (tgt := 69) dX3_isOn_94 (by decide) ?_
  exact h
set_option maxRecDepth 20000 in
theorem bk_X3_isOn_108 {d : Nat} {w : hb_W} {Q : Option hb_V → hb_W → Prop} {x1 : Int32} {x2 : Int32} {x3 : Int32} {x4 : Int32} {xs0 : Int32} {xs1 : Int32} (h : ((¬ xs0 = xs1) → Q (some (hb_i (0 : Int32))) w) ∧ ((xs0 = xs1) → hb_O yX3_hasGoodPasses cX3_hasGoodPasses 4 (some .boolean) d [hb_r 1 0 0, hb_i x2] w (fun rv w1 => hb_R yX3_isOn cX3_isOn 5 (some .boolean) (d + 1) 116 [some (hb_r 1 0 0), some (hb_i x1), some (hb_i x2), some (hb_i x3), some (hb_i x4)] (rv.toList ++ []) w1 Q))) : hb_R yX3_isOn cX3_isOn 5 (some .boolean) (d + 1) 108 [some (hb_r 1 0 0), some (hb_i x1), some (hb_i x2), some (hb_i x3), some (hb_i x4)] [hb_i xs1, hb_i xs0] w Q := by
  refine hb_icmp_ne (pc := 108) (tgt := 132) dX3_isOn_108 (by decide) (fun c1 => ?_) (fun c1 => ?_)
  · have ht1 := h.1 c1
    refine hb_iconst (pc := 132) (v := 0) dX3_isOn_132 (by decide) ?_
    exact hb_zret (pc := 133) dX3_isOn_133 rfl (Or.inl rfl) ht1
  · have ht1 := h.2 c1
    refine hb_aload_n (pc := 111) (i := 0) dX3_isOn_111 rfl rfl ?_
    refine hb_iload_n (pc := 112) (i := 2) dX3_isOn_112 rfl rfl ?_
    exact hb_callS (pc := 113) (As := [hb_r 1 0 0, hb_i x2]) (st := []) dX3_isOn_113 ml_X3_63 mf_X3_hasGoodPasses ms_X3_hasGoodPasses rfl rfl (Nat.le_of_ble_eq_true rfl) (Nat.le_of_ble_eq_true rfl) ht1 (fun _ _ q => q)
set_option maxRecDepth 20000 in
theorem bk_X3_isOn_116 {d : Nat} {w : hb_W} {Q : Option hb_V → hb_W → Prop} {x1 : Int32} {x2 : Int32} {x3 : Int32} {x4 : Int32} {xs0 : Int32} (h : ((xs0 = 0) → Q (some (hb_i (0 : Int32))) w) ∧ ((¬ xs0 = 0) → hb_O yX3_hasGoodLots cX3_hasGoodLots 6 (some .boolean) d [hb_r 1 0 0, hb_i x2, hb_i x1] w (fun rv w1 => hb_R yX3_isOn cX3_isOn 5 (some .boolean) (d + 1) 125 [some (hb_r 1 0 0), some (hb_i x1), some (hb_i x2), some (hb_i x3), some (hb_i x4)] (rv.toList ++ []) w1 Q))) : hb_R yX3_isOn cX3_isOn 5 (some .boolean) (d + 1) 116 [some (hb_r 1 0 0), some (hb_i x1), some (hb_i x2), some (hb_i x3), some (hb_i x4)] [hb_i xs0] w Q := by
  refine hb_if_eq (pc := 116) (tgt := 132) dX3_isOn_116 (by decide) (fun c1 => ?_) (fun c1 => ?_)
  · have ht1 := h.1 c1
    refine hb_iconst (pc := 132) (v := 0) dX3_isOn_132 (by decide) ?_
    exact hb_zret (pc := 133) dX3_isOn_133 rfl (Or.inl rfl) ht1
  · have ht1 := h.2 c1
    refine hb_aload_n (pc := 119) (i := 0) dX3_isOn_119 rfl rfl ?_
    refine hb_iload_n (pc := 120) (i := 2) dX3_isOn_120 rfl rfl ?_
    refine hb_iload_n (pc := 121) (i := 1) dX3_isOn_121 rfl rfl ?_
    exact hb_callS (pc := 122) (As := [hb_r 1 0 0, hb_i x2, hb_i x1]) (st := []) dX3_isOn_122 ml_X3_67 mf_X3_hasGoodLots ms_X3_hasGoodLots rfl rfl (Nat.le_of_ble_eq_true rfl) (Nat.le_of_ble_eq_true rfl) ht1 (fun _ _ q => q)
set_option maxRecDepth 20000 in
theorem bk_X3_isOn_125 {d : Nat} {w : hb_W} {Q : Option hb_V → hb_W → Prop} {x1 : Int32} {x2 : Int32} {x3 : Int32} {x4 : Int32} {xs0 : Int32} (h : ((xs0 = 0) → Q (some (hb_i (0 : Int32))) w) ∧ ((¬ xs0 = 0) → Q (some (hb_i (1 : Int32))) w)) : hb_R yX3_isOn cX3_isOn 5 (some .boolean) (d + 1) 125 [some (hb_r 1 0 0), some (hb_i x1), some (hb_i x2), some (hb_i x3), some (hb_i x4)] [hb_i xs0] w Q := by
  refine hb_if_eq (pc := 125) (tgt := 132) dX3_isOn_125 (by decide) (fun c1 => ?_) (fun c1 => ?_)
  · have ht1 := h.1 c1
    refine hb_iconst (pc := 132) (v := 0) dX3_isOn_132 (by decide) ?_
    exact hb_zret (pc := 133) dX3_isOn_133 rfl (Or.inl rfl) ht1
  · have ht1 := h.2 c1
    refine hb_iconst (pc := 128) (v := 1) dX3_isOn_128 (by decide) ?_
    refine hb_goto (pc := 129) (tgt := 133) dX3_isOn_129 (by decide) ?_
    exact hb_zret (pc := 133) dX3_isOn_133 rfl (Or.inr rfl) ht1
theorem dX3_hasGoodPasses_0 : decode cX3_hasGoodPasses 0 = .ok (.iconst 0, 1) := by decide +kernel
theorem dX3_hasGoodPasses_1 : decode cX3_hasGoodPasses 1 = .ok (.istore_n 2, 1) := by decide +kernel
theorem dX3_hasGoodPasses_2 : decode cX3_hasGoodPasses 2 = .ok (.iload_n 2, 1) := by decide +kernel
theorem dX3_hasGoodPasses_3 : decode cX3_hasGoodPasses 3 = .ok (.iload_n 1, 1) := by decide +kernel
theorem dX3_hasGoodPasses_4 : decode cX3_hasGoodPasses 4 = .ok (.if_icmp .ge 50, 3) := by decide +kernel
theorem dX3_hasGoodPasses_7 : decode cX3_hasGoodPasses 7 = .ok (.iconst 3, 1) := by decide +kernel
theorem dX3_hasGoodPasses_8 : decode cX3_hasGoodPasses 8 = .ok (.iconst 3, 1) := by decide +kernel
theorem dX3_hasGoodPasses_9 : decode cX3_hasGoodPasses 9 = .ok (.iload_n 2, 1) := by decide +kernel
theorem dX3_hasGoodPasses_10 : decode cX3_hasGoodPasses 10 = .ok (.imul, 1) := by decide +kernel
theorem dX3_hasGoodPasses_11 : decode cX3_hasGoodPasses 11 = .ok (.iadd, 1) := by decide +kernel
theorem dX3_hasGoodPasses_12 : decode cX3_hasGoodPasses 12 = .ok (.istore_n 3, 1) := by decide +kernel
theorem dX3_hasGoodPasses_13 : decode cX3_hasGoodPasses 13 = .ok (.aload_n 0, 1) := by decide +kernel
theorem dX3_hasGoodPasses_14 : decode cX3_hasGoodPasses 14 = .ok (.iload_n 3, 1) := by decide +kernel
theorem dX3_hasGoodPasses_15 : decode cX3_hasGoodPasses 15 = .ok (.invokevirtual 50, 3) := by decide +kernel
theorem dX3_hasGoodPasses_18 : decode cX3_hasGoodPasses 18 = .ok (.bipush 64, 2) := by decide +kernel
theorem dX3_hasGoodPasses_20 : decode cX3_hasGoodPasses 20 = .ok (.if_icmp .ge 26, 3) := by decide +kernel
theorem dX3_hasGoodPasses_23 : decode cX3_hasGoodPasses 23 = .ok (.aload_n 0, 1) := by decide +kernel
theorem dX3_hasGoodPasses_24 : decode cX3_hasGoodPasses 24 = .ok (.iload_n 3, 1) := by decide +kernel
theorem dX3_hasGoodPasses_25 : decode cX3_hasGoodPasses 25 = .ok (.iconst 1, 1) := by decide +kernel
theorem dX3_hasGoodPasses_26 : decode cX3_hasGoodPasses 26 = .ok (.iadd, 1) := by decide +kernel
theorem dX3_hasGoodPasses_27 : decode cX3_hasGoodPasses 27 = .ok (.invokevirtual 50, 3) := by decide +kernel
theorem dX3_hasGoodPasses_30 : decode cX3_hasGoodPasses 30 = .ok (.bipush 100, 2) := by decide +kernel
theorem dX3_hasGoodPasses_32 : decode cX3_hasGoodPasses 32 = .ok (.if_icmp .ge 14, 3) := by decide +kernel
theorem dX3_hasGoodPasses_35 : decode cX3_hasGoodPasses 35 = .ok (.aload_n 0, 1) := by decide +kernel
theorem dX3_hasGoodPasses_36 : decode cX3_hasGoodPasses 36 = .ok (.iload_n 3, 1) := by decide +kernel
theorem dX3_hasGoodPasses_37 : decode cX3_hasGoodPasses 37 = .ok (.iconst 2, 1) := by decide +kernel
theorem dX3_hasGoodPasses_38 : decode cX3_hasGoodPasses 38 = .ok (.iadd, 1) := by decide +kernel
theorem dX3_hasGoodPasses_39 : decode cX3_hasGoodPasses 39 = .ok (.invokevirtual 50, 3) := by decide +kernel
theorem dX3_hasGoodPasses_42 : decode cX3_hasGoodPasses 42 = .ok (.iconst 2, 1) := by decide +kernel
theorem dX3_hasGoodPasses_43 : decode cX3_hasGoodPasses 43 = .ok (.if_icmp .lt 5, 3) := by decide +kernel
theorem dX3_hasGoodPasses_46 : decode cX3_hasGoodPasses 46 = .ok (.iconst 0, 1) := by decide +kernel
theorem dX3_hasGoodPasses_47 : decode cX3_hasGoodPasses 47 = .ok (.ireturn, 1) := by decide +kernel
theorem dX3_hasGoodPasses_48 : decode cX3_hasGoodPasses 48 = .ok (.iinc 2 1, 3) := by decide +kernel
theorem dX3_hasGoodPasses_51 : decode cX3_hasGoodPasses 51 = .ok (.goto (-49), 3) := by decide +kernel
theorem dX3_hasGoodPasses_54 : decode cX3_hasGoodPasses 54 = .ok (.iconst 1, 1) := by decide +kernel
theorem dX3_hasGoodPasses_55 : decode cX3_hasGoodPasses 55 = .ok (.ireturn, 1) := by decide +kernel
set_option maxRecDepth 20000 in
theorem bk_X3_hasGoodPasses_0 {d : Nat} {w : hb_W} {Q : Option hb_V → hb_W → Prop} {x1 : Int32} (h : hb_R yX3_hasGoodPasses cX3_hasGoodPasses 4 (some .boolean) (d + 1) 2 [some (hb_r 1 0 0), some (hb_i x1), some (hb_i (0 : Int32)), none] [] w Q) : hb_R yX3_hasGoodPasses cX3_hasGoodPasses 4 (some .boolean) (d + 1) 0 [some (hb_r 1 0 0), some (hb_i x1), none, none] [] w Q := by
  refine hb_iconst (pc := 0) (v := 0) dX3_hasGoodPasses_0 (by decide) ?_
  refine hb_istore_n (pc := 1) (i := 2) (ls1 := [some (hb_r 1 0 0), some (hb_i x1), some (hb_i (0 : Int32)), none]) dX3_hasGoodPasses_1 rfl (by decide) rfl ?_
  exact h
set_option maxRecDepth 20000 in
theorem bk_X3_hasGoodPasses_2 {d : Nat} {w : hb_W} {Q : Option hb_V → hb_W → Prop} {x1 : Int32} {x2 : Int32} (h : ((x1 ≤ x2) → Q (some (hb_i (1 : Int32))) w) ∧ ((¬ x1 ≤ x2) → hb_O yX10_at cX10_at 2 (some .int) d [hb_r 1 0 0, hb_i ((3 : Int32) + ((3 : Int32) * x2))] w (fun rv w1 => hb_R yX3_hasGoodPasses cX3_hasGoodPasses 4 (some .boolean) (d + 1) 18 [some (hb_r 1 0 0), some (hb_i x1), some (hb_i x2), some (hb_i ((3 : Int32) + ((3 : Int32) * x2)))] (rv.toList ++ []) w1 Q))) : hb_R yX3_hasGoodPasses cX3_hasGoodPasses 4 (some .boolean) (d + 1) 2 [some (hb_r 1 0 0), some (hb_i x1), some (hb_i x2), none] [] w Q := by
  refine hb_iload_n (pc := 2) (i := 2) dX3_hasGoodPasses_2 rfl rfl ?_
  refine hb_iload_n (pc := 3) (i := 1) dX3_hasGoodPasses_3 rfl rfl ?_
  refine hb_icmp_ge (pc := 4) (tgt := 54) dX3_hasGoodPasses_4 (by decide) (fun c1 => ?_) (fun c1 => ?_)
  · have ht1 := h.1 c1
    refine hb_iconst (pc := 54) (v := 1) dX3_hasGoodPasses_54 (by decide) ?_
    exact hb_zret (pc := 55) dX3_hasGoodPasses_55 rfl (Or.inr rfl) ht1
  · have ht1 := h.2 c1
    refine hb_iconst (pc := 7) (v := 3) dX3_hasGoodPasses_7 (by decide) ?_
    refine hb_iconst (pc := 8) (v := 3) dX3_hasGoodPasses_8 (by decide) ?_
    refine hb_iload_n (pc := 9) (i := 2) dX3_hasGoodPasses_9 rfl rfl ?_
    refine hb_imul (pc := 10) dX3_hasGoodPasses_10 ?_
    refine hb_iadd (pc := 11) dX3_hasGoodPasses_11 ?_
    refine hb_istore_n (pc := 12) (i := 3) (ls1 := [some (hb_r 1 0 0), some (hb_i x1), some (hb_i x2), some (hb_i ((3 : Int32) + ((3 : Int32) * x2)))]) dX3_hasGoodPasses_12 rfl (by decide) rfl ?_
    refine hb_aload_n (pc := 13) (i := 0) dX3_hasGoodPasses_13 rfl rfl ?_
    refine hb_iload_n (pc := 14) (i := 3) dX3_hasGoodPasses_14 rfl rfl ?_
    exact hb_callV (pc := 15) (As := [hb_i ((3 : Int32) + ((3 : Int32) * x2))]) (st := []) dX3_hasGoodPasses_15 ml_X3_50 mf_X10_at mi_X10_at (ci := 10) rfl rfl (by decide) rfl rfl (Nat.le_of_ble_eq_true rfl) (Nat.le_of_ble_eq_true rfl) ht1 (fun _ _ q => q)
set_option maxRecDepth 20000 in
theorem bk_X3_hasGoodPasses_18 {d : Nat} {w : hb_W} {Q : Option hb_V → hb_W → Prop} {x1 : Int32} {x2 : Int32} {x3 : Int32} {xs0 : Int32} (h : (((64 : Int32) ≤ xs0) → Q (some (hb_i (0 : Int32))) w) ∧ ((¬ (64 : Int32) ≤ xs0) → hb_O yX10_at cX10_at 2 (some .int) d [hb_r 1 0 0, hb_i (x3 + (1 : Int32))] w (fun rv w1 => hb_R yX3_hasGoodPasses cX3_hasGoodPasses 4 (some .boolean) (d + 1) 30 [some (hb_r 1 0 0), some (hb_i x1), some (hb_i x2), some (hb_i x3)] (rv.toList ++ []) w1 Q))) : hb_R yX3_hasGoodPasses cX3_hasGoodPasses 4 (some .boolean) (d + 1) 18 [some (hb_r 1 0 0), some (hb_i x1), some (hb_i x2), some (hb_i x3)] [hb_i xs0] w Q := by
  refine hb_bipush (pc := 18) (v := 64) dX3_hasGoodPasses_18 (by decide) ?_
  refine hb_icmp_ge (pc := 20) (tgt := 46) dX3_hasGoodPasses_20 (by decide) (fun c1 => ?_) (fun c1 => ?_)
  · have ht1 := h.1 c1
    refine hb_iconst (pc := 46) (v := 0) dX3_hasGoodPasses_46 (by decide) ?_
    exact hb_zret (pc := 47) dX3_hasGoodPasses_47 rfl (Or.inl rfl) ht1
  · have ht1 := h.2 c1
    refine hb_aload_n (pc := 23) (i := 0) dX3_hasGoodPasses_23 rfl rfl ?_
    refine hb_iload_n (pc := 24) (i := 3) dX3_hasGoodPasses_24 rfl rfl ?_
    refine hb_iconst (pc := 25) (v := 1) dX3_hasGoodPasses_25 (by decide) ?_
    refine hb_iadd (pc := 26) dX3_hasGoodPasses_26 ?_
    exact hb_callV (pc := 27) (As := [hb_i (x3 + (1 : Int32))]) (st := []) dX3_hasGoodPasses_27 ml_X3_50 mf_X10_at mi_X10_at (ci := 10) rfl rfl (by decide) rfl rfl (Nat.le_of_ble_eq_true rfl) (Nat.le_of_ble_eq_true rfl) ht1 (fun _ _ q => q)
set_option maxRecDepth 20000 in
theorem bk_X3_hasGoodPasses_30 {d : Nat} {w : hb_W} {Q : Option hb_V → hb_W → Prop} {x1 : Int32} {x2 : Int32} {x3 : Int32} {xs0 : Int32} (h : (((100 : Int32) ≤ xs0) → Q (some (hb_i (0 : Int32))) w) ∧ ((¬ (100 : Int32) ≤ xs0) → hb_O yX10_at cX10_at 2 (some .int) d [hb_r 1 0 0, hb_i (x3 + (2 : Int32))] w (fun rv w1 => hb_R yX3_hasGoodPasses cX3_hasGoodPasses 4 (some .boolean) (d + 1) 42 [some (hb_r 1 0 0), some (hb_i x1), some (hb_i x2), some (hb_i x3)] (rv.toList ++ []) w1 Q))) : hb_R yX3_hasGoodPasses cX3_hasGoodPasses 4 (some .boolean) (d + 1) 30 [some (hb_r 1 0 0), some (hb_i x1), some (hb_i x2), some (hb_i x3)] [hb_i xs0] w Q := by
  refine hb_bipush (pc := 30) (v := 100) dX3_hasGoodPasses_30 (by decide) ?_
  refine hb_icmp_ge (pc := 32) (tgt := 46) dX3_hasGoodPasses_32 (by decide) (fun c1 => ?_) (fun c1 => ?_)
  · have ht1 := h.1 c1
    refine hb_iconst (pc := 46) (v := 0) dX3_hasGoodPasses_46 (by decide) ?_
    exact hb_zret (pc := 47) dX3_hasGoodPasses_47 rfl (Or.inl rfl) ht1
  · have ht1 := h.2 c1
    refine hb_aload_n (pc := 35) (i := 0) dX3_hasGoodPasses_35 rfl rfl ?_
    refine hb_iload_n (pc := 36) (i := 3) dX3_hasGoodPasses_36 rfl rfl ?_
    refine hb_iconst (pc := 37) (v := 2) dX3_hasGoodPasses_37 (by decide) ?_
    refine hb_iadd (pc := 38) dX3_hasGoodPasses_38 ?_
    exact hb_callV (pc := 39) (As := [hb_i (x3 + (2 : Int32))]) (st := []) dX3_hasGoodPasses_39 ml_X3_50 mf_X10_at mi_X10_at (ci := 10) rfl rfl (by decide) rfl rfl (Nat.le_of_ble_eq_true rfl) (Nat.le_of_ble_eq_true rfl) ht1 (fun _ _ q => q)
set_option maxRecDepth 20000 in
theorem bk_X3_hasGoodPasses_42 {d : Nat} {w : hb_W} {Q : Option hb_V → hb_W → Prop} {x1 : Int32} {x2 : Int32} {x3 : Int32} {xs0 : Int32} (h : ((xs0 < (2 : Int32)) → hb_R yX3_hasGoodPasses cX3_hasGoodPasses 4 (some .boolean) (d + 1) 2 [some (hb_r 1 0 0), some (hb_i x1), some (hb_i (x2 + (1 : Int32))), some (hb_i x3)] [] w Q) ∧ ((¬ xs0 < (2 : Int32)) → Q (some (hb_i (0 : Int32))) w)) : hb_R yX3_hasGoodPasses cX3_hasGoodPasses 4 (some .boolean) (d + 1) 42 [some (hb_r 1 0 0), some (hb_i x1), some (hb_i x2), some (hb_i x3)] [hb_i xs0] w Q := by
  refine hb_iconst (pc := 42) (v := 2) dX3_hasGoodPasses_42 (by decide) ?_
  refine hb_icmp_lt (pc := 43) (tgt := 48) dX3_hasGoodPasses_43 (by decide) (fun c1 => ?_) (fun c1 => ?_)
  · have ht1 := h.1 c1
    refine hb_iinc (pc := 48) (v := x2 + (1 : Int32)) (ls1 := [some (hb_r 1 0 0), some (hb_i x1), some (hb_i (x2 + (1 : Int32))), some (hb_i x3)]) dX3_hasGoodPasses_48 rfl rfl (by decide) rfl ?_
    refine hb_goto (pc := 51) (tgt := 2) dX3_hasGoodPasses_51 (by decide) ?_
    exact ht1
  · have ht1 := h.2 c1
    refine hb_iconst (pc := 46) (v := 0) dX3_hasGoodPasses_46 (by decide) ?_
    exact hb_zret (pc := 47) dX3_hasGoodPasses_47 rfl (Or.inl rfl) ht1
theorem dX3_hasGoodLots_0 : decode cX3_hasGoodLots 0 = .ok (.iconst 0, 1) := by decide +kernel
theorem dX3_hasGoodLots_1 : decode cX3_hasGoodLots 1 = .ok (.istore_n 3, 1) := by decide +kernel
theorem dX3_hasGoodLots_2 : decode cX3_hasGoodLots 2 = .ok (.iload_n 3, 1) := by decide +kernel
theorem dX3_hasGoodLots_3 : decode cX3_hasGoodLots 3 = .ok (.iload_n 2, 1) := by decide +kernel
theorem dX3_hasGoodLots_4 : decode cX3_hasGoodLots 4 = .ok (.if_icmp .ge 58, 3) := by decide +kernel
theorem dX3_hasGoodLots_7 : decode cX3_hasGoodLots 7 = .ok (.aload_n 0, 1) := by decide +kernel
theorem dX3_hasGoodLots_8 : decode cX3_hasGoodLots 8 = .ok (.iconst 3, 1) := by decide +kernel
theorem dX3_hasGoodLots_9 : decode cX3_hasGoodLots 9 = .ok (.iconst 3, 1) := by decide +kernel
theorem dX3_hasGoodLots_10 : decode cX3_hasGoodLots 10 = .ok (.iload_n 1, 1) := by decide +kernel
theorem dX3_hasGoodLots_11 : decode cX3_hasGoodLots 11 = .ok (.imul, 1) := by decide +kernel
theorem dX3_hasGoodLots_12 : decode cX3_hasGoodLots 12 = .ok (.iadd, 1) := by decide +kernel
theorem dX3_hasGoodLots_13 : decode cX3_hasGoodLots 13 = .ok (.iload_n 3, 1) := by decide +kernel
theorem dX3_hasGoodLots_14 : decode cX3_hasGoodLots 14 = .ok (.iadd, 1) := by decide +kernel
theorem dX3_hasGoodLots_15 : decode cX3_hasGoodLots 15 = .ok (.invokevirtual 50, 3) := by decide +kernel
theorem dX3_hasGoodLots_18 : decode cX3_hasGoodLots 18 = .ok (.istore 4, 2) := by decide +kernel
theorem dX3_hasGoodLots_20 : decode cX3_hasGoodLots 20 = .ok (.iload_n 1, 1) := by decide +kernel
theorem dX3_hasGoodLots_21 : decode cX3_hasGoodLots 21 = .ok (.ifCond .ne 19, 3) := by decide +kernel
theorem dX3_hasGoodLots_24 : decode cX3_hasGoodLots 24 = .ok (.iload 4, 2) := by decide +kernel
theorem dX3_hasGoodLots_26 : decode cX3_hasGoodLots 26 = .ok (.sipush 255, 3) := by decide +kernel
theorem dX3_hasGoodLots_29 : decode cX3_hasGoodLots 29 = .ok (.if_icmp .ne 7, 3) := by decide +kernel
theorem dX3_hasGoodLots_32 : decode cX3_hasGoodLots 32 = .ok (.iconst 1, 1) := by decide +kernel
theorem dX3_hasGoodLots_33 : decode cX3_hasGoodLots 33 = .ok (.goto 14, 3) := by decide +kernel
theorem dX3_hasGoodLots_36 : decode cX3_hasGoodLots 36 = .ok (.iconst 0, 1) := by decide +kernel
theorem dX3_hasGoodLots_37 : decode cX3_hasGoodLots 37 = .ok (.goto 10, 3) := by decide +kernel
theorem dX3_hasGoodLots_40 : decode cX3_hasGoodLots 40 = .ok (.aload_n 0, 1) := by decide +kernel
theorem dX3_hasGoodLots_41 : decode cX3_hasGoodLots 41 = .ok (.iload_n 1, 1) := by decide +kernel
theorem dX3_hasGoodLots_42 : decode cX3_hasGoodLots 42 = .ok (.iload 4, 2) := by decide +kernel
theorem dX3_hasGoodLots_44 : decode cX3_hasGoodLots 44 = .ok (.invokestatic 71, 3) := by decide +kernel
theorem dX3_hasGoodLots_47 : decode cX3_hasGoodLots 47 = .ok (.istore 5, 2) := by decide +kernel
theorem dX3_hasGoodLots_49 : decode cX3_hasGoodLots 49 = .ok (.iload 5, 2) := by decide +kernel
theorem dX3_hasGoodLots_51 : decode cX3_hasGoodLots 51 = .ok (.ifCond .ne 5, 3) := by decide +kernel
theorem dX3_hasGoodLots_54 : decode cX3_hasGoodLots 54 = .ok (.iconst 0, 1) := by decide +kernel
theorem dX3_hasGoodLots_55 : decode cX3_hasGoodLots 55 = .ok (.ireturn, 1) := by decide +kernel
theorem dX3_hasGoodLots_56 : decode cX3_hasGoodLots 56 = .ok (.iinc 3 1, 3) := by decide +kernel
theorem dX3_hasGoodLots_59 : decode cX3_hasGoodLots 59 = .ok (.goto (-57), 3) := by decide +kernel
theorem dX3_hasGoodLots_62 : decode cX3_hasGoodLots 62 = .ok (.iconst 1, 1) := by decide +kernel
theorem dX3_hasGoodLots_63 : decode cX3_hasGoodLots 63 = .ok (.ireturn, 1) := by decide +kernel
set_option maxRecDepth 20000 in
theorem bk_X3_hasGoodLots_0 {d : Nat} {w : hb_W} {Q : Option hb_V → hb_W → Prop} {x1 : Int32} {x2 : Int32} (h : hb_R yX3_hasGoodLots cX3_hasGoodLots 6 (some .boolean) (d + 1) 2 [some (hb_r 1 0 0), some (hb_i x1), some (hb_i x2), some (hb_i (0 : Int32)), none, none] [] w Q) : hb_R yX3_hasGoodLots cX3_hasGoodLots 6 (some .boolean) (d + 1) 0 [some (hb_r 1 0 0), some (hb_i x1), some (hb_i x2), none, none, none] [] w Q := by
  refine hb_iconst (pc := 0) (v := 0) dX3_hasGoodLots_0 (by decide) ?_
  refine hb_istore_n (pc := 1) (i := 3) (ls1 := [some (hb_r 1 0 0), some (hb_i x1), some (hb_i x2), some (hb_i (0 : Int32)), none, none]) dX3_hasGoodLots_1 rfl (by decide) rfl ?_
  exact h
set_option maxRecDepth 20000 in
theorem bk_X3_hasGoodLots_2 {d : Nat} {w : hb_W} {Q : Option hb_V → hb_W → Prop} {x1 : Int32} {x2 : Int32} {x3 : Int32} (h : ((x2 ≤ x3) → Q (some (hb_i (1 : Int32))) w) ∧ ((¬ x2 ≤ x3) → hb_O yX10_at cX10_at 2 (some .int) d [hb_r 1 0 0, hb_i (((3 : Int32) + ((3 : Int32) * x1)) + x3)] w (fun rv w1 => hb_R yX3_hasGoodLots cX3_hasGoodLots 6 (some .boolean) (d + 1) 18 [some (hb_r 1 0 0), some (hb_i x1), some (hb_i x2), some (hb_i x3), none, none] (rv.toList ++ []) w1 Q))) : hb_R yX3_hasGoodLots cX3_hasGoodLots 6 (some .boolean) (d + 1) 2 [some (hb_r 1 0 0), some (hb_i x1), some (hb_i x2), some (hb_i x3), none, none] [] w Q := by
  refine hb_iload_n (pc := 2) (i := 3) dX3_hasGoodLots_2 rfl rfl ?_
  refine hb_iload_n (pc := 3) (i := 2) dX3_hasGoodLots_3 rfl rfl ?_
  refine hb_icmp_ge (pc := 4) (tgt := 62) dX3_hasGoodLots_4 (by decide) (fun c1 => ?_) (fun c1 => ?_)
  · have ht1 := h.1 c1
    refine hb_iconst (pc := 62) (v := 1) dX3_hasGoodLots_62 (by decide) ?_
    exact hb_zret (pc := 63) dX3_hasGoodLots_63 rfl (Or.inr rfl) ht1
  · have ht1 := h.2 c1
    refine hb_aload_n (pc := 7) (i := 0) dX3_hasGoodLots_7 rfl rfl ?_
    refine hb_iconst (pc := 8) (v := 3) dX3_hasGoodLots_8 (by decide) ?_
    refine hb_iconst (pc := 9) (v := 3) dX3_hasGoodLots_9 (by decide) ?_
    refine hb_iload_n (pc := 10) (i := 1) dX3_hasGoodLots_10 rfl rfl ?_
    refine hb_imul (pc := 11) dX3_hasGoodLots_11 ?_
    refine hb_iadd (pc := 12) dX3_hasGoodLots_12 ?_
    refine hb_iload_n (pc := 13) (i := 3) dX3_hasGoodLots_13 rfl rfl ?_
    refine hb_iadd (pc := 14) dX3_hasGoodLots_14 ?_
    exact hb_callV (pc := 15) (As := [hb_i (((3 : Int32) + ((3 : Int32) * x1)) + x3)]) (st := []) dX3_hasGoodLots_15 ml_X3_50 mf_X10_at mi_X10_at (ci := 10) rfl rfl (by decide) rfl rfl (Nat.le_of_ble_eq_true rfl) (Nat.le_of_ble_eq_true rfl) ht1 (fun _ _ q => q)
set_option maxRecDepth 20000 in
theorem bk_X3_hasGoodLots_18 {d : Nat} {w : hb_W} {Q : Option hb_V → hb_W → Prop} {x1 : Int32} {x2 : Int32} {x3 : Int32} {xs0 : Int32} (h : ((¬ x1 = 0) → hb_O yX3_hasPassed cX3_hasPassed 4 (some .boolean) d [hb_r 1 0 0, hb_i x1, hb_i xs0] w (fun rv w1 => hb_R yX3_hasGoodLots cX3_hasGoodLots 6 (some .boolean) (d + 1) 47 [some (hb_r 1 0 0), some (hb_i x1), some (hb_i x2), some (hb_i x3), some (hb_i xs0), none] (rv.toList ++ []) w1 Q)) ∧ ((x1 = 0) → ((¬ xs0 = (255 : Int32)) → hb_R yX3_hasGoodLots cX3_hasGoodLots 6 (some .boolean) (d + 1) 47 [some (hb_r 1 0 0), some (hb_i x1), some (hb_i x2), some (hb_i x3), some (hb_i xs0), none] [hb_i (0 : Int32)] w Q) ∧ ((xs0 = (255 : Int32)) → hb_R yX3_hasGoodLots cX3_hasGoodLots 6 (some .boolean) (d + 1) 47 [some (hb_r 1 0 0), some (hb_i x1), some (hb_i x2), some (hb_i x3), some (hb_i xs0), none] [hb_i (1 : Int32)] w Q))) : hb_R yX3_hasGoodLots cX3_hasGoodLots 6 (some .boolean) (d + 1) 18 [some (hb_r 1 0 0), some (hb_i x1), some (hb_i x2), some (hb_i x3), none, none] [hb_i xs0] w Q := by
  refine hb_istore (pc := 18) (i := 4) (ls1 := [some (hb_r 1 0 0), some (hb_i x1), some (hb_i x2), some (hb_i x3), some (hb_i xs0), none]) dX3_hasGoodLots_18 (by decide) rfl ?_
  refine hb_iload_n (pc := 20) (i := 1) dX3_hasGoodLots_20 rfl rfl ?_
  refine hb_if_ne (pc := 21) (tgt := 40) dX3_hasGoodLots_21 (by decide) (fun c1 => ?_) (fun c1 => ?_)
  · have ht1 := h.1 c1
    refine hb_aload_n (pc := 40) (i := 0) dX3_hasGoodLots_40 rfl rfl ?_
    refine hb_iload_n (pc := 41) (i := 1) dX3_hasGoodLots_41 rfl rfl ?_
    refine hb_iload (pc := 42) dX3_hasGoodLots_42 rfl ?_
    exact hb_callS (pc := 44) (As := [hb_r 1 0 0, hb_i x1, hb_i xs0]) (st := []) dX3_hasGoodLots_44 ml_X3_71 mf_X3_hasPassed ms_X3_hasPassed rfl rfl (Nat.le_of_ble_eq_true rfl) (Nat.le_of_ble_eq_true rfl) ht1 (fun _ _ q => q)
  · have ht1 := h.2 c1
    refine hb_iload (pc := 24) dX3_hasGoodLots_24 rfl ?_
    refine hb_sipush (pc := 26) (v := 255) dX3_hasGoodLots_26 (by decide) ?_
    refine hb_icmp_ne (pc := 29) (tgt := 36) dX3_hasGoodLots_29 (by decide) (fun c2 => ?_) (fun c2 => ?_)
    · have ht2 := ht1.1 c2
      refine hb_iconst (pc := 36) (v := 0) dX3_hasGoodLots_36 (by decide) ?_
      refine hb_goto (pc := 37) (tgt := 47) dX3_hasGoodLots_37 (by decide) ?_
      exact ht2
    · have ht2 := ht1.2 c2
      refine hb_iconst (pc := 32) (v := 1) dX3_hasGoodLots_32 (by decide) ?_
      refine hb_goto (pc := 33) (tgt := 47) dX3_hasGoodLots_33 (by decide) ?_
      exact ht2
set_option maxRecDepth 20000 in
theorem bk_X3_hasGoodLots_47 {d : Nat} {w : hb_W} {Q : Option hb_V → hb_W → Prop} {x1 : Int32} {x2 : Int32} {x3 : Int32} {x4 : Int32} {xs0 : Int32} (h : ((¬ xs0 = 0) → hb_R yX3_hasGoodLots cX3_hasGoodLots 6 (some .boolean) (d + 1) 2 [some (hb_r 1 0 0), some (hb_i x1), some (hb_i x2), some (hb_i (x3 + (1 : Int32))), some (hb_i x4), some (hb_i xs0)] [] w Q) ∧ ((xs0 = 0) → Q (some (hb_i (0 : Int32))) w)) : hb_R yX3_hasGoodLots cX3_hasGoodLots 6 (some .boolean) (d + 1) 47 [some (hb_r 1 0 0), some (hb_i x1), some (hb_i x2), some (hb_i x3), some (hb_i x4), none] [hb_i xs0] w Q := by
  refine hb_istore (pc := 47) (i := 5) (ls1 := [some (hb_r 1 0 0), some (hb_i x1), some (hb_i x2), some (hb_i x3), some (hb_i x4), some (hb_i xs0)]) dX3_hasGoodLots_47 (by decide) rfl ?_
  refine hb_iload (pc := 49) dX3_hasGoodLots_49 rfl ?_
  refine hb_if_ne (pc := 51) (tgt := 56) dX3_hasGoodLots_51 (by decide) (fun c1 => ?_) (fun c1 => ?_)
  · have ht1 := h.1 c1
    refine hb_iinc (pc := 56) (v := x3 + (1 : Int32)) (ls1 := [some (hb_r 1 0 0), some (hb_i x1), some (hb_i x2), some (hb_i (x3 + (1 : Int32))), some (hb_i x4), some (hb_i xs0)]) dX3_hasGoodLots_56 rfl rfl (by decide) rfl ?_
    refine hb_goto (pc := 59) (tgt := 2) dX3_hasGoodLots_59 (by decide) ?_
    exact ht1
  · have ht1 := h.2 c1
    refine hb_iconst (pc := 54) (v := 0) dX3_hasGoodLots_54 (by decide) ?_
    exact hb_zret (pc := 55) dX3_hasGoodLots_55 rfl (Or.inl rfl) ht1
theorem dX3_hasPassed_0 : decode cX3_hasPassed 0 = .ok (.iconst 0, 1) := by decide +kernel
theorem dX3_hasPassed_1 : decode cX3_hasPassed 1 = .ok (.istore_n 3, 1) := by decide +kernel
theorem dX3_hasPassed_2 : decode cX3_hasPassed 2 = .ok (.iload_n 3, 1) := by decide +kernel
theorem dX3_hasPassed_3 : decode cX3_hasPassed 3 = .ok (.iload_n 1, 1) := by decide +kernel
theorem dX3_hasPassed_4 : decode cX3_hasPassed 4 = .ok (.if_icmp .ge 24, 3) := by decide +kernel
theorem dX3_hasPassed_7 : decode cX3_hasPassed 7 = .ok (.aload_n 0, 1) := by decide +kernel
theorem dX3_hasPassed_8 : decode cX3_hasPassed 8 = .ok (.iconst 3, 1) := by decide +kernel
theorem dX3_hasPassed_9 : decode cX3_hasPassed 9 = .ok (.iconst 3, 1) := by decide +kernel
theorem dX3_hasPassed_10 : decode cX3_hasPassed 10 = .ok (.iload_n 3, 1) := by decide +kernel
theorem dX3_hasPassed_11 : decode cX3_hasPassed 11 = .ok (.imul, 1) := by decide +kernel
theorem dX3_hasPassed_12 : decode cX3_hasPassed 12 = .ok (.iadd, 1) := by decide +kernel
theorem dX3_hasPassed_13 : decode cX3_hasPassed 13 = .ok (.invokevirtual 50, 3) := by decide +kernel
theorem dX3_hasPassed_16 : decode cX3_hasPassed 16 = .ok (.iload_n 2, 1) := by decide +kernel
theorem dX3_hasPassed_17 : decode cX3_hasPassed 17 = .ok (.if_icmp .ne 5, 3) := by decide +kernel
theorem dX3_hasPassed_20 : decode cX3_hasPassed 20 = .ok (.iconst 1, 1) := by decide +kernel
theorem dX3_hasPassed_21 : decode cX3_hasPassed 21 = .ok (.ireturn, 1) := by decide +kernel
theorem dX3_hasPassed_22 : decode cX3_hasPassed 22 = .ok (.iinc 3 1, 3) := by decide +kernel
theorem dX3_hasPassed_25 : decode cX3_hasPassed 25 = .ok (.goto (-23), 3) := by decide +kernel
theorem dX3_hasPassed_28 : decode cX3_hasPassed 28 = .ok (.iconst 0, 1) := by decide +kernel
theorem dX3_hasPassed_29 : decode cX3_hasPassed 29 = .ok (.ireturn, 1) := by decide +kernel
set_option maxRecDepth 20000 in
theorem bk_X3_hasPassed_0 {d : Nat} {w : hb_W} {Q : Option hb_V → hb_W → Prop} {x1 : Int32} {x2 : Int32} (h : hb_R yX3_hasPassed cX3_hasPassed 4 (some .boolean) (d + 1) 2 [some (hb_r 1 0 0), some (hb_i x1), some (hb_i x2), some (hb_i (0 : Int32))] [] w Q) : hb_R yX3_hasPassed cX3_hasPassed 4 (some .boolean) (d + 1) 0 [some (hb_r 1 0 0), some (hb_i x1), some (hb_i x2), none] [] w Q := by
  refine hb_iconst (pc := 0) (v := 0) dX3_hasPassed_0 (by decide) ?_
  refine hb_istore_n (pc := 1) (i := 3) (ls1 := [some (hb_r 1 0 0), some (hb_i x1), some (hb_i x2), some (hb_i (0 : Int32))]) dX3_hasPassed_1 rfl (by decide) rfl ?_
  exact h
set_option maxRecDepth 20000 in
theorem bk_X3_hasPassed_2 {d : Nat} {w : hb_W} {Q : Option hb_V → hb_W → Prop} {x1 : Int32} {x2 : Int32} {x3 : Int32} (h : ((x1 ≤ x3) → Q (some (hb_i (0 : Int32))) w) ∧ ((¬ x1 ≤ x3) → hb_O yX10_at cX10_at 2 (some .int) d [hb_r 1 0 0, hb_i ((3 : Int32) + ((3 : Int32) * x3))] w (fun rv w1 => hb_R yX3_hasPassed cX3_hasPassed 4 (some .boolean) (d + 1) 16 [some (hb_r 1 0 0), some (hb_i x1), some (hb_i x2), some (hb_i x3)] (rv.toList ++ []) w1 Q))) : hb_R yX3_hasPassed cX3_hasPassed 4 (some .boolean) (d + 1) 2 [some (hb_r 1 0 0), some (hb_i x1), some (hb_i x2), some (hb_i x3)] [] w Q := by
  refine hb_iload_n (pc := 2) (i := 3) dX3_hasPassed_2 rfl rfl ?_
  refine hb_iload_n (pc := 3) (i := 1) dX3_hasPassed_3 rfl rfl ?_
  refine hb_icmp_ge (pc := 4) (tgt := 28) dX3_hasPassed_4 (by decide) (fun c1 => ?_) (fun c1 => ?_)
  · have ht1 := h.1 c1
    refine hb_iconst (pc := 28) (v := 0) dX3_hasPassed_28 (by decide) ?_
    exact hb_zret (pc := 29) dX3_hasPassed_29 rfl (Or.inl rfl) ht1
  · have ht1 := h.2 c1
    refine hb_aload_n (pc := 7) (i := 0) dX3_hasPassed_7 rfl rfl ?_
    refine hb_iconst (pc := 8) (v := 3) dX3_hasPassed_8 (by decide) ?_
    refine hb_iconst (pc := 9) (v := 3) dX3_hasPassed_9 (by decide) ?_
    refine hb_iload_n (pc := 10) (i := 3) dX3_hasPassed_10 rfl rfl ?_
    refine hb_imul (pc := 11) dX3_hasPassed_11 ?_
    refine hb_iadd (pc := 12) dX3_hasPassed_12 ?_
    exact hb_callV (pc := 13) (As := [hb_i ((3 : Int32) + ((3 : Int32) * x3))]) (st := []) dX3_hasPassed_13 ml_X3_50 mf_X10_at mi_X10_at (ci := 10) rfl rfl (by decide) rfl rfl (Nat.le_of_ble_eq_true rfl) (Nat.le_of_ble_eq_true rfl) ht1 (fun _ _ q => q)
set_option maxRecDepth 20000 in
theorem bk_X3_hasPassed_16 {d : Nat} {w : hb_W} {Q : Option hb_V → hb_W → Prop} {x1 : Int32} {x2 : Int32} {x3 : Int32} {xs0 : Int32} (h : ((¬ xs0 = x2) → hb_R yX3_hasPassed cX3_hasPassed 4 (some .boolean) (d + 1) 2 [some (hb_r 1 0 0), some (hb_i x1), some (hb_i x2), some (hb_i (x3 + (1 : Int32)))] [] w Q) ∧ ((xs0 = x2) → Q (some (hb_i (1 : Int32))) w)) : hb_R yX3_hasPassed cX3_hasPassed 4 (some .boolean) (d + 1) 16 [some (hb_r 1 0 0), some (hb_i x1), some (hb_i x2), some (hb_i x3)] [hb_i xs0] w Q := by
  refine hb_iload_n (pc := 16) (i := 2) dX3_hasPassed_16 rfl rfl ?_
  refine hb_icmp_ne (pc := 17) (tgt := 22) dX3_hasPassed_17 (by decide) (fun c1 => ?_) (fun c1 => ?_)
  · have ht1 := h.1 c1
    refine hb_iinc (pc := 22) (v := x3 + (1 : Int32)) (ls1 := [some (hb_r 1 0 0), some (hb_i x1), some (hb_i x2), some (hb_i (x3 + (1 : Int32)))]) dX3_hasPassed_22 rfl rfl (by decide) rfl ?_
    refine hb_goto (pc := 25) (tgt := 2) dX3_hasPassed_25 (by decide) ?_
    exact ht1
  · have ht1 := h.2 c1
    refine hb_iconst (pc := 20) (v := 1) dX3_hasPassed_20 (by decide) ?_
    exact hb_zret (pc := 21) dX3_hasPassed_21 rfl (Or.inr rfl) ht1
theorem dX5_of_0 : decode cX5_of 0 = .ok (.iload_n 1, 1) := by decide +kernel
theorem dX5_of_1 : decode cX5_of 1 = .ok (.ifCond .lt 23, 3) := by decide +kernel
theorem dX5_of_4 : decode cX5_of 4 = .ok (.iload_n 1, 1) := by decide +kernel
theorem dX5_of_5 : decode cX5_of 5 = .ok (.bipush 64, 2) := by decide +kernel
theorem dX5_of_7 : decode cX5_of 7 = .ok (.if_icmp .ge 17, 3) := by decide +kernel
theorem dX5_of_10 : decode cX5_of 10 = .ok (.iload_n 2, 1) := by decide +kernel
theorem dX5_of_11 : decode cX5_of 11 = .ok (.ifCond .lt 13, 3) := by decide +kernel
theorem dX5_of_14 : decode cX5_of 14 = .ok (.iload_n 2, 1) := by decide +kernel
theorem dX5_of_15 : decode cX5_of 15 = .ok (.bipush 9, 2) := by decide +kernel
theorem dX5_of_17 : decode cX5_of 17 = .ok (.if_icmp .ge 7, 3) := by decide +kernel
theorem dX5_of_20 : decode cX5_of 20 = .ok (.iconst 1, 1) := by decide +kernel
theorem dX5_of_21 : decode cX5_of 21 = .ok (.goto 4, 3) := by decide +kernel
theorem dX5_of_24 : decode cX5_of 24 = .ok (.iconst 0, 1) := by decide +kernel
theorem dX5_of_25 : decode cX5_of 25 = .ok (.istore_n 3, 1) := by decide +kernel
theorem dX5_of_26 : decode cX5_of 26 = .ok (.iload_n 3, 1) := by decide +kernel
theorem dX5_of_27 : decode cX5_of 27 = .ok (.ifCond .eq 17, 3) := by decide +kernel
theorem dX5_of_30 : decode cX5_of 30 = .ok (.aload_n 0, 1) := by decide +kernel
theorem dX5_of_31 : decode cX5_of 31 = .ok (.getfield 9, 3) := by decide +kernel
theorem dX5_of_34 : decode cX5_of 34 = .ok (.iload_n 1, 1) := by decide +kernel
theorem dX5_of_35 : decode cX5_of 35 = .ok (.bipush 9, 2) := by decide +kernel
theorem dX5_of_37 : decode cX5_of 37 = .ok (.imul, 1) := by decide +kernel
theorem dX5_of_38 : decode cX5_of 38 = .ok (.iload_n 2, 1) := by decide +kernel
theorem dX5_of_39 : decode cX5_of 39 = .ok (.iadd, 1) := by decide +kernel
theorem dX5_of_40 : decode cX5_of 40 = .ok (.iaload, 1) := by decide +kernel
theorem dX5_of_41 : decode cX5_of 41 = .ok (.goto 4, 3) := by decide +kernel
theorem dX5_of_44 : decode cX5_of 44 = .ok (.iconst 0, 1) := by decide +kernel
theorem dX5_of_45 : decode cX5_of 45 = .ok (.ireturn, 1) := by decide +kernel
set_option maxRecDepth 20000 in
theorem bk_X5_of_0 {d : Nat} {w : hb_W} {Q : Option hb_V → hb_W → Prop} {g0 : Nat} {x1 : Int32} {x2 : Int32} (hg0 : g0 < hb_ct 5) (h : ((x1 < 0) → (((0 : Int32) = 0) → Q (some (hb_i (0 : Int32))) w) ∧ ((¬ (0 : Int32) = 0) → vp_in ((x1 * (9 : Int32)) + x2) 576 ∧ (Q (some (hb_i (hb_aI w 5 1 g0 ((x1 * (9 : Int32)) + x2).toNatClampNeg))) w))) ∧ ((¬ x1 < 0) → (((64 : Int32) ≤ x1) → (((0 : Int32) = 0) → Q (some (hb_i (0 : Int32))) w) ∧ ((¬ (0 : Int32) = 0) → vp_in ((x1 * (9 : Int32)) + x2) 576 ∧ (Q (some (hb_i (hb_aI w 5 1 g0 ((x1 * (9 : Int32)) + x2).toNatClampNeg))) w))) ∧ ((¬ (64 : Int32) ≤ x1) → ((x2 < 0) → (((0 : Int32) = 0) → Q (some (hb_i (0 : Int32))) w) ∧ ((¬ (0 : Int32) = 0) → vp_in ((x1 * (9 : Int32)) + x2) 576 ∧ (Q (some (hb_i (hb_aI w 5 1 g0 ((x1 * (9 : Int32)) + x2).toNatClampNeg))) w))) ∧ ((¬ x2 < 0) → (((9 : Int32) ≤ x2) → (((0 : Int32) = 0) → Q (some (hb_i (0 : Int32))) w) ∧ ((¬ (0 : Int32) = 0) → vp_in ((x1 * (9 : Int32)) + x2) 576 ∧ (Q (some (hb_i (hb_aI w 5 1 g0 ((x1 * (9 : Int32)) + x2).toNatClampNeg))) w))) ∧ ((¬ (9 : Int32) ≤ x2) → (((1 : Int32) = 0) → Q (some (hb_i (0 : Int32))) w) ∧ ((¬ (1 : Int32) = 0) → vp_in ((x1 * (9 : Int32)) + x2) 576 ∧ (Q (some (hb_i (hb_aI w 5 1 g0 ((x1 * (9 : Int32)) + x2).toNatClampNeg))) w))))))) : hb_R yX5_of cX5_of 4 (some .int) d 0 [some (hb_r 5 g0 0), some (hb_i x1), some (hb_i x2), none] [] w Q := by
  refine hb_iload_n (pc := 0) (i := 1) dX5_of_0 rfl rfl ?_
  refine hb_if_lt (pc := 1) (tgt := 24) dX5_of_1 (by decide) (fun c1 => ?_) (fun c1 => ?_)
  · have ht1 := h.1 c1
    refine hb_iconst (pc := 24) (v := 0) dX5_of_24 (by decide) ?_
    refine hb_istore_n (pc := 25) (i := 3) (ls1 := [some (hb_r 5 g0 0), some (hb_i x1), some (hb_i x2), some (hb_i (0 : Int32))]) dX5_of_25 rfl (by decide) rfl ?_
    refine hb_iload_n (pc := 26) (i := 3) dX5_of_26 rfl rfl ?_
    refine hb_if_eq (pc := 27) (tgt := 44) dX5_of_27 (by decide) (fun c2 => ?_) (fun c2 => ?_)
    · have ht2 := ht1.1 c2
      refine hb_iconst (pc := 44) (v := 0) dX5_of_44 (by decide) ?_
      exact hb_iret (pc := 45) dX5_of_45 rfl ht2
    · have ht2 := ht1.2 c2
      refine hb_aload_n (pc := 30) (i := 0) dX5_of_30 rfl rfl ?_
      refine hb_getR (pc := 31) (g1 := g0) dX5_of_31 fw_X5_9 cw_5 rfl hg0 rfl (by decide) rfl ?_
      refine hb_iload_n (pc := 34) (i := 1) dX5_of_34 rfl rfl ?_
      refine hb_bipush (pc := 35) (v := 9) dX5_of_35 (by decide) ?_
      refine hb_imul (pc := 37) dX5_of_37 ?_
      refine hb_iload_n (pc := 38) (i := 2) dX5_of_38 rfl rfl ?_
      refine hb_iadd (pc := 39) dX5_of_39 ?_
      obtain ⟨ho3, hr3⟩ := ht2
      refine hb_ialdx (pc := 40) (x := hb_aI w 5 1 g0 ((x1 * (9 : Int32)) + x2).toNatClampNeg) dX5_of_40 rfl hg0 ho3 rfl ?_
      refine hb_goto (pc := 41) (tgt := 45) dX5_of_41 (by decide) ?_
      exact hb_iret (pc := 45) dX5_of_45 rfl hr3
  · have ht1 := h.2 c1
    refine hb_iload_n (pc := 4) (i := 1) dX5_of_4 rfl rfl ?_
    refine hb_bipush (pc := 5) (v := 64) dX5_of_5 (by decide) ?_
    refine hb_icmp_ge (pc := 7) (tgt := 24) dX5_of_7 (by decide) (fun c4 => ?_) (fun c4 => ?_)
    · have ht4 := ht1.1 c4
      refine hb_iconst (pc := 24) (v := 0) dX5_of_24 (by decide) ?_
      refine hb_istore_n (pc := 25) (i := 3) (ls1 := [some (hb_r 5 g0 0), some (hb_i x1), some (hb_i x2), some (hb_i (0 : Int32))]) dX5_of_25 rfl (by decide) rfl ?_
      refine hb_iload_n (pc := 26) (i := 3) dX5_of_26 rfl rfl ?_
      refine hb_if_eq (pc := 27) (tgt := 44) dX5_of_27 (by decide) (fun c5 => ?_) (fun c5 => ?_)
      · have ht5 := ht4.1 c5
        refine hb_iconst (pc := 44) (v := 0) dX5_of_44 (by decide) ?_
        exact hb_iret (pc := 45) dX5_of_45 rfl ht5
      · have ht5 := ht4.2 c5
        refine hb_aload_n (pc := 30) (i := 0) dX5_of_30 rfl rfl ?_
        refine hb_getR (pc := 31) (g1 := g0) dX5_of_31 fw_X5_9 cw_5 rfl hg0 rfl (by decide) rfl ?_
        refine hb_iload_n (pc := 34) (i := 1) dX5_of_34 rfl rfl ?_
        refine hb_bipush (pc := 35) (v := 9) dX5_of_35 (by decide) ?_
        refine hb_imul (pc := 37) dX5_of_37 ?_
        refine hb_iload_n (pc := 38) (i := 2) dX5_of_38 rfl rfl ?_
        refine hb_iadd (pc := 39) dX5_of_39 ?_
        obtain ⟨ho6, hr6⟩ := ht5
        refine hb_ialdx (pc := 40) (x := hb_aI w 5 1 g0 ((x1 * (9 : Int32)) + x2).toNatClampNeg) dX5_of_40 rfl hg0 ho6 rfl ?_
        refine hb_goto (pc := 41) (tgt := 45) dX5_of_41 (by decide) ?_
        exact hb_iret (pc := 45) dX5_of_45 rfl hr6
    · have ht4 := ht1.2 c4
      refine hb_iload_n (pc := 10) (i := 2) dX5_of_10 rfl rfl ?_
      refine hb_if_lt (pc := 11) (tgt := 24) dX5_of_11 (by decide) (fun c7 => ?_) (fun c7 => ?_)
      · have ht7 := ht4.1 c7
        refine hb_iconst (pc := 24) (v := 0) dX5_of_24 (by decide) ?_
        refine hb_istore_n (pc := 25) (i := 3) (ls1 := [some (hb_r 5 g0 0), some (hb_i x1), some (hb_i x2), some (hb_i (0 : Int32))]) dX5_of_25 rfl (by decide) rfl ?_
        refine hb_iload_n (pc := 26) (i := 3) dX5_of_26 rfl rfl ?_
        refine hb_if_eq (pc := 27) (tgt := 44) dX5_of_27 (by decide) (fun c8 => ?_) (fun c8 => ?_)
        · have ht8 := ht7.1 c8
          refine hb_iconst (pc := 44) (v := 0) dX5_of_44 (by decide) ?_
          exact hb_iret (pc := 45) dX5_of_45 rfl ht8
        · have ht8 := ht7.2 c8
          refine hb_aload_n (pc := 30) (i := 0) dX5_of_30 rfl rfl ?_
          refine hb_getR (pc := 31) (g1 := g0) dX5_of_31 fw_X5_9 cw_5 rfl hg0 rfl (by decide) rfl ?_
          refine hb_iload_n (pc := 34) (i := 1) dX5_of_34 rfl rfl ?_
          refine hb_bipush (pc := 35) (v := 9) dX5_of_35 (by decide) ?_
          refine hb_imul (pc := 37) dX5_of_37 ?_
          refine hb_iload_n (pc := 38) (i := 2) dX5_of_38 rfl rfl ?_
          refine hb_iadd (pc := 39) dX5_of_39 ?_
          obtain ⟨ho9, hr9⟩ := ht8
          refine hb_ialdx (pc := 40) (x := hb_aI w 5 1 g0 ((x1 * (9 : Int32)) + x2).toNatClampNeg) dX5_of_40 rfl hg0 ho9 rfl ?_
          refine hb_goto (pc := 41) (tgt := 45) dX5_of_41 (by decide) ?_
          exact hb_iret (pc := 45) dX5_of_45 rfl hr9
      · have ht7 := ht4.2 c7
        refine hb_iload_n (pc := 14) (i := 2) dX5_of_14 rfl rfl ?_
        refine hb_bipush (pc := 15) (v := 9) dX5_of_15 (by decide) ?_
        refine hb_icmp_ge (pc := 17) (tgt := 24) dX5_of_17 (by decide) (fun c10 => ?_) (fun c10 => ?_)
        · have ht10 := ht7.1 c10
          refine hb_iconst (pc := 24) (v := 0) dX5_of_24 (by decide) ?_
          refine hb_istore_n (pc := 25) (i := 3) (ls1 := [some (hb_r 5 g0 0), some (hb_i x1), some (hb_i x2), some (hb_i (0 : Int32))]) dX5_of_25 rfl (by decide) rfl ?_
          refine hb_iload_n (pc := 26) (i := 3) dX5_of_26 rfl rfl ?_
          refine hb_if_eq (pc := 27) (tgt := 44) dX5_of_27 (by decide) (fun c11 => ?_) (fun c11 => ?_)
          · have ht11 := ht10.1 c11
            refine hb_iconst (pc := 44) (v := 0) dX5_of_44 (by decide) ?_
            exact hb_iret (pc := 45) dX5_of_45 rfl ht11
          · have ht11 := ht10.2 c11
            refine hb_aload_n (pc := 30) (i := 0) dX5_of_30 rfl rfl ?_
            refine hb_getR (pc := 31) (g1 := g0) dX5_of_31 fw_X5_9 cw_5 rfl hg0 rfl (by decide) rfl ?_
            refine hb_iload_n (pc := 34) (i := 1) dX5_of_34 rfl rfl ?_
            refine hb_bipush (pc := 35) (v := 9) dX5_of_35 (by decide) ?_
            refine hb_imul (pc := 37) dX5_of_37 ?_
            refine hb_iload_n (pc := 38) (i := 2) dX5_of_38 rfl rfl ?_
            refine hb_iadd (pc := 39) dX5_of_39 ?_
            obtain ⟨ho12, hr12⟩ := ht11
            refine hb_ialdx (pc := 40) (x := hb_aI w 5 1 g0 ((x1 * (9 : Int32)) + x2).toNatClampNeg) dX5_of_40 rfl hg0 ho12 rfl ?_
            refine hb_goto (pc := 41) (tgt := 45) dX5_of_41 (by decide) ?_
            exact hb_iret (pc := 45) dX5_of_45 rfl hr12
        · have ht10 := ht7.2 c10
          refine hb_iconst (pc := 20) (v := 1) dX5_of_20 (by decide) ?_
          refine hb_goto (pc := 21) (tgt := 25) dX5_of_21 (by decide) ?_
          refine hb_istore_n (pc := 25) (i := 3) (ls1 := [some (hb_r 5 g0 0), some (hb_i x1), some (hb_i x2), some (hb_i (1 : Int32))]) dX5_of_25 rfl (by decide) rfl ?_
          refine hb_iload_n (pc := 26) (i := 3) dX5_of_26 rfl rfl ?_
          refine hb_if_eq (pc := 27) (tgt := 44) dX5_of_27 (by decide) (fun c13 => ?_) (fun c13 => ?_)
          · have ht13 := ht10.1 c13
            refine hb_iconst (pc := 44) (v := 0) dX5_of_44 (by decide) ?_
            exact hb_iret (pc := 45) dX5_of_45 rfl ht13
          · have ht13 := ht10.2 c13
            refine hb_aload_n (pc := 30) (i := 0) dX5_of_30 rfl rfl ?_
            refine hb_getR (pc := 31) (g1 := g0) dX5_of_31 fw_X5_9 cw_5 rfl hg0 rfl (by decide) rfl ?_
            refine hb_iload_n (pc := 34) (i := 1) dX5_of_34 rfl rfl ?_
            refine hb_bipush (pc := 35) (v := 9) dX5_of_35 (by decide) ?_
            refine hb_imul (pc := 37) dX5_of_37 ?_
            refine hb_iload_n (pc := 38) (i := 2) dX5_of_38 rfl rfl ?_
            refine hb_iadd (pc := 39) dX5_of_39 ?_
            obtain ⟨ho14, hr14⟩ := ht13
            refine hb_ialdx (pc := 40) (x := hb_aI w 5 1 g0 ((x1 * (9 : Int32)) + x2).toNatClampNeg) dX5_of_40 rfl hg0 ho14 rfl ?_
            refine hb_goto (pc := 41) (tgt := 45) dX5_of_41 (by decide) ?_
            exact hb_iret (pc := 45) dX5_of_45 rfl hr14
theorem dX5_fillLine_0 : decode cX5_fillLine 0 = .ok (.aload_n 2, 1) := by decide +kernel
theorem dX5_fillLine_1 : decode cX5_fillLine 1 = .ok (.iload_n 3, 1) := by decide +kernel
theorem dX5_fillLine_2 : decode cX5_fillLine 2 = .ok (.putfield 15, 3) := by decide +kernel
theorem dX5_fillLine_5 : decode cX5_fillLine 5 = .ok (.aload_n 2, 1) := by decide +kernel
theorem dX5_fillLine_6 : decode cX5_fillLine 6 = .ok (.iload 4, 2) := by decide +kernel
theorem dX5_fillLine_8 : decode cX5_fillLine 8 = .ok (.putfield 21, 3) := by decide +kernel
theorem dX5_fillLine_11 : decode cX5_fillLine 11 = .ok (.iconst 0, 1) := by decide +kernel
theorem dX5_fillLine_12 : decode cX5_fillLine 12 = .ok (.istore 5, 2) := by decide +kernel
theorem dX5_fillLine_14 : decode cX5_fillLine 14 = .ok (.iload 5, 2) := by decide +kernel
theorem dX5_fillLine_16 : decode cX5_fillLine 16 = .ok (.bipush 64, 2) := by decide +kernel
theorem dX5_fillLine_18 : decode cX5_fillLine 18 = .ok (.if_icmp .ge 62, 3) := by decide +kernel
theorem dX5_fillLine_21 : decode cX5_fillLine 21 = .ok (.iload 4, 2) := by decide +kernel
theorem dX5_fillLine_23 : decode cX5_fillLine 23 = .ok (.invokestatic 24, 3) := by decide +kernel
theorem dX5_fillLine_26 : decode cX5_fillLine 26 = .ok (.ifCond .eq 54, 3) := by decide +kernel
theorem dX5_fillLine_29 : decode cX5_fillLine 29 = .ok (.aload_n 2, 1) := by decide +kernel
theorem dX5_fillLine_30 : decode cX5_fillLine 30 = .ok (.iload 5, 2) := by decide +kernel
theorem dX5_fillLine_32 : decode cX5_fillLine 32 = .ok (.putfield 28, 3) := by decide +kernel
theorem dX5_fillLine_35 : decode cX5_fillLine 35 = .ok (.aload_n 2, 1) := by decide +kernel
theorem dX5_fillLine_36 : decode cX5_fillLine 36 = .ok (.aload_n 1, 1) := by decide +kernel
theorem dX5_fillLine_37 : decode cX5_fillLine 37 = .ok (.getfield 31, 3) := by decide +kernel
theorem dX5_fillLine_40 : decode cX5_fillLine 40 = .ok (.aload_n 1, 1) := by decide +kernel
theorem dX5_fillLine_41 : decode cX5_fillLine 41 = .ok (.getfield 37, 3) := by decide +kernel
theorem dX5_fillLine_44 : decode cX5_fillLine 44 = .ok (.aload_n 1, 1) := by decide +kernel
theorem dX5_fillLine_45 : decode cX5_fillLine 45 = .ok (.getfield 40, 3) := by decide +kernel
theorem dX5_fillLine_48 : decode cX5_fillLine 48 = .ok (.invokevirtual 43, 3) := by decide +kernel
theorem dX5_fillLine_51 : decode cX5_fillLine 51 = .ok (.istore 6, 2) := by decide +kernel
theorem dX5_fillLine_53 : decode cX5_fillLine 53 = .ok (.aload_n 0, 1) := by decide +kernel
theorem dX5_fillLine_54 : decode cX5_fillLine 54 = .ok (.getfield 9, 3) := by decide +kernel
theorem dX5_fillLine_57 : decode cX5_fillLine 57 = .ok (.iload 5, 2) := by decide +kernel
theorem dX5_fillLine_59 : decode cX5_fillLine 59 = .ok (.bipush 9, 2) := by decide +kernel
theorem dX5_fillLine_61 : decode cX5_fillLine 61 = .ok (.imul, 1) := by decide +kernel
theorem dX5_fillLine_62 : decode cX5_fillLine 62 = .ok (.iload 4, 2) := by decide +kernel
theorem dX5_fillLine_64 : decode cX5_fillLine 64 = .ok (.iadd, 1) := by decide +kernel
theorem dX5_fillLine_65 : decode cX5_fillLine 65 = .ok (.iload 6, 2) := by decide +kernel
theorem dX5_fillLine_67 : decode cX5_fillLine 67 = .ok (.sipush 1000, 3) := by decide +kernel
theorem dX5_fillLine_70 : decode cX5_fillLine 70 = .ok (.invokestatic 47, 3) := by decide +kernel
theorem dX5_fillLine_73 : decode cX5_fillLine 73 = .ok (.iastore, 1) := by decide +kernel
theorem dX5_fillLine_74 : decode cX5_fillLine 74 = .ok (.iinc 5 1, 3) := by decide +kernel
theorem dX5_fillLine_77 : decode cX5_fillLine 77 = .ok (.goto (-63), 3) := by decide +kernel
theorem dX5_fillLine_80 : decode cX5_fillLine 80 = .ok (.return_, 1) := by decide +kernel
set_option maxRecDepth 20000 in
theorem bk_X5_fillLine_0 {d : Nat} {w : hb_W} {Q : Option hb_V → hb_W → Prop} {g0 : Nat} {g1 : Nat} {x3 : Int32} {x4 : Int32} (hg0 : g0 < hb_ct 5) (hg1 : g1 < hb_ct 11) (h : hb_R yX5_fillLine cX5_fillLine 7 none (d + 1) 14 [some (hb_r 5 g0 0), some (hb_r 11 g1 0), some (hb_r 6 0 0), some (hb_i x3), some (hb_i x4), some (hb_i (0 : Int32)), none] [] (hb_pI (hb_pI w 6 3 0 x3) 6 2 0 x4) Q) : hb_R yX5_fillLine cX5_fillLine 7 none (d + 1) 0 [some (hb_r 5 g0 0), some (hb_r 11 g1 0), some (hb_r 6 0 0), some (hb_i x3), some (hb_i x4), none, none] [] w Q := by
  refine hb_aload_n (pc := 0) (i := 2) dX5_fillLine_0 rfl rfl ?_
  refine hb_iload_n (pc := 1) (i := 3) dX5_fillLine_1 rfl rfl ?_
  refine hb_putI (pc := 2) dX5_fillLine_2 fw_X5_15 cw_9 pw_9_3 rfl (by decide) rfl rfl rfl ?_
  refine hb_aload_n (pc := 5) (i := 2) dX5_fillLine_5 rfl rfl ?_
  refine hb_iload (pc := 6) dX5_fillLine_6 rfl ?_
  refine hb_putI (pc := 8) dX5_fillLine_8 fw_X5_21 cw_9 pw_9_2 rfl (by decide) rfl rfl rfl ?_
  refine hb_iconst (pc := 11) (v := 0) dX5_fillLine_11 (by decide) ?_
  refine hb_istore (pc := 12) (i := 5) (ls1 := [some (hb_r 5 g0 0), some (hb_r 11 g1 0), some (hb_r 6 0 0), some (hb_i x3), some (hb_i x4), some (hb_i (0 : Int32)), none]) dX5_fillLine_12 (by decide) rfl ?_
  exact h
set_option maxRecDepth 20000 in
theorem bk_X5_fillLine_14 {d : Nat} {w : hb_W} {Q : Option hb_V → hb_W → Prop} {g0 : Nat} {g1 : Nat} {x3 : Int32} {x4 : Int32} {x5 : Int32} (hg0 : g0 < hb_ct 5) (hg1 : g1 < hb_ct 11) (h : (((64 : Int32) ≤ x5) → Q none w) ∧ ((¬ (64 : Int32) ≤ x5) → hb_O yX11_isLine cX11_isLine 1 (some .boolean) d [hb_i x4] w (fun rv w1 => hb_R yX5_fillLine cX5_fillLine 7 none (d + 1) 26 [some (hb_r 5 g0 0), some (hb_r 11 g1 0), some (hb_r 6 0 0), some (hb_i x3), some (hb_i x4), some (hb_i x5), none] (rv.toList ++ []) w1 Q))) : hb_R yX5_fillLine cX5_fillLine 7 none (d + 1) 14 [some (hb_r 5 g0 0), some (hb_r 11 g1 0), some (hb_r 6 0 0), some (hb_i x3), some (hb_i x4), some (hb_i x5), none] [] w Q := by
  refine hb_iload (pc := 14) dX5_fillLine_14 rfl ?_
  refine hb_bipush (pc := 16) (v := 64) dX5_fillLine_16 (by decide) ?_
  refine hb_icmp_ge (pc := 18) (tgt := 80) dX5_fillLine_18 (by decide) (fun c1 => ?_) (fun c1 => ?_)
  · have ht1 := h.1 c1
    exact hb_vret (pc := 80) dX5_fillLine_80 rfl ht1
  · have ht1 := h.2 c1
    refine hb_iload (pc := 21) dX5_fillLine_21 rfl ?_
    exact hb_callSN (pc := 23) (As := [hb_i x4]) (st := []) dX5_fillLine_23 (by first | exact Or.inl rfl | exact Or.inr rfl) mf_X11_isLine ms_X11_isLine rfl rfl (Nat.le_of_ble_eq_true rfl) (Nat.le_of_ble_eq_true rfl) ht1 (fun _ _ q => q)
set_option maxRecDepth 20000 in
theorem bk_X5_fillLine_26 {d : Nat} {w : hb_W} {Q : Option hb_V → hb_W → Prop} {g0 : Nat} {g1 : Nat} {x3 : Int32} {x4 : Int32} {x5 : Int32} {xs0 : Int32} (hg0 : g0 < hb_ct 5) (hg1 : g1 < hb_ct 11) (h : ((xs0 = 0) → Q none w) ∧ ((¬ xs0 = 0) → hb_O yX9_reckon cX9_reckon 8 (some .int) d [hb_r 6 0 0, hb_r 2 (g1 + 1) 0, hb_i (hb_fI w 11 13 g1), hb_i (hb_fI w 11 14 g1)] (hb_pI w 6 0 0 x5) (fun rv w1 => hb_R yX5_fillLine cX5_fillLine 7 none (d + 1) 51 [some (hb_r 5 g0 0), some (hb_r 11 g1 0), some (hb_r 6 0 0), some (hb_i x3), some (hb_i x4), some (hb_i x5), none] (rv.toList ++ []) w1 Q))) : hb_R yX5_fillLine cX5_fillLine 7 none (d + 1) 26 [some (hb_r 5 g0 0), some (hb_r 11 g1 0), some (hb_r 6 0 0), some (hb_i x3), some (hb_i x4), some (hb_i x5), none] [hb_i xs0] w Q := by
  refine hb_if_eq (pc := 26) (tgt := 80) dX5_fillLine_26 (by decide) (fun c1 => ?_) (fun c1 => ?_)
  · have ht1 := h.1 c1
    exact hb_vret (pc := 80) dX5_fillLine_80 rfl ht1
  · have ht1 := h.2 c1
    refine hb_aload_n (pc := 29) (i := 2) dX5_fillLine_29 rfl rfl ?_
    refine hb_iload (pc := 30) dX5_fillLine_30 rfl ?_
    refine hb_putI (pc := 32) dX5_fillLine_32 fw_X5_28 cw_9 pw_9_0 rfl (by decide) rfl rfl rfl ?_
    refine hb_aload_n (pc := 35) (i := 2) dX5_fillLine_35 rfl rfl ?_
    refine hb_aload_n (pc := 36) (i := 1) dX5_fillLine_36 rfl rfl ?_
    refine hb_getR (pc := 37) (g1 := g1 + 1) dX5_fillLine_37 fw_X5_31 cw_6 rfl hg1 rfl (by decide) rfl ?_
    refine hb_aload_n (pc := 40) (i := 1) dX5_fillLine_40 rfl rfl ?_
    refine hb_getIx (pc := 41) (x := hb_fI w 11 13 g1) dX5_fillLine_41 fw_X5_37 cw_6 rfl hg1 rfl (by simp [hb_fI, hb_fL, hb_fR, hb_aI, hb_aL, hb_pI, hb_pL, hb_pR, hb_sI, hb_sL, hb_u3]) ?_
    refine hb_aload_n (pc := 44) (i := 1) dX5_fillLine_44 rfl rfl ?_
    refine hb_getIx (pc := 45) (x := hb_fI w 11 14 g1) dX5_fillLine_45 fw_X5_40 cw_6 rfl hg1 rfl (by simp [hb_fI, hb_fL, hb_fR, hb_aI, hb_aL, hb_pI, hb_pL, hb_pR, hb_sI, hb_sL, hb_u3]) ?_
    exact hb_callV (pc := 48) (As := [hb_r 2 (g1 + 1) 0, hb_i (hb_fI w 11 13 g1), hb_i (hb_fI w 11 14 g1)]) (st := []) dX5_fillLine_48 ml_X5_43 mf_X9_reckon mi_X9_reckon (ci := 9) rfl rfl (by decide) rfl rfl (Nat.le_of_ble_eq_true rfl) (Nat.le_of_ble_eq_true rfl) ht1 (fun _ _ q => q)
set_option maxRecDepth 20000 in
theorem bk_X5_fillLine_51 {d : Nat} {w : hb_W} {Q : Option hb_V → hb_W → Prop} {g0 : Nat} {g1 : Nat} {x3 : Int32} {x4 : Int32} {x5 : Int32} {xs0 : Int32} (hg0 : g0 < hb_ct 5) (hg1 : g1 < hb_ct 11) (h : hb_O yJ9_floorMod_7cf53 cJ9_floorMod_7cf53 3 (some .int) d [hb_i xs0, hb_i (1000 : Int32)] w (fun rv w1 => hb_R yX5_fillLine cX5_fillLine 7 none (d + 1) 73 [some (hb_r 5 g0 0), some (hb_r 11 g1 0), some (hb_r 6 0 0), some (hb_i x3), some (hb_i x4), some (hb_i x5), some (hb_i xs0)] (rv.toList ++ [hb_i ((x5 * (9 : Int32)) + x4), hb_r 5 g0 1]) w1 Q)) : hb_R yX5_fillLine cX5_fillLine 7 none (d + 1) 51 [some (hb_r 5 g0 0), some (hb_r 11 g1 0), some (hb_r 6 0 0), some (hb_i x3), some (hb_i x4), some (hb_i x5), none] [hb_i xs0] w Q := by
  refine hb_istore (pc := 51) (i := 6) (ls1 := [some (hb_r 5 g0 0), some (hb_r 11 g1 0), some (hb_r 6 0 0), some (hb_i x3), some (hb_i x4), some (hb_i x5), some (hb_i xs0)]) dX5_fillLine_51 (by decide) rfl ?_
  refine hb_aload_n (pc := 53) (i := 0) dX5_fillLine_53 rfl rfl ?_
  refine hb_getR (pc := 54) (g1 := g0) dX5_fillLine_54 fw_X5_9 cw_5 rfl hg0 rfl (by decide) rfl ?_
  refine hb_iload (pc := 57) dX5_fillLine_57 rfl ?_
  refine hb_bipush (pc := 59) (v := 9) dX5_fillLine_59 (by decide) ?_
  refine hb_imul (pc := 61) dX5_fillLine_61 ?_
  refine hb_iload (pc := 62) dX5_fillLine_62 rfl ?_
  refine hb_iadd (pc := 64) dX5_fillLine_64 ?_
  refine hb_iload (pc := 65) dX5_fillLine_65 rfl ?_
  refine hb_sipush (pc := 67) (v := 1000) dX5_fillLine_67 (by decide) ?_
  exact hb_callS (pc := 70) (As := [hb_i xs0, hb_i (1000 : Int32)]) (st := [hb_i ((x5 * (9 : Int32)) + x4), hb_r 5 g0 1]) dX5_fillLine_70 ml_X5_47 mf_J9_floorMod_7cf53 ms_J9_floorMod_7cf53 rfl rfl (Nat.le_of_ble_eq_true rfl) (Nat.le_of_ble_eq_true rfl) h (fun _ _ q => q)
set_option maxRecDepth 20000 in
theorem bk_X5_fillLine_73 {d : Nat} {w : hb_W} {Q : Option hb_V → hb_W → Prop} {g0 : Nat} {g1 : Nat} {x3 : Int32} {x4 : Int32} {x5 : Int32} {x6 : Int32} {gs0 : Nat} {xs1 : Int32} {xs2 : Int32} (hg0 : g0 < hb_ct 5) (hg1 : g1 < hb_ct 11) (hgs0 : gs0 < hb_ct 5) (h : vp_in xs1 576 ∧ (hb_R yX5_fillLine cX5_fillLine 7 none (d + 1) 14 [some (hb_r 5 g0 0), some (hb_r 11 g1 0), some (hb_r 6 0 0), some (hb_i x3), some (hb_i x4), some (hb_i (x5 + (1 : Int32))), some (hb_i x6)] [] (hb_sI w 5 1 gs0 (upd (hb_aI w 5 1 gs0) xs1.toNatClampNeg xs2)) Q)) : hb_R yX5_fillLine cX5_fillLine 7 none (d + 1) 73 [some (hb_r 5 g0 0), some (hb_r 11 g1 0), some (hb_r 6 0 0), some (hb_i x3), some (hb_i x4), some (hb_i x5), some (hb_i x6)] [hb_i xs2, hb_i xs1, hb_r 5 gs0 1] w Q := by
  obtain ⟨ho1, hr1⟩ := h
  refine hb_iastx (pc := 73) (f := upd (hb_aI w 5 1 gs0) xs1.toNatClampNeg xs2) dX5_fillLine_73 rfl hgs0 ho1 rfl ?_
  refine hb_iinc (pc := 74) (v := x5 + (1 : Int32)) (ls1 := [some (hb_r 5 g0 0), some (hb_r 11 g1 0), some (hb_r 6 0 0), some (hb_i x3), some (hb_i x4), some (hb_i (x5 + (1 : Int32))), some (hb_i x6)]) dX5_fillLine_74 rfl rfl (by decide) rfl ?_
  refine hb_goto (pc := 77) (tgt := 14) dX5_fillLine_77 (by decide) ?_
  exact hr1
theorem dX6_clear_0 : decode cX6_clear 0 = .ok (.aload_n 0, 1) := by decide +kernel
theorem dX6_clear_1 : decode cX6_clear 1 = .ok (.iconst 0, 1) := by decide +kernel
theorem dX6_clear_2 : decode cX6_clear 2 = .ok (.putfield 37, 3) := by decide +kernel
theorem dX6_clear_5 : decode cX6_clear 5 = .ok (.aload_n 0, 1) := by decide +kernel
theorem dX6_clear_6 : decode cX6_clear 6 = .ok (.iconst 0, 1) := by decide +kernel
theorem dX6_clear_7 : decode cX6_clear 7 = .ok (.putfield 41, 3) := by decide +kernel
theorem dX6_clear_10 : decode cX6_clear 10 = .ok (.aload_n 0, 1) := by decide +kernel
theorem dX6_clear_11 : decode cX6_clear 11 = .ok (.iconst 0, 1) := by decide +kernel
theorem dX6_clear_12 : decode cX6_clear 12 = .ok (.putfield 44, 3) := by decide +kernel
theorem dX6_clear_15 : decode cX6_clear 15 = .ok (.aload_n 0, 1) := by decide +kernel
theorem dX6_clear_16 : decode cX6_clear 16 = .ok (.iconst 0, 1) := by decide +kernel
theorem dX6_clear_17 : decode cX6_clear 17 = .ok (.putfield 47, 3) := by decide +kernel
theorem dX6_clear_20 : decode cX6_clear 20 = .ok (.aload_n 0, 1) := by decide +kernel
theorem dX6_clear_21 : decode cX6_clear 21 = .ok (.iconst 0, 1) := by decide +kernel
theorem dX6_clear_22 : decode cX6_clear 22 = .ok (.putfield 50, 3) := by decide +kernel
theorem dX6_clear_25 : decode cX6_clear 25 = .ok (.aload_n 0, 1) := by decide +kernel
theorem dX6_clear_26 : decode cX6_clear 26 = .ok (.getfield 33, 3) := by decide +kernel
theorem dX6_clear_29 : decode cX6_clear 29 = .ok (.iconst 0, 1) := by decide +kernel
theorem dX6_clear_30 : decode cX6_clear 30 = .ok (.putfield 53, 3) := by decide +kernel
theorem dX6_clear_33 : decode cX6_clear 33 = .ok (.aload_n 0, 1) := by decide +kernel
theorem dX6_clear_34 : decode cX6_clear 34 = .ok (.iconst 0, 1) := by decide +kernel
theorem dX6_clear_35 : decode cX6_clear 35 = .ok (.putfield 56, 3) := by decide +kernel
theorem dX6_clear_38 : decode cX6_clear 38 = .ok (.aload_n 0, 1) := by decide +kernel
theorem dX6_clear_39 : decode cX6_clear 39 = .ok (.iconst 0, 1) := by decide +kernel
theorem dX6_clear_40 : decode cX6_clear 40 = .ok (.putfield 60, 3) := by decide +kernel
theorem dX6_clear_43 : decode cX6_clear 43 = .ok (.aload_n 0, 1) := by decide +kernel
theorem dX6_clear_44 : decode cX6_clear 44 = .ok (.iconst 0, 1) := by decide +kernel
theorem dX6_clear_45 : decode cX6_clear 45 = .ok (.putfield 63, 3) := by decide +kernel
theorem dX6_clear_48 : decode cX6_clear 48 = .ok (.return_, 1) := by decide +kernel
set_option maxRecDepth 20000 in
theorem bk_X6_clear_0 {d : Nat} {w : hb_W} {Q : Option hb_V → hb_W → Prop} {g0 : Nat} (hg0 : g0 < hb_ct 11) (h : Q none (hb_pI (hb_pI (hb_pI (hb_pI (hb_pI (hb_pI (hb_pI (hb_pI (hb_pI w 11 0 g0 (0 : Int32)) 11 1 g0 (0 : Int32)) 11 2 g0 (0 : Int32)) 11 3 g0 (0 : Int32)) 11 4 g0 (0 : Int32)) 2 1 (g0 + 1) (0 : Int32)) 11 12 g0 (0 : Int32)) 11 13 g0 (0 : Int32)) 11 14 g0 (0 : Int32))) : hb_R yX6_clear cX6_clear 1 none d 0 [some (hb_r 11 g0 0)] [] w Q := by
  refine hb_aload_n (pc := 0) (i := 0) dX6_clear_0 rfl rfl ?_
  refine hb_iconst (pc := 1) (v := 0) dX6_clear_1 (by decide) ?_
  refine hb_putI (pc := 2) dX6_clear_2 fw_X6_37 cw_6 pw_6_0 rfl hg0 rfl rfl rfl ?_
  refine hb_aload_n (pc := 5) (i := 0) dX6_clear_5 rfl rfl ?_
  refine hb_iconst (pc := 6) (v := 0) dX6_clear_6 (by decide) ?_
  refine hb_putI (pc := 7) dX6_clear_7 fw_X6_41 cw_6 pw_6_1 rfl hg0 rfl rfl rfl ?_
  refine hb_aload_n (pc := 10) (i := 0) dX6_clear_10 rfl rfl ?_
  refine hb_iconst (pc := 11) (v := 0) dX6_clear_11 (by decide) ?_
  refine hb_putI (pc := 12) dX6_clear_12 fw_X6_44 cw_6 pw_6_2 rfl hg0 rfl rfl rfl ?_
  refine hb_aload_n (pc := 15) (i := 0) dX6_clear_15 rfl rfl ?_
  refine hb_iconst (pc := 16) (v := 0) dX6_clear_16 (by decide) ?_
  refine hb_putI (pc := 17) dX6_clear_17 fw_X6_47 cw_6 pw_6_3 rfl hg0 rfl rfl rfl ?_
  refine hb_aload_n (pc := 20) (i := 0) dX6_clear_20 rfl rfl ?_
  refine hb_iconst (pc := 21) (v := 0) dX6_clear_21 (by decide) ?_
  refine hb_putI (pc := 22) dX6_clear_22 fw_X6_50 cw_6 pw_6_4 rfl hg0 rfl rfl rfl ?_
  refine hb_aload_n (pc := 25) (i := 0) dX6_clear_25 rfl rfl ?_
  refine hb_getR (pc := 26) (g1 := g0 + 1) dX6_clear_26 fw_X6_33 cw_6 rfl hg0 rfl (by decide) rfl ?_
  refine hb_iconst (pc := 29) (v := 0) dX6_clear_29 (by decide) ?_
  refine hb_putI (pc := 30) dX6_clear_30 fw_X6_53 cw_1 pw_1_1 rfl (Nat.succ_lt_succ hg0) rfl rfl rfl ?_
  refine hb_aload_n (pc := 33) (i := 0) dX6_clear_33 rfl rfl ?_
  refine hb_iconst (pc := 34) (v := 0) dX6_clear_34 (by decide) ?_
  refine hb_putI (pc := 35) dX6_clear_35 fw_X6_56 cw_6 pw_6_12 rfl hg0 rfl rfl rfl ?_
  refine hb_aload_n (pc := 38) (i := 0) dX6_clear_38 rfl rfl ?_
  refine hb_iconst (pc := 39) (v := 0) dX6_clear_39 (by decide) ?_
  refine hb_putI (pc := 40) dX6_clear_40 fw_X6_60 cw_6 pw_6_13 rfl hg0 rfl rfl rfl ?_
  refine hb_aload_n (pc := 43) (i := 0) dX6_clear_43 rfl rfl ?_
  refine hb_iconst (pc := 44) (v := 0) dX6_clear_44 (by decide) ?_
  refine hb_putI (pc := 45) dX6_clear_45 fw_X6_63 cw_6 pw_6_14 rfl hg0 rfl rfl rfl ?_
  exact hb_vret (pc := 48) dX6_clear_48 rfl h
theorem dX6_putPlainMix_0 : decode cX6_putPlainMix 0 = .ok (.aload_n 0, 1) := by decide +kernel
theorem dX6_putPlainMix_1 : decode cX6_putPlainMix 1 = .ok (.aload_n 0, 1) := by decide +kernel
theorem dX6_putPlainMix_2 : decode cX6_putPlainMix 2 = .ok (.getfield 33, 3) := by decide +kernel
theorem dX6_putPlainMix_5 : decode cX6_putPlainMix 5 = .ok (.getfield 53, 3) := by decide +kernel
theorem dX6_putPlainMix_8 : decode cX6_putPlainMix 8 = .ok (.putfield 60, 3) := by decide +kernel
theorem dX6_putPlainMix_11 : decode cX6_putPlainMix 11 = .ok (.aload_n 0, 1) := by decide +kernel
theorem dX6_putPlainMix_12 : decode cX6_putPlainMix 12 = .ok (.getfield 33, 3) := by decide +kernel
theorem dX6_putPlainMix_15 : decode cX6_putPlainMix 15 = .ok (.iconst (-1), 1) := by decide +kernel
theorem dX6_putPlainMix_16 : decode cX6_putPlainMix 16 = .ok (.invokevirtual 66, 3) := by decide +kernel
theorem dX6_putPlainMix_19 : decode cX6_putPlainMix 19 = .ok (.aload_n 0, 1) := by decide +kernel
theorem dX6_putPlainMix_20 : decode cX6_putPlainMix 20 = .ok (.getfield 33, 3) := by decide +kernel
theorem dX6_putPlainMix_23 : decode cX6_putPlainMix 23 = .ok (.sipush 619, 3) := by decide +kernel
theorem dX6_putPlainMix_26 : decode cX6_putPlainMix 26 = .ok (.invokevirtual 66, 3) := by decide +kernel
theorem dX6_putPlainMix_29 : decode cX6_putPlainMix 29 = .ok (.aload_n 0, 1) := by decide +kernel
theorem dX6_putPlainMix_30 : decode cX6_putPlainMix 30 = .ok (.getfield 33, 3) := by decide +kernel
theorem dX6_putPlainMix_33 : decode cX6_putPlainMix 33 = .ok (.bipush (-23), 2) := by decide +kernel
theorem dX6_putPlainMix_35 : decode cX6_putPlainMix 35 = .ok (.invokevirtual 66, 3) := by decide +kernel
theorem dX6_putPlainMix_38 : decode cX6_putPlainMix 38 = .ok (.aload_n 0, 1) := by decide +kernel
theorem dX6_putPlainMix_39 : decode cX6_putPlainMix 39 = .ok (.getfield 33, 3) := by decide +kernel
theorem dX6_putPlainMix_42 : decode cX6_putPlainMix 42 = .ok (.bipush (-3), 2) := by decide +kernel
theorem dX6_putPlainMix_44 : decode cX6_putPlainMix 44 = .ok (.invokevirtual 66, 3) := by decide +kernel
theorem dX6_putPlainMix_47 : decode cX6_putPlainMix 47 = .ok (.aload_n 0, 1) := by decide +kernel
theorem dX6_putPlainMix_48 : decode cX6_putPlainMix 48 = .ok (.getfield 33, 3) := by decide +kernel
theorem dX6_putPlainMix_51 : decode cX6_putPlainMix 51 = .ok (.sipush 211, 3) := by decide +kernel
theorem dX6_putPlainMix_54 : decode cX6_putPlainMix 54 = .ok (.invokevirtual 66, 3) := by decide +kernel
theorem dX6_putPlainMix_57 : decode cX6_putPlainMix 57 = .ok (.aload_n 0, 1) := by decide +kernel
theorem dX6_putPlainMix_58 : decode cX6_putPlainMix 58 = .ok (.getfield 33, 3) := by decide +kernel
theorem dX6_putPlainMix_61 : decode cX6_putPlainMix 61 = .ok (.bipush (-23), 2) := by decide +kernel
theorem dX6_putPlainMix_63 : decode cX6_putPlainMix 63 = .ok (.invokevirtual 66, 3) := by decide +kernel
theorem dX6_putPlainMix_66 : decode cX6_putPlainMix 66 = .ok (.aload_n 0, 1) := by decide +kernel
theorem dX6_putPlainMix_67 : decode cX6_putPlainMix 67 = .ok (.getfield 33, 3) := by decide +kernel
theorem dX6_putPlainMix_70 : decode cX6_putPlainMix 70 = .ok (.bipush (-21), 2) := by decide +kernel
theorem dX6_putPlainMix_72 : decode cX6_putPlainMix 72 = .ok (.invokevirtual 66, 3) := by decide +kernel
theorem dX6_putPlainMix_75 : decode cX6_putPlainMix 75 = .ok (.aload_n 0, 1) := by decide +kernel
theorem dX6_putPlainMix_76 : decode cX6_putPlainMix 76 = .ok (.getfield 33, 3) := by decide +kernel
theorem dX6_putPlainMix_79 : decode cX6_putPlainMix 79 = .ok (.bipush (-4), 2) := by decide +kernel
theorem dX6_putPlainMix_81 : decode cX6_putPlainMix 81 = .ok (.invokevirtual 66, 3) := by decide +kernel
theorem dX6_putPlainMix_84 : decode cX6_putPlainMix 84 = .ok (.aload_n 0, 1) := by decide +kernel
theorem dX6_putPlainMix_85 : decode cX6_putPlainMix 85 = .ok (.getfield 33, 3) := by decide +kernel
theorem dX6_putPlainMix_88 : decode cX6_putPlainMix 88 = .ok (.bipush 97, 2) := by decide +kernel
theorem dX6_putPlainMix_90 : decode cX6_putPlainMix 90 = .ok (.invokevirtual 66, 3) := by decide +kernel
theorem dX6_putPlainMix_93 : decode cX6_putPlainMix 93 = .ok (.aload_n 0, 1) := by decide +kernel
theorem dX6_putPlainMix_94 : decode cX6_putPlainMix 94 = .ok (.getfield 33, 3) := by decide +kernel
theorem dX6_putPlainMix_97 : decode cX6_putPlainMix 97 = .ok (.bipush (-23), 2) := by decide +kernel
theorem dX6_putPlainMix_99 : decode cX6_putPlainMix 99 = .ok (.invokevirtual 66, 3) := by decide +kernel
theorem dX6_putPlainMix_102 : decode cX6_putPlainMix 102 = .ok (.aload_n 0, 1) := by decide +kernel
theorem dX6_putPlainMix_103 : decode cX6_putPlainMix 103 = .ok (.getfield 33, 3) := by decide +kernel
theorem dX6_putPlainMix_106 : decode cX6_putPlainMix 106 = .ok (.bipush (-21), 2) := by decide +kernel
theorem dX6_putPlainMix_108 : decode cX6_putPlainMix 108 = .ok (.invokevirtual 66, 3) := by decide +kernel
theorem dX6_putPlainMix_111 : decode cX6_putPlainMix 111 = .ok (.aload_n 0, 1) := by decide +kernel
theorem dX6_putPlainMix_112 : decode cX6_putPlainMix 112 = .ok (.aload_n 0, 1) := by decide +kernel
theorem dX6_putPlainMix_113 : decode cX6_putPlainMix 113 = .ok (.getfield 33, 3) := by decide +kernel
theorem dX6_putPlainMix_116 : decode cX6_putPlainMix 116 = .ok (.getfield 53, 3) := by decide +kernel
theorem dX6_putPlainMix_119 : decode cX6_putPlainMix 119 = .ok (.putfield 63, 3) := by decide +kernel
theorem dX6_putPlainMix_122 : decode cX6_putPlainMix 122 = .ok (.return_, 1) := by decide +kernel
set_option maxRecDepth 20000 in
theorem bk_X6_putPlainMix_0 {d : Nat} {w : hb_W} {Q : Option hb_V → hb_W → Prop} {g0 : Nat} (hg0 : g0 < hb_ct 11) (h : hb_O yX1_put cX1_put 2 none d [hb_r 2 (g0 + 1) 0, hb_i (-1 : Int32)] (hb_pI w 11 13 g0 (hb_fI w 2 1 (g0 + 1))) (fun rv w1 => hb_R yX6_putPlainMix cX6_putPlainMix 1 none (d + 1) 19 [some (hb_r 11 g0 0)] (rv.toList ++ []) w1 Q)) : hb_R yX6_putPlainMix cX6_putPlainMix 1 none (d + 1) 0 [some (hb_r 11 g0 0)] [] w Q := by
  refine hb_aload_n (pc := 0) (i := 0) dX6_putPlainMix_0 rfl rfl ?_
  refine hb_aload_n (pc := 1) (i := 0) dX6_putPlainMix_1 rfl rfl ?_
  refine hb_getR (pc := 2) (g1 := g0 + 1) dX6_putPlainMix_2 fw_X6_33 cw_6 rfl hg0 rfl (by decide) rfl ?_
  refine hb_getIx (pc := 5) (x := hb_fI w 2 1 (g0 + 1)) dX6_putPlainMix_5 fw_X6_53 cw_1 rfl (Nat.succ_lt_succ hg0) rfl rfl ?_
  refine hb_putI (pc := 8) dX6_putPlainMix_8 fw_X6_60 cw_6 pw_6_13 rfl hg0 rfl rfl rfl ?_
  refine hb_aload_n (pc := 11) (i := 0) dX6_putPlainMix_11 rfl rfl ?_
  refine hb_getR (pc := 12) (g1 := g0 + 1) dX6_putPlainMix_12 fw_X6_33 cw_6 rfl hg0 rfl (by decide) rfl ?_
  refine hb_iconst (pc := 15) (v := -1) dX6_putPlainMix_15 (by decide) ?_
  exact hb_callV (pc := 16) (As := [hb_i (-1 : Int32)]) (st := []) dX6_putPlainMix_16 ml_X6_66 mf_X1_put mi_X1_put (ci := 1) rfl rfl (Nat.succ_lt_succ hg0) rfl rfl (Nat.le_of_ble_eq_true rfl) (Nat.le_of_ble_eq_true rfl) h (fun _ _ q => q)
set_option maxRecDepth 20000 in
theorem bk_X6_putPlainMix_19 {d : Nat} {w : hb_W} {Q : Option hb_V → hb_W → Prop} {g0 : Nat} (hg0 : g0 < hb_ct 11) (h : hb_O yX1_put cX1_put 2 none d [hb_r 2 (g0 + 1) 0, hb_i (619 : Int32)] w (fun rv w1 => hb_R yX6_putPlainMix cX6_putPlainMix 1 none (d + 1) 29 [some (hb_r 11 g0 0)] (rv.toList ++ []) w1 Q)) : hb_R yX6_putPlainMix cX6_putPlainMix 1 none (d + 1) 19 [some (hb_r 11 g0 0)] [] w Q := by
  refine hb_aload_n (pc := 19) (i := 0) dX6_putPlainMix_19 rfl rfl ?_
  refine hb_getR (pc := 20) (g1 := g0 + 1) dX6_putPlainMix_20 fw_X6_33 cw_6 rfl hg0 rfl (by decide) rfl ?_
  refine hb_sipush (pc := 23) (v := 619) dX6_putPlainMix_23 (by decide) ?_
  exact hb_callV (pc := 26) (As := [hb_i (619 : Int32)]) (st := []) dX6_putPlainMix_26 ml_X6_66 mf_X1_put mi_X1_put (ci := 1) rfl rfl (Nat.succ_lt_succ hg0) rfl rfl (Nat.le_of_ble_eq_true rfl) (Nat.le_of_ble_eq_true rfl) h (fun _ _ q => q)
set_option maxRecDepth 20000 in
theorem bk_X6_putPlainMix_29 {d : Nat} {w : hb_W} {Q : Option hb_V → hb_W → Prop} {g0 : Nat} (hg0 : g0 < hb_ct 11) (h : hb_O yX1_put cX1_put 2 none d [hb_r 2 (g0 + 1) 0, hb_i (-23 : Int32)] w (fun rv w1 => hb_R yX6_putPlainMix cX6_putPlainMix 1 none (d + 1) 38 [some (hb_r 11 g0 0)] (rv.toList ++ []) w1 Q)) : hb_R yX6_putPlainMix cX6_putPlainMix 1 none (d + 1) 29 [some (hb_r 11 g0 0)] [] w Q := by
  refine hb_aload_n (pc := 29) (i := 0) dX6_putPlainMix_29 rfl rfl ?_
  refine hb_getR (pc := 30) (g1 := g0 + 1) dX6_putPlainMix_30 fw_X6_33 cw_6 rfl hg0 rfl (by decide) rfl ?_
  refine hb_bipush (pc := 33) (v := -23) dX6_putPlainMix_33 (by decide) ?_
  exact hb_callV (pc := 35) (As := [hb_i (-23 : Int32)]) (st := []) dX6_putPlainMix_35 ml_X6_66 mf_X1_put mi_X1_put (ci := 1) rfl rfl (Nat.succ_lt_succ hg0) rfl rfl (Nat.le_of_ble_eq_true rfl) (Nat.le_of_ble_eq_true rfl) h (fun _ _ q => q)
set_option maxRecDepth 20000 in
theorem bk_X6_putPlainMix_38 {d : Nat} {w : hb_W} {Q : Option hb_V → hb_W → Prop} {g0 : Nat} (hg0 : g0 < hb_ct 11) (h : hb_O yX1_put cX1_put 2 none d [hb_r 2 (g0 + 1) 0, hb_i (-3 : Int32)] w (fun rv w1 => hb_R yX6_putPlainMix cX6_putPlainMix 1 none (d + 1) 47 [some (hb_r 11 g0 0)] (rv.toList ++ []) w1 Q)) : hb_R yX6_putPlainMix cX6_putPlainMix 1 none (d + 1) 38 [some (hb_r 11 g0 0)] [] w Q := by
  refine hb_aload_n (pc := 38) (i := 0) dX6_putPlainMix_38 rfl rfl ?_
  refine hb_getR (pc := 39) (g1 := g0 + 1) dX6_putPlainMix_39 fw_X6_33 cw_6 rfl hg0 rfl (by decide) rfl ?_
  refine hb_bipush (pc := 42) (v := -3) dX6_putPlainMix_42 (by decide) ?_
  exact hb_callV (pc := 44) (As := [hb_i (-3 : Int32)]) (st := []) dX6_putPlainMix_44 ml_X6_66 mf_X1_put mi_X1_put (ci := 1) rfl rfl (Nat.succ_lt_succ hg0) rfl rfl (Nat.le_of_ble_eq_true rfl) (Nat.le_of_ble_eq_true rfl) h (fun _ _ q => q)
set_option maxRecDepth 20000 in
theorem bk_X6_putPlainMix_47 {d : Nat} {w : hb_W} {Q : Option hb_V → hb_W → Prop} {g0 : Nat} (hg0 : g0 < hb_ct 11) (h : hb_O yX1_put cX1_put 2 none d [hb_r 2 (g0 + 1) 0, hb_i (211 : Int32)] w (fun rv w1 => hb_R yX6_putPlainMix cX6_putPlainMix 1 none (d + 1) 57 [some (hb_r 11 g0 0)] (rv.toList ++ []) w1 Q)) : hb_R yX6_putPlainMix cX6_putPlainMix 1 none (d + 1) 47 [some (hb_r 11 g0 0)] [] w Q := by
  refine hb_aload_n (pc := 47) (i := 0) dX6_putPlainMix_47 rfl rfl ?_
  refine hb_getR (pc := 48) (g1 := g0 + 1) dX6_putPlainMix_48 fw_X6_33 cw_6 rfl hg0 rfl (by decide) rfl ?_
  refine hb_sipush (pc := 51) (v := 211) dX6_putPlainMix_51 (by decide) ?_
  exact hb_callV (pc := 54) (As := [hb_i (211 : Int32)]) (st := []) dX6_putPlainMix_54 ml_X6_66 mf_X1_put mi_X1_put (ci := 1) rfl rfl (Nat.succ_lt_succ hg0) rfl rfl (Nat.le_of_ble_eq_true rfl) (Nat.le_of_ble_eq_true rfl) h (fun _ _ q => q)
set_option maxRecDepth 20000 in
theorem bk_X6_putPlainMix_57 {d : Nat} {w : hb_W} {Q : Option hb_V → hb_W → Prop} {g0 : Nat} (hg0 : g0 < hb_ct 11) (h : hb_O yX1_put cX1_put 2 none d [hb_r 2 (g0 + 1) 0, hb_i (-23 : Int32)] w (fun rv w1 => hb_R yX6_putPlainMix cX6_putPlainMix 1 none (d + 1) 66 [some (hb_r 11 g0 0)] (rv.toList ++ []) w1 Q)) : hb_R yX6_putPlainMix cX6_putPlainMix 1 none (d + 1) 57 [some (hb_r 11 g0 0)] [] w Q := by
  refine hb_aload_n (pc := 57) (i := 0) dX6_putPlainMix_57 rfl rfl ?_
  refine hb_getR (pc := 58) (g1 := g0 + 1) dX6_putPlainMix_58 fw_X6_33 cw_6 rfl hg0 rfl (by decide) rfl ?_
  refine hb_bipush (pc := 61) (v := -23) dX6_putPlainMix_61 (by decide) ?_
  exact hb_callV (pc := 63) (As := [hb_i (-23 : Int32)]) (st := []) dX6_putPlainMix_63 ml_X6_66 mf_X1_put mi_X1_put (ci := 1) rfl rfl (Nat.succ_lt_succ hg0) rfl rfl (Nat.le_of_ble_eq_true rfl) (Nat.le_of_ble_eq_true rfl) h (fun _ _ q => q)
set_option maxRecDepth 20000 in
theorem bk_X6_putPlainMix_66 {d : Nat} {w : hb_W} {Q : Option hb_V → hb_W → Prop} {g0 : Nat} (hg0 : g0 < hb_ct 11) (h : hb_O yX1_put cX1_put 2 none d [hb_r 2 (g0 + 1) 0, hb_i (-21 : Int32)] w (fun rv w1 => hb_R yX6_putPlainMix cX6_putPlainMix 1 none (d + 1) 75 [some (hb_r 11 g0 0)] (rv.toList ++ []) w1 Q)) : hb_R yX6_putPlainMix cX6_putPlainMix 1 none (d + 1) 66 [some (hb_r 11 g0 0)] [] w Q := by
  refine hb_aload_n (pc := 66) (i := 0) dX6_putPlainMix_66 rfl rfl ?_
  refine hb_getR (pc := 67) (g1 := g0 + 1) dX6_putPlainMix_67 fw_X6_33 cw_6 rfl hg0 rfl (by decide) rfl ?_
  refine hb_bipush (pc := 70) (v := -21) dX6_putPlainMix_70 (by decide) ?_
  exact hb_callV (pc := 72) (As := [hb_i (-21 : Int32)]) (st := []) dX6_putPlainMix_72 ml_X6_66 mf_X1_put mi_X1_put (ci := 1) rfl rfl (Nat.succ_lt_succ hg0) rfl rfl (Nat.le_of_ble_eq_true rfl) (Nat.le_of_ble_eq_true rfl) h (fun _ _ q => q)
set_option maxRecDepth 20000 in
theorem bk_X6_putPlainMix_75 {d : Nat} {w : hb_W} {Q : Option hb_V → hb_W → Prop} {g0 : Nat} (hg0 : g0 < hb_ct 11) (h : hb_O yX1_put cX1_put 2 none d [hb_r 2 (g0 + 1) 0, hb_i (-4 : Int32)] w (fun rv w1 => hb_R yX6_putPlainMix cX6_putPlainMix 1 none (d + 1) 84 [some (hb_r 11 g0 0)] (rv.toList ++ []) w1 Q)) : hb_R yX6_putPlainMix cX6_putPlainMix 1 none (d + 1) 75 [some (hb_r 11 g0 0)] [] w Q := by
  refine hb_aload_n (pc := 75) (i := 0) dX6_putPlainMix_75 rfl rfl ?_
  refine hb_getR (pc := 76) (g1 := g0 + 1) dX6_putPlainMix_76 fw_X6_33 cw_6 rfl hg0 rfl (by decide) rfl ?_
  refine hb_bipush (pc := 79) (v := -4) dX6_putPlainMix_79 (by decide) ?_
  exact hb_callV (pc := 81) (As := [hb_i (-4 : Int32)]) (st := []) dX6_putPlainMix_81 ml_X6_66 mf_X1_put mi_X1_put (ci := 1) rfl rfl (Nat.succ_lt_succ hg0) rfl rfl (Nat.le_of_ble_eq_true rfl) (Nat.le_of_ble_eq_true rfl) h (fun _ _ q => q)
set_option maxRecDepth 20000 in
theorem bk_X6_putPlainMix_84 {d : Nat} {w : hb_W} {Q : Option hb_V → hb_W → Prop} {g0 : Nat} (hg0 : g0 < hb_ct 11) (h : hb_O yX1_put cX1_put 2 none d [hb_r 2 (g0 + 1) 0, hb_i (97 : Int32)] w (fun rv w1 => hb_R yX6_putPlainMix cX6_putPlainMix 1 none (d + 1) 93 [some (hb_r 11 g0 0)] (rv.toList ++ []) w1 Q)) : hb_R yX6_putPlainMix cX6_putPlainMix 1 none (d + 1) 84 [some (hb_r 11 g0 0)] [] w Q := by
  refine hb_aload_n (pc := 84) (i := 0) dX6_putPlainMix_84 rfl rfl ?_
  refine hb_getR (pc := 85) (g1 := g0 + 1) dX6_putPlainMix_85 fw_X6_33 cw_6 rfl hg0 rfl (by decide) rfl ?_
  refine hb_bipush (pc := 88) (v := 97) dX6_putPlainMix_88 (by decide) ?_
  exact hb_callV (pc := 90) (As := [hb_i (97 : Int32)]) (st := []) dX6_putPlainMix_90 ml_X6_66 mf_X1_put mi_X1_put (ci := 1) rfl rfl (Nat.succ_lt_succ hg0) rfl rfl (Nat.le_of_ble_eq_true rfl) (Nat.le_of_ble_eq_true rfl) h (fun _ _ q => q)
set_option maxRecDepth 20000 in
theorem bk_X6_putPlainMix_93 {d : Nat} {w : hb_W} {Q : Option hb_V → hb_W → Prop} {g0 : Nat} (hg0 : g0 < hb_ct 11) (h : hb_O yX1_put cX1_put 2 none d [hb_r 2 (g0 + 1) 0, hb_i (-23 : Int32)] w (fun rv w1 => hb_R yX6_putPlainMix cX6_putPlainMix 1 none (d + 1) 102 [some (hb_r 11 g0 0)] (rv.toList ++ []) w1 Q)) : hb_R yX6_putPlainMix cX6_putPlainMix 1 none (d + 1) 93 [some (hb_r 11 g0 0)] [] w Q := by
  refine hb_aload_n (pc := 93) (i := 0) dX6_putPlainMix_93 rfl rfl ?_
  refine hb_getR (pc := 94) (g1 := g0 + 1) dX6_putPlainMix_94 fw_X6_33 cw_6 rfl hg0 rfl (by decide) rfl ?_
  refine hb_bipush (pc := 97) (v := -23) dX6_putPlainMix_97 (by decide) ?_
  exact hb_callV (pc := 99) (As := [hb_i (-23 : Int32)]) (st := []) dX6_putPlainMix_99 ml_X6_66 mf_X1_put mi_X1_put (ci := 1) rfl rfl (Nat.succ_lt_succ hg0) rfl rfl (Nat.le_of_ble_eq_true rfl) (Nat.le_of_ble_eq_true rfl) h (fun _ _ q => q)
set_option maxRecDepth 20000 in
theorem bk_X6_putPlainMix_102 {d : Nat} {w : hb_W} {Q : Option hb_V → hb_W → Prop} {g0 : Nat} (hg0 : g0 < hb_ct 11) (h : hb_O yX1_put cX1_put 2 none d [hb_r 2 (g0 + 1) 0, hb_i (-21 : Int32)] w (fun rv w1 => hb_R yX6_putPlainMix cX6_putPlainMix 1 none (d + 1) 111 [some (hb_r 11 g0 0)] (rv.toList ++ []) w1 Q)) : hb_R yX6_putPlainMix cX6_putPlainMix 1 none (d + 1) 102 [some (hb_r 11 g0 0)] [] w Q := by
  refine hb_aload_n (pc := 102) (i := 0) dX6_putPlainMix_102 rfl rfl ?_
  refine hb_getR (pc := 103) (g1 := g0 + 1) dX6_putPlainMix_103 fw_X6_33 cw_6 rfl hg0 rfl (by decide) rfl ?_
  refine hb_bipush (pc := 106) (v := -21) dX6_putPlainMix_106 (by decide) ?_
  exact hb_callV (pc := 108) (As := [hb_i (-21 : Int32)]) (st := []) dX6_putPlainMix_108 ml_X6_66 mf_X1_put mi_X1_put (ci := 1) rfl rfl (Nat.succ_lt_succ hg0) rfl rfl (Nat.le_of_ble_eq_true rfl) (Nat.le_of_ble_eq_true rfl) h (fun _ _ q => q)
set_option maxRecDepth 20000 in
theorem bk_X6_putPlainMix_111 {d : Nat} {w : hb_W} {Q : Option hb_V → hb_W → Prop} {g0 : Nat} (hg0 : g0 < hb_ct 11) (h : Q none (hb_pI w 11 14 g0 (hb_fI w 2 1 (g0 + 1)))) : hb_R yX6_putPlainMix cX6_putPlainMix 1 none (d + 1) 111 [some (hb_r 11 g0 0)] [] w Q := by
  refine hb_aload_n (pc := 111) (i := 0) dX6_putPlainMix_111 rfl rfl ?_
  refine hb_aload_n (pc := 112) (i := 0) dX6_putPlainMix_112 rfl rfl ?_
  refine hb_getR (pc := 113) (g1 := g0 + 1) dX6_putPlainMix_113 fw_X6_33 cw_6 rfl hg0 rfl (by decide) rfl ?_
  refine hb_getIx (pc := 116) (x := hb_fI w 2 1 (g0 + 1)) dX6_putPlainMix_116 fw_X6_53 cw_1 rfl (Nat.succ_lt_succ hg0) rfl rfl ?_
  refine hb_putI (pc := 119) dX6_putPlainMix_119 fw_X6_63 cw_6 pw_6_14 rfl hg0 rfl rfl rfl ?_
  exact hb_vret (pc := 122) dX6_putPlainMix_122 rfl h
theorem dX6_passesToCome_0 : decode cX6_passesToCome 0 = .ok (.iconst 0, 1) := by decide +kernel
theorem dX6_passesToCome_1 : decode cX6_passesToCome 1 = .ok (.istore_n 1, 1) := by decide +kernel
theorem dX6_passesToCome_2 : decode cX6_passesToCome 2 = .ok (.iconst 0, 1) := by decide +kernel
theorem dX6_passesToCome_3 : decode cX6_passesToCome 3 = .ok (.istore_n 2, 1) := by decide +kernel
theorem dX6_passesToCome_4 : decode cX6_passesToCome 4 = .ok (.iload_n 2, 1) := by decide +kernel
theorem dX6_passesToCome_5 : decode cX6_passesToCome 5 = .ok (.aload_n 0, 1) := by decide +kernel
theorem dX6_passesToCome_6 : decode cX6_passesToCome 6 = .ok (.getfield 50, 3) := by decide +kernel
theorem dX6_passesToCome_9 : decode cX6_passesToCome 9 = .ok (.if_icmp .ge 18, 3) := by decide +kernel
theorem dX6_passesToCome_12 : decode cX6_passesToCome 12 = .ok (.iload_n 1, 1) := by decide +kernel
theorem dX6_passesToCome_13 : decode cX6_passesToCome 13 = .ok (.aload_n 0, 1) := by decide +kernel
theorem dX6_passesToCome_14 : decode cX6_passesToCome 14 = .ok (.getfield 9, 3) := by decide +kernel
theorem dX6_passesToCome_17 : decode cX6_passesToCome 17 = .ok (.iload_n 2, 1) := by decide +kernel
theorem dX6_passesToCome_18 : decode cX6_passesToCome 18 = .ok (.iaload, 1) := by decide +kernel
theorem dX6_passesToCome_19 : decode cX6_passesToCome 19 = .ok (.iadd, 1) := by decide +kernel
theorem dX6_passesToCome_20 : decode cX6_passesToCome 20 = .ok (.istore_n 1, 1) := by decide +kernel
theorem dX6_passesToCome_21 : decode cX6_passesToCome 21 = .ok (.iinc 2 1, 3) := by decide +kernel
theorem dX6_passesToCome_24 : decode cX6_passesToCome 24 = .ok (.goto (-20), 3) := by decide +kernel
theorem dX6_passesToCome_27 : decode cX6_passesToCome 27 = .ok (.iload_n 1, 1) := by decide +kernel
theorem dX6_passesToCome_28 : decode cX6_passesToCome 28 = .ok (.ireturn, 1) := by decide +kernel
set_option maxRecDepth 20000 in
theorem bk_X6_passesToCome_0 {d : Nat} {w : hb_W} {Q : Option hb_V → hb_W → Prop} {g0 : Nat} (hg0 : g0 < hb_ct 11) (h : hb_R yX6_passesToCome cX6_passesToCome 3 (some .int) d 4 [some (hb_r 11 g0 0), some (hb_i (0 : Int32)), some (hb_i (0 : Int32))] [] w Q) : hb_R yX6_passesToCome cX6_passesToCome 3 (some .int) d 0 [some (hb_r 11 g0 0), none, none] [] w Q := by
  refine hb_iconst (pc := 0) (v := 0) dX6_passesToCome_0 (by decide) ?_
  refine hb_istore_n (pc := 1) (i := 1) (ls1 := [some (hb_r 11 g0 0), some (hb_i (0 : Int32)), none]) dX6_passesToCome_1 rfl (by decide) rfl ?_
  refine hb_iconst (pc := 2) (v := 0) dX6_passesToCome_2 (by decide) ?_
  refine hb_istore_n (pc := 3) (i := 2) (ls1 := [some (hb_r 11 g0 0), some (hb_i (0 : Int32)), some (hb_i (0 : Int32))]) dX6_passesToCome_3 rfl (by decide) rfl ?_
  exact h
set_option maxRecDepth 20000 in
theorem bk_X6_passesToCome_4 {d : Nat} {w : hb_W} {Q : Option hb_V → hb_W → Prop} {g0 : Nat} {x1 : Int32} {x2 : Int32} (hg0 : g0 < hb_ct 11) (h : (((hb_fI w 11 4 g0) ≤ x2) → Q (some (hb_i x1)) w) ∧ ((¬ (hb_fI w 11 4 g0) ≤ x2) → vp_in x2 20 ∧ (hb_R yX6_passesToCome cX6_passesToCome 3 (some .int) d 4 [some (hb_r 11 g0 0), some (hb_i (x1 + (hb_aI w 11 1 g0 x2.toNatClampNeg))), some (hb_i (x2 + (1 : Int32)))] [] w Q))) : hb_R yX6_passesToCome cX6_passesToCome 3 (some .int) d 4 [some (hb_r 11 g0 0), some (hb_i x1), some (hb_i x2)] [] w Q := by
  refine hb_iload_n (pc := 4) (i := 2) dX6_passesToCome_4 rfl rfl ?_
  refine hb_aload_n (pc := 5) (i := 0) dX6_passesToCome_5 rfl rfl ?_
  refine hb_getIx (pc := 6) (x := hb_fI w 11 4 g0) dX6_passesToCome_6 fw_X6_50 cw_6 rfl hg0 rfl rfl ?_
  refine hb_icmp_ge (pc := 9) (tgt := 27) dX6_passesToCome_9 (by decide) (fun c1 => ?_) (fun c1 => ?_)
  · have ht1 := h.1 c1
    refine hb_iload_n (pc := 27) (i := 1) dX6_passesToCome_27 rfl rfl ?_
    exact hb_iret (pc := 28) dX6_passesToCome_28 rfl ht1
  · have ht1 := h.2 c1
    refine hb_iload_n (pc := 12) (i := 1) dX6_passesToCome_12 rfl rfl ?_
    refine hb_aload_n (pc := 13) (i := 0) dX6_passesToCome_13 rfl rfl ?_
    refine hb_getR (pc := 14) (g1 := g0) dX6_passesToCome_14 fw_X6_9 cw_6 rfl hg0 rfl (by decide) rfl ?_
    refine hb_iload_n (pc := 17) (i := 2) dX6_passesToCome_17 rfl rfl ?_
    obtain ⟨ho2, hr2⟩ := ht1
    refine hb_ialdx (pc := 18) (x := hb_aI w 11 1 g0 x2.toNatClampNeg) dX6_passesToCome_18 rfl hg0 ho2 rfl ?_
    refine hb_iadd (pc := 19) dX6_passesToCome_19 ?_
    refine hb_istore_n (pc := 20) (i := 1) (ls1 := [some (hb_r 11 g0 0), some (hb_i (x1 + (hb_aI w 11 1 g0 x2.toNatClampNeg))), some (hb_i x2)]) dX6_passesToCome_20 rfl (by decide) rfl ?_
    refine hb_iinc (pc := 21) (v := x2 + (1 : Int32)) (ls1 := [some (hb_r 11 g0 0), some (hb_i (x1 + (hb_aI w 11 1 g0 x2.toNatClampNeg))), some (hb_i (x2 + (1 : Int32)))]) dX6_passesToCome_21 rfl rfl (by decide) rfl ?_
    refine hb_goto (pc := 24) (tgt := 4) dX6_passesToCome_24 (by decide) ?_
    exact hr2
theorem dX8_restart_0 : decode cX8_restart 0 = .ok (.aload_n 0, 1) := by decide +kernel
theorem dX8_restart_1 : decode cX8_restart 1 = .ok (.iconst 0, 1) := by decide +kernel
theorem dX8_restart_2 : decode cX8_restart 2 = .ok (.putfield 43, 3) := by decide +kernel
theorem dX8_restart_5 : decode cX8_restart 5 = .ok (.aload_n 0, 1) := by decide +kernel
theorem dX8_restart_6 : decode cX8_restart 6 = .ok (.iload_n 1, 1) := by decide +kernel
theorem dX8_restart_7 : decode cX8_restart 7 = .ok (.putfield 46, 3) := by decide +kernel
theorem dX8_restart_10 : decode cX8_restart 10 = .ok (.aload_n 0, 1) := by decide +kernel
theorem dX8_restart_11 : decode cX8_restart 11 = .ok (.iconst 0, 1) := by decide +kernel
theorem dX8_restart_12 : decode cX8_restart 12 = .ok (.putfield 49, 3) := by decide +kernel
theorem dX8_restart_15 : decode cX8_restart 15 = .ok (.aload_n 0, 1) := by decide +kernel
theorem dX8_restart_16 : decode cX8_restart 16 = .ok (.getfield 21, 3) := by decide +kernel
theorem dX8_restart_19 : decode cX8_restart 19 = .ok (.iconst (-1), 1) := by decide +kernel
theorem dX8_restart_20 : decode cX8_restart 20 = .ok (.invokestatic 24, 3) := by decide +kernel
theorem dX8_restart_23 : decode cX8_restart 23 = .ok (.return_, 1) := by decide +kernel
set_option maxRecDepth 20000 in
theorem bk_X8_restart_0 {d : Nat} {w : hb_W} {Q : Option hb_V → hb_W → Prop} {x1 : Int32} (h : hb_O yJ7_fill_53178 cJ7_fill_53178 4 none d [hb_r 7 0 4, hb_i (-1 : Int32)] (hb_pI (hb_pI (hb_pI w 7 3 0 (0 : Int32)) 7 4 0 x1) 7 7 0 (0 : Int32)) (fun rv w1 => hb_R yX8_restart cX8_restart 2 none (d + 1) 23 [some (hb_r 7 0 0), some (hb_i x1)] (rv.toList ++ []) w1 Q)) : hb_R yX8_restart cX8_restart 2 none (d + 1) 0 [some (hb_r 7 0 0), some (hb_i x1)] [] w Q := by
  refine hb_aload_n (pc := 0) (i := 0) dX8_restart_0 rfl rfl ?_
  refine hb_iconst (pc := 1) (v := 0) dX8_restart_1 (by decide) ?_
  refine hb_putI (pc := 2) dX8_restart_2 fw_X8_43 cw_8 pw_8_3 rfl (by decide) rfl rfl rfl ?_
  refine hb_aload_n (pc := 5) (i := 0) dX8_restart_5 rfl rfl ?_
  refine hb_iload_n (pc := 6) (i := 1) dX8_restart_6 rfl rfl ?_
  refine hb_putI (pc := 7) dX8_restart_7 fw_X8_46 cw_8 pw_8_4 rfl (by decide) rfl rfl rfl ?_
  refine hb_aload_n (pc := 10) (i := 0) dX8_restart_10 rfl rfl ?_
  refine hb_iconst (pc := 11) (v := 0) dX8_restart_11 (by decide) ?_
  refine hb_putI (pc := 12) dX8_restart_12 fw_X8_49 cw_8 pw_8_7 rfl (by decide) rfl rfl rfl ?_
  refine hb_aload_n (pc := 15) (i := 0) dX8_restart_15 rfl rfl ?_
  refine hb_getR (pc := 16) (g1 := 0) dX8_restart_16 fw_X8_21 cw_8 rfl (by decide) rfl (by decide) rfl ?_
  refine hb_iconst (pc := 19) (v := -1) dX8_restart_19 (by decide) ?_
  exact hb_callS (pc := 20) (As := [hb_r 7 0 4, hb_i (-1 : Int32)]) (st := []) dX8_restart_20 ml_X8_24 mf_J7_fill_53178 ms_J7_fill_53178 rfl rfl (Nat.le_of_ble_eq_true rfl) (Nat.le_of_ble_eq_true rfl) h (fun _ _ q => q)
set_option maxRecDepth 20000 in
theorem bk_X8_restart_23 {d : Nat} {w : hb_W} {Q : Option hb_V → hb_W → Prop} {x1 : Int32} (h : Q none w) : hb_R yX8_restart cX8_restart 2 none (d + 1) 23 [some (hb_r 7 0 0), some (hb_i x1)] [] w Q := by
  exact hb_vret (pc := 23) dX8_restart_23 rfl h
theorem dX8_admit_0 : decode cX8_admit 0 = .ok (.aload_n 0, 1) := by decide +kernel
theorem dX8_admit_1 : decode cX8_admit 1 = .ok (.getfield 43, 3) := by decide +kernel
theorem dX8_admit_4 : decode cX8_admit 4 = .ok (.sipush 400, 3) := by decide +kernel
theorem dX8_admit_7 : decode cX8_admit 7 = .ok (.if_icmp .lt 4, 3) := by decide +kernel
theorem dX8_admit_10 : decode cX8_admit 10 = .ok (.return_, 1) := by decide +kernel
theorem dX8_admit_11 : decode cX8_admit 11 = .ok (.aload_n 0, 1) := by decide +kernel
theorem dX8_admit_12 : decode cX8_admit 12 = .ok (.getfield 9, 3) := by decide +kernel
theorem dX8_admit_15 : decode cX8_admit 15 = .ok (.aload_n 0, 1) := by decide +kernel
theorem dX8_admit_16 : decode cX8_admit 16 = .ok (.getfield 43, 3) := by decide +kernel
theorem dX8_admit_19 : decode cX8_admit 19 = .ok (.iload_n 1, 1) := by decide +kernel
theorem dX8_admit_20 : decode cX8_admit 20 = .ok (.iastore, 1) := by decide +kernel
theorem dX8_admit_21 : decode cX8_admit 21 = .ok (.aload_n 0, 1) := by decide +kernel
theorem dX8_admit_22 : decode cX8_admit 22 = .ok (.getfield 15, 3) := by decide +kernel
theorem dX8_admit_25 : decode cX8_admit 25 = .ok (.aload_n 0, 1) := by decide +kernel
theorem dX8_admit_26 : decode cX8_admit 26 = .ok (.getfield 43, 3) := by decide +kernel
theorem dX8_admit_29 : decode cX8_admit 29 = .ok (.iload_n 2, 1) := by decide +kernel
theorem dX8_admit_30 : decode cX8_admit 30 = .ok (.iastore, 1) := by decide +kernel
theorem dX8_admit_31 : decode cX8_admit 31 = .ok (.aload_n 0, 1) := by decide +kernel
theorem dX8_admit_32 : decode cX8_admit 32 = .ok (.getfield 18, 3) := by decide +kernel
theorem dX8_admit_35 : decode cX8_admit 35 = .ok (.aload_n 0, 1) := by decide +kernel
theorem dX8_admit_36 : decode cX8_admit 36 = .ok (.getfield 43, 3) := by decide +kernel
theorem dX8_admit_39 : decode cX8_admit 39 = .ok (.iload_n 3, 1) := by decide +kernel
theorem dX8_admit_40 : decode cX8_admit 40 = .ok (.iastore, 1) := by decide +kernel
theorem dX8_admit_41 : decode cX8_admit 41 = .ok (.aload_n 0, 1) := by decide +kernel
theorem dX8_admit_42 : decode cX8_admit 42 = .ok (.dup, 1) := by decide +kernel
theorem dX8_admit_43 : decode cX8_admit 43 = .ok (.getfield 43, 3) := by decide +kernel
theorem dX8_admit_46 : decode cX8_admit 46 = .ok (.iconst 1, 1) := by decide +kernel
theorem dX8_admit_47 : decode cX8_admit 47 = .ok (.iadd, 1) := by decide +kernel
theorem dX8_admit_48 : decode cX8_admit 48 = .ok (.putfield 43, 3) := by decide +kernel
theorem dX8_admit_51 : decode cX8_admit 51 = .ok (.iconst 0, 1) := by decide +kernel
theorem dX8_admit_52 : decode cX8_admit 52 = .ok (.istore 5, 2) := by decide +kernel
theorem dX8_admit_54 : decode cX8_admit 54 = .ok (.iload 5, 2) := by decide +kernel
theorem dX8_admit_56 : decode cX8_admit 56 = .ok (.iload 4, 2) := by decide +kernel
theorem dX8_admit_58 : decode cX8_admit 58 = .ok (.if_icmp .ge 35, 3) := by decide +kernel
theorem dX8_admit_61 : decode cX8_admit 61 = .ok (.iload 5, 2) := by decide +kernel
theorem dX8_admit_63 : decode cX8_admit 63 = .ok (.bipush 9, 2) := by decide +kernel
theorem dX8_admit_65 : decode cX8_admit 65 = .ok (.if_icmp .ge 28, 3) := by decide +kernel
theorem dX8_admit_68 : decode cX8_admit 68 = .ok (.aload_n 0, 1) := by decide +kernel
theorem dX8_admit_69 : decode cX8_admit 69 = .ok (.aload_n 0, 1) := by decide +kernel
theorem dX8_admit_70 : decode cX8_admit 70 = .ok (.getfield 43, 3) := by decide +kernel
theorem dX8_admit_73 : decode cX8_admit 73 = .ok (.invokevirtual 52, 3) := by decide +kernel
theorem dX8_admit_76 : decode cX8_admit 76 = .ok (.ifCond .ne 11, 3) := by decide +kernel
theorem dX8_admit_79 : decode cX8_admit 79 = .ok (.aload_n 0, 1) := by decide +kernel
theorem dX8_admit_80 : decode cX8_admit 80 = .ok (.getfield 21, 3) := by decide +kernel
theorem dX8_admit_83 : decode cX8_admit 83 = .ok (.iload 5, 2) := by decide +kernel
theorem dX8_admit_85 : decode cX8_admit 85 = .ok (.iload_n 1, 1) := by decide +kernel
theorem dX8_admit_86 : decode cX8_admit 86 = .ok (.iastore, 1) := by decide +kernel
theorem dX8_admit_87 : decode cX8_admit 87 = .ok (.iinc 5 1, 3) := by decide +kernel
theorem dX8_admit_90 : decode cX8_admit 90 = .ok (.goto (-36), 3) := by decide +kernel
theorem dX8_admit_93 : decode cX8_admit 93 = .ok (.return_, 1) := by decide +kernel
set_option maxRecDepth 20000 in
theorem bk_X8_admit_0 {d : Nat} {w : hb_W} {Q : Option hb_V → hb_W → Prop} {x1 : Int32} {x2 : Int32} {x3 : Int32} {x4 : Int32} (h : (((hb_fI w 7 3 0) < (400 : Int32)) → vp_in (hb_fI w 7 3 0) 400 ∧ (vp_in (hb_fI w 7 3 0) 400 ∧ (vp_in (hb_fI w 7 3 0) 400 ∧ (hb_R yX8_admit cX8_admit 6 none (d + 1) 54 [some (hb_r 7 0 0), some (hb_i x1), some (hb_i x2), some (hb_i x3), some (hb_i x4), some (hb_i (0 : Int32))] [] (hb_pI (hb_sI (hb_sI (hb_sI w 7 1 0 (upd (hb_aI w 7 1 0) (hb_fI w 7 3 0).toNatClampNeg x1)) 7 2 0 (upd (hb_aI w 7 2 0) (hb_fI w 7 3 0).toNatClampNeg x2)) 7 3 0 (upd (hb_aI w 7 3 0) (hb_fI w 7 3 0).toNatClampNeg x3)) 7 3 0 ((hb_fI w 7 3 0) + (1 : Int32))) Q)))) ∧ ((¬ (hb_fI w 7 3 0) < (400 : Int32)) → Q none w)) : hb_R yX8_admit cX8_admit 6 none (d + 1) 0 [some (hb_r 7 0 0), some (hb_i x1), some (hb_i x2), some (hb_i x3), some (hb_i x4), none] [] w Q := by
  refine hb_aload_n (pc := 0) (i := 0) dX8_admit_0 rfl rfl ?_
  refine hb_getIx (pc := 1) (x := hb_fI w 7 3 0) dX8_admit_1 fw_X8_43 cw_8 rfl (by decide) rfl rfl ?_
  refine hb_sipush (pc := 4) (v := 400) dX8_admit_4 (by decide) ?_
  refine hb_icmp_lt (pc := 7) (tgt := 11) dX8_admit_7 (by decide) (fun c1 => ?_) (fun c1 => ?_)
  · have ht1 := h.1 c1
    refine hb_aload_n (pc := 11) (i := 0) dX8_admit_11 rfl rfl ?_
    refine hb_getR (pc := 12) (g1 := 0) dX8_admit_12 fw_X8_9 cw_8 rfl (by decide) rfl (by decide) rfl ?_
    refine hb_aload_n (pc := 15) (i := 0) dX8_admit_15 rfl rfl ?_
    refine hb_getIx (pc := 16) (x := hb_fI w 7 3 0) dX8_admit_16 fw_X8_43 cw_8 rfl (by decide) rfl rfl ?_
    refine hb_iload_n (pc := 19) (i := 1) dX8_admit_19 rfl rfl ?_
    obtain ⟨ho2, hr2⟩ := ht1
    refine hb_iastx (pc := 20) (f := upd (hb_aI w 7 1 0) (hb_fI w 7 3 0).toNatClampNeg x1) dX8_admit_20 rfl (by decide) ho2 rfl ?_
    refine hb_aload_n (pc := 21) (i := 0) dX8_admit_21 rfl rfl ?_
    refine hb_getR (pc := 22) (g1 := 0) dX8_admit_22 fw_X8_15 cw_8 rfl (by decide) rfl (by decide) rfl ?_
    refine hb_aload_n (pc := 25) (i := 0) dX8_admit_25 rfl rfl ?_
    refine hb_getIx (pc := 26) (x := hb_fI w 7 3 0) dX8_admit_26 fw_X8_43 cw_8 rfl (by decide) rfl rfl ?_
    refine hb_iload_n (pc := 29) (i := 2) dX8_admit_29 rfl rfl ?_
    obtain ⟨ho3, hr3⟩ := hr2
    refine hb_iastx (pc := 30) (f := upd (hb_aI w 7 2 0) (hb_fI w 7 3 0).toNatClampNeg x2) dX8_admit_30 rfl (by decide) ho3 rfl ?_
    refine hb_aload_n (pc := 31) (i := 0) dX8_admit_31 rfl rfl ?_
    refine hb_getR (pc := 32) (g1 := 0) dX8_admit_32 fw_X8_18 cw_8 rfl (by decide) rfl (by decide) rfl ?_
    refine hb_aload_n (pc := 35) (i := 0) dX8_admit_35 rfl rfl ?_
    refine hb_getIx (pc := 36) (x := hb_fI w 7 3 0) dX8_admit_36 fw_X8_43 cw_8 rfl (by decide) rfl rfl ?_
    refine hb_iload_n (pc := 39) (i := 3) dX8_admit_39 rfl rfl ?_
    obtain ⟨ho4, hr4⟩ := hr3
    refine hb_iastx (pc := 40) (f := upd (hb_aI w 7 3 0) (hb_fI w 7 3 0).toNatClampNeg x3) dX8_admit_40 rfl (by decide) ho4 rfl ?_
    refine hb_aload_n (pc := 41) (i := 0) dX8_admit_41 rfl rfl ?_
    refine hb_dupr (pc := 42) dX8_admit_42 ?_
    refine hb_getIx (pc := 43) (x := hb_fI w 7 3 0) dX8_admit_43 fw_X8_43 cw_8 rfl (by decide) rfl rfl ?_
    refine hb_iconst (pc := 46) (v := 1) dX8_admit_46 (by decide) ?_
    refine hb_iadd (pc := 47) dX8_admit_47 ?_
    refine hb_putI (pc := 48) dX8_admit_48 fw_X8_43 cw_8 pw_8_3 rfl (by decide) rfl rfl rfl ?_
    refine hb_iconst (pc := 51) (v := 0) dX8_admit_51 (by decide) ?_
    refine hb_istore (pc := 52) (i := 5) (ls1 := [some (hb_r 7 0 0), some (hb_i x1), some (hb_i x2), some (hb_i x3), some (hb_i x4), some (hb_i (0 : Int32))]) dX8_admit_52 (by decide) rfl ?_
    exact hr4
  · have ht1 := h.2 c1
    exact hb_vret (pc := 10) dX8_admit_10 rfl ht1
set_option maxRecDepth 20000 in
theorem bk_X8_admit_54 {d : Nat} {w : hb_W} {Q : Option hb_V → hb_W → Prop} {x1 : Int32} {x2 : Int32} {x3 : Int32} {x4 : Int32} {x5 : Int32} (h : ((x4 ≤ x5) → Q none w) ∧ ((¬ x4 ≤ x5) → (((9 : Int32) ≤ x5) → Q none w) ∧ ((¬ (9 : Int32) ≤ x5) → hb_O yX8_draw cX8_draw 2 (some .int) d [hb_r 7 0 0, hb_i (hb_fI w 7 3 0)] w (fun rv w1 => hb_R yX8_admit cX8_admit 6 none (d + 1) 76 [some (hb_r 7 0 0), some (hb_i x1), some (hb_i x2), some (hb_i x3), some (hb_i x4), some (hb_i x5)] (rv.toList ++ []) w1 Q)))) : hb_R yX8_admit cX8_admit 6 none (d + 1) 54 [some (hb_r 7 0 0), some (hb_i x1), some (hb_i x2), some (hb_i x3), some (hb_i x4), some (hb_i x5)] [] w Q := by
  refine hb_iload (pc := 54) dX8_admit_54 rfl ?_
  refine hb_iload (pc := 56) dX8_admit_56 rfl ?_
  refine hb_icmp_ge (pc := 58) (tgt := 93) dX8_admit_58 (by decide) (fun c1 => ?_) (fun c1 => ?_)
  · have ht1 := h.1 c1
    exact hb_vret (pc := 93) dX8_admit_93 rfl ht1
  · have ht1 := h.2 c1
    refine hb_iload (pc := 61) dX8_admit_61 rfl ?_
    refine hb_bipush (pc := 63) (v := 9) dX8_admit_63 (by decide) ?_
    refine hb_icmp_ge (pc := 65) (tgt := 93) dX8_admit_65 (by decide) (fun c2 => ?_) (fun c2 => ?_)
    · have ht2 := ht1.1 c2
      exact hb_vret (pc := 93) dX8_admit_93 rfl ht2
    · have ht2 := ht1.2 c2
      refine hb_aload_n (pc := 68) (i := 0) dX8_admit_68 rfl rfl ?_
      refine hb_aload_n (pc := 69) (i := 0) dX8_admit_69 rfl rfl ?_
      refine hb_getIx (pc := 70) (x := hb_fI w 7 3 0) dX8_admit_70 fw_X8_43 cw_8 rfl (by decide) rfl rfl ?_
      exact hb_callV (pc := 73) (As := [hb_i (hb_fI w 7 3 0)]) (st := []) dX8_admit_73 ml_X8_52 mf_X8_draw mi_X8_draw (ci := 8) rfl rfl (by decide) rfl rfl (Nat.le_of_ble_eq_true rfl) (Nat.le_of_ble_eq_true rfl) ht2 (fun _ _ q => q)
set_option maxRecDepth 20000 in
theorem bk_X8_admit_76 {d : Nat} {w : hb_W} {Q : Option hb_V → hb_W → Prop} {x1 : Int32} {x2 : Int32} {x3 : Int32} {x4 : Int32} {x5 : Int32} {xs0 : Int32} (h : ((¬ xs0 = 0) → hb_R yX8_admit cX8_admit 6 none (d + 1) 54 [some (hb_r 7 0 0), some (hb_i x1), some (hb_i x2), some (hb_i x3), some (hb_i x4), some (hb_i (x5 + (1 : Int32)))] [] w Q) ∧ ((xs0 = 0) → vp_in x5 9 ∧ (hb_R yX8_admit cX8_admit 6 none (d + 1) 54 [some (hb_r 7 0 0), some (hb_i x1), some (hb_i x2), some (hb_i x3), some (hb_i x4), some (hb_i (x5 + (1 : Int32)))] [] (hb_sI w 7 4 0 (upd (hb_aI w 7 4 0) x5.toNatClampNeg x1)) Q))) : hb_R yX8_admit cX8_admit 6 none (d + 1) 76 [some (hb_r 7 0 0), some (hb_i x1), some (hb_i x2), some (hb_i x3), some (hb_i x4), some (hb_i x5)] [hb_i xs0] w Q := by
  refine hb_if_ne (pc := 76) (tgt := 87) dX8_admit_76 (by decide) (fun c1 => ?_) (fun c1 => ?_)
  · have ht1 := h.1 c1
    refine hb_iinc (pc := 87) (v := x5 + (1 : Int32)) (ls1 := [some (hb_r 7 0 0), some (hb_i x1), some (hb_i x2), some (hb_i x3), some (hb_i x4), some (hb_i (x5 + (1 : Int32)))]) dX8_admit_87 rfl rfl (by decide) rfl ?_
    refine hb_goto (pc := 90) (tgt := 54) dX8_admit_90 (by decide) ?_
    exact ht1
  · have ht1 := h.2 c1
    refine hb_aload_n (pc := 79) (i := 0) dX8_admit_79 rfl rfl ?_
    refine hb_getR (pc := 80) (g1 := 0) dX8_admit_80 fw_X8_21 cw_8 rfl (by decide) rfl (by decide) rfl ?_
    refine hb_iload (pc := 83) dX8_admit_83 rfl ?_
    refine hb_iload_n (pc := 85) (i := 1) dX8_admit_85 rfl rfl ?_
    obtain ⟨ho2, hr2⟩ := ht1
    refine hb_iastx (pc := 86) (f := upd (hb_aI w 7 4 0) x5.toNatClampNeg x1) dX8_admit_86 rfl (by decide) ho2 rfl ?_
    refine hb_iinc (pc := 87) (v := x5 + (1 : Int32)) (ls1 := [some (hb_r 7 0 0), some (hb_i x1), some (hb_i x2), some (hb_i x3), some (hb_i x4), some (hb_i (x5 + (1 : Int32)))]) dX8_admit_87 rfl rfl (by decide) rfl ?_
    refine hb_goto (pc := 90) (tgt := 54) dX8_admit_90 (by decide) ?_
    exact hr2
theorem dX8_draw_0 : decode cX8_draw 0 = .ok (.aload_n 0, 1) := by decide +kernel
theorem dX8_draw_1 : decode cX8_draw 1 = .ok (.ldc2_w 56, 3) := by decide +kernel
theorem dX8_draw_4 : decode cX8_draw 4 = .ok (.aload_n 0, 1) := by decide +kernel
theorem dX8_draw_5 : decode cX8_draw 5 = .ok (.getfield 30, 3) := by decide +kernel
theorem dX8_draw_8 : decode cX8_draw 8 = .ok (.i2l, 1) := by decide +kernel
theorem dX8_draw_9 : decode cX8_draw 9 = .ok (.lmul, 1) := by decide +kernel
theorem dX8_draw_10 : decode cX8_draw 10 = .ok (.ldc2_w 58, 3) := by decide +kernel
theorem dX8_draw_13 : decode cX8_draw 13 = .ok (.ladd, 1) := by decide +kernel
theorem dX8_draw_14 : decode cX8_draw 14 = .ok (.ldc2_w 60, 3) := by decide +kernel
theorem dX8_draw_17 : decode cX8_draw 17 = .ok (.land, 1) := by decide +kernel
theorem dX8_draw_18 : decode cX8_draw 18 = .ok (.l2i, 1) := by decide +kernel
theorem dX8_draw_19 : decode cX8_draw 19 = .ok (.putfield 30, 3) := by decide +kernel
theorem dX8_draw_22 : decode cX8_draw 22 = .ok (.iload_n 1, 1) := by decide +kernel
theorem dX8_draw_23 : decode cX8_draw 23 = .ok (.ifCond .gt 7, 3) := by decide +kernel
theorem dX8_draw_26 : decode cX8_draw 26 = .ok (.iconst 0, 1) := by decide +kernel
theorem dX8_draw_27 : decode cX8_draw 27 = .ok (.goto 12, 3) := by decide +kernel
theorem dX8_draw_30 : decode cX8_draw 30 = .ok (.aload_n 0, 1) := by decide +kernel
theorem dX8_draw_31 : decode cX8_draw 31 = .ok (.getfield 30, 3) := by decide +kernel
theorem dX8_draw_34 : decode cX8_draw 34 = .ok (.bipush 64, 2) := by decide +kernel
theorem dX8_draw_36 : decode cX8_draw 36 = .ok (.idiv, 1) := by decide +kernel
theorem dX8_draw_37 : decode cX8_draw 37 = .ok (.iload_n 1, 1) := by decide +kernel
theorem dX8_draw_38 : decode cX8_draw 38 = .ok (.irem, 1) := by decide +kernel
theorem dX8_draw_39 : decode cX8_draw 39 = .ok (.ireturn, 1) := by decide +kernel
set_option maxRecDepth 20000 in
theorem bk_X8_draw_0 {d : Nat} {w : hb_W} {Q : Option hb_V → hb_W → Prop} {x1 : Int32} (h : ((0 < x1) → ¬ x1 = 0 ∧ (Q (some (hb_i (((((((1103515245 : Int64) * ((hb_fI w 7 6 0).toInt64)) + (12345 : Int64)) &&& (2147483647 : Int64)).toInt32) / (64 : Int32)) - ((((((1103515245 : Int64) * ((hb_fI w 7 6 0).toInt64)) + (12345 : Int64)) &&& (2147483647 : Int64)).toInt32) / (64 : Int32)) / x1 * x1))) (hb_pI w 7 6 0 (((((1103515245 : Int64) * ((hb_fI w 7 6 0).toInt64)) + (12345 : Int64)) &&& (2147483647 : Int64)).toInt32)))) ∧ ((¬ 0 < x1) → Q (some (hb_i (0 : Int32))) (hb_pI w 7 6 0 (((((1103515245 : Int64) * ((hb_fI w 7 6 0).toInt64)) + (12345 : Int64)) &&& (2147483647 : Int64)).toInt32)))) : hb_R yX8_draw cX8_draw 2 (some .int) d 0 [some (hb_r 7 0 0), some (hb_i x1)] [] w Q := by
  refine hb_aload_n (pc := 0) (i := 0) dX8_draw_0 rfl rfl ?_
  refine hb_ldc2 (pc := 1) (v := 1103515245) dX8_draw_1 kc_X8_56 ?_
  refine hb_aload_n (pc := 4) (i := 0) dX8_draw_4 rfl rfl ?_
  refine hb_getIx (pc := 5) (x := hb_fI w 7 6 0) dX8_draw_5 fw_X8_30 cw_8 rfl (by decide) rfl rfl ?_
  refine hb_i2l (pc := 8) dX8_draw_8 ?_
  refine hb_lmul (pc := 9) dX8_draw_9 ?_
  refine hb_ldc2 (pc := 10) (v := 12345) dX8_draw_10 kc_X8_58 ?_
  refine hb_ladd (pc := 13) dX8_draw_13 ?_
  refine hb_ldc2 (pc := 14) (v := 2147483647) dX8_draw_14 kc_X8_60 ?_
  refine hb_land (pc := 17) dX8_draw_17 ?_
  refine hb_l2i (pc := 18) dX8_draw_18 ?_
  refine hb_putI (pc := 19) dX8_draw_19 fw_X8_30 cw_8 pw_8_6 rfl (by decide) rfl rfl rfl ?_
  refine hb_iload_n (pc := 22) (i := 1) dX8_draw_22 rfl rfl ?_
  refine hb_if_gt (pc := 23) (tgt := 30) dX8_draw_23 (by decide) (fun c1 => ?_) (fun c1 => ?_)
  · have ht1 := h.1 c1
    refine hb_aload_n (pc := 30) (i := 0) dX8_draw_30 rfl rfl ?_
    refine hb_getIx (pc := 31) (x := ((((1103515245 : Int64) * ((hb_fI w 7 6 0).toInt64)) + (12345 : Int64)) &&& (2147483647 : Int64)).toInt32) dX8_draw_31 fw_X8_30 cw_8 rfl (by decide) rfl rfl ?_
    refine hb_bipush (pc := 34) (v := 64) dX8_draw_34 (by decide) ?_
    refine hb_idiv (pc := 36) dX8_draw_36 (by decide) ?_
    refine hb_iload_n (pc := 37) (i := 1) dX8_draw_37 rfl rfl ?_
    obtain ⟨ho2, hr2⟩ := ht1
    refine hb_irem (pc := 38) dX8_draw_38 ho2 ?_
    exact hb_iret (pc := 39) dX8_draw_39 rfl hr2
  · have ht1 := h.2 c1
    refine hb_iconst (pc := 26) (v := 0) dX8_draw_26 (by decide) ?_
    refine hb_goto (pc := 27) (tgt := 39) dX8_draw_27 (by decide) ?_
    exact hb_iret (pc := 39) dX8_draw_39 rfl ht1
theorem dX8_remember_0 : decode cX8_remember 0 = .ok (.aload_n 0, 1) := by decide +kernel
theorem dX8_remember_1 : decode cX8_remember 1 = .ok (.aload_n 0, 1) := by decide +kernel
theorem dX8_remember_2 : decode cX8_remember 2 = .ok (.getfield 62, 3) := by decide +kernel
theorem dX8_remember_5 : decode cX8_remember 5 = .ok (.iconst 1, 1) := by decide +kernel
theorem dX8_remember_6 : decode cX8_remember 6 = .ok (.iadd, 1) := by decide +kernel
theorem dX8_remember_7 : decode cX8_remember 7 = .ok (.bipush 20, 2) := by decide +kernel
theorem dX8_remember_9 : decode cX8_remember 9 = .ok (.irem, 1) := by decide +kernel
theorem dX8_remember_10 : decode cX8_remember 10 = .ok (.putfield 62, 3) := by decide +kernel
theorem dX8_remember_13 : decode cX8_remember 13 = .ok (.aload_n 0, 1) := by decide +kernel
theorem dX8_remember_14 : decode cX8_remember 14 = .ok (.bipush 20, 2) := by decide +kernel
theorem dX8_remember_16 : decode cX8_remember 16 = .ok (.aload_n 0, 1) := by decide +kernel
theorem dX8_remember_17 : decode cX8_remember 17 = .ok (.getfield 49, 3) := by decide +kernel
theorem dX8_remember_20 : decode cX8_remember 20 = .ok (.iconst 1, 1) := by decide +kernel
theorem dX8_remember_21 : decode cX8_remember 21 = .ok (.iadd, 1) := by decide +kernel
theorem dX8_remember_22 : decode cX8_remember 22 = .ok (.invokestatic 65, 3) := by decide +kernel
theorem dX8_remember_25 : decode cX8_remember 25 = .ok (.putfield 49, 3) := by decide +kernel
theorem dX8_remember_28 : decode cX8_remember 28 = .ok (.aload_n 0, 1) := by decide +kernel
theorem dX8_remember_29 : decode cX8_remember 29 = .ok (.getfield 34, 3) := by decide +kernel
theorem dX8_remember_32 : decode cX8_remember 32 = .ok (.aload_n 0, 1) := by decide +kernel
theorem dX8_remember_33 : decode cX8_remember 33 = .ok (.getfield 62, 3) := by decide +kernel
theorem dX8_remember_36 : decode cX8_remember 36 = .ok (.aload_n 0, 1) := by decide +kernel
theorem dX8_remember_37 : decode cX8_remember 37 = .ok (.getfield 43, 3) := by decide +kernel
theorem dX8_remember_40 : decode cX8_remember 40 = .ok (.iastore, 1) := by decide +kernel
theorem dX8_remember_41 : decode cX8_remember 41 = .ok (.aload_n 0, 1) := by decide +kernel
theorem dX8_remember_42 : decode cX8_remember 42 = .ok (.getfield 37, 3) := by decide +kernel
theorem dX8_remember_45 : decode cX8_remember 45 = .ok (.aload_n 0, 1) := by decide +kernel
theorem dX8_remember_46 : decode cX8_remember 46 = .ok (.getfield 62, 3) := by decide +kernel
theorem dX8_remember_49 : decode cX8_remember 49 = .ok (.aload_n 0, 1) := by decide +kernel
theorem dX8_remember_50 : decode cX8_remember 50 = .ok (.getfield 46, 3) := by decide +kernel
theorem dX8_remember_53 : decode cX8_remember 53 = .ok (.iastore, 1) := by decide +kernel
theorem dX8_remember_54 : decode cX8_remember 54 = .ok (.aload_n 0, 1) := by decide +kernel
theorem dX8_remember_55 : decode cX8_remember 55 = .ok (.getfield 21, 3) := by decide +kernel
theorem dX8_remember_58 : decode cX8_remember 58 = .ok (.iconst 0, 1) := by decide +kernel
theorem dX8_remember_59 : decode cX8_remember 59 = .ok (.aload_n 0, 1) := by decide +kernel
theorem dX8_remember_60 : decode cX8_remember 60 = .ok (.getfield 40, 3) := by decide +kernel
theorem dX8_remember_63 : decode cX8_remember 63 = .ok (.aload_n 0, 1) := by decide +kernel
theorem dX8_remember_64 : decode cX8_remember 64 = .ok (.getfield 62, 3) := by decide +kernel
theorem dX8_remember_67 : decode cX8_remember 67 = .ok (.bipush 9, 2) := by decide +kernel
theorem dX8_remember_69 : decode cX8_remember 69 = .ok (.imul, 1) := by decide +kernel
theorem dX8_remember_70 : decode cX8_remember 70 = .ok (.bipush 9, 2) := by decide +kernel
theorem dX8_remember_72 : decode cX8_remember 72 = .ok (.invokestatic 71, 3) := by decide +kernel
theorem dX8_remember_75 : decode cX8_remember 75 = .ok (.return_, 1) := by decide +kernel
set_option maxRecDepth 20000 in
theorem bk_X8_remember_0 {d : Nat} {w : hb_W} {Q : Option hb_V → hb_W → Prop} (h : vp_in (((hb_fI w 7 8 0) + (1 : Int32)) - ((hb_fI w 7 8 0) + (1 : Int32)) / (20 : Int32) * (20 : Int32)) 20 ∧ (vp_in (((hb_fI w 7 8 0) + (1 : Int32)) - ((hb_fI w 7 8 0) + (1 : Int32)) / (20 : Int32) * (20 : Int32)) 20 ∧ ((¬ ((((hb_fI w 7 8 0) + (1 : Int32)) - ((hb_fI w 7 8 0) + (1 : Int32)) / (20 : Int32) * (20 : Int32)) * (9 : Int32)) < 0 ∧ ((((hb_fI w 7 8 0) + (1 : Int32)) - ((hb_fI w 7 8 0) + (1 : Int32)) / (20 : Int32) * (20 : Int32)) * (9 : Int32)).toNatClampNeg + (9 : Int32).toNatClampNeg ≤ 180) ∧ (Q none (hb_sI (hb_sI (hb_sI (hb_pI (hb_pI w 7 8 0 (((hb_fI w 7 8 0) + (1 : Int32)) - ((hb_fI w 7 8 0) + (1 : Int32)) / (20 : Int32) * (20 : Int32))) 7 7 0 (if ((hb_fI w 7 7 0) + (1 : Int32)) < (20 : Int32) then ((hb_fI w 7 7 0) + (1 : Int32)) else (20 : Int32))) 7 5 0 (upd (hb_aI w 7 5 0) (((hb_fI w 7 8 0) + (1 : Int32)) - ((hb_fI w 7 8 0) + (1 : Int32)) / (20 : Int32) * (20 : Int32)).toNatClampNeg (hb_fI w 7 3 0))) 7 6 0 (upd (hb_aI w 7 6 0) (((hb_fI w 7 8 0) + (1 : Int32)) - ((hb_fI w 7 8 0) + (1 : Int32)) / (20 : Int32) * (20 : Int32)).toNatClampNeg (hb_fI w 7 4 0))) 7 7 0 (va_cpy (hb_aI w 7 4 0) (hb_aI w 7 7 0) (0 : Int32).toNatClampNeg ((((hb_fI w 7 8 0) + (1 : Int32)) - ((hb_fI w 7 8 0) + (1 : Int32)) / (20 : Int32) * (20 : Int32)) * (9 : Int32)).toNatClampNeg (9 : Int32).toNatClampNeg)))))) : hb_R yX8_remember cX8_remember 1 none (d + 1) 0 [some (hb_r 7 0 0)] [] w Q := by
  refine hb_aload_n (pc := 0) (i := 0) dX8_remember_0 rfl rfl ?_
  refine hb_aload_n (pc := 1) (i := 0) dX8_remember_1 rfl rfl ?_
  refine hb_getIx (pc := 2) (x := hb_fI w 7 8 0) dX8_remember_2 fw_X8_62 cw_8 rfl (by decide) rfl rfl ?_
  refine hb_iconst (pc := 5) (v := 1) dX8_remember_5 (by decide) ?_
  refine hb_iadd (pc := 6) dX8_remember_6 ?_
  refine hb_bipush (pc := 7) (v := 20) dX8_remember_7 (by decide) ?_
  refine hb_irem (pc := 9) dX8_remember_9 (by decide) ?_
  refine hb_putI (pc := 10) dX8_remember_10 fw_X8_62 cw_8 pw_8_8 rfl (by decide) rfl rfl rfl ?_
  refine hb_aload_n (pc := 13) (i := 0) dX8_remember_13 rfl rfl ?_
  refine hb_bipush (pc := 14) (v := 20) dX8_remember_14 (by decide) ?_
  refine hb_aload_n (pc := 16) (i := 0) dX8_remember_16 rfl rfl ?_
  refine hb_getIx (pc := 17) (x := hb_fI w 7 7 0) dX8_remember_17 fw_X8_49 cw_8 rfl (by decide) rfl rfl ?_
  refine hb_iconst (pc := 20) (v := 1) dX8_remember_20 (by decide) ?_
  refine hb_iadd (pc := 21) dX8_remember_21 ?_
  refine hb_mmin (pc := 22) dX8_remember_22 ml_X8_65 (Nat.le_of_ble_eq_true rfl) ?_
  refine hb_putI (pc := 25) dX8_remember_25 fw_X8_49 cw_8 pw_8_7 rfl (by decide) rfl rfl rfl ?_
  refine hb_aload_n (pc := 28) (i := 0) dX8_remember_28 rfl rfl ?_
  refine hb_getR (pc := 29) (g1 := 0) dX8_remember_29 fw_X8_34 cw_8 rfl (by decide) rfl (by decide) rfl ?_
  refine hb_aload_n (pc := 32) (i := 0) dX8_remember_32 rfl rfl ?_
  refine hb_getIx (pc := 33) (x := ((hb_fI w 7 8 0) + (1 : Int32)) - ((hb_fI w 7 8 0) + (1 : Int32)) / (20 : Int32) * (20 : Int32)) dX8_remember_33 fw_X8_62 cw_8 rfl (by decide) rfl rfl ?_
  refine hb_aload_n (pc := 36) (i := 0) dX8_remember_36 rfl rfl ?_
  refine hb_getIx (pc := 37) (x := hb_fI w 7 3 0) dX8_remember_37 fw_X8_43 cw_8 rfl (by decide) rfl rfl ?_
  obtain ⟨ho1, hr1⟩ := h
  refine hb_iastx (pc := 40) (f := upd (hb_aI w 7 5 0) (((hb_fI w 7 8 0) + (1 : Int32)) - ((hb_fI w 7 8 0) + (1 : Int32)) / (20 : Int32) * (20 : Int32)).toNatClampNeg (hb_fI w 7 3 0)) dX8_remember_40 rfl (by decide) ho1 rfl ?_
  refine hb_aload_n (pc := 41) (i := 0) dX8_remember_41 rfl rfl ?_
  refine hb_getR (pc := 42) (g1 := 0) dX8_remember_42 fw_X8_37 cw_8 rfl (by decide) rfl (by decide) rfl ?_
  refine hb_aload_n (pc := 45) (i := 0) dX8_remember_45 rfl rfl ?_
  refine hb_getIx (pc := 46) (x := ((hb_fI w 7 8 0) + (1 : Int32)) - ((hb_fI w 7 8 0) + (1 : Int32)) / (20 : Int32) * (20 : Int32)) dX8_remember_46 fw_X8_62 cw_8 rfl (by decide) rfl rfl ?_
  refine hb_aload_n (pc := 49) (i := 0) dX8_remember_49 rfl rfl ?_
  refine hb_getIx (pc := 50) (x := hb_fI w 7 4 0) dX8_remember_50 fw_X8_46 cw_8 rfl (by decide) rfl rfl ?_
  obtain ⟨ho2, hr2⟩ := hr1
  refine hb_iastx (pc := 53) (f := upd (hb_aI w 7 6 0) (((hb_fI w 7 8 0) + (1 : Int32)) - ((hb_fI w 7 8 0) + (1 : Int32)) / (20 : Int32) * (20 : Int32)).toNatClampNeg (hb_fI w 7 4 0)) dX8_remember_53 rfl (by decide) ho2 rfl ?_
  refine hb_aload_n (pc := 54) (i := 0) dX8_remember_54 rfl rfl ?_
  refine hb_getR (pc := 55) (g1 := 0) dX8_remember_55 fw_X8_21 cw_8 rfl (by decide) rfl (by decide) rfl ?_
  refine hb_iconst (pc := 58) (v := 0) dX8_remember_58 (by decide) ?_
  refine hb_aload_n (pc := 59) (i := 0) dX8_remember_59 rfl rfl ?_
  refine hb_getR (pc := 60) (g1 := 0) dX8_remember_60 fw_X8_40 cw_8 rfl (by decide) rfl (by decide) rfl ?_
  refine hb_aload_n (pc := 63) (i := 0) dX8_remember_63 rfl rfl ?_
  refine hb_getIx (pc := 64) (x := ((hb_fI w 7 8 0) + (1 : Int32)) - ((hb_fI w 7 8 0) + (1 : Int32)) / (20 : Int32) * (20 : Int32)) dX8_remember_64 fw_X8_62 cw_8 rfl (by decide) rfl rfl ?_
  refine hb_bipush (pc := 67) (v := 9) dX8_remember_67 (by decide) ?_
  refine hb_imul (pc := 69) dX8_remember_69 ?_
  refine hb_bipush (pc := 70) (v := 9) dX8_remember_70 (by decide) ?_
  obtain ⟨ho3, hr3⟩ := hr2
  refine hb_copyx (pc := 72) (f := va_cpy (hb_aI w 7 4 0) (hb_aI w 7 7 0) (0 : Int32).toNatClampNeg ((((hb_fI w 7 8 0) + (1 : Int32)) - ((hb_fI w 7 8 0) + (1 : Int32)) / (20 : Int32) * (20 : Int32)) * (9 : Int32)).toNatClampNeg (9 : Int32).toNatClampNeg) dX8_remember_72 ml_X8_71 (Nat.le_of_ble_eq_true rfl) (n1 := 9) rfl (by decide) (n2 := 180) rfl (by decide) (by decide) ho3.1 (by decide) (by decide) ho3.2 rfl ?_
  exact hb_vret (pc := 75) dX8_remember_75 rfl hr3
theorem dX8_takeBack_0 : decode cX8_takeBack 0 = .ok (.aload_n 0, 1) := by decide +kernel
theorem dX8_takeBack_1 : decode cX8_takeBack 1 = .ok (.aload_n 0, 1) := by decide +kernel
theorem dX8_takeBack_2 : decode cX8_takeBack 2 = .ok (.getfield 34, 3) := by decide +kernel
theorem dX8_takeBack_5 : decode cX8_takeBack 5 = .ok (.aload_n 0, 1) := by decide +kernel
theorem dX8_takeBack_6 : decode cX8_takeBack 6 = .ok (.getfield 62, 3) := by decide +kernel
theorem dX8_takeBack_9 : decode cX8_takeBack 9 = .ok (.iaload, 1) := by decide +kernel
theorem dX8_takeBack_10 : decode cX8_takeBack 10 = .ok (.putfield 43, 3) := by decide +kernel
theorem dX8_takeBack_13 : decode cX8_takeBack 13 = .ok (.aload_n 0, 1) := by decide +kernel
theorem dX8_takeBack_14 : decode cX8_takeBack 14 = .ok (.aload_n 0, 1) := by decide +kernel
theorem dX8_takeBack_15 : decode cX8_takeBack 15 = .ok (.getfield 37, 3) := by decide +kernel
theorem dX8_takeBack_18 : decode cX8_takeBack 18 = .ok (.aload_n 0, 1) := by decide +kernel
theorem dX8_takeBack_19 : decode cX8_takeBack 19 = .ok (.getfield 62, 3) := by decide +kernel
theorem dX8_takeBack_22 : decode cX8_takeBack 22 = .ok (.iaload, 1) := by decide +kernel
theorem dX8_takeBack_23 : decode cX8_takeBack 23 = .ok (.putfield 46, 3) := by decide +kernel
theorem dX8_takeBack_26 : decode cX8_takeBack 26 = .ok (.aload_n 0, 1) := by decide +kernel
theorem dX8_takeBack_27 : decode cX8_takeBack 27 = .ok (.getfield 40, 3) := by decide +kernel
theorem dX8_takeBack_30 : decode cX8_takeBack 30 = .ok (.aload_n 0, 1) := by decide +kernel
theorem dX8_takeBack_31 : decode cX8_takeBack 31 = .ok (.getfield 62, 3) := by decide +kernel
theorem dX8_takeBack_34 : decode cX8_takeBack 34 = .ok (.bipush 9, 2) := by decide +kernel
theorem dX8_takeBack_36 : decode cX8_takeBack 36 = .ok (.imul, 1) := by decide +kernel
theorem dX8_takeBack_37 : decode cX8_takeBack 37 = .ok (.aload_n 0, 1) := by decide +kernel
theorem dX8_takeBack_38 : decode cX8_takeBack 38 = .ok (.getfield 21, 3) := by decide +kernel
theorem dX8_takeBack_41 : decode cX8_takeBack 41 = .ok (.iconst 0, 1) := by decide +kernel
theorem dX8_takeBack_42 : decode cX8_takeBack 42 = .ok (.bipush 9, 2) := by decide +kernel
theorem dX8_takeBack_44 : decode cX8_takeBack 44 = .ok (.invokestatic 71, 3) := by decide +kernel
theorem dX8_takeBack_47 : decode cX8_takeBack 47 = .ok (.aload_n 0, 1) := by decide +kernel
theorem dX8_takeBack_48 : decode cX8_takeBack 48 = .ok (.aload_n 0, 1) := by decide +kernel
theorem dX8_takeBack_49 : decode cX8_takeBack 49 = .ok (.getfield 62, 3) := by decide +kernel
theorem dX8_takeBack_52 : decode cX8_takeBack 52 = .ok (.bipush 20, 2) := by decide +kernel
theorem dX8_takeBack_54 : decode cX8_takeBack 54 = .ok (.iadd, 1) := by decide +kernel
theorem dX8_takeBack_55 : decode cX8_takeBack 55 = .ok (.iconst 1, 1) := by decide +kernel
theorem dX8_takeBack_56 : decode cX8_takeBack 56 = .ok (.isub, 1) := by decide +kernel
theorem dX8_takeBack_57 : decode cX8_takeBack 57 = .ok (.bipush 20, 2) := by decide +kernel
theorem dX8_takeBack_59 : decode cX8_takeBack 59 = .ok (.irem, 1) := by decide +kernel
theorem dX8_takeBack_60 : decode cX8_takeBack 60 = .ok (.putfield 62, 3) := by decide +kernel
theorem dX8_takeBack_63 : decode cX8_takeBack 63 = .ok (.aload_n 0, 1) := by decide +kernel
theorem dX8_takeBack_64 : decode cX8_takeBack 64 = .ok (.iconst 0, 1) := by decide +kernel
theorem dX8_takeBack_65 : decode cX8_takeBack 65 = .ok (.aload_n 0, 1) := by decide +kernel
theorem dX8_takeBack_66 : decode cX8_takeBack 66 = .ok (.getfield 49, 3) := by decide +kernel
theorem dX8_takeBack_69 : decode cX8_takeBack 69 = .ok (.iconst 1, 1) := by decide +kernel
theorem dX8_takeBack_70 : decode cX8_takeBack 70 = .ok (.isub, 1) := by decide +kernel
theorem dX8_takeBack_71 : decode cX8_takeBack 71 = .ok (.invokestatic 77, 3) := by decide +kernel
theorem dX8_takeBack_74 : decode cX8_takeBack 74 = .ok (.putfield 49, 3) := by decide +kernel
theorem dX8_takeBack_77 : decode cX8_takeBack 77 = .ok (.return_, 1) := by decide +kernel
set_option maxRecDepth 20000 in
theorem bk_X8_takeBack_0 {d : Nat} {w : hb_W} {Q : Option hb_V → hb_W → Prop} (h : vp_in (hb_fI w 7 8 0) 20 ∧ (vp_in (hb_fI w 7 8 0) 20 ∧ ((¬ ((hb_fI w 7 8 0) * (9 : Int32)) < 0 ∧ ((hb_fI w 7 8 0) * (9 : Int32)).toNatClampNeg + (9 : Int32).toNatClampNeg ≤ 180) ∧ (Q none (hb_pI (hb_pI (hb_sI (hb_pI (hb_pI w 7 3 0 (hb_aI w 7 5 0 (hb_fI w 7 8 0).toNatClampNeg)) 7 4 0 (hb_aI w 7 6 0 (hb_fI w 7 8 0).toNatClampNeg)) 7 4 0 (va_cpy (hb_aI w 7 7 0) (hb_aI w 7 4 0) ((hb_fI w 7 8 0) * (9 : Int32)).toNatClampNeg (0 : Int32).toNatClampNeg (9 : Int32).toNatClampNeg)) 7 8 0 ((((hb_fI w 7 8 0) + (20 : Int32)) - (1 : Int32)) - (((hb_fI w 7 8 0) + (20 : Int32)) - (1 : Int32)) / (20 : Int32) * (20 : Int32))) 7 7 0 (if (0 : Int32) < ((hb_fI w 7 7 0) - (1 : Int32)) then ((hb_fI w 7 7 0) - (1 : Int32)) else (0 : Int32))))))) : hb_R yX8_takeBack cX8_takeBack 1 none (d + 1) 0 [some (hb_r 7 0 0)] [] w Q := by
  refine hb_aload_n (pc := 0) (i := 0) dX8_takeBack_0 rfl rfl ?_
  refine hb_aload_n (pc := 1) (i := 0) dX8_takeBack_1 rfl rfl ?_
  refine hb_getR (pc := 2) (g1 := 0) dX8_takeBack_2 fw_X8_34 cw_8 rfl (by decide) rfl (by decide) rfl ?_
  refine hb_aload_n (pc := 5) (i := 0) dX8_takeBack_5 rfl rfl ?_
  refine hb_getIx (pc := 6) (x := hb_fI w 7 8 0) dX8_takeBack_6 fw_X8_62 cw_8 rfl (by decide) rfl rfl ?_
  obtain ⟨ho1, hr1⟩ := h
  refine hb_ialdx (pc := 9) (x := hb_aI w 7 5 0 (hb_fI w 7 8 0).toNatClampNeg) dX8_takeBack_9 rfl (by decide) ho1 rfl ?_
  refine hb_putI (pc := 10) dX8_takeBack_10 fw_X8_43 cw_8 pw_8_3 rfl (by decide) rfl rfl rfl ?_
  refine hb_aload_n (pc := 13) (i := 0) dX8_takeBack_13 rfl rfl ?_
  refine hb_aload_n (pc := 14) (i := 0) dX8_takeBack_14 rfl rfl ?_
  refine hb_getR (pc := 15) (g1 := 0) dX8_takeBack_15 fw_X8_37 cw_8 rfl (by decide) rfl (by decide) rfl ?_
  refine hb_aload_n (pc := 18) (i := 0) dX8_takeBack_18 rfl rfl ?_
  refine hb_getIx (pc := 19) (x := hb_fI w 7 8 0) dX8_takeBack_19 fw_X8_62 cw_8 rfl (by decide) rfl rfl ?_
  obtain ⟨ho2, hr2⟩ := hr1
  refine hb_ialdx (pc := 22) (x := hb_aI w 7 6 0 (hb_fI w 7 8 0).toNatClampNeg) dX8_takeBack_22 rfl (by decide) ho2 rfl ?_
  refine hb_putI (pc := 23) dX8_takeBack_23 fw_X8_46 cw_8 pw_8_4 rfl (by decide) rfl rfl rfl ?_
  refine hb_aload_n (pc := 26) (i := 0) dX8_takeBack_26 rfl rfl ?_
  refine hb_getR (pc := 27) (g1 := 0) dX8_takeBack_27 fw_X8_40 cw_8 rfl (by decide) rfl (by decide) rfl ?_
  refine hb_aload_n (pc := 30) (i := 0) dX8_takeBack_30 rfl rfl ?_
  refine hb_getIx (pc := 31) (x := hb_fI w 7 8 0) dX8_takeBack_31 fw_X8_62 cw_8 rfl (by decide) rfl rfl ?_
  refine hb_bipush (pc := 34) (v := 9) dX8_takeBack_34 (by decide) ?_
  refine hb_imul (pc := 36) dX8_takeBack_36 ?_
  refine hb_aload_n (pc := 37) (i := 0) dX8_takeBack_37 rfl rfl ?_
  refine hb_getR (pc := 38) (g1 := 0) dX8_takeBack_38 fw_X8_21 cw_8 rfl (by decide) rfl (by decide) rfl ?_
  refine hb_iconst (pc := 41) (v := 0) dX8_takeBack_41 (by decide) ?_
  refine hb_bipush (pc := 42) (v := 9) dX8_takeBack_42 (by decide) ?_
  obtain ⟨ho3, hr3⟩ := hr2
  refine hb_copyx (pc := 44) (f := va_cpy (hb_aI w 7 7 0) (hb_aI w 7 4 0) ((hb_fI w 7 8 0) * (9 : Int32)).toNatClampNeg (0 : Int32).toNatClampNeg (9 : Int32).toNatClampNeg) dX8_takeBack_44 ml_X8_71 (Nat.le_of_ble_eq_true rfl) (n1 := 180) rfl (by decide) (n2 := 9) rfl (by decide) ho3.1 (by decide) (by decide) ho3.2 (by decide) rfl ?_
  refine hb_aload_n (pc := 47) (i := 0) dX8_takeBack_47 rfl rfl ?_
  refine hb_aload_n (pc := 48) (i := 0) dX8_takeBack_48 rfl rfl ?_
  refine hb_getIx (pc := 49) (x := hb_fI w 7 8 0) dX8_takeBack_49 fw_X8_62 cw_8 rfl (by decide) rfl rfl ?_
  refine hb_bipush (pc := 52) (v := 20) dX8_takeBack_52 (by decide) ?_
  refine hb_iadd (pc := 54) dX8_takeBack_54 ?_
  refine hb_iconst (pc := 55) (v := 1) dX8_takeBack_55 (by decide) ?_
  refine hb_isub (pc := 56) dX8_takeBack_56 ?_
  refine hb_bipush (pc := 57) (v := 20) dX8_takeBack_57 (by decide) ?_
  refine hb_irem (pc := 59) dX8_takeBack_59 (by decide) ?_
  refine hb_putI (pc := 60) dX8_takeBack_60 fw_X8_62 cw_8 pw_8_8 rfl (by decide) rfl rfl rfl ?_
  refine hb_aload_n (pc := 63) (i := 0) dX8_takeBack_63 rfl rfl ?_
  refine hb_iconst (pc := 64) (v := 0) dX8_takeBack_64 (by decide) ?_
  refine hb_aload_n (pc := 65) (i := 0) dX8_takeBack_65 rfl rfl ?_
  refine hb_getIx (pc := 66) (x := hb_fI w 7 7 0) dX8_takeBack_66 fw_X8_49 cw_8 rfl (by decide) rfl rfl ?_
  refine hb_iconst (pc := 69) (v := 1) dX8_takeBack_69 (by decide) ?_
  refine hb_isub (pc := 70) dX8_takeBack_70 ?_
  refine hb_mmax (pc := 71) dX8_takeBack_71 ml_X8_77 (Nat.le_of_ble_eq_true rfl) ?_
  refine hb_putI (pc := 74) dX8_takeBack_74 fw_X8_49 cw_8 pw_8_7 rfl (by decide) rfl rfl rfl ?_
  exact hb_vret (pc := 77) dX8_takeBack_77 rfl hr3
theorem dX8_load_0 : decode cX8_load 0 = .ok (.aload_n 0, 1) := by decide +kernel
theorem dX8_load_1 : decode cX8_load 1 = .ok (.aload_n 1, 1) := by decide +kernel
theorem dX8_load_2 : decode cX8_load 2 = .ok (.iconst 0, 1) := by decide +kernel
theorem dX8_load_3 : decode cX8_load 3 = .ok (.invokevirtual 80, 3) := by decide +kernel
theorem dX8_load_6 : decode cX8_load 6 = .ok (.invokevirtual 85, 3) := by decide +kernel
theorem dX8_load_9 : decode cX8_load 9 = .ok (.aload_n 0, 1) := by decide +kernel
theorem dX8_load_10 : decode cX8_load 10 = .ok (.aload_n 1, 1) := by decide +kernel
theorem dX8_load_11 : decode cX8_load 11 = .ok (.invokestatic 89, 3) := by decide +kernel
theorem dX8_load_14 : decode cX8_load 14 = .ok (.putfield 43, 3) := by decide +kernel
theorem dX8_load_17 : decode cX8_load 17 = .ok (.iconst 3, 1) := by decide +kernel
theorem dX8_load_18 : decode cX8_load 18 = .ok (.istore_n 3, 1) := by decide +kernel
theorem dX8_load_19 : decode cX8_load 19 = .ok (.iconst 0, 1) := by decide +kernel
theorem dX8_load_20 : decode cX8_load 20 = .ok (.istore 4, 2) := by decide +kernel
theorem dX8_load_22 : decode cX8_load 22 = .ok (.iload 4, 2) := by decide +kernel
theorem dX8_load_24 : decode cX8_load 24 = .ok (.aload_n 0, 1) := by decide +kernel
theorem dX8_load_25 : decode cX8_load 25 = .ok (.getfield 43, 3) := by decide +kernel
theorem dX8_load_28 : decode cX8_load 28 = .ok (.if_icmp .ge 52, 3) := by decide +kernel
theorem dX8_load_31 : decode cX8_load 31 = .ok (.aload_n 0, 1) := by decide +kernel
theorem dX8_load_32 : decode cX8_load 32 = .ok (.getfield 9, 3) := by decide +kernel
theorem dX8_load_35 : decode cX8_load 35 = .ok (.iload 4, 2) := by decide +kernel
theorem dX8_load_37 : decode cX8_load 37 = .ok (.aload_n 1, 1) := by decide +kernel
theorem dX8_load_38 : decode cX8_load 38 = .ok (.iload_n 3, 1) := by decide +kernel
theorem dX8_load_39 : decode cX8_load 39 = .ok (.invokevirtual 80, 3) := by decide +kernel
theorem dX8_load_42 : decode cX8_load 42 = .ok (.iastore, 1) := by decide +kernel
theorem dX8_load_43 : decode cX8_load 43 = .ok (.aload_n 0, 1) := by decide +kernel
theorem dX8_load_44 : decode cX8_load 44 = .ok (.getfield 15, 3) := by decide +kernel
theorem dX8_load_47 : decode cX8_load 47 = .ok (.iload 4, 2) := by decide +kernel
theorem dX8_load_49 : decode cX8_load 49 = .ok (.aload_n 1, 1) := by decide +kernel
theorem dX8_load_50 : decode cX8_load 50 = .ok (.iload_n 3, 1) := by decide +kernel
theorem dX8_load_51 : decode cX8_load 51 = .ok (.iconst 1, 1) := by decide +kernel
theorem dX8_load_52 : decode cX8_load 52 = .ok (.iadd, 1) := by decide +kernel
theorem dX8_load_53 : decode cX8_load 53 = .ok (.invokevirtual 80, 3) := by decide +kernel
theorem dX8_load_56 : decode cX8_load 56 = .ok (.iastore, 1) := by decide +kernel
theorem dX8_load_57 : decode cX8_load 57 = .ok (.aload_n 0, 1) := by decide +kernel
theorem dX8_load_58 : decode cX8_load 58 = .ok (.getfield 18, 3) := by decide +kernel
theorem dX8_load_61 : decode cX8_load 61 = .ok (.iload 4, 2) := by decide +kernel
theorem dX8_load_63 : decode cX8_load 63 = .ok (.aload_n 1, 1) := by decide +kernel
theorem dX8_load_64 : decode cX8_load 64 = .ok (.iload_n 3, 1) := by decide +kernel
theorem dX8_load_65 : decode cX8_load 65 = .ok (.iconst 2, 1) := by decide +kernel
theorem dX8_load_66 : decode cX8_load 66 = .ok (.iadd, 1) := by decide +kernel
theorem dX8_load_67 : decode cX8_load 67 = .ok (.invokevirtual 80, 3) := by decide +kernel
theorem dX8_load_70 : decode cX8_load 70 = .ok (.iastore, 1) := by decide +kernel
theorem dX8_load_71 : decode cX8_load 71 = .ok (.iinc 3 3, 3) := by decide +kernel
theorem dX8_load_74 : decode cX8_load 74 = .ok (.iinc 4 1, 3) := by decide +kernel
theorem dX8_load_77 : decode cX8_load 77 = .ok (.goto (-55), 3) := by decide +kernel
theorem dX8_load_80 : decode cX8_load 80 = .ok (.iconst 0, 1) := by decide +kernel
theorem dX8_load_81 : decode cX8_load 81 = .ok (.istore 4, 2) := by decide +kernel
theorem dX8_load_83 : decode cX8_load 83 = .ok (.iload 4, 2) := by decide +kernel
theorem dX8_load_85 : decode cX8_load 85 = .ok (.iload_n 2, 1) := by decide +kernel
theorem dX8_load_86 : decode cX8_load 86 = .ok (.if_icmp .ge 47, 3) := by decide +kernel
theorem dX8_load_89 : decode cX8_load 89 = .ok (.iload 4, 2) := by decide +kernel
theorem dX8_load_91 : decode cX8_load 91 = .ok (.bipush 9, 2) := by decide +kernel
theorem dX8_load_93 : decode cX8_load 93 = .ok (.if_icmp .ge 40, 3) := by decide +kernel
theorem dX8_load_96 : decode cX8_load 96 = .ok (.aload_n 1, 1) := by decide +kernel
theorem dX8_load_97 : decode cX8_load 97 = .ok (.iload_n 3, 1) := by decide +kernel
theorem dX8_load_98 : decode cX8_load 98 = .ok (.iload 4, 2) := by decide +kernel
theorem dX8_load_100 : decode cX8_load 100 = .ok (.iadd, 1) := by decide +kernel
theorem dX8_load_101 : decode cX8_load 101 = .ok (.invokevirtual 80, 3) := by decide +kernel
theorem dX8_load_104 : decode cX8_load 104 = .ok (.istore 5, 2) := by decide +kernel
theorem dX8_load_106 : decode cX8_load 106 = .ok (.aload_n 0, 1) := by decide +kernel
theorem dX8_load_107 : decode cX8_load 107 = .ok (.getfield 21, 3) := by decide +kernel
theorem dX8_load_110 : decode cX8_load 110 = .ok (.iload 4, 2) := by decide +kernel
theorem dX8_load_112 : decode cX8_load 112 = .ok (.iload 5, 2) := by decide +kernel
theorem dX8_load_114 : decode cX8_load 114 = .ok (.sipush 255, 3) := by decide +kernel
theorem dX8_load_117 : decode cX8_load 117 = .ok (.if_icmp .ne 7, 3) := by decide +kernel
theorem dX8_load_120 : decode cX8_load 120 = .ok (.iconst (-1), 1) := by decide +kernel
theorem dX8_load_121 : decode cX8_load 121 = .ok (.goto 5, 3) := by decide +kernel
theorem dX8_load_124 : decode cX8_load 124 = .ok (.iload 5, 2) := by decide +kernel
theorem dX8_load_126 : decode cX8_load 126 = .ok (.iastore, 1) := by decide +kernel
theorem dX8_load_127 : decode cX8_load 127 = .ok (.iinc 4 1, 3) := by decide +kernel
theorem dX8_load_130 : decode cX8_load 130 = .ok (.goto (-47), 3) := by decide +kernel
theorem dX8_load_133 : decode cX8_load 133 = .ok (.return_, 1) := by decide +kernel
set_option maxRecDepth 20000 in
theorem bk_X8_load_0 {d : Nat} {w : hb_W} {Q : Option hb_V → hb_W → Prop} {x2 : Int32} (h : hb_O yX10_at cX10_at 2 (some .int) d [hb_r 1 0 0, hb_i (0 : Int32)] w (fun rv w1 => hb_R yX8_load cX8_load 6 none (d + 1) 6 [some (hb_r 7 0 0), some (hb_r 1 0 0), some (hb_i x2), none, none, none] (rv.toList ++ [hb_r 7 0 0]) w1 Q)) : hb_R yX8_load cX8_load 6 none (d + 1) 0 [some (hb_r 7 0 0), some (hb_r 1 0 0), some (hb_i x2), none, none, none] [] w Q := by
  refine hb_aload_n (pc := 0) (i := 0) dX8_load_0 rfl rfl ?_
  refine hb_aload_n (pc := 1) (i := 1) dX8_load_1 rfl rfl ?_
  refine hb_iconst (pc := 2) (v := 0) dX8_load_2 (by decide) ?_
  exact hb_callV (pc := 3) (As := [hb_i (0 : Int32)]) (st := [hb_r 7 0 0]) dX8_load_3 ml_X8_80 mf_X10_at mi_X10_at (ci := 10) rfl rfl (by decide) rfl rfl (Nat.le_of_ble_eq_true rfl) (Nat.le_of_ble_eq_true rfl) h (fun _ _ q => q)
set_option maxRecDepth 20000 in
theorem bk_X8_load_6 {d : Nat} {w : hb_W} {Q : Option hb_V → hb_W → Prop} {x2 : Int32} {xs1 : Int32} (h : hb_O yX8_restart cX8_restart 2 none d [hb_r 7 0 0, hb_i xs1] w (fun rv w1 => hb_R yX8_load cX8_load 6 none (d + 1) 9 [some (hb_r 7 0 0), some (hb_r 1 0 0), some (hb_i x2), none, none, none] (rv.toList ++ []) w1 Q)) : hb_R yX8_load cX8_load 6 none (d + 1) 6 [some (hb_r 7 0 0), some (hb_r 1 0 0), some (hb_i x2), none, none, none] [hb_i xs1, hb_r 7 0 0] w Q := by
  exact hb_callV (pc := 6) (As := [hb_i xs1]) (st := []) dX8_load_6 ml_X8_85 mf_X8_restart mi_X8_restart (ci := 8) rfl rfl (by decide) rfl rfl (Nat.le_of_ble_eq_true rfl) (Nat.le_of_ble_eq_true rfl) h (fun _ _ q => q)
set_option maxRecDepth 20000 in
theorem bk_X8_load_9 {d : Nat} {w : hb_W} {Q : Option hb_V → hb_W → Prop} {x2 : Int32} (h : hb_O yX3_passesTold cX3_passesTold 1 (some .int) d [hb_r 1 0 0] w (fun rv w1 => hb_R yX8_load cX8_load 6 none (d + 1) 14 [some (hb_r 7 0 0), some (hb_r 1 0 0), some (hb_i x2), none, none, none] (rv.toList ++ [hb_r 7 0 0]) w1 Q)) : hb_R yX8_load cX8_load 6 none (d + 1) 9 [some (hb_r 7 0 0), some (hb_r 1 0 0), some (hb_i x2), none, none, none] [] w Q := by
  refine hb_aload_n (pc := 9) (i := 0) dX8_load_9 rfl rfl ?_
  refine hb_aload_n (pc := 10) (i := 1) dX8_load_10 rfl rfl ?_
  exact hb_callS (pc := 11) (As := [hb_r 1 0 0]) (st := [hb_r 7 0 0]) dX8_load_11 ml_X8_89 mf_X3_passesTold ms_X3_passesTold rfl rfl (Nat.le_of_ble_eq_true rfl) (Nat.le_of_ble_eq_true rfl) h (fun _ _ q => q)
set_option maxRecDepth 20000 in
theorem bk_X8_load_14 {d : Nat} {w : hb_W} {Q : Option hb_V → hb_W → Prop} {x2 : Int32} {xs1 : Int32} (h : hb_R yX8_load cX8_load 6 none (d + 1) 22 [some (hb_r 7 0 0), some (hb_r 1 0 0), some (hb_i x2), some (hb_i (3 : Int32)), some (hb_i (0 : Int32)), none] [] (hb_pI w 7 3 0 xs1) Q) : hb_R yX8_load cX8_load 6 none (d + 1) 14 [some (hb_r 7 0 0), some (hb_r 1 0 0), some (hb_i x2), none, none, none] [hb_i xs1, hb_r 7 0 0] w Q := by
  refine hb_putI (pc := 14) dX8_load_14 fw_X8_43 cw_8 pw_8_3 rfl (by decide) rfl rfl rfl ?_
  refine hb_iconst (pc := 17) (v := 3) dX8_load_17 (by decide) ?_
  refine hb_istore_n (pc := 18) (i := 3) (ls1 := [some (hb_r 7 0 0), some (hb_r 1 0 0), some (hb_i x2), some (hb_i (3 : Int32)), none, none]) dX8_load_18 rfl (by decide) rfl ?_
  refine hb_iconst (pc := 19) (v := 0) dX8_load_19 (by decide) ?_
  refine hb_istore (pc := 20) (i := 4) (ls1 := [some (hb_r 7 0 0), some (hb_r 1 0 0), some (hb_i x2), some (hb_i (3 : Int32)), some (hb_i (0 : Int32)), none]) dX8_load_20 (by decide) rfl ?_
  exact h
set_option maxRecDepth 20000 in
theorem bk_X8_load_22 {d : Nat} {w : hb_W} {Q : Option hb_V → hb_W → Prop} {x2 : Int32} {x3 : Int32} {x4 : Int32} (h : (((hb_fI w 7 3 0) ≤ x4) → hb_R yX8_load cX8_load 6 none (d + 1) 83 [some (hb_r 7 0 0), some (hb_r 1 0 0), some (hb_i x2), some (hb_i x3), some (hb_i (0 : Int32)), none] [] w Q) ∧ ((¬ (hb_fI w 7 3 0) ≤ x4) → hb_O yX10_at cX10_at 2 (some .int) d [hb_r 1 0 0, hb_i x3] w (fun rv w1 => hb_R yX8_load cX8_load 6 none (d + 1) 42 [some (hb_r 7 0 0), some (hb_r 1 0 0), some (hb_i x2), some (hb_i x3), some (hb_i x4), none] (rv.toList ++ [hb_i x4, hb_r 7 0 1]) w1 Q))) : hb_R yX8_load cX8_load 6 none (d + 1) 22 [some (hb_r 7 0 0), some (hb_r 1 0 0), some (hb_i x2), some (hb_i x3), some (hb_i x4), none] [] w Q := by
  refine hb_iload (pc := 22) dX8_load_22 rfl ?_
  refine hb_aload_n (pc := 24) (i := 0) dX8_load_24 rfl rfl ?_
  refine hb_getIx (pc := 25) (x := hb_fI w 7 3 0) dX8_load_25 fw_X8_43 cw_8 rfl (by decide) rfl rfl ?_
  refine hb_icmp_ge (pc := 28) (tgt := 80) dX8_load_28 (by decide) (fun c1 => ?_) (fun c1 => ?_)
  · have ht1 := h.1 c1
    refine hb_iconst (pc := 80) (v := 0) dX8_load_80 (by decide) ?_
    refine hb_istore (pc := 81) (i := 4) (ls1 := [some (hb_r 7 0 0), some (hb_r 1 0 0), some (hb_i x2), some (hb_i x3), some (hb_i (0 : Int32)), none]) dX8_load_81 (by decide) rfl ?_
    exact ht1
  · have ht1 := h.2 c1
    refine hb_aload_n (pc := 31) (i := 0) dX8_load_31 rfl rfl ?_
    refine hb_getR (pc := 32) (g1 := 0) dX8_load_32 fw_X8_9 cw_8 rfl (by decide) rfl (by decide) rfl ?_
    refine hb_iload (pc := 35) dX8_load_35 rfl ?_
    refine hb_aload_n (pc := 37) (i := 1) dX8_load_37 rfl rfl ?_
    refine hb_iload_n (pc := 38) (i := 3) dX8_load_38 rfl rfl ?_
    exact hb_callV (pc := 39) (As := [hb_i x3]) (st := [hb_i x4, hb_r 7 0 1]) dX8_load_39 ml_X8_80 mf_X10_at mi_X10_at (ci := 10) rfl rfl (by decide) rfl rfl (Nat.le_of_ble_eq_true rfl) (Nat.le_of_ble_eq_true rfl) ht1 (fun _ _ q => q)
set_option maxRecDepth 20000 in
theorem bk_X8_load_42 {d : Nat} {w : hb_W} {Q : Option hb_V → hb_W → Prop} {x2 : Int32} {x3 : Int32} {x4 : Int32} {xs1 : Int32} {xs2 : Int32} (h : vp_in xs1 400 ∧ (hb_O yX10_at cX10_at 2 (some .int) d [hb_r 1 0 0, hb_i (x3 + (1 : Int32))] (hb_sI w 7 1 0 (upd (hb_aI w 7 1 0) xs1.toNatClampNeg xs2)) (fun rv w1 => hb_R yX8_load cX8_load 6 none (d + 1) 56 [some (hb_r 7 0 0), some (hb_r 1 0 0), some (hb_i x2), some (hb_i x3), some (hb_i x4), none] (rv.toList ++ [hb_i x4, hb_r 7 0 2]) w1 Q))) : hb_R yX8_load cX8_load 6 none (d + 1) 42 [some (hb_r 7 0 0), some (hb_r 1 0 0), some (hb_i x2), some (hb_i x3), some (hb_i x4), none] [hb_i xs2, hb_i xs1, hb_r 7 0 1] w Q := by
  obtain ⟨ho1, hr1⟩ := h
  refine hb_iastx (pc := 42) (f := upd (hb_aI w 7 1 0) xs1.toNatClampNeg xs2) dX8_load_42 rfl (by decide) ho1 rfl ?_
  refine hb_aload_n (pc := 43) (i := 0) dX8_load_43 rfl rfl ?_
  refine hb_getR (pc := 44) (g1 := 0) dX8_load_44 fw_X8_15 cw_8 rfl (by decide) rfl (by decide) rfl ?_
  refine hb_iload (pc := 47) dX8_load_47 rfl ?_
  refine hb_aload_n (pc := 49) (i := 1) dX8_load_49 rfl rfl ?_
  refine hb_iload_n (pc := 50) (i := 3) dX8_load_50 rfl rfl ?_
  refine hb_iconst (pc := 51) (v := 1) dX8_load_51 (by decide) ?_
  refine hb_iadd (pc := 52) dX8_load_52 ?_
  exact hb_callV (pc := 53) (As := [hb_i (x3 + (1 : Int32))]) (st := [hb_i x4, hb_r 7 0 2]) dX8_load_53 ml_X8_80 mf_X10_at mi_X10_at (ci := 10) rfl rfl (by decide) rfl rfl (Nat.le_of_ble_eq_true rfl) (Nat.le_of_ble_eq_true rfl) hr1 (fun _ _ q => q)
set_option maxRecDepth 20000 in
theorem bk_X8_load_56 {d : Nat} {w : hb_W} {Q : Option hb_V → hb_W → Prop} {x2 : Int32} {x3 : Int32} {x4 : Int32} {xs1 : Int32} {xs2 : Int32} (h : vp_in xs1 400 ∧ (hb_O yX10_at cX10_at 2 (some .int) d [hb_r 1 0 0, hb_i (x3 + (2 : Int32))] (hb_sI w 7 2 0 (upd (hb_aI w 7 2 0) xs1.toNatClampNeg xs2)) (fun rv w1 => hb_R yX8_load cX8_load 6 none (d + 1) 70 [some (hb_r 7 0 0), some (hb_r 1 0 0), some (hb_i x2), some (hb_i x3), some (hb_i x4), none] (rv.toList ++ [hb_i x4, hb_r 7 0 3]) w1 Q))) : hb_R yX8_load cX8_load 6 none (d + 1) 56 [some (hb_r 7 0 0), some (hb_r 1 0 0), some (hb_i x2), some (hb_i x3), some (hb_i x4), none] [hb_i xs2, hb_i xs1, hb_r 7 0 2] w Q := by
  obtain ⟨ho1, hr1⟩ := h
  refine hb_iastx (pc := 56) (f := upd (hb_aI w 7 2 0) xs1.toNatClampNeg xs2) dX8_load_56 rfl (by decide) ho1 rfl ?_
  refine hb_aload_n (pc := 57) (i := 0) dX8_load_57 rfl rfl ?_
  refine hb_getR (pc := 58) (g1 := 0) dX8_load_58 fw_X8_18 cw_8 rfl (by decide) rfl (by decide) rfl ?_
  refine hb_iload (pc := 61) dX8_load_61 rfl ?_
  refine hb_aload_n (pc := 63) (i := 1) dX8_load_63 rfl rfl ?_
  refine hb_iload_n (pc := 64) (i := 3) dX8_load_64 rfl rfl ?_
  refine hb_iconst (pc := 65) (v := 2) dX8_load_65 (by decide) ?_
  refine hb_iadd (pc := 66) dX8_load_66 ?_
  exact hb_callV (pc := 67) (As := [hb_i (x3 + (2 : Int32))]) (st := [hb_i x4, hb_r 7 0 3]) dX8_load_67 ml_X8_80 mf_X10_at mi_X10_at (ci := 10) rfl rfl (by decide) rfl rfl (Nat.le_of_ble_eq_true rfl) (Nat.le_of_ble_eq_true rfl) hr1 (fun _ _ q => q)
set_option maxRecDepth 20000 in
theorem bk_X8_load_70 {d : Nat} {w : hb_W} {Q : Option hb_V → hb_W → Prop} {x2 : Int32} {x3 : Int32} {x4 : Int32} {xs1 : Int32} {xs2 : Int32} (h : vp_in xs1 400 ∧ (hb_R yX8_load cX8_load 6 none (d + 1) 22 [some (hb_r 7 0 0), some (hb_r 1 0 0), some (hb_i x2), some (hb_i (x3 + (3 : Int32))), some (hb_i (x4 + (1 : Int32))), none] [] (hb_sI w 7 3 0 (upd (hb_aI w 7 3 0) xs1.toNatClampNeg xs2)) Q)) : hb_R yX8_load cX8_load 6 none (d + 1) 70 [some (hb_r 7 0 0), some (hb_r 1 0 0), some (hb_i x2), some (hb_i x3), some (hb_i x4), none] [hb_i xs2, hb_i xs1, hb_r 7 0 3] w Q := by
  obtain ⟨ho1, hr1⟩ := h
  refine hb_iastx (pc := 70) (f := upd (hb_aI w 7 3 0) xs1.toNatClampNeg xs2) dX8_load_70 rfl (by decide) ho1 rfl ?_
  refine hb_iinc (pc := 71) (v := x3 + (3 : Int32)) (ls1 := [some (hb_r 7 0 0), some (hb_r 1 0 0), some (hb_i x2), some (hb_i (x3 + (3 : Int32))), some (hb_i x4), none]) dX8_load_71 rfl rfl (by decide) rfl ?_
  refine hb_iinc (pc := 74) (v := x4 + (1 : Int32)) (ls1 := [some (hb_r 7 0 0), some (hb_r 1 0 0), some (hb_i x2), some (hb_i (x3 + (3 : Int32))), some (hb_i (x4 + (1 : Int32))), none]) dX8_load_74 rfl rfl (by decide) rfl ?_
  refine hb_goto (pc := 77) (tgt := 22) dX8_load_77 (by decide) ?_
  exact hr1
set_option maxRecDepth 20000 in
theorem bk_X8_load_83 {d : Nat} {w : hb_W} {Q : Option hb_V → hb_W → Prop} {x2 : Int32} {x3 : Int32} {x4 : Int32} (h : ((x2 ≤ x4) → Q none w) ∧ ((¬ x2 ≤ x4) → (((9 : Int32) ≤ x4) → Q none w) ∧ ((¬ (9 : Int32) ≤ x4) → hb_O yX10_at cX10_at 2 (some .int) d [hb_r 1 0 0, hb_i (x3 + x4)] w (fun rv w1 => hb_R yX8_load cX8_load 6 none (d + 1) 104 [some (hb_r 7 0 0), some (hb_r 1 0 0), some (hb_i x2), some (hb_i x3), some (hb_i x4), none] (rv.toList ++ []) w1 Q)))) : hb_R yX8_load cX8_load 6 none (d + 1) 83 [some (hb_r 7 0 0), some (hb_r 1 0 0), some (hb_i x2), some (hb_i x3), some (hb_i x4), none] [] w Q := by
  refine hb_iload (pc := 83) dX8_load_83 rfl ?_
  refine hb_iload_n (pc := 85) (i := 2) dX8_load_85 rfl rfl ?_
  refine hb_icmp_ge (pc := 86) (tgt := 133) dX8_load_86 (by decide) (fun c1 => ?_) (fun c1 => ?_)
  · have ht1 := h.1 c1
    exact hb_vret (pc := 133) dX8_load_133 rfl ht1
  · have ht1 := h.2 c1
    refine hb_iload (pc := 89) dX8_load_89 rfl ?_
    refine hb_bipush (pc := 91) (v := 9) dX8_load_91 (by decide) ?_
    refine hb_icmp_ge (pc := 93) (tgt := 133) dX8_load_93 (by decide) (fun c2 => ?_) (fun c2 => ?_)
    · have ht2 := ht1.1 c2
      exact hb_vret (pc := 133) dX8_load_133 rfl ht2
    · have ht2 := ht1.2 c2
      refine hb_aload_n (pc := 96) (i := 1) dX8_load_96 rfl rfl ?_
      refine hb_iload_n (pc := 97) (i := 3) dX8_load_97 rfl rfl ?_
      refine hb_iload (pc := 98) dX8_load_98 rfl ?_
      refine hb_iadd (pc := 100) dX8_load_100 ?_
      exact hb_callV (pc := 101) (As := [hb_i (x3 + x4)]) (st := []) dX8_load_101 ml_X8_80 mf_X10_at mi_X10_at (ci := 10) rfl rfl (by decide) rfl rfl (Nat.le_of_ble_eq_true rfl) (Nat.le_of_ble_eq_true rfl) ht2 (fun _ _ q => q)
set_option maxRecDepth 20000 in
theorem bk_X8_load_104 {d : Nat} {w : hb_W} {Q : Option hb_V → hb_W → Prop} {x2 : Int32} {x3 : Int32} {x4 : Int32} {xs0 : Int32} (h : ((¬ xs0 = (255 : Int32)) → vp_in x4 9 ∧ (hb_R yX8_load cX8_load 6 none (d + 1) 83 [some (hb_r 7 0 0), some (hb_r 1 0 0), some (hb_i x2), some (hb_i x3), some (hb_i (x4 + (1 : Int32))), some (hb_i xs0)] [] (hb_sI w 7 4 0 (upd (hb_aI w 7 4 0) x4.toNatClampNeg xs0)) Q)) ∧ ((xs0 = (255 : Int32)) → vp_in x4 9 ∧ (hb_R yX8_load cX8_load 6 none (d + 1) 83 [some (hb_r 7 0 0), some (hb_r 1 0 0), some (hb_i x2), some (hb_i x3), some (hb_i (x4 + (1 : Int32))), some (hb_i xs0)] [] (hb_sI w 7 4 0 (upd (hb_aI w 7 4 0) x4.toNatClampNeg (-1 : Int32))) Q))) : hb_R yX8_load cX8_load 6 none (d + 1) 104 [some (hb_r 7 0 0), some (hb_r 1 0 0), some (hb_i x2), some (hb_i x3), some (hb_i x4), none] [hb_i xs0] w Q := by
  refine hb_istore (pc := 104) (i := 5) (ls1 := [some (hb_r 7 0 0), some (hb_r 1 0 0), some (hb_i x2), some (hb_i x3), some (hb_i x4), some (hb_i xs0)]) dX8_load_104 (by decide) rfl ?_
  refine hb_aload_n (pc := 106) (i := 0) dX8_load_106 rfl rfl ?_
  refine hb_getR (pc := 107) (g1 := 0) dX8_load_107 fw_X8_21 cw_8 rfl (by decide) rfl (by decide) rfl ?_
  refine hb_iload (pc := 110) dX8_load_110 rfl ?_
  refine hb_iload (pc := 112) dX8_load_112 rfl ?_
  refine hb_sipush (pc := 114) (v := 255) dX8_load_114 (by decide) ?_
  refine hb_icmp_ne (pc := 117) (tgt := 124) dX8_load_117 (by decide) (fun c1 => ?_) (fun c1 => ?_)
  · have ht1 := h.1 c1
    refine hb_iload (pc := 124) dX8_load_124 rfl ?_
    obtain ⟨ho2, hr2⟩ := ht1
    refine hb_iastx (pc := 126) (f := upd (hb_aI w 7 4 0) x4.toNatClampNeg xs0) dX8_load_126 rfl (by decide) ho2 rfl ?_
    refine hb_iinc (pc := 127) (v := x4 + (1 : Int32)) (ls1 := [some (hb_r 7 0 0), some (hb_r 1 0 0), some (hb_i x2), some (hb_i x3), some (hb_i (x4 + (1 : Int32))), some (hb_i xs0)]) dX8_load_127 rfl rfl (by decide) rfl ?_
    refine hb_goto (pc := 130) (tgt := 83) dX8_load_130 (by decide) ?_
    exact hr2
  · have ht1 := h.2 c1
    refine hb_iconst (pc := 120) (v := -1) dX8_load_120 (by decide) ?_
    refine hb_goto (pc := 121) (tgt := 126) dX8_load_121 (by decide) ?_
    obtain ⟨ho3, hr3⟩ := ht1
    refine hb_iastx (pc := 126) (f := upd (hb_aI w 7 4 0) x4.toNatClampNeg (-1 : Int32)) dX8_load_126 rfl (by decide) ho3 rfl ?_
    refine hb_iinc (pc := 127) (v := x4 + (1 : Int32)) (ls1 := [some (hb_r 7 0 0), some (hb_r 1 0 0), some (hb_i x2), some (hb_i x3), some (hb_i (x4 + (1 : Int32))), some (hb_i xs0)]) dX8_load_127 rfl rfl (by decide) rfl ?_
    refine hb_goto (pc := 130) (tgt := 83) dX8_load_130 (by decide) ?_
    exact hr3
theorem dX9_reckon_0 : decode cX9_reckon 0 = .ok (.iconst 0, 1) := by decide +kernel
theorem dX9_reckon_1 : decode cX9_reckon 1 = .ok (.istore 4, 2) := by decide +kernel
theorem dX9_reckon_3 : decode cX9_reckon 3 = .ok (.iload_n 3, 1) := by decide +kernel
theorem dX9_reckon_4 : decode cX9_reckon 4 = .ok (.aload_n 1, 1) := by decide +kernel
theorem dX9_reckon_5 : decode cX9_reckon 5 = .ok (.getfield 19, 3) := by decide +kernel
theorem dX9_reckon_8 : decode cX9_reckon 8 = .ok (.invokestatic 25, 3) := by decide +kernel
theorem dX9_reckon_11 : decode cX9_reckon 11 = .ok (.istore 5, 2) := by decide +kernel
theorem dX9_reckon_13 : decode cX9_reckon 13 = .ok (.iconst 0, 1) := by decide +kernel
theorem dX9_reckon_14 : decode cX9_reckon 14 = .ok (.iload_n 2, 1) := by decide +kernel
theorem dX9_reckon_15 : decode cX9_reckon 15 = .ok (.invokestatic 31, 3) := by decide +kernel
theorem dX9_reckon_18 : decode cX9_reckon 18 = .ok (.istore 6, 2) := by decide +kernel
theorem dX9_reckon_20 : decode cX9_reckon 20 = .ok (.iload 6, 2) := by decide +kernel
theorem dX9_reckon_22 : decode cX9_reckon 22 = .ok (.iload 5, 2) := by decide +kernel
theorem dX9_reckon_24 : decode cX9_reckon 24 = .ok (.if_icmp .ge 135, 3) := by decide +kernel
theorem dX9_reckon_27 : decode cX9_reckon 27 = .ok (.aload_n 1, 1) := by decide +kernel
theorem dX9_reckon_28 : decode cX9_reckon 28 = .ok (.getfield 34, 3) := by decide +kernel
theorem dX9_reckon_31 : decode cX9_reckon 31 = .ok (.iload 6, 2) := by decide +kernel
theorem dX9_reckon_33 : decode cX9_reckon 33 = .ok (.iaload, 1) := by decide +kernel
theorem dX9_reckon_34 : decode cX9_reckon 34 = .ok (.istore 7, 2) := by decide +kernel
theorem dX9_reckon_36 : decode cX9_reckon 36 = .ok (.iload 7, 2) := by decide +kernel
theorem dX9_reckon_38 : decode cX9_reckon 38 = .ok (.bipush (-11), 2) := by decide +kernel
theorem dX9_reckon_40 : decode cX9_reckon 40 = .ok (.if_icmp .le 32, 3) := by decide +kernel
theorem dX9_reckon_43 : decode cX9_reckon 43 = .ok (.iload 4, 2) := by decide +kernel
theorem dX9_reckon_45 : decode cX9_reckon 45 = .ok (.aload_n 0, 1) := by decide +kernel
theorem dX9_reckon_46 : decode cX9_reckon 46 = .ok (.getfield 15, 3) := by decide +kernel
theorem dX9_reckon_49 : decode cX9_reckon 49 = .ok (.arraylength, 1) := by decide +kernel
theorem dX9_reckon_50 : decode cX9_reckon 50 = .ok (.if_icmp .ge 103, 3) := by decide +kernel
theorem dX9_reckon_53 : decode cX9_reckon 53 = .ok (.aload_n 0, 1) := by decide +kernel
theorem dX9_reckon_54 : decode cX9_reckon 54 = .ok (.getfield 15, 3) := by decide +kernel
theorem dX9_reckon_57 : decode cX9_reckon 57 = .ok (.iload 4, 2) := by decide +kernel
theorem dX9_reckon_59 : decode cX9_reckon 59 = .ok (.aload_n 0, 1) := by decide +kernel
theorem dX9_reckon_60 : decode cX9_reckon 60 = .ok (.iload 7, 2) := by decide +kernel
theorem dX9_reckon_62 : decode cX9_reckon 62 = .ok (.invokevirtual 37, 3) := by decide +kernel
theorem dX9_reckon_65 : decode cX9_reckon 65 = .ok (.iastore, 1) := by decide +kernel
theorem dX9_reckon_66 : decode cX9_reckon 66 = .ok (.iinc 4 1, 3) := by decide +kernel
theorem dX9_reckon_69 : decode cX9_reckon 69 = .ok (.goto 84, 3) := by decide +kernel
theorem dX9_reckon_72 : decode cX9_reckon 72 = .ok (.iload 7, 2) := by decide +kernel
theorem dX9_reckon_74 : decode cX9_reckon 74 = .ok (.bipush (-21), 2) := by decide +kernel
theorem dX9_reckon_76 : decode cX9_reckon 76 = .ok (.if_icmp .le 36, 3) := by decide +kernel
theorem dX9_reckon_79 : decode cX9_reckon 79 = .ok (.iload 4, 2) := by decide +kernel
theorem dX9_reckon_81 : decode cX9_reckon 81 = .ok (.iconst 1, 1) := by decide +kernel
theorem dX9_reckon_82 : decode cX9_reckon 82 = .ok (.if_icmp .lt 71, 3) := by decide +kernel
theorem dX9_reckon_85 : decode cX9_reckon 85 = .ok (.aload_n 0, 1) := by decide +kernel
theorem dX9_reckon_86 : decode cX9_reckon 86 = .ok (.getfield 15, 3) := by decide +kernel
theorem dX9_reckon_89 : decode cX9_reckon 89 = .ok (.iload 4, 2) := by decide +kernel
theorem dX9_reckon_91 : decode cX9_reckon 91 = .ok (.iconst 1, 1) := by decide +kernel
theorem dX9_reckon_92 : decode cX9_reckon 92 = .ok (.isub, 1) := by decide +kernel
theorem dX9_reckon_93 : decode cX9_reckon 93 = .ok (.aload_n 0, 1) := by decide +kernel
theorem dX9_reckon_94 : decode cX9_reckon 94 = .ok (.iload 7, 2) := by decide +kernel
theorem dX9_reckon_96 : decode cX9_reckon 96 = .ok (.aload_n 0, 1) := by decide +kernel
theorem dX9_reckon_97 : decode cX9_reckon 97 = .ok (.getfield 15, 3) := by decide +kernel
theorem dX9_reckon_100 : decode cX9_reckon 100 = .ok (.iload 4, 2) := by decide +kernel
theorem dX9_reckon_102 : decode cX9_reckon 102 = .ok (.iconst 1, 1) := by decide +kernel
theorem dX9_reckon_103 : decode cX9_reckon 103 = .ok (.isub, 1) := by decide +kernel
theorem dX9_reckon_104 : decode cX9_reckon 104 = .ok (.iaload, 1) := by decide +kernel
theorem dX9_reckon_105 : decode cX9_reckon 105 = .ok (.invokevirtual 41, 3) := by decide +kernel
theorem dX9_reckon_108 : decode cX9_reckon 108 = .ok (.iastore, 1) := by decide +kernel
theorem dX9_reckon_109 : decode cX9_reckon 109 = .ok (.goto 44, 3) := by decide +kernel
theorem dX9_reckon_112 : decode cX9_reckon 112 = .ok (.iload 4, 2) := by decide +kernel
theorem dX9_reckon_114 : decode cX9_reckon 114 = .ok (.iconst 2, 1) := by decide +kernel
theorem dX9_reckon_115 : decode cX9_reckon 115 = .ok (.if_icmp .lt 38, 3) := by decide +kernel
theorem dX9_reckon_118 : decode cX9_reckon 118 = .ok (.aload_n 0, 1) := by decide +kernel
theorem dX9_reckon_119 : decode cX9_reckon 119 = .ok (.getfield 15, 3) := by decide +kernel
theorem dX9_reckon_122 : decode cX9_reckon 122 = .ok (.iload 4, 2) := by decide +kernel
theorem dX9_reckon_124 : decode cX9_reckon 124 = .ok (.iconst 2, 1) := by decide +kernel
theorem dX9_reckon_125 : decode cX9_reckon 125 = .ok (.isub, 1) := by decide +kernel
theorem dX9_reckon_126 : decode cX9_reckon 126 = .ok (.iload 7, 2) := by decide +kernel
theorem dX9_reckon_128 : decode cX9_reckon 128 = .ok (.aload_n 0, 1) := by decide +kernel
theorem dX9_reckon_129 : decode cX9_reckon 129 = .ok (.getfield 15, 3) := by decide +kernel
theorem dX9_reckon_132 : decode cX9_reckon 132 = .ok (.iload 4, 2) := by decide +kernel
theorem dX9_reckon_134 : decode cX9_reckon 134 = .ok (.iconst 2, 1) := by decide +kernel
theorem dX9_reckon_135 : decode cX9_reckon 135 = .ok (.isub, 1) := by decide +kernel
theorem dX9_reckon_136 : decode cX9_reckon 136 = .ok (.iaload, 1) := by decide +kernel
theorem dX9_reckon_137 : decode cX9_reckon 137 = .ok (.aload_n 0, 1) := by decide +kernel
theorem dX9_reckon_138 : decode cX9_reckon 138 = .ok (.getfield 15, 3) := by decide +kernel
theorem dX9_reckon_141 : decode cX9_reckon 141 = .ok (.iload 4, 2) := by decide +kernel
theorem dX9_reckon_143 : decode cX9_reckon 143 = .ok (.iconst 1, 1) := by decide +kernel
theorem dX9_reckon_144 : decode cX9_reckon 144 = .ok (.isub, 1) := by decide +kernel
theorem dX9_reckon_145 : decode cX9_reckon 145 = .ok (.iaload, 1) := by decide +kernel
theorem dX9_reckon_146 : decode cX9_reckon 146 = .ok (.invokestatic 44, 3) := by decide +kernel
theorem dX9_reckon_149 : decode cX9_reckon 149 = .ok (.iastore, 1) := by decide +kernel
theorem dX9_reckon_150 : decode cX9_reckon 150 = .ok (.iinc 4 (-1), 3) := by decide +kernel
theorem dX9_reckon_153 : decode cX9_reckon 153 = .ok (.iinc 6 1, 3) := by decide +kernel
theorem dX9_reckon_156 : decode cX9_reckon 156 = .ok (.goto (-136), 3) := by decide +kernel
theorem dX9_reckon_159 : decode cX9_reckon 159 = .ok (.iload 4, 2) := by decide +kernel
theorem dX9_reckon_161 : decode cX9_reckon 161 = .ok (.ifCond .le 12, 3) := by decide +kernel
theorem dX9_reckon_164 : decode cX9_reckon 164 = .ok (.aload_n 0, 1) := by decide +kernel
theorem dX9_reckon_165 : decode cX9_reckon 165 = .ok (.getfield 15, 3) := by decide +kernel
theorem dX9_reckon_168 : decode cX9_reckon 168 = .ok (.iconst 0, 1) := by decide +kernel
theorem dX9_reckon_169 : decode cX9_reckon 169 = .ok (.iaload, 1) := by decide +kernel
theorem dX9_reckon_170 : decode cX9_reckon 170 = .ok (.goto 4, 3) := by decide +kernel
theorem dX9_reckon_173 : decode cX9_reckon 173 = .ok (.iconst 0, 1) := by decide +kernel
theorem dX9_reckon_174 : decode cX9_reckon 174 = .ok (.ireturn, 1) := by decide +kernel
set_option maxRecDepth 20000 in
theorem bk_X9_reckon_0 {d : Nat} {w : hb_W} {Q : Option hb_V → hb_W → Prop} {g1 : Nat} {x2 : Int32} {x3 : Int32} (hg1 : g1 < hb_ct 2) (h : hb_R yX9_reckon cX9_reckon 8 (some .int) (d + 1) 20 [some (hb_r 6 0 0), some (hb_r 2 g1 0), some (hb_i x2), some (hb_i x3), some (hb_i (0 : Int32)), some (hb_i (if (hb_fI w 2 1 g1) < x3 then (hb_fI w 2 1 g1) else x3)), some (hb_i (if (0 : Int32) < x2 then x2 else (0 : Int32))), none] [] w Q) : hb_R yX9_reckon cX9_reckon 8 (some .int) (d + 1) 0 [some (hb_r 6 0 0), some (hb_r 2 g1 0), some (hb_i x2), some (hb_i x3), none, none, none, none] [] w Q := by
  refine hb_iconst (pc := 0) (v := 0) dX9_reckon_0 (by decide) ?_
  refine hb_istore (pc := 1) (i := 4) (ls1 := [some (hb_r 6 0 0), some (hb_r 2 g1 0), some (hb_i x2), some (hb_i x3), some (hb_i (0 : Int32)), none, none, none]) dX9_reckon_1 (by decide) rfl ?_
  refine hb_iload_n (pc := 3) (i := 3) dX9_reckon_3 rfl rfl ?_
  refine hb_aload_n (pc := 4) (i := 1) dX9_reckon_4 rfl rfl ?_
  refine hb_getIx (pc := 5) (x := hb_fI w 2 1 g1) dX9_reckon_5 fw_X9_19 cw_1 rfl hg1 rfl rfl ?_
  refine hb_mmin (pc := 8) dX9_reckon_8 ml_X9_25 (Nat.le_of_ble_eq_true rfl) ?_
  refine hb_istore (pc := 11) (i := 5) (ls1 := [some (hb_r 6 0 0), some (hb_r 2 g1 0), some (hb_i x2), some (hb_i x3), some (hb_i (0 : Int32)), some (hb_i (if (hb_fI w 2 1 g1) < x3 then (hb_fI w 2 1 g1) else x3)), none, none]) dX9_reckon_11 (by decide) rfl ?_
  refine hb_iconst (pc := 13) (v := 0) dX9_reckon_13 (by decide) ?_
  refine hb_iload_n (pc := 14) (i := 2) dX9_reckon_14 rfl rfl ?_
  refine hb_mmax (pc := 15) dX9_reckon_15 ml_X9_31 (Nat.le_of_ble_eq_true rfl) ?_
  refine hb_istore (pc := 18) (i := 6) (ls1 := [some (hb_r 6 0 0), some (hb_r 2 g1 0), some (hb_i x2), some (hb_i x3), some (hb_i (0 : Int32)), some (hb_i (if (hb_fI w 2 1 g1) < x3 then (hb_fI w 2 1 g1) else x3)), some (hb_i (if (0 : Int32) < x2 then x2 else (0 : Int32))), none]) dX9_reckon_18 (by decide) rfl ?_
  exact h
set_option maxRecDepth 20000 in
theorem bk_X9_reckon_20 {d : Nat} {w : hb_W} {Q : Option hb_V → hb_W → Prop} {g1 : Nat} {x2 : Int32} {x3 : Int32} {x4 : Int32} {x5 : Int32} {x6 : Int32} (hg1 : g1 < hb_ct 2) (h : ((x5 ≤ x6) → ((x4 ≤ 0) → Q (some (hb_i (0 : Int32))) w) ∧ ((¬ x4 ≤ 0) → Q (some (hb_i (hb_aI w 6 1 0 (0 : Int32).toNatClampNeg))) w)) ∧ ((¬ x5 ≤ x6) → vp_in x6 1600 ∧ ((((hb_aI w 2 1 g1 x6.toNatClampNeg) ≤ (-11 : Int32)) → (((hb_aI w 2 1 g1 x6.toNatClampNeg) ≤ (-21 : Int32)) → ((x4 < (2 : Int32)) → hb_R yX9_reckon cX9_reckon 8 (some .int) (d + 1) 20 [some (hb_r 6 0 0), some (hb_r 2 g1 0), some (hb_i x2), some (hb_i x3), some (hb_i x4), some (hb_i x5), some (hb_i (x6 + (1 : Int32))), some (hb_i (hb_aI w 2 1 g1 x6.toNatClampNeg))] [] w Q) ∧ ((¬ x4 < (2 : Int32)) → vp_in (x4 - (2 : Int32)) 64 ∧ (vp_in (x4 - (1 : Int32)) 64 ∧ (hb_O yX9_joined cX9_joined 3 (some .int) d [hb_i (hb_aI w 2 1 g1 x6.toNatClampNeg), hb_i (hb_aI w 6 1 0 (x4 - (2 : Int32)).toNatClampNeg), hb_i (hb_aI w 6 1 0 (x4 - (1 : Int32)).toNatClampNeg)] w (fun rv w1 => hb_R yX9_reckon cX9_reckon 8 (some .int) (d + 1) 149 [some (hb_r 6 0 0), some (hb_r 2 g1 0), some (hb_i x2), some (hb_i x3), some (hb_i x4), some (hb_i x5), some (hb_i x6), some (hb_i (hb_aI w 2 1 g1 x6.toNatClampNeg))] (rv.toList ++ [hb_i (x4 - (2 : Int32)), hb_r 6 0 1]) w1 Q))))) ∧ ((¬ (hb_aI w 2 1 g1 x6.toNatClampNeg) ≤ (-21 : Int32)) → ((x4 < (1 : Int32)) → hb_R yX9_reckon cX9_reckon 8 (some .int) (d + 1) 20 [some (hb_r 6 0 0), some (hb_r 2 g1 0), some (hb_i x2), some (hb_i x3), some (hb_i x4), some (hb_i x5), some (hb_i (x6 + (1 : Int32))), some (hb_i (hb_aI w 2 1 g1 x6.toNatClampNeg))] [] w Q) ∧ ((¬ x4 < (1 : Int32)) → vp_in (x4 - (1 : Int32)) 64 ∧ (hb_O yX9_single cX9_single 3 (some .int) d [hb_r 6 0 0, hb_i (hb_aI w 2 1 g1 x6.toNatClampNeg), hb_i (hb_aI w 6 1 0 (x4 - (1 : Int32)).toNatClampNeg)] w (fun rv w1 => hb_R yX9_reckon cX9_reckon 8 (some .int) (d + 1) 108 [some (hb_r 6 0 0), some (hb_r 2 g1 0), some (hb_i x2), some (hb_i x3), some (hb_i x4), some (hb_i x5), some (hb_i x6), some (hb_i (hb_aI w 2 1 g1 x6.toNatClampNeg))] (rv.toList ++ [hb_i (x4 - (1 : Int32)), hb_r 6 0 1]) w1 Q))))) ∧ ((¬ (hb_aI w 2 1 g1 x6.toNatClampNeg) ≤ (-11 : Int32)) → (((64 : Int32) ≤ x4) → hb_R yX9_reckon cX9_reckon 8 (some .int) (d + 1) 20 [some (hb_r 6 0 0), some (hb_r 2 g1 0), some (hb_i x2), some (hb_i x3), some (hb_i x4), some (hb_i x5), some (hb_i (x6 + (1 : Int32))), some (hb_i (hb_aI w 2 1 g1 x6.toNatClampNeg))] [] w Q) ∧ ((¬ (64 : Int32) ≤ x4) → hb_O yX9_valueOf cX9_valueOf 2 (some .int) d [hb_r 6 0 0, hb_i (hb_aI w 2 1 g1 x6.toNatClampNeg)] w (fun rv w1 => hb_R yX9_reckon cX9_reckon 8 (some .int) (d + 1) 65 [some (hb_r 6 0 0), some (hb_r 2 g1 0), some (hb_i x2), some (hb_i x3), some (hb_i x4), some (hb_i x5), some (hb_i x6), some (hb_i (hb_aI w 2 1 g1 x6.toNatClampNeg))] (rv.toList ++ [hb_i x4, hb_r 6 0 1]) w1 Q)))))) : hb_R yX9_reckon cX9_reckon 8 (some .int) (d + 1) 20 [some (hb_r 6 0 0), some (hb_r 2 g1 0), some (hb_i x2), some (hb_i x3), some (hb_i x4), some (hb_i x5), some (hb_i x6), none] [] w Q := by
  refine hb_iload (pc := 20) dX9_reckon_20 rfl ?_
  refine hb_iload (pc := 22) dX9_reckon_22 rfl ?_
  refine hb_icmp_ge (pc := 24) (tgt := 159) dX9_reckon_24 (by decide) (fun c1 => ?_) (fun c1 => ?_)
  · have ht1 := h.1 c1
    refine hb_iload (pc := 159) dX9_reckon_159 rfl ?_
    refine hb_if_le (pc := 161) (tgt := 173) dX9_reckon_161 (by decide) (fun c2 => ?_) (fun c2 => ?_)
    · have ht2 := ht1.1 c2
      refine hb_iconst (pc := 173) (v := 0) dX9_reckon_173 (by decide) ?_
      exact hb_iret (pc := 174) dX9_reckon_174 rfl ht2
    · have ht2 := ht1.2 c2
      refine hb_aload_n (pc := 164) (i := 0) dX9_reckon_164 rfl rfl ?_
      refine hb_getR (pc := 165) (g1 := 0) dX9_reckon_165 fw_X9_15 cw_9 rfl (by decide) rfl (by decide) rfl ?_
      refine hb_iconst (pc := 168) (v := 0) dX9_reckon_168 (by decide) ?_
      refine hb_ialdx (pc := 169) (x := hb_aI w 6 1 0 (0 : Int32).toNatClampNeg) dX9_reckon_169 (n := 64) rfl (by decide) (by unfold vp_in; decide) rfl ?_
      refine hb_goto (pc := 170) (tgt := 174) dX9_reckon_170 (by decide) ?_
      exact hb_iret (pc := 174) dX9_reckon_174 rfl ht2
  · have ht1 := h.2 c1
    refine hb_aload_n (pc := 27) (i := 1) dX9_reckon_27 rfl rfl ?_
    refine hb_getR (pc := 28) (g1 := g1) dX9_reckon_28 fw_X9_34 cw_1 rfl hg1 rfl (by decide) rfl ?_
    refine hb_iload (pc := 31) dX9_reckon_31 rfl ?_
    obtain ⟨ho3, hr3⟩ := ht1
    refine hb_ialdx (pc := 33) (x := hb_aI w 2 1 g1 x6.toNatClampNeg) dX9_reckon_33 rfl hg1 ho3 rfl ?_
    refine hb_istore (pc := 34) (i := 7) (ls1 := [some (hb_r 6 0 0), some (hb_r 2 g1 0), some (hb_i x2), some (hb_i x3), some (hb_i x4), some (hb_i x5), some (hb_i x6), some (hb_i (hb_aI w 2 1 g1 x6.toNatClampNeg))]) dX9_reckon_34 (by decide) rfl ?_
    refine hb_iload (pc := 36) dX9_reckon_36 rfl ?_
    refine hb_bipush (pc := 38) (v := -11) dX9_reckon_38 (by decide) ?_
    refine hb_icmp_le (pc := 40) (tgt := 72) dX9_reckon_40 (by decide) (fun c4 => ?_) (fun c4 => ?_)
    · have ht4 := hr3.1 c4
      refine hb_iload (pc := 72) dX9_reckon_72 rfl ?_
      refine hb_bipush (pc := 74) (v := -21) dX9_reckon_74 (by decide) ?_
      refine hb_icmp_le (pc := 76) (tgt := 112) dX9_reckon_76 (by decide) (fun c5 => ?_) (fun c5 => ?_)
      · have ht5 := ht4.1 c5
        refine hb_iload (pc := 112) dX9_reckon_112 rfl ?_
        refine hb_iconst (pc := 114) (v := 2) dX9_reckon_114 (by decide) ?_
        refine hb_icmp_lt (pc := 115) (tgt := 153) dX9_reckon_115 (by decide) (fun c6 => ?_) (fun c6 => ?_)
        · have ht6 := ht5.1 c6
          refine hb_iinc (pc := 153) (v := x6 + (1 : Int32)) (ls1 := [some (hb_r 6 0 0), some (hb_r 2 g1 0), some (hb_i x2), some (hb_i x3), some (hb_i x4), some (hb_i x5), some (hb_i (x6 + (1 : Int32))), some (hb_i (hb_aI w 2 1 g1 x6.toNatClampNeg))]) dX9_reckon_153 rfl rfl (by decide) rfl ?_
          refine hb_goto (pc := 156) (tgt := 20) dX9_reckon_156 (by decide) ?_
          exact ht6
        · have ht6 := ht5.2 c6
          refine hb_aload_n (pc := 118) (i := 0) dX9_reckon_118 rfl rfl ?_
          refine hb_getR (pc := 119) (g1 := 0) dX9_reckon_119 fw_X9_15 cw_9 rfl (by decide) rfl (by decide) rfl ?_
          refine hb_iload (pc := 122) dX9_reckon_122 rfl ?_
          refine hb_iconst (pc := 124) (v := 2) dX9_reckon_124 (by decide) ?_
          refine hb_isub (pc := 125) dX9_reckon_125 ?_
          refine hb_iload (pc := 126) dX9_reckon_126 rfl ?_
          refine hb_aload_n (pc := 128) (i := 0) dX9_reckon_128 rfl rfl ?_
          refine hb_getR (pc := 129) (g1 := 0) dX9_reckon_129 fw_X9_15 cw_9 rfl (by decide) rfl (by decide) rfl ?_
          refine hb_iload (pc := 132) dX9_reckon_132 rfl ?_
          refine hb_iconst (pc := 134) (v := 2) dX9_reckon_134 (by decide) ?_
          refine hb_isub (pc := 135) dX9_reckon_135 ?_
          obtain ⟨ho7, hr7⟩ := ht6
          refine hb_ialdx (pc := 136) (x := hb_aI w 6 1 0 (x4 - (2 : Int32)).toNatClampNeg) dX9_reckon_136 rfl (by decide) ho7 rfl ?_
          refine hb_aload_n (pc := 137) (i := 0) dX9_reckon_137 rfl rfl ?_
          refine hb_getR (pc := 138) (g1 := 0) dX9_reckon_138 fw_X9_15 cw_9 rfl (by decide) rfl (by decide) rfl ?_
          refine hb_iload (pc := 141) dX9_reckon_141 rfl ?_
          refine hb_iconst (pc := 143) (v := 1) dX9_reckon_143 (by decide) ?_
          refine hb_isub (pc := 144) dX9_reckon_144 ?_
          obtain ⟨ho8, hr8⟩ := hr7
          refine hb_ialdx (pc := 145) (x := hb_aI w 6 1 0 (x4 - (1 : Int32)).toNatClampNeg) dX9_reckon_145 rfl (by decide) ho8 rfl ?_
          exact hb_callS (pc := 146) (As := [hb_i (hb_aI w 2 1 g1 x6.toNatClampNeg), hb_i (hb_aI w 6 1 0 (x4 - (2 : Int32)).toNatClampNeg), hb_i (hb_aI w 6 1 0 (x4 - (1 : Int32)).toNatClampNeg)]) (st := [hb_i (x4 - (2 : Int32)), hb_r 6 0 1]) dX9_reckon_146 ml_X9_44 mf_X9_joined ms_X9_joined rfl rfl (Nat.le_of_ble_eq_true rfl) (Nat.le_of_ble_eq_true rfl) hr8 (fun _ _ q => q)
      · have ht5 := ht4.2 c5
        refine hb_iload (pc := 79) dX9_reckon_79 rfl ?_
        refine hb_iconst (pc := 81) (v := 1) dX9_reckon_81 (by decide) ?_
        refine hb_icmp_lt (pc := 82) (tgt := 153) dX9_reckon_82 (by decide) (fun c9 => ?_) (fun c9 => ?_)
        · have ht9 := ht5.1 c9
          refine hb_iinc (pc := 153) (v := x6 + (1 : Int32)) (ls1 := [some (hb_r 6 0 0), some (hb_r 2 g1 0), some (hb_i x2), some (hb_i x3), some (hb_i x4), some (hb_i x5), some (hb_i (x6 + (1 : Int32))), some (hb_i (hb_aI w 2 1 g1 x6.toNatClampNeg))]) dX9_reckon_153 rfl rfl (by decide) rfl ?_
          refine hb_goto (pc := 156) (tgt := 20) dX9_reckon_156 (by decide) ?_
          exact ht9
        · have ht9 := ht5.2 c9
          refine hb_aload_n (pc := 85) (i := 0) dX9_reckon_85 rfl rfl ?_
          refine hb_getR (pc := 86) (g1 := 0) dX9_reckon_86 fw_X9_15 cw_9 rfl (by decide) rfl (by decide) rfl ?_
          refine hb_iload (pc := 89) dX9_reckon_89 rfl ?_
          refine hb_iconst (pc := 91) (v := 1) dX9_reckon_91 (by decide) ?_
          refine hb_isub (pc := 92) dX9_reckon_92 ?_
          refine hb_aload_n (pc := 93) (i := 0) dX9_reckon_93 rfl rfl ?_
          refine hb_iload (pc := 94) dX9_reckon_94 rfl ?_
          refine hb_aload_n (pc := 96) (i := 0) dX9_reckon_96 rfl rfl ?_
          refine hb_getR (pc := 97) (g1 := 0) dX9_reckon_97 fw_X9_15 cw_9 rfl (by decide) rfl (by decide) rfl ?_
          refine hb_iload (pc := 100) dX9_reckon_100 rfl ?_
          refine hb_iconst (pc := 102) (v := 1) dX9_reckon_102 (by decide) ?_
          refine hb_isub (pc := 103) dX9_reckon_103 ?_
          obtain ⟨ho10, hr10⟩ := ht9
          refine hb_ialdx (pc := 104) (x := hb_aI w 6 1 0 (x4 - (1 : Int32)).toNatClampNeg) dX9_reckon_104 rfl (by decide) ho10 rfl ?_
          exact hb_callV (pc := 105) (As := [hb_i (hb_aI w 2 1 g1 x6.toNatClampNeg), hb_i (hb_aI w 6 1 0 (x4 - (1 : Int32)).toNatClampNeg)]) (st := [hb_i (x4 - (1 : Int32)), hb_r 6 0 1]) dX9_reckon_105 ml_X9_41 mf_X9_single mi_X9_single (ci := 9) rfl rfl (by decide) rfl rfl (Nat.le_of_ble_eq_true rfl) (Nat.le_of_ble_eq_true rfl) hr10 (fun _ _ q => q)
    · have ht4 := hr3.2 c4
      refine hb_iload (pc := 43) dX9_reckon_43 rfl ?_
      refine hb_aload_n (pc := 45) (i := 0) dX9_reckon_45 rfl rfl ?_
      refine hb_getR (pc := 46) (g1 := 0) dX9_reckon_46 fw_X9_15 cw_9 rfl (by decide) rfl (by decide) rfl ?_
      refine hb_alen (pc := 49) (v := (64 : Int32)) dX9_reckon_49 rfl (by decide) (by decide) rfl ?_
      refine hb_icmp_ge (pc := 50) (tgt := 153) dX9_reckon_50 (by decide) (fun c11 => ?_) (fun c11 => ?_)
      · have ht11 := ht4.1 c11
        refine hb_iinc (pc := 153) (v := x6 + (1 : Int32)) (ls1 := [some (hb_r 6 0 0), some (hb_r 2 g1 0), some (hb_i x2), some (hb_i x3), some (hb_i x4), some (hb_i x5), some (hb_i (x6 + (1 : Int32))), some (hb_i (hb_aI w 2 1 g1 x6.toNatClampNeg))]) dX9_reckon_153 rfl rfl (by decide) rfl ?_
        refine hb_goto (pc := 156) (tgt := 20) dX9_reckon_156 (by decide) ?_
        exact ht11
      · have ht11 := ht4.2 c11
        refine hb_aload_n (pc := 53) (i := 0) dX9_reckon_53 rfl rfl ?_
        refine hb_getR (pc := 54) (g1 := 0) dX9_reckon_54 fw_X9_15 cw_9 rfl (by decide) rfl (by decide) rfl ?_
        refine hb_iload (pc := 57) dX9_reckon_57 rfl ?_
        refine hb_aload_n (pc := 59) (i := 0) dX9_reckon_59 rfl rfl ?_
        refine hb_iload (pc := 60) dX9_reckon_60 rfl ?_
        exact hb_callV (pc := 62) (As := [hb_i (hb_aI w 2 1 g1 x6.toNatClampNeg)]) (st := [hb_i x4, hb_r 6 0 1]) dX9_reckon_62 ml_X9_37 mf_X9_valueOf mi_X9_valueOf (ci := 9) rfl rfl (by decide) rfl rfl (Nat.le_of_ble_eq_true rfl) (Nat.le_of_ble_eq_true rfl) ht11 (fun _ _ q => q)
set_option maxRecDepth 20000 in
theorem bk_X9_reckon_65 {d : Nat} {w : hb_W} {Q : Option hb_V → hb_W → Prop} {g1 : Nat} {x2 : Int32} {x3 : Int32} {x4 : Int32} {x5 : Int32} {x6 : Int32} {x7 : Int32} {xs1 : Int32} {xs2 : Int32} (hg1 : g1 < hb_ct 2) (h : vp_in xs1 64 ∧ (hb_R yX9_reckon cX9_reckon 8 (some .int) (d + 1) 20 [some (hb_r 6 0 0), some (hb_r 2 g1 0), some (hb_i x2), some (hb_i x3), some (hb_i (x4 + (1 : Int32))), some (hb_i x5), some (hb_i (x6 + (1 : Int32))), some (hb_i x7)] [] (hb_sI w 6 1 0 (upd (hb_aI w 6 1 0) xs1.toNatClampNeg xs2)) Q)) : hb_R yX9_reckon cX9_reckon 8 (some .int) (d + 1) 65 [some (hb_r 6 0 0), some (hb_r 2 g1 0), some (hb_i x2), some (hb_i x3), some (hb_i x4), some (hb_i x5), some (hb_i x6), some (hb_i x7)] [hb_i xs2, hb_i xs1, hb_r 6 0 1] w Q := by
  obtain ⟨ho1, hr1⟩ := h
  refine hb_iastx (pc := 65) (f := upd (hb_aI w 6 1 0) xs1.toNatClampNeg xs2) dX9_reckon_65 rfl (by decide) ho1 rfl ?_
  refine hb_iinc (pc := 66) (v := x4 + (1 : Int32)) (ls1 := [some (hb_r 6 0 0), some (hb_r 2 g1 0), some (hb_i x2), some (hb_i x3), some (hb_i (x4 + (1 : Int32))), some (hb_i x5), some (hb_i x6), some (hb_i x7)]) dX9_reckon_66 rfl rfl (by decide) rfl ?_
  refine hb_goto (pc := 69) (tgt := 153) dX9_reckon_69 (by decide) ?_
  refine hb_iinc (pc := 153) (v := x6 + (1 : Int32)) (ls1 := [some (hb_r 6 0 0), some (hb_r 2 g1 0), some (hb_i x2), some (hb_i x3), some (hb_i (x4 + (1 : Int32))), some (hb_i x5), some (hb_i (x6 + (1 : Int32))), some (hb_i x7)]) dX9_reckon_153 rfl rfl (by decide) rfl ?_
  refine hb_goto (pc := 156) (tgt := 20) dX9_reckon_156 (by decide) ?_
  exact hr1
set_option maxRecDepth 20000 in
theorem bk_X9_reckon_108 {d : Nat} {w : hb_W} {Q : Option hb_V → hb_W → Prop} {g1 : Nat} {x2 : Int32} {x3 : Int32} {x4 : Int32} {x5 : Int32} {x6 : Int32} {x7 : Int32} {xs1 : Int32} {xs2 : Int32} (hg1 : g1 < hb_ct 2) (h : vp_in xs1 64 ∧ (hb_R yX9_reckon cX9_reckon 8 (some .int) (d + 1) 20 [some (hb_r 6 0 0), some (hb_r 2 g1 0), some (hb_i x2), some (hb_i x3), some (hb_i x4), some (hb_i x5), some (hb_i (x6 + (1 : Int32))), some (hb_i x7)] [] (hb_sI w 6 1 0 (upd (hb_aI w 6 1 0) xs1.toNatClampNeg xs2)) Q)) : hb_R yX9_reckon cX9_reckon 8 (some .int) (d + 1) 108 [some (hb_r 6 0 0), some (hb_r 2 g1 0), some (hb_i x2), some (hb_i x3), some (hb_i x4), some (hb_i x5), some (hb_i x6), some (hb_i x7)] [hb_i xs2, hb_i xs1, hb_r 6 0 1] w Q := by
  obtain ⟨ho1, hr1⟩ := h
  refine hb_iastx (pc := 108) (f := upd (hb_aI w 6 1 0) xs1.toNatClampNeg xs2) dX9_reckon_108 rfl (by decide) ho1 rfl ?_
  refine hb_goto (pc := 109) (tgt := 153) dX9_reckon_109 (by decide) ?_
  refine hb_iinc (pc := 153) (v := x6 + (1 : Int32)) (ls1 := [some (hb_r 6 0 0), some (hb_r 2 g1 0), some (hb_i x2), some (hb_i x3), some (hb_i x4), some (hb_i x5), some (hb_i (x6 + (1 : Int32))), some (hb_i x7)]) dX9_reckon_153 rfl rfl (by decide) rfl ?_
  refine hb_goto (pc := 156) (tgt := 20) dX9_reckon_156 (by decide) ?_
  exact hr1
set_option maxRecDepth 20000 in
theorem bk_X9_reckon_149 {d : Nat} {w : hb_W} {Q : Option hb_V → hb_W → Prop} {g1 : Nat} {x2 : Int32} {x3 : Int32} {x4 : Int32} {x5 : Int32} {x6 : Int32} {x7 : Int32} {xs1 : Int32} {xs2 : Int32} (hg1 : g1 < hb_ct 2) (h : vp_in xs1 64 ∧ (hb_R yX9_reckon cX9_reckon 8 (some .int) (d + 1) 20 [some (hb_r 6 0 0), some (hb_r 2 g1 0), some (hb_i x2), some (hb_i x3), some (hb_i (x4 + (-1 : Int32))), some (hb_i x5), some (hb_i (x6 + (1 : Int32))), some (hb_i x7)] [] (hb_sI w 6 1 0 (upd (hb_aI w 6 1 0) xs1.toNatClampNeg xs2)) Q)) : hb_R yX9_reckon cX9_reckon 8 (some .int) (d + 1) 149 [some (hb_r 6 0 0), some (hb_r 2 g1 0), some (hb_i x2), some (hb_i x3), some (hb_i x4), some (hb_i x5), some (hb_i x6), some (hb_i x7)] [hb_i xs2, hb_i xs1, hb_r 6 0 1] w Q := by
  obtain ⟨ho1, hr1⟩ := h
  refine hb_iastx (pc := 149) (f := upd (hb_aI w 6 1 0) xs1.toNatClampNeg xs2) dX9_reckon_149 rfl (by decide) ho1 rfl ?_
  refine hb_iinc (pc := 150) (v := x4 + (-1 : Int32)) (ls1 := [some (hb_r 6 0 0), some (hb_r 2 g1 0), some (hb_i x2), some (hb_i x3), some (hb_i (x4 + (-1 : Int32))), some (hb_i x5), some (hb_i x6), some (hb_i x7)]) dX9_reckon_150 rfl rfl (by decide) rfl ?_
  refine hb_iinc (pc := 153) (v := x6 + (1 : Int32)) (ls1 := [some (hb_r 6 0 0), some (hb_r 2 g1 0), some (hb_i x2), some (hb_i x3), some (hb_i (x4 + (-1 : Int32))), some (hb_i x5), some (hb_i (x6 + (1 : Int32))), some (hb_i x7)]) dX9_reckon_153 rfl rfl (by decide) rfl ?_
  refine hb_goto (pc := 156) (tgt := 20) dX9_reckon_156 (by decide) ?_
  exact hr1
theorem dX9_valueOf_0 : decode cX9_valueOf 0 = .ok (.iload_n 1, 1) := by decide +kernel
theorem dX9_valueOf_1 : decode cX9_valueOf 1 = .ok (.tableswitch 78 (-7) (-1) #[73, 68, 63, 58, 53, 48, 43], 43) := by decide +kernel
theorem dX9_valueOf_44 : decode cX9_valueOf 44 = .ok (.aload_n 0, 1) := by decide +kernel
theorem dX9_valueOf_45 : decode cX9_valueOf 45 = .ok (.getfield 48, 3) := by decide +kernel
theorem dX9_valueOf_48 : decode cX9_valueOf 48 = .ok (.ireturn, 1) := by decide +kernel
theorem dX9_valueOf_49 : decode cX9_valueOf 49 = .ok (.aload_n 0, 1) := by decide +kernel
theorem dX9_valueOf_50 : decode cX9_valueOf 50 = .ok (.getfield 51, 3) := by decide +kernel
theorem dX9_valueOf_53 : decode cX9_valueOf 53 = .ok (.ireturn, 1) := by decide +kernel
theorem dX9_valueOf_54 : decode cX9_valueOf 54 = .ok (.aload_n 0, 1) := by decide +kernel
theorem dX9_valueOf_55 : decode cX9_valueOf 55 = .ok (.getfield 54, 3) := by decide +kernel
theorem dX9_valueOf_58 : decode cX9_valueOf 58 = .ok (.ireturn, 1) := by decide +kernel
theorem dX9_valueOf_59 : decode cX9_valueOf 59 = .ok (.aload_n 0, 1) := by decide +kernel
theorem dX9_valueOf_60 : decode cX9_valueOf 60 = .ok (.getfield 57, 3) := by decide +kernel
theorem dX9_valueOf_63 : decode cX9_valueOf 63 = .ok (.ireturn, 1) := by decide +kernel
theorem dX9_valueOf_64 : decode cX9_valueOf 64 = .ok (.aload_n 0, 1) := by decide +kernel
theorem dX9_valueOf_65 : decode cX9_valueOf 65 = .ok (.getfield 60, 3) := by decide +kernel
theorem dX9_valueOf_68 : decode cX9_valueOf 68 = .ok (.ireturn, 1) := by decide +kernel
theorem dX9_valueOf_69 : decode cX9_valueOf 69 = .ok (.aload_n 0, 1) := by decide +kernel
theorem dX9_valueOf_70 : decode cX9_valueOf 70 = .ok (.getfield 63, 3) := by decide +kernel
theorem dX9_valueOf_73 : decode cX9_valueOf 73 = .ok (.ireturn, 1) := by decide +kernel
theorem dX9_valueOf_74 : decode cX9_valueOf 74 = .ok (.aload_n 0, 1) := by decide +kernel
theorem dX9_valueOf_75 : decode cX9_valueOf 75 = .ok (.getfield 66, 3) := by decide +kernel
theorem dX9_valueOf_78 : decode cX9_valueOf 78 = .ok (.ireturn, 1) := by decide +kernel
theorem dX9_valueOf_79 : decode cX9_valueOf 79 = .ok (.iload_n 1, 1) := by decide +kernel
theorem dX9_valueOf_80 : decode cX9_valueOf 80 = .ok (.ireturn, 1) := by decide +kernel
set_option maxRecDepth 20000 in
theorem bk_X9_valueOf_0 {d : Nat} {w : hb_W} {Q : Option hb_V → hb_W → Prop} {x1 : Int32} (h : (x1 = (-7 : Int32) → Q (some (hb_i (hb_fI w 6 6 0))) w) ∧ (x1 = (-6 : Int32) → Q (some (hb_i (hb_fI w 6 5 0))) w) ∧ (x1 = (-5 : Int32) → Q (some (hb_i (hb_fI w 6 4 0))) w) ∧ (x1 = (-4 : Int32) → Q (some (hb_i (hb_fI w 6 3 0))) w) ∧ (x1 = (-3 : Int32) → Q (some (hb_i (hb_fI w 6 2 0))) w) ∧ (x1 = (-2 : Int32) → Q (some (hb_i (hb_fI w 6 1 0))) w) ∧ (x1 = (-1 : Int32) → Q (some (hb_i (hb_fI w 6 0 0))) w) ∧ (¬ x1 = (-7 : Int32) → ¬ x1 = (-6 : Int32) → ¬ x1 = (-5 : Int32) → ¬ x1 = (-4 : Int32) → ¬ x1 = (-3 : Int32) → ¬ x1 = (-2 : Int32) → ¬ x1 = (-1 : Int32) → Q (some (hb_i x1)) w)) : hb_R yX9_valueOf cX9_valueOf 2 (some .int) d 0 [some (hb_r 6 0 0), some (hb_i x1)] [] w Q := by
  refine hb_iload_n (pc := 0) (i := 1) dX9_valueOf_0 rfl rfl ?_
  by_cases e1_0 : x1 = (-7 : Int32)
  · have hk1_0 := h.1 e1_0
    have ei : x1.toInt = -7 := by rw [e1_0]; rfl
    refine hb_tabIn (pc := 1) (tgt := 74) (off := 73) dX9_valueOf_1 (by rw [ei]; decide) (by rw [ei]; decide) (by rw [ei]; rfl) (by decide) ?_
    refine hb_aload_n (pc := 74) (i := 0) dX9_valueOf_74 rfl rfl ?_
    refine hb_getIx (pc := 75) (x := hb_fI w 6 6 0) dX9_valueOf_75 fw_X9_66 cw_9 rfl (by decide) rfl rfl ?_
    exact hb_iret (pc := 78) dX9_valueOf_78 rfl hk1_0
  by_cases e1_1 : x1 = (-6 : Int32)
  · have hk1_1 := h.2.1 e1_1
    have ei : x1.toInt = -6 := by rw [e1_1]; rfl
    refine hb_tabIn (pc := 1) (tgt := 69) (off := 68) dX9_valueOf_1 (by rw [ei]; decide) (by rw [ei]; decide) (by rw [ei]; rfl) (by decide) ?_
    refine hb_aload_n (pc := 69) (i := 0) dX9_valueOf_69 rfl rfl ?_
    refine hb_getIx (pc := 70) (x := hb_fI w 6 5 0) dX9_valueOf_70 fw_X9_63 cw_9 rfl (by decide) rfl rfl ?_
    exact hb_iret (pc := 73) dX9_valueOf_73 rfl hk1_1
  by_cases e1_2 : x1 = (-5 : Int32)
  · have hk1_2 := h.2.2.1 e1_2
    have ei : x1.toInt = -5 := by rw [e1_2]; rfl
    refine hb_tabIn (pc := 1) (tgt := 64) (off := 63) dX9_valueOf_1 (by rw [ei]; decide) (by rw [ei]; decide) (by rw [ei]; rfl) (by decide) ?_
    refine hb_aload_n (pc := 64) (i := 0) dX9_valueOf_64 rfl rfl ?_
    refine hb_getIx (pc := 65) (x := hb_fI w 6 4 0) dX9_valueOf_65 fw_X9_60 cw_9 rfl (by decide) rfl rfl ?_
    exact hb_iret (pc := 68) dX9_valueOf_68 rfl hk1_2
  by_cases e1_3 : x1 = (-4 : Int32)
  · have hk1_3 := h.2.2.2.1 e1_3
    have ei : x1.toInt = -4 := by rw [e1_3]; rfl
    refine hb_tabIn (pc := 1) (tgt := 59) (off := 58) dX9_valueOf_1 (by rw [ei]; decide) (by rw [ei]; decide) (by rw [ei]; rfl) (by decide) ?_
    refine hb_aload_n (pc := 59) (i := 0) dX9_valueOf_59 rfl rfl ?_
    refine hb_getIx (pc := 60) (x := hb_fI w 6 3 0) dX9_valueOf_60 fw_X9_57 cw_9 rfl (by decide) rfl rfl ?_
    exact hb_iret (pc := 63) dX9_valueOf_63 rfl hk1_3
  by_cases e1_4 : x1 = (-3 : Int32)
  · have hk1_4 := h.2.2.2.2.1 e1_4
    have ei : x1.toInt = -3 := by rw [e1_4]; rfl
    refine hb_tabIn (pc := 1) (tgt := 54) (off := 53) dX9_valueOf_1 (by rw [ei]; decide) (by rw [ei]; decide) (by rw [ei]; rfl) (by decide) ?_
    refine hb_aload_n (pc := 54) (i := 0) dX9_valueOf_54 rfl rfl ?_
    refine hb_getIx (pc := 55) (x := hb_fI w 6 2 0) dX9_valueOf_55 fw_X9_54 cw_9 rfl (by decide) rfl rfl ?_
    exact hb_iret (pc := 58) dX9_valueOf_58 rfl hk1_4
  by_cases e1_5 : x1 = (-2 : Int32)
  · have hk1_5 := h.2.2.2.2.2.1 e1_5
    have ei : x1.toInt = -2 := by rw [e1_5]; rfl
    refine hb_tabIn (pc := 1) (tgt := 49) (off := 48) dX9_valueOf_1 (by rw [ei]; decide) (by rw [ei]; decide) (by rw [ei]; rfl) (by decide) ?_
    refine hb_aload_n (pc := 49) (i := 0) dX9_valueOf_49 rfl rfl ?_
    refine hb_getIx (pc := 50) (x := hb_fI w 6 1 0) dX9_valueOf_50 fw_X9_51 cw_9 rfl (by decide) rfl rfl ?_
    exact hb_iret (pc := 53) dX9_valueOf_53 rfl hk1_5
  by_cases e1_6 : x1 = (-1 : Int32)
  · have hk1_6 := h.2.2.2.2.2.2.1 e1_6
    have ei : x1.toInt = -1 := by rw [e1_6]; rfl
    refine hb_tabIn (pc := 1) (tgt := 44) (off := 43) dX9_valueOf_1 (by rw [ei]; decide) (by rw [ei]; decide) (by rw [ei]; rfl) (by decide) ?_
    refine hb_aload_n (pc := 44) (i := 0) dX9_valueOf_44 rfl rfl ?_
    refine hb_getIx (pc := 45) (x := hb_fI w 6 0 0) dX9_valueOf_45 fw_X9_48 cw_9 rfl (by decide) rfl rfl ?_
    exact hb_iret (pc := 48) dX9_valueOf_48 rfl hk1_6
  have hk1_d := h.2.2.2.2.2.2.2 e1_0 e1_1 e1_2 e1_3 e1_4 e1_5 e1_6
  have n1_0 := lv_neT (a := -7) e1_0 rfl
  have n1_1 := lv_neT (a := -6) e1_1 rfl
  have n1_2 := lv_neT (a := -5) e1_2 rfl
  have n1_3 := lv_neT (a := -4) e1_3 rfl
  have n1_4 := lv_neT (a := -3) e1_4 rfl
  have n1_5 := lv_neT (a := -2) e1_5 rfl
  have n1_6 := lv_neT (a := -1) e1_6 rfl
  refine hb_tabOut (pc := 1) (tgt := 79) dX9_valueOf_1 (by omega) (by decide) ?_
  refine hb_iload_n (pc := 79) (i := 1) dX9_valueOf_79 rfl rfl ?_
  exact hb_iret (pc := 80) dX9_valueOf_80 rfl hk1_d
theorem dX9_single_0 : decode cX9_single 0 = .ok (.iload_n 1, 1) := by decide +kernel
theorem dX9_single_1 : decode cX9_single 1 = .ok (.bipush (-13), 2) := by decide +kernel
theorem dX9_single_3 : decode cX9_single 3 = .ok (.if_icmp .ne 13, 3) := by decide +kernel
theorem dX9_single_6 : decode cX9_single 6 = .ok (.iload_n 2, 1) := by decide +kernel
theorem dX9_single_7 : decode cX9_single 7 = .ok (.ifCond .ne 7, 3) := by decide +kernel
theorem dX9_single_10 : decode cX9_single 10 = .ok (.iconst 1, 1) := by decide +kernel
theorem dX9_single_11 : decode cX9_single 11 = .ok (.goto 4, 3) := by decide +kernel
theorem dX9_single_14 : decode cX9_single 14 = .ok (.iconst 0, 1) := by decide +kernel
theorem dX9_single_15 : decode cX9_single 15 = .ok (.ireturn, 1) := by decide +kernel
theorem dX9_single_16 : decode cX9_single 16 = .ok (.iload_n 1, 1) := by decide +kernel
theorem dX9_single_17 : decode cX9_single 17 = .ok (.bipush (-11), 2) := by decide +kernel
theorem dX9_single_19 : decode cX9_single 19 = .ok (.if_icmp .ne 16, 3) := by decide +kernel
theorem dX9_single_22 : decode cX9_single 22 = .ok (.aload_n 0, 1) := by decide +kernel
theorem dX9_single_23 : decode cX9_single 23 = .ok (.getfield 9, 3) := by decide +kernel
theorem dX9_single_26 : decode cX9_single 26 = .ok (.aload_n 0, 1) := by decide +kernel
theorem dX9_single_27 : decode cX9_single 27 = .ok (.getfield 48, 3) := by decide +kernel
theorem dX9_single_30 : decode cX9_single 30 = .ok (.iload_n 2, 1) := by decide +kernel
theorem dX9_single_31 : decode cX9_single 31 = .ok (.invokevirtual 69, 3) := by decide +kernel
theorem dX9_single_34 : decode cX9_single 34 = .ok (.ireturn, 1) := by decide +kernel
theorem dX9_single_35 : decode cX9_single 35 = .ok (.iload_n 2, 1) := by decide +kernel
theorem dX9_single_36 : decode cX9_single 36 = .ok (.ifCond .ne 10, 3) := by decide +kernel
theorem dX9_single_39 : decode cX9_single 39 = .ok (.aload_n 0, 1) := by decide +kernel
theorem dX9_single_40 : decode cX9_single 40 = .ok (.getfield 74, 3) := by decide +kernel
theorem dX9_single_43 : decode cX9_single 43 = .ok (.goto 16, 3) := by decide +kernel
theorem dX9_single_46 : decode cX9_single 46 = .ok (.iload_n 2, 1) := by decide +kernel
theorem dX9_single_47 : decode cX9_single 47 = .ok (.iconst 1, 1) := by decide +kernel
theorem dX9_single_48 : decode cX9_single 48 = .ok (.if_icmp .ne 10, 3) := by decide +kernel
theorem dX9_single_51 : decode cX9_single 51 = .ok (.aload_n 0, 1) := by decide +kernel
theorem dX9_single_52 : decode cX9_single 52 = .ok (.getfield 77, 3) := by decide +kernel
theorem dX9_single_55 : decode cX9_single 55 = .ok (.goto 4, 3) := by decide +kernel
theorem dX9_single_58 : decode cX9_single 58 = .ok (.iconst 0, 1) := by decide +kernel
theorem dX9_single_59 : decode cX9_single 59 = .ok (.ireturn, 1) := by decide +kernel
set_option maxRecDepth 20000 in
theorem bk_X9_single_0 {d : Nat} {w : hb_W} {Q : Option hb_V → hb_W → Prop} {x1 : Int32} {x2 : Int32} (h : ((¬ x1 = (-13 : Int32)) → ((¬ x1 = (-11 : Int32)) → ((¬ x2 = 0) → ((¬ x2 = (1 : Int32)) → Q (some (hb_i (0 : Int32))) w) ∧ ((x2 = (1 : Int32)) → Q (some (hb_i (hb_fI w 6 8 0))) w)) ∧ ((x2 = 0) → Q (some (hb_i (hb_fI w 6 7 0))) w)) ∧ ((x1 = (-11 : Int32)) → hb_O yX5_of cX5_of 4 (some .int) d [hb_r 5 0 0, hb_i (hb_fI w 6 0 0), hb_i x2] w (fun rv w1 => hb_R yX9_single cX9_single 3 (some .int) (d + 1) 34 [some (hb_r 6 0 0), some (hb_i x1), some (hb_i x2)] (rv.toList ++ []) w1 Q))) ∧ ((x1 = (-13 : Int32)) → ((¬ x2 = 0) → Q (some (hb_i (0 : Int32))) w) ∧ ((x2 = 0) → Q (some (hb_i (1 : Int32))) w))) : hb_R yX9_single cX9_single 3 (some .int) (d + 1) 0 [some (hb_r 6 0 0), some (hb_i x1), some (hb_i x2)] [] w Q := by
  refine hb_iload_n (pc := 0) (i := 1) dX9_single_0 rfl rfl ?_
  refine hb_bipush (pc := 1) (v := -13) dX9_single_1 (by decide) ?_
  refine hb_icmp_ne (pc := 3) (tgt := 16) dX9_single_3 (by decide) (fun c1 => ?_) (fun c1 => ?_)
  · have ht1 := h.1 c1
    refine hb_iload_n (pc := 16) (i := 1) dX9_single_16 rfl rfl ?_
    refine hb_bipush (pc := 17) (v := -11) dX9_single_17 (by decide) ?_
    refine hb_icmp_ne (pc := 19) (tgt := 35) dX9_single_19 (by decide) (fun c2 => ?_) (fun c2 => ?_)
    · have ht2 := ht1.1 c2
      refine hb_iload_n (pc := 35) (i := 2) dX9_single_35 rfl rfl ?_
      refine hb_if_ne (pc := 36) (tgt := 46) dX9_single_36 (by decide) (fun c3 => ?_) (fun c3 => ?_)
      · have ht3 := ht2.1 c3
        refine hb_iload_n (pc := 46) (i := 2) dX9_single_46 rfl rfl ?_
        refine hb_iconst (pc := 47) (v := 1) dX9_single_47 (by decide) ?_
        refine hb_icmp_ne (pc := 48) (tgt := 58) dX9_single_48 (by decide) (fun c4 => ?_) (fun c4 => ?_)
        · have ht4 := ht3.1 c4
          refine hb_iconst (pc := 58) (v := 0) dX9_single_58 (by decide) ?_
          exact hb_iret (pc := 59) dX9_single_59 rfl ht4
        · have ht4 := ht3.2 c4
          refine hb_aload_n (pc := 51) (i := 0) dX9_single_51 rfl rfl ?_
          refine hb_getIx (pc := 52) (x := hb_fI w 6 8 0) dX9_single_52 fw_X9_77 cw_9 rfl (by decide) rfl rfl ?_
          refine hb_goto (pc := 55) (tgt := 59) dX9_single_55 (by decide) ?_
          exact hb_iret (pc := 59) dX9_single_59 rfl ht4
      · have ht3 := ht2.2 c3
        refine hb_aload_n (pc := 39) (i := 0) dX9_single_39 rfl rfl ?_
        refine hb_getIx (pc := 40) (x := hb_fI w 6 7 0) dX9_single_40 fw_X9_74 cw_9 rfl (by decide) rfl rfl ?_
        refine hb_goto (pc := 43) (tgt := 59) dX9_single_43 (by decide) ?_
        exact hb_iret (pc := 59) dX9_single_59 rfl ht3
    · have ht2 := ht1.2 c2
      refine hb_aload_n (pc := 22) (i := 0) dX9_single_22 rfl rfl ?_
      refine hb_getR (pc := 23) (g1 := 0) dX9_single_23 fw_X9_9 cw_9 rfl (by decide) rfl (by decide) rfl ?_
      refine hb_aload_n (pc := 26) (i := 0) dX9_single_26 rfl rfl ?_
      refine hb_getIx (pc := 27) (x := hb_fI w 6 0 0) dX9_single_27 fw_X9_48 cw_9 rfl (by decide) rfl rfl ?_
      refine hb_iload_n (pc := 30) (i := 2) dX9_single_30 rfl rfl ?_
      exact hb_callV (pc := 31) (As := [hb_i (hb_fI w 6 0 0), hb_i x2]) (st := []) dX9_single_31 ml_X9_69 mf_X5_of mi_X5_of (ci := 5) rfl rfl (by decide) rfl rfl (Nat.le_of_ble_eq_true rfl) (Nat.le_of_ble_eq_true rfl) ht2 (fun _ _ q => q)
  · have ht1 := h.2 c1
    refine hb_iload_n (pc := 6) (i := 2) dX9_single_6 rfl rfl ?_
    refine hb_if_ne (pc := 7) (tgt := 14) dX9_single_7 (by decide) (fun c5 => ?_) (fun c5 => ?_)
    · have ht5 := ht1.1 c5
      refine hb_iconst (pc := 14) (v := 0) dX9_single_14 (by decide) ?_
      exact hb_iret (pc := 15) dX9_single_15 rfl ht5
    · have ht5 := ht1.2 c5
      refine hb_iconst (pc := 10) (v := 1) dX9_single_10 (by decide) ?_
      refine hb_goto (pc := 11) (tgt := 15) dX9_single_11 (by decide) ?_
      exact hb_iret (pc := 15) dX9_single_15 rfl ht5
set_option maxRecDepth 20000 in
theorem bk_X9_single_34 {d : Nat} {w : hb_W} {Q : Option hb_V → hb_W → Prop} {x1 : Int32} {x2 : Int32} {xs0 : Int32} (h : Q (some (hb_i xs0)) w) : hb_R yX9_single cX9_single 3 (some .int) (d + 1) 34 [some (hb_r 6 0 0), some (hb_i x1), some (hb_i x2)] [hb_i xs0] w Q := by
  exact hb_iret (pc := 34) dX9_single_34 rfl h
theorem dX9_joined_0 : decode cX9_joined 0 = .ok (.iload_n 0, 1) := by decide +kernel
theorem dX9_joined_1 : decode cX9_joined 1 = .ok (.tableswitch 155 (-30) (-21) #[141, 130, 119, 108, 102, 96, 82, 73, 64, 55], 55) := by decide +kernel
theorem dX9_joined_56 : decode cX9_joined 56 = .ok (.iload_n 1, 1) := by decide +kernel
theorem dX9_joined_57 : decode cX9_joined 57 = .ok (.i2l, 1) := by decide +kernel
theorem dX9_joined_58 : decode cX9_joined 58 = .ok (.iload_n 2, 1) := by decide +kernel
theorem dX9_joined_59 : decode cX9_joined 59 = .ok (.i2l, 1) := by decide +kernel
theorem dX9_joined_60 : decode cX9_joined 60 = .ok (.ladd, 1) := by decide +kernel
theorem dX9_joined_61 : decode cX9_joined 61 = .ok (.invokestatic 80, 3) := by decide +kernel
theorem dX9_joined_64 : decode cX9_joined 64 = .ok (.ireturn, 1) := by decide +kernel
theorem dX9_joined_65 : decode cX9_joined 65 = .ok (.iload_n 1, 1) := by decide +kernel
theorem dX9_joined_66 : decode cX9_joined 66 = .ok (.i2l, 1) := by decide +kernel
theorem dX9_joined_67 : decode cX9_joined 67 = .ok (.iload_n 2, 1) := by decide +kernel
theorem dX9_joined_68 : decode cX9_joined 68 = .ok (.i2l, 1) := by decide +kernel
theorem dX9_joined_69 : decode cX9_joined 69 = .ok (.lsub, 1) := by decide +kernel
theorem dX9_joined_70 : decode cX9_joined 70 = .ok (.invokestatic 80, 3) := by decide +kernel
theorem dX9_joined_73 : decode cX9_joined 73 = .ok (.ireturn, 1) := by decide +kernel
theorem dX9_joined_74 : decode cX9_joined 74 = .ok (.iload_n 1, 1) := by decide +kernel
theorem dX9_joined_75 : decode cX9_joined 75 = .ok (.i2l, 1) := by decide +kernel
theorem dX9_joined_76 : decode cX9_joined 76 = .ok (.iload_n 2, 1) := by decide +kernel
theorem dX9_joined_77 : decode cX9_joined 77 = .ok (.i2l, 1) := by decide +kernel
theorem dX9_joined_78 : decode cX9_joined 78 = .ok (.lmul, 1) := by decide +kernel
theorem dX9_joined_79 : decode cX9_joined 79 = .ok (.invokestatic 80, 3) := by decide +kernel
theorem dX9_joined_82 : decode cX9_joined 82 = .ok (.ireturn, 1) := by decide +kernel
theorem dX9_joined_83 : decode cX9_joined 83 = .ok (.iload_n 2, 1) := by decide +kernel
theorem dX9_joined_84 : decode cX9_joined 84 = .ok (.ifCond .ne 7, 3) := by decide +kernel
theorem dX9_joined_87 : decode cX9_joined 87 = .ok (.iconst 0, 1) := by decide +kernel
theorem dX9_joined_88 : decode cX9_joined 88 = .ok (.goto 8, 3) := by decide +kernel
theorem dX9_joined_91 : decode cX9_joined 91 = .ok (.iload_n 1, 1) := by decide +kernel
theorem dX9_joined_92 : decode cX9_joined 92 = .ok (.iload_n 2, 1) := by decide +kernel
theorem dX9_joined_93 : decode cX9_joined 93 = .ok (.invokestatic 84, 3) := by decide +kernel
theorem dX9_joined_96 : decode cX9_joined 96 = .ok (.ireturn, 1) := by decide +kernel
theorem dX9_joined_97 : decode cX9_joined 97 = .ok (.iload_n 1, 1) := by decide +kernel
theorem dX9_joined_98 : decode cX9_joined 98 = .ok (.iload_n 2, 1) := by decide +kernel
theorem dX9_joined_99 : decode cX9_joined 99 = .ok (.invokestatic 25, 3) := by decide +kernel
theorem dX9_joined_102 : decode cX9_joined 102 = .ok (.ireturn, 1) := by decide +kernel
theorem dX9_joined_103 : decode cX9_joined 103 = .ok (.iload_n 1, 1) := by decide +kernel
theorem dX9_joined_104 : decode cX9_joined 104 = .ok (.iload_n 2, 1) := by decide +kernel
theorem dX9_joined_105 : decode cX9_joined 105 = .ok (.invokestatic 31, 3) := by decide +kernel
theorem dX9_joined_108 : decode cX9_joined 108 = .ok (.ireturn, 1) := by decide +kernel
theorem dX9_joined_109 : decode cX9_joined 109 = .ok (.iload_n 1, 1) := by decide +kernel
theorem dX9_joined_110 : decode cX9_joined 110 = .ok (.iload_n 2, 1) := by decide +kernel
theorem dX9_joined_111 : decode cX9_joined 111 = .ok (.if_icmp .ge 7, 3) := by decide +kernel
theorem dX9_joined_114 : decode cX9_joined 114 = .ok (.iconst 1, 1) := by decide +kernel
theorem dX9_joined_115 : decode cX9_joined 115 = .ok (.goto 4, 3) := by decide +kernel
theorem dX9_joined_118 : decode cX9_joined 118 = .ok (.iconst 0, 1) := by decide +kernel
theorem dX9_joined_119 : decode cX9_joined 119 = .ok (.ireturn, 1) := by decide +kernel
theorem dX9_joined_120 : decode cX9_joined 120 = .ok (.iload_n 1, 1) := by decide +kernel
theorem dX9_joined_121 : decode cX9_joined 121 = .ok (.iload_n 2, 1) := by decide +kernel
theorem dX9_joined_122 : decode cX9_joined 122 = .ok (.if_icmp .le 7, 3) := by decide +kernel
theorem dX9_joined_125 : decode cX9_joined 125 = .ok (.iconst 1, 1) := by decide +kernel
theorem dX9_joined_126 : decode cX9_joined 126 = .ok (.goto 4, 3) := by decide +kernel
theorem dX9_joined_129 : decode cX9_joined 129 = .ok (.iconst 0, 1) := by decide +kernel
theorem dX9_joined_130 : decode cX9_joined 130 = .ok (.ireturn, 1) := by decide +kernel
theorem dX9_joined_131 : decode cX9_joined 131 = .ok (.iload_n 1, 1) := by decide +kernel
theorem dX9_joined_132 : decode cX9_joined 132 = .ok (.iload_n 2, 1) := by decide +kernel
theorem dX9_joined_133 : decode cX9_joined 133 = .ok (.if_icmp .ne 7, 3) := by decide +kernel
theorem dX9_joined_136 : decode cX9_joined 136 = .ok (.iconst 1, 1) := by decide +kernel
theorem dX9_joined_137 : decode cX9_joined 137 = .ok (.goto 4, 3) := by decide +kernel
theorem dX9_joined_140 : decode cX9_joined 140 = .ok (.iconst 0, 1) := by decide +kernel
theorem dX9_joined_141 : decode cX9_joined 141 = .ok (.ireturn, 1) := by decide +kernel
theorem dX9_joined_142 : decode cX9_joined 142 = .ok (.iload_n 1, 1) := by decide +kernel
theorem dX9_joined_143 : decode cX9_joined 143 = .ok (.ifCond .eq 11, 3) := by decide +kernel
theorem dX9_joined_146 : decode cX9_joined 146 = .ok (.iload_n 2, 1) := by decide +kernel
theorem dX9_joined_147 : decode cX9_joined 147 = .ok (.ifCond .eq 7, 3) := by decide +kernel
theorem dX9_joined_150 : decode cX9_joined 150 = .ok (.iconst 1, 1) := by decide +kernel
theorem dX9_joined_151 : decode cX9_joined 151 = .ok (.goto 4, 3) := by decide +kernel
theorem dX9_joined_154 : decode cX9_joined 154 = .ok (.iconst 0, 1) := by decide +kernel
theorem dX9_joined_155 : decode cX9_joined 155 = .ok (.ireturn, 1) := by decide +kernel
theorem dX9_joined_156 : decode cX9_joined 156 = .ok (.iload_n 1, 1) := by decide +kernel
theorem dX9_joined_157 : decode cX9_joined 157 = .ok (.ifCond .ne 7, 3) := by decide +kernel
theorem dX9_joined_160 : decode cX9_joined 160 = .ok (.iload_n 2, 1) := by decide +kernel
theorem dX9_joined_161 : decode cX9_joined 161 = .ok (.ifCond .eq 7, 3) := by decide +kernel
theorem dX9_joined_164 : decode cX9_joined 164 = .ok (.iconst 1, 1) := by decide +kernel
theorem dX9_joined_165 : decode cX9_joined 165 = .ok (.goto 4, 3) := by decide +kernel
theorem dX9_joined_168 : decode cX9_joined 168 = .ok (.iconst 0, 1) := by decide +kernel
theorem dX9_joined_169 : decode cX9_joined 169 = .ok (.ireturn, 1) := by decide +kernel
set_option maxRecDepth 20000 in
theorem bk_X9_joined_0 {d : Nat} {w : hb_W} {Q : Option hb_V → hb_W → Prop} {x0 : Int32} {x1 : Int32} {x2 : Int32} (h : (x0 = (-30 : Int32) → ((x1 = 0) → hb_R yX9_joined cX9_joined 3 (some .int) (d + 1) 154 [some (hb_i x0), some (hb_i x1), some (hb_i x2)] [] w Q) ∧ ((¬ x1 = 0) → ((x2 = 0) → hb_R yX9_joined cX9_joined 3 (some .int) (d + 1) 154 [some (hb_i x0), some (hb_i x1), some (hb_i x2)] [] w Q) ∧ ((¬ x2 = 0) → Q (some (hb_i (1 : Int32))) w))) ∧ (x0 = (-29 : Int32) → ((¬ x1 = x2) → hb_R yX9_joined cX9_joined 3 (some .int) (d + 1) 141 [some (hb_i x0), some (hb_i x1), some (hb_i x2)] [hb_i (0 : Int32)] w Q) ∧ ((x1 = x2) → hb_R yX9_joined cX9_joined 3 (some .int) (d + 1) 141 [some (hb_i x0), some (hb_i x1), some (hb_i x2)] [hb_i (1 : Int32)] w Q)) ∧ (x0 = (-28 : Int32) → ((x1 ≤ x2) → hb_R yX9_joined cX9_joined 3 (some .int) (d + 1) 130 [some (hb_i x0), some (hb_i x1), some (hb_i x2)] [hb_i (0 : Int32)] w Q) ∧ ((¬ x1 ≤ x2) → hb_R yX9_joined cX9_joined 3 (some .int) (d + 1) 130 [some (hb_i x0), some (hb_i x1), some (hb_i x2)] [hb_i (1 : Int32)] w Q)) ∧ (x0 = (-27 : Int32) → ((x2 ≤ x1) → hb_R yX9_joined cX9_joined 3 (some .int) (d + 1) 119 [some (hb_i x0), some (hb_i x1), some (hb_i x2)] [hb_i (0 : Int32)] w Q) ∧ ((¬ x2 ≤ x1) → hb_R yX9_joined cX9_joined 3 (some .int) (d + 1) 119 [some (hb_i x0), some (hb_i x1), some (hb_i x2)] [hb_i (1 : Int32)] w Q)) ∧ (x0 = (-26 : Int32) → Q (some (hb_i (if x1 < x2 then x2 else x1))) w) ∧ (x0 = (-25 : Int32) → Q (some (hb_i (if x2 < x1 then x2 else x1))) w) ∧ (x0 = (-24 : Int32) → ((¬ x2 = 0) → hb_O yJ9_floorDiv_7cf53 cJ9_floorDiv_7cf53 3 (some .int) d [hb_i x1, hb_i x2] w (fun rv w1 => hb_R yX9_joined cX9_joined 3 (some .int) (d + 1) 96 [some (hb_i x0), some (hb_i x1), some (hb_i x2)] (rv.toList ++ []) w1 Q)) ∧ ((x2 = 0) → hb_R yX9_joined cX9_joined 3 (some .int) (d + 1) 96 [some (hb_i x0), some (hb_i x1), some (hb_i x2)] [hb_i (0 : Int32)] w Q)) ∧ (x0 = (-23 : Int32) → hb_O yX9_capped cX9_capped 2 (some .int) d [hb_l (x1.toInt64 * x2.toInt64)] w (fun rv w1 => hb_R yX9_joined cX9_joined 3 (some .int) (d + 1) 82 [some (hb_i x0), some (hb_i x1), some (hb_i x2)] (rv.toList ++ []) w1 Q)) ∧ (x0 = (-22 : Int32) → hb_O yX9_capped cX9_capped 2 (some .int) d [hb_l (x1.toInt64 - x2.toInt64)] w (fun rv w1 => hb_R yX9_joined cX9_joined 3 (some .int) (d + 1) 73 [some (hb_i x0), some (hb_i x1), some (hb_i x2)] (rv.toList ++ []) w1 Q)) ∧ (x0 = (-21 : Int32) → hb_O yX9_capped cX9_capped 2 (some .int) d [hb_l (x1.toInt64 + x2.toInt64)] w (fun rv w1 => hb_R yX9_joined cX9_joined 3 (some .int) (d + 1) 64 [some (hb_i x0), some (hb_i x1), some (hb_i x2)] (rv.toList ++ []) w1 Q)) ∧ (¬ x0 = (-30 : Int32) → ¬ x0 = (-29 : Int32) → ¬ x0 = (-28 : Int32) → ¬ x0 = (-27 : Int32) → ¬ x0 = (-26 : Int32) → ¬ x0 = (-25 : Int32) → ¬ x0 = (-24 : Int32) → ¬ x0 = (-23 : Int32) → ¬ x0 = (-22 : Int32) → ¬ x0 = (-21 : Int32) → ((¬ x1 = 0) → hb_R yX9_joined cX9_joined 3 (some .int) (d + 1) 164 [some (hb_i x0), some (hb_i x1), some (hb_i x2)] [] w Q) ∧ ((x1 = 0) → ((x2 = 0) → Q (some (hb_i (0 : Int32))) w) ∧ ((¬ x2 = 0) → hb_R yX9_joined cX9_joined 3 (some .int) (d + 1) 164 [some (hb_i x0), some (hb_i x1), some (hb_i x2)] [] w Q)))) : hb_R yX9_joined cX9_joined 3 (some .int) (d + 1) 0 [some (hb_i x0), some (hb_i x1), some (hb_i x2)] [] w Q := by
  refine hb_iload_n (pc := 0) (i := 0) dX9_joined_0 rfl rfl ?_
  by_cases e1_0 : x0 = (-30 : Int32)
  · have hk1_0 := h.1 e1_0
    have ei : x0.toInt = -30 := by rw [e1_0]; rfl
    refine hb_tabIn (pc := 1) (tgt := 142) (off := 141) dX9_joined_1 (by rw [ei]; decide) (by rw [ei]; decide) (by rw [ei]; rfl) (by decide) ?_
    refine hb_iload_n (pc := 142) (i := 1) dX9_joined_142 rfl rfl ?_
    refine hb_if_eq (pc := 143) (tgt := 154) dX9_joined_143 (by decide) (fun c2 => ?_) (fun c2 => ?_)
    · have ht2 := hk1_0.1 c2
      exact ht2
    · have ht2 := hk1_0.2 c2
      refine hb_iload_n (pc := 146) (i := 2) dX9_joined_146 rfl rfl ?_
      refine hb_if_eq (pc := 147) (tgt := 154) dX9_joined_147 (by decide) (fun c3 => ?_) (fun c3 => ?_)
      · have ht3 := ht2.1 c3
        exact ht3
      · have ht3 := ht2.2 c3
        refine hb_iconst (pc := 150) (v := 1) dX9_joined_150 (by decide) ?_
        refine hb_goto (pc := 151) (tgt := 155) dX9_joined_151 (by decide) ?_
        exact hb_iret (pc := 155) dX9_joined_155 rfl ht3
  by_cases e1_1 : x0 = (-29 : Int32)
  · have hk1_1 := h.2.1 e1_1
    have ei : x0.toInt = -29 := by rw [e1_1]; rfl
    refine hb_tabIn (pc := 1) (tgt := 131) (off := 130) dX9_joined_1 (by rw [ei]; decide) (by rw [ei]; decide) (by rw [ei]; rfl) (by decide) ?_
    refine hb_iload_n (pc := 131) (i := 1) dX9_joined_131 rfl rfl ?_
    refine hb_iload_n (pc := 132) (i := 2) dX9_joined_132 rfl rfl ?_
    refine hb_icmp_ne (pc := 133) (tgt := 140) dX9_joined_133 (by decide) (fun c4 => ?_) (fun c4 => ?_)
    · have ht4 := hk1_1.1 c4
      refine hb_iconst (pc := 140) (v := 0) dX9_joined_140 (by decide) ?_
      exact ht4
    · have ht4 := hk1_1.2 c4
      refine hb_iconst (pc := 136) (v := 1) dX9_joined_136 (by decide) ?_
      refine hb_goto (pc := 137) (tgt := 141) dX9_joined_137 (by decide) ?_
      exact ht4
  by_cases e1_2 : x0 = (-28 : Int32)
  · have hk1_2 := h.2.2.1 e1_2
    have ei : x0.toInt = -28 := by rw [e1_2]; rfl
    refine hb_tabIn (pc := 1) (tgt := 120) (off := 119) dX9_joined_1 (by rw [ei]; decide) (by rw [ei]; decide) (by rw [ei]; rfl) (by decide) ?_
    refine hb_iload_n (pc := 120) (i := 1) dX9_joined_120 rfl rfl ?_
    refine hb_iload_n (pc := 121) (i := 2) dX9_joined_121 rfl rfl ?_
    refine hb_icmp_le (pc := 122) (tgt := 129) dX9_joined_122 (by decide) (fun c5 => ?_) (fun c5 => ?_)
    · have ht5 := hk1_2.1 c5
      refine hb_iconst (pc := 129) (v := 0) dX9_joined_129 (by decide) ?_
      exact ht5
    · have ht5 := hk1_2.2 c5
      refine hb_iconst (pc := 125) (v := 1) dX9_joined_125 (by decide) ?_
      refine hb_goto (pc := 126) (tgt := 130) dX9_joined_126 (by decide) ?_
      exact ht5
  by_cases e1_3 : x0 = (-27 : Int32)
  · have hk1_3 := h.2.2.2.1 e1_3
    have ei : x0.toInt = -27 := by rw [e1_3]; rfl
    refine hb_tabIn (pc := 1) (tgt := 109) (off := 108) dX9_joined_1 (by rw [ei]; decide) (by rw [ei]; decide) (by rw [ei]; rfl) (by decide) ?_
    refine hb_iload_n (pc := 109) (i := 1) dX9_joined_109 rfl rfl ?_
    refine hb_iload_n (pc := 110) (i := 2) dX9_joined_110 rfl rfl ?_
    refine hb_icmp_ge (pc := 111) (tgt := 118) dX9_joined_111 (by decide) (fun c6 => ?_) (fun c6 => ?_)
    · have ht6 := hk1_3.1 c6
      refine hb_iconst (pc := 118) (v := 0) dX9_joined_118 (by decide) ?_
      exact ht6
    · have ht6 := hk1_3.2 c6
      refine hb_iconst (pc := 114) (v := 1) dX9_joined_114 (by decide) ?_
      refine hb_goto (pc := 115) (tgt := 119) dX9_joined_115 (by decide) ?_
      exact ht6
  by_cases e1_4 : x0 = (-26 : Int32)
  · have hk1_4 := h.2.2.2.2.1 e1_4
    have ei : x0.toInt = -26 := by rw [e1_4]; rfl
    refine hb_tabIn (pc := 1) (tgt := 103) (off := 102) dX9_joined_1 (by rw [ei]; decide) (by rw [ei]; decide) (by rw [ei]; rfl) (by decide) ?_
    refine hb_iload_n (pc := 103) (i := 1) dX9_joined_103 rfl rfl ?_
    refine hb_iload_n (pc := 104) (i := 2) dX9_joined_104 rfl rfl ?_
    refine hb_mmax (pc := 105) dX9_joined_105 ml_X9_31 (Nat.le_of_ble_eq_true rfl) ?_
    exact hb_iret (pc := 108) dX9_joined_108 rfl hk1_4
  by_cases e1_5 : x0 = (-25 : Int32)
  · have hk1_5 := h.2.2.2.2.2.1 e1_5
    have ei : x0.toInt = -25 := by rw [e1_5]; rfl
    refine hb_tabIn (pc := 1) (tgt := 97) (off := 96) dX9_joined_1 (by rw [ei]; decide) (by rw [ei]; decide) (by rw [ei]; rfl) (by decide) ?_
    refine hb_iload_n (pc := 97) (i := 1) dX9_joined_97 rfl rfl ?_
    refine hb_iload_n (pc := 98) (i := 2) dX9_joined_98 rfl rfl ?_
    refine hb_mmin (pc := 99) dX9_joined_99 ml_X9_25 (Nat.le_of_ble_eq_true rfl) ?_
    exact hb_iret (pc := 102) dX9_joined_102 rfl hk1_5
  by_cases e1_6 : x0 = (-24 : Int32)
  · have hk1_6 := h.2.2.2.2.2.2.1 e1_6
    have ei : x0.toInt = -24 := by rw [e1_6]; rfl
    refine hb_tabIn (pc := 1) (tgt := 83) (off := 82) dX9_joined_1 (by rw [ei]; decide) (by rw [ei]; decide) (by rw [ei]; rfl) (by decide) ?_
    refine hb_iload_n (pc := 83) (i := 2) dX9_joined_83 rfl rfl ?_
    refine hb_if_ne (pc := 84) (tgt := 91) dX9_joined_84 (by decide) (fun c7 => ?_) (fun c7 => ?_)
    · have ht7 := hk1_6.1 c7
      refine hb_iload_n (pc := 91) (i := 1) dX9_joined_91 rfl rfl ?_
      refine hb_iload_n (pc := 92) (i := 2) dX9_joined_92 rfl rfl ?_
      exact hb_callS (pc := 93) (As := [hb_i x1, hb_i x2]) (st := []) dX9_joined_93 ml_X9_84 mf_J9_floorDiv_7cf53 ms_J9_floorDiv_7cf53 rfl rfl (Nat.le_of_ble_eq_true rfl) (Nat.le_of_ble_eq_true rfl) ht7 (fun _ _ q => q)
    · have ht7 := hk1_6.2 c7
      refine hb_iconst (pc := 87) (v := 0) dX9_joined_87 (by decide) ?_
      refine hb_goto (pc := 88) (tgt := 96) dX9_joined_88 (by decide) ?_
      exact ht7
  by_cases e1_7 : x0 = (-23 : Int32)
  · have hk1_7 := h.2.2.2.2.2.2.2.1 e1_7
    have ei : x0.toInt = -23 := by rw [e1_7]; rfl
    refine hb_tabIn (pc := 1) (tgt := 74) (off := 73) dX9_joined_1 (by rw [ei]; decide) (by rw [ei]; decide) (by rw [ei]; rfl) (by decide) ?_
    refine hb_iload_n (pc := 74) (i := 1) dX9_joined_74 rfl rfl ?_
    refine hb_i2l (pc := 75) dX9_joined_75 ?_
    refine hb_iload_n (pc := 76) (i := 2) dX9_joined_76 rfl rfl ?_
    refine hb_i2l (pc := 77) dX9_joined_77 ?_
    refine hb_lmul (pc := 78) dX9_joined_78 ?_
    exact hb_callS (pc := 79) (As := [hb_l (x1.toInt64 * x2.toInt64)]) (st := []) dX9_joined_79 ml_X9_80 mf_X9_capped ms_X9_capped rfl rfl (Nat.le_of_ble_eq_true rfl) (Nat.le_of_ble_eq_true rfl) hk1_7 (fun _ _ q => q)
  by_cases e1_8 : x0 = (-22 : Int32)
  · have hk1_8 := h.2.2.2.2.2.2.2.2.1 e1_8
    have ei : x0.toInt = -22 := by rw [e1_8]; rfl
    refine hb_tabIn (pc := 1) (tgt := 65) (off := 64) dX9_joined_1 (by rw [ei]; decide) (by rw [ei]; decide) (by rw [ei]; rfl) (by decide) ?_
    refine hb_iload_n (pc := 65) (i := 1) dX9_joined_65 rfl rfl ?_
    refine hb_i2l (pc := 66) dX9_joined_66 ?_
    refine hb_iload_n (pc := 67) (i := 2) dX9_joined_67 rfl rfl ?_
    refine hb_i2l (pc := 68) dX9_joined_68 ?_
    refine hb_lsub (pc := 69) dX9_joined_69 ?_
    exact hb_callS (pc := 70) (As := [hb_l (x1.toInt64 - x2.toInt64)]) (st := []) dX9_joined_70 ml_X9_80 mf_X9_capped ms_X9_capped rfl rfl (Nat.le_of_ble_eq_true rfl) (Nat.le_of_ble_eq_true rfl) hk1_8 (fun _ _ q => q)
  by_cases e1_9 : x0 = (-21 : Int32)
  · have hk1_9 := h.2.2.2.2.2.2.2.2.2.1 e1_9
    have ei : x0.toInt = -21 := by rw [e1_9]; rfl
    refine hb_tabIn (pc := 1) (tgt := 56) (off := 55) dX9_joined_1 (by rw [ei]; decide) (by rw [ei]; decide) (by rw [ei]; rfl) (by decide) ?_
    refine hb_iload_n (pc := 56) (i := 1) dX9_joined_56 rfl rfl ?_
    refine hb_i2l (pc := 57) dX9_joined_57 ?_
    refine hb_iload_n (pc := 58) (i := 2) dX9_joined_58 rfl rfl ?_
    refine hb_i2l (pc := 59) dX9_joined_59 ?_
    refine hb_ladd (pc := 60) dX9_joined_60 ?_
    exact hb_callS (pc := 61) (As := [hb_l (x1.toInt64 + x2.toInt64)]) (st := []) dX9_joined_61 ml_X9_80 mf_X9_capped ms_X9_capped rfl rfl (Nat.le_of_ble_eq_true rfl) (Nat.le_of_ble_eq_true rfl) hk1_9 (fun _ _ q => q)
  have hk1_d := h.2.2.2.2.2.2.2.2.2.2 e1_0 e1_1 e1_2 e1_3 e1_4 e1_5 e1_6 e1_7 e1_8 e1_9
  have n1_0 := lv_neT (a := -30) e1_0 rfl
  have n1_1 := lv_neT (a := -29) e1_1 rfl
  have n1_2 := lv_neT (a := -28) e1_2 rfl
  have n1_3 := lv_neT (a := -27) e1_3 rfl
  have n1_4 := lv_neT (a := -26) e1_4 rfl
  have n1_5 := lv_neT (a := -25) e1_5 rfl
  have n1_6 := lv_neT (a := -24) e1_6 rfl
  have n1_7 := lv_neT (a := -23) e1_7 rfl
  have n1_8 := lv_neT (a := -22) e1_8 rfl
  have n1_9 := lv_neT (a := -21) e1_9 rfl
  refine hb_tabOut (pc := 1) (tgt := 156) dX9_joined_1 (by omega) (by decide) ?_
  refine hb_iload_n (pc := 156) (i := 1) dX9_joined_156 rfl rfl ?_
  refine hb_if_ne (pc := 157) (tgt := 164) dX9_joined_157 (by decide) (fun c8 => ?_) (fun c8 => ?_)
  · have ht8 := hk1_d.1 c8
    exact ht8
  · have ht8 := hk1_d.2 c8
    refine hb_iload_n (pc := 160) (i := 2) dX9_joined_160 rfl rfl ?_
    refine hb_if_eq (pc := 161) (tgt := 168) dX9_joined_161 (by decide) (fun c9 => ?_) (fun c9 => ?_)
    · have ht9 := ht8.1 c9
      refine hb_iconst (pc := 168) (v := 0) dX9_joined_168 (by decide) ?_
      exact hb_iret (pc := 169) dX9_joined_169 rfl ht9
    · have ht9 := ht8.2 c9
      exact ht9
set_option maxRecDepth 20000 in
theorem bk_X9_joined_64 {d : Nat} {w : hb_W} {Q : Option hb_V → hb_W → Prop} {x0 : Int32} {x1 : Int32} {x2 : Int32} {xs0 : Int32} (h : Q (some (hb_i xs0)) w) : hb_R yX9_joined cX9_joined 3 (some .int) (d + 1) 64 [some (hb_i x0), some (hb_i x1), some (hb_i x2)] [hb_i xs0] w Q := by
  exact hb_iret (pc := 64) dX9_joined_64 rfl h
set_option maxRecDepth 20000 in
theorem bk_X9_joined_73 {d : Nat} {w : hb_W} {Q : Option hb_V → hb_W → Prop} {x0 : Int32} {x1 : Int32} {x2 : Int32} {xs0 : Int32} (h : Q (some (hb_i xs0)) w) : hb_R yX9_joined cX9_joined 3 (some .int) (d + 1) 73 [some (hb_i x0), some (hb_i x1), some (hb_i x2)] [hb_i xs0] w Q := by
  exact hb_iret (pc := 73) dX9_joined_73 rfl h
set_option maxRecDepth 20000 in
theorem bk_X9_joined_82 {d : Nat} {w : hb_W} {Q : Option hb_V → hb_W → Prop} {x0 : Int32} {x1 : Int32} {x2 : Int32} {xs0 : Int32} (h : Q (some (hb_i xs0)) w) : hb_R yX9_joined cX9_joined 3 (some .int) (d + 1) 82 [some (hb_i x0), some (hb_i x1), some (hb_i x2)] [hb_i xs0] w Q := by
  exact hb_iret (pc := 82) dX9_joined_82 rfl h
set_option maxRecDepth 20000 in
theorem bk_X9_joined_96 {d : Nat} {w : hb_W} {Q : Option hb_V → hb_W → Prop} {x0 : Int32} {x1 : Int32} {x2 : Int32} {xs0 : Int32} (h : Q (some (hb_i xs0)) w) : hb_R yX9_joined cX9_joined 3 (some .int) (d + 1) 96 [some (hb_i x0), some (hb_i x1), some (hb_i x2)] [hb_i xs0] w Q := by
  exact hb_iret (pc := 96) dX9_joined_96 rfl h
set_option maxRecDepth 20000 in
theorem bk_X9_joined_119 {d : Nat} {w : hb_W} {Q : Option hb_V → hb_W → Prop} {x0 : Int32} {x1 : Int32} {x2 : Int32} {xs0 : Int32} (h : Q (some (hb_i xs0)) w) : hb_R yX9_joined cX9_joined 3 (some .int) (d + 1) 119 [some (hb_i x0), some (hb_i x1), some (hb_i x2)] [hb_i xs0] w Q := by
  exact hb_iret (pc := 119) dX9_joined_119 rfl h
set_option maxRecDepth 20000 in
theorem bk_X9_joined_130 {d : Nat} {w : hb_W} {Q : Option hb_V → hb_W → Prop} {x0 : Int32} {x1 : Int32} {x2 : Int32} {xs0 : Int32} (h : Q (some (hb_i xs0)) w) : hb_R yX9_joined cX9_joined 3 (some .int) (d + 1) 130 [some (hb_i x0), some (hb_i x1), some (hb_i x2)] [hb_i xs0] w Q := by
  exact hb_iret (pc := 130) dX9_joined_130 rfl h
set_option maxRecDepth 20000 in
theorem bk_X9_joined_141 {d : Nat} {w : hb_W} {Q : Option hb_V → hb_W → Prop} {x0 : Int32} {x1 : Int32} {x2 : Int32} {xs0 : Int32} (h : Q (some (hb_i xs0)) w) : hb_R yX9_joined cX9_joined 3 (some .int) (d + 1) 141 [some (hb_i x0), some (hb_i x1), some (hb_i x2)] [hb_i xs0] w Q := by
  exact hb_iret (pc := 141) dX9_joined_141 rfl h
set_option maxRecDepth 20000 in
theorem bk_X9_joined_154 {d : Nat} {w : hb_W} {Q : Option hb_V → hb_W → Prop} {x0 : Int32} {x1 : Int32} {x2 : Int32} (h : Q (some (hb_i (0 : Int32))) w) : hb_R yX9_joined cX9_joined 3 (some .int) (d + 1) 154 [some (hb_i x0), some (hb_i x1), some (hb_i x2)] [] w Q := by
  refine hb_iconst (pc := 154) (v := 0) dX9_joined_154 (by decide) ?_
  exact hb_iret (pc := 155) dX9_joined_155 rfl h
set_option maxRecDepth 20000 in
theorem bk_X9_joined_164 {d : Nat} {w : hb_W} {Q : Option hb_V → hb_W → Prop} {x0 : Int32} {x1 : Int32} {x2 : Int32} (h : Q (some (hb_i (1 : Int32))) w) : hb_R yX9_joined cX9_joined 3 (some .int) (d + 1) 164 [some (hb_i x0), some (hb_i x1), some (hb_i x2)] [] w Q := by
  refine hb_iconst (pc := 164) (v := 1) dX9_joined_164 (by decide) ?_
  refine hb_goto (pc := 165) (tgt := 169) dX9_joined_165 (by decide) ?_
  exact hb_iret (pc := 169) dX9_joined_169 rfl h
theorem dX9_capped_0 : decode cX9_capped 0 = .ok (.lload_n 0, 1) := by decide +kernel
theorem dX9_capped_1 : decode cX9_capped 1 = .ok (.ldc2_w 87, 3) := by decide +kernel
theorem dX9_capped_4 : decode cX9_capped 4 = .ok (.lcmp, 1) := by decide +kernel
theorem dX9_capped_5 : decode cX9_capped 5 = .ok (.ifCond .le 6, 3) := by decide +kernel
theorem dX9_capped_8 : decode cX9_capped 8 = .ok (.ldc 89, 2) := by decide +kernel
theorem dX9_capped_10 : decode cX9_capped 10 = .ok (.ireturn, 1) := by decide +kernel
theorem dX9_capped_11 : decode cX9_capped 11 = .ok (.lload_n 0, 1) := by decide +kernel
theorem dX9_capped_12 : decode cX9_capped 12 = .ok (.ldc2_w 90, 3) := by decide +kernel
theorem dX9_capped_15 : decode cX9_capped 15 = .ok (.lcmp, 1) := by decide +kernel
theorem dX9_capped_16 : decode cX9_capped 16 = .ok (.ifCond .ge 8, 3) := by decide +kernel
theorem dX9_capped_19 : decode cX9_capped 19 = .ok (.ldc 92, 2) := by decide +kernel
theorem dX9_capped_21 : decode cX9_capped 21 = .ok (.goto 5, 3) := by decide +kernel
theorem dX9_capped_24 : decode cX9_capped 24 = .ok (.lload_n 0, 1) := by decide +kernel
theorem dX9_capped_25 : decode cX9_capped 25 = .ok (.l2i, 1) := by decide +kernel
theorem dX9_capped_26 : decode cX9_capped 26 = .ok (.ireturn, 1) := by decide +kernel
set_option maxRecDepth 20000 in
theorem bk_X9_capped_0 {d : Nat} {w : hb_W} {Q : Option hb_V → hb_W → Prop} {l0 : Int64} (h : (((lg_cmp l0 (1000000 : Int64)) ≤ 0) → ((0 ≤ (lg_cmp l0 (-1000000 : Int64))) → Q (some (hb_i l0.toInt32)) w) ∧ ((¬ 0 ≤ (lg_cmp l0 (-1000000 : Int64))) → Q (some (hb_i (-1000000 : Int32))) w)) ∧ ((¬ (lg_cmp l0 (1000000 : Int64)) ≤ 0) → Q (some (hb_i (1000000 : Int32))) w)) : hb_R yX9_capped cX9_capped 2 (some .int) d 0 [some (hb_l l0), none] [] w Q := by
  refine hb_lload_n (pc := 0) (i := 0) dX9_capped_0 rfl rfl ?_
  refine hb_ldc2 (pc := 1) (v := 1000000) dX9_capped_1 kc_X9_87 ?_
  refine hb_lcmp (pc := 4) dX9_capped_4 ?_
  refine hb_if_le (pc := 5) (tgt := 11) dX9_capped_5 (by decide) (fun c1 => ?_) (fun c1 => ?_)
  · have ht1 := h.1 c1
    refine hb_lload_n (pc := 11) (i := 0) dX9_capped_11 rfl rfl ?_
    refine hb_ldc2 (pc := 12) (v := -1000000) dX9_capped_12 kc_X9_90 ?_
    refine hb_lcmp (pc := 15) dX9_capped_15 ?_
    refine hb_if_ge (pc := 16) (tgt := 24) dX9_capped_16 (by decide) (fun c2 => ?_) (fun c2 => ?_)
    · have ht2 := ht1.1 c2
      refine hb_lload_n (pc := 24) (i := 0) dX9_capped_24 rfl rfl ?_
      refine hb_l2i (pc := 25) dX9_capped_25 ?_
      exact hb_iret (pc := 26) dX9_capped_26 rfl ht2
    · have ht2 := ht1.2 c2
      refine hb_ldc (pc := 19) (v := -1000000) dX9_capped_19 kc_X9_92 ?_
      refine hb_goto (pc := 21) (tgt := 26) dX9_capped_21 (by decide) ?_
      exact hb_iret (pc := 26) dX9_capped_26 rfl ht2
  · have ht1 := h.2 c1
    refine hb_ldc (pc := 8) (v := 1000000) dX9_capped_8 kc_X9_89 ?_
    exact hb_iret (pc := 10) dX9_capped_10 rfl ht1
theorem dJ7_fill_53178_0 : decode cJ7_fill_53178 0 = .ok (.iconst 0, 1) := by decide +kernel
theorem dJ7_fill_53178_1 : decode cJ7_fill_53178 1 = .ok (.istore_n 2, 1) := by decide +kernel
theorem dJ7_fill_53178_2 : decode cJ7_fill_53178 2 = .ok (.aload_n 0, 1) := by decide +kernel
theorem dJ7_fill_53178_3 : decode cJ7_fill_53178 3 = .ok (.arraylength, 1) := by decide +kernel
theorem dJ7_fill_53178_4 : decode cJ7_fill_53178 4 = .ok (.istore_n 3, 1) := by decide +kernel
theorem dJ7_fill_53178_5 : decode cJ7_fill_53178 5 = .ok (.iload_n 2, 1) := by decide +kernel
theorem dJ7_fill_53178_6 : decode cJ7_fill_53178 6 = .ok (.iload_n 3, 1) := by decide +kernel
theorem dJ7_fill_53178_7 : decode cJ7_fill_53178 7 = .ok (.if_icmp .ge 13, 3) := by decide +kernel
theorem dJ7_fill_53178_10 : decode cJ7_fill_53178 10 = .ok (.aload_n 0, 1) := by decide +kernel
theorem dJ7_fill_53178_11 : decode cJ7_fill_53178 11 = .ok (.iload_n 2, 1) := by decide +kernel
theorem dJ7_fill_53178_12 : decode cJ7_fill_53178 12 = .ok (.iload_n 1, 1) := by decide +kernel
theorem dJ7_fill_53178_13 : decode cJ7_fill_53178 13 = .ok (.iastore, 1) := by decide +kernel
theorem dJ7_fill_53178_14 : decode cJ7_fill_53178 14 = .ok (.iinc 2 1, 3) := by decide +kernel
theorem dJ7_fill_53178_17 : decode cJ7_fill_53178 17 = .ok (.goto (-12), 3) := by decide +kernel
theorem dJ7_fill_53178_20 : decode cJ7_fill_53178 20 = .ok (.return_, 1) := by decide +kernel
set_option maxRecDepth 20000 in
theorem bk_J7_fill_53178_0 {d : Nat} {w : hb_W} {Q : Option hb_V → hb_W → Prop} {t0 g0 j0 n0 : Nat} {x1 : Int32} (hs0 : hb_sh t0 j0 = some (.inr (0, n0))) (hg0 : g0 < hb_ct t0) (h : hb_R yJ7_fill_53178 cJ7_fill_53178 4 none d 5 [some (hb_r t0 g0 j0), some (hb_i x1), some (hb_i (0 : Int32)), some (hb_i (Int32.ofNat n0))] [] w Q) : hb_R yJ7_fill_53178 cJ7_fill_53178 4 none d 0 [some (hb_r t0 g0 j0), some (hb_i x1), none, none] [] w Q := by
  refine hb_iconst (pc := 0) (v := 0) dJ7_fill_53178_0 (by decide) ?_
  refine hb_istore_n (pc := 1) (i := 2) (ls1 := [some (hb_r t0 g0 j0), some (hb_i x1), some (hb_i (0 : Int32)), none]) dJ7_fill_53178_1 rfl (by decide) rfl ?_
  refine hb_aload_n (pc := 2) (i := 0) dJ7_fill_53178_2 rfl rfl ?_
  refine hb_alen (pc := 3) (v := Int32.ofNat n0) dJ7_fill_53178_3 hs0 (by decide) hg0 rfl ?_
  refine hb_istore_n (pc := 4) (i := 3) (ls1 := [some (hb_r t0 g0 j0), some (hb_i x1), some (hb_i (0 : Int32)), some (hb_i (Int32.ofNat n0))]) dJ7_fill_53178_4 rfl (by decide) rfl ?_
  exact h
set_option maxRecDepth 20000 in
theorem bk_J7_fill_53178_5 {d : Nat} {w : hb_W} {Q : Option hb_V → hb_W → Prop} {t0 g0 j0 n0 : Nat} {x1 : Int32} {x2 : Int32} {x3 : Int32} (hs0 : hb_sh t0 j0 = some (.inr (0, n0))) (hg0 : g0 < hb_ct t0) (h : ((x3 ≤ x2) → Q none w) ∧ ((¬ x3 ≤ x2) → vp_in x2 n0 ∧ (hb_R yJ7_fill_53178 cJ7_fill_53178 4 none d 5 [some (hb_r t0 g0 j0), some (hb_i x1), some (hb_i (x2 + (1 : Int32))), some (hb_i x3)] [] (hb_sI w t0 j0 g0 (upd (hb_aI w t0 j0 g0) x2.toNatClampNeg x1)) Q))) : hb_R yJ7_fill_53178 cJ7_fill_53178 4 none d 5 [some (hb_r t0 g0 j0), some (hb_i x1), some (hb_i x2), some (hb_i x3)] [] w Q := by
  refine hb_iload_n (pc := 5) (i := 2) dJ7_fill_53178_5 rfl rfl ?_
  refine hb_iload_n (pc := 6) (i := 3) dJ7_fill_53178_6 rfl rfl ?_
  refine hb_icmp_ge (pc := 7) (tgt := 20) dJ7_fill_53178_7 (by decide) (fun c1 => ?_) (fun c1 => ?_)
  · have ht1 := h.1 c1
    exact hb_vret (pc := 20) dJ7_fill_53178_20 rfl ht1
  · have ht1 := h.2 c1
    refine hb_aload_n (pc := 10) (i := 0) dJ7_fill_53178_10 rfl rfl ?_
    refine hb_iload_n (pc := 11) (i := 2) dJ7_fill_53178_11 rfl rfl ?_
    refine hb_iload_n (pc := 12) (i := 1) dJ7_fill_53178_12 rfl rfl ?_
    obtain ⟨ho2, hr2⟩ := ht1
    refine hb_iastx (pc := 13) (f := upd (hb_aI w t0 j0 g0) x2.toNatClampNeg x1) dJ7_fill_53178_13 hs0 hg0 ho2 rfl ?_
    refine hb_iinc (pc := 14) (v := x2 + (1 : Int32)) (ls1 := [some (hb_r t0 g0 j0), some (hb_i x1), some (hb_i (x2 + (1 : Int32))), some (hb_i x3)]) dJ7_fill_53178_14 rfl rfl (by decide) rfl ?_
    refine hb_goto (pc := 17) (tgt := 5) dJ7_fill_53178_17 (by decide) ?_
    exact hr2
theorem dJ9_floorDiv_7cf53_0 : decode cJ9_floorDiv_7cf53 0 = .ok (.iload_n 0, 1) := by decide +kernel
theorem dJ9_floorDiv_7cf53_1 : decode cJ9_floorDiv_7cf53 1 = .ok (.iload_n 1, 1) := by decide +kernel
theorem dJ9_floorDiv_7cf53_2 : decode cJ9_floorDiv_7cf53 2 = .ok (.idiv, 1) := by decide +kernel
theorem dJ9_floorDiv_7cf53_3 : decode cJ9_floorDiv_7cf53 3 = .ok (.istore_n 2, 1) := by decide +kernel
theorem dJ9_floorDiv_7cf53_4 : decode cJ9_floorDiv_7cf53 4 = .ok (.iload_n 0, 1) := by decide +kernel
theorem dJ9_floorDiv_7cf53_5 : decode cJ9_floorDiv_7cf53 5 = .ok (.iload_n 1, 1) := by decide +kernel
theorem dJ9_floorDiv_7cf53_6 : decode cJ9_floorDiv_7cf53 6 = .ok (.ixor, 1) := by decide +kernel
theorem dJ9_floorDiv_7cf53_7 : decode cJ9_floorDiv_7cf53 7 = .ok (.ifCond .ge 14, 3) := by decide +kernel
theorem dJ9_floorDiv_7cf53_10 : decode cJ9_floorDiv_7cf53 10 = .ok (.iload_n 2, 1) := by decide +kernel
theorem dJ9_floorDiv_7cf53_11 : decode cJ9_floorDiv_7cf53 11 = .ok (.iload_n 1, 1) := by decide +kernel
theorem dJ9_floorDiv_7cf53_12 : decode cJ9_floorDiv_7cf53 12 = .ok (.imul, 1) := by decide +kernel
theorem dJ9_floorDiv_7cf53_13 : decode cJ9_floorDiv_7cf53 13 = .ok (.iload_n 0, 1) := by decide +kernel
theorem dJ9_floorDiv_7cf53_14 : decode cJ9_floorDiv_7cf53 14 = .ok (.if_icmp .eq 7, 3) := by decide +kernel
theorem dJ9_floorDiv_7cf53_17 : decode cJ9_floorDiv_7cf53 17 = .ok (.iload_n 2, 1) := by decide +kernel
theorem dJ9_floorDiv_7cf53_18 : decode cJ9_floorDiv_7cf53 18 = .ok (.iconst 1, 1) := by decide +kernel
theorem dJ9_floorDiv_7cf53_19 : decode cJ9_floorDiv_7cf53 19 = .ok (.isub, 1) := by decide +kernel
theorem dJ9_floorDiv_7cf53_20 : decode cJ9_floorDiv_7cf53 20 = .ok (.ireturn, 1) := by decide +kernel
theorem dJ9_floorDiv_7cf53_21 : decode cJ9_floorDiv_7cf53 21 = .ok (.iload_n 2, 1) := by decide +kernel
theorem dJ9_floorDiv_7cf53_22 : decode cJ9_floorDiv_7cf53 22 = .ok (.ireturn, 1) := by decide +kernel
set_option maxRecDepth 20000 in
theorem bk_J9_floorDiv_7cf53_0 {d : Nat} {w : hb_W} {Q : Option hb_V → hb_W → Prop} {x0 : Int32} {x1 : Int32} (h : ¬ x1 = 0 ∧ (((0 ≤ (x0 ^^^ x1)) → Q (some (hb_i (x0 / x1))) w) ∧ ((¬ 0 ≤ (x0 ^^^ x1)) → ((((x0 / x1) * x1) = x0) → Q (some (hb_i (x0 / x1))) w) ∧ ((¬ ((x0 / x1) * x1) = x0) → Q (some (hb_i ((x0 / x1) - (1 : Int32)))) w)))) : hb_R yJ9_floorDiv_7cf53 cJ9_floorDiv_7cf53 3 (some .int) d 0 [some (hb_i x0), some (hb_i x1), none] [] w Q := by
  refine hb_iload_n (pc := 0) (i := 0) dJ9_floorDiv_7cf53_0 rfl rfl ?_
  refine hb_iload_n (pc := 1) (i := 1) dJ9_floorDiv_7cf53_1 rfl rfl ?_
  obtain ⟨ho1, hr1⟩ := h
  refine hb_idiv (pc := 2) dJ9_floorDiv_7cf53_2 ho1 ?_
  refine hb_istore_n (pc := 3) (i := 2) (ls1 := [some (hb_i x0), some (hb_i x1), some (hb_i (x0 / x1))]) dJ9_floorDiv_7cf53_3 rfl (by decide) rfl ?_
  refine hb_iload_n (pc := 4) (i := 0) dJ9_floorDiv_7cf53_4 rfl rfl ?_
  refine hb_iload_n (pc := 5) (i := 1) dJ9_floorDiv_7cf53_5 rfl rfl ?_
  refine hb_ixor (pc := 6) dJ9_floorDiv_7cf53_6 ?_
  refine hb_if_ge (pc := 7) (tgt := 21) dJ9_floorDiv_7cf53_7 (by decide) (fun c2 => ?_) (fun c2 => ?_)
  · have ht2 := hr1.1 c2
    refine hb_iload_n (pc := 21) (i := 2) dJ9_floorDiv_7cf53_21 rfl rfl ?_
    exact hb_iret (pc := 22) dJ9_floorDiv_7cf53_22 rfl ht2
  · have ht2 := hr1.2 c2
    refine hb_iload_n (pc := 10) (i := 2) dJ9_floorDiv_7cf53_10 rfl rfl ?_
    refine hb_iload_n (pc := 11) (i := 1) dJ9_floorDiv_7cf53_11 rfl rfl ?_
    refine hb_imul (pc := 12) dJ9_floorDiv_7cf53_12 ?_
    refine hb_iload_n (pc := 13) (i := 0) dJ9_floorDiv_7cf53_13 rfl rfl ?_
    refine hb_icmp_eq (pc := 14) (tgt := 21) dJ9_floorDiv_7cf53_14 (by decide) (fun c3 => ?_) (fun c3 => ?_)
    · have ht3 := ht2.1 c3
      refine hb_iload_n (pc := 21) (i := 2) dJ9_floorDiv_7cf53_21 rfl rfl ?_
      exact hb_iret (pc := 22) dJ9_floorDiv_7cf53_22 rfl ht3
    · have ht3 := ht2.2 c3
      refine hb_iload_n (pc := 17) (i := 2) dJ9_floorDiv_7cf53_17 rfl rfl ?_
      refine hb_iconst (pc := 18) (v := 1) dJ9_floorDiv_7cf53_18 (by decide) ?_
      refine hb_isub (pc := 19) dJ9_floorDiv_7cf53_19 ?_
      exact hb_iret (pc := 20) dJ9_floorDiv_7cf53_20 rfl ht3
theorem dJ9_floorMod_7cf53_0 : decode cJ9_floorMod_7cf53 0 = .ok (.iload_n 0, 1) := by decide +kernel
theorem dJ9_floorMod_7cf53_1 : decode cJ9_floorMod_7cf53 1 = .ok (.iload_n 1, 1) := by decide +kernel
theorem dJ9_floorMod_7cf53_2 : decode cJ9_floorMod_7cf53 2 = .ok (.irem, 1) := by decide +kernel
theorem dJ9_floorMod_7cf53_3 : decode cJ9_floorMod_7cf53 3 = .ok (.istore_n 2, 1) := by decide +kernel
theorem dJ9_floorMod_7cf53_4 : decode cJ9_floorMod_7cf53 4 = .ok (.iload_n 0, 1) := by decide +kernel
theorem dJ9_floorMod_7cf53_5 : decode cJ9_floorMod_7cf53 5 = .ok (.iload_n 1, 1) := by decide +kernel
theorem dJ9_floorMod_7cf53_6 : decode cJ9_floorMod_7cf53 6 = .ok (.ixor, 1) := by decide +kernel
theorem dJ9_floorMod_7cf53_7 : decode cJ9_floorMod_7cf53 7 = .ok (.ifCond .ge 11, 3) := by decide +kernel
theorem dJ9_floorMod_7cf53_10 : decode cJ9_floorMod_7cf53 10 = .ok (.iload_n 2, 1) := by decide +kernel
theorem dJ9_floorMod_7cf53_11 : decode cJ9_floorMod_7cf53 11 = .ok (.ifCond .eq 7, 3) := by decide +kernel
theorem dJ9_floorMod_7cf53_14 : decode cJ9_floorMod_7cf53 14 = .ok (.iload_n 2, 1) := by decide +kernel
theorem dJ9_floorMod_7cf53_15 : decode cJ9_floorMod_7cf53 15 = .ok (.iload_n 1, 1) := by decide +kernel
theorem dJ9_floorMod_7cf53_16 : decode cJ9_floorMod_7cf53 16 = .ok (.iadd, 1) := by decide +kernel
theorem dJ9_floorMod_7cf53_17 : decode cJ9_floorMod_7cf53 17 = .ok (.ireturn, 1) := by decide +kernel
theorem dJ9_floorMod_7cf53_18 : decode cJ9_floorMod_7cf53 18 = .ok (.iload_n 2, 1) := by decide +kernel
theorem dJ9_floorMod_7cf53_19 : decode cJ9_floorMod_7cf53 19 = .ok (.ireturn, 1) := by decide +kernel
set_option maxRecDepth 20000 in
theorem bk_J9_floorMod_7cf53_0 {d : Nat} {w : hb_W} {Q : Option hb_V → hb_W → Prop} {x0 : Int32} {x1 : Int32} (h : ¬ x1 = 0 ∧ (((0 ≤ (x0 ^^^ x1)) → Q (some (hb_i (x0 - x0 / x1 * x1))) w) ∧ ((¬ 0 ≤ (x0 ^^^ x1)) → (((x0 - x0 / x1 * x1) = 0) → Q (some (hb_i (x0 - x0 / x1 * x1))) w) ∧ ((¬ (x0 - x0 / x1 * x1) = 0) → Q (some (hb_i ((x0 - x0 / x1 * x1) + x1))) w)))) : hb_R yJ9_floorMod_7cf53 cJ9_floorMod_7cf53 3 (some .int) d 0 [some (hb_i x0), some (hb_i x1), none] [] w Q := by
  refine hb_iload_n (pc := 0) (i := 0) dJ9_floorMod_7cf53_0 rfl rfl ?_
  refine hb_iload_n (pc := 1) (i := 1) dJ9_floorMod_7cf53_1 rfl rfl ?_
  obtain ⟨ho1, hr1⟩ := h
  refine hb_irem (pc := 2) dJ9_floorMod_7cf53_2 ho1 ?_
  refine hb_istore_n (pc := 3) (i := 2) (ls1 := [some (hb_i x0), some (hb_i x1), some (hb_i (x0 - x0 / x1 * x1))]) dJ9_floorMod_7cf53_3 rfl (by decide) rfl ?_
  refine hb_iload_n (pc := 4) (i := 0) dJ9_floorMod_7cf53_4 rfl rfl ?_
  refine hb_iload_n (pc := 5) (i := 1) dJ9_floorMod_7cf53_5 rfl rfl ?_
  refine hb_ixor (pc := 6) dJ9_floorMod_7cf53_6 ?_
  refine hb_if_ge (pc := 7) (tgt := 18) dJ9_floorMod_7cf53_7 (by decide) (fun c2 => ?_) (fun c2 => ?_)
  · have ht2 := hr1.1 c2
    refine hb_iload_n (pc := 18) (i := 2) dJ9_floorMod_7cf53_18 rfl rfl ?_
    exact hb_iret (pc := 19) dJ9_floorMod_7cf53_19 rfl ht2
  · have ht2 := hr1.2 c2
    refine hb_iload_n (pc := 10) (i := 2) dJ9_floorMod_7cf53_10 rfl rfl ?_
    refine hb_if_eq (pc := 11) (tgt := 18) dJ9_floorMod_7cf53_11 (by decide) (fun c3 => ?_) (fun c3 => ?_)
    · have ht3 := ht2.1 c3
      refine hb_iload_n (pc := 18) (i := 2) dJ9_floorMod_7cf53_18 rfl rfl ?_
      exact hb_iret (pc := 19) dJ9_floorMod_7cf53_19 rfl ht3
    · have ht3 := ht2.2 c3
      refine hb_iload_n (pc := 14) (i := 2) dJ9_floorMod_7cf53_14 rfl rfl ?_
      refine hb_iload_n (pc := 15) (i := 1) dJ9_floorMod_7cf53_15 rfl rfl ?_
      refine hb_iadd (pc := 16) dJ9_floorMod_7cf53_16 ?_
      exact hb_iret (pc := 17) dJ9_floorMod_7cf53_17 rfl ht3
