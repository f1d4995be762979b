theorem hb_aloadN {y : MethodName} {cc : ByteArray} {nL : Nat} {ret : Option FieldType} {d pc : Nat} {ls : List (Option hb_V)} {st : List hb_V} {w : hb_W} {Q : Option hb_V → hb_W → Prop} {i : Nat} (hd : decode cc pc = .ok (.aload i, 2)) (hl : ls[i]? = some (some hb_n)) (h : hb_R y cc nL ret d (pc + 2) ls (hb_n :: st) w Q) : hb_R y cc nL ret d pc ls st w Q := by
  intro p l e R s m args below meth c cells slots D cA ad Hb Z C Kz H locs lsm hH hA
  exact lv_aloadN C.1 C.2.1 hd (hA.2.2 i _ hl) (h p l e R s m args below meth c cells slots D cA ad Hb Z C Kz H locs lsm hH hA)
theorem dX4_forget_0 : decode cX4_forget 0 = .ok (.aload_n 0, 1) := by decide +kernel
theorem dX4_forget_1 : decode cX4_forget 1 = .ok (.iconst (-1), 1) := by decide +kernel
theorem dX4_forget_2 : decode cX4_forget 2 = .ok (.putfield 43, 3) := by decide +kernel
theorem dX4_forget_5 : decode cX4_forget 5 = .ok (.aload_n 0, 1) := by decide +kernel
theorem dX4_forget_6 : decode cX4_forget 6 = .ok (.iconst (-1), 1) := by decide +kernel
theorem dX4_forget_7 : decode cX4_forget 7 = .ok (.putfield 47, 3) := by decide +kernel
theorem dX4_forget_10 : decode cX4_forget 10 = .ok (.return_, 1) := by decide +kernel
set_option maxRecDepth 20000 in
theorem bk_X4_forget_0 {d : Nat} {w : hb_W} {Q : Option hb_V → hb_W → Prop} (h : Q none (hb_pI (hb_pI w 8 9 0 (-1 : Int32)) 8 10 0 (-1 : Int32))) : hb_R yX4_forget cX4_forget 1 none d 0 [some (hb_r 8 0 0)] [] w Q := by
  refine hb_aload_n (pc := 0) (i := 0) dX4_forget_0 rfl rfl ?_
  refine hb_iconst (pc := 1) (v := -1) dX4_forget_1 (by decide) ?_
  refine hb_putI (pc := 2) dX4_forget_2 fw_X4_43 cw_4 pw_4_9 rfl (by decide) rfl rfl rfl ?_
  refine hb_aload_n (pc := 5) (i := 0) dX4_forget_5 rfl rfl ?_
  refine hb_iconst (pc := 6) (v := -1) dX4_forget_6 (by decide) ?_
  refine hb_putI (pc := 7) dX4_forget_7 fw_X4_47 cw_4 pw_4_10 rfl (by decide) rfl rfl rfl ?_
  exact hb_vret (pc := 10) dX4_forget_10 rfl h
theorem dX4_startAgain_0 : decode cX4_startAgain 0 = .ok (.aload_n 0, 1) := by decide +kernel
theorem dX4_startAgain_1 : decode cX4_startAgain 1 = .ok (.iconst (-1), 1) := by decide +kernel
theorem dX4_startAgain_2 : decode cX4_startAgain 2 = .ok (.putfield 47, 3) := by decide +kernel
theorem dX4_startAgain_5 : decode cX4_startAgain 5 = .ok (.return_, 1) := by decide +kernel
set_option maxRecDepth 20000 in
theorem bk_X4_startAgain_0 {d : Nat} {w : hb_W} {Q : Option hb_V → hb_W → Prop} (h : Q none (hb_pI w 8 10 0 (-1 : Int32))) : hb_R yX4_startAgain cX4_startAgain 1 none d 0 [some (hb_r 8 0 0)] [] w Q := by
  refine hb_aload_n (pc := 0) (i := 0) dX4_startAgain_0 rfl rfl ?_
  refine hb_iconst (pc := 1) (v := -1) dX4_startAgain_1 (by decide) ?_
  refine hb_putI (pc := 2) dX4_startAgain_2 fw_X4_47 cw_4 pw_4_10 rfl (by decide) rfl rfl rfl ?_
  exact hb_vret (pc := 5) dX4_startAgain_5 rfl h
theorem dX4_bringUp_0 : decode cX4_bringUp 0 = .ok (.aload_n 0, 1) := by decide +kernel
theorem dX4_bringUp_1 : decode cX4_bringUp 1 = .ok (.getfield 43, 3) := by decide +kernel
theorem dX4_bringUp_4 : decode cX4_bringUp 4 = .ok (.aload_n 2, 1) := by decide +kernel
theorem dX4_bringUp_5 : decode cX4_bringUp 5 = .ok (.getfield 50, 3) := by decide +kernel
theorem dX4_bringUp_8 : decode cX4_bringUp 8 = .ok (.if_icmp .eq 47, 3) := by decide +kernel
theorem dX4_bringUp_11 : decode cX4_bringUp 11 = .ok (.iconst 0, 1) := by decide +kernel
theorem dX4_bringUp_12 : decode cX4_bringUp 12 = .ok (.istore_n 3, 1) := by decide +kernel
theorem dX4_bringUp_13 : decode cX4_bringUp 13 = .ok (.iload_n 3, 1) := by decide +kernel
theorem dX4_bringUp_14 : decode cX4_bringUp 14 = .ok (.bipush 9, 2) := by decide +kernel
theorem dX4_bringUp_16 : decode cX4_bringUp 16 = .ok (.if_icmp .ge 26, 3) := by decide +kernel
theorem dX4_bringUp_19 : decode cX4_bringUp 19 = .ok (.aload_n 0, 1) := by decide +kernel
theorem dX4_bringUp_20 : decode cX4_bringUp 20 = .ok (.getfield 15, 3) := by decide +kernel
theorem dX4_bringUp_23 : decode cX4_bringUp 23 = .ok (.aload_n 1, 1) := by decide +kernel
theorem dX4_bringUp_24 : decode cX4_bringUp 24 = .ok (.aload_n 0, 1) := by decide +kernel
theorem dX4_bringUp_25 : decode cX4_bringUp 25 = .ok (.getfield 9, 3) := by decide +kernel
theorem dX4_bringUp_28 : decode cX4_bringUp 28 = .ok (.aload_n 2, 1) := by decide +kernel
theorem dX4_bringUp_29 : decode cX4_bringUp 29 = .ok (.getfield 50, 3) := by decide +kernel
theorem dX4_bringUp_32 : decode cX4_bringUp 32 = .ok (.iload_n 3, 1) := by decide +kernel
theorem dX4_bringUp_33 : decode cX4_bringUp 33 = .ok (.invokevirtual 55, 3) := by decide +kernel
theorem dX4_bringUp_36 : decode cX4_bringUp 36 = .ok (.iinc 3 1, 3) := by decide +kernel
theorem dX4_bringUp_39 : decode cX4_bringUp 39 = .ok (.goto (-26), 3) := by decide +kernel
theorem dX4_bringUp_42 : decode cX4_bringUp 42 = .ok (.aload_n 0, 1) := by decide +kernel
theorem dX4_bringUp_43 : decode cX4_bringUp 43 = .ok (.aload_n 2, 1) := by decide +kernel
theorem dX4_bringUp_44 : decode cX4_bringUp 44 = .ok (.getfield 50, 3) := by decide +kernel
theorem dX4_bringUp_47 : decode cX4_bringUp 47 = .ok (.putfield 43, 3) := by decide +kernel
theorem dX4_bringUp_50 : decode cX4_bringUp 50 = .ok (.aload_n 0, 1) := by decide +kernel
theorem dX4_bringUp_51 : decode cX4_bringUp 51 = .ok (.iconst (-1), 1) := by decide +kernel
theorem dX4_bringUp_52 : decode cX4_bringUp 52 = .ok (.putfield 47, 3) := by decide +kernel
theorem dX4_bringUp_55 : decode cX4_bringUp 55 = .ok (.aload_n 0, 1) := by decide +kernel
theorem dX4_bringUp_56 : decode cX4_bringUp 56 = .ok (.getfield 47, 3) := by decide +kernel
theorem dX4_bringUp_59 : decode cX4_bringUp 59 = .ok (.iconst (-1), 1) := by decide +kernel
theorem dX4_bringUp_60 : decode cX4_bringUp 60 = .ok (.if_icmp .ne 53, 3) := by decide +kernel
theorem dX4_bringUp_63 : decode cX4_bringUp 63 = .ok (.aload_n 0, 1) := by decide +kernel
theorem dX4_bringUp_64 : decode cX4_bringUp 64 = .ok (.getfield 30, 3) := by decide +kernel
theorem dX4_bringUp_67 : decode cX4_bringUp 67 = .ok (.aload_n 1, 1) := by decide +kernel
theorem dX4_bringUp_68 : decode cX4_bringUp 68 = .ok (.getfield 59, 3) := by decide +kernel
theorem dX4_bringUp_71 : decode cX4_bringUp 71 = .ok (.aload_n 1, 1) := by decide +kernel
theorem dX4_bringUp_72 : decode cX4_bringUp 72 = .ok (.getfield 64, 3) := by decide +kernel
theorem dX4_bringUp_75 : decode cX4_bringUp 75 = .ok (.invokevirtual 67, 3) := by decide +kernel
theorem dX4_bringUp_78 : decode cX4_bringUp 78 = .ok (.aload_n 0, 1) := by decide +kernel
theorem dX4_bringUp_79 : decode cX4_bringUp 79 = .ok (.getfield 34, 3) := by decide +kernel
theorem dX4_bringUp_82 : decode cX4_bringUp 82 = .ok (.aload_n 1, 1) := by decide +kernel
theorem dX4_bringUp_83 : decode cX4_bringUp 83 = .ok (.getfield 59, 3) := by decide +kernel
theorem dX4_bringUp_86 : decode cX4_bringUp 86 = .ok (.aload_n 1, 1) := by decide +kernel
theorem dX4_bringUp_87 : decode cX4_bringUp 87 = .ok (.getfield 64, 3) := by decide +kernel
theorem dX4_bringUp_90 : decode cX4_bringUp 90 = .ok (.invokevirtual 67, 3) := by decide +kernel
theorem dX4_bringUp_93 : decode cX4_bringUp 93 = .ok (.aload_n 0, 1) := by decide +kernel
theorem dX4_bringUp_94 : decode cX4_bringUp 94 = .ok (.getfield 37, 3) := by decide +kernel
theorem dX4_bringUp_97 : decode cX4_bringUp 97 = .ok (.aload_n 1, 1) := by decide +kernel
theorem dX4_bringUp_98 : decode cX4_bringUp 98 = .ok (.getfield 59, 3) := by decide +kernel
theorem dX4_bringUp_101 : decode cX4_bringUp 101 = .ok (.aload_n 1, 1) := by decide +kernel
theorem dX4_bringUp_102 : decode cX4_bringUp 102 = .ok (.getfield 64, 3) := by decide +kernel
theorem dX4_bringUp_105 : decode cX4_bringUp 105 = .ok (.invokevirtual 67, 3) := by decide +kernel
theorem dX4_bringUp_108 : decode cX4_bringUp 108 = .ok (.aload_n 0, 1) := by decide +kernel
theorem dX4_bringUp_109 : decode cX4_bringUp 109 = .ok (.iconst 0, 1) := by decide +kernel
theorem dX4_bringUp_110 : decode cX4_bringUp 110 = .ok (.putfield 47, 3) := by decide +kernel
theorem dX4_bringUp_113 : decode cX4_bringUp 113 = .ok (.aload_n 0, 1) := by decide +kernel
theorem dX4_bringUp_114 : decode cX4_bringUp 114 = .ok (.getfield 47, 3) := by decide +kernel
theorem dX4_bringUp_117 : decode cX4_bringUp 117 = .ok (.istore_n 3, 1) := by decide +kernel
theorem dX4_bringUp_118 : decode cX4_bringUp 118 = .ok (.iload_n 3, 1) := by decide +kernel
theorem dX4_bringUp_119 : decode cX4_bringUp 119 = .ok (.aload_n 2, 1) := by decide +kernel
theorem dX4_bringUp_120 : decode cX4_bringUp 120 = .ok (.getfield 71, 3) := by decide +kernel
theorem dX4_bringUp_123 : decode cX4_bringUp 123 = .ok (.if_icmp .ge 67, 3) := by decide +kernel
theorem dX4_bringUp_126 : decode cX4_bringUp 126 = .ok (.aload_n 2, 1) := by decide +kernel
theorem dX4_bringUp_127 : decode cX4_bringUp 127 = .ok (.getfield 74, 3) := by decide +kernel
theorem dX4_bringUp_130 : decode cX4_bringUp 130 = .ok (.iload_n 3, 1) := by decide +kernel
theorem dX4_bringUp_131 : decode cX4_bringUp 131 = .ok (.iaload, 1) := by decide +kernel
theorem dX4_bringUp_132 : decode cX4_bringUp 132 = .ok (.ifCond .ne 10, 3) := by decide +kernel
theorem dX4_bringUp_135 : decode cX4_bringUp 135 = .ok (.aload_n 0, 1) := by decide +kernel
theorem dX4_bringUp_136 : decode cX4_bringUp 136 = .ok (.getfield 30, 3) := by decide +kernel
theorem dX4_bringUp_139 : decode cX4_bringUp 139 = .ok (.goto 7, 3) := by decide +kernel
theorem dX4_bringUp_142 : decode cX4_bringUp 142 = .ok (.aload_n 0, 1) := by decide +kernel
theorem dX4_bringUp_143 : decode cX4_bringUp 143 = .ok (.getfield 34, 3) := by decide +kernel
theorem dX4_bringUp_146 : decode cX4_bringUp 146 = .ok (.astore 4, 2) := by decide +kernel
theorem dX4_bringUp_148 : decode cX4_bringUp 148 = .ok (.aload 4, 2) := by decide +kernel
theorem dX4_bringUp_150 : decode cX4_bringUp 150 = .ok (.aload_n 2, 1) := by decide +kernel
theorem dX4_bringUp_151 : decode cX4_bringUp 151 = .ok (.getfield 78, 3) := by decide +kernel
theorem dX4_bringUp_154 : decode cX4_bringUp 154 = .ok (.iload_n 3, 1) := by decide +kernel
theorem dX4_bringUp_155 : decode cX4_bringUp 155 = .ok (.iaload, 1) := by decide +kernel
theorem dX4_bringUp_156 : decode cX4_bringUp 156 = .ok (.aload_n 2, 1) := by decide +kernel
theorem dX4_bringUp_157 : decode cX4_bringUp 157 = .ok (.getfield 81, 3) := by decide +kernel
theorem dX4_bringUp_160 : decode cX4_bringUp 160 = .ok (.iload_n 3, 1) := by decide +kernel
theorem dX4_bringUp_161 : decode cX4_bringUp 161 = .ok (.iaload, 1) := by decide +kernel
theorem dX4_bringUp_162 : decode cX4_bringUp 162 = .ok (.invokevirtual 84, 3) := by decide +kernel
theorem dX4_bringUp_165 : decode cX4_bringUp 165 = .ok (.aload_n 0, 1) := by decide +kernel
theorem dX4_bringUp_166 : decode cX4_bringUp 166 = .ok (.getfield 37, 3) := by decide +kernel
theorem dX4_bringUp_169 : decode cX4_bringUp 169 = .ok (.aload_n 2, 1) := by decide +kernel
theorem dX4_bringUp_170 : decode cX4_bringUp 170 = .ok (.getfield 78, 3) := by decide +kernel
theorem dX4_bringUp_173 : decode cX4_bringUp 173 = .ok (.iload_n 3, 1) := by decide +kernel
theorem dX4_bringUp_174 : decode cX4_bringUp 174 = .ok (.iaload, 1) := by decide +kernel
theorem dX4_bringUp_175 : decode cX4_bringUp 175 = .ok (.aload_n 2, 1) := by decide +kernel
theorem dX4_bringUp_176 : decode cX4_bringUp 176 = .ok (.getfield 81, 3) := by decide +kernel
theorem dX4_bringUp_179 : decode cX4_bringUp 179 = .ok (.iload_n 3, 1) := by decide +kernel
theorem dX4_bringUp_180 : decode cX4_bringUp 180 = .ok (.iaload, 1) := by decide +kernel
theorem dX4_bringUp_181 : decode cX4_bringUp 181 = .ok (.invokevirtual 84, 3) := by decide +kernel
theorem dX4_bringUp_184 : decode cX4_bringUp 184 = .ok (.iinc 3 1, 3) := by decide +kernel
theorem dX4_bringUp_187 : decode cX4_bringUp 187 = .ok (.goto (-69), 3) := by decide +kernel
theorem dX4_bringUp_190 : decode cX4_bringUp 190 = .ok (.aload_n 0, 1) := by decide +kernel
theorem dX4_bringUp_191 : decode cX4_bringUp 191 = .ok (.aload_n 2, 1) := by decide +kernel
theorem dX4_bringUp_192 : decode cX4_bringUp 192 = .ok (.getfield 71, 3) := by decide +kernel
theorem dX4_bringUp_195 : decode cX4_bringUp 195 = .ok (.putfield 47, 3) := by decide +kernel
theorem dX4_bringUp_198 : decode cX4_bringUp 198 = .ok (.return_, 1) := by decide +kernel
set_option maxRecDepth 20000 in
theorem bk_X4_bringUp_0 {d : Nat} {w : hb_W} {Q : Option hb_V → hb_W → Prop} {g1 : Nat} (hg1 : g1 < hb_ct 11) (h : (((hb_fI w 8 9 0) = (hb_fI w 7 4 0)) → ((¬ (hb_fI w 8 10 0) = (-1 : Int32)) → hb_R yX4_bringUp cX4_bringUp 5 none (d + 1) 118 [some (hb_r 8 0 0), some (hb_r 11 g1 0), some (hb_r 7 0 0), some (hb_i (hb_fI w 8 10 0)), none] [] w Q) ∧ (((hb_fI w 8 10 0) = (-1 : Int32)) → hb_O yX0_begin cX0_begin 3 none d [hb_r 9 0 0, hb_i (hb_fI w 11 1 g1), hb_i (hb_fI w 11 2 g1)] w (fun rv w1 => hb_R yX4_bringUp cX4_bringUp 5 none (d + 1) 78 [some (hb_r 8 0 0), some (hb_r 11 g1 0), some (hb_r 7 0 0), none, none] (rv.toList ++ []) w1 Q))) ∧ ((¬ (hb_fI w 8 9 0) = (hb_fI w 7 4 0)) → hb_R yX4_bringUp cX4_bringUp 5 none (d + 1) 13 [some (hb_r 8 0 0), some (hb_r 11 g1 0), some (hb_r 7 0 0), some (hb_i (0 : Int32)), none] [] w Q)) : hb_R yX4_bringUp cX4_bringUp 5 none (d + 1) 0 [some (hb_r 8 0 0), some (hb_r 11 g1 0), some (hb_r 7 0 0), none, none] [] w Q := by
  refine hb_aload_n (pc := 0) (i := 0) dX4_bringUp_0 rfl rfl ?_
  refine hb_getIx (pc := 1) (x := hb_fI w 8 9 0) dX4_bringUp_1 fw_X4_43 cw_4 rfl (by decide) rfl rfl ?_
  refine hb_aload_n (pc := 4) (i := 2) dX4_bringUp_4 rfl rfl ?_
  refine hb_getIx (pc := 5) (x := hb_fI w 7 4 0) dX4_bringUp_5 fw_X4_50 cw_8 rfl (by decide) rfl rfl ?_
  refine hb_icmp_eq (pc := 8) (tgt := 55) dX4_bringUp_8 (by decide) (fun c1 => ?_) (fun c1 => ?_)
  · have ht1 := h.1 c1
    refine hb_aload_n (pc := 55) (i := 0) dX4_bringUp_55 rfl rfl ?_
    refine hb_getIx (pc := 56) (x := hb_fI w 8 10 0) dX4_bringUp_56 fw_X4_47 cw_4 rfl (by decide) rfl rfl ?_
    refine hb_iconst (pc := 59) (v := -1) dX4_bringUp_59 (by decide) ?_
    refine hb_icmp_ne (pc := 60) (tgt := 113) dX4_bringUp_60 (by decide) (fun c2 => ?_) (fun c2 => ?_)
    · have ht2 := ht1.1 c2
      refine hb_aload_n (pc := 113) (i := 0) dX4_bringUp_113 rfl rfl ?_
      refine hb_getIx (pc := 114) (x := hb_fI w 8 10 0) dX4_bringUp_114 fw_X4_47 cw_4 rfl (by decide) rfl rfl ?_
      refine hb_istore_n (pc := 117) (i := 3) (ls1 := [some (hb_r 8 0 0), some (hb_r 11 g1 0), some (hb_r 7 0 0), some (hb_i (hb_fI w 8 10 0)), none]) dX4_bringUp_117 rfl (by decide) rfl ?_
      exact ht2
    · have ht2 := ht1.2 c2
      refine hb_aload_n (pc := 63) (i := 0) dX4_bringUp_63 rfl rfl ?_
      refine hb_getR (pc := 64) (g1 := 0) dX4_bringUp_64 fw_X4_30 cw_4 rfl (by decide) rfl (by decide) rfl ?_
      refine hb_aload_n (pc := 67) (i := 1) dX4_bringUp_67 rfl rfl ?_
      refine hb_getIx (pc := 68) (x := hb_fI w 11 1 g1) dX4_bringUp_68 fw_X4_59 cw_6 rfl hg1 rfl rfl ?_
      refine hb_aload_n (pc := 71) (i := 1) dX4_bringUp_71 rfl rfl ?_
      refine hb_getIx (pc := 72) (x := hb_fI w 11 2 g1) dX4_bringUp_72 fw_X4_64 cw_6 rfl hg1 rfl rfl ?_
      exact hb_callV (pc := 75) (As := [hb_i (hb_fI w 11 1 g1), hb_i (hb_fI w 11 2 g1)]) (st := []) dX4_bringUp_75 ml_X4_67 mf_X0_begin mi_X0_begin (ci := 0) rfl rfl (by decide) rfl rfl (Nat.le_of_ble_eq_true rfl) (Nat.le_of_ble_eq_true rfl) ht2 (fun _ _ q => q)
  · have ht1 := h.2 c1
    refine hb_iconst (pc := 11) (v := 0) dX4_bringUp_11 (by decide) ?_
    refine hb_istore_n (pc := 12) (i := 3) (ls1 := [some (hb_r 8 0 0), some (hb_r 11 g1 0), some (hb_r 7 0 0), some (hb_i (0 : Int32)), none]) dX4_bringUp_12 rfl (by decide) rfl ?_
    exact ht1
set_option maxRecDepth 20000 in
theorem bk_X4_bringUp_13 {d : Nat} {w : hb_W} {Q : Option hb_V → hb_W → Prop} {g1 : Nat} {x3 : Int32} (hg1 : g1 < hb_ct 11) (h : (((9 : Int32) ≤ x3) → ((¬ (-1 : Int32) = (-1 : Int32)) → hb_R yX4_bringUp cX4_bringUp 5 none (d + 1) 118 [some (hb_r 8 0 0), some (hb_r 11 g1 0), some (hb_r 7 0 0), some (hb_i (-1 : Int32)), none] [] (hb_pI (hb_pI w 8 9 0 (hb_fI w 7 4 0)) 8 10 0 (-1 : Int32)) Q) ∧ (((-1 : Int32) = (-1 : Int32)) → hb_O yX0_begin cX0_begin 3 none d [hb_r 9 0 0, hb_i (hb_fI w 11 1 g1), hb_i (hb_fI w 11 2 g1)] (hb_pI (hb_pI w 8 9 0 (hb_fI w 7 4 0)) 8 10 0 (-1 : Int32)) (fun rv w1 => hb_R yX4_bringUp cX4_bringUp 5 none (d + 1) 78 [some (hb_r 8 0 0), some (hb_r 11 g1 0), some (hb_r 7 0 0), some (hb_i x3), none] (rv.toList ++ []) w1 Q))) ∧ ((¬ (9 : Int32) ≤ x3) → hb_O yX5_fillLine cX5_fillLine 7 none d [hb_r 5 0 0, hb_r 11 g1 0, hb_r 6 0 0, hb_i (hb_fI w 7 4 0), hb_i x3] w (fun rv w1 => hb_R yX4_bringUp cX4_bringUp 5 none (d + 1) 36 [some (hb_r 8 0 0), some (hb_r 11 g1 0), some (hb_r 7 0 0), some (hb_i x3), none] (rv.toList ++ []) w1 Q))) : hb_R yX4_bringUp cX4_bringUp 5 none (d + 1) 13 [some (hb_r 8 0 0), some (hb_r 11 g1 0), some (hb_r 7 0 0), some (hb_i x3), none] [] w Q := by
  refine hb_iload_n (pc := 13) (i := 3) dX4_bringUp_13 rfl rfl ?_
  refine hb_bipush (pc := 14) (v := 9) dX4_bringUp_14 (by decide) ?_
  refine hb_icmp_ge (pc := 16) (tgt := 42) dX4_bringUp_16 (by decide) (fun c1 => ?_) (fun c1 => ?_)
  · have ht1 := h.1 c1
    refine hb_aload_n (pc := 42) (i := 0) dX4_bringUp_42 rfl rfl ?_
    refine hb_aload_n (pc := 43) (i := 2) dX4_bringUp_43 rfl rfl ?_
    refine hb_getIx (pc := 44) (x := hb_fI w 7 4 0) dX4_bringUp_44 fw_X4_50 cw_8 rfl (by decide) rfl rfl ?_
    refine hb_putI (pc := 47) dX4_bringUp_47 fw_X4_43 cw_4 pw_4_9 rfl (by decide) rfl rfl rfl ?_
    refine hb_aload_n (pc := 50) (i := 0) dX4_bringUp_50 rfl rfl ?_
    refine hb_iconst (pc := 51) (v := -1) dX4_bringUp_51 (by decide) ?_
    refine hb_putI (pc := 52) dX4_bringUp_52 fw_X4_47 cw_4 pw_4_10 rfl (by decide) rfl rfl rfl ?_
    refine hb_aload_n (pc := 55) (i := 0) dX4_bringUp_55 rfl rfl ?_
    refine hb_getIx (pc := 56) (x := (-1 : Int32)) dX4_bringUp_56 fw_X4_47 cw_4 rfl (by decide) rfl rfl ?_
    refine hb_iconst (pc := 59) (v := -1) dX4_bringUp_59 (by decide) ?_
    refine hb_icmp_ne (pc := 60) (tgt := 113) dX4_bringUp_60 (by decide) (fun c2 => ?_) (fun c2 => ?_)
    · have ht2 := ht1.1 c2
      refine hb_aload_n (pc := 113) (i := 0) dX4_bringUp_113 rfl rfl ?_
      refine hb_getIx (pc := 114) (x := (-1 : Int32)) dX4_bringUp_114 fw_X4_47 cw_4 rfl (by decide) rfl rfl ?_
      refine hb_istore_n (pc := 117) (i := 3) (ls1 := [some (hb_r 8 0 0), some (hb_r 11 g1 0), some (hb_r 7 0 0), some (hb_i (-1 : Int32)), none]) dX4_bringUp_117 rfl (by decide) rfl ?_
      exact ht2
    · have ht2 := ht1.2 c2
      refine hb_aload_n (pc := 63) (i := 0) dX4_bringUp_63 rfl rfl ?_
      refine hb_getR (pc := 64) (g1 := 0) dX4_bringUp_64 fw_X4_30 cw_4 rfl (by decide) rfl (by decide) rfl ?_
      refine hb_aload_n (pc := 67) (i := 1) dX4_bringUp_67 rfl rfl ?_
      refine hb_getIx (pc := 68) (x := hb_fI w 11 1 g1) dX4_bringUp_68 fw_X4_59 cw_6 rfl hg1 rfl (by simp [hb_fI, hb_fL, hb_fR, hb_aI, hb_aL, hb_pI, hb_pL, hb_pR, hb_sI, hb_sL, hb_u3]) ?_
      refine hb_aload_n (pc := 71) (i := 1) dX4_bringUp_71 rfl rfl ?_
      refine hb_getIx (pc := 72) (x := hb_fI w 11 2 g1) dX4_bringUp_72 fw_X4_64 cw_6 rfl hg1 rfl (by simp [hb_fI, hb_fL, hb_fR, hb_aI, hb_aL, hb_pI, hb_pL, hb_pR, hb_sI, hb_sL, hb_u3]) ?_
      exact hb_callV (pc := 75) (As := [hb_i (hb_fI w 11 1 g1), hb_i (hb_fI w 11 2 g1)]) (st := []) dX4_bringUp_75 ml_X4_67 mf_X0_begin mi_X0_begin (ci := 0) rfl rfl (by decide) rfl rfl (Nat.le_of_ble_eq_true rfl) (Nat.le_of_ble_eq_true rfl) ht2 (fun _ _ q => q)
  · have ht1 := h.2 c1
    refine hb_aload_n (pc := 19) (i := 0) dX4_bringUp_19 rfl rfl ?_
    refine hb_getR (pc := 20) (g1 := 0) dX4_bringUp_20 fw_X4_15 cw_4 rfl (by decide) rfl (by decide) rfl ?_
    refine hb_aload_n (pc := 23) (i := 1) dX4_bringUp_23 rfl rfl ?_
    refine hb_aload_n (pc := 24) (i := 0) dX4_bringUp_24 rfl rfl ?_
    refine hb_getR (pc := 25) (g1 := 0) dX4_bringUp_25 fw_X4_9 cw_4 rfl (by decide) rfl (by decide) rfl ?_
    refine hb_aload_n (pc := 28) (i := 2) dX4_bringUp_28 rfl rfl ?_
    refine hb_getIx (pc := 29) (x := hb_fI w 7 4 0) dX4_bringUp_29 fw_X4_50 cw_8 rfl (by decide) rfl rfl ?_
    refine hb_iload_n (pc := 32) (i := 3) dX4_bringUp_32 rfl rfl ?_
    exact hb_callV (pc := 33) (As := [hb_r 11 g1 0, hb_r 6 0 0, hb_i (hb_fI w 7 4 0), hb_i x3]) (st := []) dX4_bringUp_33 ml_X4_55 mf_X5_fillLine mi_X5_fillLine (ci := 5) rfl rfl (by decide) rfl rfl (Nat.le_of_ble_eq_true rfl) (Nat.le_of_ble_eq_true rfl) ht1 (fun _ _ q => q)
set_option maxRecDepth 20000 in
theorem bk_X4_bringUp_36 {d : Nat} {w : hb_W} {Q : Option hb_V → hb_W → Prop} {g1 : Nat} {x3 : Int32} (hg1 : g1 < hb_ct 11) (h : hb_R yX4_bringUp cX4_bringUp 5 none (d + 1) 13 [some (hb_r 8 0 0), some (hb_r 11 g1 0), some (hb_r 7 0 0), some (hb_i (x3 + (1 : Int32))), none] [] w Q) : hb_R yX4_bringUp cX4_bringUp 5 none (d + 1) 36 [some (hb_r 8 0 0), some (hb_r 11 g1 0), some (hb_r 7 0 0), some (hb_i x3), none] [] w Q := by
  refine hb_iinc (pc := 36) (v := x3 + (1 : Int32)) (ls1 := [some (hb_r 8 0 0), some (hb_r 11 g1 0), some (hb_r 7 0 0), some (hb_i (x3 + (1 : Int32))), none]) dX4_bringUp_36 rfl rfl (by decide) rfl ?_
  refine hb_goto (pc := 39) (tgt := 13) dX4_bringUp_39 (by decide) ?_
  exact h
set_option maxRecDepth 20000 in
theorem bk_X4_bringUp_78 {d : Nat} {w : hb_W} {Q : Option hb_V → hb_W → Prop} {g1 : Nat} (hg1 : g1 < hb_ct 11) (h : hb_O yX0_begin cX0_begin 3 none d [hb_r 9 1 0, hb_i (hb_fI w 11 1 g1), hb_i (hb_fI w 11 2 g1)] w (fun rv w1 => hb_R yX4_bringUp cX4_bringUp 5 none (d + 1) 93 [some (hb_r 8 0 0), some (hb_r 11 g1 0), some (hb_r 7 0 0), none, none] (rv.toList ++ []) w1 Q)) : hb_R yX4_bringUp cX4_bringUp 5 none (d + 1) 78 [some (hb_r 8 0 0), some (hb_r 11 g1 0), some (hb_r 7 0 0), none, none] [] w Q := by
  refine hb_aload_n (pc := 78) (i := 0) dX4_bringUp_78 rfl rfl ?_
  refine hb_getR (pc := 79) (g1 := 1) dX4_bringUp_79 fw_X4_34 cw_4 rfl (by decide) rfl (by decide) rfl ?_
  refine hb_aload_n (pc := 82) (i := 1) dX4_bringUp_82 rfl rfl ?_
  refine hb_getIx (pc := 83) (x := hb_fI w 11 1 g1) dX4_bringUp_83 fw_X4_59 cw_6 rfl hg1 rfl rfl ?_
  refine hb_aload_n (pc := 86) (i := 1) dX4_bringUp_86 rfl rfl ?_
  refine hb_getIx (pc := 87) (x := hb_fI w 11 2 g1) dX4_bringUp_87 fw_X4_64 cw_6 rfl hg1 rfl rfl ?_
  exact hb_callV (pc := 90) (As := [hb_i (hb_fI w 11 1 g1), hb_i (hb_fI w 11 2 g1)]) (st := []) dX4_bringUp_90 ml_X4_67 mf_X0_begin mi_X0_begin (ci := 0) rfl rfl (by decide) rfl rfl (Nat.le_of_ble_eq_true rfl) (Nat.le_of_ble_eq_true rfl) h (fun _ _ q => q)
set_option maxRecDepth 20000 in
theorem bk_X4_bringUp_93 {d : Nat} {w : hb_W} {Q : Option hb_V → hb_W → Prop} {g1 : Nat} (hg1 : g1 < hb_ct 11) (h : hb_O yX0_begin cX0_begin 3 none d [hb_r 9 2 0, hb_i (hb_fI w 11 1 g1), hb_i (hb_fI w 11 2 g1)] w (fun rv w1 => hb_R yX4_bringUp cX4_bringUp 5 none (d + 1) 108 [some (hb_r 8 0 0), some (hb_r 11 g1 0), some (hb_r 7 0 0), none, none] (rv.toList ++ []) w1 Q)) : hb_R yX4_bringUp cX4_bringUp 5 none (d + 1) 93 [some (hb_r 8 0 0), some (hb_r 11 g1 0), some (hb_r 7 0 0), none, none] [] w Q := by
  refine hb_aload_n (pc := 93) (i := 0) dX4_bringUp_93 rfl rfl ?_
  refine hb_getR (pc := 94) (g1 := 2) dX4_bringUp_94 fw_X4_37 cw_4 rfl (by decide) rfl (by decide) rfl ?_
  refine hb_aload_n (pc := 97) (i := 1) dX4_bringUp_97 rfl rfl ?_
  refine hb_getIx (pc := 98) (x := hb_fI w 11 1 g1) dX4_bringUp_98 fw_X4_59 cw_6 rfl hg1 rfl rfl ?_
  refine hb_aload_n (pc := 101) (i := 1) dX4_bringUp_101 rfl rfl ?_
  refine hb_getIx (pc := 102) (x := hb_fI w 11 2 g1) dX4_bringUp_102 fw_X4_64 cw_6 rfl hg1 rfl rfl ?_
  exact hb_callV (pc := 105) (As := [hb_i (hb_fI w 11 1 g1), hb_i (hb_fI w 11 2 g1)]) (st := []) dX4_bringUp_105 ml_X4_67 mf_X0_begin mi_X0_begin (ci := 0) rfl rfl (by decide) rfl rfl (Nat.le_of_ble_eq_true rfl) (Nat.le_of_ble_eq_true rfl) h (fun _ _ q => q)
set_option maxRecDepth 20000 in
theorem bk_X4_bringUp_108 {d : Nat} {w : hb_W} {Q : Option hb_V → hb_W → Prop} {g1 : Nat} (hg1 : g1 < hb_ct 11) (h : hb_R yX4_bringUp cX4_bringUp 5 none (d + 1) 118 [some (hb_r 8 0 0), some (hb_r 11 g1 0), some (hb_r 7 0 0), some (hb_i (0 : Int32)), none] [] (hb_pI w 8 10 0 (0 : Int32)) Q) : hb_R yX4_bringUp cX4_bringUp 5 none (d + 1) 108 [some (hb_r 8 0 0), some (hb_r 11 g1 0), some (hb_r 7 0 0), none, none] [] w Q := by
  refine hb_aload_n (pc := 108) (i := 0) dX4_bringUp_108 rfl rfl ?_
  refine hb_iconst (pc := 109) (v := 0) dX4_bringUp_109 (by decide) ?_
  refine hb_putI (pc := 110) dX4_bringUp_110 fw_X4_47 cw_4 pw_4_10 rfl (by decide) rfl rfl rfl ?_
  refine hb_aload_n (pc := 113) (i := 0) dX4_bringUp_113 rfl rfl ?_
  refine hb_getIx (pc := 114) (x := (0 : Int32)) dX4_bringUp_114 fw_X4_47 cw_4 rfl (by decide) rfl rfl ?_
  refine hb_istore_n (pc := 117) (i := 3) (ls1 := [some (hb_r 8 0 0), some (hb_r 11 g1 0), some (hb_r 7 0 0), some (hb_i (0 : Int32)), none]) dX4_bringUp_117 rfl (by decide) rfl ?_
  exact h
set_option maxRecDepth 20000 in
theorem bk_X4_bringUp_118 {d : Nat} {w : hb_W} {Q : Option hb_V → hb_W → Prop} {g1 : Nat} {x3 : Int32} (hg1 : g1 < hb_ct 11) (h : (((hb_fI w 7 3 0) ≤ x3) → Q none (hb_pI w 8 10 0 (hb_fI w 7 3 0))) ∧ ((¬ (hb_fI w 7 3 0) ≤ x3) → vp_in x3 400 ∧ (((¬ (hb_aI w 7 3 0 x3.toNatClampNeg) = 0) → vp_in x3 400 ∧ (vp_in x3 400 ∧ (hb_O yX0_add cX0_add 4 none d [hb_r 9 1 0, hb_i (hb_aI w 7 1 0 x3.toNatClampNeg), hb_i (hb_aI w 7 2 0 x3.toNatClampNeg)] w (fun rv w1 => hb_R yX4_bringUp cX4_bringUp 5 none (d + 1) 165 [some (hb_r 8 0 0), some (hb_r 11 g1 0), some (hb_r 7 0 0), some (hb_i x3), some (hb_r 9 1 0)] (rv.toList ++ []) w1 Q)))) ∧ (((hb_aI w 7 3 0 x3.toNatClampNeg) = 0) → vp_in x3 400 ∧ (vp_in x3 400 ∧ (hb_O yX0_add cX0_add 4 none d [hb_r 9 0 0, hb_i (hb_aI w 7 1 0 x3.toNatClampNeg), hb_i (hb_aI w 7 2 0 x3.toNatClampNeg)] w (fun rv w1 => hb_R yX4_bringUp cX4_bringUp 5 none (d + 1) 165 [some (hb_r 8 0 0), some (hb_r 11 g1 0), some (hb_r 7 0 0), some (hb_i x3), some (hb_r 9 0 0)] (rv.toList ++ []) w1 Q))))))) : hb_R yX4_bringUp cX4_bringUp 5 none (d + 1) 118 [some (hb_r 8 0 0), some (hb_r 11 g1 0), some (hb_r 7 0 0), some (hb_i x3), none] [] w Q := by
  refine hb_iload_n (pc := 118) (i := 3) dX4_bringUp_118 rfl rfl ?_
  refine hb_aload_n (pc := 119) (i := 2) dX4_bringUp_119 rfl rfl ?_
  refine hb_getIx (pc := 120) (x := hb_fI w 7 3 0) dX4_bringUp_120 fw_X4_71 cw_8 rfl (by decide) rfl rfl ?_
  refine hb_icmp_ge (pc := 123) (tgt := 190) dX4_bringUp_123 (by decide) (fun c1 => ?_) (fun c1 => ?_)
  · have ht1 := h.1 c1
    refine hb_aload_n (pc := 190) (i := 0) dX4_bringUp_190 rfl rfl ?_
    refine hb_aload_n (pc := 191) (i := 2) dX4_bringUp_191 rfl rfl ?_
    refine hb_getIx (pc := 192) (x := hb_fI w 7 3 0) dX4_bringUp_192 fw_X4_71 cw_8 rfl (by decide) rfl rfl ?_
    refine hb_putI (pc := 195) dX4_bringUp_195 fw_X4_47 cw_4 pw_4_10 rfl (by decide) rfl rfl rfl ?_
    exact hb_vret (pc := 198) dX4_bringUp_198 rfl ht1
  · have ht1 := h.2 c1
    refine hb_aload_n (pc := 126) (i := 2) dX4_bringUp_126 rfl rfl ?_
    refine hb_getR (pc := 127) (g1 := 0) dX4_bringUp_127 fw_X4_74 cw_8 rfl (by decide) rfl (by decide) rfl ?_
    refine hb_iload_n (pc := 130) (i := 3) dX4_bringUp_130 rfl rfl ?_
    obtain ⟨ho2, hr2⟩ := ht1
    refine hb_ialdx (pc := 131) (x := hb_aI w 7 3 0 x3.toNatClampNeg) dX4_bringUp_131 rfl (by decide) ho2 rfl ?_
    refine hb_if_ne (pc := 132) (tgt := 142) dX4_bringUp_132 (by decide) (fun c3 => ?_) (fun c3 => ?_)
    · have ht3 := hr2.1 c3
      refine hb_aload_n (pc := 142) (i := 0) dX4_bringUp_142 rfl rfl ?_
      refine hb_getR (pc := 143) (g1 := 1) dX4_bringUp_143 fw_X4_34 cw_4 rfl (by decide) rfl (by decide) rfl ?_
      refine hb_astore (pc := 146) (i := 4) (ls1 := [some (hb_r 8 0 0), some (hb_r 11 g1 0), some (hb_r 7 0 0), some (hb_i x3), some (hb_r 9 1 0)]) dX4_bringUp_146 (by decide) rfl ?_
      refine hb_aload (pc := 148) dX4_bringUp_148 rfl ?_
      refine hb_aload_n (pc := 150) (i := 2) dX4_bringUp_150 rfl rfl ?_
      refine hb_getR (pc := 151) (g1 := 0) dX4_bringUp_151 fw_X4_78 cw_8 rfl (by decide) rfl (by decide) rfl ?_
      refine hb_iload_n (pc := 154) (i := 3) dX4_bringUp_154 rfl rfl ?_
      obtain ⟨ho4, hr4⟩ := ht3
      refine hb_ialdx (pc := 155) (x := hb_aI w 7 1 0 x3.toNatClampNeg) dX4_bringUp_155 rfl (by decide) ho4 rfl ?_
      refine hb_aload_n (pc := 156) (i := 2) dX4_bringUp_156 rfl rfl ?_
      refine hb_getR (pc := 157) (g1 := 0) dX4_bringUp_157 fw_X4_81 cw_8 rfl (by decide) rfl (by decide) rfl ?_
      refine hb_iload_n (pc := 160) (i := 3) dX4_bringUp_160 rfl rfl ?_
      obtain ⟨ho5, hr5⟩ := hr4
      refine hb_ialdx (pc := 161) (x := hb_aI w 7 2 0 x3.toNatClampNeg) dX4_bringUp_161 rfl (by decide) ho5 rfl ?_
      exact hb_callV (pc := 162) (As := [hb_i (hb_aI w 7 1 0 x3.toNatClampNeg), hb_i (hb_aI w 7 2 0 x3.toNatClampNeg)]) (st := []) dX4_bringUp_162 ml_X4_84 mf_X0_add mi_X0_add (ci := 0) rfl rfl (by decide) rfl rfl (Nat.le_of_ble_eq_true rfl) (Nat.le_of_ble_eq_true rfl) hr5 (fun _ _ q => q)
    · have ht3 := hr2.2 c3
      refine hb_aload_n (pc := 135) (i := 0) dX4_bringUp_135 rfl rfl ?_
      refine hb_getR (pc := 136) (g1 := 0) dX4_bringUp_136 fw_X4_30 cw_4 rfl (by decide) rfl (by decide) rfl ?_
      refine hb_goto (pc := 139) (tgt := 146) dX4_bringUp_139 (by decide) ?_
      refine hb_astore (pc := 146) (i := 4) (ls1 := [some (hb_r 8 0 0), some (hb_r 11 g1 0), some (hb_r 7 0 0), some (hb_i x3), some (hb_r 9 0 0)]) dX4_bringUp_146 (by decide) rfl ?_
      refine hb_aload (pc := 148) dX4_bringUp_148 rfl ?_
      refine hb_aload_n (pc := 150) (i := 2) dX4_bringUp_150 rfl rfl ?_
      refine hb_getR (pc := 151) (g1 := 0) dX4_bringUp_151 fw_X4_78 cw_8 rfl (by decide) rfl (by decide) rfl ?_
      refine hb_iload_n (pc := 154) (i := 3) dX4_bringUp_154 rfl rfl ?_
      obtain ⟨ho6, hr6⟩ := ht3
      refine hb_ialdx (pc := 155) (x := hb_aI w 7 1 0 x3.toNatClampNeg) dX4_bringUp_155 rfl (by decide) ho6 rfl ?_
      refine hb_aload_n (pc := 156) (i := 2) dX4_bringUp_156 rfl rfl ?_
      refine hb_getR (pc := 157) (g1 := 0) dX4_bringUp_157 fw_X4_81 cw_8 rfl (by decide) rfl (by decide) rfl ?_
      refine hb_iload_n (pc := 160) (i := 3) dX4_bringUp_160 rfl rfl ?_
      obtain ⟨ho7, hr7⟩ := hr6
      refine hb_ialdx (pc := 161) (x := hb_aI w 7 2 0 x3.toNatClampNeg) dX4_bringUp_161 rfl (by decide) ho7 rfl ?_
      exact hb_callV (pc := 162) (As := [hb_i (hb_aI w 7 1 0 x3.toNatClampNeg), hb_i (hb_aI w 7 2 0 x3.toNatClampNeg)]) (st := []) dX4_bringUp_162 ml_X4_84 mf_X0_add mi_X0_add (ci := 0) rfl rfl (by decide) rfl rfl (Nat.le_of_ble_eq_true rfl) (Nat.le_of_ble_eq_true rfl) hr7 (fun _ _ q => q)
set_option maxRecDepth 20000 in
theorem bk_X4_bringUp_165 {d : Nat} {w : hb_W} {Q : Option hb_V → hb_W → Prop} {g1 : Nat} {x3 : Int32} {g4 : Nat} (hg1 : g1 < hb_ct 11) (hg4 : g4 < hb_ct 9) (h : vp_in x3 400 ∧ (vp_in x3 400 ∧ (hb_O yX0_add cX0_add 4 none d [hb_r 9 2 0, hb_i (hb_aI w 7 1 0 x3.toNatClampNeg), hb_i (hb_aI w 7 2 0 x3.toNatClampNeg)] w (fun rv w1 => hb_R yX4_bringUp cX4_bringUp 5 none (d + 1) 184 [some (hb_r 8 0 0), some (hb_r 11 g1 0), some (hb_r 7 0 0), some (hb_i x3), some (hb_r 9 g4 0)] (rv.toList ++ []) w1 Q)))) : hb_R yX4_bringUp cX4_bringUp 5 none (d + 1) 165 [some (hb_r 8 0 0), some (hb_r 11 g1 0), some (hb_r 7 0 0), some (hb_i x3), some (hb_r 9 g4 0)] [] w Q := by
  refine hb_aload_n (pc := 165) (i := 0) dX4_bringUp_165 rfl rfl ?_
  refine hb_getR (pc := 166) (g1 := 2) dX4_bringUp_166 fw_X4_37 cw_4 rfl (by decide) rfl (by decide) rfl ?_
  refine hb_aload_n (pc := 169) (i := 2) dX4_bringUp_169 rfl rfl ?_
  refine hb_getR (pc := 170) (g1 := 0) dX4_bringUp_170 fw_X4_78 cw_8 rfl (by decide) rfl (by decide) rfl ?_
  refine hb_iload_n (pc := 173) (i := 3) dX4_bringUp_173 rfl rfl ?_
  obtain ⟨ho1, hr1⟩ := h
  refine hb_ialdx (pc := 174) (x := hb_aI w 7 1 0 x3.toNatClampNeg) dX4_bringUp_174 rfl (by decide) ho1 rfl ?_
  refine hb_aload_n (pc := 175) (i := 2) dX4_bringUp_175 rfl rfl ?_
  refine hb_getR (pc := 176) (g1 := 0) dX4_bringUp_176 fw_X4_81 cw_8 rfl (by decide) rfl (by decide) rfl ?_
  refine hb_iload_n (pc := 179) (i := 3) dX4_bringUp_179 rfl rfl ?_
  obtain ⟨ho2, hr2⟩ := hr1
  refine hb_ialdx (pc := 180) (x := hb_aI w 7 2 0 x3.toNatClampNeg) dX4_bringUp_180 rfl (by decide) ho2 rfl ?_
  exact hb_callV (pc := 181) (As := [hb_i (hb_aI w 7 1 0 x3.toNatClampNeg), hb_i (hb_aI w 7 2 0 x3.toNatClampNeg)]) (st := []) dX4_bringUp_181 ml_X4_84 mf_X0_add mi_X0_add (ci := 0) rfl rfl (by decide) rfl rfl (Nat.le_of_ble_eq_true rfl) (Nat.le_of_ble_eq_true rfl) hr2 (fun _ _ q => q)
set_option maxRecDepth 20000 in
theorem bk_X4_bringUp_184 {d : Nat} {w : hb_W} {Q : Option hb_V → hb_W → Prop} {g1 : Nat} {x3 : Int32} {g4 : Nat} (hg1 : g1 < hb_ct 11) (hg4 : g4 < hb_ct 9) (h : hb_R yX4_bringUp cX4_bringUp 5 none (d + 1) 118 [some (hb_r 8 0 0), some (hb_r 11 g1 0), some (hb_r 7 0 0), some (hb_i (x3 + (1 : Int32))), some (hb_r 9 g4 0)] [] w Q) : hb_R yX4_bringUp cX4_bringUp 5 none (d + 1) 184 [some (hb_r 8 0 0), some (hb_r 11 g1 0), some (hb_r 7 0 0), some (hb_i x3), some (hb_r 9 g4 0)] [] w Q := by
  refine hb_iinc (pc := 184) (v := x3 + (1 : Int32)) (ls1 := [some (hb_r 8 0 0), some (hb_r 11 g1 0), some (hb_r 7 0 0), some (hb_i (x3 + (1 : Int32))), some (hb_r 9 g4 0)]) dX4_bringUp_184 rfl rfl (by decide) rfl ?_
  refine hb_goto (pc := 187) (tgt := 118) dX4_bringUp_187 (by decide) ?_
  exact h
theorem dX4_bookOf_0 : decode cX4_bookOf 0 = .ok (.iload_n 1, 1) := by decide +kernel
theorem dX4_bookOf_1 : decode cX4_bookOf 1 = .ok (.tableswitch 42 0 2 #[27, 32, 37], 27) := by decide +kernel
theorem dX4_bookOf_28 : decode cX4_bookOf 28 = .ok (.aload_n 0, 1) := by decide +kernel
theorem dX4_bookOf_29 : decode cX4_bookOf 29 = .ok (.getfield 30, 3) := by decide +kernel
theorem dX4_bookOf_32 : decode cX4_bookOf 32 = .ok (.areturn, 1) := by decide +kernel
theorem dX4_bookOf_33 : decode cX4_bookOf 33 = .ok (.aload_n 0, 1) := by decide +kernel
theorem dX4_bookOf_34 : decode cX4_bookOf 34 = .ok (.getfield 34, 3) := by decide +kernel
theorem dX4_bookOf_37 : decode cX4_bookOf 37 = .ok (.areturn, 1) := by decide +kernel
theorem dX4_bookOf_38 : decode cX4_bookOf 38 = .ok (.aload_n 0, 1) := by decide +kernel
theorem dX4_bookOf_39 : decode cX4_bookOf 39 = .ok (.getfield 37, 3) := by decide +kernel
theorem dX4_bookOf_42 : decode cX4_bookOf 42 = .ok (.areturn, 1) := by decide +kernel
theorem dX4_bookOf_43 : decode cX4_bookOf 43 = .ok (.aconst_null, 1) := by decide +kernel
theorem dX4_bookOf_44 : decode cX4_bookOf 44 = .ok (.areturn, 1) := by decide +kernel
set_option maxRecDepth 20000 in
theorem bk_X4_bookOf_0 {d : Nat} {w : hb_W} {Q : Option hb_V → hb_W → Prop} {x1 : Int32} (h : (x1 = (0 : Int32) → Q (some (hb_r 9 0 0)) w) ∧ (x1 = (1 : Int32) → Q (some (hb_r 9 1 0)) w) ∧ (x1 = (2 : Int32) → Q (some (hb_r 9 2 0)) w) ∧ (¬ x1 = (0 : Int32) → ¬ x1 = (1 : Int32) → ¬ x1 = (2 : Int32) → Q (some (hb_n)) w)) : hb_R yX4_bookOf cX4_bookOf 2 (some (.object "HoodBook$Book")) d 0 [some (hb_r 8 0 0), some (hb_i x1)] [] w Q := by
  refine hb_iload_n (pc := 0) (i := 1) dX4_bookOf_0 rfl rfl ?_
  by_cases e1_0 : x1 = (0 : Int32)
  · have hk1_0 := h.1 e1_0
    have ei : x1.toInt = 0 := by rw [e1_0]; rfl
    refine hb_tabIn (pc := 1) (tgt := 28) (off := 27) dX4_bookOf_1 (by rw [ei]; decide) (by rw [ei]; decide) (by rw [ei]; rfl) (by decide) ?_
    refine hb_aload_n (pc := 28) (i := 0) dX4_bookOf_28 rfl rfl ?_
    refine hb_getR (pc := 29) (g1 := 0) dX4_bookOf_29 fw_X4_30 cw_4 rfl (by decide) rfl (by decide) rfl ?_
    exact hb_aret (pc := 32) dX4_bookOf_32 rfl hk1_0
  by_cases e1_1 : x1 = (1 : Int32)
  · have hk1_1 := h.2.1 e1_1
    have ei : x1.toInt = 1 := by rw [e1_1]; rfl
    refine hb_tabIn (pc := 1) (tgt := 33) (off := 32) dX4_bookOf_1 (by rw [ei]; decide) (by rw [ei]; decide) (by rw [ei]; rfl) (by decide) ?_
    refine hb_aload_n (pc := 33) (i := 0) dX4_bookOf_33 rfl rfl ?_
    refine hb_getR (pc := 34) (g1 := 1) dX4_bookOf_34 fw_X4_34 cw_4 rfl (by decide) rfl (by decide) rfl ?_
    exact hb_aret (pc := 37) dX4_bookOf_37 rfl hk1_1
  by_cases e1_2 : x1 = (2 : Int32)
  · have hk1_2 := h.2.2.1 e1_2
    have ei : x1.toInt = 2 := by rw [e1_2]; rfl
    refine hb_tabIn (pc := 1) (tgt := 38) (off := 37) dX4_bookOf_1 (by rw [ei]; decide) (by rw [ei]; decide) (by rw [ei]; rfl) (by decide) ?_
    refine hb_aload_n (pc := 38) (i := 0) dX4_bookOf_38 rfl rfl ?_
    refine hb_getR (pc := 39) (g1 := 2) dX4_bookOf_39 fw_X4_37 cw_4 rfl (by decide) rfl (by decide) rfl ?_
    exact hb_aret (pc := 42) dX4_bookOf_42 rfl hk1_2
  have hk1_d := h.2.2.2 e1_0 e1_1 e1_2
  have n1_0 := lv_neT (a := 0) e1_0 rfl
  have n1_1 := lv_neT (a := 1) e1_1 rfl
  have n1_2 := lv_neT (a := 2) e1_2 rfl
  refine hb_tabOut (pc := 1) (tgt := 43) dX4_bookOf_1 (by omega) (by decide) ?_
  refine hb_null (pc := 43) dX4_bookOf_43 ?_
  exact hb_aretN (pc := 44) dX4_bookOf_44 rfl hk1_d
theorem dX4_linesAlike_0 : decode cX4_linesAlike 0 = .ok (.aload_n 0, 1) := by decide +kernel
theorem dX4_linesAlike_1 : decode cX4_linesAlike 1 = .ok (.getfield 30, 3) := by decide +kernel
theorem dX4_linesAlike_4 : decode cX4_linesAlike 4 = .ok (.getfield 87, 3) := by decide +kernel
theorem dX4_linesAlike_7 : decode cX4_linesAlike 7 = .ok (.ifCond .eq 13, 3) := by decide +kernel
theorem dX4_linesAlike_10 : decode cX4_linesAlike 10 = .ok (.aload_n 0, 1) := by decide +kernel
theorem dX4_linesAlike_11 : decode cX4_linesAlike 11 = .ok (.getfield 34, 3) := by decide +kernel
theorem dX4_linesAlike_14 : decode cX4_linesAlike 14 = .ok (.getfield 87, 3) := by decide +kernel
theorem dX4_linesAlike_17 : decode cX4_linesAlike 17 = .ok (.ifCond .ne 5, 3) := by decide +kernel
theorem dX4_linesAlike_20 : decode cX4_linesAlike 20 = .ok (.iconst 0, 1) := by decide +kernel
theorem dX4_linesAlike_21 : decode cX4_linesAlike 21 = .ok (.ireturn, 1) := by decide +kernel
theorem dX4_linesAlike_22 : decode cX4_linesAlike 22 = .ok (.iconst 0, 1) := by decide +kernel
theorem dX4_linesAlike_23 : decode cX4_linesAlike 23 = .ok (.istore_n 1, 1) := by decide +kernel
theorem dX4_linesAlike_24 : decode cX4_linesAlike 24 = .ok (.iconst 0, 1) := by decide +kernel
theorem dX4_linesAlike_25 : decode cX4_linesAlike 25 = .ok (.istore_n 2, 1) := by decide +kernel
theorem dX4_linesAlike_26 : decode cX4_linesAlike 26 = .ok (.iload_n 2, 1) := by decide +kernel
theorem dX4_linesAlike_27 : decode cX4_linesAlike 27 = .ok (.aload_n 0, 1) := by decide +kernel
theorem dX4_linesAlike_28 : decode cX4_linesAlike 28 = .ok (.getfield 37, 3) := by decide +kernel
theorem dX4_linesAlike_31 : decode cX4_linesAlike 31 = .ok (.getfield 90, 3) := by decide +kernel
theorem dX4_linesAlike_34 : decode cX4_linesAlike 34 = .ok (.if_icmp .ge 33, 3) := by decide +kernel
theorem dX4_linesAlike_37 : decode cX4_linesAlike 37 = .ok (.aload_n 0, 1) := by decide +kernel
theorem dX4_linesAlike_38 : decode cX4_linesAlike 38 = .ok (.getfield 30, 3) := by decide +kernel
theorem dX4_linesAlike_41 : decode cX4_linesAlike 41 = .ok (.getfield 91, 3) := by decide +kernel
theorem dX4_linesAlike_44 : decode cX4_linesAlike 44 = .ok (.iload_n 2, 1) := by decide +kernel
theorem dX4_linesAlike_45 : decode cX4_linesAlike 45 = .ok (.iaload, 1) := by decide +kernel
theorem dX4_linesAlike_46 : decode cX4_linesAlike 46 = .ok (.aload_n 0, 1) := by decide +kernel
theorem dX4_linesAlike_47 : decode cX4_linesAlike 47 = .ok (.getfield 34, 3) := by decide +kernel
theorem dX4_linesAlike_50 : decode cX4_linesAlike 50 = .ok (.getfield 91, 3) := by decide +kernel
theorem dX4_linesAlike_53 : decode cX4_linesAlike 53 = .ok (.iload_n 2, 1) := by decide +kernel
theorem dX4_linesAlike_54 : decode cX4_linesAlike 54 = .ok (.iaload, 1) := by decide +kernel
theorem dX4_linesAlike_55 : decode cX4_linesAlike 55 = .ok (.if_icmp .ne 6, 3) := by decide +kernel
theorem dX4_linesAlike_58 : decode cX4_linesAlike 58 = .ok (.iinc 1 1, 3) := by decide +kernel
theorem dX4_linesAlike_61 : decode cX4_linesAlike 61 = .ok (.iinc 2 1, 3) := by decide +kernel
theorem dX4_linesAlike_64 : decode cX4_linesAlike 64 = .ok (.goto (-38), 3) := by decide +kernel
theorem dX4_linesAlike_67 : decode cX4_linesAlike 67 = .ok (.iload_n 1, 1) := by decide +kernel
theorem dX4_linesAlike_68 : decode cX4_linesAlike 68 = .ok (.ireturn, 1) := by decide +kernel
set_option maxRecDepth 20000 in
theorem bk_X4_linesAlike_0 {d : Nat} {w : hb_W} {Q : Option hb_V → hb_W → Prop} (h : (((hb_fI w 9 3 0) = 0) → Q (some (hb_i (0 : Int32))) w) ∧ ((¬ (hb_fI w 9 3 0) = 0) → ((¬ (hb_fI w 9 3 1) = 0) → hb_R yX4_linesAlike cX4_linesAlike 3 (some .int) d 26 [some (hb_r 8 0 0), some (hb_i (0 : Int32)), some (hb_i (0 : Int32))] [] w Q) ∧ (((hb_fI w 9 3 1) = 0) → Q (some (hb_i (0 : Int32))) w))) : hb_R yX4_linesAlike cX4_linesAlike 3 (some .int) d 0 [some (hb_r 8 0 0), none, none] [] w Q := by
  refine hb_aload_n (pc := 0) (i := 0) dX4_linesAlike_0 rfl rfl ?_
  refine hb_getR (pc := 1) (g1 := 0) dX4_linesAlike_1 fw_X4_30 cw_4 rfl (by decide) rfl (by decide) rfl ?_
  refine hb_getIx (pc := 4) (x := hb_fI w 9 3 0) dX4_linesAlike_4 fw_X4_87 cw_0 rfl (by decide) rfl rfl ?_
  refine hb_if_eq (pc := 7) (tgt := 20) dX4_linesAlike_7 (by decide) (fun c1 => ?_) (fun c1 => ?_)
  · have ht1 := h.1 c1
    refine hb_iconst (pc := 20) (v := 0) dX4_linesAlike_20 (by decide) ?_
    exact hb_iret (pc := 21) dX4_linesAlike_21 rfl ht1
  · have ht1 := h.2 c1
    refine hb_aload_n (pc := 10) (i := 0) dX4_linesAlike_10 rfl rfl ?_
    refine hb_getR (pc := 11) (g1 := 1) dX4_linesAlike_11 fw_X4_34 cw_4 rfl (by decide) rfl (by decide) rfl ?_
    refine hb_getIx (pc := 14) (x := hb_fI w 9 3 1) dX4_linesAlike_14 fw_X4_87 cw_0 rfl (by decide) rfl rfl ?_
    refine hb_if_ne (pc := 17) (tgt := 22) dX4_linesAlike_17 (by decide) (fun c2 => ?_) (fun c2 => ?_)
    · have ht2 := ht1.1 c2
      refine hb_iconst (pc := 22) (v := 0) dX4_linesAlike_22 (by decide) ?_
      refine hb_istore_n (pc := 23) (i := 1) (ls1 := [some (hb_r 8 0 0), some (hb_i (0 : Int32)), none]) dX4_linesAlike_23 rfl (by decide) rfl ?_
      refine hb_iconst (pc := 24) (v := 0) dX4_linesAlike_24 (by decide) ?_
      refine hb_istore_n (pc := 25) (i := 2) (ls1 := [some (hb_r 8 0 0), some (hb_i (0 : Int32)), some (hb_i (0 : Int32))]) dX4_linesAlike_25 rfl (by decide) rfl ?_
      exact ht2
    · have ht2 := ht1.2 c2
      refine hb_iconst (pc := 20) (v := 0) dX4_linesAlike_20 (by decide) ?_
      exact hb_iret (pc := 21) dX4_linesAlike_21 rfl ht2
set_option maxRecDepth 20000 in
theorem bk_X4_linesAlike_26 {d : Nat} {w : hb_W} {Q : Option hb_V → hb_W → Prop} {x1 : Int32} {x2 : Int32} (h : (((hb_fI w 9 0 2) ≤ x2) → Q (some (hb_i x1)) w) ∧ ((¬ (hb_fI w 9 0 2) ≤ x2) → vp_in x2 9 ∧ (vp_in x2 9 ∧ (((¬ (hb_aI w 9 10 0 x2.toNatClampNeg) = (hb_aI w 9 10 1 x2.toNatClampNeg)) → hb_R yX4_linesAlike cX4_linesAlike 3 (some .int) d 26 [some (hb_r 8 0 0), some (hb_i x1), some (hb_i (x2 + (1 : Int32)))] [] w Q) ∧ (((hb_aI w 9 10 0 x2.toNatClampNeg) = (hb_aI w 9 10 1 x2.toNatClampNeg)) → hb_R yX4_linesAlike cX4_linesAlike 3 (some .int) d 26 [some (hb_r 8 0 0), some (hb_i (x1 + (1 : Int32))), some (hb_i (x2 + (1 : Int32)))] [] w Q))))) : hb_R yX4_linesAlike cX4_linesAlike 3 (some .int) d 26 [some (hb_r 8 0 0), some (hb_i x1), some (hb_i x2)] [] w Q := by
  refine hb_iload_n (pc := 26) (i := 2) dX4_linesAlike_26 rfl rfl ?_
  refine hb_aload_n (pc := 27) (i := 0) dX4_linesAlike_27 rfl rfl ?_
  refine hb_getR (pc := 28) (g1 := 2) dX4_linesAlike_28 fw_X4_37 cw_4 rfl (by decide) rfl (by decide) rfl ?_
  refine hb_getIx (pc := 31) (x := hb_fI w 9 0 2) dX4_linesAlike_31 fw_X4_90 cw_0 rfl (by decide) rfl rfl ?_
  refine hb_icmp_ge (pc := 34) (tgt := 67) dX4_linesAlike_34 (by decide) (fun c1 => ?_) (fun c1 => ?_)
  · have ht1 := h.1 c1
    refine hb_iload_n (pc := 67) (i := 1) dX4_linesAlike_67 rfl rfl ?_
    exact hb_iret (pc := 68) dX4_linesAlike_68 rfl ht1
  · have ht1 := h.2 c1
    refine hb_aload_n (pc := 37) (i := 0) dX4_linesAlike_37 rfl rfl ?_
    refine hb_getR (pc := 38) (g1 := 0) dX4_linesAlike_38 fw_X4_30 cw_4 rfl (by decide) rfl (by decide) rfl ?_
    refine hb_getR (pc := 41) (g1 := 0) dX4_linesAlike_41 fw_X4_91 cw_0 rfl (by decide) rfl (by decide) rfl ?_
    refine hb_iload_n (pc := 44) (i := 2) dX4_linesAlike_44 rfl rfl ?_
    obtain ⟨ho2, hr2⟩ := ht1
    refine hb_ialdx (pc := 45) (x := hb_aI w 9 10 0 x2.toNatClampNeg) dX4_linesAlike_45 rfl (by decide) ho2 rfl ?_
    refine hb_aload_n (pc := 46) (i := 0) dX4_linesAlike_46 rfl rfl ?_
    refine hb_getR (pc := 47) (g1 := 1) dX4_linesAlike_47 fw_X4_34 cw_4 rfl (by decide) rfl (by decide) rfl ?_
    refine hb_getR (pc := 50) (g1 := 1) dX4_linesAlike_50 fw_X4_91 cw_0 rfl (by decide) rfl (by decide) rfl ?_
    refine hb_iload_n (pc := 53) (i := 2) dX4_linesAlike_53 rfl rfl ?_
    obtain ⟨ho3, hr3⟩ := hr2
    refine hb_ialdx (pc := 54) (x := hb_aI w 9 10 1 x2.toNatClampNeg) dX4_linesAlike_54 rfl (by decide) ho3 rfl ?_
    refine hb_icmp_ne (pc := 55) (tgt := 61) dX4_linesAlike_55 (by decide) (fun c4 => ?_) (fun c4 => ?_)
    · have ht4 := hr3.1 c4
      refine hb_iinc (pc := 61) (v := x2 + (1 : Int32)) (ls1 := [some (hb_r 8 0 0), some (hb_i x1), some (hb_i (x2 + (1 : Int32)))]) dX4_linesAlike_61 rfl rfl (by decide) rfl ?_
      refine hb_goto (pc := 64) (tgt := 26) dX4_linesAlike_64 (by decide) ?_
      exact ht4
    · have ht4 := hr3.2 c4
      refine hb_iinc (pc := 58) (v := x1 + (1 : Int32)) (ls1 := [some (hb_r 8 0 0), some (hb_i (x1 + (1 : Int32))), some (hb_i x2)]) dX4_linesAlike_58 rfl rfl (by decide) rfl ?_
      refine hb_iinc (pc := 61) (v := x2 + (1 : Int32)) (ls1 := [some (hb_r 8 0 0), some (hb_i (x1 + (1 : Int32))), some (hb_i (x2 + (1 : Int32)))]) dX4_linesAlike_61 rfl rfl (by decide) rfl ?_
      refine hb_goto (pc := 64) (tgt := 26) dX4_linesAlike_64 (by decide) ?_
      exact ht4
theorem dX4_setScene_0 : decode cX4_setScene 0 = .ok (.aload_n 0, 1) := by decide +kernel
theorem dX4_setScene_1 : decode cX4_setScene 1 = .ok (.getfield 9, 3) := by decide +kernel
theorem dX4_setScene_4 : decode cX4_setScene 4 = .ok (.iload_n 1, 1) := by decide +kernel
theorem dX4_setScene_5 : decode cX4_setScene 5 = .ok (.putfield 94, 3) := by decide +kernel
theorem dX4_setScene_8 : decode cX4_setScene 8 = .ok (.aload_n 0, 1) := by decide +kernel
theorem dX4_setScene_9 : decode cX4_setScene 9 = .ok (.getfield 9, 3) := by decide +kernel
theorem dX4_setScene_12 : decode cX4_setScene 12 = .ok (.iload_n 2, 1) := by decide +kernel
theorem dX4_setScene_13 : decode cX4_setScene 13 = .ok (.putfield 99, 3) := by decide +kernel
theorem dX4_setScene_16 : decode cX4_setScene 16 = .ok (.aload_n 0, 1) := by decide +kernel
theorem dX4_setScene_17 : decode cX4_setScene 17 = .ok (.getfield 9, 3) := by decide +kernel
theorem dX4_setScene_20 : decode cX4_setScene 20 = .ok (.aload_n 0, 1) := by decide +kernel
theorem dX4_setScene_21 : decode cX4_setScene 21 = .ok (.getfield 37, 3) := by decide +kernel
theorem dX4_setScene_24 : decode cX4_setScene 24 = .ok (.getfield 100, 3) := by decide +kernel
theorem dX4_setScene_27 : decode cX4_setScene 27 = .ok (.iload_n 1, 1) := by decide +kernel
theorem dX4_setScene_28 : decode cX4_setScene 28 = .ok (.iaload, 1) := by decide +kernel
theorem dX4_setScene_29 : decode cX4_setScene 29 = .ok (.putfield 103, 3) := by decide +kernel
theorem dX4_setScene_32 : decode cX4_setScene 32 = .ok (.aload_n 0, 1) := by decide +kernel
theorem dX4_setScene_33 : decode cX4_setScene 33 = .ok (.getfield 9, 3) := by decide +kernel
theorem dX4_setScene_36 : decode cX4_setScene 36 = .ok (.aload_n 0, 1) := by decide +kernel
theorem dX4_setScene_37 : decode cX4_setScene 37 = .ok (.getfield 37, 3) := by decide +kernel
theorem dX4_setScene_40 : decode cX4_setScene 40 = .ok (.iload_n 1, 1) := by decide +kernel
theorem dX4_setScene_41 : decode cX4_setScene 41 = .ok (.invokevirtual 106, 3) := by decide +kernel
theorem dX4_setScene_44 : decode cX4_setScene 44 = .ok (.putfield 110, 3) := by decide +kernel
theorem dX4_setScene_47 : decode cX4_setScene 47 = .ok (.aload_n 0, 1) := by decide +kernel
theorem dX4_setScene_48 : decode cX4_setScene 48 = .ok (.getfield 9, 3) := by decide +kernel
theorem dX4_setScene_51 : decode cX4_setScene 51 = .ok (.aload_n 0, 1) := by decide +kernel
theorem dX4_setScene_52 : decode cX4_setScene 52 = .ok (.getfield 37, 3) := by decide +kernel
theorem dX4_setScene_55 : decode cX4_setScene 55 = .ok (.getfield 113, 3) := by decide +kernel
theorem dX4_setScene_58 : decode cX4_setScene 58 = .ok (.iload_n 1, 1) := by decide +kernel
theorem dX4_setScene_59 : decode cX4_setScene 59 = .ok (.iaload, 1) := by decide +kernel
theorem dX4_setScene_60 : decode cX4_setScene 60 = .ok (.putfield 116, 3) := by decide +kernel
theorem dX4_setScene_63 : decode cX4_setScene 63 = .ok (.aload_n 0, 1) := by decide +kernel
theorem dX4_setScene_64 : decode cX4_setScene 64 = .ok (.getfield 9, 3) := by decide +kernel
theorem dX4_setScene_67 : decode cX4_setScene 67 = .ok (.aload_n 0, 1) := by decide +kernel
theorem dX4_setScene_68 : decode cX4_setScene 68 = .ok (.getfield 30, 3) := by decide +kernel
theorem dX4_setScene_71 : decode cX4_setScene 71 = .ok (.getfield 100, 3) := by decide +kernel
theorem dX4_setScene_74 : decode cX4_setScene 74 = .ok (.iload_n 1, 1) := by decide +kernel
theorem dX4_setScene_75 : decode cX4_setScene 75 = .ok (.iaload, 1) := by decide +kernel
theorem dX4_setScene_76 : decode cX4_setScene 76 = .ok (.putfield 119, 3) := by decide +kernel
theorem dX4_setScene_79 : decode cX4_setScene 79 = .ok (.aload_n 0, 1) := by decide +kernel
theorem dX4_setScene_80 : decode cX4_setScene 80 = .ok (.getfield 9, 3) := by decide +kernel
theorem dX4_setScene_83 : decode cX4_setScene 83 = .ok (.aload_n 0, 1) := by decide +kernel
theorem dX4_setScene_84 : decode cX4_setScene 84 = .ok (.getfield 34, 3) := by decide +kernel
theorem dX4_setScene_87 : decode cX4_setScene 87 = .ok (.getfield 100, 3) := by decide +kernel
theorem dX4_setScene_90 : decode cX4_setScene 90 = .ok (.iload_n 1, 1) := by decide +kernel
theorem dX4_setScene_91 : decode cX4_setScene 91 = .ok (.iaload, 1) := by decide +kernel
theorem dX4_setScene_92 : decode cX4_setScene 92 = .ok (.putfield 122, 3) := by decide +kernel
theorem dX4_setScene_95 : decode cX4_setScene 95 = .ok (.return_, 1) := by decide +kernel
set_option maxRecDepth 20000 in
theorem bk_X4_setScene_0 {d : Nat} {w : hb_W} {Q : Option hb_V → hb_W → Prop} {x1 : Int32} {x2 : Int32} (h : vp_in x1 64 ∧ (hb_O yX0_toldOf cX0_toldOf 4 (some .int) d [hb_r 9 2 0, hb_i x1] (hb_pI (hb_pI (hb_pI w 6 0 0 x1) 6 3 0 x2) 6 4 0 (hb_aI w 9 1 2 x1.toNatClampNeg)) (fun rv w1 => hb_R yX4_setScene cX4_setScene 3 none (d + 1) 44 [some (hb_r 8 0 0), some (hb_i x1), some (hb_i x2)] (rv.toList ++ [hb_r 6 0 0]) w1 Q))) : hb_R yX4_setScene cX4_setScene 3 none (d + 1) 0 [some (hb_r 8 0 0), some (hb_i x1), some (hb_i x2)] [] w Q := by
  refine hb_aload_n (pc := 0) (i := 0) dX4_setScene_0 rfl rfl ?_
  refine hb_getR (pc := 1) (g1 := 0) dX4_setScene_1 fw_X4_9 cw_4 rfl (by decide) rfl (by decide) rfl ?_
  refine hb_iload_n (pc := 4) (i := 1) dX4_setScene_4 rfl rfl ?_
  refine hb_putI (pc := 5) dX4_setScene_5 fw_X4_94 cw_9 pw_9_0 rfl (by decide) rfl rfl rfl ?_
  refine hb_aload_n (pc := 8) (i := 0) dX4_setScene_8 rfl rfl ?_
  refine hb_getR (pc := 9) (g1 := 0) dX4_setScene_9 fw_X4_9 cw_4 rfl (by decide) rfl (by decide) rfl ?_
  refine hb_iload_n (pc := 12) (i := 2) dX4_setScene_12 rfl rfl ?_
  refine hb_putI (pc := 13) dX4_setScene_13 fw_X4_99 cw_9 pw_9_3 rfl (by decide) rfl rfl rfl ?_
  refine hb_aload_n (pc := 16) (i := 0) dX4_setScene_16 rfl rfl ?_
  refine hb_getR (pc := 17) (g1 := 0) dX4_setScene_17 fw_X4_9 cw_4 rfl (by decide) rfl (by decide) rfl ?_
  refine hb_aload_n (pc := 20) (i := 0) dX4_setScene_20 rfl rfl ?_
  refine hb_getR (pc := 21) (g1 := 2) dX4_setScene_21 fw_X4_37 cw_4 rfl (by decide) rfl (by decide) rfl ?_
  refine hb_getR (pc := 24) (g1 := 2) dX4_setScene_24 fw_X4_100 cw_0 rfl (by decide) rfl (by decide) rfl ?_
  refine hb_iload_n (pc := 27) (i := 1) dX4_setScene_27 rfl rfl ?_
  obtain ⟨ho1, hr1⟩ := h
  refine hb_ialdx (pc := 28) (x := hb_aI w 9 1 2 x1.toNatClampNeg) dX4_setScene_28 rfl (by decide) ho1 rfl ?_
  refine hb_putI (pc := 29) dX4_setScene_29 fw_X4_103 cw_9 pw_9_4 rfl (by decide) rfl rfl rfl ?_
  refine hb_aload_n (pc := 32) (i := 0) dX4_setScene_32 rfl rfl ?_
  refine hb_getR (pc := 33) (g1 := 0) dX4_setScene_33 fw_X4_9 cw_4 rfl (by decide) rfl (by decide) rfl ?_
  refine hb_aload_n (pc := 36) (i := 0) dX4_setScene_36 rfl rfl ?_
  refine hb_getR (pc := 37) (g1 := 2) dX4_setScene_37 fw_X4_37 cw_4 rfl (by decide) rfl (by decide) rfl ?_
  refine hb_iload_n (pc := 40) (i := 1) dX4_setScene_40 rfl rfl ?_
  exact hb_callV (pc := 41) (As := [hb_i x1]) (st := [hb_r 6 0 0]) dX4_setScene_41 ml_X4_106 mf_X0_toldOf mi_X0_toldOf (ci := 0) rfl rfl (by decide) rfl rfl (Nat.le_of_ble_eq_true rfl) (Nat.le_of_ble_eq_true rfl) hr1 (fun _ _ q => q)
set_option maxRecDepth 20000 in
theorem bk_X4_setScene_44 {d : Nat} {w : hb_W} {Q : Option hb_V → hb_W → Prop} {x1 : Int32} {x2 : Int32} {xs1 : Int32} (h : vp_in x1 64 ∧ (vp_in x1 64 ∧ (vp_in x1 64 ∧ (Q none (hb_pI (hb_pI (hb_pI (hb_pI w 6 5 0 xs1) 6 6 0 (hb_aI w 9 2 2 x1.toNatClampNeg)) 6 7 0 (hb_aI w 9 1 0 x1.toNatClampNeg)) 6 8 0 (hb_aI w 9 1 1 x1.toNatClampNeg)))))) : hb_R yX4_setScene cX4_setScene 3 none (d + 1) 44 [some (hb_r 8 0 0), some (hb_i x1), some (hb_i x2)] [hb_i xs1, hb_r 6 0 0] w Q := by
  refine hb_putI (pc := 44) dX4_setScene_44 fw_X4_110 cw_9 pw_9_5 rfl (by decide) rfl rfl rfl ?_
  refine hb_aload_n (pc := 47) (i := 0) dX4_setScene_47 rfl rfl ?_
  refine hb_getR (pc := 48) (g1 := 0) dX4_setScene_48 fw_X4_9 cw_4 rfl (by decide) rfl (by decide) rfl ?_
  refine hb_aload_n (pc := 51) (i := 0) dX4_setScene_51 rfl rfl ?_
  refine hb_getR (pc := 52) (g1 := 2) dX4_setScene_52 fw_X4_37 cw_4 rfl (by decide) rfl (by decide) rfl ?_
  refine hb_getR (pc := 55) (g1 := 2) dX4_setScene_55 fw_X4_113 cw_0 rfl (by decide) rfl (by decide) rfl ?_
  refine hb_iload_n (pc := 58) (i := 1) dX4_setScene_58 rfl rfl ?_
  obtain ⟨ho1, hr1⟩ := h
  refine hb_ialdx (pc := 59) (x := hb_aI w 9 2 2 x1.toNatClampNeg) dX4_setScene_59 rfl (by decide) ho1 rfl ?_
  refine hb_putI (pc := 60) dX4_setScene_60 fw_X4_116 cw_9 pw_9_6 rfl (by decide) rfl rfl rfl ?_
  refine hb_aload_n (pc := 63) (i := 0) dX4_setScene_63 rfl rfl ?_
  refine hb_getR (pc := 64) (g1 := 0) dX4_setScene_64 fw_X4_9 cw_4 rfl (by decide) rfl (by decide) rfl ?_
  refine hb_aload_n (pc := 67) (i := 0) dX4_setScene_67 rfl rfl ?_
  refine hb_getR (pc := 68) (g1 := 0) dX4_setScene_68 fw_X4_30 cw_4 rfl (by decide) rfl (by decide) rfl ?_
  refine hb_getR (pc := 71) (g1 := 0) dX4_setScene_71 fw_X4_100 cw_0 rfl (by decide) rfl (by decide) rfl ?_
  refine hb_iload_n (pc := 74) (i := 1) dX4_setScene_74 rfl rfl ?_
  obtain ⟨ho2, hr2⟩ := hr1
  refine hb_ialdx (pc := 75) (x := hb_aI w 9 1 0 x1.toNatClampNeg) dX4_setScene_75 rfl (by decide) ho2 rfl ?_
  refine hb_putI (pc := 76) dX4_setScene_76 fw_X4_119 cw_9 pw_9_7 rfl (by decide) rfl rfl rfl ?_
  refine hb_aload_n (pc := 79) (i := 0) dX4_setScene_79 rfl rfl ?_
  refine hb_getR (pc := 80) (g1 := 0) dX4_setScene_80 fw_X4_9 cw_4 rfl (by decide) rfl (by decide) rfl ?_
  refine hb_aload_n (pc := 83) (i := 0) dX4_setScene_83 rfl rfl ?_
  refine hb_getR (pc := 84) (g1 := 1) dX4_setScene_84 fw_X4_34 cw_4 rfl (by decide) rfl (by decide) rfl ?_
  refine hb_getR (pc := 87) (g1 := 1) dX4_setScene_87 fw_X4_100 cw_0 rfl (by decide) rfl (by decide) rfl ?_
  refine hb_iload_n (pc := 90) (i := 1) dX4_setScene_90 rfl rfl ?_
  obtain ⟨ho3, hr3⟩ := hr2
  refine hb_ialdx (pc := 91) (x := hb_aI w 9 1 1 x1.toNatClampNeg) dX4_setScene_91 rfl (by decide) ho3 rfl ?_
  refine hb_putI (pc := 92) dX4_setScene_92 fw_X4_122 cw_9 pw_9_8 rfl (by decide) rfl rfl rfl ?_
  exact hb_vret (pc := 95) dX4_setScene_95 rfl hr3
theorem dX4_fewestLines_0 : decode cX4_fewestLines 0 = .ok (.aload_n 0, 1) := by decide +kernel
theorem dX4_fewestLines_1 : decode cX4_fewestLines 1 = .ok (.getfield 40, 3) := by decide +kernel
theorem dX4_fewestLines_4 : decode cX4_fewestLines 4 = .ok (.aload_n 0, 1) := by decide +kernel
theorem dX4_fewestLines_5 : decode cX4_fewestLines 5 = .ok (.getfield 15, 3) := by decide +kernel
theorem dX4_fewestLines_8 : decode cX4_fewestLines 8 = .ok (.putfield 125, 3) := by decide +kernel
theorem dX4_fewestLines_11 : decode cX4_fewestLines 11 = .ok (.iconst 1, 1) := by decide +kernel
theorem dX4_fewestLines_12 : decode cX4_fewestLines 12 = .ok (.istore 4, 2) := by decide +kernel
theorem dX4_fewestLines_14 : decode cX4_fewestLines 14 = .ok (.iload 4, 2) := by decide +kernel
theorem dX4_fewestLines_16 : decode cX4_fewestLines 16 = .ok (.bipush 9, 2) := by decide +kernel
theorem dX4_fewestLines_18 : decode cX4_fewestLines 18 = .ok (.if_icmp .gt 79, 3) := by decide +kernel
theorem dX4_fewestLines_21 : decode cX4_fewestLines 21 = .ok (.aload_n 0, 1) := by decide +kernel
theorem dX4_fewestLines_22 : decode cX4_fewestLines 22 = .ok (.getfield 40, 3) := by decide +kernel
theorem dX4_fewestLines_25 : decode cX4_fewestLines 25 = .ok (.iload 4, 2) := by decide +kernel
theorem dX4_fewestLines_27 : decode cX4_fewestLines 27 = .ok (.aload_n 0, 1) := by decide +kernel
theorem dX4_fewestLines_28 : decode cX4_fewestLines 28 = .ok (.getfield 37, 3) := by decide +kernel
theorem dX4_fewestLines_31 : decode cX4_fewestLines 31 = .ok (.getfield 126, 3) := by decide +kernel
theorem dX4_fewestLines_34 : decode cX4_fewestLines 34 = .ok (.invokevirtual 67, 3) := by decide +kernel
theorem dX4_fewestLines_37 : decode cX4_fewestLines 37 = .ok (.iconst 0, 1) := by decide +kernel
theorem dX4_fewestLines_38 : decode cX4_fewestLines 38 = .ok (.istore 5, 2) := by decide +kernel
theorem dX4_fewestLines_40 : decode cX4_fewestLines 40 = .ok (.iload 5, 2) := by decide +kernel
theorem dX4_fewestLines_42 : decode cX4_fewestLines 42 = .ok (.aload_n 1, 1) := by decide +kernel
theorem dX4_fewestLines_43 : decode cX4_fewestLines 43 = .ok (.getfield 71, 3) := by decide +kernel
theorem dX4_fewestLines_46 : decode cX4_fewestLines 46 = .ok (.if_icmp .ge 30, 3) := by decide +kernel
theorem dX4_fewestLines_49 : decode cX4_fewestLines 49 = .ok (.aload_n 0, 1) := by decide +kernel
theorem dX4_fewestLines_50 : decode cX4_fewestLines 50 = .ok (.getfield 40, 3) := by decide +kernel
theorem dX4_fewestLines_53 : decode cX4_fewestLines 53 = .ok (.aload_n 1, 1) := by decide +kernel
theorem dX4_fewestLines_54 : decode cX4_fewestLines 54 = .ok (.getfield 78, 3) := by decide +kernel
theorem dX4_fewestLines_57 : decode cX4_fewestLines 57 = .ok (.iload 5, 2) := by decide +kernel
theorem dX4_fewestLines_59 : decode cX4_fewestLines 59 = .ok (.iaload, 1) := by decide +kernel
theorem dX4_fewestLines_60 : decode cX4_fewestLines 60 = .ok (.aload_n 1, 1) := by decide +kernel
theorem dX4_fewestLines_61 : decode cX4_fewestLines 61 = .ok (.getfield 81, 3) := by decide +kernel
theorem dX4_fewestLines_64 : decode cX4_fewestLines 64 = .ok (.iload 5, 2) := by decide +kernel
theorem dX4_fewestLines_66 : decode cX4_fewestLines 66 = .ok (.iaload, 1) := by decide +kernel
theorem dX4_fewestLines_67 : decode cX4_fewestLines 67 = .ok (.invokevirtual 84, 3) := by decide +kernel
theorem dX4_fewestLines_70 : decode cX4_fewestLines 70 = .ok (.iinc 5 1, 3) := by decide +kernel
theorem dX4_fewestLines_73 : decode cX4_fewestLines 73 = .ok (.goto (-33), 3) := by decide +kernel
theorem dX4_fewestLines_76 : decode cX4_fewestLines 76 = .ok (.aload_n 0, 1) := by decide +kernel
theorem dX4_fewestLines_77 : decode cX4_fewestLines 77 = .ok (.getfield 40, 3) := by decide +kernel
theorem dX4_fewestLines_80 : decode cX4_fewestLines 80 = .ok (.iload_n 2, 1) := by decide +kernel
theorem dX4_fewestLines_81 : decode cX4_fewestLines 81 = .ok (.invokevirtual 127, 3) := by decide +kernel
theorem dX4_fewestLines_84 : decode cX4_fewestLines 84 = .ok (.iload_n 3, 1) := by decide +kernel
theorem dX4_fewestLines_85 : decode cX4_fewestLines 85 = .ok (.if_icmp .gt 6, 3) := by decide +kernel
theorem dX4_fewestLines_88 : decode cX4_fewestLines 88 = .ok (.iload 4, 2) := by decide +kernel
theorem dX4_fewestLines_90 : decode cX4_fewestLines 90 = .ok (.ireturn, 1) := by decide +kernel
theorem dX4_fewestLines_91 : decode cX4_fewestLines 91 = .ok (.iinc 4 1, 3) := by decide +kernel
theorem dX4_fewestLines_94 : decode cX4_fewestLines 94 = .ok (.goto (-80), 3) := by decide +kernel
theorem dX4_fewestLines_97 : decode cX4_fewestLines 97 = .ok (.iconst (-1), 1) := by decide +kernel
theorem dX4_fewestLines_98 : decode cX4_fewestLines 98 = .ok (.ireturn, 1) := by decide +kernel
set_option maxRecDepth 20000 in
theorem bk_X4_fewestLines_0 {d : Nat} {w : hb_W} {Q : Option hb_V → hb_W → Prop} {x2 : Int32} {x3 : Int32} (h : hb_R yX4_fewestLines cX4_fewestLines 6 (some .int) (d + 1) 14 [some (hb_r 8 0 0), some (hb_r 7 0 0), some (hb_i x2), some (hb_i x3), some (hb_i (1 : Int32)), none] [] (hb_pR w 9 2 3 0) Q) : hb_R yX4_fewestLines cX4_fewestLines 6 (some .int) (d + 1) 0 [some (hb_r 8 0 0), some (hb_r 7 0 0), some (hb_i x2), some (hb_i x3), none, none] [] w Q := by
  refine hb_aload_n (pc := 0) (i := 0) dX4_fewestLines_0 rfl rfl ?_
  refine hb_getR (pc := 1) (g1 := 3) dX4_fewestLines_1 fw_X4_40 cw_4 rfl (by decide) rfl (by decide) rfl ?_
  refine hb_aload_n (pc := 4) (i := 0) dX4_fewestLines_4 rfl rfl ?_
  refine hb_getR (pc := 5) (g1 := 0) dX4_fewestLines_5 fw_X4_15 cw_4 rfl (by decide) rfl (by decide) rfl ?_
  refine hb_putR (pc := 8) dX4_fewestLines_8 fw_X4_125 cw_0 pw_0_2 rfl (by decide) rfl ?_
  refine hb_iconst (pc := 11) (v := 1) dX4_fewestLines_11 (by decide) ?_
  refine hb_istore (pc := 12) (i := 4) (ls1 := [some (hb_r 8 0 0), some (hb_r 7 0 0), some (hb_i x2), some (hb_i x3), some (hb_i (1 : Int32)), none]) dX4_fewestLines_12 (by decide) rfl ?_
  exact h
set_option maxRecDepth 20000 in
theorem bk_X4_fewestLines_14 {d : Nat} {w : hb_W} {Q : Option hb_V → hb_W → Prop} {x2 : Int32} {x3 : Int32} {x4 : Int32} (h : (((9 : Int32) < x4) → Q (some (hb_i (-1 : Int32))) w) ∧ ((¬ (9 : Int32) < x4) → hb_O yX0_begin cX0_begin 3 none d [hb_r 9 3 0, hb_i x4, hb_i (hb_fI w 9 1 2)] w (fun rv w1 => hb_R yX4_fewestLines cX4_fewestLines 6 (some .int) (d + 1) 37 [some (hb_r 8 0 0), some (hb_r 7 0 0), some (hb_i x2), some (hb_i x3), some (hb_i x4), none] (rv.toList ++ []) w1 Q))) : hb_R yX4_fewestLines cX4_fewestLines 6 (some .int) (d + 1) 14 [some (hb_r 8 0 0), some (hb_r 7 0 0), some (hb_i x2), some (hb_i x3), some (hb_i x4), none] [] w Q := by
  refine hb_iload (pc := 14) dX4_fewestLines_14 rfl ?_
  refine hb_bipush (pc := 16) (v := 9) dX4_fewestLines_16 (by decide) ?_
  refine hb_icmp_gt (pc := 18) (tgt := 97) dX4_fewestLines_18 (by decide) (fun c1 => ?_) (fun c1 => ?_)
  · have ht1 := h.1 c1
    refine hb_iconst (pc := 97) (v := -1) dX4_fewestLines_97 (by decide) ?_
    exact hb_iret (pc := 98) dX4_fewestLines_98 rfl ht1
  · have ht1 := h.2 c1
    refine hb_aload_n (pc := 21) (i := 0) dX4_fewestLines_21 rfl rfl ?_
    refine hb_getR (pc := 22) (g1 := 3) dX4_fewestLines_22 fw_X4_40 cw_4 rfl (by decide) rfl (by decide) rfl ?_
    refine hb_iload (pc := 25) dX4_fewestLines_25 rfl ?_
    refine hb_aload_n (pc := 27) (i := 0) dX4_fewestLines_27 rfl rfl ?_
    refine hb_getR (pc := 28) (g1 := 2) dX4_fewestLines_28 fw_X4_37 cw_4 rfl (by decide) rfl (by decide) rfl ?_
    refine hb_getIx (pc := 31) (x := hb_fI w 9 1 2) dX4_fewestLines_31 fw_X4_126 cw_0 rfl (by decide) rfl rfl ?_
    exact hb_callV (pc := 34) (As := [hb_i x4, hb_i (hb_fI w 9 1 2)]) (st := []) dX4_fewestLines_34 ml_X4_67 mf_X0_begin mi_X0_begin (ci := 0) rfl rfl (by decide) rfl rfl (Nat.le_of_ble_eq_true rfl) (Nat.le_of_ble_eq_true rfl) ht1 (fun _ _ q => q)
set_option maxRecDepth 20000 in
theorem bk_X4_fewestLines_37 {d : Nat} {w : hb_W} {Q : Option hb_V → hb_W → Prop} {x2 : Int32} {x3 : Int32} {x4 : Int32} (h : hb_R yX4_fewestLines cX4_fewestLines 6 (some .int) (d + 1) 40 [some (hb_r 8 0 0), some (hb_r 7 0 0), some (hb_i x2), some (hb_i x3), some (hb_i x4), some (hb_i (0 : Int32))] [] w Q) : hb_R yX4_fewestLines cX4_fewestLines 6 (some .int) (d + 1) 37 [some (hb_r 8 0 0), some (hb_r 7 0 0), some (hb_i x2), some (hb_i x3), some (hb_i x4), none] [] w Q := by
  refine hb_iconst (pc := 37) (v := 0) dX4_fewestLines_37 (by decide) ?_
  refine hb_istore (pc := 38) (i := 5) (ls1 := [some (hb_r 8 0 0), some (hb_r 7 0 0), some (hb_i x2), some (hb_i x3), some (hb_i x4), some (hb_i (0 : Int32))]) dX4_fewestLines_38 (by decide) rfl ?_
  exact h
set_option maxRecDepth 20000 in
theorem bk_X4_fewestLines_40 {d : Nat} {w : hb_W} {Q : Option hb_V → hb_W → Prop} {x2 : Int32} {x3 : Int32} {x4 : Int32} {x5 : Int32} (h : (((hb_fI w 7 3 0) ≤ x5) → hb_O yX0_outBy cX0_outBy 2 (some .int) d [hb_r 9 3 0, hb_i x2] w (fun rv w1 => hb_R yX4_fewestLines cX4_fewestLines 6 (some .int) (d + 1) 84 [some (hb_r 8 0 0), some (hb_r 7 0 0), some (hb_i x2), some (hb_i x3), some (hb_i x4), some (hb_i x5)] (rv.toList ++ []) w1 Q)) ∧ ((¬ (hb_fI w 7 3 0) ≤ x5) → vp_in x5 400 ∧ (vp_in x5 400 ∧ (hb_O yX0_add cX0_add 4 none d [hb_r 9 3 0, hb_i (hb_aI w 7 1 0 x5.toNatClampNeg), hb_i (hb_aI w 7 2 0 x5.toNatClampNeg)] w (fun rv w1 => hb_R yX4_fewestLines cX4_fewestLines 6 (some .int) (d + 1) 70 [some (hb_r 8 0 0), some (hb_r 7 0 0), some (hb_i x2), some (hb_i x3), some (hb_i x4), some (hb_i x5)] (rv.toList ++ []) w1 Q))))) : hb_R yX4_fewestLines cX4_fewestLines 6 (some .int) (d + 1) 40 [some (hb_r 8 0 0), some (hb_r 7 0 0), some (hb_i x2), some (hb_i x3), some (hb_i x4), some (hb_i x5)] [] w Q := by
  refine hb_iload (pc := 40) dX4_fewestLines_40 rfl ?_
  refine hb_aload_n (pc := 42) (i := 1) dX4_fewestLines_42 rfl rfl ?_
  refine hb_getIx (pc := 43) (x := hb_fI w 7 3 0) dX4_fewestLines_43 fw_X4_71 cw_8 rfl (by decide) rfl rfl ?_
  refine hb_icmp_ge (pc := 46) (tgt := 76) dX4_fewestLines_46 (by decide) (fun c1 => ?_) (fun c1 => ?_)
  · have ht1 := h.1 c1
    refine hb_aload_n (pc := 76) (i := 0) dX4_fewestLines_76 rfl rfl ?_
    refine hb_getR (pc := 77) (g1 := 3) dX4_fewestLines_77 fw_X4_40 cw_4 rfl (by decide) rfl (by decide) rfl ?_
    refine hb_iload_n (pc := 80) (i := 2) dX4_fewestLines_80 rfl rfl ?_
    exact hb_callV (pc := 81) (As := [hb_i x2]) (st := []) dX4_fewestLines_81 ml_X4_127 mf_X0_outBy mi_X0_outBy (ci := 0) rfl rfl (by decide) rfl rfl (Nat.le_of_ble_eq_true rfl) (Nat.le_of_ble_eq_true rfl) ht1 (fun _ _ q => q)
  · have ht1 := h.2 c1
    refine hb_aload_n (pc := 49) (i := 0) dX4_fewestLines_49 rfl rfl ?_
    refine hb_getR (pc := 50) (g1 := 3) dX4_fewestLines_50 fw_X4_40 cw_4 rfl (by decide) rfl (by decide) rfl ?_
    refine hb_aload_n (pc := 53) (i := 1) dX4_fewestLines_53 rfl rfl ?_
    refine hb_getR (pc := 54) (g1 := 0) dX4_fewestLines_54 fw_X4_78 cw_8 rfl (by decide) rfl (by decide) rfl ?_
    refine hb_iload (pc := 57) dX4_fewestLines_57 rfl ?_
    obtain ⟨ho2, hr2⟩ := ht1
    refine hb_ialdx (pc := 59) (x := hb_aI w 7 1 0 x5.toNatClampNeg) dX4_fewestLines_59 rfl (by decide) ho2 rfl ?_
    refine hb_aload_n (pc := 60) (i := 1) dX4_fewestLines_60 rfl rfl ?_
    refine hb_getR (pc := 61) (g1 := 0) dX4_fewestLines_61 fw_X4_81 cw_8 rfl (by decide) rfl (by decide) rfl ?_
    refine hb_iload (pc := 64) dX4_fewestLines_64 rfl ?_
    obtain ⟨ho3, hr3⟩ := hr2
    refine hb_ialdx (pc := 66) (x := hb_aI w 7 2 0 x5.toNatClampNeg) dX4_fewestLines_66 rfl (by decide) ho3 rfl ?_
    exact hb_callV (pc := 67) (As := [hb_i (hb_aI w 7 1 0 x5.toNatClampNeg), hb_i (hb_aI w 7 2 0 x5.toNatClampNeg)]) (st := []) dX4_fewestLines_67 ml_X4_84 mf_X0_add mi_X0_add (ci := 0) rfl rfl (by decide) rfl rfl (Nat.le_of_ble_eq_true rfl) (Nat.le_of_ble_eq_true rfl) hr3 (fun _ _ q => q)
set_option maxRecDepth 20000 in
theorem bk_X4_fewestLines_70 {d : Nat} {w : hb_W} {Q : Option hb_V → hb_W → Prop} {x2 : Int32} {x3 : Int32} {x4 : Int32} {x5 : Int32} (h : hb_R yX4_fewestLines cX4_fewestLines 6 (some .int) (d + 1) 40 [some (hb_r 8 0 0), some (hb_r 7 0 0), some (hb_i x2), some (hb_i x3), some (hb_i x4), some (hb_i (x5 + (1 : Int32)))] [] w Q) : hb_R yX4_fewestLines cX4_fewestLines 6 (some .int) (d + 1) 70 [some (hb_r 8 0 0), some (hb_r 7 0 0), some (hb_i x2), some (hb_i x3), some (hb_i x4), some (hb_i x5)] [] w Q := by
  refine hb_iinc (pc := 70) (v := x5 + (1 : Int32)) (ls1 := [some (hb_r 8 0 0), some (hb_r 7 0 0), some (hb_i x2), some (hb_i x3), some (hb_i x4), some (hb_i (x5 + (1 : Int32)))]) dX4_fewestLines_70 rfl rfl (by decide) rfl ?_
  refine hb_goto (pc := 73) (tgt := 40) dX4_fewestLines_73 (by decide) ?_
  exact h
set_option maxRecDepth 20000 in
theorem bk_X4_fewestLines_84 {d : Nat} {w : hb_W} {Q : Option hb_V → hb_W → Prop} {x2 : Int32} {x3 : Int32} {x4 : Int32} {x5 : Int32} {xs0 : Int32} (h : ((x3 < xs0) → hb_R yX4_fewestLines cX4_fewestLines 6 (some .int) (d + 1) 14 [some (hb_r 8 0 0), some (hb_r 7 0 0), some (hb_i x2), some (hb_i x3), some (hb_i (x4 + (1 : Int32))), some (hb_i x5)] [] w Q) ∧ ((¬ x3 < xs0) → Q (some (hb_i x4)) w)) : hb_R yX4_fewestLines cX4_fewestLines 6 (some .int) (d + 1) 84 [some (hb_r 8 0 0), some (hb_r 7 0 0), some (hb_i x2), some (hb_i x3), some (hb_i x4), some (hb_i x5)] [hb_i xs0] w Q := by
  refine hb_iload_n (pc := 84) (i := 3) dX4_fewestLines_84 rfl rfl ?_
  refine hb_icmp_gt (pc := 85) (tgt := 91) dX4_fewestLines_85 (by decide) (fun c1 => ?_) (fun c1 => ?_)
  · have ht1 := h.1 c1
    refine hb_iinc (pc := 91) (v := x4 + (1 : Int32)) (ls1 := [some (hb_r 8 0 0), some (hb_r 7 0 0), some (hb_i x2), some (hb_i x3), some (hb_i (x4 + (1 : Int32))), some (hb_i x5)]) dX4_fewestLines_91 rfl rfl (by decide) rfl ?_
    refine hb_goto (pc := 94) (tgt := 14) dX4_fewestLines_94 (by decide) ?_
    exact ht1
  · have ht1 := h.2 c1
    refine hb_iload (pc := 88) dX4_fewestLines_88 rfl ?_
    exact hb_iret (pc := 90) dX4_fewestLines_90 rfl ht1
theorem dX4_findBestCoin_0 : decode cX4_findBestCoin 0 = .ok (.aload_n 0, 1) := by decide +kernel
theorem dX4_findBestCoin_1 : decode cX4_findBestCoin 1 = .ok (.getfield 40, 3) := by decide +kernel
theorem dX4_findBestCoin_4 : decode cX4_findBestCoin 4 = .ok (.aload_n 0, 1) := by decide +kernel
theorem dX4_findBestCoin_5 : decode cX4_findBestCoin 5 = .ok (.getfield 37, 3) := by decide +kernel
theorem dX4_findBestCoin_8 : decode cX4_findBestCoin 8 = .ok (.invokevirtual 130, 3) := by decide +kernel
theorem dX4_findBestCoin_11 : decode cX4_findBestCoin 11 = .ok (.aload_n 0, 1) := by decide +kernel
theorem dX4_findBestCoin_12 : decode cX4_findBestCoin 12 = .ok (.getfield 40, 3) := by decide +kernel
theorem dX4_findBestCoin_15 : decode cX4_findBestCoin 15 = .ok (.aload_n 0, 1) := by decide +kernel
theorem dX4_findBestCoin_16 : decode cX4_findBestCoin 16 = .ok (.getfield 22, 3) := by decide +kernel
theorem dX4_findBestCoin_19 : decode cX4_findBestCoin 19 = .ok (.putfield 125, 3) := by decide +kernel
theorem dX4_findBestCoin_22 : decode cX4_findBestCoin 22 = .ok (.aload_n 0, 1) := by decide +kernel
theorem dX4_findBestCoin_23 : decode cX4_findBestCoin 23 = .ok (.iconst (-1), 1) := by decide +kernel
theorem dX4_findBestCoin_24 : decode cX4_findBestCoin 24 = .ok (.putfield 134, 3) := by decide +kernel
theorem dX4_findBestCoin_27 : decode cX4_findBestCoin 27 = .ok (.iconst 0, 1) := by decide +kernel
theorem dX4_findBestCoin_28 : decode cX4_findBestCoin 28 = .ok (.istore_n 3, 1) := by decide +kernel
theorem dX4_findBestCoin_29 : decode cX4_findBestCoin 29 = .ok (.iload_n 3, 1) := by decide +kernel
theorem dX4_findBestCoin_30 : decode cX4_findBestCoin 30 = .ok (.bipush 100, 2) := by decide +kernel
theorem dX4_findBestCoin_32 : decode cX4_findBestCoin 32 = .ok (.if_icmp .ge 65, 3) := by decide +kernel
theorem dX4_findBestCoin_35 : decode cX4_findBestCoin 35 = .ok (.aload_n 0, 1) := by decide +kernel
theorem dX4_findBestCoin_36 : decode cX4_findBestCoin 36 = .ok (.aload_n 1, 1) := by decide +kernel
theorem dX4_findBestCoin_37 : decode cX4_findBestCoin 37 = .ok (.iload_n 2, 1) := by decide +kernel
theorem dX4_findBestCoin_38 : decode cX4_findBestCoin 38 = .ok (.iload_n 3, 1) := by decide +kernel
theorem dX4_findBestCoin_39 : decode cX4_findBestCoin 39 = .ok (.invokevirtual 137, 3) := by decide +kernel
theorem dX4_findBestCoin_42 : decode cX4_findBestCoin 42 = .ok (.aload_n 0, 1) := by decide +kernel
theorem dX4_findBestCoin_43 : decode cX4_findBestCoin 43 = .ok (.getfield 40, 3) := by decide +kernel
theorem dX4_findBestCoin_46 : decode cX4_findBestCoin 46 = .ok (.iload_n 2, 1) := by decide +kernel
theorem dX4_findBestCoin_47 : decode cX4_findBestCoin 47 = .ok (.invokevirtual 127, 3) := by decide +kernel
theorem dX4_findBestCoin_50 : decode cX4_findBestCoin 50 = .ok (.istore 4, 2) := by decide +kernel
theorem dX4_findBestCoin_52 : decode cX4_findBestCoin 52 = .ok (.aload_n 0, 1) := by decide +kernel
theorem dX4_findBestCoin_53 : decode cX4_findBestCoin 53 = .ok (.getfield 134, 3) := by decide +kernel
theorem dX4_findBestCoin_56 : decode cX4_findBestCoin 56 = .ok (.iconst (-1), 1) := by decide +kernel
theorem dX4_findBestCoin_57 : decode cX4_findBestCoin 57 = .ok (.if_icmp .eq 12, 3) := by decide +kernel
theorem dX4_findBestCoin_60 : decode cX4_findBestCoin 60 = .ok (.iload 4, 2) := by decide +kernel
theorem dX4_findBestCoin_62 : decode cX4_findBestCoin 62 = .ok (.aload_n 0, 1) := by decide +kernel
theorem dX4_findBestCoin_63 : decode cX4_findBestCoin 63 = .ok (.getfield 141, 3) := by decide +kernel
theorem dX4_findBestCoin_66 : decode cX4_findBestCoin 66 = .ok (.if_icmp .ge 14, 3) := by decide +kernel
theorem dX4_findBestCoin_69 : decode cX4_findBestCoin 69 = .ok (.aload_n 0, 1) := by decide +kernel
theorem dX4_findBestCoin_70 : decode cX4_findBestCoin 70 = .ok (.iload_n 3, 1) := by decide +kernel
theorem dX4_findBestCoin_71 : decode cX4_findBestCoin 71 = .ok (.putfield 134, 3) := by decide +kernel
theorem dX4_findBestCoin_74 : decode cX4_findBestCoin 74 = .ok (.aload_n 0, 1) := by decide +kernel
theorem dX4_findBestCoin_75 : decode cX4_findBestCoin 75 = .ok (.iload 4, 2) := by decide +kernel
theorem dX4_findBestCoin_77 : decode cX4_findBestCoin 77 = .ok (.putfield 141, 3) := by decide +kernel
theorem dX4_findBestCoin_80 : decode cX4_findBestCoin 80 = .ok (.iload 4, 2) := by decide +kernel
theorem dX4_findBestCoin_82 : decode cX4_findBestCoin 82 = .ok (.ifCond .eq 8, 3) := by decide +kernel
theorem dX4_findBestCoin_85 : decode cX4_findBestCoin 85 = .ok (.iload_n 2, 1) := by decide +kernel
theorem dX4_findBestCoin_86 : decode cX4_findBestCoin 86 = .ok (.iconst 5, 1) := by decide +kernel
theorem dX4_findBestCoin_87 : decode cX4_findBestCoin 87 = .ok (.if_icmp .ne 4, 3) := by decide +kernel
theorem dX4_findBestCoin_90 : decode cX4_findBestCoin 90 = .ok (.return_, 1) := by decide +kernel
theorem dX4_findBestCoin_91 : decode cX4_findBestCoin 91 = .ok (.iinc 3 1, 3) := by decide +kernel
theorem dX4_findBestCoin_94 : decode cX4_findBestCoin 94 = .ok (.goto (-65), 3) := by decide +kernel
theorem dX4_findBestCoin_97 : decode cX4_findBestCoin 97 = .ok (.return_, 1) := by decide +kernel
set_option maxRecDepth 20000 in
theorem bk_X4_findBestCoin_0 {d : Nat} {w : hb_W} {Q : Option hb_V → hb_W → Prop} {g1 : Nat} {x2 : Int32} (hg1 : g1 < hb_ct 11) (h : hb_O yX0_copy cX0_copy 2 none d [hb_r 9 3 0, hb_r 9 2 0] w (fun rv w1 => hb_R yX4_findBestCoin cX4_findBestCoin 5 none (d + 1) 11 [some (hb_r 8 0 0), some (hb_r 11 g1 0), some (hb_i x2), none, none] (rv.toList ++ []) w1 Q)) : hb_R yX4_findBestCoin cX4_findBestCoin 5 none (d + 1) 0 [some (hb_r 8 0 0), some (hb_r 11 g1 0), some (hb_i x2), none, none] [] w Q := by
  refine hb_aload_n (pc := 0) (i := 0) dX4_findBestCoin_0 rfl rfl ?_
  refine hb_getR (pc := 1) (g1 := 3) dX4_findBestCoin_1 fw_X4_40 cw_4 rfl (by decide) rfl (by decide) rfl ?_
  refine hb_aload_n (pc := 4) (i := 0) dX4_findBestCoin_4 rfl rfl ?_
  refine hb_getR (pc := 5) (g1 := 2) dX4_findBestCoin_5 fw_X4_37 cw_4 rfl (by decide) rfl (by decide) rfl ?_
  exact hb_callV (pc := 8) (As := [hb_r 9 2 0]) (st := []) dX4_findBestCoin_8 ml_X4_130 mf_X0_copy mi_X0_copy (ci := 0) rfl rfl (by decide) rfl rfl (Nat.le_of_ble_eq_true rfl) (Nat.le_of_ble_eq_true rfl) h (fun _ _ q => q)
set_option maxRecDepth 20000 in
theorem bk_X4_findBestCoin_11 {d : Nat} {w : hb_W} {Q : Option hb_V → hb_W → Prop} {g1 : Nat} {x2 : Int32} (hg1 : g1 < hb_ct 11) (h : hb_R yX4_findBestCoin cX4_findBestCoin 5 none (d + 1) 29 [some (hb_r 8 0 0), some (hb_r 11 g1 0), some (hb_i x2), some (hb_i (0 : Int32)), none] [] (hb_pI (hb_pR w 9 2 3 1) 8 4 0 (-1 : Int32)) Q) : hb_R yX4_findBestCoin cX4_findBestCoin 5 none (d + 1) 11 [some (hb_r 8 0 0), some (hb_r 11 g1 0), some (hb_i x2), none, none] [] w Q := by
  refine hb_aload_n (pc := 11) (i := 0) dX4_findBestCoin_11 rfl rfl ?_
  refine hb_getR (pc := 12) (g1 := 3) dX4_findBestCoin_12 fw_X4_40 cw_4 rfl (by decide) rfl (by decide) rfl ?_
  refine hb_aload_n (pc := 15) (i := 0) dX4_findBestCoin_15 rfl rfl ?_
  refine hb_getR (pc := 16) (g1 := 1) dX4_findBestCoin_16 fw_X4_22 cw_4 rfl (by decide) rfl (by decide) rfl ?_
  refine hb_putR (pc := 19) dX4_findBestCoin_19 fw_X4_125 cw_0 pw_0_2 rfl (by decide) rfl ?_
  refine hb_aload_n (pc := 22) (i := 0) dX4_findBestCoin_22 rfl rfl ?_
  refine hb_iconst (pc := 23) (v := -1) dX4_findBestCoin_23 (by decide) ?_
  refine hb_putI (pc := 24) dX4_findBestCoin_24 fw_X4_134 cw_4 pw_4_4 rfl (by decide) rfl rfl rfl ?_
  refine hb_iconst (pc := 27) (v := 0) dX4_findBestCoin_27 (by decide) ?_
  refine hb_istore_n (pc := 28) (i := 3) (ls1 := [some (hb_r 8 0 0), some (hb_r 11 g1 0), some (hb_i x2), some (hb_i (0 : Int32)), none]) dX4_findBestCoin_28 rfl (by decide) rfl ?_
  exact h
set_option maxRecDepth 20000 in
theorem bk_X4_findBestCoin_29 {d : Nat} {w : hb_W} {Q : Option hb_V → hb_W → Prop} {g1 : Nat} {x2 : Int32} {x3 : Int32} (hg1 : g1 < hb_ct 11) (h : (((100 : Int32) ≤ x3) → Q none w) ∧ ((¬ (100 : Int32) ≤ x3) → hb_O yX4_markTrial cX4_markTrial 6 none d [hb_r 8 0 0, hb_r 11 g1 0, hb_i x2, hb_i x3] w (fun rv w1 => hb_R yX4_findBestCoin cX4_findBestCoin 5 none (d + 1) 42 [some (hb_r 8 0 0), some (hb_r 11 g1 0), some (hb_i x2), some (hb_i x3), none] (rv.toList ++ []) w1 Q))) : hb_R yX4_findBestCoin cX4_findBestCoin 5 none (d + 1) 29 [some (hb_r 8 0 0), some (hb_r 11 g1 0), some (hb_i x2), some (hb_i x3), none] [] w Q := by
  refine hb_iload_n (pc := 29) (i := 3) dX4_findBestCoin_29 rfl rfl ?_
  refine hb_bipush (pc := 30) (v := 100) dX4_findBestCoin_30 (by decide) ?_
  refine hb_icmp_ge (pc := 32) (tgt := 97) dX4_findBestCoin_32 (by decide) (fun c1 => ?_) (fun c1 => ?_)
  · have ht1 := h.1 c1
    exact hb_vret (pc := 97) dX4_findBestCoin_97 rfl ht1
  · have ht1 := h.2 c1
    refine hb_aload_n (pc := 35) (i := 0) dX4_findBestCoin_35 rfl rfl ?_
    refine hb_aload_n (pc := 36) (i := 1) dX4_findBestCoin_36 rfl rfl ?_
    refine hb_iload_n (pc := 37) (i := 2) dX4_findBestCoin_37 rfl rfl ?_
    refine hb_iload_n (pc := 38) (i := 3) dX4_findBestCoin_38 rfl rfl ?_
    exact hb_callV (pc := 39) (As := [hb_r 11 g1 0, hb_i x2, hb_i x3]) (st := []) dX4_findBestCoin_39 ml_X4_137 mf_X4_markTrial mi_X4_markTrial (ci := 4) rfl rfl (by decide) rfl rfl (Nat.le_of_ble_eq_true rfl) (Nat.le_of_ble_eq_true rfl) ht1 (fun _ _ q => q)
set_option maxRecDepth 20000 in
theorem bk_X4_findBestCoin_42 {d : Nat} {w : hb_W} {Q : Option hb_V → hb_W → Prop} {g1 : Nat} {x2 : Int32} {x3 : Int32} (hg1 : g1 < hb_ct 11) (h : hb_O yX0_outBy cX0_outBy 2 (some .int) d [hb_r 9 3 0, hb_i x2] w (fun rv w1 => hb_R yX4_findBestCoin cX4_findBestCoin 5 none (d + 1) 50 [some (hb_r 8 0 0), some (hb_r 11 g1 0), some (hb_i x2), some (hb_i x3), none] (rv.toList ++ []) w1 Q)) : hb_R yX4_findBestCoin cX4_findBestCoin 5 none (d + 1) 42 [some (hb_r 8 0 0), some (hb_r 11 g1 0), some (hb_i x2), some (hb_i x3), none] [] w Q := by
  refine hb_aload_n (pc := 42) (i := 0) dX4_findBestCoin_42 rfl rfl ?_
  refine hb_getR (pc := 43) (g1 := 3) dX4_findBestCoin_43 fw_X4_40 cw_4 rfl (by decide) rfl (by decide) rfl ?_
  refine hb_iload_n (pc := 46) (i := 2) dX4_findBestCoin_46 rfl rfl ?_
  exact hb_callV (pc := 47) (As := [hb_i x2]) (st := []) dX4_findBestCoin_47 ml_X4_127 mf_X0_outBy mi_X0_outBy (ci := 0) rfl rfl (by decide) rfl rfl (Nat.le_of_ble_eq_true rfl) (Nat.le_of_ble_eq_true rfl) h (fun _ _ q => q)
set_option maxRecDepth 20000 in
theorem bk_X4_findBestCoin_50 {d : Nat} {w : hb_W} {Q : Option hb_V → hb_W → Prop} {g1 : Nat} {x2 : Int32} {x3 : Int32} {xs0 : Int32} (hg1 : g1 < hb_ct 11) (h : (((hb_fI w 8 4 0) = (-1 : Int32)) → ((xs0 = 0) → Q none (hb_pI (hb_pI w 8 4 0 x3) 8 5 0 xs0)) ∧ ((¬ xs0 = 0) → ((¬ x2 = (5 : Int32)) → hb_R yX4_findBestCoin cX4_findBestCoin 5 none (d + 1) 29 [some (hb_r 8 0 0), some (hb_r 11 g1 0), some (hb_i x2), some (hb_i (x3 + (1 : Int32))), some (hb_i xs0)] [] (hb_pI (hb_pI w 8 4 0 x3) 8 5 0 xs0) Q) ∧ ((x2 = (5 : Int32)) → Q none (hb_pI (hb_pI w 8 4 0 x3) 8 5 0 xs0)))) ∧ ((¬ (hb_fI w 8 4 0) = (-1 : Int32)) → (((hb_fI w 8 5 0) ≤ xs0) → ((xs0 = 0) → Q none w) ∧ ((¬ xs0 = 0) → ((¬ x2 = (5 : Int32)) → hb_R yX4_findBestCoin cX4_findBestCoin 5 none (d + 1) 29 [some (hb_r 8 0 0), some (hb_r 11 g1 0), some (hb_i x2), some (hb_i (x3 + (1 : Int32))), some (hb_i xs0)] [] w Q) ∧ ((x2 = (5 : Int32)) → Q none w))) ∧ ((¬ (hb_fI w 8 5 0) ≤ xs0) → ((xs0 = 0) → Q none (hb_pI (hb_pI w 8 4 0 x3) 8 5 0 xs0)) ∧ ((¬ xs0 = 0) → ((¬ x2 = (5 : Int32)) → hb_R yX4_findBestCoin cX4_findBestCoin 5 none (d + 1) 29 [some (hb_r 8 0 0), some (hb_r 11 g1 0), some (hb_i x2), some (hb_i (x3 + (1 : Int32))), some (hb_i xs0)] [] (hb_pI (hb_pI w 8 4 0 x3) 8 5 0 xs0) Q) ∧ ((x2 = (5 : Int32)) → Q none (hb_pI (hb_pI w 8 4 0 x3) 8 5 0 xs0)))))) : hb_R yX4_findBestCoin cX4_findBestCoin 5 none (d + 1) 50 [some (hb_r 8 0 0), some (hb_r 11 g1 0), some (hb_i x2), some (hb_i x3), none] [hb_i xs0] w Q := by
  refine hb_istore (pc := 50) (i := 4) (ls1 := [some (hb_r 8 0 0), some (hb_r 11 g1 0), some (hb_i x2), some (hb_i x3), some (hb_i xs0)]) dX4_findBestCoin_50 (by decide) rfl ?_
  refine hb_aload_n (pc := 52) (i := 0) dX4_findBestCoin_52 rfl rfl ?_
  refine hb_getIx (pc := 53) (x := hb_fI w 8 4 0) dX4_findBestCoin_53 fw_X4_134 cw_4 rfl (by decide) rfl rfl ?_
  refine hb_iconst (pc := 56) (v := -1) dX4_findBestCoin_56 (by decide) ?_
  refine hb_icmp_eq (pc := 57) (tgt := 69) dX4_findBestCoin_57 (by decide) (fun c1 => ?_) (fun c1 => ?_)
  · have ht1 := h.1 c1
    refine hb_aload_n (pc := 69) (i := 0) dX4_findBestCoin_69 rfl rfl ?_
    refine hb_iload_n (pc := 70) (i := 3) dX4_findBestCoin_70 rfl rfl ?_
    refine hb_putI (pc := 71) dX4_findBestCoin_71 fw_X4_134 cw_4 pw_4_4 rfl (by decide) rfl rfl rfl ?_
    refine hb_aload_n (pc := 74) (i := 0) dX4_findBestCoin_74 rfl rfl ?_
    refine hb_iload (pc := 75) dX4_findBestCoin_75 rfl ?_
    refine hb_putI (pc := 77) dX4_findBestCoin_77 fw_X4_141 cw_4 pw_4_5 rfl (by decide) rfl rfl rfl ?_
    refine hb_iload (pc := 80) dX4_findBestCoin_80 rfl ?_
    refine hb_if_eq (pc := 82) (tgt := 90) dX4_findBestCoin_82 (by decide) (fun c2 => ?_) (fun c2 => ?_)
    · have ht2 := ht1.1 c2
      exact hb_vret (pc := 90) dX4_findBestCoin_90 rfl ht2
    · have ht2 := ht1.2 c2
      refine hb_iload_n (pc := 85) (i := 2) dX4_findBestCoin_85 rfl rfl ?_
      refine hb_iconst (pc := 86) (v := 5) dX4_findBestCoin_86 (by decide) ?_
      refine hb_icmp_ne (pc := 87) (tgt := 91) dX4_findBestCoin_87 (by decide) (fun c3 => ?_) (fun c3 => ?_)
      · have ht3 := ht2.1 c3
        refine hb_iinc (pc := 91) (v := x3 + (1 : Int32)) (ls1 := [some (hb_r 8 0 0), some (hb_r 11 g1 0), some (hb_i x2), some (hb_i (x3 + (1 : Int32))), some (hb_i xs0)]) dX4_findBestCoin_91 rfl rfl (by decide) rfl ?_
        refine hb_goto (pc := 94) (tgt := 29) dX4_findBestCoin_94 (by decide) ?_
        exact ht3
      · have ht3 := ht2.2 c3
        exact hb_vret (pc := 90) dX4_findBestCoin_90 rfl ht3
  · have ht1 := h.2 c1
    refine hb_iload (pc := 60) dX4_findBestCoin_60 rfl ?_
    refine hb_aload_n (pc := 62) (i := 0) dX4_findBestCoin_62 rfl rfl ?_
    refine hb_getIx (pc := 63) (x := hb_fI w 8 5 0) dX4_findBestCoin_63 fw_X4_141 cw_4 rfl (by decide) rfl rfl ?_
    refine hb_icmp_ge (pc := 66) (tgt := 80) dX4_findBestCoin_66 (by decide) (fun c4 => ?_) (fun c4 => ?_)
    · have ht4 := ht1.1 c4
      refine hb_iload (pc := 80) dX4_findBestCoin_80 rfl ?_
      refine hb_if_eq (pc := 82) (tgt := 90) dX4_findBestCoin_82 (by decide) (fun c5 => ?_) (fun c5 => ?_)
      · have ht5 := ht4.1 c5
        exact hb_vret (pc := 90) dX4_findBestCoin_90 rfl ht5
      · have ht5 := ht4.2 c5
        refine hb_iload_n (pc := 85) (i := 2) dX4_findBestCoin_85 rfl rfl ?_
        refine hb_iconst (pc := 86) (v := 5) dX4_findBestCoin_86 (by decide) ?_
        refine hb_icmp_ne (pc := 87) (tgt := 91) dX4_findBestCoin_87 (by decide) (fun c6 => ?_) (fun c6 => ?_)
        · have ht6 := ht5.1 c6
          refine hb_iinc (pc := 91) (v := x3 + (1 : Int32)) (ls1 := [some (hb_r 8 0 0), some (hb_r 11 g1 0), some (hb_i x2), some (hb_i (x3 + (1 : Int32))), some (hb_i xs0)]) dX4_findBestCoin_91 rfl rfl (by decide) rfl ?_
          refine hb_goto (pc := 94) (tgt := 29) dX4_findBestCoin_94 (by decide) ?_
          exact ht6
        · have ht6 := ht5.2 c6
          exact hb_vret (pc := 90) dX4_findBestCoin_90 rfl ht6
    · have ht4 := ht1.2 c4
      refine hb_aload_n (pc := 69) (i := 0) dX4_findBestCoin_69 rfl rfl ?_
      refine hb_iload_n (pc := 70) (i := 3) dX4_findBestCoin_70 rfl rfl ?_
      refine hb_putI (pc := 71) dX4_findBestCoin_71 fw_X4_134 cw_4 pw_4_4 rfl (by decide) rfl rfl rfl ?_
      refine hb_aload_n (pc := 74) (i := 0) dX4_findBestCoin_74 rfl rfl ?_
      refine hb_iload (pc := 75) dX4_findBestCoin_75 rfl ?_
      refine hb_putI (pc := 77) dX4_findBestCoin_77 fw_X4_141 cw_4 pw_4_5 rfl (by decide) rfl rfl rfl ?_
      refine hb_iload (pc := 80) dX4_findBestCoin_80 rfl ?_
      refine hb_if_eq (pc := 82) (tgt := 90) dX4_findBestCoin_82 (by decide) (fun c7 => ?_) (fun c7 => ?_)
      · have ht7 := ht4.1 c7
        exact hb_vret (pc := 90) dX4_findBestCoin_90 rfl ht7
      · have ht7 := ht4.2 c7
        refine hb_iload_n (pc := 85) (i := 2) dX4_findBestCoin_85 rfl rfl ?_
        refine hb_iconst (pc := 86) (v := 5) dX4_findBestCoin_86 (by decide) ?_
        refine hb_icmp_ne (pc := 87) (tgt := 91) dX4_findBestCoin_87 (by decide) (fun c8 => ?_) (fun c8 => ?_)
        · have ht8 := ht7.1 c8
          refine hb_iinc (pc := 91) (v := x3 + (1 : Int32)) (ls1 := [some (hb_r 8 0 0), some (hb_r 11 g1 0), some (hb_i x2), some (hb_i (x3 + (1 : Int32))), some (hb_i xs0)]) dX4_findBestCoin_91 rfl rfl (by decide) rfl ?_
          refine hb_goto (pc := 94) (tgt := 29) dX4_findBestCoin_94 (by decide) ?_
          exact ht8
        · have ht8 := ht7.2 c8
          exact hb_vret (pc := 90) dX4_findBestCoin_90 rfl ht8
theorem dX4_markTrial_0 : decode cX4_markTrial 0 = .ok (.iload_n 2, 1) := by decide +kernel
theorem dX4_markTrial_1 : decode cX4_markTrial 1 = .ok (.aload_n 0, 1) := by decide +kernel
theorem dX4_markTrial_2 : decode cX4_markTrial 2 = .ok (.getfield 37, 3) := by decide +kernel
theorem dX4_markTrial_5 : decode cX4_markTrial 5 = .ok (.getfield 126, 3) := by decide +kernel
theorem dX4_markTrial_8 : decode cX4_markTrial 8 = .ok (.invokestatic 144, 3) := by decide +kernel
theorem dX4_markTrial_11 : decode cX4_markTrial 11 = .ok (.istore 4, 2) := by decide +kernel
theorem dX4_markTrial_13 : decode cX4_markTrial 13 = .ok (.iload_n 2, 1) := by decide +kernel
theorem dX4_markTrial_14 : decode cX4_markTrial 14 = .ok (.invokestatic 148, 3) := by decide +kernel
theorem dX4_markTrial_17 : decode cX4_markTrial 17 = .ok (.istore 5, 2) := by decide +kernel
theorem dX4_markTrial_19 : decode cX4_markTrial 19 = .ok (.iload 5, 2) := by decide +kernel
theorem dX4_markTrial_21 : decode cX4_markTrial 21 = .ok (.iload 4, 2) := by decide +kernel
theorem dX4_markTrial_23 : decode cX4_markTrial 23 = .ok (.if_icmp .gt 24, 3) := by decide +kernel
theorem dX4_markTrial_26 : decode cX4_markTrial 26 = .ok (.aload_n 0, 1) := by decide +kernel
theorem dX4_markTrial_27 : decode cX4_markTrial 27 = .ok (.getfield 22, 3) := by decide +kernel
theorem dX4_markTrial_30 : decode cX4_markTrial 30 = .ok (.aload_n 1, 1) := by decide +kernel
theorem dX4_markTrial_31 : decode cX4_markTrial 31 = .ok (.aload_n 0, 1) := by decide +kernel
theorem dX4_markTrial_32 : decode cX4_markTrial 32 = .ok (.getfield 9, 3) := by decide +kernel
theorem dX4_markTrial_35 : decode cX4_markTrial 35 = .ok (.iload_n 3, 1) := by decide +kernel
theorem dX4_markTrial_36 : decode cX4_markTrial 36 = .ok (.iload 5, 2) := by decide +kernel
theorem dX4_markTrial_38 : decode cX4_markTrial 38 = .ok (.invokevirtual 55, 3) := by decide +kernel
theorem dX4_markTrial_41 : decode cX4_markTrial 41 = .ok (.iinc 5 1, 3) := by decide +kernel
theorem dX4_markTrial_44 : decode cX4_markTrial 44 = .ok (.goto (-25), 3) := by decide +kernel
theorem dX4_markTrial_47 : decode cX4_markTrial 47 = .ok (.aload_n 0, 1) := by decide +kernel
theorem dX4_markTrial_48 : decode cX4_markTrial 48 = .ok (.getfield 40, 3) := by decide +kernel
theorem dX4_markTrial_51 : decode cX4_markTrial 51 = .ok (.invokevirtual 151, 3) := by decide +kernel
theorem dX4_markTrial_54 : decode cX4_markTrial 54 = .ok (.iconst 0, 1) := by decide +kernel
theorem dX4_markTrial_55 : decode cX4_markTrial 55 = .ok (.istore 5, 2) := by decide +kernel
theorem dX4_markTrial_57 : decode cX4_markTrial 57 = .ok (.iload 5, 2) := by decide +kernel
theorem dX4_markTrial_59 : decode cX4_markTrial 59 = .ok (.bipush 64, 2) := by decide +kernel
theorem dX4_markTrial_61 : decode cX4_markTrial 61 = .ok (.if_icmp .ge 42, 3) := by decide +kernel
theorem dX4_markTrial_64 : decode cX4_markTrial 64 = .ok (.aload_n 0, 1) := by decide +kernel
theorem dX4_markTrial_65 : decode cX4_markTrial 65 = .ok (.getfield 40, 3) := by decide +kernel
theorem dX4_markTrial_68 : decode cX4_markTrial 68 = .ok (.getfield 100, 3) := by decide +kernel
theorem dX4_markTrial_71 : decode cX4_markTrial 71 = .ok (.iload 5, 2) := by decide +kernel
theorem dX4_markTrial_73 : decode cX4_markTrial 73 = .ok (.iaload, 1) := by decide +kernel
theorem dX4_markTrial_74 : decode cX4_markTrial 74 = .ok (.ifCond .le 23, 3) := by decide +kernel
theorem dX4_markTrial_77 : decode cX4_markTrial 77 = .ok (.aload_n 0, 1) := by decide +kernel
theorem dX4_markTrial_78 : decode cX4_markTrial 78 = .ok (.getfield 40, 3) := by decide +kernel
theorem dX4_markTrial_81 : decode cX4_markTrial 81 = .ok (.iload 5, 2) := by decide +kernel
theorem dX4_markTrial_83 : decode cX4_markTrial 83 = .ok (.aload_n 0, 1) := by decide +kernel
theorem dX4_markTrial_84 : decode cX4_markTrial 84 = .ok (.getfield 40, 3) := by decide +kernel
theorem dX4_markTrial_87 : decode cX4_markTrial 87 = .ok (.getfield 100, 3) := by decide +kernel
theorem dX4_markTrial_90 : decode cX4_markTrial 90 = .ok (.iload 5, 2) := by decide +kernel
theorem dX4_markTrial_92 : decode cX4_markTrial 92 = .ok (.iaload, 1) := by decide +kernel
theorem dX4_markTrial_93 : decode cX4_markTrial 93 = .ok (.iload_n 2, 1) := by decide +kernel
theorem dX4_markTrial_94 : decode cX4_markTrial 94 = .ok (.invokevirtual 154, 3) := by decide +kernel
theorem dX4_markTrial_97 : decode cX4_markTrial 97 = .ok (.iinc 5 1, 3) := by decide +kernel
theorem dX4_markTrial_100 : decode cX4_markTrial 100 = .ok (.goto (-43), 3) := by decide +kernel
theorem dX4_markTrial_103 : decode cX4_markTrial 103 = .ok (.return_, 1) := by decide +kernel
set_option maxRecDepth 20000 in
theorem bk_X4_markTrial_0 {d : Nat} {w : hb_W} {Q : Option hb_V → hb_W → Prop} {g1 : Nat} {x2 : Int32} {x3 : Int32} (hg1 : g1 < hb_ct 11) (h : hb_O yX4_lastLineOf cX4_lastLineOf 2 (some .int) d [hb_i x2, hb_i (hb_fI w 9 1 2)] w (fun rv w1 => hb_R yX4_markTrial cX4_markTrial 6 none (d + 1) 11 [some (hb_r 8 0 0), some (hb_r 11 g1 0), some (hb_i x2), some (hb_i x3), none, none] (rv.toList ++ []) w1 Q)) : hb_R yX4_markTrial cX4_markTrial 6 none (d + 1) 0 [some (hb_r 8 0 0), some (hb_r 11 g1 0), some (hb_i x2), some (hb_i x3), none, none] [] w Q := by
  refine hb_iload_n (pc := 0) (i := 2) dX4_markTrial_0 rfl rfl ?_
  refine hb_aload_n (pc := 1) (i := 0) dX4_markTrial_1 rfl rfl ?_
  refine hb_getR (pc := 2) (g1 := 2) dX4_markTrial_2 fw_X4_37 cw_4 rfl (by decide) rfl (by decide) rfl ?_
  refine hb_getIx (pc := 5) (x := hb_fI w 9 1 2) dX4_markTrial_5 fw_X4_126 cw_0 rfl (by decide) rfl rfl ?_
  exact hb_callS (pc := 8) (As := [hb_i x2, hb_i (hb_fI w 9 1 2)]) (st := []) dX4_markTrial_8 ml_X4_144 mf_X4_lastLineOf ms_X4_lastLineOf rfl rfl (Nat.le_of_ble_eq_true rfl) (Nat.le_of_ble_eq_true rfl) h (fun _ _ q => q)
set_option maxRecDepth 20000 in
theorem bk_X4_markTrial_11 {d : Nat} {w : hb_W} {Q : Option hb_V → hb_W → Prop} {g1 : Nat} {x2 : Int32} {x3 : Int32} {xs0 : Int32} (hg1 : g1 < hb_ct 11) (h : hb_O yX4_firstLineOf cX4_firstLineOf 1 (some .int) d [hb_i x2] w (fun rv w1 => hb_R yX4_markTrial cX4_markTrial 6 none (d + 1) 17 [some (hb_r 8 0 0), some (hb_r 11 g1 0), some (hb_i x2), some (hb_i x3), some (hb_i xs0), none] (rv.toList ++ []) w1 Q)) : hb_R yX4_markTrial cX4_markTrial 6 none (d + 1) 11 [some (hb_r 8 0 0), some (hb_r 11 g1 0), some (hb_i x2), some (hb_i x3), none, none] [hb_i xs0] w Q := by
  refine hb_istore (pc := 11) (i := 4) (ls1 := [some (hb_r 8 0 0), some (hb_r 11 g1 0), some (hb_i x2), some (hb_i x3), some (hb_i xs0), none]) dX4_markTrial_11 (by decide) rfl ?_
  refine hb_iload_n (pc := 13) (i := 2) dX4_markTrial_13 rfl rfl ?_
  exact hb_callS (pc := 14) (As := [hb_i x2]) (st := []) dX4_markTrial_14 ml_X4_148 mf_X4_firstLineOf ms_X4_firstLineOf rfl rfl (Nat.le_of_ble_eq_true rfl) (Nat.le_of_ble_eq_true rfl) h (fun _ _ q => q)
set_option maxRecDepth 20000 in
theorem bk_X4_markTrial_17 {d : Nat} {w : hb_W} {Q : Option hb_V → hb_W → Prop} {g1 : Nat} {x2 : Int32} {x3 : Int32} {x4 : Int32} {xs0 : Int32} (hg1 : g1 < hb_ct 11) (h : hb_R yX4_markTrial cX4_markTrial 6 none (d + 1) 19 [some (hb_r 8 0 0), some (hb_r 11 g1 0), some (hb_i x2), some (hb_i x3), some (hb_i x4), some (hb_i xs0)] [] w Q) : hb_R yX4_markTrial cX4_markTrial 6 none (d + 1) 17 [some (hb_r 8 0 0), some (hb_r 11 g1 0), some (hb_i x2), some (hb_i x3), some (hb_i x4), none] [hb_i xs0] w Q := by
  refine hb_istore (pc := 17) (i := 5) (ls1 := [some (hb_r 8 0 0), some (hb_r 11 g1 0), some (hb_i x2), some (hb_i x3), some (hb_i x4), some (hb_i xs0)]) dX4_markTrial_17 (by decide) rfl ?_
  exact h
set_option maxRecDepth 20000 in
theorem bk_X4_markTrial_19 {d : Nat} {w : hb_W} {Q : Option hb_V → hb_W → Prop} {g1 : Nat} {x2 : Int32} {x3 : Int32} {x4 : Int32} {x5 : Int32} (hg1 : g1 < hb_ct 11) (h : ((x4 < x5) → hb_O yX0_wipeMarks cX0_wipeMarks 1 none d [hb_r 9 3 0] w (fun rv w1 => hb_R yX4_markTrial cX4_markTrial 6 none (d + 1) 54 [some (hb_r 8 0 0), some (hb_r 11 g1 0), some (hb_i x2), some (hb_i x3), some (hb_i x4), some (hb_i x5)] (rv.toList ++ []) w1 Q)) ∧ ((¬ x4 < x5) → hb_O yX5_fillLine cX5_fillLine 7 none d [hb_r 5 1 0, hb_r 11 g1 0, hb_r 6 0 0, hb_i x3, hb_i x5] w (fun rv w1 => hb_R yX4_markTrial cX4_markTrial 6 none (d + 1) 41 [some (hb_r 8 0 0), some (hb_r 11 g1 0), some (hb_i x2), some (hb_i x3), some (hb_i x4), some (hb_i x5)] (rv.toList ++ []) w1 Q))) : hb_R yX4_markTrial cX4_markTrial 6 none (d + 1) 19 [some (hb_r 8 0 0), some (hb_r 11 g1 0), some (hb_i x2), some (hb_i x3), some (hb_i x4), some (hb_i x5)] [] w Q := by
  refine hb_iload (pc := 19) dX4_markTrial_19 rfl ?_
  refine hb_iload (pc := 21) dX4_markTrial_21 rfl ?_
  refine hb_icmp_gt (pc := 23) (tgt := 47) dX4_markTrial_23 (by decide) (fun c1 => ?_) (fun c1 => ?_)
  · have ht1 := h.1 c1
    refine hb_aload_n (pc := 47) (i := 0) dX4_markTrial_47 rfl rfl ?_
    refine hb_getR (pc := 48) (g1 := 3) dX4_markTrial_48 fw_X4_40 cw_4 rfl (by decide) rfl (by decide) rfl ?_
    exact hb_callV (pc := 51) (As := []) (st := []) dX4_markTrial_51 ml_X4_151 mf_X0_wipeMarks mi_X0_wipeMarks (ci := 0) rfl rfl (by decide) rfl rfl (Nat.le_of_ble_eq_true rfl) (Nat.le_of_ble_eq_true rfl) ht1 (fun _ _ q => q)
  · have ht1 := h.2 c1
    refine hb_aload_n (pc := 26) (i := 0) dX4_markTrial_26 rfl rfl ?_
    refine hb_getR (pc := 27) (g1 := 1) dX4_markTrial_27 fw_X4_22 cw_4 rfl (by decide) rfl (by decide) rfl ?_
    refine hb_aload_n (pc := 30) (i := 1) dX4_markTrial_30 rfl rfl ?_
    refine hb_aload_n (pc := 31) (i := 0) dX4_markTrial_31 rfl rfl ?_
    refine hb_getR (pc := 32) (g1 := 0) dX4_markTrial_32 fw_X4_9 cw_4 rfl (by decide) rfl (by decide) rfl ?_
    refine hb_iload_n (pc := 35) (i := 3) dX4_markTrial_35 rfl rfl ?_
    refine hb_iload (pc := 36) dX4_markTrial_36 rfl ?_
    exact hb_callV (pc := 38) (As := [hb_r 11 g1 0, hb_r 6 0 0, hb_i x3, hb_i x5]) (st := []) dX4_markTrial_38 ml_X4_55 mf_X5_fillLine mi_X5_fillLine (ci := 5) rfl rfl (by decide) rfl rfl (Nat.le_of_ble_eq_true rfl) (Nat.le_of_ble_eq_true rfl) ht1 (fun _ _ q => q)
set_option maxRecDepth 20000 in
theorem bk_X4_markTrial_41 {d : Nat} {w : hb_W} {Q : Option hb_V → hb_W → Prop} {g1 : Nat} {x2 : Int32} {x3 : Int32} {x4 : Int32} {x5 : Int32} (hg1 : g1 < hb_ct 11) (h : hb_R yX4_markTrial cX4_markTrial 6 none (d + 1) 19 [some (hb_r 8 0 0), some (hb_r 11 g1 0), some (hb_i x2), some (hb_i x3), some (hb_i x4), some (hb_i (x5 + (1 : Int32)))] [] w Q) : hb_R yX4_markTrial cX4_markTrial 6 none (d + 1) 41 [some (hb_r 8 0 0), some (hb_r 11 g1 0), some (hb_i x2), some (hb_i x3), some (hb_i x4), some (hb_i x5)] [] w Q := by
  refine hb_iinc (pc := 41) (v := x5 + (1 : Int32)) (ls1 := [some (hb_r 8 0 0), some (hb_r 11 g1 0), some (hb_i x2), some (hb_i x3), some (hb_i x4), some (hb_i (x5 + (1 : Int32)))]) dX4_markTrial_41 rfl rfl (by decide) rfl ?_
  refine hb_goto (pc := 44) (tgt := 19) dX4_markTrial_44 (by decide) ?_
  exact h
set_option maxRecDepth 20000 in
theorem bk_X4_markTrial_54 {d : Nat} {w : hb_W} {Q : Option hb_V → hb_W → Prop} {g1 : Nat} {x2 : Int32} {x3 : Int32} {x4 : Int32} {x5 : Int32} (hg1 : g1 < hb_ct 11) (h : hb_R yX4_markTrial cX4_markTrial 6 none (d + 1) 57 [some (hb_r 8 0 0), some (hb_r 11 g1 0), some (hb_i x2), some (hb_i x3), some (hb_i x4), some (hb_i (0 : Int32))] [] w Q) : hb_R yX4_markTrial cX4_markTrial 6 none (d + 1) 54 [some (hb_r 8 0 0), some (hb_r 11 g1 0), some (hb_i x2), some (hb_i x3), some (hb_i x4), some (hb_i x5)] [] w Q := by
  refine hb_iconst (pc := 54) (v := 0) dX4_markTrial_54 (by decide) ?_
  refine hb_istore (pc := 55) (i := 5) (ls1 := [some (hb_r 8 0 0), some (hb_r 11 g1 0), some (hb_i x2), some (hb_i x3), some (hb_i x4), some (hb_i (0 : Int32))]) dX4_markTrial_55 (by decide) rfl ?_
  exact h
set_option maxRecDepth 20000 in
theorem bk_X4_markTrial_57 {d : Nat} {w : hb_W} {Q : Option hb_V → hb_W → Prop} {g1 : Nat} {x2 : Int32} {x3 : Int32} {x4 : Int32} {x5 : Int32} (hg1 : g1 < hb_ct 11) (h : (((64 : Int32) ≤ x5) → Q none w) ∧ ((¬ (64 : Int32) ≤ x5) → vp_in x5 64 ∧ ((((hb_aI w 9 1 3 x5.toNatClampNeg) ≤ 0) → hb_R yX4_markTrial cX4_markTrial 6 none (d + 1) 97 [some (hb_r 8 0 0), some (hb_r 11 g1 0), some (hb_i x2), some (hb_i x3), some (hb_i x4), some (hb_i x5)] [] w Q) ∧ ((¬ (hb_aI w 9 1 3 x5.toNatClampNeg) ≤ 0) → vp_in x5 64 ∧ (hb_O yX0_addMarks cX0_addMarks 5 none d [hb_r 9 3 0, hb_i x5, hb_i (hb_aI w 9 1 3 x5.toNatClampNeg), hb_i x2] w (fun rv w1 => hb_R yX4_markTrial cX4_markTrial 6 none (d + 1) 97 [some (hb_r 8 0 0), some (hb_r 11 g1 0), some (hb_i x2), some (hb_i x3), some (hb_i x4), some (hb_i x5)] (rv.toList ++ []) w1 Q)))))) : hb_R yX4_markTrial cX4_markTrial 6 none (d + 1) 57 [some (hb_r 8 0 0), some (hb_r 11 g1 0), some (hb_i x2), some (hb_i x3), some (hb_i x4), some (hb_i x5)] [] w Q := by
  refine hb_iload (pc := 57) dX4_markTrial_57 rfl ?_
  refine hb_bipush (pc := 59) (v := 64) dX4_markTrial_59 (by decide) ?_
  refine hb_icmp_ge (pc := 61) (tgt := 103) dX4_markTrial_61 (by decide) (fun c1 => ?_) (fun c1 => ?_)
  · have ht1 := h.1 c1
    exact hb_vret (pc := 103) dX4_markTrial_103 rfl ht1
  · have ht1 := h.2 c1
    refine hb_aload_n (pc := 64) (i := 0) dX4_markTrial_64 rfl rfl ?_
    refine hb_getR (pc := 65) (g1 := 3) dX4_markTrial_65 fw_X4_40 cw_4 rfl (by decide) rfl (by decide) rfl ?_
    refine hb_getR (pc := 68) (g1 := 3) dX4_markTrial_68 fw_X4_100 cw_0 rfl (by decide) rfl (by decide) rfl ?_
    refine hb_iload (pc := 71) dX4_markTrial_71 rfl ?_
    obtain ⟨ho2, hr2⟩ := ht1
    refine hb_ialdx (pc := 73) (x := hb_aI w 9 1 3 x5.toNatClampNeg) dX4_markTrial_73 rfl (by decide) ho2 rfl ?_
    refine hb_if_le (pc := 74) (tgt := 97) dX4_markTrial_74 (by decide) (fun c3 => ?_) (fun c3 => ?_)
    · have ht3 := hr2.1 c3
      exact ht3
    · have ht3 := hr2.2 c3
      refine hb_aload_n (pc := 77) (i := 0) dX4_markTrial_77 rfl rfl ?_
      refine hb_getR (pc := 78) (g1 := 3) dX4_markTrial_78 fw_X4_40 cw_4 rfl (by decide) rfl (by decide) rfl ?_
      refine hb_iload (pc := 81) dX4_markTrial_81 rfl ?_
      refine hb_aload_n (pc := 83) (i := 0) dX4_markTrial_83 rfl rfl ?_
      refine hb_getR (pc := 84) (g1 := 3) dX4_markTrial_84 fw_X4_40 cw_4 rfl (by decide) rfl (by decide) rfl ?_
      refine hb_getR (pc := 87) (g1 := 3) dX4_markTrial_87 fw_X4_100 cw_0 rfl (by decide) rfl (by decide) rfl ?_
      refine hb_iload (pc := 90) dX4_markTrial_90 rfl ?_
      obtain ⟨ho4, hr4⟩ := ht3
      refine hb_ialdx (pc := 92) (x := hb_aI w 9 1 3 x5.toNatClampNeg) dX4_markTrial_92 rfl (by decide) ho4 rfl ?_
      refine hb_iload_n (pc := 93) (i := 2) dX4_markTrial_93 rfl rfl ?_
      exact hb_callV (pc := 94) (As := [hb_i x5, hb_i (hb_aI w 9 1 3 x5.toNatClampNeg), hb_i x2]) (st := []) dX4_markTrial_94 ml_X4_154 mf_X0_addMarks mi_X0_addMarks (ci := 0) rfl rfl (by decide) rfl rfl (Nat.le_of_ble_eq_true rfl) (Nat.le_of_ble_eq_true rfl) hr4 (fun _ _ q => q)
set_option maxRecDepth 20000 in
theorem bk_X4_markTrial_97 {d : Nat} {w : hb_W} {Q : Option hb_V → hb_W → Prop} {g1 : Nat} {x2 : Int32} {x3 : Int32} {x4 : Int32} {x5 : Int32} (hg1 : g1 < hb_ct 11) (h : hb_R yX4_markTrial cX4_markTrial 6 none (d + 1) 57 [some (hb_r 8 0 0), some (hb_r 11 g1 0), some (hb_i x2), some (hb_i x3), some (hb_i x4), some (hb_i (x5 + (1 : Int32)))] [] w Q) : hb_R yX4_markTrial cX4_markTrial 6 none (d + 1) 97 [some (hb_r 8 0 0), some (hb_r 11 g1 0), some (hb_i x2), some (hb_i x3), some (hb_i x4), some (hb_i x5)] [] w Q := by
  refine hb_iinc (pc := 97) (v := x5 + (1 : Int32)) (ls1 := [some (hb_r 8 0 0), some (hb_r 11 g1 0), some (hb_i x2), some (hb_i x3), some (hb_i x4), some (hb_i (x5 + (1 : Int32)))]) dX4_markTrial_97 rfl rfl (by decide) rfl ?_
  refine hb_goto (pc := 100) (tgt := 57) dX4_markTrial_100 (by decide) ?_
  exact h
theorem dX4_firstLineOf_0 : decode cX4_firstLineOf 0 = .ok (.iload_n 0, 1) := by decide +kernel
theorem dX4_firstLineOf_1 : decode cX4_firstLineOf 1 = .ok (.tableswitch 33 0 2 #[27, 29, 31], 27) := by decide +kernel
theorem dX4_firstLineOf_28 : decode cX4_firstLineOf 28 = .ok (.iconst 0, 1) := by decide +kernel
theorem dX4_firstLineOf_29 : decode cX4_firstLineOf 29 = .ok (.ireturn, 1) := by decide +kernel
theorem dX4_firstLineOf_30 : decode cX4_firstLineOf 30 = .ok (.iconst 1, 1) := by decide +kernel
theorem dX4_firstLineOf_31 : decode cX4_firstLineOf 31 = .ok (.ireturn, 1) := by decide +kernel
theorem dX4_firstLineOf_32 : decode cX4_firstLineOf 32 = .ok (.iconst 2, 1) := by decide +kernel
theorem dX4_firstLineOf_33 : decode cX4_firstLineOf 33 = .ok (.ireturn, 1) := by decide +kernel
theorem dX4_firstLineOf_34 : decode cX4_firstLineOf 34 = .ok (.iconst 5, 1) := by decide +kernel
theorem dX4_firstLineOf_35 : decode cX4_firstLineOf 35 = .ok (.ireturn, 1) := by decide +kernel
set_option maxRecDepth 20000 in
theorem bk_X4_firstLineOf_0 {d : Nat} {w : hb_W} {Q : Option hb_V → hb_W → Prop} {x0 : Int32} (h : (x0 = (0 : Int32) → Q (some (hb_i (0 : Int32))) w) ∧ (x0 = (1 : Int32) → Q (some (hb_i (1 : Int32))) w) ∧ (x0 = (2 : Int32) → Q (some (hb_i (2 : Int32))) w) ∧ (¬ x0 = (0 : Int32) → ¬ x0 = (1 : Int32) → ¬ x0 = (2 : Int32) → Q (some (hb_i (5 : Int32))) w)) : hb_R yX4_firstLineOf cX4_firstLineOf 1 (some .int) d 0 [some (hb_i x0)] [] w Q := by
  refine hb_iload_n (pc := 0) (i := 0) dX4_firstLineOf_0 rfl rfl ?_
  by_cases e1_0 : x0 = (0 : Int32)
  · have hk1_0 := h.1 e1_0
    have ei : x0.toInt = 0 := by rw [e1_0]; rfl
    refine hb_tabIn (pc := 1) (tgt := 28) (off := 27) dX4_firstLineOf_1 (by rw [ei]; decide) (by rw [ei]; decide) (by rw [ei]; rfl) (by decide) ?_
    refine hb_iconst (pc := 28) (v := 0) dX4_firstLineOf_28 (by decide) ?_
    exact hb_iret (pc := 29) dX4_firstLineOf_29 rfl hk1_0
  by_cases e1_1 : x0 = (1 : Int32)
  · have hk1_1 := h.2.1 e1_1
    have ei : x0.toInt = 1 := by rw [e1_1]; rfl
    refine hb_tabIn (pc := 1) (tgt := 30) (off := 29) dX4_firstLineOf_1 (by rw [ei]; decide) (by rw [ei]; decide) (by rw [ei]; rfl) (by decide) ?_
    refine hb_iconst (pc := 30) (v := 1) dX4_firstLineOf_30 (by decide) ?_
    exact hb_iret (pc := 31) dX4_firstLineOf_31 rfl hk1_1
  by_cases e1_2 : x0 = (2 : Int32)
  · have hk1_2 := h.2.2.1 e1_2
    have ei : x0.toInt = 2 := by rw [e1_2]; rfl
    refine hb_tabIn (pc := 1) (tgt := 32) (off := 31) dX4_firstLineOf_1 (by rw [ei]; decide) (by rw [ei]; decide) (by rw [ei]; rfl) (by decide) ?_
    refine hb_iconst (pc := 32) (v := 2) dX4_firstLineOf_32 (by decide) ?_
    exact hb_iret (pc := 33) dX4_firstLineOf_33 rfl hk1_2
  have hk1_d := h.2.2.2 e1_0 e1_1 e1_2
  have n1_0 := lv_neT (a := 0) e1_0 rfl
  have n1_1 := lv_neT (a := 1) e1_1 rfl
  have n1_2 := lv_neT (a := 2) e1_2 rfl
  refine hb_tabOut (pc := 1) (tgt := 34) dX4_firstLineOf_1 (by omega) (by decide) ?_
  refine hb_iconst (pc := 34) (v := 5) dX4_firstLineOf_34 (by decide) ?_
  exact hb_iret (pc := 35) dX4_firstLineOf_35 rfl hk1_d
theorem dX4_lastLineOf_0 : decode cX4_lastLineOf 0 = .ok (.iload_n 0, 1) := by decide +kernel
theorem dX4_lastLineOf_1 : decode cX4_lastLineOf 1 = .ok (.tableswitch 35 0 2 #[27, 29, 31], 27) := by decide +kernel
theorem dX4_lastLineOf_28 : decode cX4_lastLineOf 28 = .ok (.iconst 0, 1) := by decide +kernel
theorem dX4_lastLineOf_29 : decode cX4_lastLineOf 29 = .ok (.ireturn, 1) := by decide +kernel
theorem dX4_lastLineOf_30 : decode cX4_lastLineOf 30 = .ok (.iconst 1, 1) := by decide +kernel
theorem dX4_lastLineOf_31 : decode cX4_lastLineOf 31 = .ok (.ireturn, 1) := by decide +kernel
theorem dX4_lastLineOf_32 : decode cX4_lastLineOf 32 = .ok (.iconst 1, 1) := by decide +kernel
theorem dX4_lastLineOf_33 : decode cX4_lastLineOf 33 = .ok (.iload_n 1, 1) := by decide +kernel
theorem dX4_lastLineOf_34 : decode cX4_lastLineOf 34 = .ok (.iadd, 1) := by decide +kernel
theorem dX4_lastLineOf_35 : decode cX4_lastLineOf 35 = .ok (.ireturn, 1) := by decide +kernel
theorem dX4_lastLineOf_36 : decode cX4_lastLineOf 36 = .ok (.bipush 6, 2) := by decide +kernel
theorem dX4_lastLineOf_38 : decode cX4_lastLineOf 38 = .ok (.ireturn, 1) := by decide +kernel
set_option maxRecDepth 20000 in
theorem bk_X4_lastLineOf_0 {d : Nat} {w : hb_W} {Q : Option hb_V → hb_W → Prop} {x0 : Int32} {x1 : Int32} (h : (x0 = (0 : Int32) → Q (some (hb_i (0 : Int32))) w) ∧ (x0 = (1 : Int32) → Q (some (hb_i (1 : Int32))) w) ∧ (x0 = (2 : Int32) → Q (some (hb_i ((1 : Int32) + x1))) w) ∧ (¬ x0 = (0 : Int32) → ¬ x0 = (1 : Int32) → ¬ x0 = (2 : Int32) → Q (some (hb_i (6 : Int32))) w)) : hb_R yX4_lastLineOf cX4_lastLineOf 2 (some .int) d 0 [some (hb_i x0), some (hb_i x1)] [] w Q := by
  refine hb_iload_n (pc := 0) (i := 0) dX4_lastLineOf_0 rfl rfl ?_
  by_cases e1_0 : x0 = (0 : Int32)
  · have hk1_0 := h.1 e1_0
    have ei : x0.toInt = 0 := by rw [e1_0]; rfl
    refine hb_tabIn (pc := 1) (tgt := 28) (off := 27) dX4_lastLineOf_1 (by rw [ei]; decide) (by rw [ei]; decide) (by rw [ei]; rfl) (by decide) ?_
    refine hb_iconst (pc := 28) (v := 0) dX4_lastLineOf_28 (by decide) ?_
    exact hb_iret (pc := 29) dX4_lastLineOf_29 rfl hk1_0
  by_cases e1_1 : x0 = (1 : Int32)
  · have hk1_1 := h.2.1 e1_1
    have ei : x0.toInt = 1 := by rw [e1_1]; rfl
    refine hb_tabIn (pc := 1) (tgt := 30) (off := 29) dX4_lastLineOf_1 (by rw [ei]; decide) (by rw [ei]; decide) (by rw [ei]; rfl) (by decide) ?_
    refine hb_iconst (pc := 30) (v := 1) dX4_lastLineOf_30 (by decide) ?_
    exact hb_iret (pc := 31) dX4_lastLineOf_31 rfl hk1_1
  by_cases e1_2 : x0 = (2 : Int32)
  · have hk1_2 := h.2.2.1 e1_2
    have ei : x0.toInt = 2 := by rw [e1_2]; rfl
    refine hb_tabIn (pc := 1) (tgt := 32) (off := 31) dX4_lastLineOf_1 (by rw [ei]; decide) (by rw [ei]; decide) (by rw [ei]; rfl) (by decide) ?_
    refine hb_iconst (pc := 32) (v := 1) dX4_lastLineOf_32 (by decide) ?_
    refine hb_iload_n (pc := 33) (i := 1) dX4_lastLineOf_33 rfl rfl ?_
    refine hb_iadd (pc := 34) dX4_lastLineOf_34 ?_
    exact hb_iret (pc := 35) dX4_lastLineOf_35 rfl hk1_2
  have hk1_d := h.2.2.2 e1_0 e1_1 e1_2
  have n1_0 := lv_neT (a := 0) e1_0 rfl
  have n1_1 := lv_neT (a := 1) e1_1 rfl
  have n1_2 := lv_neT (a := 2) e1_2 rfl
  refine hb_tabOut (pc := 1) (tgt := 36) dX4_lastLineOf_1 (by omega) (by decide) ?_
  refine hb_bipush (pc := 36) (v := 6) dX4_lastLineOf_36 (by decide) ?_
  exact hb_iret (pc := 38) dX4_lastLineOf_38 rfl hk1_d
theorem dX4_findCrossHood_0 : decode cX4_findCrossHood 0 = .ok (.aload_n 0, 1) := by decide +kernel
theorem dX4_findCrossHood_1 : decode cX4_findCrossHood 1 = .ok (.getfield 40, 3) := by decide +kernel
theorem dX4_findCrossHood_4 : decode cX4_findCrossHood 4 = .ok (.aload_n 0, 1) := by decide +kernel
theorem dX4_findCrossHood_5 : decode cX4_findCrossHood 5 = .ok (.getfield 15, 3) := by decide +kernel
theorem dX4_findCrossHood_8 : decode cX4_findCrossHood 8 = .ok (.putfield 125, 3) := by decide +kernel
theorem dX4_findCrossHood_11 : decode cX4_findCrossHood 11 = .ok (.aload_n 0, 1) := by decide +kernel
theorem dX4_findCrossHood_12 : decode cX4_findCrossHood 12 = .ok (.iconst (-1), 1) := by decide +kernel
theorem dX4_findCrossHood_13 : decode cX4_findCrossHood 13 = .ok (.putfield 134, 3) := by decide +kernel
theorem dX4_findCrossHood_16 : decode cX4_findCrossHood 16 = .ok (.aload_n 0, 1) := by decide +kernel
theorem dX4_findCrossHood_17 : decode cX4_findCrossHood 17 = .ok (.iconst (-1), 1) := by decide +kernel
theorem dX4_findCrossHood_18 : decode cX4_findCrossHood 18 = .ok (.putfield 141, 3) := by decide +kernel
theorem dX4_findCrossHood_21 : decode cX4_findCrossHood 21 = .ok (.iconst 0, 1) := by decide +kernel
theorem dX4_findCrossHood_22 : decode cX4_findCrossHood 22 = .ok (.istore_n 2, 1) := by decide +kernel
theorem dX4_findCrossHood_23 : decode cX4_findCrossHood 23 = .ok (.iload_n 2, 1) := by decide +kernel
theorem dX4_findCrossHood_24 : decode cX4_findCrossHood 24 = .ok (.bipush 64, 2) := by decide +kernel
theorem dX4_findCrossHood_26 : decode cX4_findCrossHood 26 = .ok (.if_icmp .ge 56, 3) := by decide +kernel
theorem dX4_findCrossHood_29 : decode cX4_findCrossHood 29 = .ok (.aload_n 0, 1) := by decide +kernel
theorem dX4_findCrossHood_30 : decode cX4_findCrossHood 30 = .ok (.getfield 40, 3) := by decide +kernel
theorem dX4_findCrossHood_33 : decode cX4_findCrossHood 33 = .ok (.aload_n 0, 1) := by decide +kernel
theorem dX4_findCrossHood_34 : decode cX4_findCrossHood 34 = .ok (.getfield 37, 3) := by decide +kernel
theorem dX4_findCrossHood_37 : decode cX4_findCrossHood 37 = .ok (.invokevirtual 130, 3) := by decide +kernel
theorem dX4_findCrossHood_40 : decode cX4_findCrossHood 40 = .ok (.aload_n 0, 1) := by decide +kernel
theorem dX4_findCrossHood_41 : decode cX4_findCrossHood 41 = .ok (.getfield 40, 3) := by decide +kernel
theorem dX4_findCrossHood_44 : decode cX4_findCrossHood 44 = .ok (.iload_n 2, 1) := by decide +kernel
theorem dX4_findCrossHood_45 : decode cX4_findCrossHood 45 = .ok (.iconst 0, 1) := by decide +kernel
theorem dX4_findCrossHood_46 : decode cX4_findCrossHood 46 = .ok (.invokevirtual 84, 3) := by decide +kernel
theorem dX4_findCrossHood_49 : decode cX4_findCrossHood 49 = .ok (.aload_n 0, 1) := by decide +kernel
theorem dX4_findCrossHood_50 : decode cX4_findCrossHood 50 = .ok (.getfield 40, 3) := by decide +kernel
theorem dX4_findCrossHood_53 : decode cX4_findCrossHood 53 = .ok (.iload_n 1, 1) := by decide +kernel
theorem dX4_findCrossHood_54 : decode cX4_findCrossHood 54 = .ok (.invokevirtual 127, 3) := by decide +kernel
theorem dX4_findCrossHood_57 : decode cX4_findCrossHood 57 = .ok (.istore_n 3, 1) := by decide +kernel
theorem dX4_findCrossHood_58 : decode cX4_findCrossHood 58 = .ok (.iload_n 3, 1) := by decide +kernel
theorem dX4_findCrossHood_59 : decode cX4_findCrossHood 59 = .ok (.aload_n 0, 1) := by decide +kernel
theorem dX4_findCrossHood_60 : decode cX4_findCrossHood 60 = .ok (.getfield 141, 3) := by decide +kernel
theorem dX4_findCrossHood_63 : decode cX4_findCrossHood 63 = .ok (.if_icmp .le 13, 3) := by decide +kernel
theorem dX4_findCrossHood_66 : decode cX4_findCrossHood 66 = .ok (.aload_n 0, 1) := by decide +kernel
theorem dX4_findCrossHood_67 : decode cX4_findCrossHood 67 = .ok (.iload_n 2, 1) := by decide +kernel
theorem dX4_findCrossHood_68 : decode cX4_findCrossHood 68 = .ok (.putfield 134, 3) := by decide +kernel
theorem dX4_findCrossHood_71 : decode cX4_findCrossHood 71 = .ok (.aload_n 0, 1) := by decide +kernel
theorem dX4_findCrossHood_72 : decode cX4_findCrossHood 72 = .ok (.iload_n 3, 1) := by decide +kernel
theorem dX4_findCrossHood_73 : decode cX4_findCrossHood 73 = .ok (.putfield 141, 3) := by decide +kernel
theorem dX4_findCrossHood_76 : decode cX4_findCrossHood 76 = .ok (.iinc 2 1, 3) := by decide +kernel
theorem dX4_findCrossHood_79 : decode cX4_findCrossHood 79 = .ok (.goto (-56), 3) := by decide +kernel
theorem dX4_findCrossHood_82 : decode cX4_findCrossHood 82 = .ok (.return_, 1) := by decide +kernel
set_option maxRecDepth 20000 in
theorem bk_X4_findCrossHood_0 {d : Nat} {w : hb_W} {Q : Option hb_V → hb_W → Prop} {x1 : Int32} (h : hb_R yX4_findCrossHood cX4_findCrossHood 4 none (d + 1) 23 [some (hb_r 8 0 0), some (hb_i x1), some (hb_i (0 : Int32)), none] [] (hb_pI (hb_pI (hb_pR w 9 2 3 0) 8 4 0 (-1 : Int32)) 8 5 0 (-1 : Int32)) Q) : hb_R yX4_findCrossHood cX4_findCrossHood 4 none (d + 1) 0 [some (hb_r 8 0 0), some (hb_i x1), none, none] [] w Q := by
  refine hb_aload_n (pc := 0) (i := 0) dX4_findCrossHood_0 rfl rfl ?_
  refine hb_getR (pc := 1) (g1 := 3) dX4_findCrossHood_1 fw_X4_40 cw_4 rfl (by decide) rfl (by decide) rfl ?_
  refine hb_aload_n (pc := 4) (i := 0) dX4_findCrossHood_4 rfl rfl ?_
  refine hb_getR (pc := 5) (g1 := 0) dX4_findCrossHood_5 fw_X4_15 cw_4 rfl (by decide) rfl (by decide) rfl ?_
  refine hb_putR (pc := 8) dX4_findCrossHood_8 fw_X4_125 cw_0 pw_0_2 rfl (by decide) rfl ?_
  refine hb_aload_n (pc := 11) (i := 0) dX4_findCrossHood_11 rfl rfl ?_
  refine hb_iconst (pc := 12) (v := -1) dX4_findCrossHood_12 (by decide) ?_
  refine hb_putI (pc := 13) dX4_findCrossHood_13 fw_X4_134 cw_4 pw_4_4 rfl (by decide) rfl rfl rfl ?_
  refine hb_aload_n (pc := 16) (i := 0) dX4_findCrossHood_16 rfl rfl ?_
  refine hb_iconst (pc := 17) (v := -1) dX4_findCrossHood_17 (by decide) ?_
  refine hb_putI (pc := 18) dX4_findCrossHood_18 fw_X4_141 cw_4 pw_4_5 rfl (by decide) rfl rfl rfl ?_
  refine hb_iconst (pc := 21) (v := 0) dX4_findCrossHood_21 (by decide) ?_
  refine hb_istore_n (pc := 22) (i := 2) (ls1 := [some (hb_r 8 0 0), some (hb_i x1), some (hb_i (0 : Int32)), none]) dX4_findCrossHood_22 rfl (by decide) rfl ?_
  exact h
set_option maxRecDepth 20000 in
theorem bk_X4_findCrossHood_23 {d : Nat} {w : hb_W} {Q : Option hb_V → hb_W → Prop} {x1 : Int32} {x2 : Int32} (h : (((64 : Int32) ≤ x2) → Q none w) ∧ ((¬ (64 : Int32) ≤ x2) → hb_O yX0_copy cX0_copy 2 none d [hb_r 9 3 0, hb_r 9 2 0] w (fun rv w1 => hb_R yX4_findCrossHood cX4_findCrossHood 4 none (d + 1) 40 [some (hb_r 8 0 0), some (hb_i x1), some (hb_i x2), none] (rv.toList ++ []) w1 Q))) : hb_R yX4_findCrossHood cX4_findCrossHood 4 none (d + 1) 23 [some (hb_r 8 0 0), some (hb_i x1), some (hb_i x2), none] [] w Q := by
  refine hb_iload_n (pc := 23) (i := 2) dX4_findCrossHood_23 rfl rfl ?_
  refine hb_bipush (pc := 24) (v := 64) dX4_findCrossHood_24 (by decide) ?_
  refine hb_icmp_ge (pc := 26) (tgt := 82) dX4_findCrossHood_26 (by decide) (fun c1 => ?_) (fun c1 => ?_)
  · have ht1 := h.1 c1
    exact hb_vret (pc := 82) dX4_findCrossHood_82 rfl ht1
  · have ht1 := h.2 c1
    refine hb_aload_n (pc := 29) (i := 0) dX4_findCrossHood_29 rfl rfl ?_
    refine hb_getR (pc := 30) (g1 := 3) dX4_findCrossHood_30 fw_X4_40 cw_4 rfl (by decide) rfl (by decide) rfl ?_
    refine hb_aload_n (pc := 33) (i := 0) dX4_findCrossHood_33 rfl rfl ?_
    refine hb_getR (pc := 34) (g1 := 2) dX4_findCrossHood_34 fw_X4_37 cw_4 rfl (by decide) rfl (by decide) rfl ?_
    exact hb_callV (pc := 37) (As := [hb_r 9 2 0]) (st := []) dX4_findCrossHood_37 ml_X4_130 mf_X0_copy mi_X0_copy (ci := 0) rfl rfl (by decide) rfl rfl (Nat.le_of_ble_eq_true rfl) (Nat.le_of_ble_eq_true rfl) ht1 (fun _ _ q => q)
set_option maxRecDepth 20000 in
theorem bk_X4_findCrossHood_40 {d : Nat} {w : hb_W} {Q : Option hb_V → hb_W → Prop} {x1 : Int32} {x2 : Int32} (h : hb_O yX0_add cX0_add 4 none d [hb_r 9 3 0, hb_i x2, hb_i (0 : Int32)] w (fun rv w1 => hb_R yX4_findCrossHood cX4_findCrossHood 4 none (d + 1) 49 [some (hb_r 8 0 0), some (hb_i x1), some (hb_i x2), none] (rv.toList ++ []) w1 Q)) : hb_R yX4_findCrossHood cX4_findCrossHood 4 none (d + 1) 40 [some (hb_r 8 0 0), some (hb_i x1), some (hb_i x2), none] [] w Q := by
  refine hb_aload_n (pc := 40) (i := 0) dX4_findCrossHood_40 rfl rfl ?_
  refine hb_getR (pc := 41) (g1 := 3) dX4_findCrossHood_41 fw_X4_40 cw_4 rfl (by decide) rfl (by decide) rfl ?_
  refine hb_iload_n (pc := 44) (i := 2) dX4_findCrossHood_44 rfl rfl ?_
  refine hb_iconst (pc := 45) (v := 0) dX4_findCrossHood_45 (by decide) ?_
  exact hb_callV (pc := 46) (As := [hb_i x2, hb_i (0 : Int32)]) (st := []) dX4_findCrossHood_46 ml_X4_84 mf_X0_add mi_X0_add (ci := 0) rfl rfl (by decide) rfl rfl (Nat.le_of_ble_eq_true rfl) (Nat.le_of_ble_eq_true rfl) h (fun _ _ q => q)
set_option maxRecDepth 20000 in
theorem bk_X4_findCrossHood_49 {d : Nat} {w : hb_W} {Q : Option hb_V → hb_W → Prop} {x1 : Int32} {x2 : Int32} (h : hb_O yX0_outBy cX0_outBy 2 (some .int) d [hb_r 9 3 0, hb_i x1] w (fun rv w1 => hb_R yX4_findCrossHood cX4_findCrossHood 4 none (d + 1) 57 [some (hb_r 8 0 0), some (hb_i x1), some (hb_i x2), none] (rv.toList ++ []) w1 Q)) : hb_R yX4_findCrossHood cX4_findCrossHood 4 none (d + 1) 49 [some (hb_r 8 0 0), some (hb_i x1), some (hb_i x2), none] [] w Q := by
  refine hb_aload_n (pc := 49) (i := 0) dX4_findCrossHood_49 rfl rfl ?_
  refine hb_getR (pc := 50) (g1 := 3) dX4_findCrossHood_50 fw_X4_40 cw_4 rfl (by decide) rfl (by decide) rfl ?_
  refine hb_iload_n (pc := 53) (i := 1) dX4_findCrossHood_53 rfl rfl ?_
  exact hb_callV (pc := 54) (As := [hb_i x1]) (st := []) dX4_findCrossHood_54 ml_X4_127 mf_X0_outBy mi_X0_outBy (ci := 0) rfl rfl (by decide) rfl rfl (Nat.le_of_ble_eq_true rfl) (Nat.le_of_ble_eq_true rfl) h (fun _ _ q => q)
set_option maxRecDepth 20000 in
theorem bk_X4_findCrossHood_57 {d : Nat} {w : hb_W} {Q : Option hb_V → hb_W → Prop} {x1 : Int32} {x2 : Int32} {xs0 : Int32} (h : ((xs0 ≤ (hb_fI w 8 5 0)) → hb_R yX4_findCrossHood cX4_findCrossHood 4 none (d + 1) 23 [some (hb_r 8 0 0), some (hb_i x1), some (hb_i (x2 + (1 : Int32))), some (hb_i xs0)] [] w Q) ∧ ((¬ xs0 ≤ (hb_fI w 8 5 0)) → hb_R yX4_findCrossHood cX4_findCrossHood 4 none (d + 1) 23 [some (hb_r 8 0 0), some (hb_i x1), some (hb_i (x2 + (1 : Int32))), some (hb_i xs0)] [] (hb_pI (hb_pI w 8 4 0 x2) 8 5 0 xs0) Q)) : hb_R yX4_findCrossHood cX4_findCrossHood 4 none (d + 1) 57 [some (hb_r 8 0 0), some (hb_i x1), some (hb_i x2), none] [hb_i xs0] w Q := by
  refine hb_istore_n (pc := 57) (i := 3) (ls1 := [some (hb_r 8 0 0), some (hb_i x1), some (hb_i x2), some (hb_i xs0)]) dX4_findCrossHood_57 rfl (by decide) rfl ?_
  refine hb_iload_n (pc := 58) (i := 3) dX4_findCrossHood_58 rfl rfl ?_
  refine hb_aload_n (pc := 59) (i := 0) dX4_findCrossHood_59 rfl rfl ?_
  refine hb_getIx (pc := 60) (x := hb_fI w 8 5 0) dX4_findCrossHood_60 fw_X4_141 cw_4 rfl (by decide) rfl rfl ?_
  refine hb_icmp_le (pc := 63) (tgt := 76) dX4_findCrossHood_63 (by decide) (fun c1 => ?_) (fun c1 => ?_)
  · have ht1 := h.1 c1
    refine hb_iinc (pc := 76) (v := x2 + (1 : Int32)) (ls1 := [some (hb_r 8 0 0), some (hb_i x1), some (hb_i (x2 + (1 : Int32))), some (hb_i xs0)]) dX4_findCrossHood_76 rfl rfl (by decide) rfl ?_
    refine hb_goto (pc := 79) (tgt := 23) dX4_findCrossHood_79 (by decide) ?_
    exact ht1
  · have ht1 := h.2 c1
    refine hb_aload_n (pc := 66) (i := 0) dX4_findCrossHood_66 rfl rfl ?_
    refine hb_iload_n (pc := 67) (i := 2) dX4_findCrossHood_67 rfl rfl ?_
    refine hb_putI (pc := 68) dX4_findCrossHood_68 fw_X4_134 cw_4 pw_4_4 rfl (by decide) rfl rfl rfl ?_
    refine hb_aload_n (pc := 71) (i := 0) dX4_findCrossHood_71 rfl rfl ?_
    refine hb_iload_n (pc := 72) (i := 3) dX4_findCrossHood_72 rfl rfl ?_
    refine hb_putI (pc := 73) dX4_findCrossHood_73 fw_X4_141 cw_4 pw_4_5 rfl (by decide) rfl rfl rfl ?_
    refine hb_iinc (pc := 76) (v := x2 + (1 : Int32)) (ls1 := [some (hb_r 8 0 0), some (hb_i x1), some (hb_i (x2 + (1 : Int32))), some (hb_i xs0)]) dX4_findCrossHood_76 rfl rfl (by decide) rfl ?_
    refine hb_goto (pc := 79) (tgt := 23) dX4_findCrossHood_79 (by decide) ?_
    exact ht1
theorem dX4_countTraceless_0 : decode cX4_countTraceless 0 = .ok (.iconst 0, 1) := by decide +kernel
theorem dX4_countTraceless_1 : decode cX4_countTraceless 1 = .ok (.istore_n 1, 1) := by decide +kernel
theorem dX4_countTraceless_2 : decode cX4_countTraceless 2 = .ok (.iconst 0, 1) := by decide +kernel
theorem dX4_countTraceless_3 : decode cX4_countTraceless 3 = .ok (.istore_n 2, 1) := by decide +kernel
theorem dX4_countTraceless_4 : decode cX4_countTraceless 4 = .ok (.iload_n 2, 1) := by decide +kernel
theorem dX4_countTraceless_5 : decode cX4_countTraceless 5 = .ok (.bipush 64, 2) := by decide +kernel
theorem dX4_countTraceless_7 : decode cX4_countTraceless 7 = .ok (.if_icmp .ge 23, 3) := by decide +kernel
theorem dX4_countTraceless_10 : decode cX4_countTraceless 10 = .ok (.aload_n 0, 1) := by decide +kernel
theorem dX4_countTraceless_11 : decode cX4_countTraceless 11 = .ok (.getfield 37, 3) := by decide +kernel
theorem dX4_countTraceless_14 : decode cX4_countTraceless 14 = .ok (.iload_n 2, 1) := by decide +kernel
theorem dX4_countTraceless_15 : decode cX4_countTraceless 15 = .ok (.invokevirtual 158, 3) := by decide +kernel
theorem dX4_countTraceless_18 : decode cX4_countTraceless 18 = .ok (.ifCond .eq 6, 3) := by decide +kernel
theorem dX4_countTraceless_21 : decode cX4_countTraceless 21 = .ok (.iinc 1 1, 3) := by decide +kernel
theorem dX4_countTraceless_24 : decode cX4_countTraceless 24 = .ok (.iinc 2 1, 3) := by decide +kernel
theorem dX4_countTraceless_27 : decode cX4_countTraceless 27 = .ok (.goto (-23), 3) := by decide +kernel
theorem dX4_countTraceless_30 : decode cX4_countTraceless 30 = .ok (.iload_n 1, 1) := by decide +kernel
theorem dX4_countTraceless_31 : decode cX4_countTraceless 31 = .ok (.ireturn, 1) := by decide +kernel
set_option maxRecDepth 20000 in
theorem bk_X4_countTraceless_0 {d : Nat} {w : hb_W} {Q : Option hb_V → hb_W → Prop} (h : hb_R yX4_countTraceless cX4_countTraceless 3 (some .int) (d + 1) 4 [some (hb_r 8 0 0), some (hb_i (0 : Int32)), some (hb_i (0 : Int32))] [] w Q) : hb_R yX4_countTraceless cX4_countTraceless 3 (some .int) (d + 1) 0 [some (hb_r 8 0 0), none, none] [] w Q := by
  refine hb_iconst (pc := 0) (v := 0) dX4_countTraceless_0 (by decide) ?_
  refine hb_istore_n (pc := 1) (i := 1) (ls1 := [some (hb_r 8 0 0), some (hb_i (0 : Int32)), none]) dX4_countTraceless_1 rfl (by decide) rfl ?_
  refine hb_iconst (pc := 2) (v := 0) dX4_countTraceless_2 (by decide) ?_
  refine hb_istore_n (pc := 3) (i := 2) (ls1 := [some (hb_r 8 0 0), some (hb_i (0 : Int32)), some (hb_i (0 : Int32))]) dX4_countTraceless_3 rfl (by decide) rfl ?_
  exact h
set_option maxRecDepth 20000 in
theorem bk_X4_countTraceless_4 {d : Nat} {w : hb_W} {Q : Option hb_V → hb_W → Prop} {x1 : Int32} {x2 : Int32} (h : (((64 : Int32) ≤ x2) → Q (some (hb_i x1)) w) ∧ ((¬ (64 : Int32) ≤ x2) → hb_O yX0_leavesNoTrace cX0_leavesNoTrace 3 (some .boolean) d [hb_r 9 2 0, hb_i x2] w (fun rv w1 => hb_R yX4_countTraceless cX4_countTraceless 3 (some .int) (d + 1) 18 [some (hb_r 8 0 0), some (hb_i x1), some (hb_i x2)] (rv.toList ++ []) w1 Q))) : hb_R yX4_countTraceless cX4_countTraceless 3 (some .int) (d + 1) 4 [some (hb_r 8 0 0), some (hb_i x1), some (hb_i x2)] [] w Q := by
  refine hb_iload_n (pc := 4) (i := 2) dX4_countTraceless_4 rfl rfl ?_
  refine hb_bipush (pc := 5) (v := 64) dX4_countTraceless_5 (by decide) ?_
  refine hb_icmp_ge (pc := 7) (tgt := 30) dX4_countTraceless_7 (by decide) (fun c1 => ?_) (fun c1 => ?_)
  · have ht1 := h.1 c1
    refine hb_iload_n (pc := 30) (i := 1) dX4_countTraceless_30 rfl rfl ?_
    exact hb_iret (pc := 31) dX4_countTraceless_31 rfl ht1
  · have ht1 := h.2 c1
    refine hb_aload_n (pc := 10) (i := 0) dX4_countTraceless_10 rfl rfl ?_
    refine hb_getR (pc := 11) (g1 := 2) dX4_countTraceless_11 fw_X4_37 cw_4 rfl (by decide) rfl (by decide) rfl ?_
    refine hb_iload_n (pc := 14) (i := 2) dX4_countTraceless_14 rfl rfl ?_
    exact hb_callV (pc := 15) (As := [hb_i x2]) (st := []) dX4_countTraceless_15 ml_X4_158 mf_X0_leavesNoTrace mi_X0_leavesNoTrace (ci := 0) rfl rfl (by decide) rfl rfl (Nat.le_of_ble_eq_true rfl) (Nat.le_of_ble_eq_true rfl) ht1 (fun _ _ q => q)
set_option maxRecDepth 20000 in
theorem bk_X4_countTraceless_18 {d : Nat} {w : hb_W} {Q : Option hb_V → hb_W → Prop} {x1 : Int32} {x2 : Int32} {xs0 : Int32} (h : ((xs0 = 0) → hb_R yX4_countTraceless cX4_countTraceless 3 (some .int) (d + 1) 4 [some (hb_r 8 0 0), some (hb_i x1), some (hb_i (x2 + (1 : Int32)))] [] w Q) ∧ ((¬ xs0 = 0) → hb_R yX4_countTraceless cX4_countTraceless 3 (some .int) (d + 1) 4 [some (hb_r 8 0 0), some (hb_i (x1 + (1 : Int32))), some (hb_i (x2 + (1 : Int32)))] [] w Q)) : hb_R yX4_countTraceless cX4_countTraceless 3 (some .int) (d + 1) 18 [some (hb_r 8 0 0), some (hb_i x1), some (hb_i x2)] [hb_i xs0] w Q := by
  refine hb_if_eq (pc := 18) (tgt := 24) dX4_countTraceless_18 (by decide) (fun c1 => ?_) (fun c1 => ?_)
  · have ht1 := h.1 c1
    refine hb_iinc (pc := 24) (v := x2 + (1 : Int32)) (ls1 := [some (hb_r 8 0 0), some (hb_i x1), some (hb_i (x2 + (1 : Int32)))]) dX4_countTraceless_24 rfl rfl (by decide) rfl ?_
    refine hb_goto (pc := 27) (tgt := 4) dX4_countTraceless_27 (by decide) ?_
    exact ht1
  · have ht1 := h.2 c1
    refine hb_iinc (pc := 21) (v := x1 + (1 : Int32)) (ls1 := [some (hb_r 8 0 0), some (hb_i (x1 + (1 : Int32))), some (hb_i x2)]) dX4_countTraceless_21 rfl rfl (by decide) rfl ?_
    refine hb_iinc (pc := 24) (v := x2 + (1 : Int32)) (ls1 := [some (hb_r 8 0 0), some (hb_i (x1 + (1 : Int32))), some (hb_i (x2 + (1 : Int32)))]) dX4_countTraceless_24 rfl rfl (by decide) rfl ?_
    refine hb_goto (pc := 27) (tgt := 4) dX4_countTraceless_27 (by decide) ?_
    exact ht1
theorem dX4_tracelessHood_0 : decode cX4_tracelessHood 0 = .ok (.iconst 0, 1) := by decide +kernel
theorem dX4_tracelessHood_1 : decode cX4_tracelessHood 1 = .ok (.istore_n 2, 1) := by decide +kernel
theorem dX4_tracelessHood_2 : decode cX4_tracelessHood 2 = .ok (.iconst 0, 1) := by decide +kernel
theorem dX4_tracelessHood_3 : decode cX4_tracelessHood 3 = .ok (.istore_n 3, 1) := by decide +kernel
theorem dX4_tracelessHood_4 : decode cX4_tracelessHood 4 = .ok (.iload_n 3, 1) := by decide +kernel
theorem dX4_tracelessHood_5 : decode cX4_tracelessHood 5 = .ok (.bipush 64, 2) := by decide +kernel
theorem dX4_tracelessHood_7 : decode cX4_tracelessHood 7 = .ok (.if_icmp .ge 30, 3) := by decide +kernel
theorem dX4_tracelessHood_10 : decode cX4_tracelessHood 10 = .ok (.aload_n 0, 1) := by decide +kernel
theorem dX4_tracelessHood_11 : decode cX4_tracelessHood 11 = .ok (.getfield 37, 3) := by decide +kernel
theorem dX4_tracelessHood_14 : decode cX4_tracelessHood 14 = .ok (.iload_n 3, 1) := by decide +kernel
theorem dX4_tracelessHood_15 : decode cX4_tracelessHood 15 = .ok (.invokevirtual 158, 3) := by decide +kernel
theorem dX4_tracelessHood_18 : decode cX4_tracelessHood 18 = .ok (.ifCond .eq 13, 3) := by decide +kernel
theorem dX4_tracelessHood_21 : decode cX4_tracelessHood 21 = .ok (.iload_n 2, 1) := by decide +kernel
theorem dX4_tracelessHood_22 : decode cX4_tracelessHood 22 = .ok (.iload_n 1, 1) := by decide +kernel
theorem dX4_tracelessHood_23 : decode cX4_tracelessHood 23 = .ok (.if_icmp .ne 5, 3) := by decide +kernel
theorem dX4_tracelessHood_26 : decode cX4_tracelessHood 26 = .ok (.iload_n 3, 1) := by decide +kernel
theorem dX4_tracelessHood_27 : decode cX4_tracelessHood 27 = .ok (.ireturn, 1) := by decide +kernel
theorem dX4_tracelessHood_28 : decode cX4_tracelessHood 28 = .ok (.iinc 2 1, 3) := by decide +kernel
theorem dX4_tracelessHood_31 : decode cX4_tracelessHood 31 = .ok (.iinc 3 1, 3) := by decide +kernel
theorem dX4_tracelessHood_34 : decode cX4_tracelessHood 34 = .ok (.goto (-30), 3) := by decide +kernel
theorem dX4_tracelessHood_37 : decode cX4_tracelessHood 37 = .ok (.iconst (-1), 1) := by decide +kernel
theorem dX4_tracelessHood_38 : decode cX4_tracelessHood 38 = .ok (.ireturn, 1) := by decide +kernel
set_option maxRecDepth 20000 in
theorem bk_X4_tracelessHood_0 {d : Nat} {w : hb_W} {Q : Option hb_V → hb_W → Prop} {x1 : Int32} (h : hb_R yX4_tracelessHood cX4_tracelessHood 4 (some .int) (d + 1) 4 [some (hb_r 8 0 0), some (hb_i x1), some (hb_i (0 : Int32)), some (hb_i (0 : Int32))] [] w Q) : hb_R yX4_tracelessHood cX4_tracelessHood 4 (some .int) (d + 1) 0 [some (hb_r 8 0 0), some (hb_i x1), none, none] [] w Q := by
  refine hb_iconst (pc := 0) (v := 0) dX4_tracelessHood_0 (by decide) ?_
  refine hb_istore_n (pc := 1) (i := 2) (ls1 := [some (hb_r 8 0 0), some (hb_i x1), some (hb_i (0 : Int32)), none]) dX4_tracelessHood_1 rfl (by decide) rfl ?_
  refine hb_iconst (pc := 2) (v := 0) dX4_tracelessHood_2 (by decide) ?_
  refine hb_istore_n (pc := 3) (i := 3) (ls1 := [some (hb_r 8 0 0), some (hb_i x1), some (hb_i (0 : Int32)), some (hb_i (0 : Int32))]) dX4_tracelessHood_3 rfl (by decide) rfl ?_
  exact h
set_option maxRecDepth 20000 in
theorem bk_X4_tracelessHood_4 {d : Nat} {w : hb_W} {Q : Option hb_V → hb_W → Prop} {x1 : Int32} {x2 : Int32} {x3 : Int32} (h : (((64 : Int32) ≤ x3) → Q (some (hb_i (-1 : Int32))) w) ∧ ((¬ (64 : Int32) ≤ x3) → hb_O yX0_leavesNoTrace cX0_leavesNoTrace 3 (some .boolean) d [hb_r 9 2 0, hb_i x3] w (fun rv w1 => hb_R yX4_tracelessHood cX4_tracelessHood 4 (some .int) (d + 1) 18 [some (hb_r 8 0 0), some (hb_i x1), some (hb_i x2), some (hb_i x3)] (rv.toList ++ []) w1 Q))) : hb_R yX4_tracelessHood cX4_tracelessHood 4 (some .int) (d + 1) 4 [some (hb_r 8 0 0), some (hb_i x1), some (hb_i x2), some (hb_i x3)] [] w Q := by
  refine hb_iload_n (pc := 4) (i := 3) dX4_tracelessHood_4 rfl rfl ?_
  refine hb_bipush (pc := 5) (v := 64) dX4_tracelessHood_5 (by decide) ?_
  refine hb_icmp_ge (pc := 7) (tgt := 37) dX4_tracelessHood_7 (by decide) (fun c1 => ?_) (fun c1 => ?_)
  · have ht1 := h.1 c1
    refine hb_iconst (pc := 37) (v := -1) dX4_tracelessHood_37 (by decide) ?_
    exact hb_iret (pc := 38) dX4_tracelessHood_38 rfl ht1
  · have ht1 := h.2 c1
    refine hb_aload_n (pc := 10) (i := 0) dX4_tracelessHood_10 rfl rfl ?_
    refine hb_getR (pc := 11) (g1 := 2) dX4_tracelessHood_11 fw_X4_37 cw_4 rfl (by decide) rfl (by decide) rfl ?_
    refine hb_iload_n (pc := 14) (i := 3) dX4_tracelessHood_14 rfl rfl ?_
    exact hb_callV (pc := 15) (As := [hb_i x3]) (st := []) dX4_tracelessHood_15 ml_X4_158 mf_X0_leavesNoTrace mi_X0_leavesNoTrace (ci := 0) rfl rfl (by decide) rfl rfl (Nat.le_of_ble_eq_true rfl) (Nat.le_of_ble_eq_true rfl) ht1 (fun _ _ q => q)
set_option maxRecDepth 20000 in
theorem bk_X4_tracelessHood_18 {d : Nat} {w : hb_W} {Q : Option hb_V → hb_W → Prop} {x1 : Int32} {x2 : Int32} {x3 : Int32} {xs0 : Int32} (h : ((xs0 = 0) → hb_R yX4_tracelessHood cX4_tracelessHood 4 (some .int) (d + 1) 4 [some (hb_r 8 0 0), some (hb_i x1), some (hb_i x2), some (hb_i (x3 + (1 : Int32)))] [] w Q) ∧ ((¬ xs0 = 0) → ((¬ x2 = x1) → hb_R yX4_tracelessHood cX4_tracelessHood 4 (some .int) (d + 1) 4 [some (hb_r 8 0 0), some (hb_i x1), some (hb_i (x2 + (1 : Int32))), some (hb_i (x3 + (1 : Int32)))] [] w Q) ∧ ((x2 = x1) → Q (some (hb_i x3)) w))) : hb_R yX4_tracelessHood cX4_tracelessHood 4 (some .int) (d + 1) 18 [some (hb_r 8 0 0), some (hb_i x1), some (hb_i x2), some (hb_i x3)] [hb_i xs0] w Q := by
  refine hb_if_eq (pc := 18) (tgt := 31) dX4_tracelessHood_18 (by decide) (fun c1 => ?_) (fun c1 => ?_)
  · have ht1 := h.1 c1
    refine hb_iinc (pc := 31) (v := x3 + (1 : Int32)) (ls1 := [some (hb_r 8 0 0), some (hb_i x1), some (hb_i x2), some (hb_i (x3 + (1 : Int32)))]) dX4_tracelessHood_31 rfl rfl (by decide) rfl ?_
    refine hb_goto (pc := 34) (tgt := 4) dX4_tracelessHood_34 (by decide) ?_
    exact ht1
  · have ht1 := h.2 c1
    refine hb_iload_n (pc := 21) (i := 2) dX4_tracelessHood_21 rfl rfl ?_
    refine hb_iload_n (pc := 22) (i := 1) dX4_tracelessHood_22 rfl rfl ?_
    refine hb_icmp_ne (pc := 23) (tgt := 28) dX4_tracelessHood_23 (by decide) (fun c2 => ?_) (fun c2 => ?_)
    · have ht2 := ht1.1 c2
      refine hb_iinc (pc := 28) (v := x2 + (1 : Int32)) (ls1 := [some (hb_r 8 0 0), some (hb_i x1), some (hb_i (x2 + (1 : Int32))), some (hb_i x3)]) dX4_tracelessHood_28 rfl rfl (by decide) rfl ?_
      refine hb_iinc (pc := 31) (v := x3 + (1 : Int32)) (ls1 := [some (hb_r 8 0 0), some (hb_i x1), some (hb_i (x2 + (1 : Int32))), some (hb_i (x3 + (1 : Int32)))]) dX4_tracelessHood_31 rfl rfl (by decide) rfl ?_
      refine hb_goto (pc := 34) (tgt := 4) dX4_tracelessHood_34 (by decide) ?_
      exact ht2
    · have ht2 := ht1.2 c2
      refine hb_iload_n (pc := 26) (i := 3) dX4_tracelessHood_26 rfl rfl ?_
      exact hb_iret (pc := 27) dX4_tracelessHood_27 rfl ht2
theorem dX11_feed_0 : decode cX11_feed 0 = .ok (.aload_n 0, 1) := by decide +kernel
theorem dX11_feed_1 : decode cX11_feed 1 = .ok (.getfield 10, 3) := by decide +kernel
theorem dX11_feed_4 : decode cX11_feed 4 = .ok (.getfield 97, 3) := by decide +kernel
theorem dX11_feed_7 : decode cX11_feed 7 = .ok (.bipush 20, 2) := by decide +kernel
theorem dX11_feed_9 : decode cX11_feed 9 = .ok (.iadd, 1) := by decide +kernel
theorem dX11_feed_10 : decode cX11_feed 10 = .ok (.sipush 1600, 3) := by decide +kernel
theorem dX11_feed_13 : decode cX11_feed 13 = .ok (.if_icmp .le 9, 3) := by decide +kernel
theorem dX11_feed_16 : decode cX11_feed 16 = .ok (.aload_n 0, 1) := by decide +kernel
theorem dX11_feed_17 : decode cX11_feed 17 = .ok (.iconst 0, 1) := by decide +kernel
theorem dX11_feed_18 : decode cX11_feed 18 = .ok (.invokevirtual 100, 3) := by decide +kernel
theorem dX11_feed_21 : decode cX11_feed 21 = .ok (.ireturn, 1) := by decide +kernel
theorem dX11_feed_22 : decode cX11_feed 22 = .ok (.aload_n 0, 1) := by decide +kernel
theorem dX11_feed_23 : decode cX11_feed 23 = .ok (.getfield 10, 3) := by decide +kernel
theorem dX11_feed_26 : decode cX11_feed 26 = .ok (.iload_n 1, 1) := by decide +kernel
theorem dX11_feed_27 : decode cX11_feed 27 = .ok (.invokevirtual 104, 3) := by decide +kernel
theorem dX11_feed_30 : decode cX11_feed 30 = .ok (.aload_n 0, 1) := by decide +kernel
theorem dX11_feed_31 : decode cX11_feed 31 = .ok (.getfield 10, 3) := by decide +kernel
theorem dX11_feed_34 : decode cX11_feed 34 = .ok (.iload_n 2, 1) := by decide +kernel
theorem dX11_feed_35 : decode cX11_feed 35 = .ok (.invokevirtual 104, 3) := by decide +kernel
theorem dX11_feed_38 : decode cX11_feed 38 = .ok (.aload_n 0, 1) := by decide +kernel
theorem dX11_feed_39 : decode cX11_feed 39 = .ok (.getfield 10, 3) := by decide +kernel
theorem dX11_feed_42 : decode cX11_feed 42 = .ok (.iload_n 3, 1) := by decide +kernel
theorem dX11_feed_43 : decode cX11_feed 43 = .ok (.invokevirtual 104, 3) := by decide +kernel
theorem dX11_feed_46 : decode cX11_feed 46 = .ok (.aload_n 0, 1) := by decide +kernel
theorem dX11_feed_47 : decode cX11_feed 47 = .ok (.getfield 10, 3) := by decide +kernel
theorem dX11_feed_50 : decode cX11_feed 50 = .ok (.iload 4, 2) := by decide +kernel
theorem dX11_feed_52 : decode cX11_feed 52 = .ok (.invokevirtual 104, 3) := by decide +kernel
theorem dX11_feed_55 : decode cX11_feed 55 = .ok (.aload_n 0, 1) := by decide +kernel
theorem dX11_feed_56 : decode cX11_feed 56 = .ok (.getfield 10, 3) := by decide +kernel
theorem dX11_feed_59 : decode cX11_feed 59 = .ok (.iload 5, 2) := by decide +kernel
theorem dX11_feed_61 : decode cX11_feed 61 = .ok (.invokevirtual 104, 3) := by decide +kernel
theorem dX11_feed_64 : decode cX11_feed 64 = .ok (.aload_n 0, 1) := by decide +kernel
theorem dX11_feed_65 : decode cX11_feed 65 = .ok (.getfield 10, 3) := by decide +kernel
theorem dX11_feed_68 : decode cX11_feed 68 = .ok (.getfield 97, 3) := by decide +kernel
theorem dX11_feed_71 : decode cX11_feed 71 = .ok (.ireturn, 1) := by decide +kernel
set_option maxRecDepth 20000 in
theorem bk_X11_feed_0 {d : Nat} {w : hb_W} {Q : Option hb_V → hb_W → Prop} {x1 : Int32} {x2 : Int32} {x3 : Int32} {x4 : Int32} {x5 : Int32} (h : ((((hb_fI w 1 1 0) + (20 : Int32)) ≤ (1600 : Int32)) → hb_O yX10_put cX10_put 3 none d [hb_r 1 0 0, hb_i x1] w (fun rv w1 => hb_R yX11_feed cX11_feed 6 (some .int) (d + 1) 30 [some (hb_r 0 0 0), some (hb_i x1), some (hb_i x2), some (hb_i x3), some (hb_i x4), some (hb_i x5)] (rv.toList ++ []) w1 Q)) ∧ ((¬ ((hb_fI w 1 1 0) + (20 : Int32)) ≤ (1600 : Int32)) → hb_O yX11_refuse cX11_refuse 2 (some .int) d [hb_r 0 0 0, hb_i (0 : Int32)] w (fun rv w1 => hb_R yX11_feed cX11_feed 6 (some .int) (d + 1) 21 [some (hb_r 0 0 0), some (hb_i x1), some (hb_i x2), some (hb_i x3), some (hb_i x4), some (hb_i x5)] (rv.toList ++ []) w1 Q))) : hb_R yX11_feed cX11_feed 6 (some .int) (d + 1) 0 [some (hb_r 0 0 0), some (hb_i x1), some (hb_i x2), some (hb_i x3), some (hb_i x4), some (hb_i x5)] [] w Q := by
  refine hb_aload_n (pc := 0) (i := 0) dX11_feed_0 rfl rfl ?_
  refine hb_getR (pc := 1) (g1 := 0) dX11_feed_1 fw_X11_10 cw_11 rfl (by decide) rfl (by decide) rfl ?_
  refine hb_getIx (pc := 4) (x := hb_fI w 1 1 0) dX11_feed_4 fw_X11_97 cw_10 rfl (by decide) rfl rfl ?_
  refine hb_bipush (pc := 7) (v := 20) dX11_feed_7 (by decide) ?_
  refine hb_iadd (pc := 9) dX11_feed_9 ?_
  refine hb_sipush (pc := 10) (v := 1600) dX11_feed_10 (by decide) ?_
  refine hb_icmp_le (pc := 13) (tgt := 22) dX11_feed_13 (by decide) (fun c1 => ?_) (fun c1 => ?_)
  · have ht1 := h.1 c1
    refine hb_aload_n (pc := 22) (i := 0) dX11_feed_22 rfl rfl ?_
    refine hb_getR (pc := 23) (g1 := 0) dX11_feed_23 fw_X11_10 cw_11 rfl (by decide) rfl (by decide) rfl ?_
    refine hb_iload_n (pc := 26) (i := 1) dX11_feed_26 rfl rfl ?_
    exact hb_callV (pc := 27) (As := [hb_i x1]) (st := []) dX11_feed_27 ml_X11_104 mf_X10_put mi_X10_put (ci := 10) rfl rfl (by decide) rfl rfl (Nat.le_of_ble_eq_true rfl) (Nat.le_of_ble_eq_true rfl) ht1 (fun _ _ q => q)
  · have ht1 := h.2 c1
    refine hb_aload_n (pc := 16) (i := 0) dX11_feed_16 rfl rfl ?_
    refine hb_iconst (pc := 17) (v := 0) dX11_feed_17 (by decide) ?_
    exact hb_callV (pc := 18) (As := [hb_i (0 : Int32)]) (st := []) dX11_feed_18 ml_X11_100 mf_X11_refuse mi_X11_refuse (ci := 11) rfl rfl (by decide) rfl rfl (Nat.le_of_ble_eq_true rfl) (Nat.le_of_ble_eq_true rfl) ht1 (fun _ _ q => q)
set_option maxRecDepth 20000 in
theorem bk_X11_feed_21 {d : Nat} {w : hb_W} {Q : Option hb_V → hb_W → Prop} {x1 : Int32} {x2 : Int32} {x3 : Int32} {x4 : Int32} {x5 : Int32} {xs0 : Int32} (h : Q (some (hb_i xs0)) w) : hb_R yX11_feed cX11_feed 6 (some .int) (d + 1) 21 [some (hb_r 0 0 0), some (hb_i x1), some (hb_i x2), some (hb_i x3), some (hb_i x4), some (hb_i x5)] [hb_i xs0] w Q := by
  exact hb_iret (pc := 21) dX11_feed_21 rfl h
set_option maxRecDepth 20000 in
theorem bk_X11_feed_30 {d : Nat} {w : hb_W} {Q : Option hb_V → hb_W → Prop} {x1 : Int32} {x2 : Int32} {x3 : Int32} {x4 : Int32} {x5 : Int32} (h : hb_O yX10_put cX10_put 3 none d [hb_r 1 0 0, hb_i x2] w (fun rv w1 => hb_R yX11_feed cX11_feed 6 (some .int) (d + 1) 38 [some (hb_r 0 0 0), some (hb_i x1), some (hb_i x2), some (hb_i x3), some (hb_i x4), some (hb_i x5)] (rv.toList ++ []) w1 Q)) : hb_R yX11_feed cX11_feed 6 (some .int) (d + 1) 30 [some (hb_r 0 0 0), some (hb_i x1), some (hb_i x2), some (hb_i x3), some (hb_i x4), some (hb_i x5)] [] w Q := by
  refine hb_aload_n (pc := 30) (i := 0) dX11_feed_30 rfl rfl ?_
  refine hb_getR (pc := 31) (g1 := 0) dX11_feed_31 fw_X11_10 cw_11 rfl (by decide) rfl (by decide) rfl ?_
  refine hb_iload_n (pc := 34) (i := 2) dX11_feed_34 rfl rfl ?_
  exact hb_callV (pc := 35) (As := [hb_i x2]) (st := []) dX11_feed_35 ml_X11_104 mf_X10_put mi_X10_put (ci := 10) rfl rfl (by decide) rfl rfl (Nat.le_of_ble_eq_true rfl) (Nat.le_of_ble_eq_true rfl) h (fun _ _ q => q)
set_option maxRecDepth 20000 in
theorem bk_X11_feed_38 {d : Nat} {w : hb_W} {Q : Option hb_V → hb_W → Prop} {x1 : Int32} {x2 : Int32} {x3 : Int32} {x4 : Int32} {x5 : Int32} (h : hb_O yX10_put cX10_put 3 none d [hb_r 1 0 0, hb_i x3] w (fun rv w1 => hb_R yX11_feed cX11_feed 6 (some .int) (d + 1) 46 [some (hb_r 0 0 0), some (hb_i x1), some (hb_i x2), some (hb_i x3), some (hb_i x4), some (hb_i x5)] (rv.toList ++ []) w1 Q)) : hb_R yX11_feed cX11_feed 6 (some .int) (d + 1) 38 [some (hb_r 0 0 0), some (hb_i x1), some (hb_i x2), some (hb_i x3), some (hb_i x4), some (hb_i x5)] [] w Q := by
  refine hb_aload_n (pc := 38) (i := 0) dX11_feed_38 rfl rfl ?_
  refine hb_getR (pc := 39) (g1 := 0) dX11_feed_39 fw_X11_10 cw_11 rfl (by decide) rfl (by decide) rfl ?_
  refine hb_iload_n (pc := 42) (i := 3) dX11_feed_42 rfl rfl ?_
  exact hb_callV (pc := 43) (As := [hb_i x3]) (st := []) dX11_feed_43 ml_X11_104 mf_X10_put mi_X10_put (ci := 10) rfl rfl (by decide) rfl rfl (Nat.le_of_ble_eq_true rfl) (Nat.le_of_ble_eq_true rfl) h (fun _ _ q => q)
set_option maxRecDepth 20000 in
theorem bk_X11_feed_46 {d : Nat} {w : hb_W} {Q : Option hb_V → hb_W → Prop} {x1 : Int32} {x2 : Int32} {x3 : Int32} {x4 : Int32} {x5 : Int32} (h : hb_O yX10_put cX10_put 3 none d [hb_r 1 0 0, hb_i x4] w (fun rv w1 => hb_R yX11_feed cX11_feed 6 (some .int) (d + 1) 55 [some (hb_r 0 0 0), some (hb_i x1), some (hb_i x2), some (hb_i x3), some (hb_i x4), some (hb_i x5)] (rv.toList ++ []) w1 Q)) : hb_R yX11_feed cX11_feed 6 (some .int) (d + 1) 46 [some (hb_r 0 0 0), some (hb_i x1), some (hb_i x2), some (hb_i x3), some (hb_i x4), some (hb_i x5)] [] w Q := by
  refine hb_aload_n (pc := 46) (i := 0) dX11_feed_46 rfl rfl ?_
  refine hb_getR (pc := 47) (g1 := 0) dX11_feed_47 fw_X11_10 cw_11 rfl (by decide) rfl (by decide) rfl ?_
  refine hb_iload (pc := 50) dX11_feed_50 rfl ?_
  exact hb_callV (pc := 52) (As := [hb_i x4]) (st := []) dX11_feed_52 ml_X11_104 mf_X10_put mi_X10_put (ci := 10) rfl rfl (by decide) rfl rfl (Nat.le_of_ble_eq_true rfl) (Nat.le_of_ble_eq_true rfl) h (fun _ _ q => q)
set_option maxRecDepth 20000 in
theorem bk_X11_feed_55 {d : Nat} {w : hb_W} {Q : Option hb_V → hb_W → Prop} {x1 : Int32} {x2 : Int32} {x3 : Int32} {x4 : Int32} {x5 : Int32} (h : hb_O yX10_put cX10_put 3 none d [hb_r 1 0 0, hb_i x5] w (fun rv w1 => hb_R yX11_feed cX11_feed 6 (some .int) (d + 1) 64 [some (hb_r 0 0 0), some (hb_i x1), some (hb_i x2), some (hb_i x3), some (hb_i x4), some (hb_i x5)] (rv.toList ++ []) w1 Q)) : hb_R yX11_feed cX11_feed 6 (some .int) (d + 1) 55 [some (hb_r 0 0 0), some (hb_i x1), some (hb_i x2), some (hb_i x3), some (hb_i x4), some (hb_i x5)] [] w Q := by
  refine hb_aload_n (pc := 55) (i := 0) dX11_feed_55 rfl rfl ?_
  refine hb_getR (pc := 56) (g1 := 0) dX11_feed_56 fw_X11_10 cw_11 rfl (by decide) rfl (by decide) rfl ?_
  refine hb_iload (pc := 59) dX11_feed_59 rfl ?_
  exact hb_callV (pc := 61) (As := [hb_i x5]) (st := []) dX11_feed_61 ml_X11_104 mf_X10_put mi_X10_put (ci := 10) rfl rfl (by decide) rfl rfl (Nat.le_of_ble_eq_true rfl) (Nat.le_of_ble_eq_true rfl) h (fun _ _ q => q)
set_option maxRecDepth 20000 in
theorem bk_X11_feed_64 {d : Nat} {w : hb_W} {Q : Option hb_V → hb_W → Prop} {x1 : Int32} {x2 : Int32} {x3 : Int32} {x4 : Int32} {x5 : Int32} (h : Q (some (hb_i (hb_fI w 1 1 0))) w) : hb_R yX11_feed cX11_feed 6 (some .int) (d + 1) 64 [some (hb_r 0 0 0), some (hb_i x1), some (hb_i x2), some (hb_i x3), some (hb_i x4), some (hb_i x5)] [] w Q := by
  refine hb_aload_n (pc := 64) (i := 0) dX11_feed_64 rfl rfl ?_
  refine hb_getR (pc := 65) (g1 := 0) dX11_feed_65 fw_X11_10 cw_11 rfl (by decide) rfl (by decide) rfl ?_
  refine hb_getIx (pc := 68) (x := hb_fI w 1 1 0) dX11_feed_68 fw_X11_97 cw_10 rfl (by decide) rfl rfl ?_
  exact hb_iret (pc := 71) dX11_feed_71 rfl h
theorem dX11_end_0 : decode cX11_end 0 = .ok (.iload_n 1, 1) := by decide +kernel
theorem dX11_end_1 : decode cX11_end 1 = .ok (.ifCond .lt 14, 3) := by decide +kernel
theorem dX11_end_4 : decode cX11_end 4 = .ok (.iload_n 1, 1) := by decide +kernel
theorem dX11_end_5 : decode cX11_end 5 = .ok (.aload_n 0, 1) := by decide +kernel
theorem dX11_end_6 : decode cX11_end 6 = .ok (.getfield 10, 3) := by decide +kernel
theorem dX11_end_9 : decode cX11_end 9 = .ok (.getfield 97, 3) := by decide +kernel
theorem dX11_end_12 : decode cX11_end 12 = .ok (.if_icmp .le 11, 3) := by decide +kernel
theorem dX11_end_15 : decode cX11_end 15 = .ok (.aload_n 0, 1) := by decide +kernel
theorem dX11_end_16 : decode cX11_end 16 = .ok (.iconst 0, 1) := by decide +kernel
theorem dX11_end_17 : decode cX11_end 17 = .ok (.invokevirtual 100, 3) := by decide +kernel
theorem dX11_end_20 : decode cX11_end 20 = .ok (.pop, 1) := by decide +kernel
theorem dX11_end_21 : decode cX11_end 21 = .ok (.iconst 0, 1) := by decide +kernel
theorem dX11_end_22 : decode cX11_end 22 = .ok (.ireturn, 1) := by decide +kernel
theorem dX11_end_23 : decode cX11_end 23 = .ok (.aload_n 0, 1) := by decide +kernel
theorem dX11_end_24 : decode cX11_end 24 = .ok (.getfield 10, 3) := by decide +kernel
theorem dX11_end_27 : decode cX11_end 27 = .ok (.iload_n 1, 1) := by decide +kernel
theorem dX11_end_28 : decode cX11_end 28 = .ok (.putfield 97, 3) := by decide +kernel
theorem dX11_end_31 : decode cX11_end 31 = .ok (.iconst 1, 1) := by decide +kernel
theorem dX11_end_32 : decode cX11_end 32 = .ok (.ireturn, 1) := by decide +kernel
set_option maxRecDepth 20000 in
theorem bk_X11_end_0 {d : Nat} {w : hb_W} {Q : Option hb_V → hb_W → Prop} {x1 : Int32} (h : ((x1 < 0) → hb_O yX11_refuse cX11_refuse 2 (some .int) d [hb_r 0 0 0, hb_i (0 : Int32)] w (fun rv w1 => hb_R yX11_end cX11_end 2 (some .boolean) (d + 1) 20 [some (hb_r 0 0 0), some (hb_i x1)] (rv.toList ++ []) w1 Q)) ∧ ((¬ x1 < 0) → ((x1 ≤ (hb_fI w 1 1 0)) → Q (some (hb_i (1 : Int32))) (hb_pI w 1 1 0 x1)) ∧ ((¬ x1 ≤ (hb_fI w 1 1 0)) → hb_O yX11_refuse cX11_refuse 2 (some .int) d [hb_r 0 0 0, hb_i (0 : Int32)] w (fun rv w1 => hb_R yX11_end cX11_end 2 (some .boolean) (d + 1) 20 [some (hb_r 0 0 0), some (hb_i x1)] (rv.toList ++ []) w1 Q)))) : hb_R yX11_end cX11_end 2 (some .boolean) (d + 1) 0 [some (hb_r 0 0 0), some (hb_i x1)] [] w Q := by
  refine hb_iload_n (pc := 0) (i := 1) dX11_end_0 rfl rfl ?_
  refine hb_if_lt (pc := 1) (tgt := 15) dX11_end_1 (by decide) (fun c1 => ?_) (fun c1 => ?_)
  · have ht1 := h.1 c1
    refine hb_aload_n (pc := 15) (i := 0) dX11_end_15 rfl rfl ?_
    refine hb_iconst (pc := 16) (v := 0) dX11_end_16 (by decide) ?_
    exact hb_callV (pc := 17) (As := [hb_i (0 : Int32)]) (st := []) dX11_end_17 ml_X11_100 mf_X11_refuse mi_X11_refuse (ci := 11) rfl rfl (by decide) rfl rfl (Nat.le_of_ble_eq_true rfl) (Nat.le_of_ble_eq_true rfl) ht1 (fun _ _ q => q)
  · have ht1 := h.2 c1
    refine hb_iload_n (pc := 4) (i := 1) dX11_end_4 rfl rfl ?_
    refine hb_aload_n (pc := 5) (i := 0) dX11_end_5 rfl rfl ?_
    refine hb_getR (pc := 6) (g1 := 0) dX11_end_6 fw_X11_10 cw_11 rfl (by decide) rfl (by decide) rfl ?_
    refine hb_getIx (pc := 9) (x := hb_fI w 1 1 0) dX11_end_9 fw_X11_97 cw_10 rfl (by decide) rfl rfl ?_
    refine hb_icmp_le (pc := 12) (tgt := 23) dX11_end_12 (by decide) (fun c2 => ?_) (fun c2 => ?_)
    · have ht2 := ht1.1 c2
      refine hb_aload_n (pc := 23) (i := 0) dX11_end_23 rfl rfl ?_
      refine hb_getR (pc := 24) (g1 := 0) dX11_end_24 fw_X11_10 cw_11 rfl (by decide) rfl (by decide) rfl ?_
      refine hb_iload_n (pc := 27) (i := 1) dX11_end_27 rfl rfl ?_
      refine hb_putI (pc := 28) dX11_end_28 fw_X11_97 cw_10 pw_10_1 rfl (by decide) rfl rfl rfl ?_
      refine hb_iconst (pc := 31) (v := 1) dX11_end_31 (by decide) ?_
      exact hb_zret (pc := 32) dX11_end_32 rfl (Or.inr rfl) ht2
    · have ht2 := ht1.2 c2
      refine hb_aload_n (pc := 15) (i := 0) dX11_end_15 rfl rfl ?_
      refine hb_iconst (pc := 16) (v := 0) dX11_end_16 (by decide) ?_
      exact hb_callV (pc := 17) (As := [hb_i (0 : Int32)]) (st := []) dX11_end_17 ml_X11_100 mf_X11_refuse mi_X11_refuse (ci := 11) rfl rfl (by decide) rfl rfl (Nat.le_of_ble_eq_true rfl) (Nat.le_of_ble_eq_true rfl) ht2 (fun _ _ q => q)
set_option maxRecDepth 20000 in
theorem bk_X11_end_20 {d : Nat} {w : hb_W} {Q : Option hb_V → hb_W → Prop} {x1 : Int32} {xs0 : Int32} (h : Q (some (hb_i (0 : Int32))) w) : hb_R yX11_end cX11_end 2 (some .boolean) (d + 1) 20 [some (hb_r 0 0 0), some (hb_i x1)] [hb_i xs0] w Q := by
  refine hb_pop (pc := 20) dX11_end_20 ?_
  refine hb_iconst (pc := 21) (v := 0) dX11_end_21 (by decide) ?_
  exact hb_zret (pc := 22) dX11_end_22 rfl (Or.inl rfl) h
theorem dX11_open_0 : decode cX11_open 0 = .ok (.aload_n 0, 1) := by decide +kernel
theorem dX11_open_1 : decode cX11_open 1 = .ok (.getfield 33, 3) := by decide +kernel
theorem dX11_open_4 : decode cX11_open 4 = .ok (.aload_n 0, 1) := by decide +kernel
theorem dX11_open_5 : decode cX11_open 5 = .ok (.getfield 83, 3) := by decide +kernel
theorem dX11_open_8 : decode cX11_open 8 = .ok (.invokevirtual 108, 3) := by decide +kernel
theorem dX11_open_11 : decode cX11_open 11 = .ok (.istore_n 1, 1) := by decide +kernel
theorem dX11_open_12 : decode cX11_open 12 = .ok (.aload_n 0, 1) := by decide +kernel
theorem dX11_open_13 : decode cX11_open 13 = .ok (.getfield 10, 3) := by decide +kernel
theorem dX11_open_16 : decode cX11_open 16 = .ok (.iconst 0, 1) := by decide +kernel
theorem dX11_open_17 : decode cX11_open 17 = .ok (.putfield 97, 3) := by decide +kernel
theorem dX11_open_20 : decode cX11_open 20 = .ok (.aload_n 0, 1) := by decide +kernel
theorem dX11_open_21 : decode cX11_open 21 = .ok (.invokevirtual 112, 3) := by decide +kernel
theorem dX11_open_24 : decode cX11_open 24 = .ok (.iload_n 1, 1) := by decide +kernel
theorem dX11_open_25 : decode cX11_open 25 = .ok (.ifCond .ne 9, 3) := by decide +kernel
theorem dX11_open_28 : decode cX11_open 28 = .ok (.aload_n 0, 1) := by decide +kernel
theorem dX11_open_29 : decode cX11_open 29 = .ok (.iconst 1, 1) := by decide +kernel
theorem dX11_open_30 : decode cX11_open 30 = .ok (.invokevirtual 100, 3) := by decide +kernel
theorem dX11_open_33 : decode cX11_open 33 = .ok (.ireturn, 1) := by decide +kernel
theorem dX11_open_34 : decode cX11_open 34 = .ok (.aload_n 0, 1) := by decide +kernel
theorem dX11_open_35 : decode cX11_open 35 = .ok (.getfield 79, 3) := by decide +kernel
theorem dX11_open_38 : decode cX11_open 38 = .ok (.astore_n 2, 1) := by decide +kernel
theorem dX11_open_39 : decode cX11_open 39 = .ok (.aload_n 0, 1) := by decide +kernel
theorem dX11_open_40 : decode cX11_open 40 = .ok (.aload_n 0, 1) := by decide +kernel
theorem dX11_open_41 : decode cX11_open 41 = .ok (.getfield 83, 3) := by decide +kernel
theorem dX11_open_44 : decode cX11_open 44 = .ok (.putfield 79, 3) := by decide +kernel
theorem dX11_open_47 : decode cX11_open 47 = .ok (.aload_n 0, 1) := by decide +kernel
theorem dX11_open_48 : decode cX11_open 48 = .ok (.aload_n 2, 1) := by decide +kernel
theorem dX11_open_49 : decode cX11_open 49 = .ok (.putfield 83, 3) := by decide +kernel
theorem dX11_open_52 : decode cX11_open 52 = .ok (.aload_n 0, 1) := by decide +kernel
theorem dX11_open_53 : decode cX11_open 53 = .ok (.iconst 1, 1) := by decide +kernel
theorem dX11_open_54 : decode cX11_open 54 = .ok (.putfield 86, 3) := by decide +kernel
theorem dX11_open_57 : decode cX11_open 57 = .ok (.aload_n 0, 1) := by decide +kernel
theorem dX11_open_58 : decode cX11_open 58 = .ok (.getfield 52, 3) := by decide +kernel
theorem dX11_open_61 : decode cX11_open 61 = .ok (.aload_n 0, 1) := by decide +kernel
theorem dX11_open_62 : decode cX11_open 62 = .ok (.getfield 79, 3) := by decide +kernel
theorem dX11_open_65 : decode cX11_open 65 = .ok (.getfield 115, 3) := by decide +kernel
theorem dX11_open_68 : decode cX11_open 68 = .ok (.invokevirtual 118, 3) := by decide +kernel
theorem dX11_open_71 : decode cX11_open 71 = .ok (.aload_n 0, 1) := by decide +kernel
theorem dX11_open_72 : decode cX11_open 72 = .ok (.getfield 61, 3) := by decide +kernel
theorem dX11_open_75 : decode cX11_open 75 = .ok (.invokevirtual 121, 3) := by decide +kernel
theorem dX11_open_78 : decode cX11_open 78 = .ok (.aload_n 0, 1) := by decide +kernel
theorem dX11_open_79 : decode cX11_open 79 = .ok (.getfield 79, 3) := by decide +kernel
theorem dX11_open_82 : decode cX11_open 82 = .ok (.getfield 124, 3) := by decide +kernel
theorem dX11_open_85 : decode cX11_open 85 = .ok (.ireturn, 1) := by decide +kernel
set_option maxRecDepth 20000 in
theorem bk_X11_open_0 {d : Nat} {w : hb_W} {Q : Option hb_V → hb_W → Prop} (h : hb_O yX2_readNight cX2_readNight 3 (some .boolean) d [hb_r 4 0 0, hb_r 11 (hb_fR w 0 9 0) 0] w (fun rv w1 => hb_R yX11_open cX11_open 3 (some .int) (d + 1) 11 [some (hb_r 0 0 0), none, none] (rv.toList ++ []) w1 Q)) : hb_R yX11_open cX11_open 3 (some .int) (d + 1) 0 [some (hb_r 0 0 0), none, none] [] w Q := by
  refine hb_aload_n (pc := 0) (i := 0) dX11_open_0 rfl rfl ?_
  refine hb_getR (pc := 1) (g1 := 0) dX11_open_1 fw_X11_33 cw_11 rfl (by decide) rfl (by decide) rfl ?_
  refine hb_aload_n (pc := 4) (i := 0) dX11_open_4 rfl rfl ?_
  refine hb_getR (pc := 5) (g1 := hb_fR w 0 9 0) dX11_open_5 fw_X11_83 cw_11 rfl (by decide) rfl (by decide) rfl ?_
  exact hb_callV (pc := 8) (As := [hb_r 11 (hb_fR w 0 9 0) 0]) (st := []) dX11_open_8 ml_X11_108 mf_X2_readNight mi_X2_readNight (ci := 2) rfl rfl (by decide) rfl rfl (Nat.le_of_ble_eq_true rfl) (Nat.le_of_ble_eq_true rfl) h (fun _ _ q => q)
set_option maxRecDepth 20000 in
theorem bk_X11_open_11 {d : Nat} {w : hb_W} {Q : Option hb_V → hb_W → Prop} {xs0 : Int32} (h : hb_O yX11_keepFault cX11_keepFault 1 none d [hb_r 0 0 0] (hb_pI w 1 1 0 (0 : Int32)) (fun rv w1 => hb_R yX11_open cX11_open 3 (some .int) (d + 1) 24 [some (hb_r 0 0 0), some (hb_i xs0), none] (rv.toList ++ []) w1 Q)) : hb_R yX11_open cX11_open 3 (some .int) (d + 1) 11 [some (hb_r 0 0 0), none, none] [hb_i xs0] w Q := by
  refine hb_istore_n (pc := 11) (i := 1) (ls1 := [some (hb_r 0 0 0), some (hb_i xs0), none]) dX11_open_11 rfl (by decide) rfl ?_
  refine hb_aload_n (pc := 12) (i := 0) dX11_open_12 rfl rfl ?_
  refine hb_getR (pc := 13) (g1 := 0) dX11_open_13 fw_X11_10 cw_11 rfl (by decide) rfl (by decide) rfl ?_
  refine hb_iconst (pc := 16) (v := 0) dX11_open_16 (by decide) ?_
  refine hb_putI (pc := 17) dX11_open_17 fw_X11_97 cw_10 pw_10_1 rfl (by decide) rfl rfl rfl ?_
  refine hb_aload_n (pc := 20) (i := 0) dX11_open_20 rfl rfl ?_
  exact hb_callV (pc := 21) (As := []) (st := []) dX11_open_21 ml_X11_112 mf_X11_keepFault mi_X11_keepFault (ci := 11) rfl rfl (by decide) rfl rfl (Nat.le_of_ble_eq_true rfl) (Nat.le_of_ble_eq_true rfl) h (fun _ _ q => q)
set_option maxRecDepth 20000 in
theorem bk_X11_open_24 {d : Nat} {w : hb_W} {Q : Option hb_V → hb_W → Prop} {x1 : Int32} (h : ((¬ x1 = 0) → (hb_fR w 0 9 0) < hb_ct 11 ∧ (hb_O yX8_restart cX8_restart 2 none d [hb_r 7 0 0, hb_i (hb_fI w 11 3 (hb_fR w 0 9 0))] (hb_pI (hb_pR (hb_pR w 0 8 0 (hb_fR w 0 9 0)) 0 9 0 (hb_fR w 0 8 0)) 0 10 0 (1 : Int32)) (fun rv w1 => hb_R yX11_open cX11_open 3 (some .int) (d + 1) 71 [some (hb_r 0 0 0), some (hb_i x1), some (hb_r 11 (hb_fR w 0 8 0) 0)] (rv.toList ++ []) w1 Q))) ∧ ((x1 = 0) → hb_O yX11_refuse cX11_refuse 2 (some .int) d [hb_r 0 0 0, hb_i (1 : Int32)] w (fun rv w1 => hb_R yX11_open cX11_open 3 (some .int) (d + 1) 33 [some (hb_r 0 0 0), some (hb_i x1), none] (rv.toList ++ []) w1 Q))) : hb_R yX11_open cX11_open 3 (some .int) (d + 1) 24 [some (hb_r 0 0 0), some (hb_i x1), none] [] w Q := by
  refine hb_iload_n (pc := 24) (i := 1) dX11_open_24 rfl rfl ?_
  refine hb_if_ne (pc := 25) (tgt := 34) dX11_open_25 (by decide) (fun c1 => ?_) (fun c1 => ?_)
  · have ht1 := h.1 c1
    refine hb_aload_n (pc := 34) (i := 0) dX11_open_34 rfl rfl ?_
    refine hb_getR (pc := 35) (g1 := hb_fR w 0 8 0) dX11_open_35 fw_X11_79 cw_11 rfl (by decide) rfl (by decide) rfl ?_
    refine hb_astore_n (pc := 38) (i := 2) (ls1 := [some (hb_r 0 0 0), some (hb_i x1), some (hb_r 11 (hb_fR w 0 8 0) 0)]) dX11_open_38 rfl (by decide) rfl ?_
    refine hb_aload_n (pc := 39) (i := 0) dX11_open_39 rfl rfl ?_
    refine hb_aload_n (pc := 40) (i := 0) dX11_open_40 rfl rfl ?_
    refine hb_getR (pc := 41) (g1 := hb_fR w 0 9 0) dX11_open_41 fw_X11_83 cw_11 rfl (by decide) rfl (by decide) rfl ?_
    refine hb_putR (pc := 44) dX11_open_44 fw_X11_79 cw_11 pw_11_8 rfl (by decide) rfl ?_
    refine hb_aload_n (pc := 47) (i := 0) dX11_open_47 rfl rfl ?_
    refine hb_aload_n (pc := 48) (i := 2) dX11_open_48 rfl rfl ?_
    refine hb_putR (pc := 49) dX11_open_49 fw_X11_83 cw_11 pw_11_9 rfl (by decide) rfl ?_
    refine hb_aload_n (pc := 52) (i := 0) dX11_open_52 rfl rfl ?_
    refine hb_iconst (pc := 53) (v := 1) dX11_open_53 (by decide) ?_
    refine hb_putI (pc := 54) dX11_open_54 fw_X11_86 cw_11 pw_11_10 rfl (by decide) rfl rfl rfl ?_
    refine hb_aload_n (pc := 57) (i := 0) dX11_open_57 rfl rfl ?_
    refine hb_getR (pc := 58) (g1 := 0) dX11_open_58 fw_X11_52 cw_11 rfl (by decide) rfl (by decide) rfl ?_
    refine hb_aload_n (pc := 61) (i := 0) dX11_open_61 rfl rfl ?_
    refine hb_getR (pc := 62) (g1 := hb_fR w 0 9 0) dX11_open_62 fw_X11_79 cw_11 rfl (by decide) rfl (by decide) rfl ?_
    obtain ⟨ho2, hr2⟩ := ht1
    refine hb_getIx (pc := 65) (x := hb_fI w 11 3 (hb_fR w 0 9 0)) dX11_open_65 fw_X11_115 cw_6 rfl ho2 rfl (by simp [hb_fI, hb_fL, hb_fR, hb_aI, hb_aL, hb_pI, hb_pL, hb_pR, hb_sI, hb_sL, hb_u3]) ?_
    exact hb_callV (pc := 68) (As := [hb_i (hb_fI w 11 3 (hb_fR w 0 9 0))]) (st := []) dX11_open_68 ml_X11_118 mf_X8_restart mi_X8_restart (ci := 8) rfl rfl (by decide) rfl rfl (Nat.le_of_ble_eq_true rfl) (Nat.le_of_ble_eq_true rfl) hr2 (fun _ _ q => q)
  · have ht1 := h.2 c1
    refine hb_aload_n (pc := 28) (i := 0) dX11_open_28 rfl rfl ?_
    refine hb_iconst (pc := 29) (v := 1) dX11_open_29 (by decide) ?_
    exact hb_callV (pc := 30) (As := [hb_i (1 : Int32)]) (st := []) dX11_open_30 ml_X11_100 mf_X11_refuse mi_X11_refuse (ci := 11) rfl rfl (by decide) rfl rfl (Nat.le_of_ble_eq_true rfl) (Nat.le_of_ble_eq_true rfl) ht1 (fun _ _ q => q)
set_option maxRecDepth 20000 in
theorem bk_X11_open_33 {d : Nat} {w : hb_W} {Q : Option hb_V → hb_W → Prop} {x1 : Int32} {xs0 : Int32} (h : Q (some (hb_i xs0)) w) : hb_R yX11_open cX11_open 3 (some .int) (d + 1) 33 [some (hb_r 0 0 0), some (hb_i x1), none] [hb_i xs0] w Q := by
  exact hb_iret (pc := 33) dX11_open_33 rfl h
set_option maxRecDepth 20000 in
theorem bk_X11_open_71 {d : Nat} {w : hb_W} {Q : Option hb_V → hb_W → Prop} {x1 : Int32} {g2 : Nat} (hg2 : g2 < hb_ct 11) (h : hb_O yX4_forget cX4_forget 1 none d [hb_r 8 0 0] w (fun rv w1 => hb_R yX11_open cX11_open 3 (some .int) (d + 1) 78 [some (hb_r 0 0 0), some (hb_i x1), some (hb_r 11 g2 0)] (rv.toList ++ []) w1 Q)) : hb_R yX11_open cX11_open 3 (some .int) (d + 1) 71 [some (hb_r 0 0 0), some (hb_i x1), some (hb_r 11 g2 0)] [] w Q := by
  refine hb_aload_n (pc := 71) (i := 0) dX11_open_71 rfl rfl ?_
  refine hb_getR (pc := 72) (g1 := 0) dX11_open_72 fw_X11_61 cw_11 rfl (by decide) rfl (by decide) rfl ?_
  exact hb_callV (pc := 75) (As := []) (st := []) dX11_open_75 ml_X11_121 mf_X4_forget mi_X4_forget (ci := 4) rfl rfl (by decide) rfl rfl (Nat.le_of_ble_eq_true rfl) (Nat.le_of_ble_eq_true rfl) h (fun _ _ q => q)
set_option maxRecDepth 20000 in
theorem bk_X11_open_78 {d : Nat} {w : hb_W} {Q : Option hb_V → hb_W → Prop} {x1 : Int32} {g2 : Nat} (hg2 : g2 < hb_ct 11) (h : (hb_fR w 0 8 0) < hb_ct 11 ∧ (Q (some (hb_i (hb_fI w 11 0 (hb_fR w 0 8 0)))) w)) : hb_R yX11_open cX11_open 3 (some .int) (d + 1) 78 [some (hb_r 0 0 0), some (hb_i x1), some (hb_r 11 g2 0)] [] w Q := by
  refine hb_aload_n (pc := 78) (i := 0) dX11_open_78 rfl rfl ?_
  refine hb_getR (pc := 79) (g1 := hb_fR w 0 8 0) dX11_open_79 fw_X11_79 cw_11 rfl (by decide) rfl (by decide) rfl ?_
  obtain ⟨ho1, hr1⟩ := h
  refine hb_getIx (pc := 82) (x := hb_fI w 11 0 (hb_fR w 0 8 0)) dX11_open_82 fw_X11_124 cw_6 rfl ho1 rfl rfl ?_
  exact hb_iret (pc := 85) dX11_open_85 rfl hr1
theorem dX11_fault_0 : decode cX11_fault 0 = .ok (.iload_n 1, 1) := by decide +kernel
theorem dX11_fault_1 : decode cX11_fault 1 = .ok (.lookupswitch 37 #[(0, 27), (1, 32)], 27) := by decide +kernel
theorem dX11_fault_28 : decode cX11_fault 28 = .ok (.aload_n 0, 1) := by decide +kernel
theorem dX11_fault_29 : decode cX11_fault 29 = .ok (.getfield 90, 3) := by decide +kernel
theorem dX11_fault_32 : decode cX11_fault 32 = .ok (.ireturn, 1) := by decide +kernel
theorem dX11_fault_33 : decode cX11_fault 33 = .ok (.aload_n 0, 1) := by decide +kernel
theorem dX11_fault_34 : decode cX11_fault 34 = .ok (.getfield 94, 3) := by decide +kernel
theorem dX11_fault_37 : decode cX11_fault 37 = .ok (.ireturn, 1) := by decide +kernel
theorem dX11_fault_38 : decode cX11_fault 38 = .ok (.iconst (-1), 1) := by decide +kernel
theorem dX11_fault_39 : decode cX11_fault 39 = .ok (.ireturn, 1) := by decide +kernel
set_option maxRecDepth 20000 in
theorem bk_X11_fault_0 {d : Nat} {w : hb_W} {Q : Option hb_V → hb_W → Prop} {x1 : Int32} (h : (x1 = (0 : Int32) → Q (some (hb_i (hb_fI w 0 11 0))) w) ∧ (x1 = (1 : Int32) → Q (some (hb_i (hb_fI w 0 12 0))) w) ∧ (¬ x1 = (0 : Int32) → ¬ x1 = (1 : Int32) → Q (some (hb_i (-1 : Int32))) w)) : hb_R yX11_fault cX11_fault 2 (some .int) d 0 [some (hb_r 0 0 0), some (hb_i x1)] [] w Q := by
  refine hb_iload_n (pc := 0) (i := 1) dX11_fault_0 rfl rfl ?_
  by_cases e1_0 : x1 = (0 : Int32)
  · have hk1_0 := h.1 e1_0
    have ei : x1.toInt = 0 := by rw [e1_0]; rfl
    refine hb_look (pc := 1) (tgt := 28) (off := 27) dX11_fault_1 (by decide +kernel) (by rw [ei]; decide +kernel) (by decide) ?_
    refine hb_aload_n (pc := 28) (i := 0) dX11_fault_28 rfl rfl ?_
    refine hb_getIx (pc := 29) (x := hb_fI w 0 11 0) dX11_fault_29 fw_X11_90 cw_11 rfl (by decide) rfl rfl ?_
    exact hb_iret (pc := 32) dX11_fault_32 rfl hk1_0
  by_cases e1_1 : x1 = (1 : Int32)
  · have hk1_1 := h.2.1 e1_1
    have ei : x1.toInt = 1 := by rw [e1_1]; rfl
    refine hb_look (pc := 1) (tgt := 33) (off := 32) dX11_fault_1 (by decide +kernel) (by rw [ei]; decide +kernel) (by decide) ?_
    refine hb_aload_n (pc := 33) (i := 0) dX11_fault_33 rfl rfl ?_
    refine hb_getIx (pc := 34) (x := hb_fI w 0 12 0) dX11_fault_34 fw_X11_94 cw_11 rfl (by decide) rfl rfl ?_
    exact hb_iret (pc := 37) dX11_fault_37 rfl hk1_1
  have hk1_d := h.2.2 e1_0 e1_1
  refine hb_look (pc := 1) (tgt := 38) (off := 37) dX11_fault_1 (by decide +kernel) (by show Op.lookupswitch.offset [(0, 27), (1, 32)] _ _ = _; rw [lv_osw (k := (0 : Int32)) (a := 0) e1_0 (by decide), lv_osw (k := (1 : Int32)) (a := 1) e1_1 (by decide)]; rfl) (by decide) ?_
  refine hb_iconst (pc := 38) (v := -1) dX11_fault_38 (by decide) ?_
  exact hb_iret (pc := 39) dX11_fault_39 rfl hk1_d
theorem dX11_has_0 : decode cX11_has 0 = .ok (.iload_n 1, 1) := by decide +kernel
theorem dX11_has_1 : decode cX11_has 1 = .ok (.tableswitch 108 0 7 #[47, 55, 63, 71, 79, 87, 95, 100], 47) := by decide +kernel
theorem dX11_has_48 : decode cX11_has 48 = .ok (.aload_n 0, 1) := by decide +kernel
theorem dX11_has_49 : decode cX11_has 49 = .ok (.getfield 79, 3) := by decide +kernel
theorem dX11_has_52 : decode cX11_has 52 = .ok (.getfield 127, 3) := by decide +kernel
theorem dX11_has_55 : decode cX11_has 55 = .ok (.ireturn, 1) := by decide +kernel
theorem dX11_has_56 : decode cX11_has 56 = .ok (.aload_n 0, 1) := by decide +kernel
theorem dX11_has_57 : decode cX11_has 57 = .ok (.getfield 79, 3) := by decide +kernel
theorem dX11_has_60 : decode cX11_has 60 = .ok (.getfield 130, 3) := by decide +kernel
theorem dX11_has_63 : decode cX11_has 63 = .ok (.ireturn, 1) := by decide +kernel
theorem dX11_has_64 : decode cX11_has 64 = .ok (.aload_n 0, 1) := by decide +kernel
theorem dX11_has_65 : decode cX11_has 65 = .ok (.getfield 79, 3) := by decide +kernel
theorem dX11_has_68 : decode cX11_has 68 = .ok (.getfield 133, 3) := by decide +kernel
theorem dX11_has_71 : decode cX11_has 71 = .ok (.ireturn, 1) := by decide +kernel
theorem dX11_has_72 : decode cX11_has 72 = .ok (.aload_n 0, 1) := by decide +kernel
theorem dX11_has_73 : decode cX11_has 73 = .ok (.getfield 79, 3) := by decide +kernel
theorem dX11_has_76 : decode cX11_has 76 = .ok (.invokevirtual 136, 3) := by decide +kernel
theorem dX11_has_79 : decode cX11_has 79 = .ok (.ireturn, 1) := by decide +kernel
theorem dX11_has_80 : decode cX11_has 80 = .ok (.aload_n 0, 1) := by decide +kernel
theorem dX11_has_81 : decode cX11_has 81 = .ok (.getfield 52, 3) := by decide +kernel
theorem dX11_has_84 : decode cX11_has 84 = .ok (.getfield 140, 3) := by decide +kernel
theorem dX11_has_87 : decode cX11_has 87 = .ok (.ireturn, 1) := by decide +kernel
theorem dX11_has_88 : decode cX11_has 88 = .ok (.aload_n 0, 1) := by decide +kernel
theorem dX11_has_89 : decode cX11_has 89 = .ok (.getfield 52, 3) := by decide +kernel
theorem dX11_has_92 : decode cX11_has 92 = .ok (.getfield 141, 3) := by decide +kernel
theorem dX11_has_95 : decode cX11_has 95 = .ok (.ireturn, 1) := by decide +kernel
theorem dX11_has_96 : decode cX11_has 96 = .ok (.aload_n 0, 1) := by decide +kernel
theorem dX11_has_97 : decode cX11_has 97 = .ok (.invokevirtual 144, 3) := by decide +kernel
theorem dX11_has_100 : decode cX11_has 100 = .ok (.ireturn, 1) := by decide +kernel
theorem dX11_has_101 : decode cX11_has 101 = .ok (.aload_n 0, 1) := by decide +kernel
theorem dX11_has_102 : decode cX11_has 102 = .ok (.getfield 52, 3) := by decide +kernel
theorem dX11_has_105 : decode cX11_has 105 = .ok (.getfield 147, 3) := by decide +kernel
theorem dX11_has_108 : decode cX11_has 108 = .ok (.ireturn, 1) := by decide +kernel
theorem dX11_has_109 : decode cX11_has 109 = .ok (.iconst (-1), 1) := by decide +kernel
theorem dX11_has_110 : decode cX11_has 110 = .ok (.ireturn, 1) := by decide +kernel
set_option maxRecDepth 20000 in
theorem bk_X11_has_0 {d : Nat} {w : hb_W} {Q : Option hb_V → hb_W → Prop} {x1 : Int32} (h : (x1 = (0 : Int32) → (hb_fR w 0 8 0) < hb_ct 11 ∧ (Q (some (hb_i (hb_fI w 11 1 (hb_fR w 0 8 0)))) w)) ∧ (x1 = (1 : Int32) → (hb_fR w 0 8 0) < hb_ct 11 ∧ (Q (some (hb_i (hb_fI w 11 2 (hb_fR w 0 8 0)))) w)) ∧ (x1 = (2 : Int32) → (hb_fR w 0 8 0) < hb_ct 11 ∧ (Q (some (hb_i (hb_fI w 11 4 (hb_fR w 0 8 0)))) w)) ∧ (x1 = (3 : Int32) → (hb_fR w 0 8 0) < hb_ct 11 ∧ (hb_O yX6_passesToCome cX6_passesToCome 3 (some .int) d [hb_r 11 (hb_fR w 0 8 0) 0] w (fun rv w1 => hb_R yX11_has cX11_has 2 (some .int) (d + 1) 79 [some (hb_r 0 0 0), some (hb_i x1)] (rv.toList ++ []) w1 Q))) ∧ (x1 = (4 : Int32) → Q (some (hb_i (hb_fI w 7 4 0))) w) ∧ (x1 = (5 : Int32) → Q (some (hb_i (hb_fI w 7 3 0))) w) ∧ (x1 = (6 : Int32) → hb_O yX11_unlikePassed cX11_unlikePassed 1 (some .int) d [hb_r 0 0 0] w (fun rv w1 => hb_R yX11_has cX11_has 2 (some .int) (d + 1) 100 [some (hb_r 0 0 0), some (hb_i x1)] (rv.toList ++ []) w1 Q)) ∧ (x1 = (7 : Int32) → Q (some (hb_i (hb_fI w 7 7 0))) w) ∧ (¬ x1 = (0 : Int32) → ¬ x1 = (1 : Int32) → ¬ x1 = (2 : Int32) → ¬ x1 = (3 : Int32) → ¬ x1 = (4 : Int32) → ¬ x1 = (5 : Int32) → ¬ x1 = (6 : Int32) → ¬ x1 = (7 : Int32) → Q (some (hb_i (-1 : Int32))) w)) : hb_R yX11_has cX11_has 2 (some .int) (d + 1) 0 [some (hb_r 0 0 0), some (hb_i x1)] [] w Q := by
  refine hb_iload_n (pc := 0) (i := 1) dX11_has_0 rfl rfl ?_
  by_cases e1_0 : x1 = (0 : Int32)
  · have hk1_0 := h.1 e1_0
    have ei : x1.toInt = 0 := by rw [e1_0]; rfl
    refine hb_tabIn (pc := 1) (tgt := 48) (off := 47) dX11_has_1 (by rw [ei]; decide) (by rw [ei]; decide) (by rw [ei]; rfl) (by decide) ?_
    refine hb_aload_n (pc := 48) (i := 0) dX11_has_48 rfl rfl ?_
    refine hb_getR (pc := 49) (g1 := hb_fR w 0 8 0) dX11_has_49 fw_X11_79 cw_11 rfl (by decide) rfl (by decide) rfl ?_
    obtain ⟨ho2, hr2⟩ := hk1_0
    refine hb_getIx (pc := 52) (x := hb_fI w 11 1 (hb_fR w 0 8 0)) dX11_has_52 fw_X11_127 cw_6 rfl ho2 rfl rfl ?_
    exact hb_iret (pc := 55) dX11_has_55 rfl hr2
  by_cases e1_1 : x1 = (1 : Int32)
  · have hk1_1 := h.2.1 e1_1
    have ei : x1.toInt = 1 := by rw [e1_1]; rfl
    refine hb_tabIn (pc := 1) (tgt := 56) (off := 55) dX11_has_1 (by rw [ei]; decide) (by rw [ei]; decide) (by rw [ei]; rfl) (by decide) ?_
    refine hb_aload_n (pc := 56) (i := 0) dX11_has_56 rfl rfl ?_
    refine hb_getR (pc := 57) (g1 := hb_fR w 0 8 0) dX11_has_57 fw_X11_79 cw_11 rfl (by decide) rfl (by decide) rfl ?_
    obtain ⟨ho3, hr3⟩ := hk1_1
    refine hb_getIx (pc := 60) (x := hb_fI w 11 2 (hb_fR w 0 8 0)) dX11_has_60 fw_X11_130 cw_6 rfl ho3 rfl rfl ?_
    exact hb_iret (pc := 63) dX11_has_63 rfl hr3
  by_cases e1_2 : x1 = (2 : Int32)
  · have hk1_2 := h.2.2.1 e1_2
    have ei : x1.toInt = 2 := by rw [e1_2]; rfl
    refine hb_tabIn (pc := 1) (tgt := 64) (off := 63) dX11_has_1 (by rw [ei]; decide) (by rw [ei]; decide) (by rw [ei]; rfl) (by decide) ?_
    refine hb_aload_n (pc := 64) (i := 0) dX11_has_64 rfl rfl ?_
    refine hb_getR (pc := 65) (g1 := hb_fR w 0 8 0) dX11_has_65 fw_X11_79 cw_11 rfl (by decide) rfl (by decide) rfl ?_
    obtain ⟨ho4, hr4⟩ := hk1_2
    refine hb_getIx (pc := 68) (x := hb_fI w 11 4 (hb_fR w 0 8 0)) dX11_has_68 fw_X11_133 cw_6 rfl ho4 rfl rfl ?_
    exact hb_iret (pc := 71) dX11_has_71 rfl hr4
  by_cases e1_3 : x1 = (3 : Int32)
  · have hk1_3 := h.2.2.2.1 e1_3
    have ei : x1.toInt = 3 := by rw [e1_3]; rfl
    refine hb_tabIn (pc := 1) (tgt := 72) (off := 71) dX11_has_1 (by rw [ei]; decide) (by rw [ei]; decide) (by rw [ei]; rfl) (by decide) ?_
    refine hb_aload_n (pc := 72) (i := 0) dX11_has_72 rfl rfl ?_
    refine hb_getR (pc := 73) (g1 := hb_fR w 0 8 0) dX11_has_73 fw_X11_79 cw_11 rfl (by decide) rfl (by decide) rfl ?_
    obtain ⟨ho5, hr5⟩ := hk1_3
    exact hb_callV (pc := 76) (As := []) (st := []) dX11_has_76 ml_X11_136 mf_X6_passesToCome mi_X6_passesToCome (ci := 6) rfl rfl ho5 rfl rfl (Nat.le_of_ble_eq_true rfl) (Nat.le_of_ble_eq_true rfl) hr5 (fun _ _ q => q)
  by_cases e1_4 : x1 = (4 : Int32)
  · have hk1_4 := h.2.2.2.2.1 e1_4
    have ei : x1.toInt = 4 := by rw [e1_4]; rfl
    refine hb_tabIn (pc := 1) (tgt := 80) (off := 79) dX11_has_1 (by rw [ei]; decide) (by rw [ei]; decide) (by rw [ei]; rfl) (by decide) ?_
    refine hb_aload_n (pc := 80) (i := 0) dX11_has_80 rfl rfl ?_
    refine hb_getR (pc := 81) (g1 := 0) dX11_has_81 fw_X11_52 cw_11 rfl (by decide) rfl (by decide) rfl ?_
    refine hb_getIx (pc := 84) (x := hb_fI w 7 4 0) dX11_has_84 fw_X11_140 cw_8 rfl (by decide) rfl rfl ?_
    exact hb_iret (pc := 87) dX11_has_87 rfl hk1_4
  by_cases e1_5 : x1 = (5 : Int32)
  · have hk1_5 := h.2.2.2.2.2.1 e1_5
    have ei : x1.toInt = 5 := by rw [e1_5]; rfl
    refine hb_tabIn (pc := 1) (tgt := 88) (off := 87) dX11_has_1 (by rw [ei]; decide) (by rw [ei]; decide) (by rw [ei]; rfl) (by decide) ?_
    refine hb_aload_n (pc := 88) (i := 0) dX11_has_88 rfl rfl ?_
    refine hb_getR (pc := 89) (g1 := 0) dX11_has_89 fw_X11_52 cw_11 rfl (by decide) rfl (by decide) rfl ?_
    refine hb_getIx (pc := 92) (x := hb_fI w 7 3 0) dX11_has_92 fw_X11_141 cw_8 rfl (by decide) rfl rfl ?_
    exact hb_iret (pc := 95) dX11_has_95 rfl hk1_5
  by_cases e1_6 : x1 = (6 : Int32)
  · have hk1_6 := h.2.2.2.2.2.2.1 e1_6
    have ei : x1.toInt = 6 := by rw [e1_6]; rfl
    refine hb_tabIn (pc := 1) (tgt := 96) (off := 95) dX11_has_1 (by rw [ei]; decide) (by rw [ei]; decide) (by rw [ei]; rfl) (by decide) ?_
    refine hb_aload_n (pc := 96) (i := 0) dX11_has_96 rfl rfl ?_
    exact hb_callV (pc := 97) (As := []) (st := []) dX11_has_97 ml_X11_144 mf_X11_unlikePassed mi_X11_unlikePassed (ci := 11) rfl rfl (by decide) rfl rfl (Nat.le_of_ble_eq_true rfl) (Nat.le_of_ble_eq_true rfl) hk1_6 (fun _ _ q => q)
  by_cases e1_7 : x1 = (7 : Int32)
  · have hk1_7 := h.2.2.2.2.2.2.2.1 e1_7
    have ei : x1.toInt = 7 := by rw [e1_7]; rfl
    refine hb_tabIn (pc := 1) (tgt := 101) (off := 100) dX11_has_1 (by rw [ei]; decide) (by rw [ei]; decide) (by rw [ei]; rfl) (by decide) ?_
    refine hb_aload_n (pc := 101) (i := 0) dX11_has_101 rfl rfl ?_
    refine hb_getR (pc := 102) (g1 := 0) dX11_has_102 fw_X11_52 cw_11 rfl (by decide) rfl (by decide) rfl ?_
    refine hb_getIx (pc := 105) (x := hb_fI w 7 7 0) dX11_has_105 fw_X11_147 cw_8 rfl (by decide) rfl rfl ?_
    exact hb_iret (pc := 108) dX11_has_108 rfl hk1_7
  have hk1_d := h.2.2.2.2.2.2.2.2 e1_0 e1_1 e1_2 e1_3 e1_4 e1_5 e1_6 e1_7
  have n1_0 := lv_neT (a := 0) e1_0 rfl
  have n1_1 := lv_neT (a := 1) e1_1 rfl
  have n1_2 := lv_neT (a := 2) e1_2 rfl
  have n1_3 := lv_neT (a := 3) e1_3 rfl
  have n1_4 := lv_neT (a := 4) e1_4 rfl
  have n1_5 := lv_neT (a := 5) e1_5 rfl
  have n1_6 := lv_neT (a := 6) e1_6 rfl
  have n1_7 := lv_neT (a := 7) e1_7 rfl
  refine hb_tabOut (pc := 1) (tgt := 109) dX11_has_1 (by omega) (by decide) ?_
  refine hb_iconst (pc := 109) (v := -1) dX11_has_109 (by decide) ?_
  exact hb_iret (pc := 110) dX11_has_110 rfl hk1_d
set_option maxRecDepth 20000 in
theorem bk_X11_has_79 {d : Nat} {w : hb_W} {Q : Option hb_V → hb_W → Prop} {x1 : Int32} {xs0 : Int32} (h : Q (some (hb_i xs0)) w) : hb_R yX11_has cX11_has 2 (some .int) (d + 1) 79 [some (hb_r 0 0 0), some (hb_i x1)] [hb_i xs0] w Q := by
  exact hb_iret (pc := 79) dX11_has_79 rfl h
set_option maxRecDepth 20000 in
theorem bk_X11_has_100 {d : Nat} {w : hb_W} {Q : Option hb_V → hb_W → Prop} {x1 : Int32} {xs0 : Int32} (h : Q (some (hb_i xs0)) w) : hb_R yX11_has cX11_has 2 (some .int) (d + 1) 100 [some (hb_r 0 0 0), some (hb_i x1)] [hb_i xs0] w Q := by
  exact hb_iret (pc := 100) dX11_has_100 rfl h
theorem dX11_mark_0 : decode cX11_mark 0 = .ok (.aload_n 0, 1) := by decide +kernel
theorem dX11_mark_1 : decode cX11_mark 1 = .ok (.getfield 86, 3) := by decide +kernel
theorem dX11_mark_4 : decode cX11_mark 4 = .ok (.ifCond .ne 5, 3) := by decide +kernel
theorem dX11_mark_7 : decode cX11_mark 7 = .ok (.iconst (-1), 1) := by decide +kernel
theorem dX11_mark_8 : decode cX11_mark 8 = .ok (.ireturn, 1) := by decide +kernel
theorem dX11_mark_9 : decode cX11_mark 9 = .ok (.aload_n 0, 1) := by decide +kernel
theorem dX11_mark_10 : decode cX11_mark 10 = .ok (.getfield 61, 3) := by decide +kernel
theorem dX11_mark_13 : decode cX11_mark 13 = .ok (.aload_n 0, 1) := by decide +kernel
theorem dX11_mark_14 : decode cX11_mark 14 = .ok (.getfield 79, 3) := by decide +kernel
theorem dX11_mark_17 : decode cX11_mark 17 = .ok (.aload_n 0, 1) := by decide +kernel
theorem dX11_mark_18 : decode cX11_mark 18 = .ok (.getfield 52, 3) := by decide +kernel
theorem dX11_mark_21 : decode cX11_mark 21 = .ok (.invokevirtual 150, 3) := by decide +kernel
theorem dX11_mark_24 : decode cX11_mark 24 = .ok (.iload_n 1, 1) := by decide +kernel
theorem dX11_mark_25 : decode cX11_mark 25 = .ok (.invokestatic 154, 3) := by decide +kernel
theorem dX11_mark_28 : decode cX11_mark 28 = .ok (.ifCond .eq 25, 3) := by decide +kernel
theorem dX11_mark_31 : decode cX11_mark 31 = .ok (.iload_n 2, 1) := by decide +kernel
theorem dX11_mark_32 : decode cX11_mark 32 = .ok (.invokestatic 158, 3) := by decide +kernel
theorem dX11_mark_35 : decode cX11_mark 35 = .ok (.ifCond .eq 18, 3) := by decide +kernel
theorem dX11_mark_38 : decode cX11_mark 38 = .ok (.aload_n 0, 1) := by decide +kernel
theorem dX11_mark_39 : decode cX11_mark 39 = .ok (.getfield 61, 3) := by decide +kernel
theorem dX11_mark_42 : decode cX11_mark 42 = .ok (.getfield 161, 3) := by decide +kernel
theorem dX11_mark_45 : decode cX11_mark 45 = .ok (.iload_n 1, 1) := by decide +kernel
theorem dX11_mark_46 : decode cX11_mark 46 = .ok (.iload_n 2, 1) := by decide +kernel
theorem dX11_mark_47 : decode cX11_mark 47 = .ok (.invokevirtual 165, 3) := by decide +kernel
theorem dX11_mark_50 : decode cX11_mark 50 = .ok (.goto 4, 3) := by decide +kernel
theorem dX11_mark_53 : decode cX11_mark 53 = .ok (.iconst (-1), 1) := by decide +kernel
theorem dX11_mark_54 : decode cX11_mark 54 = .ok (.ireturn, 1) := by decide +kernel
set_option maxRecDepth 20000 in
theorem bk_X11_mark_0 {d : Nat} {w : hb_W} {Q : Option hb_V → hb_W → Prop} {x1 : Int32} {x2 : Int32} (h : ((¬ (hb_fI w 0 10 0) = 0) → hb_O yX4_bringUp cX4_bringUp 5 none d [hb_r 8 0 0, hb_r 11 (hb_fR w 0 8 0) 0, hb_r 7 0 0] w (fun rv w1 => hb_R yX11_mark cX11_mark 3 (some .int) (d + 1) 24 [some (hb_r 0 0 0), some (hb_i x1), some (hb_i x2)] (rv.toList ++ []) w1 Q)) ∧ (((hb_fI w 0 10 0) = 0) → Q (some (hb_i (-1 : Int32))) w)) : hb_R yX11_mark cX11_mark 3 (some .int) (d + 1) 0 [some (hb_r 0 0 0), some (hb_i x1), some (hb_i x2)] [] w Q := by
  refine hb_aload_n (pc := 0) (i := 0) dX11_mark_0 rfl rfl ?_
  refine hb_getIx (pc := 1) (x := hb_fI w 0 10 0) dX11_mark_1 fw_X11_86 cw_11 rfl (by decide) rfl rfl ?_
  refine hb_if_ne (pc := 4) (tgt := 9) dX11_mark_4 (by decide) (fun c1 => ?_) (fun c1 => ?_)
  · have ht1 := h.1 c1
    refine hb_aload_n (pc := 9) (i := 0) dX11_mark_9 rfl rfl ?_
    refine hb_getR (pc := 10) (g1 := 0) dX11_mark_10 fw_X11_61 cw_11 rfl (by decide) rfl (by decide) rfl ?_
    refine hb_aload_n (pc := 13) (i := 0) dX11_mark_13 rfl rfl ?_
    refine hb_getR (pc := 14) (g1 := hb_fR w 0 8 0) dX11_mark_14 fw_X11_79 cw_11 rfl (by decide) rfl (by decide) rfl ?_
    refine hb_aload_n (pc := 17) (i := 0) dX11_mark_17 rfl rfl ?_
    refine hb_getR (pc := 18) (g1 := 0) dX11_mark_18 fw_X11_52 cw_11 rfl (by decide) rfl (by decide) rfl ?_
    exact hb_callV (pc := 21) (As := [hb_r 11 (hb_fR w 0 8 0) 0, hb_r 7 0 0]) (st := []) dX11_mark_21 ml_X11_150 mf_X4_bringUp mi_X4_bringUp (ci := 4) rfl rfl (by decide) rfl rfl (Nat.le_of_ble_eq_true rfl) (Nat.le_of_ble_eq_true rfl) ht1 (fun _ _ q => q)
  · have ht1 := h.2 c1
    refine hb_iconst (pc := 7) (v := -1) dX11_mark_7 (by decide) ?_
    exact hb_iret (pc := 8) dX11_mark_8 rfl ht1
set_option maxRecDepth 20000 in
theorem bk_X11_mark_24 {d : Nat} {w : hb_W} {Q : Option hb_V → hb_W → Prop} {x1 : Int32} {x2 : Int32} (h : hb_O yX11_isHood cX11_isHood 1 (some .boolean) d [hb_i x1] w (fun rv w1 => hb_R yX11_mark cX11_mark 3 (some .int) (d + 1) 28 [some (hb_r 0 0 0), some (hb_i x1), some (hb_i x2)] (rv.toList ++ []) w1 Q)) : hb_R yX11_mark cX11_mark 3 (some .int) (d + 1) 24 [some (hb_r 0 0 0), some (hb_i x1), some (hb_i x2)] [] w Q := by
  refine hb_iload_n (pc := 24) (i := 1) dX11_mark_24 rfl rfl ?_
  exact hb_callS (pc := 25) (As := [hb_i x1]) (st := []) dX11_mark_25 ml_X11_154 mf_X11_isHood ms_X11_isHood rfl rfl (Nat.le_of_ble_eq_true rfl) (Nat.le_of_ble_eq_true rfl) h (fun _ _ q => q)
set_option maxRecDepth 20000 in
theorem bk_X11_mark_28 {d : Nat} {w : hb_W} {Q : Option hb_V → hb_W → Prop} {x1 : Int32} {x2 : Int32} {xs0 : Int32} (h : ((xs0 = 0) → Q (some (hb_i (-1 : Int32))) w) ∧ ((¬ xs0 = 0) → hb_O yX11_isLine cX11_isLine 1 (some .boolean) d [hb_i x2] w (fun rv w1 => hb_R yX11_mark cX11_mark 3 (some .int) (d + 1) 35 [some (hb_r 0 0 0), some (hb_i x1), some (hb_i x2)] (rv.toList ++ []) w1 Q))) : hb_R yX11_mark cX11_mark 3 (some .int) (d + 1) 28 [some (hb_r 0 0 0), some (hb_i x1), some (hb_i x2)] [hb_i xs0] w Q := by
  refine hb_if_eq (pc := 28) (tgt := 53) dX11_mark_28 (by decide) (fun c1 => ?_) (fun c1 => ?_)
  · have ht1 := h.1 c1
    refine hb_iconst (pc := 53) (v := -1) dX11_mark_53 (by decide) ?_
    exact hb_iret (pc := 54) dX11_mark_54 rfl ht1
  · have ht1 := h.2 c1
    refine hb_iload_n (pc := 31) (i := 2) dX11_mark_31 rfl rfl ?_
    exact hb_callS (pc := 32) (As := [hb_i x2]) (st := []) dX11_mark_32 ml_X11_158 mf_X11_isLine ms_X11_isLine rfl rfl (Nat.le_of_ble_eq_true rfl) (Nat.le_of_ble_eq_true rfl) ht1 (fun _ _ q => q)
set_option maxRecDepth 20000 in
theorem bk_X11_mark_35 {d : Nat} {w : hb_W} {Q : Option hb_V → hb_W → Prop} {x1 : Int32} {x2 : Int32} {xs0 : Int32} (h : ((xs0 = 0) → Q (some (hb_i (-1 : Int32))) w) ∧ ((¬ xs0 = 0) → hb_O yX5_of cX5_of 4 (some .int) d [hb_r 5 0 0, hb_i x1, hb_i x2] w (fun rv w1 => hb_R yX11_mark cX11_mark 3 (some .int) (d + 1) 50 [some (hb_r 0 0 0), some (hb_i x1), some (hb_i x2)] (rv.toList ++ []) w1 Q))) : hb_R yX11_mark cX11_mark 3 (some .int) (d + 1) 35 [some (hb_r 0 0 0), some (hb_i x1), some (hb_i x2)] [hb_i xs0] w Q := by
  refine hb_if_eq (pc := 35) (tgt := 53) dX11_mark_35 (by decide) (fun c1 => ?_) (fun c1 => ?_)
  · have ht1 := h.1 c1
    refine hb_iconst (pc := 53) (v := -1) dX11_mark_53 (by decide) ?_
    exact hb_iret (pc := 54) dX11_mark_54 rfl ht1
  · have ht1 := h.2 c1
    refine hb_aload_n (pc := 38) (i := 0) dX11_mark_38 rfl rfl ?_
    refine hb_getR (pc := 39) (g1 := 0) dX11_mark_39 fw_X11_61 cw_11 rfl (by decide) rfl (by decide) rfl ?_
    refine hb_getR (pc := 42) (g1 := 0) dX11_mark_42 fw_X11_161 cw_4 rfl (by decide) rfl (by decide) rfl ?_
    refine hb_iload_n (pc := 45) (i := 1) dX11_mark_45 rfl rfl ?_
    refine hb_iload_n (pc := 46) (i := 2) dX11_mark_46 rfl rfl ?_
    exact hb_callV (pc := 47) (As := [hb_i x1, hb_i x2]) (st := []) dX11_mark_47 ml_X11_165 mf_X5_of mi_X5_of (ci := 5) rfl rfl (by decide) rfl rfl (Nat.le_of_ble_eq_true rfl) (Nat.le_of_ble_eq_true rfl) ht1 (fun _ _ q => q)
set_option maxRecDepth 20000 in
theorem bk_X11_mark_50 {d : Nat} {w : hb_W} {Q : Option hb_V → hb_W → Prop} {x1 : Int32} {x2 : Int32} {xs0 : Int32} (h : Q (some (hb_i xs0)) w) : hb_R yX11_mark cX11_mark 3 (some .int) (d + 1) 50 [some (hb_r 0 0 0), some (hb_i x1), some (hb_i x2)] [hb_i xs0] w Q := by
  refine hb_goto (pc := 50) (tgt := 54) dX11_mark_50 (by decide) ?_
  exact hb_iret (pc := 54) dX11_mark_54 rfl h
theorem dX11_passed_0 : decode cX11_passed 0 = .ok (.iload_n 1, 1) := by decide +kernel
theorem dX11_passed_1 : decode cX11_passed 1 = .ok (.ifCond .lt 14, 3) := by decide +kernel
theorem dX11_passed_4 : decode cX11_passed 4 = .ok (.iload_n 1, 1) := by decide +kernel
theorem dX11_passed_5 : decode cX11_passed 5 = .ok (.aload_n 0, 1) := by decide +kernel
theorem dX11_passed_6 : decode cX11_passed 6 = .ok (.getfield 52, 3) := by decide +kernel
theorem dX11_passed_9 : decode cX11_passed 9 = .ok (.getfield 141, 3) := by decide +kernel
theorem dX11_passed_12 : decode cX11_passed 12 = .ok (.if_icmp .lt 5, 3) := by decide +kernel
theorem dX11_passed_15 : decode cX11_passed 15 = .ok (.iconst (-1), 1) := by decide +kernel
theorem dX11_passed_16 : decode cX11_passed 16 = .ok (.ireturn, 1) := by decide +kernel
theorem dX11_passed_17 : decode cX11_passed 17 = .ok (.iload_n 2, 1) := by decide +kernel
theorem dX11_passed_18 : decode cX11_passed 18 = .ok (.tableswitch 56 0 2 #[26, 36, 46], 26) := by decide +kernel
theorem dX11_passed_44 : decode cX11_passed 44 = .ok (.aload_n 0, 1) := by decide +kernel
theorem dX11_passed_45 : decode cX11_passed 45 = .ok (.getfield 52, 3) := by decide +kernel
theorem dX11_passed_48 : decode cX11_passed 48 = .ok (.getfield 169, 3) := by decide +kernel
theorem dX11_passed_51 : decode cX11_passed 51 = .ok (.iload_n 1, 1) := by decide +kernel
theorem dX11_passed_52 : decode cX11_passed 52 = .ok (.iaload, 1) := by decide +kernel
theorem dX11_passed_53 : decode cX11_passed 53 = .ok (.ireturn, 1) := by decide +kernel
theorem dX11_passed_54 : decode cX11_passed 54 = .ok (.aload_n 0, 1) := by decide +kernel
theorem dX11_passed_55 : decode cX11_passed 55 = .ok (.getfield 52, 3) := by decide +kernel
theorem dX11_passed_58 : decode cX11_passed 58 = .ok (.getfield 172, 3) := by decide +kernel
theorem dX11_passed_61 : decode cX11_passed 61 = .ok (.iload_n 1, 1) := by decide +kernel
theorem dX11_passed_62 : decode cX11_passed 62 = .ok (.iaload, 1) := by decide +kernel
theorem dX11_passed_63 : decode cX11_passed 63 = .ok (.ireturn, 1) := by decide +kernel
theorem dX11_passed_64 : decode cX11_passed 64 = .ok (.aload_n 0, 1) := by decide +kernel
theorem dX11_passed_65 : decode cX11_passed 65 = .ok (.getfield 52, 3) := by decide +kernel
theorem dX11_passed_68 : decode cX11_passed 68 = .ok (.getfield 175, 3) := by decide +kernel
theorem dX11_passed_71 : decode cX11_passed 71 = .ok (.iload_n 1, 1) := by decide +kernel
theorem dX11_passed_72 : decode cX11_passed 72 = .ok (.iaload, 1) := by decide +kernel
theorem dX11_passed_73 : decode cX11_passed 73 = .ok (.ireturn, 1) := by decide +kernel
theorem dX11_passed_74 : decode cX11_passed 74 = .ok (.iconst (-1), 1) := by decide +kernel
theorem dX11_passed_75 : decode cX11_passed 75 = .ok (.ireturn, 1) := by decide +kernel
set_option maxRecDepth 20000 in
theorem bk_X11_passed_0 {d : Nat} {w : hb_W} {Q : Option hb_V → hb_W → Prop} {x1 : Int32} {x2 : Int32} (h : ((x1 < 0) → Q (some (hb_i (-1 : Int32))) w) ∧ ((¬ x1 < 0) → ((x1 < (hb_fI w 7 3 0)) → (x2 = (0 : Int32) → vp_in x1 400 ∧ (Q (some (hb_i (hb_aI w 7 1 0 x1.toNatClampNeg))) w)) ∧ (x2 = (1 : Int32) → vp_in x1 400 ∧ (Q (some (hb_i (hb_aI w 7 2 0 x1.toNatClampNeg))) w)) ∧ (x2 = (2 : Int32) → vp_in x1 400 ∧ (Q (some (hb_i (hb_aI w 7 3 0 x1.toNatClampNeg))) w)) ∧ (¬ x2 = (0 : Int32) → ¬ x2 = (1 : Int32) → ¬ x2 = (2 : Int32) → Q (some (hb_i (-1 : Int32))) w)) ∧ ((¬ x1 < (hb_fI w 7 3 0)) → Q (some (hb_i (-1 : Int32))) w))) : hb_R yX11_passed cX11_passed 3 (some .int) d 0 [some (hb_r 0 0 0), some (hb_i x1), some (hb_i x2)] [] w Q := by
  refine hb_iload_n (pc := 0) (i := 1) dX11_passed_0 rfl rfl ?_
  refine hb_if_lt (pc := 1) (tgt := 15) dX11_passed_1 (by decide) (fun c1 => ?_) (fun c1 => ?_)
  · have ht1 := h.1 c1
    refine hb_iconst (pc := 15) (v := -1) dX11_passed_15 (by decide) ?_
    exact hb_iret (pc := 16) dX11_passed_16 rfl ht1
  · have ht1 := h.2 c1
    refine hb_iload_n (pc := 4) (i := 1) dX11_passed_4 rfl rfl ?_
    refine hb_aload_n (pc := 5) (i := 0) dX11_passed_5 rfl rfl ?_
    refine hb_getR (pc := 6) (g1 := 0) dX11_passed_6 fw_X11_52 cw_11 rfl (by decide) rfl (by decide) rfl ?_
    refine hb_getIx (pc := 9) (x := hb_fI w 7 3 0) dX11_passed_9 fw_X11_141 cw_8 rfl (by decide) rfl rfl ?_
    refine hb_icmp_lt (pc := 12) (tgt := 17) dX11_passed_12 (by decide) (fun c2 => ?_) (fun c2 => ?_)
    · have ht2 := ht1.1 c2
      refine hb_iload_n (pc := 17) (i := 2) dX11_passed_17 rfl rfl ?_
      by_cases e3_0 : x2 = (0 : Int32)
      · have hk3_0 := ht2.1 e3_0
        have ei : x2.toInt = 0 := by rw [e3_0]; rfl
        refine hb_tabIn (pc := 18) (tgt := 44) (off := 26) dX11_passed_18 (by rw [ei]; decide) (by rw [ei]; decide) (by rw [ei]; rfl) (by decide) ?_
        refine hb_aload_n (pc := 44) (i := 0) dX11_passed_44 rfl rfl ?_
        refine hb_getR (pc := 45) (g1 := 0) dX11_passed_45 fw_X11_52 cw_11 rfl (by decide) rfl (by decide) rfl ?_
        refine hb_getR (pc := 48) (g1 := 0) dX11_passed_48 fw_X11_169 cw_8 rfl (by decide) rfl (by decide) rfl ?_
        refine hb_iload_n (pc := 51) (i := 1) dX11_passed_51 rfl rfl ?_
        obtain ⟨ho4, hr4⟩ := hk3_0
        refine hb_ialdx (pc := 52) (x := hb_aI w 7 1 0 x1.toNatClampNeg) dX11_passed_52 rfl (by decide) ho4 rfl ?_
        exact hb_iret (pc := 53) dX11_passed_53 rfl hr4
      by_cases e3_1 : x2 = (1 : Int32)
      · have hk3_1 := ht2.2.1 e3_1
        have ei : x2.toInt = 1 := by rw [e3_1]; rfl
        refine hb_tabIn (pc := 18) (tgt := 54) (off := 36) dX11_passed_18 (by rw [ei]; decide) (by rw [ei]; decide) (by rw [ei]; rfl) (by decide) ?_
        refine hb_aload_n (pc := 54) (i := 0) dX11_passed_54 rfl rfl ?_
        refine hb_getR (pc := 55) (g1 := 0) dX11_passed_55 fw_X11_52 cw_11 rfl (by decide) rfl (by decide) rfl ?_
        refine hb_getR (pc := 58) (g1 := 0) dX11_passed_58 fw_X11_172 cw_8 rfl (by decide) rfl (by decide) rfl ?_
        refine hb_iload_n (pc := 61) (i := 1) dX11_passed_61 rfl rfl ?_
        obtain ⟨ho5, hr5⟩ := hk3_1
        refine hb_ialdx (pc := 62) (x := hb_aI w 7 2 0 x1.toNatClampNeg) dX11_passed_62 rfl (by decide) ho5 rfl ?_
        exact hb_iret (pc := 63) dX11_passed_63 rfl hr5
      by_cases e3_2 : x2 = (2 : Int32)
      · have hk3_2 := ht2.2.2.1 e3_2
        have ei : x2.toInt = 2 := by rw [e3_2]; rfl
        refine hb_tabIn (pc := 18) (tgt := 64) (off := 46) dX11_passed_18 (by rw [ei]; decide) (by rw [ei]; decide) (by rw [ei]; rfl) (by decide) ?_
        refine hb_aload_n (pc := 64) (i := 0) dX11_passed_64 rfl rfl ?_
        refine hb_getR (pc := 65) (g1 := 0) dX11_passed_65 fw_X11_52 cw_11 rfl (by decide) rfl (by decide) rfl ?_
        refine hb_getR (pc := 68) (g1 := 0) dX11_passed_68 fw_X11_175 cw_8 rfl (by decide) rfl (by decide) rfl ?_
        refine hb_iload_n (pc := 71) (i := 1) dX11_passed_71 rfl rfl ?_
        obtain ⟨ho6, hr6⟩ := hk3_2
        refine hb_ialdx (pc := 72) (x := hb_aI w 7 3 0 x1.toNatClampNeg) dX11_passed_72 rfl (by decide) ho6 rfl ?_
        exact hb_iret (pc := 73) dX11_passed_73 rfl hr6
      have hk3_d := ht2.2.2.2 e3_0 e3_1 e3_2
      have n3_0 := lv_neT (a := 0) e3_0 rfl
      have n3_1 := lv_neT (a := 1) e3_1 rfl
      have n3_2 := lv_neT (a := 2) e3_2 rfl
      refine hb_tabOut (pc := 18) (tgt := 74) dX11_passed_18 (by omega) (by decide) ?_
      refine hb_iconst (pc := 74) (v := -1) dX11_passed_74 (by decide) ?_
      exact hb_iret (pc := 75) dX11_passed_75 rfl hk3_d
    · have ht2 := ht1.2 c2
      refine hb_iconst (pc := 15) (v := -1) dX11_passed_15 (by decide) ?_
      exact hb_iret (pc := 16) dX11_passed_16 rfl ht2
theorem dX11_least_0 : decode cX11_least 0 = .ok (.aload_n 0, 1) := by decide +kernel
theorem dX11_least_1 : decode cX11_least 1 = .ok (.iload_n 1, 1) := by decide +kernel
theorem dX11_least_2 : decode cX11_least 2 = .ok (.invokevirtual 178, 3) := by decide +kernel
theorem dX11_least_5 : decode cX11_least 5 = .ok (.astore_n 3, 1) := by decide +kernel
theorem dX11_least_6 : decode cX11_least 6 = .ok (.aload_n 3, 1) := by decide +kernel
theorem dX11_least_7 : decode cX11_least 7 = .ok (.ifnull 15, 3) := by decide +kernel
theorem dX11_least_10 : decode cX11_least 10 = .ok (.iload_n 2, 1) := by decide +kernel
theorem dX11_least_11 : decode cX11_least 11 = .ok (.ifCond .lt 11, 3) := by decide +kernel
theorem dX11_least_14 : decode cX11_least 14 = .ok (.iload_n 2, 1) := by decide +kernel
theorem dX11_least_15 : decode cX11_least 15 = .ok (.aload_n 3, 1) := by decide +kernel
theorem dX11_least_16 : decode cX11_least 16 = .ok (.getfield 182, 3) := by decide +kernel
theorem dX11_least_19 : decode cX11_least 19 = .ok (.if_icmp .lt 7, 3) := by decide +kernel
theorem dX11_least_22 : decode cX11_least 22 = .ok (.iconst (-1), 1) := by decide +kernel
theorem dX11_least_23 : decode cX11_least 23 = .ok (.goto 9, 3) := by decide +kernel
theorem dX11_least_26 : decode cX11_least 26 = .ok (.aload_n 3, 1) := by decide +kernel
theorem dX11_least_27 : decode cX11_least 27 = .ok (.getfield 187, 3) := by decide +kernel
theorem dX11_least_30 : decode cX11_least 30 = .ok (.iload_n 2, 1) := by decide +kernel
theorem dX11_least_31 : decode cX11_least 31 = .ok (.iaload, 1) := by decide +kernel
theorem dX11_least_32 : decode cX11_least 32 = .ok (.ireturn, 1) := by decide +kernel
set_option maxRecDepth 20000 in
theorem bk_X11_least_0 {d : Nat} {w : hb_W} {Q : Option hb_V → hb_W → Prop} {x1 : Int32} {x2 : Int32} (h : hb_O yX11_bookNow cX11_bookNow 2 (some (.object "HoodBook$Book")) d [hb_r 0 0 0, hb_i x1] w (fun rv w1 => hb_R yX11_least cX11_least 4 (some .int) (d + 1) 5 [some (hb_r 0 0 0), some (hb_i x1), some (hb_i x2), none] (rv.toList ++ []) w1 Q)) : hb_R yX11_least cX11_least 4 (some .int) (d + 1) 0 [some (hb_r 0 0 0), some (hb_i x1), some (hb_i x2), none] [] w Q := by
  refine hb_aload_n (pc := 0) (i := 0) dX11_least_0 rfl rfl ?_
  refine hb_iload_n (pc := 1) (i := 1) dX11_least_1 rfl rfl ?_
  exact hb_callV (pc := 2) (As := [hb_i x1]) (st := []) dX11_least_2 ml_X11_178 mf_X11_bookNow mi_X11_bookNow (ci := 11) rfl rfl (by decide) rfl rfl (Nat.le_of_ble_eq_true rfl) (Nat.le_of_ble_eq_true rfl) h (fun _ _ q => q)
set_option maxRecDepth 20000 in
theorem bk_X11_least_5 {d : Nat} {w : hb_W} {Q : Option hb_V → hb_W → Prop} {x1 : Int32} {x2 : Int32} {gs0 : Nat} (hgs0 : gs0 < hb_ct 9) (h : ((x2 < 0) → Q (some (hb_i (-1 : Int32))) w) ∧ ((¬ x2 < 0) → ((x2 < (hb_fI w 9 8 gs0)) → vp_in x2 9 ∧ (Q (some (hb_i (hb_aI w 9 4 gs0 x2.toNatClampNeg))) w)) ∧ ((¬ x2 < (hb_fI w 9 8 gs0)) → Q (some (hb_i (-1 : Int32))) w))) : hb_R yX11_least cX11_least 4 (some .int) (d + 1) 5 [some (hb_r 0 0 0), some (hb_i x1), some (hb_i x2), none] [hb_r 9 gs0 0] w Q := by
  refine hb_astore_n (pc := 5) (i := 3) (ls1 := [some (hb_r 0 0 0), some (hb_i x1), some (hb_i x2), some (hb_r 9 gs0 0)]) dX11_least_5 rfl (by decide) rfl ?_
  refine hb_aload_n (pc := 6) (i := 3) dX11_least_6 rfl rfl ?_
  refine hb_ifnull (pc := 7) dX11_least_7 ?_
  refine hb_iload_n (pc := 10) (i := 2) dX11_least_10 rfl rfl ?_
  refine hb_if_lt (pc := 11) (tgt := 22) dX11_least_11 (by decide) (fun c1 => ?_) (fun c1 => ?_)
  · have ht1 := h.1 c1
    refine hb_iconst (pc := 22) (v := -1) dX11_least_22 (by decide) ?_
    refine hb_goto (pc := 23) (tgt := 32) dX11_least_23 (by decide) ?_
    exact hb_iret (pc := 32) dX11_least_32 rfl ht1
  · have ht1 := h.2 c1
    refine hb_iload_n (pc := 14) (i := 2) dX11_least_14 rfl rfl ?_
    refine hb_aload_n (pc := 15) (i := 3) dX11_least_15 rfl rfl ?_
    refine hb_getIx (pc := 16) (x := hb_fI w 9 8 gs0) dX11_least_16 fw_X11_182 cw_0 rfl hgs0 rfl rfl ?_
    refine hb_icmp_lt (pc := 19) (tgt := 26) dX11_least_19 (by decide) (fun c2 => ?_) (fun c2 => ?_)
    · have ht2 := ht1.1 c2
      refine hb_aload_n (pc := 26) (i := 3) dX11_least_26 rfl rfl ?_
      refine hb_getR (pc := 27) (g1 := gs0) dX11_least_27 fw_X11_187 cw_0 rfl hgs0 rfl (by decide) rfl ?_
      refine hb_iload_n (pc := 30) (i := 2) dX11_least_30 rfl rfl ?_
      obtain ⟨ho3, hr3⟩ := ht2
      refine hb_ialdx (pc := 31) (x := hb_aI w 9 4 gs0 x2.toNatClampNeg) dX11_least_31 rfl hgs0 ho3 rfl ?_
      exact hb_iret (pc := 32) dX11_least_32 rfl hr3
    · have ht2 := ht1.2 c2
      refine hb_iconst (pc := 22) (v := -1) dX11_least_22 (by decide) ?_
      refine hb_goto (pc := 23) (tgt := 32) dX11_least_23 (by decide) ?_
      exact hb_iret (pc := 32) dX11_least_32 rfl ht2
set_option maxRecDepth 20000 in
theorem bk_X11_least_5N {d : Nat} {w : hb_W} {Q : Option hb_V → hb_W → Prop} {x1 : Int32} {x2 : Int32} (h : Q (some (hb_i (-1 : Int32))) w) : hb_R yX11_least cX11_least 4 (some .int) (d + 1) 5 [some (hb_r 0 0 0), some (hb_i x1), some (hb_i x2), none] [hb_n] w Q := by
  refine hb_astore_nN (pc := 5) (i := 3) (ls1 := [some (hb_r 0 0 0), some (hb_i x1), some (hb_i x2), some (hb_n)]) dX11_least_5 rfl (by decide) rfl ?_
  refine hb_aload_nN (pc := 6) (i := 3) dX11_least_6 rfl rfl ?_
  refine hb_ifnullN (pc := 7) (tgt := 22) dX11_least_7 (by decide) ?_
  refine hb_iconst (pc := 22) (v := -1) dX11_least_22 (by decide) ?_
  refine hb_goto (pc := 23) (tgt := 32) dX11_least_23 (by decide) ?_
  exact hb_iret (pc := 32) dX11_least_32 rfl h
theorem dX11_run_0 : decode cX11_run 0 = .ok (.aload_n 0, 1) := by decide +kernel
theorem dX11_run_1 : decode cX11_run 1 = .ok (.iload_n 1, 1) := by decide +kernel
theorem dX11_run_2 : decode cX11_run 2 = .ok (.invokevirtual 178, 3) := by decide +kernel
theorem dX11_run_5 : decode cX11_run 5 = .ok (.astore_n 2, 1) := by decide +kernel
theorem dX11_run_6 : decode cX11_run 6 = .ok (.aload_n 2, 1) := by decide +kernel
theorem dX11_run_7 : decode cX11_run 7 = .ok (.ifnonnull 7, 3) := by decide +kernel
theorem dX11_run_10 : decode cX11_run 10 = .ok (.iconst (-1), 1) := by decide +kernel
theorem dX11_run_11 : decode cX11_run 11 = .ok (.goto 7, 3) := by decide +kernel
theorem dX11_run_14 : decode cX11_run 14 = .ok (.aload_n 2, 1) := by decide +kernel
theorem dX11_run_15 : decode cX11_run 15 = .ok (.getfield 190, 3) := by decide +kernel
theorem dX11_run_18 : decode cX11_run 18 = .ok (.ireturn, 1) := by decide +kernel
set_option maxRecDepth 20000 in
theorem bk_X11_run_0 {d : Nat} {w : hb_W} {Q : Option hb_V → hb_W → Prop} {x1 : Int32} (h : hb_O yX11_bookNow cX11_bookNow 2 (some (.object "HoodBook$Book")) d [hb_r 0 0 0, hb_i x1] w (fun rv w1 => hb_R yX11_run cX11_run 3 (some .int) (d + 1) 5 [some (hb_r 0 0 0), some (hb_i x1), none] (rv.toList ++ []) w1 Q)) : hb_R yX11_run cX11_run 3 (some .int) (d + 1) 0 [some (hb_r 0 0 0), some (hb_i x1), none] [] w Q := by
  refine hb_aload_n (pc := 0) (i := 0) dX11_run_0 rfl rfl ?_
  refine hb_iload_n (pc := 1) (i := 1) dX11_run_1 rfl rfl ?_
  exact hb_callV (pc := 2) (As := [hb_i x1]) (st := []) dX11_run_2 ml_X11_178 mf_X11_bookNow mi_X11_bookNow (ci := 11) rfl rfl (by decide) rfl rfl (Nat.le_of_ble_eq_true rfl) (Nat.le_of_ble_eq_true rfl) h (fun _ _ q => q)
set_option maxRecDepth 20000 in
theorem bk_X11_run_5 {d : Nat} {w : hb_W} {Q : Option hb_V → hb_W → Prop} {x1 : Int32} {gs0 : Nat} (hgs0 : gs0 < hb_ct 9) (h : Q (some (hb_i (hb_fI w 9 10 gs0))) w) : hb_R yX11_run cX11_run 3 (some .int) (d + 1) 5 [some (hb_r 0 0 0), some (hb_i x1), none] [hb_r 9 gs0 0] w Q := by
  refine hb_astore_n (pc := 5) (i := 2) (ls1 := [some (hb_r 0 0 0), some (hb_i x1), some (hb_r 9 gs0 0)]) dX11_run_5 rfl (by decide) rfl ?_
  refine hb_aload_n (pc := 6) (i := 2) dX11_run_6 rfl rfl ?_
  refine hb_ifnonnull (pc := 7) (tgt := 14) dX11_run_7 (by decide) ?_
  refine hb_aload_n (pc := 14) (i := 2) dX11_run_14 rfl rfl ?_
  refine hb_getIx (pc := 15) (x := hb_fI w 9 10 gs0) dX11_run_15 fw_X11_190 cw_0 rfl hgs0 rfl rfl ?_
  exact hb_iret (pc := 18) dX11_run_18 rfl h
set_option maxRecDepth 20000 in
theorem bk_X11_run_5N {d : Nat} {w : hb_W} {Q : Option hb_V → hb_W → Prop} {x1 : Int32} (h : Q (some (hb_i (-1 : Int32))) w) : hb_R yX11_run cX11_run 3 (some .int) (d + 1) 5 [some (hb_r 0 0 0), some (hb_i x1), none] [hb_n] w Q := by
  refine hb_astore_nN (pc := 5) (i := 2) (ls1 := [some (hb_r 0 0 0), some (hb_i x1), some (hb_n)]) dX11_run_5 rfl (by decide) rfl ?_
  refine hb_aload_nN (pc := 6) (i := 2) dX11_run_6 rfl rfl ?_
  refine hb_ifnonnullN (pc := 7) dX11_run_7 ?_
  refine hb_iconst (pc := 10) (v := -1) dX11_run_10 (by decide) ?_
  refine hb_goto (pc := 11) (tgt := 18) dX11_run_11 (by decide) ?_
  exact hb_iret (pc := 18) dX11_run_18 rfl h
theorem dX11_often_0 : decode cX11_often 0 = .ok (.aload_n 0, 1) := by decide +kernel
theorem dX11_often_1 : decode cX11_often 1 = .ok (.iload_n 1, 1) := by decide +kernel
theorem dX11_often_2 : decode cX11_often 2 = .ok (.invokevirtual 178, 3) := by decide +kernel
theorem dX11_often_5 : decode cX11_often 5 = .ok (.astore 4, 2) := by decide +kernel
theorem dX11_often_7 : decode cX11_often 7 = .ok (.aload 4, 2) := by decide +kernel
theorem dX11_often_9 : decode cX11_often 9 = .ok (.ifnull 26, 3) := by decide +kernel
theorem dX11_often_12 : decode cX11_often 12 = .ok (.iload_n 2, 1) := by decide +kernel
theorem dX11_often_13 : decode cX11_often 13 = .ok (.ifCond .lt 22, 3) := by decide +kernel
theorem dX11_often_16 : decode cX11_often 16 = .ok (.iload_n 2, 1) := by decide +kernel
theorem dX11_often_17 : decode cX11_often 17 = .ok (.aload 4, 2) := by decide +kernel
theorem dX11_often_19 : decode cX11_often 19 = .ok (.getfield 193, 3) := by decide +kernel
theorem dX11_often_22 : decode cX11_often 22 = .ok (.if_icmp .ge 13, 3) := by decide +kernel
theorem dX11_often_25 : decode cX11_often 25 = .ok (.aload 4, 2) := by decide +kernel
theorem dX11_often_27 : decode cX11_often 27 = .ok (.getfield 194, 3) := by decide +kernel
theorem dX11_often_30 : decode cX11_often 30 = .ok (.iload_n 2, 1) := by decide +kernel
theorem dX11_often_31 : decode cX11_often 31 = .ok (.iaload, 1) := by decide +kernel
theorem dX11_often_32 : decode cX11_often 32 = .ok (.ifCond .ne 5, 3) := by decide +kernel
theorem dX11_often_35 : decode cX11_often 35 = .ok (.iconst (-1), 1) := by decide +kernel
theorem dX11_often_36 : decode cX11_often 36 = .ok (.ireturn, 1) := by decide +kernel
theorem dX11_often_37 : decode cX11_often 37 = .ok (.iload_n 3, 1) := by decide +kernel
theorem dX11_often_38 : decode cX11_often 38 = .ok (.lookupswitch 42 #[(0, 26), (1, 34)], 26) := by decide +kernel
theorem dX11_often_64 : decode cX11_often 64 = .ok (.aload 4, 2) := by decide +kernel
theorem dX11_often_66 : decode cX11_often 66 = .ok (.getfield 197, 3) := by decide +kernel
theorem dX11_often_69 : decode cX11_often 69 = .ok (.iload_n 2, 1) := by decide +kernel
theorem dX11_often_70 : decode cX11_often 70 = .ok (.iaload, 1) := by decide +kernel
theorem dX11_often_71 : decode cX11_often 71 = .ok (.ireturn, 1) := by decide +kernel
theorem dX11_often_72 : decode cX11_often 72 = .ok (.aload 4, 2) := by decide +kernel
theorem dX11_often_74 : decode cX11_often 74 = .ok (.getfield 194, 3) := by decide +kernel
theorem dX11_often_77 : decode cX11_often 77 = .ok (.iload_n 2, 1) := by decide +kernel
theorem dX11_often_78 : decode cX11_often 78 = .ok (.iaload, 1) := by decide +kernel
theorem dX11_often_79 : decode cX11_often 79 = .ok (.ireturn, 1) := by decide +kernel
theorem dX11_often_80 : decode cX11_often 80 = .ok (.iconst (-1), 1) := by decide +kernel
theorem dX11_often_81 : decode cX11_often 81 = .ok (.ireturn, 1) := by decide +kernel
set_option maxRecDepth 20000 in
theorem bk_X11_often_0 {d : Nat} {w : hb_W} {Q : Option hb_V → hb_W → Prop} {x1 : Int32} {x2 : Int32} {x3 : Int32} (h : hb_O yX11_bookNow cX11_bookNow 2 (some (.object "HoodBook$Book")) d [hb_r 0 0 0, hb_i x1] w (fun rv w1 => hb_R yX11_often cX11_often 5 (some .int) (d + 1) 5 [some (hb_r 0 0 0), some (hb_i x1), some (hb_i x2), some (hb_i x3), none] (rv.toList ++ []) w1 Q)) : hb_R yX11_often cX11_often 5 (some .int) (d + 1) 0 [some (hb_r 0 0 0), some (hb_i x1), some (hb_i x2), some (hb_i x3), none] [] w Q := by
  refine hb_aload_n (pc := 0) (i := 0) dX11_often_0 rfl rfl ?_
  refine hb_iload_n (pc := 1) (i := 1) dX11_often_1 rfl rfl ?_
  exact hb_callV (pc := 2) (As := [hb_i x1]) (st := []) dX11_often_2 ml_X11_178 mf_X11_bookNow mi_X11_bookNow (ci := 11) rfl rfl (by decide) rfl rfl (Nat.le_of_ble_eq_true rfl) (Nat.le_of_ble_eq_true rfl) h (fun _ _ q => q)
set_option maxRecDepth 20000 in
theorem bk_X11_often_5 {d : Nat} {w : hb_W} {Q : Option hb_V → hb_W → Prop} {x1 : Int32} {x2 : Int32} {x3 : Int32} {gs0 : Nat} (hgs0 : gs0 < hb_ct 9) (h : ((x2 < 0) → Q (some (hb_i (-1 : Int32))) w) ∧ ((¬ x2 < 0) → (((hb_fI w 9 0 gs0) ≤ x2) → Q (some (hb_i (-1 : Int32))) w) ∧ ((¬ (hb_fI w 9 0 gs0) ≤ x2) → vp_in x2 9 ∧ (((¬ (hb_aI w 9 6 gs0 x2.toNatClampNeg) = 0) → (x3 = (0 : Int32) → vp_in x2 9 ∧ (Q (some (hb_i (hb_aI w 9 5 gs0 x2.toNatClampNeg))) w)) ∧ (x3 = (1 : Int32) → vp_in x2 9 ∧ (Q (some (hb_i (hb_aI w 9 6 gs0 x2.toNatClampNeg))) w)) ∧ (¬ x3 = (0 : Int32) → ¬ x3 = (1 : Int32) → Q (some (hb_i (-1 : Int32))) w)) ∧ (((hb_aI w 9 6 gs0 x2.toNatClampNeg) = 0) → Q (some (hb_i (-1 : Int32))) w))))) : hb_R yX11_often cX11_often 5 (some .int) (d + 1) 5 [some (hb_r 0 0 0), some (hb_i x1), some (hb_i x2), some (hb_i x3), none] [hb_r 9 gs0 0] w Q := by
  refine hb_astore (pc := 5) (i := 4) (ls1 := [some (hb_r 0 0 0), some (hb_i x1), some (hb_i x2), some (hb_i x3), some (hb_r 9 gs0 0)]) dX11_often_5 (by decide) rfl ?_
  refine hb_aload (pc := 7) dX11_often_7 rfl ?_
  refine hb_ifnull (pc := 9) dX11_often_9 ?_
  refine hb_iload_n (pc := 12) (i := 2) dX11_often_12 rfl rfl ?_
  refine hb_if_lt (pc := 13) (tgt := 35) dX11_often_13 (by decide) (fun c1 => ?_) (fun c1 => ?_)
  · have ht1 := h.1 c1
    refine hb_iconst (pc := 35) (v := -1) dX11_often_35 (by decide) ?_
    exact hb_iret (pc := 36) dX11_often_36 rfl ht1
  · have ht1 := h.2 c1
    refine hb_iload_n (pc := 16) (i := 2) dX11_often_16 rfl rfl ?_
    refine hb_aload (pc := 17) dX11_often_17 rfl ?_
    refine hb_getIx (pc := 19) (x := hb_fI w 9 0 gs0) dX11_often_19 fw_X11_193 cw_0 rfl hgs0 rfl rfl ?_
    refine hb_icmp_ge (pc := 22) (tgt := 35) dX11_often_22 (by decide) (fun c2 => ?_) (fun c2 => ?_)
    · have ht2 := ht1.1 c2
      refine hb_iconst (pc := 35) (v := -1) dX11_often_35 (by decide) ?_
      exact hb_iret (pc := 36) dX11_often_36 rfl ht2
    · have ht2 := ht1.2 c2
      refine hb_aload (pc := 25) dX11_often_25 rfl ?_
      refine hb_getR (pc := 27) (g1 := gs0) dX11_often_27 fw_X11_194 cw_0 rfl hgs0 rfl (by decide) rfl ?_
      refine hb_iload_n (pc := 30) (i := 2) dX11_often_30 rfl rfl ?_
      obtain ⟨ho3, hr3⟩ := ht2
      refine hb_ialdx (pc := 31) (x := hb_aI w 9 6 gs0 x2.toNatClampNeg) dX11_often_31 rfl hgs0 ho3 rfl ?_
      refine hb_if_ne (pc := 32) (tgt := 37) dX11_often_32 (by decide) (fun c4 => ?_) (fun c4 => ?_)
      · have ht4 := hr3.1 c4
        refine hb_iload_n (pc := 37) (i := 3) dX11_often_37 rfl rfl ?_
        by_cases e5_0 : x3 = (0 : Int32)
        · have hk5_0 := ht4.1 e5_0
          have ei : x3.toInt = 0 := by rw [e5_0]; rfl
          refine hb_look (pc := 38) (tgt := 64) (off := 26) dX11_often_38 (by decide +kernel) (by rw [ei]; decide +kernel) (by decide) ?_
          refine hb_aload (pc := 64) dX11_often_64 rfl ?_
          refine hb_getR (pc := 66) (g1 := gs0) dX11_often_66 fw_X11_197 cw_0 rfl hgs0 rfl (by decide) rfl ?_
          refine hb_iload_n (pc := 69) (i := 2) dX11_often_69 rfl rfl ?_
          obtain ⟨ho6, hr6⟩ := hk5_0
          refine hb_ialdx (pc := 70) (x := hb_aI w 9 5 gs0 x2.toNatClampNeg) dX11_often_70 rfl hgs0 ho6 rfl ?_
          exact hb_iret (pc := 71) dX11_often_71 rfl hr6
        by_cases e5_1 : x3 = (1 : Int32)
        · have hk5_1 := ht4.2.1 e5_1
          have ei : x3.toInt = 1 := by rw [e5_1]; rfl
          refine hb_look (pc := 38) (tgt := 72) (off := 34) dX11_often_38 (by decide +kernel) (by rw [ei]; decide +kernel) (by decide) ?_
          refine hb_aload (pc := 72) dX11_often_72 rfl ?_
          refine hb_getR (pc := 74) (g1 := gs0) dX11_often_74 fw_X11_194 cw_0 rfl hgs0 rfl (by decide) rfl ?_
          refine hb_iload_n (pc := 77) (i := 2) dX11_often_77 rfl rfl ?_
          obtain ⟨ho7, hr7⟩ := hk5_1
          refine hb_ialdx (pc := 78) (x := hb_aI w 9 6 gs0 x2.toNatClampNeg) dX11_often_78 rfl hgs0 ho7 rfl ?_
          exact hb_iret (pc := 79) dX11_often_79 rfl hr7
        have hk5_d := ht4.2.2 e5_0 e5_1
        refine hb_look (pc := 38) (tgt := 80) (off := 42) dX11_often_38 (by decide +kernel) (by show Op.lookupswitch.offset [(0, 26), (1, 34)] _ _ = _; rw [lv_osw (k := (0 : Int32)) (a := 0) e5_0 (by decide), lv_osw (k := (1 : Int32)) (a := 1) e5_1 (by decide)]; rfl) (by decide) ?_
        refine hb_iconst (pc := 80) (v := -1) dX11_often_80 (by decide) ?_
        exact hb_iret (pc := 81) dX11_often_81 rfl hk5_d
      · have ht4 := hr3.2 c4
        refine hb_iconst (pc := 35) (v := -1) dX11_often_35 (by decide) ?_
        exact hb_iret (pc := 36) dX11_often_36 rfl ht4
set_option maxRecDepth 20000 in
theorem bk_X11_often_5N {d : Nat} {w : hb_W} {Q : Option hb_V → hb_W → Prop} {x1 : Int32} {x2 : Int32} {x3 : Int32} (h : Q (some (hb_i (-1 : Int32))) w) : hb_R yX11_often cX11_often 5 (some .int) (d + 1) 5 [some (hb_r 0 0 0), some (hb_i x1), some (hb_i x2), some (hb_i x3), none] [hb_n] w Q := by
  refine hb_astoreN (pc := 5) (i := 4) (ls1 := [some (hb_r 0 0 0), some (hb_i x1), some (hb_i x2), some (hb_i x3), some (hb_n)]) dX11_often_5 (by decide) rfl ?_
  refine hb_aloadN (pc := 7) dX11_often_7 rfl ?_
  refine hb_ifnullN (pc := 9) (tgt := 35) dX11_often_9 (by decide) ?_
  refine hb_iconst (pc := 35) (v := -1) dX11_often_35 (by decide) ?_
  exact hb_iret (pc := 36) dX11_often_36 rfl h
theorem dX11_crossed_0 : decode cX11_crossed 0 = .ok (.aload_n 0, 1) := by decide +kernel
theorem dX11_crossed_1 : decode cX11_crossed 1 = .ok (.iload_n 1, 1) := by decide +kernel
theorem dX11_crossed_2 : decode cX11_crossed 2 = .ok (.invokevirtual 178, 3) := by decide +kernel
theorem dX11_crossed_5 : decode cX11_crossed 5 = .ok (.astore 4, 2) := by decide +kernel
theorem dX11_crossed_7 : decode cX11_crossed 7 = .ok (.aload 4, 2) := by decide +kernel
theorem dX11_crossed_9 : decode cX11_crossed 9 = .ok (.ifnull 29, 3) := by decide +kernel
theorem dX11_crossed_12 : decode cX11_crossed 12 = .ok (.iload_n 2, 1) := by decide +kernel
theorem dX11_crossed_13 : decode cX11_crossed 13 = .ok (.ifCond .lt 25, 3) := by decide +kernel
theorem dX11_crossed_16 : decode cX11_crossed 16 = .ok (.iload_n 2, 1) := by decide +kernel
theorem dX11_crossed_17 : decode cX11_crossed 17 = .ok (.aload 4, 2) := by decide +kernel
theorem dX11_crossed_19 : decode cX11_crossed 19 = .ok (.getfield 200, 3) := by decide +kernel
theorem dX11_crossed_22 : decode cX11_crossed 22 = .ok (.if_icmp .ge 16, 3) := by decide +kernel
theorem dX11_crossed_25 : decode cX11_crossed 25 = .ok (.iload_n 3, 1) := by decide +kernel
theorem dX11_crossed_26 : decode cX11_crossed 26 = .ok (.ifCond .lt 12, 3) := by decide +kernel
theorem dX11_crossed_29 : decode cX11_crossed 29 = .ok (.iload_n 3, 1) := by decide +kernel
theorem dX11_crossed_30 : decode cX11_crossed 30 = .ok (.aload 4, 2) := by decide +kernel
theorem dX11_crossed_32 : decode cX11_crossed 32 = .ok (.getfield 193, 3) := by decide +kernel
theorem dX11_crossed_35 : decode cX11_crossed 35 = .ok (.if_icmp .lt 5, 3) := by decide +kernel
theorem dX11_crossed_38 : decode cX11_crossed 38 = .ok (.iconst (-1), 1) := by decide +kernel
theorem dX11_crossed_39 : decode cX11_crossed 39 = .ok (.ireturn, 1) := by decide +kernel
theorem dX11_crossed_40 : decode cX11_crossed 40 = .ok (.aload 4, 2) := by decide +kernel
theorem dX11_crossed_42 : decode cX11_crossed 42 = .ok (.getfield 201, 3) := by decide +kernel
theorem dX11_crossed_45 : decode cX11_crossed 45 = .ok (.iload_n 2, 1) := by decide +kernel
theorem dX11_crossed_46 : decode cX11_crossed 46 = .ok (.bipush 9, 2) := by decide +kernel
theorem dX11_crossed_48 : decode cX11_crossed 48 = .ok (.imul, 1) := by decide +kernel
theorem dX11_crossed_49 : decode cX11_crossed 49 = .ok (.iload_n 3, 1) := by decide +kernel
theorem dX11_crossed_50 : decode cX11_crossed 50 = .ok (.iadd, 1) := by decide +kernel
theorem dX11_crossed_51 : decode cX11_crossed 51 = .ok (.iaload, 1) := by decide +kernel
theorem dX11_crossed_52 : decode cX11_crossed 52 = .ok (.ireturn, 1) := by decide +kernel
set_option maxRecDepth 20000 in
theorem bk_X11_crossed_0 {d : Nat} {w : hb_W} {Q : Option hb_V → hb_W → Prop} {x1 : Int32} {x2 : Int32} {x3 : Int32} (h : hb_O yX11_bookNow cX11_bookNow 2 (some (.object "HoodBook$Book")) d [hb_r 0 0 0, hb_i x1] w (fun rv w1 => hb_R yX11_crossed cX11_crossed 5 (some .int) (d + 1) 5 [some (hb_r 0 0 0), some (hb_i x1), some (hb_i x2), some (hb_i x3), none] (rv.toList ++ []) w1 Q)) : hb_R yX11_crossed cX11_crossed 5 (some .int) (d + 1) 0 [some (hb_r 0 0 0), some (hb_i x1), some (hb_i x2), some (hb_i x3), none] [] w Q := by
  refine hb_aload_n (pc := 0) (i := 0) dX11_crossed_0 rfl rfl ?_
  refine hb_iload_n (pc := 1) (i := 1) dX11_crossed_1 rfl rfl ?_
  exact hb_callV (pc := 2) (As := [hb_i x1]) (st := []) dX11_crossed_2 ml_X11_178 mf_X11_bookNow mi_X11_bookNow (ci := 11) rfl rfl (by decide) rfl rfl (Nat.le_of_ble_eq_true rfl) (Nat.le_of_ble_eq_true rfl) h (fun _ _ q => q)
set_option maxRecDepth 20000 in
theorem bk_X11_crossed_5 {d : Nat} {w : hb_W} {Q : Option hb_V → hb_W → Prop} {x1 : Int32} {x2 : Int32} {x3 : Int32} {gs0 : Nat} (hgs0 : gs0 < hb_ct 9) (h : ((x2 < 0) → Q (some (hb_i (-1 : Int32))) w) ∧ ((¬ x2 < 0) → (((hb_fI w 9 1 gs0) ≤ x2) → Q (some (hb_i (-1 : Int32))) w) ∧ ((¬ (hb_fI w 9 1 gs0) ≤ x2) → ((x3 < 0) → Q (some (hb_i (-1 : Int32))) w) ∧ ((¬ x3 < 0) → ((x3 < (hb_fI w 9 0 gs0)) → vp_in ((x2 * (9 : Int32)) + x3) 27 ∧ (Q (some (hb_i (hb_aI w 9 7 gs0 ((x2 * (9 : Int32)) + x3).toNatClampNeg))) w)) ∧ ((¬ x3 < (hb_fI w 9 0 gs0)) → Q (some (hb_i (-1 : Int32))) w))))) : hb_R yX11_crossed cX11_crossed 5 (some .int) (d + 1) 5 [some (hb_r 0 0 0), some (hb_i x1), some (hb_i x2), some (hb_i x3), none] [hb_r 9 gs0 0] w Q := by
  refine hb_astore (pc := 5) (i := 4) (ls1 := [some (hb_r 0 0 0), some (hb_i x1), some (hb_i x2), some (hb_i x3), some (hb_r 9 gs0 0)]) dX11_crossed_5 (by decide) rfl ?_
  refine hb_aload (pc := 7) dX11_crossed_7 rfl ?_
  refine hb_ifnull (pc := 9) dX11_crossed_9 ?_
  refine hb_iload_n (pc := 12) (i := 2) dX11_crossed_12 rfl rfl ?_
  refine hb_if_lt (pc := 13) (tgt := 38) dX11_crossed_13 (by decide) (fun c1 => ?_) (fun c1 => ?_)
  · have ht1 := h.1 c1
    refine hb_iconst (pc := 38) (v := -1) dX11_crossed_38 (by decide) ?_
    exact hb_iret (pc := 39) dX11_crossed_39 rfl ht1
  · have ht1 := h.2 c1
    refine hb_iload_n (pc := 16) (i := 2) dX11_crossed_16 rfl rfl ?_
    refine hb_aload (pc := 17) dX11_crossed_17 rfl ?_
    refine hb_getIx (pc := 19) (x := hb_fI w 9 1 gs0) dX11_crossed_19 fw_X11_200 cw_0 rfl hgs0 rfl rfl ?_
    refine hb_icmp_ge (pc := 22) (tgt := 38) dX11_crossed_22 (by decide) (fun c2 => ?_) (fun c2 => ?_)
    · have ht2 := ht1.1 c2
      refine hb_iconst (pc := 38) (v := -1) dX11_crossed_38 (by decide) ?_
      exact hb_iret (pc := 39) dX11_crossed_39 rfl ht2
    · have ht2 := ht1.2 c2
      refine hb_iload_n (pc := 25) (i := 3) dX11_crossed_25 rfl rfl ?_
      refine hb_if_lt (pc := 26) (tgt := 38) dX11_crossed_26 (by decide) (fun c3 => ?_) (fun c3 => ?_)
      · have ht3 := ht2.1 c3
        refine hb_iconst (pc := 38) (v := -1) dX11_crossed_38 (by decide) ?_
        exact hb_iret (pc := 39) dX11_crossed_39 rfl ht3
      · have ht3 := ht2.2 c3
        refine hb_iload_n (pc := 29) (i := 3) dX11_crossed_29 rfl rfl ?_
        refine hb_aload (pc := 30) dX11_crossed_30 rfl ?_
        refine hb_getIx (pc := 32) (x := hb_fI w 9 0 gs0) dX11_crossed_32 fw_X11_193 cw_0 rfl hgs0 rfl rfl ?_
        refine hb_icmp_lt (pc := 35) (tgt := 40) dX11_crossed_35 (by decide) (fun c4 => ?_) (fun c4 => ?_)
        · have ht4 := ht3.1 c4
          refine hb_aload (pc := 40) dX11_crossed_40 rfl ?_
          refine hb_getR (pc := 42) (g1 := gs0) dX11_crossed_42 fw_X11_201 cw_0 rfl hgs0 rfl (by decide) rfl ?_
          refine hb_iload_n (pc := 45) (i := 2) dX11_crossed_45 rfl rfl ?_
          refine hb_bipush (pc := 46) (v := 9) dX11_crossed_46 (by decide) ?_
          refine hb_imul (pc := 48) dX11_crossed_48 ?_
          refine hb_iload_n (pc := 49) (i := 3) dX11_crossed_49 rfl rfl ?_
          refine hb_iadd (pc := 50) dX11_crossed_50 ?_
          obtain ⟨ho5, hr5⟩ := ht4
          refine hb_ialdx (pc := 51) (x := hb_aI w 9 7 gs0 ((x2 * (9 : Int32)) + x3).toNatClampNeg) dX11_crossed_51 rfl hgs0 ho5 rfl ?_
          exact hb_iret (pc := 52) dX11_crossed_52 rfl hr5
        · have ht4 := ht3.2 c4
          refine hb_iconst (pc := 38) (v := -1) dX11_crossed_38 (by decide) ?_
          exact hb_iret (pc := 39) dX11_crossed_39 rfl ht4
set_option maxRecDepth 20000 in
theorem bk_X11_crossed_5N {d : Nat} {w : hb_W} {Q : Option hb_V → hb_W → Prop} {x1 : Int32} {x2 : Int32} {x3 : Int32} (h : Q (some (hb_i (-1 : Int32))) w) : hb_R yX11_crossed cX11_crossed 5 (some .int) (d + 1) 5 [some (hb_r 0 0 0), some (hb_i x1), some (hb_i x2), some (hb_i x3), none] [hb_n] w Q := by
  refine hb_astoreN (pc := 5) (i := 4) (ls1 := [some (hb_r 0 0 0), some (hb_i x1), some (hb_i x2), some (hb_i x3), some (hb_n)]) dX11_crossed_5 (by decide) rfl ?_
  refine hb_aloadN (pc := 7) dX11_crossed_7 rfl ?_
  refine hb_ifnullN (pc := 9) (tgt := 38) dX11_crossed_9 (by decide) ?_
  refine hb_iconst (pc := 38) (v := -1) dX11_crossed_38 (by decide) ?_
  exact hb_iret (pc := 39) dX11_crossed_39 rfl h
theorem dX11_bit_0 : decode cX11_bit 0 = .ok (.aload_n 0, 1) := by decide +kernel
theorem dX11_bit_1 : decode cX11_bit 1 = .ok (.iload_n 1, 1) := by decide +kernel
theorem dX11_bit_2 : decode cX11_bit 2 = .ok (.invokevirtual 178, 3) := by decide +kernel
theorem dX11_bit_5 : decode cX11_bit 5 = .ok (.astore_n 3, 1) := by decide +kernel
theorem dX11_bit_6 : decode cX11_bit 6 = .ok (.aload_n 3, 1) := by decide +kernel
theorem dX11_bit_7 : decode cX11_bit 7 = .ok (.ifnull 18, 3) := by decide +kernel
theorem dX11_bit_10 : decode cX11_bit 10 = .ok (.iload_n 2, 1) := by decide +kernel
theorem dX11_bit_11 : decode cX11_bit 11 = .ok (.ifCond .lt 14, 3) := by decide +kernel
theorem dX11_bit_14 : decode cX11_bit 14 = .ok (.iload_n 2, 1) := by decide +kernel
theorem dX11_bit_15 : decode cX11_bit 15 = .ok (.bipush 8, 2) := by decide +kernel
theorem dX11_bit_17 : decode cX11_bit 17 = .ok (.aload_n 3, 1) := by decide +kernel
theorem dX11_bit_18 : decode cX11_bit 18 = .ok (.getfield 193, 3) := by decide +kernel
theorem dX11_bit_21 : decode cX11_bit 21 = .ok (.imul, 1) := by decide +kernel
theorem dX11_bit_22 : decode cX11_bit 22 = .ok (.if_icmp .lt 7, 3) := by decide +kernel
theorem dX11_bit_25 : decode cX11_bit 25 = .ok (.iconst (-1), 1) := by decide +kernel
theorem dX11_bit_26 : decode cX11_bit 26 = .ok (.goto 9, 3) := by decide +kernel
theorem dX11_bit_29 : decode cX11_bit 29 = .ok (.aload_n 3, 1) := by decide +kernel
theorem dX11_bit_30 : decode cX11_bit 30 = .ok (.getfield 204, 3) := by decide +kernel
theorem dX11_bit_33 : decode cX11_bit 33 = .ok (.iload_n 2, 1) := by decide +kernel
theorem dX11_bit_34 : decode cX11_bit 34 = .ok (.iaload, 1) := by decide +kernel
theorem dX11_bit_35 : decode cX11_bit 35 = .ok (.ireturn, 1) := by decide +kernel
set_option maxRecDepth 20000 in
theorem bk_X11_bit_0 {d : Nat} {w : hb_W} {Q : Option hb_V → hb_W → Prop} {x1 : Int32} {x2 : Int32} (h : hb_O yX11_bookNow cX11_bookNow 2 (some (.object "HoodBook$Book")) d [hb_r 0 0 0, hb_i x1] w (fun rv w1 => hb_R yX11_bit cX11_bit 4 (some .int) (d + 1) 5 [some (hb_r 0 0 0), some (hb_i x1), some (hb_i x2), none] (rv.toList ++ []) w1 Q)) : hb_R yX11_bit cX11_bit 4 (some .int) (d + 1) 0 [some (hb_r 0 0 0), some (hb_i x1), some (hb_i x2), none] [] w Q := by
  refine hb_aload_n (pc := 0) (i := 0) dX11_bit_0 rfl rfl ?_
  refine hb_iload_n (pc := 1) (i := 1) dX11_bit_1 rfl rfl ?_
  exact hb_callV (pc := 2) (As := [hb_i x1]) (st := []) dX11_bit_2 ml_X11_178 mf_X11_bookNow mi_X11_bookNow (ci := 11) rfl rfl (by decide) rfl rfl (Nat.le_of_ble_eq_true rfl) (Nat.le_of_ble_eq_true rfl) h (fun _ _ q => q)
set_option maxRecDepth 20000 in
theorem bk_X11_bit_5 {d : Nat} {w : hb_W} {Q : Option hb_V → hb_W → Prop} {x1 : Int32} {x2 : Int32} {gs0 : Nat} (hgs0 : gs0 < hb_ct 9) (h : ((x2 < 0) → Q (some (hb_i (-1 : Int32))) w) ∧ ((¬ x2 < 0) → ((x2 < ((8 : Int32) * (hb_fI w 9 0 gs0))) → vp_in x2 72 ∧ (Q (some (hb_i (hb_aI w 9 8 gs0 x2.toNatClampNeg))) w)) ∧ ((¬ x2 < ((8 : Int32) * (hb_fI w 9 0 gs0))) → Q (some (hb_i (-1 : Int32))) w))) : hb_R yX11_bit cX11_bit 4 (some .int) (d + 1) 5 [some (hb_r 0 0 0), some (hb_i x1), some (hb_i x2), none] [hb_r 9 gs0 0] w Q := by
  refine hb_astore_n (pc := 5) (i := 3) (ls1 := [some (hb_r 0 0 0), some (hb_i x1), some (hb_i x2), some (hb_r 9 gs0 0)]) dX11_bit_5 rfl (by decide) rfl ?_
  refine hb_aload_n (pc := 6) (i := 3) dX11_bit_6 rfl rfl ?_
  refine hb_ifnull (pc := 7) dX11_bit_7 ?_
  refine hb_iload_n (pc := 10) (i := 2) dX11_bit_10 rfl rfl ?_
  refine hb_if_lt (pc := 11) (tgt := 25) dX11_bit_11 (by decide) (fun c1 => ?_) (fun c1 => ?_)
  · have ht1 := h.1 c1
    refine hb_iconst (pc := 25) (v := -1) dX11_bit_25 (by decide) ?_
    refine hb_goto (pc := 26) (tgt := 35) dX11_bit_26 (by decide) ?_
    exact hb_iret (pc := 35) dX11_bit_35 rfl ht1
  · have ht1 := h.2 c1
    refine hb_iload_n (pc := 14) (i := 2) dX11_bit_14 rfl rfl ?_
    refine hb_bipush (pc := 15) (v := 8) dX11_bit_15 (by decide) ?_
    refine hb_aload_n (pc := 17) (i := 3) dX11_bit_17 rfl rfl ?_
    refine hb_getIx (pc := 18) (x := hb_fI w 9 0 gs0) dX11_bit_18 fw_X11_193 cw_0 rfl hgs0 rfl rfl ?_
    refine hb_imul (pc := 21) dX11_bit_21 ?_
    refine hb_icmp_lt (pc := 22) (tgt := 29) dX11_bit_22 (by decide) (fun c2 => ?_) (fun c2 => ?_)
    · have ht2 := ht1.1 c2
      refine hb_aload_n (pc := 29) (i := 3) dX11_bit_29 rfl rfl ?_
      refine hb_getR (pc := 30) (g1 := gs0) dX11_bit_30 fw_X11_204 cw_0 rfl hgs0 rfl (by decide) rfl ?_
      refine hb_iload_n (pc := 33) (i := 2) dX11_bit_33 rfl rfl ?_
      obtain ⟨ho3, hr3⟩ := ht2
      refine hb_ialdx (pc := 34) (x := hb_aI w 9 8 gs0 x2.toNatClampNeg) dX11_bit_34 rfl hgs0 ho3 rfl ?_
      exact hb_iret (pc := 35) dX11_bit_35 rfl hr3
    · have ht2 := ht1.2 c2
      refine hb_iconst (pc := 25) (v := -1) dX11_bit_25 (by decide) ?_
      refine hb_goto (pc := 26) (tgt := 35) dX11_bit_26 (by decide) ?_
      exact hb_iret (pc := 35) dX11_bit_35 rfl ht2
set_option maxRecDepth 20000 in
theorem bk_X11_bit_5N {d : Nat} {w : hb_W} {Q : Option hb_V → hb_W → Prop} {x1 : Int32} {x2 : Int32} (h : Q (some (hb_i (-1 : Int32))) w) : hb_R yX11_bit cX11_bit 4 (some .int) (d + 1) 5 [some (hb_r 0 0 0), some (hb_i x1), some (hb_i x2), none] [hb_n] w Q := by
  refine hb_astore_nN (pc := 5) (i := 3) (ls1 := [some (hb_r 0 0 0), some (hb_i x1), some (hb_i x2), some (hb_n)]) dX11_bit_5 rfl (by decide) rfl ?_
  refine hb_aload_nN (pc := 6) (i := 3) dX11_bit_6 rfl rfl ?_
  refine hb_ifnullN (pc := 7) (tgt := 25) dX11_bit_7 (by decide) ?_
  refine hb_iconst (pc := 25) (v := -1) dX11_bit_25 (by decide) ?_
  refine hb_goto (pc := 26) (tgt := 35) dX11_bit_26 (by decide) ?_
  exact hb_iret (pc := 35) dX11_bit_35 rfl h
theorem dX11_bin_0 : decode cX11_bin 0 = .ok (.aload_n 0, 1) := by decide +kernel
theorem dX11_bin_1 : decode cX11_bin 1 = .ok (.iload_n 1, 1) := by decide +kernel
theorem dX11_bin_2 : decode cX11_bin 2 = .ok (.invokevirtual 178, 3) := by decide +kernel
theorem dX11_bin_5 : decode cX11_bin 5 = .ok (.astore_n 3, 1) := by decide +kernel
theorem dX11_bin_6 : decode cX11_bin 6 = .ok (.aload_n 3, 1) := by decide +kernel
theorem dX11_bin_7 : decode cX11_bin 7 = .ok (.ifnull 15, 3) := by decide +kernel
theorem dX11_bin_10 : decode cX11_bin 10 = .ok (.iload_n 2, 1) := by decide +kernel
theorem dX11_bin_11 : decode cX11_bin 11 = .ok (.ifCond .lt 11, 3) := by decide +kernel
theorem dX11_bin_14 : decode cX11_bin 14 = .ok (.iload_n 2, 1) := by decide +kernel
theorem dX11_bin_15 : decode cX11_bin 15 = .ok (.aload_n 3, 1) := by decide +kernel
theorem dX11_bin_16 : decode cX11_bin 16 = .ok (.getfield 193, 3) := by decide +kernel
theorem dX11_bin_19 : decode cX11_bin 19 = .ok (.if_icmp .lt 7, 3) := by decide +kernel
theorem dX11_bin_22 : decode cX11_bin 22 = .ok (.iconst (-1), 1) := by decide +kernel
theorem dX11_bin_23 : decode cX11_bin 23 = .ok (.goto 9, 3) := by decide +kernel
theorem dX11_bin_26 : decode cX11_bin 26 = .ok (.aload_n 3, 1) := by decide +kernel
theorem dX11_bin_27 : decode cX11_bin 27 = .ok (.getfield 207, 3) := by decide +kernel
theorem dX11_bin_30 : decode cX11_bin 30 = .ok (.iload_n 2, 1) := by decide +kernel
theorem dX11_bin_31 : decode cX11_bin 31 = .ok (.iaload, 1) := by decide +kernel
theorem dX11_bin_32 : decode cX11_bin 32 = .ok (.ireturn, 1) := by decide +kernel
set_option maxRecDepth 20000 in
theorem bk_X11_bin_0 {d : Nat} {w : hb_W} {Q : Option hb_V → hb_W → Prop} {x1 : Int32} {x2 : Int32} (h : hb_O yX11_bookNow cX11_bookNow 2 (some (.object "HoodBook$Book")) d [hb_r 0 0 0, hb_i x1] w (fun rv w1 => hb_R yX11_bin cX11_bin 4 (some .int) (d + 1) 5 [some (hb_r 0 0 0), some (hb_i x1), some (hb_i x2), none] (rv.toList ++ []) w1 Q)) : hb_R yX11_bin cX11_bin 4 (some .int) (d + 1) 0 [some (hb_r 0 0 0), some (hb_i x1), some (hb_i x2), none] [] w Q := by
  refine hb_aload_n (pc := 0) (i := 0) dX11_bin_0 rfl rfl ?_
  refine hb_iload_n (pc := 1) (i := 1) dX11_bin_1 rfl rfl ?_
  exact hb_callV (pc := 2) (As := [hb_i x1]) (st := []) dX11_bin_2 ml_X11_178 mf_X11_bookNow mi_X11_bookNow (ci := 11) rfl rfl (by decide) rfl rfl (Nat.le_of_ble_eq_true rfl) (Nat.le_of_ble_eq_true rfl) h (fun _ _ q => q)
set_option maxRecDepth 20000 in
theorem bk_X11_bin_5 {d : Nat} {w : hb_W} {Q : Option hb_V → hb_W → Prop} {x1 : Int32} {x2 : Int32} {gs0 : Nat} (hgs0 : gs0 < hb_ct 9) (h : ((x2 < 0) → Q (some (hb_i (-1 : Int32))) w) ∧ ((¬ x2 < 0) → ((x2 < (hb_fI w 9 0 gs0)) → vp_in x2 9 ∧ (Q (some (hb_i (hb_aI w 9 9 gs0 x2.toNatClampNeg))) w)) ∧ ((¬ x2 < (hb_fI w 9 0 gs0)) → Q (some (hb_i (-1 : Int32))) w))) : hb_R yX11_bin cX11_bin 4 (some .int) (d + 1) 5 [some (hb_r 0 0 0), some (hb_i x1), some (hb_i x2), none] [hb_r 9 gs0 0] w Q := by
  refine hb_astore_n (pc := 5) (i := 3) (ls1 := [some (hb_r 0 0 0), some (hb_i x1), some (hb_i x2), some (hb_r 9 gs0 0)]) dX11_bin_5 rfl (by decide) rfl ?_
  refine hb_aload_n (pc := 6) (i := 3) dX11_bin_6 rfl rfl ?_
  refine hb_ifnull (pc := 7) dX11_bin_7 ?_
  refine hb_iload_n (pc := 10) (i := 2) dX11_bin_10 rfl rfl ?_
  refine hb_if_lt (pc := 11) (tgt := 22) dX11_bin_11 (by decide) (fun c1 => ?_) (fun c1 => ?_)
  · have ht1 := h.1 c1
    refine hb_iconst (pc := 22) (v := -1) dX11_bin_22 (by decide) ?_
    refine hb_goto (pc := 23) (tgt := 32) dX11_bin_23 (by decide) ?_
    exact hb_iret (pc := 32) dX11_bin_32 rfl ht1
  · have ht1 := h.2 c1
    refine hb_iload_n (pc := 14) (i := 2) dX11_bin_14 rfl rfl ?_
    refine hb_aload_n (pc := 15) (i := 3) dX11_bin_15 rfl rfl ?_
    refine hb_getIx (pc := 16) (x := hb_fI w 9 0 gs0) dX11_bin_16 fw_X11_193 cw_0 rfl hgs0 rfl rfl ?_
    refine hb_icmp_lt (pc := 19) (tgt := 26) dX11_bin_19 (by decide) (fun c2 => ?_) (fun c2 => ?_)
    · have ht2 := ht1.1 c2
      refine hb_aload_n (pc := 26) (i := 3) dX11_bin_26 rfl rfl ?_
      refine hb_getR (pc := 27) (g1 := gs0) dX11_bin_27 fw_X11_207 cw_0 rfl hgs0 rfl (by decide) rfl ?_
      refine hb_iload_n (pc := 30) (i := 2) dX11_bin_30 rfl rfl ?_
      obtain ⟨ho3, hr3⟩ := ht2
      refine hb_ialdx (pc := 31) (x := hb_aI w 9 9 gs0 x2.toNatClampNeg) dX11_bin_31 rfl hgs0 ho3 rfl ?_
      exact hb_iret (pc := 32) dX11_bin_32 rfl hr3
    · have ht2 := ht1.2 c2
      refine hb_iconst (pc := 22) (v := -1) dX11_bin_22 (by decide) ?_
      refine hb_goto (pc := 23) (tgt := 32) dX11_bin_23 (by decide) ?_
      exact hb_iret (pc := 32) dX11_bin_32 rfl ht2
set_option maxRecDepth 20000 in
theorem bk_X11_bin_5N {d : Nat} {w : hb_W} {Q : Option hb_V → hb_W → Prop} {x1 : Int32} {x2 : Int32} (h : Q (some (hb_i (-1 : Int32))) w) : hb_R yX11_bin cX11_bin 4 (some .int) (d + 1) 5 [some (hb_r 0 0 0), some (hb_i x1), some (hb_i x2), none] [hb_n] w Q := by
  refine hb_astore_nN (pc := 5) (i := 3) (ls1 := [some (hb_r 0 0 0), some (hb_i x1), some (hb_i x2), some (hb_n)]) dX11_bin_5 rfl (by decide) rfl ?_
  refine hb_aload_nN (pc := 6) (i := 3) dX11_bin_6 rfl rfl ?_
  refine hb_ifnullN (pc := 7) (tgt := 22) dX11_bin_7 (by decide) ?_
  refine hb_iconst (pc := 22) (v := -1) dX11_bin_22 (by decide) ?_
  refine hb_goto (pc := 23) (tgt := 32) dX11_bin_23 (by decide) ?_
  exact hb_iret (pc := 32) dX11_bin_32 rfl h
theorem dX11_sign_0 : decode cX11_sign 0 = .ok (.aload_n 0, 1) := by decide +kernel
theorem dX11_sign_1 : decode cX11_sign 1 = .ok (.iload_n 1, 1) := by decide +kernel
theorem dX11_sign_2 : decode cX11_sign 2 = .ok (.invokevirtual 178, 3) := by decide +kernel
theorem dX11_sign_5 : decode cX11_sign 5 = .ok (.astore_n 3, 1) := by decide +kernel
theorem dX11_sign_6 : decode cX11_sign 6 = .ok (.aload_n 3, 1) := by decide +kernel
theorem dX11_sign_7 : decode cX11_sign 7 = .ok (.ifnull 22, 3) := by decide +kernel
theorem dX11_sign_10 : decode cX11_sign 10 = .ok (.aload_n 3, 1) := by decide +kernel
theorem dX11_sign_11 : decode cX11_sign 11 = .ok (.getfield 210, 3) := by decide +kernel
theorem dX11_sign_14 : decode cX11_sign 14 = .ok (.ifCond .eq 15, 3) := by decide +kernel
theorem dX11_sign_17 : decode cX11_sign 17 = .ok (.iload_n 2, 1) := by decide +kernel
theorem dX11_sign_18 : decode cX11_sign 18 = .ok (.ifCond .lt 11, 3) := by decide +kernel
theorem dX11_sign_21 : decode cX11_sign 21 = .ok (.iload_n 2, 1) := by decide +kernel
theorem dX11_sign_22 : decode cX11_sign 22 = .ok (.aload_n 3, 1) := by decide +kernel
theorem dX11_sign_23 : decode cX11_sign 23 = .ok (.getfield 193, 3) := by decide +kernel
theorem dX11_sign_26 : decode cX11_sign 26 = .ok (.if_icmp .lt 7, 3) := by decide +kernel
theorem dX11_sign_29 : decode cX11_sign 29 = .ok (.iconst (-1), 1) := by decide +kernel
theorem dX11_sign_30 : decode cX11_sign 30 = .ok (.goto 9, 3) := by decide +kernel
theorem dX11_sign_33 : decode cX11_sign 33 = .ok (.aload_n 3, 1) := by decide +kernel
theorem dX11_sign_34 : decode cX11_sign 34 = .ok (.getfield 213, 3) := by decide +kernel
theorem dX11_sign_37 : decode cX11_sign 37 = .ok (.iload_n 2, 1) := by decide +kernel
theorem dX11_sign_38 : decode cX11_sign 38 = .ok (.iaload, 1) := by decide +kernel
theorem dX11_sign_39 : decode cX11_sign 39 = .ok (.ireturn, 1) := by decide +kernel
set_option maxRecDepth 20000 in
theorem bk_X11_sign_0 {d : Nat} {w : hb_W} {Q : Option hb_V → hb_W → Prop} {x1 : Int32} {x2 : Int32} (h : hb_O yX11_bookNow cX11_bookNow 2 (some (.object "HoodBook$Book")) d [hb_r 0 0 0, hb_i x1] w (fun rv w1 => hb_R yX11_sign cX11_sign 4 (some .int) (d + 1) 5 [some (hb_r 0 0 0), some (hb_i x1), some (hb_i x2), none] (rv.toList ++ []) w1 Q)) : hb_R yX11_sign cX11_sign 4 (some .int) (d + 1) 0 [some (hb_r 0 0 0), some (hb_i x1), some (hb_i x2), none] [] w Q := by
  refine hb_aload_n (pc := 0) (i := 0) dX11_sign_0 rfl rfl ?_
  refine hb_iload_n (pc := 1) (i := 1) dX11_sign_1 rfl rfl ?_
  exact hb_callV (pc := 2) (As := [hb_i x1]) (st := []) dX11_sign_2 ml_X11_178 mf_X11_bookNow mi_X11_bookNow (ci := 11) rfl rfl (by decide) rfl rfl (Nat.le_of_ble_eq_true rfl) (Nat.le_of_ble_eq_true rfl) h (fun _ _ q => q)
set_option maxRecDepth 20000 in
theorem bk_X11_sign_5 {d : Nat} {w : hb_W} {Q : Option hb_V → hb_W → Prop} {x1 : Int32} {x2 : Int32} {gs0 : Nat} (hgs0 : gs0 < hb_ct 9) (h : (((hb_fI w 9 3 gs0) = 0) → Q (some (hb_i (-1 : Int32))) w) ∧ ((¬ (hb_fI w 9 3 gs0) = 0) → ((x2 < 0) → Q (some (hb_i (-1 : Int32))) w) ∧ ((¬ x2 < 0) → ((x2 < (hb_fI w 9 0 gs0)) → vp_in x2 9 ∧ (Q (some (hb_i (hb_aI w 9 10 gs0 x2.toNatClampNeg))) w)) ∧ ((¬ x2 < (hb_fI w 9 0 gs0)) → Q (some (hb_i (-1 : Int32))) w)))) : hb_R yX11_sign cX11_sign 4 (some .int) (d + 1) 5 [some (hb_r 0 0 0), some (hb_i x1), some (hb_i x2), none] [hb_r 9 gs0 0] w Q := by
  refine hb_astore_n (pc := 5) (i := 3) (ls1 := [some (hb_r 0 0 0), some (hb_i x1), some (hb_i x2), some (hb_r 9 gs0 0)]) dX11_sign_5 rfl (by decide) rfl ?_
  refine hb_aload_n (pc := 6) (i := 3) dX11_sign_6 rfl rfl ?_
  refine hb_ifnull (pc := 7) dX11_sign_7 ?_
  refine hb_aload_n (pc := 10) (i := 3) dX11_sign_10 rfl rfl ?_
  refine hb_getIx (pc := 11) (x := hb_fI w 9 3 gs0) dX11_sign_11 fw_X11_210 cw_0 rfl hgs0 rfl rfl ?_
  refine hb_if_eq (pc := 14) (tgt := 29) dX11_sign_14 (by decide) (fun c1 => ?_) (fun c1 => ?_)
  · have ht1 := h.1 c1
    refine hb_iconst (pc := 29) (v := -1) dX11_sign_29 (by decide) ?_
    refine hb_goto (pc := 30) (tgt := 39) dX11_sign_30 (by decide) ?_
    exact hb_iret (pc := 39) dX11_sign_39 rfl ht1
  · have ht1 := h.2 c1
    refine hb_iload_n (pc := 17) (i := 2) dX11_sign_17 rfl rfl ?_
    refine hb_if_lt (pc := 18) (tgt := 29) dX11_sign_18 (by decide) (fun c2 => ?_) (fun c2 => ?_)
    · have ht2 := ht1.1 c2
      refine hb_iconst (pc := 29) (v := -1) dX11_sign_29 (by decide) ?_
      refine hb_goto (pc := 30) (tgt := 39) dX11_sign_30 (by decide) ?_
      exact hb_iret (pc := 39) dX11_sign_39 rfl ht2
    · have ht2 := ht1.2 c2
      refine hb_iload_n (pc := 21) (i := 2) dX11_sign_21 rfl rfl ?_
      refine hb_aload_n (pc := 22) (i := 3) dX11_sign_22 rfl rfl ?_
      refine hb_getIx (pc := 23) (x := hb_fI w 9 0 gs0) dX11_sign_23 fw_X11_193 cw_0 rfl hgs0 rfl rfl ?_
      refine hb_icmp_lt (pc := 26) (tgt := 33) dX11_sign_26 (by decide) (fun c3 => ?_) (fun c3 => ?_)
      · have ht3 := ht2.1 c3
        refine hb_aload_n (pc := 33) (i := 3) dX11_sign_33 rfl rfl ?_
        refine hb_getR (pc := 34) (g1 := gs0) dX11_sign_34 fw_X11_213 cw_0 rfl hgs0 rfl (by decide) rfl ?_
        refine hb_iload_n (pc := 37) (i := 2) dX11_sign_37 rfl rfl ?_
        obtain ⟨ho4, hr4⟩ := ht3
        refine hb_ialdx (pc := 38) (x := hb_aI w 9 10 gs0 x2.toNatClampNeg) dX11_sign_38 rfl hgs0 ho4 rfl ?_
        exact hb_iret (pc := 39) dX11_sign_39 rfl hr4
      · have ht3 := ht2.2 c3
        refine hb_iconst (pc := 29) (v := -1) dX11_sign_29 (by decide) ?_
        refine hb_goto (pc := 30) (tgt := 39) dX11_sign_30 (by decide) ?_
        exact hb_iret (pc := 39) dX11_sign_39 rfl ht3
set_option maxRecDepth 20000 in
theorem bk_X11_sign_5N {d : Nat} {w : hb_W} {Q : Option hb_V → hb_W → Prop} {x1 : Int32} {x2 : Int32} (h : Q (some (hb_i (-1 : Int32))) w) : hb_R yX11_sign cX11_sign 4 (some .int) (d + 1) 5 [some (hb_r 0 0 0), some (hb_i x1), some (hb_i x2), none] [hb_n] w Q := by
  refine hb_astore_nN (pc := 5) (i := 3) (ls1 := [some (hb_r 0 0 0), some (hb_i x1), some (hb_i x2), some (hb_n)]) dX11_sign_5 rfl (by decide) rfl ?_
  refine hb_aload_nN (pc := 6) (i := 3) dX11_sign_6 rfl rfl ?_
  refine hb_ifnullN (pc := 7) (tgt := 29) dX11_sign_7 (by decide) ?_
  refine hb_iconst (pc := 29) (v := -1) dX11_sign_29 (by decide) ?_
  refine hb_goto (pc := 30) (tgt := 39) dX11_sign_30 (by decide) ?_
  exact hb_iret (pc := 39) dX11_sign_39 rfl h
theorem dX11_lot_0 : decode cX11_lot 0 = .ok (.iload_n 1, 1) := by decide +kernel
theorem dX11_lot_1 : decode cX11_lot 1 = .ok (.ifCond .lt 24, 3) := by decide +kernel
theorem dX11_lot_4 : decode cX11_lot 4 = .ok (.iload_n 1, 1) := by decide +kernel
theorem dX11_lot_5 : decode cX11_lot 5 = .ok (.aload_n 0, 1) := by decide +kernel
theorem dX11_lot_6 : decode cX11_lot 6 = .ok (.getfield 79, 3) := by decide +kernel
theorem dX11_lot_9 : decode cX11_lot 9 = .ok (.getfield 127, 3) := by decide +kernel
theorem dX11_lot_12 : decode cX11_lot 12 = .ok (.if_icmp .ge 13, 3) := by decide +kernel
theorem dX11_lot_15 : decode cX11_lot 15 = .ok (.aload_n 0, 1) := by decide +kernel
theorem dX11_lot_16 : decode cX11_lot 16 = .ok (.getfield 52, 3) := by decide +kernel
theorem dX11_lot_19 : decode cX11_lot 19 = .ok (.getfield 141, 3) := by decide +kernel
theorem dX11_lot_22 : decode cX11_lot 22 = .ok (.ifCond .ne 7, 3) := by decide +kernel
theorem dX11_lot_25 : decode cX11_lot 25 = .ok (.iconst (-1), 1) := by decide +kernel
theorem dX11_lot_26 : decode cX11_lot 26 = .ok (.goto 12, 3) := by decide +kernel
theorem dX11_lot_29 : decode cX11_lot 29 = .ok (.aload_n 0, 1) := by decide +kernel
theorem dX11_lot_30 : decode cX11_lot 30 = .ok (.getfield 52, 3) := by decide +kernel
theorem dX11_lot_33 : decode cX11_lot 33 = .ok (.getfield 216, 3) := by decide +kernel
theorem dX11_lot_36 : decode cX11_lot 36 = .ok (.iload_n 1, 1) := by decide +kernel
theorem dX11_lot_37 : decode cX11_lot 37 = .ok (.iaload, 1) := by decide +kernel
theorem dX11_lot_38 : decode cX11_lot 38 = .ok (.ireturn, 1) := by decide +kernel
set_option maxRecDepth 20000 in
theorem bk_X11_lot_0 {d : Nat} {w : hb_W} {Q : Option hb_V → hb_W → Prop} {x1 : Int32} (h : ((x1 < 0) → Q (some (hb_i (-1 : Int32))) w) ∧ ((¬ x1 < 0) → (hb_fR w 0 8 0) < hb_ct 11 ∧ ((((hb_fI w 11 1 (hb_fR w 0 8 0)) ≤ x1) → Q (some (hb_i (-1 : Int32))) w) ∧ ((¬ (hb_fI w 11 1 (hb_fR w 0 8 0)) ≤ x1) → ((¬ (hb_fI w 7 3 0) = 0) → vp_in x1 9 ∧ (Q (some (hb_i (hb_aI w 7 4 0 x1.toNatClampNeg))) w)) ∧ (((hb_fI w 7 3 0) = 0) → Q (some (hb_i (-1 : Int32))) w))))) : hb_R yX11_lot cX11_lot 2 (some .int) d 0 [some (hb_r 0 0 0), some (hb_i x1)] [] w Q := by
  refine hb_iload_n (pc := 0) (i := 1) dX11_lot_0 rfl rfl ?_
  refine hb_if_lt (pc := 1) (tgt := 25) dX11_lot_1 (by decide) (fun c1 => ?_) (fun c1 => ?_)
  · have ht1 := h.1 c1
    refine hb_iconst (pc := 25) (v := -1) dX11_lot_25 (by decide) ?_
    refine hb_goto (pc := 26) (tgt := 38) dX11_lot_26 (by decide) ?_
    exact hb_iret (pc := 38) dX11_lot_38 rfl ht1
  · have ht1 := h.2 c1
    refine hb_iload_n (pc := 4) (i := 1) dX11_lot_4 rfl rfl ?_
    refine hb_aload_n (pc := 5) (i := 0) dX11_lot_5 rfl rfl ?_
    refine hb_getR (pc := 6) (g1 := hb_fR w 0 8 0) dX11_lot_6 fw_X11_79 cw_11 rfl (by decide) rfl (by decide) rfl ?_
    obtain ⟨ho2, hr2⟩ := ht1
    refine hb_getIx (pc := 9) (x := hb_fI w 11 1 (hb_fR w 0 8 0)) dX11_lot_9 fw_X11_127 cw_6 rfl ho2 rfl rfl ?_
    refine hb_icmp_ge (pc := 12) (tgt := 25) dX11_lot_12 (by decide) (fun c3 => ?_) (fun c3 => ?_)
    · have ht3 := hr2.1 c3
      refine hb_iconst (pc := 25) (v := -1) dX11_lot_25 (by decide) ?_
      refine hb_goto (pc := 26) (tgt := 38) dX11_lot_26 (by decide) ?_
      exact hb_iret (pc := 38) dX11_lot_38 rfl ht3
    · have ht3 := hr2.2 c3
      refine hb_aload_n (pc := 15) (i := 0) dX11_lot_15 rfl rfl ?_
      refine hb_getR (pc := 16) (g1 := 0) dX11_lot_16 fw_X11_52 cw_11 rfl (by decide) rfl (by decide) rfl ?_
      refine hb_getIx (pc := 19) (x := hb_fI w 7 3 0) dX11_lot_19 fw_X11_141 cw_8 rfl (by decide) rfl rfl ?_
      refine hb_if_ne (pc := 22) (tgt := 29) dX11_lot_22 (by decide) (fun c4 => ?_) (fun c4 => ?_)
      · have ht4 := ht3.1 c4
        refine hb_aload_n (pc := 29) (i := 0) dX11_lot_29 rfl rfl ?_
        refine hb_getR (pc := 30) (g1 := 0) dX11_lot_30 fw_X11_52 cw_11 rfl (by decide) rfl (by decide) rfl ?_
        refine hb_getR (pc := 33) (g1 := 0) dX11_lot_33 fw_X11_216 cw_8 rfl (by decide) rfl (by decide) rfl ?_
        refine hb_iload_n (pc := 36) (i := 1) dX11_lot_36 rfl rfl ?_
        obtain ⟨ho5, hr5⟩ := ht4
        refine hb_ialdx (pc := 37) (x := hb_aI w 7 4 0 x1.toNatClampNeg) dX11_lot_37 rfl (by decide) ho5 rfl ?_
        exact hb_iret (pc := 38) dX11_lot_38 rfl hr5
      · have ht4 := ht3.2 c4
        refine hb_iconst (pc := 25) (v := -1) dX11_lot_25 (by decide) ?_
        refine hb_goto (pc := 26) (tgt := 38) dX11_lot_26 (by decide) ?_
        exact hb_iret (pc := 38) dX11_lot_38 rfl ht4
theorem dX11_says_0 : decode cX11_says 0 = .ok (.aload_n 0, 1) := by decide +kernel
theorem dX11_says_1 : decode cX11_says 1 = .ok (.iload_n 1, 1) := by decide +kernel
theorem dX11_says_2 : decode cX11_says 2 = .ok (.invokevirtual 178, 3) := by decide +kernel
theorem dX11_says_5 : decode cX11_says 5 = .ok (.astore_n 3, 1) := by decide +kernel
theorem dX11_says_6 : decode cX11_says 6 = .ok (.aload_n 3, 1) := by decide +kernel
theorem dX11_says_7 : decode cX11_says 7 = .ok (.ifnonnull 5, 3) := by decide +kernel
theorem dX11_says_10 : decode cX11_says 10 = .ok (.iconst (-1), 1) := by decide +kernel
theorem dX11_says_11 : decode cX11_says 11 = .ok (.ireturn, 1) := by decide +kernel
theorem dX11_says_12 : decode cX11_says 12 = .ok (.iload_n 2, 1) := by decide +kernel
theorem dX11_says_13 : decode cX11_says 13 = .ok (.tableswitch 51 0 3 #[31, 36, 41, 46], 31) := by decide +kernel
theorem dX11_says_44 : decode cX11_says 44 = .ok (.aload_n 3, 1) := by decide +kernel
theorem dX11_says_45 : decode cX11_says 45 = .ok (.invokevirtual 219, 3) := by decide +kernel
theorem dX11_says_48 : decode cX11_says 48 = .ok (.ireturn, 1) := by decide +kernel
theorem dX11_says_49 : decode cX11_says 49 = .ok (.aload_n 3, 1) := by decide +kernel
theorem dX11_says_50 : decode cX11_says 50 = .ok (.invokevirtual 222, 3) := by decide +kernel
theorem dX11_says_53 : decode cX11_says 53 = .ok (.ireturn, 1) := by decide +kernel
theorem dX11_says_54 : decode cX11_says 54 = .ok (.aload_n 3, 1) := by decide +kernel
theorem dX11_says_55 : decode cX11_says 55 = .ok (.invokevirtual 225, 3) := by decide +kernel
theorem dX11_says_58 : decode cX11_says 58 = .ok (.ireturn, 1) := by decide +kernel
theorem dX11_says_59 : decode cX11_says 59 = .ok (.aload_n 3, 1) := by decide +kernel
theorem dX11_says_60 : decode cX11_says 60 = .ok (.invokevirtual 228, 3) := by decide +kernel
theorem dX11_says_63 : decode cX11_says 63 = .ok (.ireturn, 1) := by decide +kernel
theorem dX11_says_64 : decode cX11_says 64 = .ok (.iconst (-1), 1) := by decide +kernel
theorem dX11_says_65 : decode cX11_says 65 = .ok (.ireturn, 1) := by decide +kernel
set_option maxRecDepth 20000 in
theorem bk_X11_says_0 {d : Nat} {w : hb_W} {Q : Option hb_V → hb_W → Prop} {x1 : Int32} {x2 : Int32} (h : hb_O yX11_bookNow cX11_bookNow 2 (some (.object "HoodBook$Book")) d [hb_r 0 0 0, hb_i x1] w (fun rv w1 => hb_R yX11_says cX11_says 4 (some .int) (d + 1) 5 [some (hb_r 0 0 0), some (hb_i x1), some (hb_i x2), none] (rv.toList ++ []) w1 Q)) : hb_R yX11_says cX11_says 4 (some .int) (d + 1) 0 [some (hb_r 0 0 0), some (hb_i x1), some (hb_i x2), none] [] w Q := by
  refine hb_aload_n (pc := 0) (i := 0) dX11_says_0 rfl rfl ?_
  refine hb_iload_n (pc := 1) (i := 1) dX11_says_1 rfl rfl ?_
  exact hb_callV (pc := 2) (As := [hb_i x1]) (st := []) dX11_says_2 ml_X11_178 mf_X11_bookNow mi_X11_bookNow (ci := 11) rfl rfl (by decide) rfl rfl (Nat.le_of_ble_eq_true rfl) (Nat.le_of_ble_eq_true rfl) h (fun _ _ q => q)
set_option maxRecDepth 20000 in
theorem bk_X11_says_5 {d : Nat} {w : hb_W} {Q : Option hb_V → hb_W → Prop} {x1 : Int32} {x2 : Int32} {gs0 : Nat} (hgs0 : gs0 < hb_ct 9) (h : (x2 = (0 : Int32) → hb_O yX0_unlikeSaid cX0_unlikeSaid 2 (some .int) d [hb_r 9 gs0 0] w (fun rv w1 => hb_R yX11_says cX11_says 4 (some .int) (d + 1) 48 [some (hb_r 0 0 0), some (hb_i x1), some (hb_i x2), some (hb_r 9 gs0 0)] (rv.toList ++ []) w1 Q)) ∧ (x2 = (1 : Int32) → hb_O yX0_runsSaid cX0_runsSaid 1 (some .int) d [hb_r 9 gs0 0] w (fun rv w1 => hb_R yX11_says cX11_says 4 (some .int) (d + 1) 53 [some (hb_r 0 0 0), some (hb_i x1), some (hb_i x2), some (hb_r 9 gs0 0)] (rv.toList ++ []) w1 Q)) ∧ (x2 = (2 : Int32) → hb_O yX0_middleSaid cX0_middleSaid 3 (some .int) d [hb_r 9 gs0 0] w (fun rv w1 => hb_R yX11_says cX11_says 4 (some .int) (d + 1) 58 [some (hb_r 0 0 0), some (hb_i x1), some (hb_i x2), some (hb_r 9 gs0 0)] (rv.toList ++ []) w1 Q)) ∧ (x2 = (3 : Int32) → hb_O yX0_oftenestSaid cX0_oftenestSaid 4 (some .int) d [hb_r 9 gs0 0] w (fun rv w1 => hb_R yX11_says cX11_says 4 (some .int) (d + 1) 63 [some (hb_r 0 0 0), some (hb_i x1), some (hb_i x2), some (hb_r 9 gs0 0)] (rv.toList ++ []) w1 Q)) ∧ (¬ x2 = (0 : Int32) → ¬ x2 = (1 : Int32) → ¬ x2 = (2 : Int32) → ¬ x2 = (3 : Int32) → Q (some (hb_i (-1 : Int32))) w)) : hb_R yX11_says cX11_says 4 (some .int) (d + 1) 5 [some (hb_r 0 0 0), some (hb_i x1), some (hb_i x2), none] [hb_r 9 gs0 0] w Q := by
  refine hb_astore_n (pc := 5) (i := 3) (ls1 := [some (hb_r 0 0 0), some (hb_i x1), some (hb_i x2), some (hb_r 9 gs0 0)]) dX11_says_5 rfl (by decide) rfl ?_
  refine hb_aload_n (pc := 6) (i := 3) dX11_says_6 rfl rfl ?_
  refine hb_ifnonnull (pc := 7) (tgt := 12) dX11_says_7 (by decide) ?_
  refine hb_iload_n (pc := 12) (i := 2) dX11_says_12 rfl rfl ?_
  by_cases e1_0 : x2 = (0 : Int32)
  · have hk1_0 := h.1 e1_0
    have ei : x2.toInt = 0 := by rw [e1_0]; rfl
    refine hb_tabIn (pc := 13) (tgt := 44) (off := 31) dX11_says_13 (by rw [ei]; decide) (by rw [ei]; decide) (by rw [ei]; rfl) (by decide) ?_
    refine hb_aload_n (pc := 44) (i := 3) dX11_says_44 rfl rfl ?_
    exact hb_callV (pc := 45) (As := []) (st := []) dX11_says_45 ml_X11_219 mf_X0_unlikeSaid mi_X0_unlikeSaid (ci := 0) rfl rfl hgs0 rfl rfl (Nat.le_of_ble_eq_true rfl) (Nat.le_of_ble_eq_true rfl) hk1_0 (fun _ _ q => q)
  by_cases e1_1 : x2 = (1 : Int32)
  · have hk1_1 := h.2.1 e1_1
    have ei : x2.toInt = 1 := by rw [e1_1]; rfl
    refine hb_tabIn (pc := 13) (tgt := 49) (off := 36) dX11_says_13 (by rw [ei]; decide) (by rw [ei]; decide) (by rw [ei]; rfl) (by decide) ?_
    refine hb_aload_n (pc := 49) (i := 3) dX11_says_49 rfl rfl ?_
    exact hb_callV (pc := 50) (As := []) (st := []) dX11_says_50 ml_X11_222 mf_X0_runsSaid mi_X0_runsSaid (ci := 0) rfl rfl hgs0 rfl rfl (Nat.le_of_ble_eq_true rfl) (Nat.le_of_ble_eq_true rfl) hk1_1 (fun _ _ q => q)
  by_cases e1_2 : x2 = (2 : Int32)
  · have hk1_2 := h.2.2.1 e1_2
    have ei : x2.toInt = 2 := by rw [e1_2]; rfl
    refine hb_tabIn (pc := 13) (tgt := 54) (off := 41) dX11_says_13 (by rw [ei]; decide) (by rw [ei]; decide) (by rw [ei]; rfl) (by decide) ?_
    refine hb_aload_n (pc := 54) (i := 3) dX11_says_54 rfl rfl ?_
    exact hb_callV (pc := 55) (As := []) (st := []) dX11_says_55 ml_X11_225 mf_X0_middleSaid mi_X0_middleSaid (ci := 0) rfl rfl hgs0 rfl rfl (Nat.le_of_ble_eq_true rfl) (Nat.le_of_ble_eq_true rfl) hk1_2 (fun _ _ q => q)
  by_cases e1_3 : x2 = (3 : Int32)
  · have hk1_3 := h.2.2.2.1 e1_3
    have ei : x2.toInt = 3 := by rw [e1_3]; rfl
    refine hb_tabIn (pc := 13) (tgt := 59) (off := 46) dX11_says_13 (by rw [ei]; decide) (by rw [ei]; decide) (by rw [ei]; rfl) (by decide) ?_
    refine hb_aload_n (pc := 59) (i := 3) dX11_says_59 rfl rfl ?_
    exact hb_callV (pc := 60) (As := []) (st := []) dX11_says_60 ml_X11_228 mf_X0_oftenestSaid mi_X0_oftenestSaid (ci := 0) rfl rfl hgs0 rfl rfl (Nat.le_of_ble_eq_true rfl) (Nat.le_of_ble_eq_true rfl) hk1_3 (fun _ _ q => q)
  have hk1_d := h.2.2.2.2 e1_0 e1_1 e1_2 e1_3
  have n1_0 := lv_neT (a := 0) e1_0 rfl
  have n1_1 := lv_neT (a := 1) e1_1 rfl
  have n1_2 := lv_neT (a := 2) e1_2 rfl
  have n1_3 := lv_neT (a := 3) e1_3 rfl
  refine hb_tabOut (pc := 13) (tgt := 64) dX11_says_13 (by omega) (by decide) ?_
  refine hb_iconst (pc := 64) (v := -1) dX11_says_64 (by decide) ?_
  exact hb_iret (pc := 65) dX11_says_65 rfl hk1_d
set_option maxRecDepth 20000 in
theorem bk_X11_says_5N {d : Nat} {w : hb_W} {Q : Option hb_V → hb_W → Prop} {x1 : Int32} {x2 : Int32} (h : Q (some (hb_i (-1 : Int32))) w) : hb_R yX11_says cX11_says 4 (some .int) (d + 1) 5 [some (hb_r 0 0 0), some (hb_i x1), some (hb_i x2), none] [hb_n] w Q := by
  refine hb_astore_nN (pc := 5) (i := 3) (ls1 := [some (hb_r 0 0 0), some (hb_i x1), some (hb_i x2), some (hb_n)]) dX11_says_5 rfl (by decide) rfl ?_
  refine hb_aload_nN (pc := 6) (i := 3) dX11_says_6 rfl rfl ?_
  refine hb_ifnonnullN (pc := 7) dX11_says_7 ?_
  refine hb_iconst (pc := 10) (v := -1) dX11_says_10 (by decide) ?_
  exact hb_iret (pc := 11) dX11_says_11 rfl h
set_option maxRecDepth 20000 in
theorem bk_X11_says_48 {d : Nat} {w : hb_W} {Q : Option hb_V → hb_W → Prop} {x1 : Int32} {x2 : Int32} {g3 : Nat} {xs0 : Int32} (hg3 : g3 < hb_ct 9) (h : Q (some (hb_i xs0)) w) : hb_R yX11_says cX11_says 4 (some .int) (d + 1) 48 [some (hb_r 0 0 0), some (hb_i x1), some (hb_i x2), some (hb_r 9 g3 0)] [hb_i xs0] w Q := by
  exact hb_iret (pc := 48) dX11_says_48 rfl h
set_option maxRecDepth 20000 in
theorem bk_X11_says_53 {d : Nat} {w : hb_W} {Q : Option hb_V → hb_W → Prop} {x1 : Int32} {x2 : Int32} {g3 : Nat} {xs0 : Int32} (hg3 : g3 < hb_ct 9) (h : Q (some (hb_i xs0)) w) : hb_R yX11_says cX11_says 4 (some .int) (d + 1) 53 [some (hb_r 0 0 0), some (hb_i x1), some (hb_i x2), some (hb_r 9 g3 0)] [hb_i xs0] w Q := by
  exact hb_iret (pc := 53) dX11_says_53 rfl h
set_option maxRecDepth 20000 in
theorem bk_X11_says_58 {d : Nat} {w : hb_W} {Q : Option hb_V → hb_W → Prop} {x1 : Int32} {x2 : Int32} {g3 : Nat} {xs0 : Int32} (hg3 : g3 < hb_ct 9) (h : Q (some (hb_i xs0)) w) : hb_R yX11_says cX11_says 4 (some .int) (d + 1) 58 [some (hb_r 0 0 0), some (hb_i x1), some (hb_i x2), some (hb_r 9 g3 0)] [hb_i xs0] w Q := by
  exact hb_iret (pc := 58) dX11_says_58 rfl h
set_option maxRecDepth 20000 in
theorem bk_X11_says_63 {d : Nat} {w : hb_W} {Q : Option hb_V → hb_W → Prop} {x1 : Int32} {x2 : Int32} {g3 : Nat} {xs0 : Int32} (hg3 : g3 < hb_ct 9) (h : Q (some (hb_i xs0)) w) : hb_R yX11_says cX11_says 4 (some .int) (d + 1) 63 [some (hb_r 0 0 0), some (hb_i x1), some (hb_i x2), some (hb_r 9 g3 0)] [hb_i xs0] w Q := by
  exact hb_iret (pc := 63) dX11_says_63 rfl h
theorem dX11_told_0 : decode cX11_told 0 = .ok (.aload_n 0, 1) := by decide +kernel
theorem dX11_told_1 : decode cX11_told 1 = .ok (.iload_n 1, 1) := by decide +kernel
theorem dX11_told_2 : decode cX11_told 2 = .ok (.invokevirtual 178, 3) := by decide +kernel
theorem dX11_told_5 : decode cX11_told 5 = .ok (.astore_n 3, 1) := by decide +kernel
theorem dX11_told_6 : decode cX11_told 6 = .ok (.aload_n 3, 1) := by decide +kernel
theorem dX11_told_7 : decode cX11_told 7 = .ok (.ifnull 10, 3) := by decide +kernel
theorem dX11_told_10 : decode cX11_told 10 = .ok (.iload_n 2, 1) := by decide +kernel
theorem dX11_told_11 : decode cX11_told 11 = .ok (.invokestatic 154, 3) := by decide +kernel
theorem dX11_told_14 : decode cX11_told 14 = .ok (.ifCond .ne 7, 3) := by decide +kernel
theorem dX11_told_17 : decode cX11_told 17 = .ok (.iconst (-1), 1) := by decide +kernel
theorem dX11_told_18 : decode cX11_told 18 = .ok (.goto 8, 3) := by decide +kernel
theorem dX11_told_21 : decode cX11_told 21 = .ok (.aload_n 3, 1) := by decide +kernel
theorem dX11_told_22 : decode cX11_told 22 = .ok (.iload_n 2, 1) := by decide +kernel
theorem dX11_told_23 : decode cX11_told 23 = .ok (.invokevirtual 231, 3) := by decide +kernel
theorem dX11_told_26 : decode cX11_told 26 = .ok (.ireturn, 1) := by decide +kernel
set_option maxRecDepth 20000 in
theorem bk_X11_told_0 {d : Nat} {w : hb_W} {Q : Option hb_V → hb_W → Prop} {x1 : Int32} {x2 : Int32} (h : hb_O yX11_bookNow cX11_bookNow 2 (some (.object "HoodBook$Book")) d [hb_r 0 0 0, hb_i x1] w (fun rv w1 => hb_R yX11_told cX11_told 4 (some .int) (d + 1) 5 [some (hb_r 0 0 0), some (hb_i x1), some (hb_i x2), none] (rv.toList ++ []) w1 Q)) : hb_R yX11_told cX11_told 4 (some .int) (d + 1) 0 [some (hb_r 0 0 0), some (hb_i x1), some (hb_i x2), none] [] w Q := by
  refine hb_aload_n (pc := 0) (i := 0) dX11_told_0 rfl rfl ?_
  refine hb_iload_n (pc := 1) (i := 1) dX11_told_1 rfl rfl ?_
  exact hb_callV (pc := 2) (As := [hb_i x1]) (st := []) dX11_told_2 ml_X11_178 mf_X11_bookNow mi_X11_bookNow (ci := 11) rfl rfl (by decide) rfl rfl (Nat.le_of_ble_eq_true rfl) (Nat.le_of_ble_eq_true rfl) h (fun _ _ q => q)
set_option maxRecDepth 20000 in
theorem bk_X11_told_5 {d : Nat} {w : hb_W} {Q : Option hb_V → hb_W → Prop} {x1 : Int32} {x2 : Int32} {gs0 : Nat} (hgs0 : gs0 < hb_ct 9) (h : hb_O yX11_isHood cX11_isHood 1 (some .boolean) d [hb_i x2] w (fun rv w1 => hb_R yX11_told cX11_told 4 (some .int) (d + 1) 14 [some (hb_r 0 0 0), some (hb_i x1), some (hb_i x2), some (hb_r 9 gs0 0)] (rv.toList ++ []) w1 Q)) : hb_R yX11_told cX11_told 4 (some .int) (d + 1) 5 [some (hb_r 0 0 0), some (hb_i x1), some (hb_i x2), none] [hb_r 9 gs0 0] w Q := by
  refine hb_astore_n (pc := 5) (i := 3) (ls1 := [some (hb_r 0 0 0), some (hb_i x1), some (hb_i x2), some (hb_r 9 gs0 0)]) dX11_told_5 rfl (by decide) rfl ?_
  refine hb_aload_n (pc := 6) (i := 3) dX11_told_6 rfl rfl ?_
  refine hb_ifnull (pc := 7) dX11_told_7 ?_
  refine hb_iload_n (pc := 10) (i := 2) dX11_told_10 rfl rfl ?_
  exact hb_callS (pc := 11) (As := [hb_i x2]) (st := []) dX11_told_11 ml_X11_154 mf_X11_isHood ms_X11_isHood rfl rfl (Nat.le_of_ble_eq_true rfl) (Nat.le_of_ble_eq_true rfl) h (fun _ _ q => q)
set_option maxRecDepth 20000 in
theorem bk_X11_told_5N {d : Nat} {w : hb_W} {Q : Option hb_V → hb_W → Prop} {x1 : Int32} {x2 : Int32} (h : hb_R yX11_told cX11_told 4 (some .int) (d + 1) 26 [some (hb_r 0 0 0), some (hb_i x1), some (hb_i x2), some (hb_n)] [hb_i (-1 : Int32)] w Q) : hb_R yX11_told cX11_told 4 (some .int) (d + 1) 5 [some (hb_r 0 0 0), some (hb_i x1), some (hb_i x2), none] [hb_n] w Q := by
  refine hb_astore_nN (pc := 5) (i := 3) (ls1 := [some (hb_r 0 0 0), some (hb_i x1), some (hb_i x2), some (hb_n)]) dX11_told_5 rfl (by decide) rfl ?_
  refine hb_aload_nN (pc := 6) (i := 3) dX11_told_6 rfl rfl ?_
  refine hb_ifnullN (pc := 7) (tgt := 17) dX11_told_7 (by decide) ?_
  refine hb_iconst (pc := 17) (v := -1) dX11_told_17 (by decide) ?_
  refine hb_goto (pc := 18) (tgt := 26) dX11_told_18 (by decide) ?_
  exact h
set_option maxRecDepth 20000 in
theorem bk_X11_told_14 {d : Nat} {w : hb_W} {Q : Option hb_V → hb_W → Prop} {x1 : Int32} {x2 : Int32} {g3 : Nat} {xs0 : Int32} (hg3 : g3 < hb_ct 9) (h : ((¬ xs0 = 0) → hb_O yX0_toldOf cX0_toldOf 4 (some .int) d [hb_r 9 g3 0, hb_i x2] w (fun rv w1 => hb_R yX11_told cX11_told 4 (some .int) (d + 1) 26 [some (hb_r 0 0 0), some (hb_i x1), some (hb_i x2), some (hb_r 9 g3 0)] (rv.toList ++ []) w1 Q)) ∧ ((xs0 = 0) → hb_R yX11_told cX11_told 4 (some .int) (d + 1) 26 [some (hb_r 0 0 0), some (hb_i x1), some (hb_i x2), some (hb_r 9 g3 0)] [hb_i (-1 : Int32)] w Q)) : hb_R yX11_told cX11_told 4 (some .int) (d + 1) 14 [some (hb_r 0 0 0), some (hb_i x1), some (hb_i x2), some (hb_r 9 g3 0)] [hb_i xs0] w Q := by
  refine hb_if_ne (pc := 14) (tgt := 21) dX11_told_14 (by decide) (fun c1 => ?_) (fun c1 => ?_)
  · have ht1 := h.1 c1
    refine hb_aload_n (pc := 21) (i := 3) dX11_told_21 rfl rfl ?_
    refine hb_iload_n (pc := 22) (i := 2) dX11_told_22 rfl rfl ?_
    exact hb_callV (pc := 23) (As := [hb_i x2]) (st := []) dX11_told_23 ml_X11_231 mf_X0_toldOf mi_X0_toldOf (ci := 0) rfl rfl hg3 rfl rfl (Nat.le_of_ble_eq_true rfl) (Nat.le_of_ble_eq_true rfl) ht1 (fun _ _ q => q)
  · have ht1 := h.2 c1
    refine hb_iconst (pc := 17) (v := -1) dX11_told_17 (by decide) ?_
    refine hb_goto (pc := 18) (tgt := 26) dX11_told_18 (by decide) ?_
    exact ht1
set_option maxRecDepth 20000 in
theorem bk_X11_told_26 {d : Nat} {w : hb_W} {Q : Option hb_V → hb_W → Prop} {x1 : Int32} {x2 : Int32} {g3 : Nat} {xs0 : Int32} (hg3 : g3 < hb_ct 9) (h : Q (some (hb_i xs0)) w) : hb_R yX11_told cX11_told 4 (some .int) (d + 1) 26 [some (hb_r 0 0 0), some (hb_i x1), some (hb_i x2), some (hb_r 9 g3 0)] [hb_i xs0] w Q := by
  exact hb_iret (pc := 26) dX11_told_26 rfl h
theorem dX11_was_0 : decode cX11_was 0 = .ok (.aload_n 0, 1) := by decide +kernel
theorem dX11_was_1 : decode cX11_was 1 = .ok (.iload_n 1, 1) := by decide +kernel
theorem dX11_was_2 : decode cX11_was 2 = .ok (.invokevirtual 178, 3) := by decide +kernel
theorem dX11_was_5 : decode cX11_was 5 = .ok (.astore_n 3, 1) := by decide +kernel
theorem dX11_was_6 : decode cX11_was 6 = .ok (.aload_n 3, 1) := by decide +kernel
theorem dX11_was_7 : decode cX11_was 7 = .ok (.ifnull 10, 3) := by decide +kernel
theorem dX11_was_10 : decode cX11_was 10 = .ok (.iload_n 2, 1) := by decide +kernel
theorem dX11_was_11 : decode cX11_was 11 = .ok (.invokestatic 154, 3) := by decide +kernel
theorem dX11_was_14 : decode cX11_was 14 = .ok (.ifCond .ne 5, 3) := by decide +kernel
theorem dX11_was_17 : decode cX11_was 17 = .ok (.iconst (-1), 1) := by decide +kernel
theorem dX11_was_18 : decode cX11_was 18 = .ok (.ireturn, 1) := by decide +kernel
theorem dX11_was_19 : decode cX11_was 19 = .ok (.aload_n 3, 1) := by decide +kernel
theorem dX11_was_20 : decode cX11_was 20 = .ok (.iload_n 2, 1) := by decide +kernel
theorem dX11_was_21 : decode cX11_was 21 = .ok (.invokevirtual 234, 3) := by decide +kernel
theorem dX11_was_24 : decode cX11_was 24 = .ok (.ifCond .eq 7, 3) := by decide +kernel
theorem dX11_was_27 : decode cX11_was 27 = .ok (.iconst 1, 1) := by decide +kernel
theorem dX11_was_28 : decode cX11_was 28 = .ok (.goto 4, 3) := by decide +kernel
theorem dX11_was_31 : decode cX11_was 31 = .ok (.iconst 0, 1) := by decide +kernel
theorem dX11_was_32 : decode cX11_was 32 = .ok (.ireturn, 1) := by decide +kernel
set_option maxRecDepth 20000 in
theorem bk_X11_was_0 {d : Nat} {w : hb_W} {Q : Option hb_V → hb_W → Prop} {x1 : Int32} {x2 : Int32} (h : hb_O yX11_bookNow cX11_bookNow 2 (some (.object "HoodBook$Book")) d [hb_r 0 0 0, hb_i x1] w (fun rv w1 => hb_R yX11_was cX11_was 4 (some .int) (d + 1) 5 [some (hb_r 0 0 0), some (hb_i x1), some (hb_i x2), none] (rv.toList ++ []) w1 Q)) : hb_R yX11_was cX11_was 4 (some .int) (d + 1) 0 [some (hb_r 0 0 0), some (hb_i x1), some (hb_i x2), none] [] w Q := by
  refine hb_aload_n (pc := 0) (i := 0) dX11_was_0 rfl rfl ?_
  refine hb_iload_n (pc := 1) (i := 1) dX11_was_1 rfl rfl ?_
  exact hb_callV (pc := 2) (As := [hb_i x1]) (st := []) dX11_was_2 ml_X11_178 mf_X11_bookNow mi_X11_bookNow (ci := 11) rfl rfl (by decide) rfl rfl (Nat.le_of_ble_eq_true rfl) (Nat.le_of_ble_eq_true rfl) h (fun _ _ q => q)
set_option maxRecDepth 20000 in
theorem bk_X11_was_5 {d : Nat} {w : hb_W} {Q : Option hb_V → hb_W → Prop} {x1 : Int32} {x2 : Int32} {gs0 : Nat} (hgs0 : gs0 < hb_ct 9) (h : hb_O yX11_isHood cX11_isHood 1 (some .boolean) d [hb_i x2] w (fun rv w1 => hb_R yX11_was cX11_was 4 (some .int) (d + 1) 14 [some (hb_r 0 0 0), some (hb_i x1), some (hb_i x2), some (hb_r 9 gs0 0)] (rv.toList ++ []) w1 Q)) : hb_R yX11_was cX11_was 4 (some .int) (d + 1) 5 [some (hb_r 0 0 0), some (hb_i x1), some (hb_i x2), none] [hb_r 9 gs0 0] w Q := by
  refine hb_astore_n (pc := 5) (i := 3) (ls1 := [some (hb_r 0 0 0), some (hb_i x1), some (hb_i x2), some (hb_r 9 gs0 0)]) dX11_was_5 rfl (by decide) rfl ?_
  refine hb_aload_n (pc := 6) (i := 3) dX11_was_6 rfl rfl ?_
  refine hb_ifnull (pc := 7) dX11_was_7 ?_
  refine hb_iload_n (pc := 10) (i := 2) dX11_was_10 rfl rfl ?_
  exact hb_callS (pc := 11) (As := [hb_i x2]) (st := []) dX11_was_11 ml_X11_154 mf_X11_isHood ms_X11_isHood rfl rfl (Nat.le_of_ble_eq_true rfl) (Nat.le_of_ble_eq_true rfl) h (fun _ _ q => q)
set_option maxRecDepth 20000 in
theorem bk_X11_was_5N {d : Nat} {w : hb_W} {Q : Option hb_V → hb_W → Prop} {x1 : Int32} {x2 : Int32} (h : Q (some (hb_i (-1 : Int32))) w) : hb_R yX11_was cX11_was 4 (some .int) (d + 1) 5 [some (hb_r 0 0 0), some (hb_i x1), some (hb_i x2), none] [hb_n] w Q := by
  refine hb_astore_nN (pc := 5) (i := 3) (ls1 := [some (hb_r 0 0 0), some (hb_i x1), some (hb_i x2), some (hb_n)]) dX11_was_5 rfl (by decide) rfl ?_
  refine hb_aload_nN (pc := 6) (i := 3) dX11_was_6 rfl rfl ?_
  refine hb_ifnullN (pc := 7) (tgt := 17) dX11_was_7 (by decide) ?_
  refine hb_iconst (pc := 17) (v := -1) dX11_was_17 (by decide) ?_
  exact hb_iret (pc := 18) dX11_was_18 rfl h
set_option maxRecDepth 20000 in
theorem bk_X11_was_14 {d : Nat} {w : hb_W} {Q : Option hb_V → hb_W → Prop} {x1 : Int32} {x2 : Int32} {g3 : Nat} {xs0 : Int32} (hg3 : g3 < hb_ct 9) (h : ((¬ xs0 = 0) → hb_O yX0_seemsThere cX0_seemsThere 2 (some .boolean) d [hb_r 9 g3 0, hb_i x2] w (fun rv w1 => hb_R yX11_was cX11_was 4 (some .int) (d + 1) 24 [some (hb_r 0 0 0), some (hb_i x1), some (hb_i x2), some (hb_r 9 g3 0)] (rv.toList ++ []) w1 Q)) ∧ ((xs0 = 0) → Q (some (hb_i (-1 : Int32))) w)) : hb_R yX11_was cX11_was 4 (some .int) (d + 1) 14 [some (hb_r 0 0 0), some (hb_i x1), some (hb_i x2), some (hb_r 9 g3 0)] [hb_i xs0] w Q := by
  refine hb_if_ne (pc := 14) (tgt := 19) dX11_was_14 (by decide) (fun c1 => ?_) (fun c1 => ?_)
  · have ht1 := h.1 c1
    refine hb_aload_n (pc := 19) (i := 3) dX11_was_19 rfl rfl ?_
    refine hb_iload_n (pc := 20) (i := 2) dX11_was_20 rfl rfl ?_
    exact hb_callV (pc := 21) (As := [hb_i x2]) (st := []) dX11_was_21 ml_X11_234 mf_X0_seemsThere mi_X0_seemsThere (ci := 0) rfl rfl hg3 rfl rfl (Nat.le_of_ble_eq_true rfl) (Nat.le_of_ble_eq_true rfl) ht1 (fun _ _ q => q)
  · have ht1 := h.2 c1
    refine hb_iconst (pc := 17) (v := -1) dX11_was_17 (by decide) ?_
    exact hb_iret (pc := 18) dX11_was_18 rfl ht1
set_option maxRecDepth 20000 in
theorem bk_X11_was_24 {d : Nat} {w : hb_W} {Q : Option hb_V → hb_W → Prop} {x1 : Int32} {x2 : Int32} {g3 : Nat} {xs0 : Int32} (hg3 : g3 < hb_ct 9) (h : ((xs0 = 0) → Q (some (hb_i (0 : Int32))) w) ∧ ((¬ xs0 = 0) → Q (some (hb_i (1 : Int32))) w)) : hb_R yX11_was cX11_was 4 (some .int) (d + 1) 24 [some (hb_r 0 0 0), some (hb_i x1), some (hb_i x2), some (hb_r 9 g3 0)] [hb_i xs0] w Q := by
  refine hb_if_eq (pc := 24) (tgt := 31) dX11_was_24 (by decide) (fun c1 => ?_) (fun c1 => ?_)
  · have ht1 := h.1 c1
    refine hb_iconst (pc := 31) (v := 0) dX11_was_31 (by decide) ?_
    exact hb_iret (pc := 32) dX11_was_32 rfl ht1
  · have ht1 := h.2 c1
    refine hb_iconst (pc := 27) (v := 1) dX11_was_27 (by decide) ?_
    refine hb_goto (pc := 28) (tgt := 32) dX11_was_28 (by decide) ?_
    exact hb_iret (pc := 32) dX11_was_32 rfl ht1
theorem dX11_alike_0 : decode cX11_alike 0 = .ok (.aload_n 0, 1) := by decide +kernel
theorem dX11_alike_1 : decode cX11_alike 1 = .ok (.getfield 86, 3) := by decide +kernel
theorem dX11_alike_4 : decode cX11_alike 4 = .ok (.ifCond .ne 5, 3) := by decide +kernel
theorem dX11_alike_7 : decode cX11_alike 7 = .ok (.iconst (-1), 1) := by decide +kernel
theorem dX11_alike_8 : decode cX11_alike 8 = .ok (.ireturn, 1) := by decide +kernel
theorem dX11_alike_9 : decode cX11_alike 9 = .ok (.aload_n 0, 1) := by decide +kernel
theorem dX11_alike_10 : decode cX11_alike 10 = .ok (.getfield 61, 3) := by decide +kernel
theorem dX11_alike_13 : decode cX11_alike 13 = .ok (.aload_n 0, 1) := by decide +kernel
theorem dX11_alike_14 : decode cX11_alike 14 = .ok (.getfield 79, 3) := by decide +kernel
theorem dX11_alike_17 : decode cX11_alike 17 = .ok (.aload_n 0, 1) := by decide +kernel
theorem dX11_alike_18 : decode cX11_alike 18 = .ok (.getfield 52, 3) := by decide +kernel
theorem dX11_alike_21 : decode cX11_alike 21 = .ok (.invokevirtual 150, 3) := by decide +kernel
theorem dX11_alike_24 : decode cX11_alike 24 = .ok (.aload_n 0, 1) := by decide +kernel
theorem dX11_alike_25 : decode cX11_alike 25 = .ok (.getfield 61, 3) := by decide +kernel
theorem dX11_alike_28 : decode cX11_alike 28 = .ok (.invokevirtual 237, 3) := by decide +kernel
theorem dX11_alike_31 : decode cX11_alike 31 = .ok (.ireturn, 1) := by decide +kernel
set_option maxRecDepth 20000 in
theorem bk_X11_alike_0 {d : Nat} {w : hb_W} {Q : Option hb_V → hb_W → Prop} (h : ((¬ (hb_fI w 0 10 0) = 0) → hb_O yX4_bringUp cX4_bringUp 5 none d [hb_r 8 0 0, hb_r 11 (hb_fR w 0 8 0) 0, hb_r 7 0 0] w (fun rv w1 => hb_R yX11_alike cX11_alike 1 (some .int) (d + 1) 24 [some (hb_r 0 0 0)] (rv.toList ++ []) w1 Q)) ∧ (((hb_fI w 0 10 0) = 0) → Q (some (hb_i (-1 : Int32))) w)) : hb_R yX11_alike cX11_alike 1 (some .int) (d + 1) 0 [some (hb_r 0 0 0)] [] w Q := by
  refine hb_aload_n (pc := 0) (i := 0) dX11_alike_0 rfl rfl ?_
  refine hb_getIx (pc := 1) (x := hb_fI w 0 10 0) dX11_alike_1 fw_X11_86 cw_11 rfl (by decide) rfl rfl ?_
  refine hb_if_ne (pc := 4) (tgt := 9) dX11_alike_4 (by decide) (fun c1 => ?_) (fun c1 => ?_)
  · have ht1 := h.1 c1
    refine hb_aload_n (pc := 9) (i := 0) dX11_alike_9 rfl rfl ?_
    refine hb_getR (pc := 10) (g1 := 0) dX11_alike_10 fw_X11_61 cw_11 rfl (by decide) rfl (by decide) rfl ?_
    refine hb_aload_n (pc := 13) (i := 0) dX11_alike_13 rfl rfl ?_
    refine hb_getR (pc := 14) (g1 := hb_fR w 0 8 0) dX11_alike_14 fw_X11_79 cw_11 rfl (by decide) rfl (by decide) rfl ?_
    refine hb_aload_n (pc := 17) (i := 0) dX11_alike_17 rfl rfl ?_
    refine hb_getR (pc := 18) (g1 := 0) dX11_alike_18 fw_X11_52 cw_11 rfl (by decide) rfl (by decide) rfl ?_
    exact hb_callV (pc := 21) (As := [hb_r 11 (hb_fR w 0 8 0) 0, hb_r 7 0 0]) (st := []) dX11_alike_21 ml_X11_150 mf_X4_bringUp mi_X4_bringUp (ci := 4) rfl rfl (by decide) rfl rfl (Nat.le_of_ble_eq_true rfl) (Nat.le_of_ble_eq_true rfl) ht1 (fun _ _ q => q)
  · have ht1 := h.2 c1
    refine hb_iconst (pc := 7) (v := -1) dX11_alike_7 (by decide) ?_
    exact hb_iret (pc := 8) dX11_alike_8 rfl ht1
set_option maxRecDepth 20000 in
theorem bk_X11_alike_24 {d : Nat} {w : hb_W} {Q : Option hb_V → hb_W → Prop} (h : hb_O yX4_linesAlike cX4_linesAlike 3 (some .int) d [hb_r 8 0 0] w (fun rv w1 => hb_R yX11_alike cX11_alike 1 (some .int) (d + 1) 31 [some (hb_r 0 0 0)] (rv.toList ++ []) w1 Q)) : hb_R yX11_alike cX11_alike 1 (some .int) (d + 1) 24 [some (hb_r 0 0 0)] [] w Q := by
  refine hb_aload_n (pc := 24) (i := 0) dX11_alike_24 rfl rfl ?_
  refine hb_getR (pc := 25) (g1 := 0) dX11_alike_25 fw_X11_61 cw_11 rfl (by decide) rfl (by decide) rfl ?_
  exact hb_callV (pc := 28) (As := []) (st := []) dX11_alike_28 ml_X11_237 mf_X4_linesAlike mi_X4_linesAlike (ci := 4) rfl rfl (by decide) rfl rfl (Nat.le_of_ble_eq_true rfl) (Nat.le_of_ble_eq_true rfl) h (fun _ _ q => q)
set_option maxRecDepth 20000 in
theorem bk_X11_alike_31 {d : Nat} {w : hb_W} {Q : Option hb_V → hb_W → Prop} {xs0 : Int32} (h : Q (some (hb_i xs0)) w) : hb_R yX11_alike cX11_alike 1 (some .int) (d + 1) 31 [some (hb_r 0 0 0)] [hb_i xs0] w Q := by
  exact hb_iret (pc := 31) dX11_alike_31 rfl h
theorem dX11_truth_0 : decode cX11_truth 0 = .ok (.aload_n 0, 1) := by decide +kernel
theorem dX11_truth_1 : decode cX11_truth 1 = .ok (.iload_n 1, 1) := by decide +kernel
theorem dX11_truth_2 : decode cX11_truth 2 = .ok (.invokevirtual 178, 3) := by decide +kernel
theorem dX11_truth_5 : decode cX11_truth 5 = .ok (.astore_n 3, 1) := by decide +kernel
theorem dX11_truth_6 : decode cX11_truth 6 = .ok (.aload_n 3, 1) := by decide +kernel
theorem dX11_truth_7 : decode cX11_truth 7 = .ok (.ifnonnull 5, 3) := by decide +kernel
theorem dX11_truth_10 : decode cX11_truth 10 = .ok (.iconst (-1), 1) := by decide +kernel
theorem dX11_truth_11 : decode cX11_truth 11 = .ok (.ireturn, 1) := by decide +kernel
theorem dX11_truth_12 : decode cX11_truth 12 = .ok (.aload_n 3, 1) := by decide +kernel
theorem dX11_truth_13 : decode cX11_truth 13 = .ok (.invokevirtual 240, 3) := by decide +kernel
theorem dX11_truth_16 : decode cX11_truth 16 = .ok (.istore 4, 2) := by decide +kernel
theorem dX11_truth_18 : decode cX11_truth 18 = .ok (.iload_n 2, 1) := by decide +kernel
theorem dX11_truth_19 : decode cX11_truth 19 = .ok (.tableswitch 71 0 4 #[33, 38, 43, 46, 66], 33) := by decide +kernel
theorem dX11_truth_52 : decode cX11_truth 52 = .ok (.aload_n 3, 1) := by decide +kernel
theorem dX11_truth_53 : decode cX11_truth 53 = .ok (.getfield 210, 3) := by decide +kernel
theorem dX11_truth_56 : decode cX11_truth 56 = .ok (.ireturn, 1) := by decide +kernel
theorem dX11_truth_57 : decode cX11_truth 57 = .ok (.aload_n 3, 1) := by decide +kernel
theorem dX11_truth_58 : decode cX11_truth 58 = .ok (.getfield 243, 3) := by decide +kernel
theorem dX11_truth_61 : decode cX11_truth 61 = .ok (.ireturn, 1) := by decide +kernel
theorem dX11_truth_62 : decode cX11_truth 62 = .ok (.iload 4, 2) := by decide +kernel
theorem dX11_truth_64 : decode cX11_truth 64 = .ok (.ireturn, 1) := by decide +kernel
theorem dX11_truth_65 : decode cX11_truth 65 = .ok (.iload 4, 2) := by decide +kernel
theorem dX11_truth_67 : decode cX11_truth 67 = .ok (.invokestatic 154, 3) := by decide +kernel
theorem dX11_truth_70 : decode cX11_truth 70 = .ok (.ifCond .eq 13, 3) := by decide +kernel
theorem dX11_truth_73 : decode cX11_truth 73 = .ok (.aload_n 3, 1) := by decide +kernel
theorem dX11_truth_74 : decode cX11_truth 74 = .ok (.getfield 246, 3) := by decide +kernel
theorem dX11_truth_77 : decode cX11_truth 77 = .ok (.iload 4, 2) := by decide +kernel
theorem dX11_truth_79 : decode cX11_truth 79 = .ok (.iaload, 1) := by decide +kernel
theorem dX11_truth_80 : decode cX11_truth 80 = .ok (.goto 4, 3) := by decide +kernel
theorem dX11_truth_83 : decode cX11_truth 83 = .ok (.iconst (-1), 1) := by decide +kernel
theorem dX11_truth_84 : decode cX11_truth 84 = .ok (.ireturn, 1) := by decide +kernel
theorem dX11_truth_85 : decode cX11_truth 85 = .ok (.aload_n 3, 1) := by decide +kernel
theorem dX11_truth_86 : decode cX11_truth 86 = .ok (.invokevirtual 249, 3) := by decide +kernel
theorem dX11_truth_89 : decode cX11_truth 89 = .ok (.ireturn, 1) := by decide +kernel
theorem dX11_truth_90 : decode cX11_truth 90 = .ok (.iconst (-1), 1) := by decide +kernel
theorem dX11_truth_91 : decode cX11_truth 91 = .ok (.ireturn, 1) := by decide +kernel
set_option maxRecDepth 20000 in
theorem bk_X11_truth_0 {d : Nat} {w : hb_W} {Q : Option hb_V → hb_W → Prop} {x1 : Int32} {x2 : Int32} (h : hb_O yX11_bookNow cX11_bookNow 2 (some (.object "HoodBook$Book")) d [hb_r 0 0 0, hb_i x1] w (fun rv w1 => hb_R yX11_truth cX11_truth 5 (some .int) (d + 1) 5 [some (hb_r 0 0 0), some (hb_i x1), some (hb_i x2), none, none] (rv.toList ++ []) w1 Q)) : hb_R yX11_truth cX11_truth 5 (some .int) (d + 1) 0 [some (hb_r 0 0 0), some (hb_i x1), some (hb_i x2), none, none] [] w Q := by
  refine hb_aload_n (pc := 0) (i := 0) dX11_truth_0 rfl rfl ?_
  refine hb_iload_n (pc := 1) (i := 1) dX11_truth_1 rfl rfl ?_
  exact hb_callV (pc := 2) (As := [hb_i x1]) (st := []) dX11_truth_2 ml_X11_178 mf_X11_bookNow mi_X11_bookNow (ci := 11) rfl rfl (by decide) rfl rfl (Nat.le_of_ble_eq_true rfl) (Nat.le_of_ble_eq_true rfl) h (fun _ _ q => q)
set_option maxRecDepth 20000 in
theorem bk_X11_truth_5 {d : Nat} {w : hb_W} {Q : Option hb_V → hb_W → Prop} {x1 : Int32} {x2 : Int32} {gs0 : Nat} (hgs0 : gs0 < hb_ct 9) (h : hb_O yX0_oftenestHood cX0_oftenestHood 4 (some .int) d [hb_r 9 gs0 0] w (fun rv w1 => hb_R yX11_truth cX11_truth 5 (some .int) (d + 1) 16 [some (hb_r 0 0 0), some (hb_i x1), some (hb_i x2), some (hb_r 9 gs0 0), none] (rv.toList ++ []) w1 Q)) : hb_R yX11_truth cX11_truth 5 (some .int) (d + 1) 5 [some (hb_r 0 0 0), some (hb_i x1), some (hb_i x2), none, none] [hb_r 9 gs0 0] w Q := by
  refine hb_astore_n (pc := 5) (i := 3) (ls1 := [some (hb_r 0 0 0), some (hb_i x1), some (hb_i x2), some (hb_r 9 gs0 0), none]) dX11_truth_5 rfl (by decide) rfl ?_
  refine hb_aload_n (pc := 6) (i := 3) dX11_truth_6 rfl rfl ?_
  refine hb_ifnonnull (pc := 7) (tgt := 12) dX11_truth_7 (by decide) ?_
  refine hb_aload_n (pc := 12) (i := 3) dX11_truth_12 rfl rfl ?_
  exact hb_callV (pc := 13) (As := []) (st := []) dX11_truth_13 ml_X11_240 mf_X0_oftenestHood mi_X0_oftenestHood (ci := 0) rfl rfl hgs0 rfl rfl (Nat.le_of_ble_eq_true rfl) (Nat.le_of_ble_eq_true rfl) h (fun _ _ q => q)
set_option maxRecDepth 20000 in
theorem bk_X11_truth_5N {d : Nat} {w : hb_W} {Q : Option hb_V → hb_W → Prop} {x1 : Int32} {x2 : Int32} (h : Q (some (hb_i (-1 : Int32))) w) : hb_R yX11_truth cX11_truth 5 (some .int) (d + 1) 5 [some (hb_r 0 0 0), some (hb_i x1), some (hb_i x2), none, none] [hb_n] w Q := by
  refine hb_astore_nN (pc := 5) (i := 3) (ls1 := [some (hb_r 0 0 0), some (hb_i x1), some (hb_i x2), some (hb_n), none]) dX11_truth_5 rfl (by decide) rfl ?_
  refine hb_aload_nN (pc := 6) (i := 3) dX11_truth_6 rfl rfl ?_
  refine hb_ifnonnullN (pc := 7) dX11_truth_7 ?_
  refine hb_iconst (pc := 10) (v := -1) dX11_truth_10 (by decide) ?_
  exact hb_iret (pc := 11) dX11_truth_11 rfl h
set_option maxRecDepth 20000 in
theorem bk_X11_truth_16 {d : Nat} {w : hb_W} {Q : Option hb_V → hb_W → Prop} {x1 : Int32} {x2 : Int32} {g3 : Nat} {xs0 : Int32} (hg3 : g3 < hb_ct 9) (h : (x2 = (0 : Int32) → Q (some (hb_i (hb_fI w 9 3 g3))) w) ∧ (x2 = (1 : Int32) → Q (some (hb_i (hb_fI w 9 4 g3))) w) ∧ (x2 = (2 : Int32) → Q (some (hb_i xs0)) w) ∧ (x2 = (3 : Int32) → hb_O yX11_isHood cX11_isHood 1 (some .boolean) d [hb_i xs0] w (fun rv w1 => hb_R yX11_truth cX11_truth 5 (some .int) (d + 1) 70 [some (hb_r 0 0 0), some (hb_i x1), some (hb_i x2), some (hb_r 9 g3 0), some (hb_i xs0)] (rv.toList ++ []) w1 Q)) ∧ (x2 = (4 : Int32) → hb_O yX0_middleGift cX0_middleGift 3 (some .int) d [hb_r 9 g3 0] w (fun rv w1 => hb_R yX11_truth cX11_truth 5 (some .int) (d + 1) 89 [some (hb_r 0 0 0), some (hb_i x1), some (hb_i x2), some (hb_r 9 g3 0), some (hb_i xs0)] (rv.toList ++ []) w1 Q)) ∧ (¬ x2 = (0 : Int32) → ¬ x2 = (1 : Int32) → ¬ x2 = (2 : Int32) → ¬ x2 = (3 : Int32) → ¬ x2 = (4 : Int32) → Q (some (hb_i (-1 : Int32))) w)) : hb_R yX11_truth cX11_truth 5 (some .int) (d + 1) 16 [some (hb_r 0 0 0), some (hb_i x1), some (hb_i x2), some (hb_r 9 g3 0), none] [hb_i xs0] w Q := by
  refine hb_istore (pc := 16) (i := 4) (ls1 := [some (hb_r 0 0 0), some (hb_i x1), some (hb_i x2), some (hb_r 9 g3 0), some (hb_i xs0)]) dX11_truth_16 (by decide) rfl ?_
  refine hb_iload_n (pc := 18) (i := 2) dX11_truth_18 rfl rfl ?_
  by_cases e1_0 : x2 = (0 : Int32)
  · have hk1_0 := h.1 e1_0
    have ei : x2.toInt = 0 := by rw [e1_0]; rfl
    refine hb_tabIn (pc := 19) (tgt := 52) (off := 33) dX11_truth_19 (by rw [ei]; decide) (by rw [ei]; decide) (by rw [ei]; rfl) (by decide) ?_
    refine hb_aload_n (pc := 52) (i := 3) dX11_truth_52 rfl rfl ?_
    refine hb_getIx (pc := 53) (x := hb_fI w 9 3 g3) dX11_truth_53 fw_X11_210 cw_0 rfl hg3 rfl rfl ?_
    exact hb_iret (pc := 56) dX11_truth_56 rfl hk1_0
  by_cases e1_1 : x2 = (1 : Int32)
  · have hk1_1 := h.2.1 e1_1
    have ei : x2.toInt = 1 := by rw [e1_1]; rfl
    refine hb_tabIn (pc := 19) (tgt := 57) (off := 38) dX11_truth_19 (by rw [ei]; decide) (by rw [ei]; decide) (by rw [ei]; rfl) (by decide) ?_
    refine hb_aload_n (pc := 57) (i := 3) dX11_truth_57 rfl rfl ?_
    refine hb_getIx (pc := 58) (x := hb_fI w 9 4 g3) dX11_truth_58 fw_X11_243 cw_0 rfl hg3 rfl rfl ?_
    exact hb_iret (pc := 61) dX11_truth_61 rfl hk1_1
  by_cases e1_2 : x2 = (2 : Int32)
  · have hk1_2 := h.2.2.1 e1_2
    have ei : x2.toInt = 2 := by rw [e1_2]; rfl
    refine hb_tabIn (pc := 19) (tgt := 62) (off := 43) dX11_truth_19 (by rw [ei]; decide) (by rw [ei]; decide) (by rw [ei]; rfl) (by decide) ?_
    refine hb_iload (pc := 62) dX11_truth_62 rfl ?_
    exact hb_iret (pc := 64) dX11_truth_64 rfl hk1_2
  by_cases e1_3 : x2 = (3 : Int32)
  · have hk1_3 := h.2.2.2.1 e1_3
    have ei : x2.toInt = 3 := by rw [e1_3]; rfl
    refine hb_tabIn (pc := 19) (tgt := 65) (off := 46) dX11_truth_19 (by rw [ei]; decide) (by rw [ei]; decide) (by rw [ei]; rfl) (by decide) ?_
    refine hb_iload (pc := 65) dX11_truth_65 rfl ?_
    exact hb_callS (pc := 67) (As := [hb_i xs0]) (st := []) dX11_truth_67 ml_X11_154 mf_X11_isHood ms_X11_isHood rfl rfl (Nat.le_of_ble_eq_true rfl) (Nat.le_of_ble_eq_true rfl) hk1_3 (fun _ _ q => q)
  by_cases e1_4 : x2 = (4 : Int32)
  · have hk1_4 := h.2.2.2.2.1 e1_4
    have ei : x2.toInt = 4 := by rw [e1_4]; rfl
    refine hb_tabIn (pc := 19) (tgt := 85) (off := 66) dX11_truth_19 (by rw [ei]; decide) (by rw [ei]; decide) (by rw [ei]; rfl) (by decide) ?_
    refine hb_aload_n (pc := 85) (i := 3) dX11_truth_85 rfl rfl ?_
    exact hb_callV (pc := 86) (As := []) (st := []) dX11_truth_86 ml_X11_249 mf_X0_middleGift mi_X0_middleGift (ci := 0) rfl rfl hg3 rfl rfl (Nat.le_of_ble_eq_true rfl) (Nat.le_of_ble_eq_true rfl) hk1_4 (fun _ _ q => q)
  have hk1_d := h.2.2.2.2.2 e1_0 e1_1 e1_2 e1_3 e1_4
  have n1_0 := lv_neT (a := 0) e1_0 rfl
  have n1_1 := lv_neT (a := 1) e1_1 rfl
  have n1_2 := lv_neT (a := 2) e1_2 rfl
  have n1_3 := lv_neT (a := 3) e1_3 rfl
  have n1_4 := lv_neT (a := 4) e1_4 rfl
  refine hb_tabOut (pc := 19) (tgt := 90) dX11_truth_19 (by omega) (by decide) ?_
  refine hb_iconst (pc := 90) (v := -1) dX11_truth_90 (by decide) ?_
  exact hb_iret (pc := 91) dX11_truth_91 rfl hk1_d
set_option maxRecDepth 20000 in
theorem bk_X11_truth_70 {d : Nat} {w : hb_W} {Q : Option hb_V → hb_W → Prop} {x1 : Int32} {x2 : Int32} {g3 : Nat} {x4 : Int32} {xs0 : Int32} (hg3 : g3 < hb_ct 9) (h : ((xs0 = 0) → Q (some (hb_i (-1 : Int32))) w) ∧ ((¬ xs0 = 0) → vp_in x4 64 ∧ (Q (some (hb_i (hb_aI w 9 1 g3 x4.toNatClampNeg))) w))) : hb_R yX11_truth cX11_truth 5 (some .int) (d + 1) 70 [some (hb_r 0 0 0), some (hb_i x1), some (hb_i x2), some (hb_r 9 g3 0), some (hb_i x4)] [hb_i xs0] w Q := by
  refine hb_if_eq (pc := 70) (tgt := 83) dX11_truth_70 (by decide) (fun c1 => ?_) (fun c1 => ?_)
  · have ht1 := h.1 c1
    refine hb_iconst (pc := 83) (v := -1) dX11_truth_83 (by decide) ?_
    exact hb_iret (pc := 84) dX11_truth_84 rfl ht1
  · have ht1 := h.2 c1
    refine hb_aload_n (pc := 73) (i := 3) dX11_truth_73 rfl rfl ?_
    refine hb_getR (pc := 74) (g1 := g3) dX11_truth_74 fw_X11_246 cw_0 rfl hg3 rfl (by decide) rfl ?_
    refine hb_iload (pc := 77) dX11_truth_77 rfl ?_
    obtain ⟨ho2, hr2⟩ := ht1
    refine hb_ialdx (pc := 79) (x := hb_aI w 9 1 g3 x4.toNatClampNeg) dX11_truth_79 rfl hg3 ho2 rfl ?_
    refine hb_goto (pc := 80) (tgt := 84) dX11_truth_80 (by decide) ?_
    exact hb_iret (pc := 84) dX11_truth_84 rfl hr2
set_option maxRecDepth 20000 in
theorem bk_X11_truth_89 {d : Nat} {w : hb_W} {Q : Option hb_V → hb_W → Prop} {x1 : Int32} {x2 : Int32} {g3 : Nat} {x4 : Int32} {xs0 : Int32} (hg3 : g3 < hb_ct 9) (h : Q (some (hb_i xs0)) w) : hb_R yX11_truth cX11_truth 5 (some .int) (d + 1) 89 [some (hb_r 0 0 0), some (hb_i x1), some (hb_i x2), some (hb_r 9 g3 0), some (hb_i x4)] [hb_i xs0] w Q := by
  exact hb_iret (pc := 89) dX11_truth_89 rfl h
theorem dX11_times_0 : decode cX11_times 0 = .ok (.aload_n 0, 1) := by decide +kernel
theorem dX11_times_1 : decode cX11_times 1 = .ok (.iload_n 1, 1) := by decide +kernel
theorem dX11_times_2 : decode cX11_times 2 = .ok (.invokevirtual 178, 3) := by decide +kernel
theorem dX11_times_5 : decode cX11_times 5 = .ok (.astore_n 3, 1) := by decide +kernel
theorem dX11_times_6 : decode cX11_times 6 = .ok (.aload_n 3, 1) := by decide +kernel
theorem dX11_times_7 : decode cX11_times 7 = .ok (.ifnull 10, 3) := by decide +kernel
theorem dX11_times_10 : decode cX11_times 10 = .ok (.iload_n 2, 1) := by decide +kernel
theorem dX11_times_11 : decode cX11_times 11 = .ok (.invokestatic 154, 3) := by decide +kernel
theorem dX11_times_14 : decode cX11_times 14 = .ok (.ifCond .ne 7, 3) := by decide +kernel
theorem dX11_times_17 : decode cX11_times 17 = .ok (.iconst (-1), 1) := by decide +kernel
theorem dX11_times_18 : decode cX11_times 18 = .ok (.goto 9, 3) := by decide +kernel
theorem dX11_times_21 : decode cX11_times 21 = .ok (.aload_n 3, 1) := by decide +kernel
theorem dX11_times_22 : decode cX11_times 22 = .ok (.getfield 246, 3) := by decide +kernel
theorem dX11_times_25 : decode cX11_times 25 = .ok (.iload_n 2, 1) := by decide +kernel
theorem dX11_times_26 : decode cX11_times 26 = .ok (.iaload, 1) := by decide +kernel
theorem dX11_times_27 : decode cX11_times 27 = .ok (.ireturn, 1) := by decide +kernel
set_option maxRecDepth 20000 in
theorem bk_X11_times_0 {d : Nat} {w : hb_W} {Q : Option hb_V → hb_W → Prop} {x1 : Int32} {x2 : Int32} (h : hb_O yX11_bookNow cX11_bookNow 2 (some (.object "HoodBook$Book")) d [hb_r 0 0 0, hb_i x1] w (fun rv w1 => hb_R yX11_times cX11_times 4 (some .int) (d + 1) 5 [some (hb_r 0 0 0), some (hb_i x1), some (hb_i x2), none] (rv.toList ++ []) w1 Q)) : hb_R yX11_times cX11_times 4 (some .int) (d + 1) 0 [some (hb_r 0 0 0), some (hb_i x1), some (hb_i x2), none] [] w Q := by
  refine hb_aload_n (pc := 0) (i := 0) dX11_times_0 rfl rfl ?_
  refine hb_iload_n (pc := 1) (i := 1) dX11_times_1 rfl rfl ?_
  exact hb_callV (pc := 2) (As := [hb_i x1]) (st := []) dX11_times_2 ml_X11_178 mf_X11_bookNow mi_X11_bookNow (ci := 11) rfl rfl (by decide) rfl rfl (Nat.le_of_ble_eq_true rfl) (Nat.le_of_ble_eq_true rfl) h (fun _ _ q => q)
set_option maxRecDepth 20000 in
theorem bk_X11_times_5 {d : Nat} {w : hb_W} {Q : Option hb_V → hb_W → Prop} {x1 : Int32} {x2 : Int32} {gs0 : Nat} (hgs0 : gs0 < hb_ct 9) (h : hb_O yX11_isHood cX11_isHood 1 (some .boolean) d [hb_i x2] w (fun rv w1 => hb_R yX11_times cX11_times 4 (some .int) (d + 1) 14 [some (hb_r 0 0 0), some (hb_i x1), some (hb_i x2), some (hb_r 9 gs0 0)] (rv.toList ++ []) w1 Q)) : hb_R yX11_times cX11_times 4 (some .int) (d + 1) 5 [some (hb_r 0 0 0), some (hb_i x1), some (hb_i x2), none] [hb_r 9 gs0 0] w Q := by
  refine hb_astore_n (pc := 5) (i := 3) (ls1 := [some (hb_r 0 0 0), some (hb_i x1), some (hb_i x2), some (hb_r 9 gs0 0)]) dX11_times_5 rfl (by decide) rfl ?_
  refine hb_aload_n (pc := 6) (i := 3) dX11_times_6 rfl rfl ?_
  refine hb_ifnull (pc := 7) dX11_times_7 ?_
  refine hb_iload_n (pc := 10) (i := 2) dX11_times_10 rfl rfl ?_
  exact hb_callS (pc := 11) (As := [hb_i x2]) (st := []) dX11_times_11 ml_X11_154 mf_X11_isHood ms_X11_isHood rfl rfl (Nat.le_of_ble_eq_true rfl) (Nat.le_of_ble_eq_true rfl) h (fun _ _ q => q)
set_option maxRecDepth 20000 in
theorem bk_X11_times_5N {d : Nat} {w : hb_W} {Q : Option hb_V → hb_W → Prop} {x1 : Int32} {x2 : Int32} (h : Q (some (hb_i (-1 : Int32))) w) : hb_R yX11_times cX11_times 4 (some .int) (d + 1) 5 [some (hb_r 0 0 0), some (hb_i x1), some (hb_i x2), none] [hb_n] w Q := by
  refine hb_astore_nN (pc := 5) (i := 3) (ls1 := [some (hb_r 0 0 0), some (hb_i x1), some (hb_i x2), some (hb_n)]) dX11_times_5 rfl (by decide) rfl ?_
  refine hb_aload_nN (pc := 6) (i := 3) dX11_times_6 rfl rfl ?_
  refine hb_ifnullN (pc := 7) (tgt := 17) dX11_times_7 (by decide) ?_
  refine hb_iconst (pc := 17) (v := -1) dX11_times_17 (by decide) ?_
  refine hb_goto (pc := 18) (tgt := 27) dX11_times_18 (by decide) ?_
  exact hb_iret (pc := 27) dX11_times_27 rfl h
set_option maxRecDepth 20000 in
theorem bk_X11_times_14 {d : Nat} {w : hb_W} {Q : Option hb_V → hb_W → Prop} {x1 : Int32} {x2 : Int32} {g3 : Nat} {xs0 : Int32} (hg3 : g3 < hb_ct 9) (h : ((¬ xs0 = 0) → vp_in x2 64 ∧ (Q (some (hb_i (hb_aI w 9 1 g3 x2.toNatClampNeg))) w)) ∧ ((xs0 = 0) → Q (some (hb_i (-1 : Int32))) w)) : hb_R yX11_times cX11_times 4 (some .int) (d + 1) 14 [some (hb_r 0 0 0), some (hb_i x1), some (hb_i x2), some (hb_r 9 g3 0)] [hb_i xs0] w Q := by
  refine hb_if_ne (pc := 14) (tgt := 21) dX11_times_14 (by decide) (fun c1 => ?_) (fun c1 => ?_)
  · have ht1 := h.1 c1
    refine hb_aload_n (pc := 21) (i := 3) dX11_times_21 rfl rfl ?_
    refine hb_getR (pc := 22) (g1 := g3) dX11_times_22 fw_X11_246 cw_0 rfl hg3 rfl (by decide) rfl ?_
    refine hb_iload_n (pc := 25) (i := 2) dX11_times_25 rfl rfl ?_
    obtain ⟨ho2, hr2⟩ := ht1
    refine hb_ialdx (pc := 26) (x := hb_aI w 9 1 g3 x2.toNatClampNeg) dX11_times_26 rfl hg3 ho2 rfl ?_
    exact hb_iret (pc := 27) dX11_times_27 rfl hr2
  · have ht1 := h.2 c1
    refine hb_iconst (pc := 17) (v := -1) dX11_times_17 (by decide) ?_
    refine hb_goto (pc := 18) (tgt := 27) dX11_times_18 (by decide) ?_
    exact hb_iret (pc := 27) dX11_times_27 rfl ht1
theorem dX11_out_0 : decode cX11_out 0 = .ok (.aload_n 0, 1) := by decide +kernel
theorem dX11_out_1 : decode cX11_out 1 = .ok (.iload_n 1, 1) := by decide +kernel
theorem dX11_out_2 : decode cX11_out 2 = .ok (.invokevirtual 178, 3) := by decide +kernel
theorem dX11_out_5 : decode cX11_out 5 = .ok (.astore_n 3, 1) := by decide +kernel
theorem dX11_out_6 : decode cX11_out 6 = .ok (.aload_n 3, 1) := by decide +kernel
theorem dX11_out_7 : decode cX11_out 7 = .ok (.ifnull 10, 3) := by decide +kernel
theorem dX11_out_10 : decode cX11_out 10 = .ok (.iload_n 2, 1) := by decide +kernel
theorem dX11_out_11 : decode cX11_out 11 = .ok (.invokestatic 252, 3) := by decide +kernel
theorem dX11_out_14 : decode cX11_out 14 = .ok (.ifCond .ne 7, 3) := by decide +kernel
theorem dX11_out_17 : decode cX11_out 17 = .ok (.iconst (-1), 1) := by decide +kernel
theorem dX11_out_18 : decode cX11_out 18 = .ok (.goto 8, 3) := by decide +kernel
theorem dX11_out_21 : decode cX11_out 21 = .ok (.aload_n 3, 1) := by decide +kernel
theorem dX11_out_22 : decode cX11_out 22 = .ok (.iload_n 2, 1) := by decide +kernel
theorem dX11_out_23 : decode cX11_out 23 = .ok (.invokevirtual 255, 3) := by decide +kernel
theorem dX11_out_26 : decode cX11_out 26 = .ok (.ireturn, 1) := by decide +kernel
set_option maxRecDepth 20000 in
theorem bk_X11_out_0 {d : Nat} {w : hb_W} {Q : Option hb_V → hb_W → Prop} {x1 : Int32} {x2 : Int32} (h : hb_O yX11_bookNow cX11_bookNow 2 (some (.object "HoodBook$Book")) d [hb_r 0 0 0, hb_i x1] w (fun rv w1 => hb_R yX11_out cX11_out 4 (some .int) (d + 1) 5 [some (hb_r 0 0 0), some (hb_i x1), some (hb_i x2), none] (rv.toList ++ []) w1 Q)) : hb_R yX11_out cX11_out 4 (some .int) (d + 1) 0 [some (hb_r 0 0 0), some (hb_i x1), some (hb_i x2), none] [] w Q := by
  refine hb_aload_n (pc := 0) (i := 0) dX11_out_0 rfl rfl ?_
  refine hb_iload_n (pc := 1) (i := 1) dX11_out_1 rfl rfl ?_
  exact hb_callV (pc := 2) (As := [hb_i x1]) (st := []) dX11_out_2 ml_X11_178 mf_X11_bookNow mi_X11_bookNow (ci := 11) rfl rfl (by decide) rfl rfl (Nat.le_of_ble_eq_true rfl) (Nat.le_of_ble_eq_true rfl) h (fun _ _ q => q)
set_option maxRecDepth 20000 in
theorem bk_X11_out_5 {d : Nat} {w : hb_W} {Q : Option hb_V → hb_W → Prop} {x1 : Int32} {x2 : Int32} {gs0 : Nat} (hgs0 : gs0 < hb_ct 9) (h : hb_O yX11_isKind cX11_isKind 1 (some .boolean) d [hb_i x2] w (fun rv w1 => hb_R yX11_out cX11_out 4 (some .int) (d + 1) 14 [some (hb_r 0 0 0), some (hb_i x1), some (hb_i x2), some (hb_r 9 gs0 0)] (rv.toList ++ []) w1 Q)) : hb_R yX11_out cX11_out 4 (some .int) (d + 1) 5 [some (hb_r 0 0 0), some (hb_i x1), some (hb_i x2), none] [hb_r 9 gs0 0] w Q := by
  refine hb_astore_n (pc := 5) (i := 3) (ls1 := [some (hb_r 0 0 0), some (hb_i x1), some (hb_i x2), some (hb_r 9 gs0 0)]) dX11_out_5 rfl (by decide) rfl ?_
  refine hb_aload_n (pc := 6) (i := 3) dX11_out_6 rfl rfl ?_
  refine hb_ifnull (pc := 7) dX11_out_7 ?_
  refine hb_iload_n (pc := 10) (i := 2) dX11_out_10 rfl rfl ?_
  exact hb_callS (pc := 11) (As := [hb_i x2]) (st := []) dX11_out_11 ml_X11_252 mf_X11_isKind ms_X11_isKind rfl rfl (Nat.le_of_ble_eq_true rfl) (Nat.le_of_ble_eq_true rfl) h (fun _ _ q => q)
set_option maxRecDepth 20000 in
theorem bk_X11_out_5N {d : Nat} {w : hb_W} {Q : Option hb_V → hb_W → Prop} {x1 : Int32} {x2 : Int32} (h : hb_R yX11_out cX11_out 4 (some .int) (d + 1) 26 [some (hb_r 0 0 0), some (hb_i x1), some (hb_i x2), some (hb_n)] [hb_i (-1 : Int32)] w Q) : hb_R yX11_out cX11_out 4 (some .int) (d + 1) 5 [some (hb_r 0 0 0), some (hb_i x1), some (hb_i x2), none] [hb_n] w Q := by
  refine hb_astore_nN (pc := 5) (i := 3) (ls1 := [some (hb_r 0 0 0), some (hb_i x1), some (hb_i x2), some (hb_n)]) dX11_out_5 rfl (by decide) rfl ?_
  refine hb_aload_nN (pc := 6) (i := 3) dX11_out_6 rfl rfl ?_
  refine hb_ifnullN (pc := 7) (tgt := 17) dX11_out_7 (by decide) ?_
  refine hb_iconst (pc := 17) (v := -1) dX11_out_17 (by decide) ?_
  refine hb_goto (pc := 18) (tgt := 26) dX11_out_18 (by decide) ?_
  exact h
set_option maxRecDepth 20000 in
theorem bk_X11_out_14 {d : Nat} {w : hb_W} {Q : Option hb_V → hb_W → Prop} {x1 : Int32} {x2 : Int32} {g3 : Nat} {xs0 : Int32} (hg3 : g3 < hb_ct 9) (h : ((¬ xs0 = 0) → hb_O yX0_outBy cX0_outBy 2 (some .int) d [hb_r 9 g3 0, hb_i x2] w (fun rv w1 => hb_R yX11_out cX11_out 4 (some .int) (d + 1) 26 [some (hb_r 0 0 0), some (hb_i x1), some (hb_i x2), some (hb_r 9 g3 0)] (rv.toList ++ []) w1 Q)) ∧ ((xs0 = 0) → hb_R yX11_out cX11_out 4 (some .int) (d + 1) 26 [some (hb_r 0 0 0), some (hb_i x1), some (hb_i x2), some (hb_r 9 g3 0)] [hb_i (-1 : Int32)] w Q)) : hb_R yX11_out cX11_out 4 (some .int) (d + 1) 14 [some (hb_r 0 0 0), some (hb_i x1), some (hb_i x2), some (hb_r 9 g3 0)] [hb_i xs0] w Q := by
  refine hb_if_ne (pc := 14) (tgt := 21) dX11_out_14 (by decide) (fun c1 => ?_) (fun c1 => ?_)
  · have ht1 := h.1 c1
    refine hb_aload_n (pc := 21) (i := 3) dX11_out_21 rfl rfl ?_
    refine hb_iload_n (pc := 22) (i := 2) dX11_out_22 rfl rfl ?_
    exact hb_callV (pc := 23) (As := [hb_i x2]) (st := []) dX11_out_23 ml_X11_255 mf_X0_outBy mi_X0_outBy (ci := 0) rfl rfl hg3 rfl rfl (Nat.le_of_ble_eq_true rfl) (Nat.le_of_ble_eq_true rfl) ht1 (fun _ _ q => q)
  · have ht1 := h.2 c1
    refine hb_iconst (pc := 17) (v := -1) dX11_out_17 (by decide) ?_
    refine hb_goto (pc := 18) (tgt := 26) dX11_out_18 (by decide) ?_
    exact ht1
set_option maxRecDepth 20000 in
theorem bk_X11_out_26 {d : Nat} {w : hb_W} {Q : Option hb_V → hb_W → Prop} {x1 : Int32} {x2 : Int32} {g3 : Nat} {xs0 : Int32} (hg3 : g3 < hb_ct 9) (h : Q (some (hb_i xs0)) w) : hb_R yX11_out cX11_out 4 (some .int) (d + 1) 26 [some (hb_r 0 0 0), some (hb_i x1), some (hb_i x2), some (hb_r 9 g3 0)] [hb_i xs0] w Q := by
  exact hb_iret (pc := 26) dX11_out_26 rfl h
theorem dX11_few_0 : decode cX11_few 0 = .ok (.aload_n 0, 1) := by decide +kernel
theorem dX11_few_1 : decode cX11_few 1 = .ok (.getfield 86, 3) := by decide +kernel
theorem dX11_few_4 : decode cX11_few 4 = .ok (.ifCond .eq 21, 3) := by decide +kernel
theorem dX11_few_7 : decode cX11_few 7 = .ok (.iload_n 1, 1) := by decide +kernel
theorem dX11_few_8 : decode cX11_few 8 = .ok (.invokestatic 252, 3) := by decide +kernel
theorem dX11_few_11 : decode cX11_few 11 = .ok (.ifCond .eq 14, 3) := by decide +kernel
theorem dX11_few_14 : decode cX11_few 14 = .ok (.iload_n 2, 1) := by decide +kernel
theorem dX11_few_15 : decode cX11_few 15 = .ok (.ifCond .lt 10, 3) := by decide +kernel
theorem dX11_few_18 : decode cX11_few 18 = .ok (.iload_n 2, 1) := by decide +kernel
theorem dX11_few_19 : decode cX11_few 19 = .ok (.sipush 9999, 3) := by decide +kernel
theorem dX11_few_22 : decode cX11_few 22 = .ok (.if_icmp .le 5, 3) := by decide +kernel
theorem dX11_few_25 : decode cX11_few 25 = .ok (.iconst (-1), 1) := by decide +kernel
theorem dX11_few_26 : decode cX11_few 26 = .ok (.ireturn, 1) := by decide +kernel
theorem dX11_few_27 : decode cX11_few 27 = .ok (.aload_n 0, 1) := by decide +kernel
theorem dX11_few_28 : decode cX11_few 28 = .ok (.getfield 61, 3) := by decide +kernel
theorem dX11_few_31 : decode cX11_few 31 = .ok (.aload_n 0, 1) := by decide +kernel
theorem dX11_few_32 : decode cX11_few 32 = .ok (.getfield 79, 3) := by decide +kernel
theorem dX11_few_35 : decode cX11_few 35 = .ok (.aload_n 0, 1) := by decide +kernel
theorem dX11_few_36 : decode cX11_few 36 = .ok (.getfield 52, 3) := by decide +kernel
theorem dX11_few_39 : decode cX11_few 39 = .ok (.invokevirtual 150, 3) := by decide +kernel
theorem dX11_few_42 : decode cX11_few 42 = .ok (.aload_n 0, 1) := by decide +kernel
theorem dX11_few_43 : decode cX11_few 43 = .ok (.getfield 61, 3) := by decide +kernel
theorem dX11_few_46 : decode cX11_few 46 = .ok (.aload_n 0, 1) := by decide +kernel
theorem dX11_few_47 : decode cX11_few 47 = .ok (.getfield 52, 3) := by decide +kernel
theorem dX11_few_50 : decode cX11_few 50 = .ok (.iload_n 1, 1) := by decide +kernel
theorem dX11_few_51 : decode cX11_few 51 = .ok (.iload_n 2, 1) := by decide +kernel
theorem dX11_few_52 : decode cX11_few 52 = .ok (.invokevirtual 258, 3) := by decide +kernel
theorem dX11_few_55 : decode cX11_few 55 = .ok (.ireturn, 1) := by decide +kernel
set_option maxRecDepth 20000 in
theorem bk_X11_few_0 {d : Nat} {w : hb_W} {Q : Option hb_V → hb_W → Prop} {x1 : Int32} {x2 : Int32} (h : (((hb_fI w 0 10 0) = 0) → Q (some (hb_i (-1 : Int32))) w) ∧ ((¬ (hb_fI w 0 10 0) = 0) → hb_O yX11_isKind cX11_isKind 1 (some .boolean) d [hb_i x1] w (fun rv w1 => hb_R yX11_few cX11_few 3 (some .int) (d + 1) 11 [some (hb_r 0 0 0), some (hb_i x1), some (hb_i x2)] (rv.toList ++ []) w1 Q))) : hb_R yX11_few cX11_few 3 (some .int) (d + 1) 0 [some (hb_r 0 0 0), some (hb_i x1), some (hb_i x2)] [] w Q := by
  refine hb_aload_n (pc := 0) (i := 0) dX11_few_0 rfl rfl ?_
  refine hb_getIx (pc := 1) (x := hb_fI w 0 10 0) dX11_few_1 fw_X11_86 cw_11 rfl (by decide) rfl rfl ?_
  refine hb_if_eq (pc := 4) (tgt := 25) dX11_few_4 (by decide) (fun c1 => ?_) (fun c1 => ?_)
  · have ht1 := h.1 c1
    refine hb_iconst (pc := 25) (v := -1) dX11_few_25 (by decide) ?_
    exact hb_iret (pc := 26) dX11_few_26 rfl ht1
  · have ht1 := h.2 c1
    refine hb_iload_n (pc := 7) (i := 1) dX11_few_7 rfl rfl ?_
    exact hb_callS (pc := 8) (As := [hb_i x1]) (st := []) dX11_few_8 ml_X11_252 mf_X11_isKind ms_X11_isKind rfl rfl (Nat.le_of_ble_eq_true rfl) (Nat.le_of_ble_eq_true rfl) ht1 (fun _ _ q => q)
set_option maxRecDepth 20000 in
theorem bk_X11_few_11 {d : Nat} {w : hb_W} {Q : Option hb_V → hb_W → Prop} {x1 : Int32} {x2 : Int32} {xs0 : Int32} (h : ((xs0 = 0) → Q (some (hb_i (-1 : Int32))) w) ∧ ((¬ xs0 = 0) → ((x2 < 0) → Q (some (hb_i (-1 : Int32))) w) ∧ ((¬ x2 < 0) → ((x2 ≤ (9999 : Int32)) → hb_O yX4_bringUp cX4_bringUp 5 none d [hb_r 8 0 0, hb_r 11 (hb_fR w 0 8 0) 0, hb_r 7 0 0] w (fun rv w1 => hb_R yX11_few cX11_few 3 (some .int) (d + 1) 42 [some (hb_r 0 0 0), some (hb_i x1), some (hb_i x2)] (rv.toList ++ []) w1 Q)) ∧ ((¬ x2 ≤ (9999 : Int32)) → Q (some (hb_i (-1 : Int32))) w)))) : hb_R yX11_few cX11_few 3 (some .int) (d + 1) 11 [some (hb_r 0 0 0), some (hb_i x1), some (hb_i x2)] [hb_i xs0] w Q := by
  refine hb_if_eq (pc := 11) (tgt := 25) dX11_few_11 (by decide) (fun c1 => ?_) (fun c1 => ?_)
  · have ht1 := h.1 c1
    refine hb_iconst (pc := 25) (v := -1) dX11_few_25 (by decide) ?_
    exact hb_iret (pc := 26) dX11_few_26 rfl ht1
  · have ht1 := h.2 c1
    refine hb_iload_n (pc := 14) (i := 2) dX11_few_14 rfl rfl ?_
    refine hb_if_lt (pc := 15) (tgt := 25) dX11_few_15 (by decide) (fun c2 => ?_) (fun c2 => ?_)
    · have ht2 := ht1.1 c2
      refine hb_iconst (pc := 25) (v := -1) dX11_few_25 (by decide) ?_
      exact hb_iret (pc := 26) dX11_few_26 rfl ht2
    · have ht2 := ht1.2 c2
      refine hb_iload_n (pc := 18) (i := 2) dX11_few_18 rfl rfl ?_
      refine hb_sipush (pc := 19) (v := 9999) dX11_few_19 (by decide) ?_
      refine hb_icmp_le (pc := 22) (tgt := 27) dX11_few_22 (by decide) (fun c3 => ?_) (fun c3 => ?_)
      · have ht3 := ht2.1 c3
        refine hb_aload_n (pc := 27) (i := 0) dX11_few_27 rfl rfl ?_
        refine hb_getR (pc := 28) (g1 := 0) dX11_few_28 fw_X11_61 cw_11 rfl (by decide) rfl (by decide) rfl ?_
        refine hb_aload_n (pc := 31) (i := 0) dX11_few_31 rfl rfl ?_
        refine hb_getR (pc := 32) (g1 := hb_fR w 0 8 0) dX11_few_32 fw_X11_79 cw_11 rfl (by decide) rfl (by decide) rfl ?_
        refine hb_aload_n (pc := 35) (i := 0) dX11_few_35 rfl rfl ?_
        refine hb_getR (pc := 36) (g1 := 0) dX11_few_36 fw_X11_52 cw_11 rfl (by decide) rfl (by decide) rfl ?_
        exact hb_callV (pc := 39) (As := [hb_r 11 (hb_fR w 0 8 0) 0, hb_r 7 0 0]) (st := []) dX11_few_39 ml_X11_150 mf_X4_bringUp mi_X4_bringUp (ci := 4) rfl rfl (by decide) rfl rfl (Nat.le_of_ble_eq_true rfl) (Nat.le_of_ble_eq_true rfl) ht3 (fun _ _ q => q)
      · have ht3 := ht2.2 c3
        refine hb_iconst (pc := 25) (v := -1) dX11_few_25 (by decide) ?_
        exact hb_iret (pc := 26) dX11_few_26 rfl ht3
set_option maxRecDepth 20000 in
theorem bk_X11_few_42 {d : Nat} {w : hb_W} {Q : Option hb_V → hb_W → Prop} {x1 : Int32} {x2 : Int32} (h : hb_O yX4_fewestLines cX4_fewestLines 6 (some .int) d [hb_r 8 0 0, hb_r 7 0 0, hb_i x1, hb_i x2] w (fun rv w1 => hb_R yX11_few cX11_few 3 (some .int) (d + 1) 55 [some (hb_r 0 0 0), some (hb_i x1), some (hb_i x2)] (rv.toList ++ []) w1 Q)) : hb_R yX11_few cX11_few 3 (some .int) (d + 1) 42 [some (hb_r 0 0 0), some (hb_i x1), some (hb_i x2)] [] w Q := by
  refine hb_aload_n (pc := 42) (i := 0) dX11_few_42 rfl rfl ?_
  refine hb_getR (pc := 43) (g1 := 0) dX11_few_43 fw_X11_61 cw_11 rfl (by decide) rfl (by decide) rfl ?_
  refine hb_aload_n (pc := 46) (i := 0) dX11_few_46 rfl rfl ?_
  refine hb_getR (pc := 47) (g1 := 0) dX11_few_47 fw_X11_52 cw_11 rfl (by decide) rfl (by decide) rfl ?_
  refine hb_iload_n (pc := 50) (i := 1) dX11_few_50 rfl rfl ?_
  refine hb_iload_n (pc := 51) (i := 2) dX11_few_51 rfl rfl ?_
  exact hb_callV (pc := 52) (As := [hb_r 7 0 0, hb_i x1, hb_i x2]) (st := []) dX11_few_52 ml_X11_258 mf_X4_fewestLines mi_X4_fewestLines (ci := 4) rfl rfl (by decide) rfl rfl (Nat.le_of_ble_eq_true rfl) (Nat.le_of_ble_eq_true rfl) h (fun _ _ q => q)
set_option maxRecDepth 20000 in
theorem bk_X11_few_55 {d : Nat} {w : hb_W} {Q : Option hb_V → hb_W → Prop} {x1 : Int32} {x2 : Int32} {xs0 : Int32} (h : Q (some (hb_i xs0)) w) : hb_R yX11_few cX11_few 3 (some .int) (d + 1) 55 [some (hb_r 0 0 0), some (hb_i x1), some (hb_i x2)] [hb_i xs0] w Q := by
  exact hb_iret (pc := 55) dX11_few_55 rfl h
theorem dX11_best_0 : decode cX11_best 0 = .ok (.aload_n 0, 1) := by decide +kernel
theorem dX11_best_1 : decode cX11_best 1 = .ok (.getfield 86, 3) := by decide +kernel
theorem dX11_best_4 : decode cX11_best 4 = .ok (.ifCond .eq 22, 3) := by decide +kernel
theorem dX11_best_7 : decode cX11_best 7 = .ok (.iload_n 1, 1) := by decide +kernel
theorem dX11_best_8 : decode cX11_best 8 = .ok (.invokestatic 252, 3) := by decide +kernel
theorem dX11_best_11 : decode cX11_best 11 = .ok (.ifCond .eq 15, 3) := by decide +kernel
theorem dX11_best_14 : decode cX11_best 14 = .ok (.iload_n 1, 1) := by decide +kernel
theorem dX11_best_15 : decode cX11_best 15 = .ok (.iconst 4, 1) := by decide +kernel
theorem dX11_best_16 : decode cX11_best 16 = .ok (.if_icmp .eq 10, 3) := by decide +kernel
theorem dX11_best_19 : decode cX11_best 19 = .ok (.iload_n 2, 1) := by decide +kernel
theorem dX11_best_20 : decode cX11_best 20 = .ok (.invokestatic 262, 3) := by decide +kernel
theorem dX11_best_23 : decode cX11_best 23 = .ok (.ifCond .ne 5, 3) := by decide +kernel
theorem dX11_best_26 : decode cX11_best 26 = .ok (.iconst (-1), 1) := by decide +kernel
theorem dX11_best_27 : decode cX11_best 27 = .ok (.ireturn, 1) := by decide +kernel
theorem dX11_best_28 : decode cX11_best 28 = .ok (.aload_n 0, 1) := by decide +kernel
theorem dX11_best_29 : decode cX11_best 29 = .ok (.getfield 61, 3) := by decide +kernel
theorem dX11_best_32 : decode cX11_best 32 = .ok (.aload_n 0, 1) := by decide +kernel
theorem dX11_best_33 : decode cX11_best 33 = .ok (.getfield 79, 3) := by decide +kernel
theorem dX11_best_36 : decode cX11_best 36 = .ok (.aload_n 0, 1) := by decide +kernel
theorem dX11_best_37 : decode cX11_best 37 = .ok (.getfield 52, 3) := by decide +kernel
theorem dX11_best_40 : decode cX11_best 40 = .ok (.invokevirtual 150, 3) := by decide +kernel
theorem dX11_best_43 : decode cX11_best 43 = .ok (.aload_n 0, 1) := by decide +kernel
theorem dX11_best_44 : decode cX11_best 44 = .ok (.getfield 61, 3) := by decide +kernel
theorem dX11_best_47 : decode cX11_best 47 = .ok (.aload_n 0, 1) := by decide +kernel
theorem dX11_best_48 : decode cX11_best 48 = .ok (.getfield 79, 3) := by decide +kernel
theorem dX11_best_51 : decode cX11_best 51 = .ok (.iload_n 1, 1) := by decide +kernel
theorem dX11_best_52 : decode cX11_best 52 = .ok (.invokevirtual 265, 3) := by decide +kernel
theorem dX11_best_55 : decode cX11_best 55 = .ok (.iload_n 2, 1) := by decide +kernel
theorem dX11_best_56 : decode cX11_best 56 = .ok (.ifCond .ne 13, 3) := by decide +kernel
theorem dX11_best_59 : decode cX11_best 59 = .ok (.aload_n 0, 1) := by decide +kernel
theorem dX11_best_60 : decode cX11_best 60 = .ok (.getfield 61, 3) := by decide +kernel
theorem dX11_best_63 : decode cX11_best 63 = .ok (.getfield 269, 3) := by decide +kernel
theorem dX11_best_66 : decode cX11_best 66 = .ok (.goto 10, 3) := by decide +kernel
theorem dX11_best_69 : decode cX11_best 69 = .ok (.aload_n 0, 1) := by decide +kernel
theorem dX11_best_70 : decode cX11_best 70 = .ok (.getfield 61, 3) := by decide +kernel
theorem dX11_best_73 : decode cX11_best 73 = .ok (.getfield 272, 3) := by decide +kernel
theorem dX11_best_76 : decode cX11_best 76 = .ok (.ireturn, 1) := by decide +kernel
set_option maxRecDepth 20000 in
theorem bk_X11_best_0 {d : Nat} {w : hb_W} {Q : Option hb_V → hb_W → Prop} {x1 : Int32} {x2 : Int32} (h : (((hb_fI w 0 10 0) = 0) → Q (some (hb_i (-1 : Int32))) w) ∧ ((¬ (hb_fI w 0 10 0) = 0) → hb_O yX11_isKind cX11_isKind 1 (some .boolean) d [hb_i x1] w (fun rv w1 => hb_R yX11_best cX11_best 3 (some .int) (d + 1) 11 [some (hb_r 0 0 0), some (hb_i x1), some (hb_i x2)] (rv.toList ++ []) w1 Q))) : hb_R yX11_best cX11_best 3 (some .int) (d + 1) 0 [some (hb_r 0 0 0), some (hb_i x1), some (hb_i x2)] [] w Q := by
  refine hb_aload_n (pc := 0) (i := 0) dX11_best_0 rfl rfl ?_
  refine hb_getIx (pc := 1) (x := hb_fI w 0 10 0) dX11_best_1 fw_X11_86 cw_11 rfl (by decide) rfl rfl ?_
  refine hb_if_eq (pc := 4) (tgt := 26) dX11_best_4 (by decide) (fun c1 => ?_) (fun c1 => ?_)
  · have ht1 := h.1 c1
    refine hb_iconst (pc := 26) (v := -1) dX11_best_26 (by decide) ?_
    exact hb_iret (pc := 27) dX11_best_27 rfl ht1
  · have ht1 := h.2 c1
    refine hb_iload_n (pc := 7) (i := 1) dX11_best_7 rfl rfl ?_
    exact hb_callS (pc := 8) (As := [hb_i x1]) (st := []) dX11_best_8 ml_X11_252 mf_X11_isKind ms_X11_isKind rfl rfl (Nat.le_of_ble_eq_true rfl) (Nat.le_of_ble_eq_true rfl) ht1 (fun _ _ q => q)
set_option maxRecDepth 20000 in
theorem bk_X11_best_11 {d : Nat} {w : hb_W} {Q : Option hb_V → hb_W → Prop} {x1 : Int32} {x2 : Int32} {xs0 : Int32} (h : ((xs0 = 0) → Q (some (hb_i (-1 : Int32))) w) ∧ ((¬ xs0 = 0) → ((x1 = (4 : Int32)) → Q (some (hb_i (-1 : Int32))) w) ∧ ((¬ x1 = (4 : Int32)) → hb_O yX11_isWhichOrHowFar cX11_isWhichOrHowFar 1 (some .boolean) d [hb_i x2] w (fun rv w1 => hb_R yX11_best cX11_best 3 (some .int) (d + 1) 23 [some (hb_r 0 0 0), some (hb_i x1), some (hb_i x2)] (rv.toList ++ []) w1 Q)))) : hb_R yX11_best cX11_best 3 (some .int) (d + 1) 11 [some (hb_r 0 0 0), some (hb_i x1), some (hb_i x2)] [hb_i xs0] w Q := by
  refine hb_if_eq (pc := 11) (tgt := 26) dX11_best_11 (by decide) (fun c1 => ?_) (fun c1 => ?_)
  · have ht1 := h.1 c1
    refine hb_iconst (pc := 26) (v := -1) dX11_best_26 (by decide) ?_
    exact hb_iret (pc := 27) dX11_best_27 rfl ht1
  · have ht1 := h.2 c1
    refine hb_iload_n (pc := 14) (i := 1) dX11_best_14 rfl rfl ?_
    refine hb_iconst (pc := 15) (v := 4) dX11_best_15 (by decide) ?_
    refine hb_icmp_eq (pc := 16) (tgt := 26) dX11_best_16 (by decide) (fun c2 => ?_) (fun c2 => ?_)
    · have ht2 := ht1.1 c2
      refine hb_iconst (pc := 26) (v := -1) dX11_best_26 (by decide) ?_
      exact hb_iret (pc := 27) dX11_best_27 rfl ht2
    · have ht2 := ht1.2 c2
      refine hb_iload_n (pc := 19) (i := 2) dX11_best_19 rfl rfl ?_
      exact hb_callS (pc := 20) (As := [hb_i x2]) (st := []) dX11_best_20 ml_X11_262 mf_X11_isWhichOrHowFar ms_X11_isWhichOrHowFar rfl rfl (Nat.le_of_ble_eq_true rfl) (Nat.le_of_ble_eq_true rfl) ht2 (fun _ _ q => q)
set_option maxRecDepth 20000 in
theorem bk_X11_best_23 {d : Nat} {w : hb_W} {Q : Option hb_V → hb_W → Prop} {x1 : Int32} {x2 : Int32} {xs0 : Int32} (h : ((¬ xs0 = 0) → hb_O yX4_bringUp cX4_bringUp 5 none d [hb_r 8 0 0, hb_r 11 (hb_fR w 0 8 0) 0, hb_r 7 0 0] w (fun rv w1 => hb_R yX11_best cX11_best 3 (some .int) (d + 1) 43 [some (hb_r 0 0 0), some (hb_i x1), some (hb_i x2)] (rv.toList ++ []) w1 Q)) ∧ ((xs0 = 0) → Q (some (hb_i (-1 : Int32))) w)) : hb_R yX11_best cX11_best 3 (some .int) (d + 1) 23 [some (hb_r 0 0 0), some (hb_i x1), some (hb_i x2)] [hb_i xs0] w Q := by
  refine hb_if_ne (pc := 23) (tgt := 28) dX11_best_23 (by decide) (fun c1 => ?_) (fun c1 => ?_)
  · have ht1 := h.1 c1
    refine hb_aload_n (pc := 28) (i := 0) dX11_best_28 rfl rfl ?_
    refine hb_getR (pc := 29) (g1 := 0) dX11_best_29 fw_X11_61 cw_11 rfl (by decide) rfl (by decide) rfl ?_
    refine hb_aload_n (pc := 32) (i := 0) dX11_best_32 rfl rfl ?_
    refine hb_getR (pc := 33) (g1 := hb_fR w 0 8 0) dX11_best_33 fw_X11_79 cw_11 rfl (by decide) rfl (by decide) rfl ?_
    refine hb_aload_n (pc := 36) (i := 0) dX11_best_36 rfl rfl ?_
    refine hb_getR (pc := 37) (g1 := 0) dX11_best_37 fw_X11_52 cw_11 rfl (by decide) rfl (by decide) rfl ?_
    exact hb_callV (pc := 40) (As := [hb_r 11 (hb_fR w 0 8 0) 0, hb_r 7 0 0]) (st := []) dX11_best_40 ml_X11_150 mf_X4_bringUp mi_X4_bringUp (ci := 4) rfl rfl (by decide) rfl rfl (Nat.le_of_ble_eq_true rfl) (Nat.le_of_ble_eq_true rfl) ht1 (fun _ _ q => q)
  · have ht1 := h.2 c1
    refine hb_iconst (pc := 26) (v := -1) dX11_best_26 (by decide) ?_
    exact hb_iret (pc := 27) dX11_best_27 rfl ht1
set_option maxRecDepth 20000 in
theorem bk_X11_best_43 {d : Nat} {w : hb_W} {Q : Option hb_V → hb_W → Prop} {x1 : Int32} {x2 : Int32} (h : hb_O yX4_findBestCoin cX4_findBestCoin 5 none d [hb_r 8 0 0, hb_r 11 (hb_fR w 0 8 0) 0, hb_i x1] w (fun rv w1 => hb_R yX11_best cX11_best 3 (some .int) (d + 1) 55 [some (hb_r 0 0 0), some (hb_i x1), some (hb_i x2)] (rv.toList ++ []) w1 Q)) : hb_R yX11_best cX11_best 3 (some .int) (d + 1) 43 [some (hb_r 0 0 0), some (hb_i x1), some (hb_i x2)] [] w Q := by
  refine hb_aload_n (pc := 43) (i := 0) dX11_best_43 rfl rfl ?_
  refine hb_getR (pc := 44) (g1 := 0) dX11_best_44 fw_X11_61 cw_11 rfl (by decide) rfl (by decide) rfl ?_
  refine hb_aload_n (pc := 47) (i := 0) dX11_best_47 rfl rfl ?_
  refine hb_getR (pc := 48) (g1 := hb_fR w 0 8 0) dX11_best_48 fw_X11_79 cw_11 rfl (by decide) rfl (by decide) rfl ?_
  refine hb_iload_n (pc := 51) (i := 1) dX11_best_51 rfl rfl ?_
  exact hb_callV (pc := 52) (As := [hb_r 11 (hb_fR w 0 8 0) 0, hb_i x1]) (st := []) dX11_best_52 ml_X11_265 mf_X4_findBestCoin mi_X4_findBestCoin (ci := 4) rfl rfl (by decide) rfl rfl (Nat.le_of_ble_eq_true rfl) (Nat.le_of_ble_eq_true rfl) h (fun _ _ q => q)
set_option maxRecDepth 20000 in
theorem bk_X11_best_55 {d : Nat} {w : hb_W} {Q : Option hb_V → hb_W → Prop} {x1 : Int32} {x2 : Int32} (h : ((¬ x2 = 0) → Q (some (hb_i (hb_fI w 8 5 0))) w) ∧ ((x2 = 0) → Q (some (hb_i (hb_fI w 8 4 0))) w)) : hb_R yX11_best cX11_best 3 (some .int) (d + 1) 55 [some (hb_r 0 0 0), some (hb_i x1), some (hb_i x2)] [] w Q := by
  refine hb_iload_n (pc := 55) (i := 2) dX11_best_55 rfl rfl ?_
  refine hb_if_ne (pc := 56) (tgt := 69) dX11_best_56 (by decide) (fun c1 => ?_) (fun c1 => ?_)
  · have ht1 := h.1 c1
    refine hb_aload_n (pc := 69) (i := 0) dX11_best_69 rfl rfl ?_
    refine hb_getR (pc := 70) (g1 := 0) dX11_best_70 fw_X11_61 cw_11 rfl (by decide) rfl (by decide) rfl ?_
    refine hb_getIx (pc := 73) (x := hb_fI w 8 5 0) dX11_best_73 fw_X11_272 cw_4 rfl (by decide) rfl rfl ?_
    exact hb_iret (pc := 76) dX11_best_76 rfl ht1
  · have ht1 := h.2 c1
    refine hb_aload_n (pc := 59) (i := 0) dX11_best_59 rfl rfl ?_
    refine hb_getR (pc := 60) (g1 := 0) dX11_best_60 fw_X11_61 cw_11 rfl (by decide) rfl (by decide) rfl ?_
    refine hb_getIx (pc := 63) (x := hb_fI w 8 4 0) dX11_best_63 fw_X11_269 cw_4 rfl (by decide) rfl rfl ?_
    refine hb_goto (pc := 66) (tgt := 76) dX11_best_66 (by decide) ?_
    exact hb_iret (pc := 76) dX11_best_76 rfl ht1
theorem dX11_cross_0 : decode cX11_cross 0 = .ok (.aload_n 0, 1) := by decide +kernel
theorem dX11_cross_1 : decode cX11_cross 1 = .ok (.getfield 86, 3) := by decide +kernel
theorem dX11_cross_4 : decode cX11_cross 4 = .ok (.ifCond .eq 30, 3) := by decide +kernel
theorem dX11_cross_7 : decode cX11_cross 7 = .ok (.iload_n 1, 1) := by decide +kernel
theorem dX11_cross_8 : decode cX11_cross 8 = .ok (.invokestatic 252, 3) := by decide +kernel
theorem dX11_cross_11 : decode cX11_cross 11 = .ok (.ifCond .eq 23, 3) := by decide +kernel
theorem dX11_cross_14 : decode cX11_cross 14 = .ok (.iload_n 2, 1) := by decide +kernel
theorem dX11_cross_15 : decode cX11_cross 15 = .ok (.invokestatic 262, 3) := by decide +kernel
theorem dX11_cross_18 : decode cX11_cross 18 = .ok (.ifCond .eq 16, 3) := by decide +kernel
theorem dX11_cross_21 : decode cX11_cross 21 = .ok (.aload_n 0, 1) := by decide +kernel
theorem dX11_cross_22 : decode cX11_cross 22 = .ok (.getfield 52, 3) := by decide +kernel
theorem dX11_cross_25 : decode cX11_cross 25 = .ok (.getfield 141, 3) := by decide +kernel
theorem dX11_cross_28 : decode cX11_cross 28 = .ok (.sipush 400, 3) := by decide +kernel
theorem dX11_cross_31 : decode cX11_cross 31 = .ok (.if_icmp .lt 5, 3) := by decide +kernel
theorem dX11_cross_34 : decode cX11_cross 34 = .ok (.iconst (-1), 1) := by decide +kernel
theorem dX11_cross_35 : decode cX11_cross 35 = .ok (.ireturn, 1) := by decide +kernel
theorem dX11_cross_36 : decode cX11_cross 36 = .ok (.aload_n 0, 1) := by decide +kernel
theorem dX11_cross_37 : decode cX11_cross 37 = .ok (.getfield 61, 3) := by decide +kernel
theorem dX11_cross_40 : decode cX11_cross 40 = .ok (.aload_n 0, 1) := by decide +kernel
theorem dX11_cross_41 : decode cX11_cross 41 = .ok (.getfield 79, 3) := by decide +kernel
theorem dX11_cross_44 : decode cX11_cross 44 = .ok (.aload_n 0, 1) := by decide +kernel
theorem dX11_cross_45 : decode cX11_cross 45 = .ok (.getfield 52, 3) := by decide +kernel
theorem dX11_cross_48 : decode cX11_cross 48 = .ok (.invokevirtual 150, 3) := by decide +kernel
theorem dX11_cross_51 : decode cX11_cross 51 = .ok (.aload_n 0, 1) := by decide +kernel
theorem dX11_cross_52 : decode cX11_cross 52 = .ok (.getfield 61, 3) := by decide +kernel
theorem dX11_cross_55 : decode cX11_cross 55 = .ok (.iload_n 1, 1) := by decide +kernel
theorem dX11_cross_56 : decode cX11_cross 56 = .ok (.invokevirtual 275, 3) := by decide +kernel
theorem dX11_cross_59 : decode cX11_cross 59 = .ok (.iload_n 2, 1) := by decide +kernel
theorem dX11_cross_60 : decode cX11_cross 60 = .ok (.ifCond .ne 13, 3) := by decide +kernel
theorem dX11_cross_63 : decode cX11_cross 63 = .ok (.aload_n 0, 1) := by decide +kernel
theorem dX11_cross_64 : decode cX11_cross 64 = .ok (.getfield 61, 3) := by decide +kernel
theorem dX11_cross_67 : decode cX11_cross 67 = .ok (.getfield 269, 3) := by decide +kernel
theorem dX11_cross_70 : decode cX11_cross 70 = .ok (.goto 10, 3) := by decide +kernel
theorem dX11_cross_73 : decode cX11_cross 73 = .ok (.aload_n 0, 1) := by decide +kernel
theorem dX11_cross_74 : decode cX11_cross 74 = .ok (.getfield 61, 3) := by decide +kernel
theorem dX11_cross_77 : decode cX11_cross 77 = .ok (.getfield 272, 3) := by decide +kernel
theorem dX11_cross_80 : decode cX11_cross 80 = .ok (.ireturn, 1) := by decide +kernel
set_option maxRecDepth 20000 in
theorem bk_X11_cross_0 {d : Nat} {w : hb_W} {Q : Option hb_V → hb_W → Prop} {x1 : Int32} {x2 : Int32} (h : (((hb_fI w 0 10 0) = 0) → Q (some (hb_i (-1 : Int32))) w) ∧ ((¬ (hb_fI w 0 10 0) = 0) → hb_O yX11_isKind cX11_isKind 1 (some .boolean) d [hb_i x1] w (fun rv w1 => hb_R yX11_cross cX11_cross 3 (some .int) (d + 1) 11 [some (hb_r 0 0 0), some (hb_i x1), some (hb_i x2)] (rv.toList ++ []) w1 Q))) : hb_R yX11_cross cX11_cross 3 (some .int) (d + 1) 0 [some (hb_r 0 0 0), some (hb_i x1), some (hb_i x2)] [] w Q := by
  refine hb_aload_n (pc := 0) (i := 0) dX11_cross_0 rfl rfl ?_
  refine hb_getIx (pc := 1) (x := hb_fI w 0 10 0) dX11_cross_1 fw_X11_86 cw_11 rfl (by decide) rfl rfl ?_
  refine hb_if_eq (pc := 4) (tgt := 34) dX11_cross_4 (by decide) (fun c1 => ?_) (fun c1 => ?_)
  · have ht1 := h.1 c1
    refine hb_iconst (pc := 34) (v := -1) dX11_cross_34 (by decide) ?_
    exact hb_iret (pc := 35) dX11_cross_35 rfl ht1
  · have ht1 := h.2 c1
    refine hb_iload_n (pc := 7) (i := 1) dX11_cross_7 rfl rfl ?_
    exact hb_callS (pc := 8) (As := [hb_i x1]) (st := []) dX11_cross_8 ml_X11_252 mf_X11_isKind ms_X11_isKind rfl rfl (Nat.le_of_ble_eq_true rfl) (Nat.le_of_ble_eq_true rfl) ht1 (fun _ _ q => q)
set_option maxRecDepth 20000 in
theorem bk_X11_cross_11 {d : Nat} {w : hb_W} {Q : Option hb_V → hb_W → Prop} {x1 : Int32} {x2 : Int32} {xs0 : Int32} (h : ((xs0 = 0) → Q (some (hb_i (-1 : Int32))) w) ∧ ((¬ xs0 = 0) → hb_O yX11_isWhichOrHowFar cX11_isWhichOrHowFar 1 (some .boolean) d [hb_i x2] w (fun rv w1 => hb_R yX11_cross cX11_cross 3 (some .int) (d + 1) 18 [some (hb_r 0 0 0), some (hb_i x1), some (hb_i x2)] (rv.toList ++ []) w1 Q))) : hb_R yX11_cross cX11_cross 3 (some .int) (d + 1) 11 [some (hb_r 0 0 0), some (hb_i x1), some (hb_i x2)] [hb_i xs0] w Q := by
  refine hb_if_eq (pc := 11) (tgt := 34) dX11_cross_11 (by decide) (fun c1 => ?_) (fun c1 => ?_)
  · have ht1 := h.1 c1
    refine hb_iconst (pc := 34) (v := -1) dX11_cross_34 (by decide) ?_
    exact hb_iret (pc := 35) dX11_cross_35 rfl ht1
  · have ht1 := h.2 c1
    refine hb_iload_n (pc := 14) (i := 2) dX11_cross_14 rfl rfl ?_
    exact hb_callS (pc := 15) (As := [hb_i x2]) (st := []) dX11_cross_15 ml_X11_262 mf_X11_isWhichOrHowFar ms_X11_isWhichOrHowFar rfl rfl (Nat.le_of_ble_eq_true rfl) (Nat.le_of_ble_eq_true rfl) ht1 (fun _ _ q => q)
set_option maxRecDepth 20000 in
theorem bk_X11_cross_18 {d : Nat} {w : hb_W} {Q : Option hb_V → hb_W → Prop} {x1 : Int32} {x2 : Int32} {xs0 : Int32} (h : ((xs0 = 0) → Q (some (hb_i (-1 : Int32))) w) ∧ ((¬ xs0 = 0) → (((hb_fI w 7 3 0) < (400 : Int32)) → hb_O yX4_bringUp cX4_bringUp 5 none d [hb_r 8 0 0, hb_r 11 (hb_fR w 0 8 0) 0, hb_r 7 0 0] w (fun rv w1 => hb_R yX11_cross cX11_cross 3 (some .int) (d + 1) 51 [some (hb_r 0 0 0), some (hb_i x1), some (hb_i x2)] (rv.toList ++ []) w1 Q)) ∧ ((¬ (hb_fI w 7 3 0) < (400 : Int32)) → Q (some (hb_i (-1 : Int32))) w))) : hb_R yX11_cross cX11_cross 3 (some .int) (d + 1) 18 [some (hb_r 0 0 0), some (hb_i x1), some (hb_i x2)] [hb_i xs0] w Q := by
  refine hb_if_eq (pc := 18) (tgt := 34) dX11_cross_18 (by decide) (fun c1 => ?_) (fun c1 => ?_)
  · have ht1 := h.1 c1
    refine hb_iconst (pc := 34) (v := -1) dX11_cross_34 (by decide) ?_
    exact hb_iret (pc := 35) dX11_cross_35 rfl ht1
  · have ht1 := h.2 c1
    refine hb_aload_n (pc := 21) (i := 0) dX11_cross_21 rfl rfl ?_
    refine hb_getR (pc := 22) (g1 := 0) dX11_cross_22 fw_X11_52 cw_11 rfl (by decide) rfl (by decide) rfl ?_
    refine hb_getIx (pc := 25) (x := hb_fI w 7 3 0) dX11_cross_25 fw_X11_141 cw_8 rfl (by decide) rfl rfl ?_
    refine hb_sipush (pc := 28) (v := 400) dX11_cross_28 (by decide) ?_
    refine hb_icmp_lt (pc := 31) (tgt := 36) dX11_cross_31 (by decide) (fun c2 => ?_) (fun c2 => ?_)
    · have ht2 := ht1.1 c2
      refine hb_aload_n (pc := 36) (i := 0) dX11_cross_36 rfl rfl ?_
      refine hb_getR (pc := 37) (g1 := 0) dX11_cross_37 fw_X11_61 cw_11 rfl (by decide) rfl (by decide) rfl ?_
      refine hb_aload_n (pc := 40) (i := 0) dX11_cross_40 rfl rfl ?_
      refine hb_getR (pc := 41) (g1 := hb_fR w 0 8 0) dX11_cross_41 fw_X11_79 cw_11 rfl (by decide) rfl (by decide) rfl ?_
      refine hb_aload_n (pc := 44) (i := 0) dX11_cross_44 rfl rfl ?_
      refine hb_getR (pc := 45) (g1 := 0) dX11_cross_45 fw_X11_52 cw_11 rfl (by decide) rfl (by decide) rfl ?_
      exact hb_callV (pc := 48) (As := [hb_r 11 (hb_fR w 0 8 0) 0, hb_r 7 0 0]) (st := []) dX11_cross_48 ml_X11_150 mf_X4_bringUp mi_X4_bringUp (ci := 4) rfl rfl (by decide) rfl rfl (Nat.le_of_ble_eq_true rfl) (Nat.le_of_ble_eq_true rfl) ht2 (fun _ _ q => q)
    · have ht2 := ht1.2 c2
      refine hb_iconst (pc := 34) (v := -1) dX11_cross_34 (by decide) ?_
      exact hb_iret (pc := 35) dX11_cross_35 rfl ht2
set_option maxRecDepth 20000 in
theorem bk_X11_cross_51 {d : Nat} {w : hb_W} {Q : Option hb_V → hb_W → Prop} {x1 : Int32} {x2 : Int32} (h : hb_O yX4_findCrossHood cX4_findCrossHood 4 none d [hb_r 8 0 0, hb_i x1] w (fun rv w1 => hb_R yX11_cross cX11_cross 3 (some .int) (d + 1) 59 [some (hb_r 0 0 0), some (hb_i x1), some (hb_i x2)] (rv.toList ++ []) w1 Q)) : hb_R yX11_cross cX11_cross 3 (some .int) (d + 1) 51 [some (hb_r 0 0 0), some (hb_i x1), some (hb_i x2)] [] w Q := by
  refine hb_aload_n (pc := 51) (i := 0) dX11_cross_51 rfl rfl ?_
  refine hb_getR (pc := 52) (g1 := 0) dX11_cross_52 fw_X11_61 cw_11 rfl (by decide) rfl (by decide) rfl ?_
  refine hb_iload_n (pc := 55) (i := 1) dX11_cross_55 rfl rfl ?_
  exact hb_callV (pc := 56) (As := [hb_i x1]) (st := []) dX11_cross_56 ml_X11_275 mf_X4_findCrossHood mi_X4_findCrossHood (ci := 4) rfl rfl (by decide) rfl rfl (Nat.le_of_ble_eq_true rfl) (Nat.le_of_ble_eq_true rfl) h (fun _ _ q => q)
set_option maxRecDepth 20000 in
theorem bk_X11_cross_59 {d : Nat} {w : hb_W} {Q : Option hb_V → hb_W → Prop} {x1 : Int32} {x2 : Int32} (h : ((¬ x2 = 0) → Q (some (hb_i (hb_fI w 8 5 0))) w) ∧ ((x2 = 0) → Q (some (hb_i (hb_fI w 8 4 0))) w)) : hb_R yX11_cross cX11_cross 3 (some .int) (d + 1) 59 [some (hb_r 0 0 0), some (hb_i x1), some (hb_i x2)] [] w Q := by
  refine hb_iload_n (pc := 59) (i := 2) dX11_cross_59 rfl rfl ?_
  refine hb_if_ne (pc := 60) (tgt := 73) dX11_cross_60 (by decide) (fun c1 => ?_) (fun c1 => ?_)
  · have ht1 := h.1 c1
    refine hb_aload_n (pc := 73) (i := 0) dX11_cross_73 rfl rfl ?_
    refine hb_getR (pc := 74) (g1 := 0) dX11_cross_74 fw_X11_61 cw_11 rfl (by decide) rfl (by decide) rfl ?_
    refine hb_getIx (pc := 77) (x := hb_fI w 8 5 0) dX11_cross_77 fw_X11_272 cw_4 rfl (by decide) rfl rfl ?_
    exact hb_iret (pc := 80) dX11_cross_80 rfl ht1
  · have ht1 := h.2 c1
    refine hb_aload_n (pc := 63) (i := 0) dX11_cross_63 rfl rfl ?_
    refine hb_getR (pc := 64) (g1 := 0) dX11_cross_64 fw_X11_61 cw_11 rfl (by decide) rfl (by decide) rfl ?_
    refine hb_getIx (pc := 67) (x := hb_fI w 8 4 0) dX11_cross_67 fw_X11_269 cw_4 rfl (by decide) rfl rfl ?_
    refine hb_goto (pc := 70) (tgt := 80) dX11_cross_70 (by decide) ?_
    exact hb_iret (pc := 80) dX11_cross_80 rfl ht1
theorem dX11_same_0 : decode cX11_same 0 = .ok (.aload_n 0, 1) := by decide +kernel
theorem dX11_same_1 : decode cX11_same 1 = .ok (.getfield 86, 3) := by decide +kernel
theorem dX11_same_4 : decode cX11_same 4 = .ok (.ifCond .eq 21, 3) := by decide +kernel
theorem dX11_same_7 : decode cX11_same 7 = .ok (.aload_n 0, 1) := by decide +kernel
theorem dX11_same_8 : decode cX11_same 8 = .ok (.getfield 52, 3) := by decide +kernel
theorem dX11_same_11 : decode cX11_same 11 = .ok (.getfield 141, 3) := by decide +kernel
theorem dX11_same_14 : decode cX11_same 14 = .ok (.sipush 400, 3) := by decide +kernel
theorem dX11_same_17 : decode cX11_same 17 = .ok (.if_icmp .ge 8, 3) := by decide +kernel
theorem dX11_same_20 : decode cX11_same 20 = .ok (.iload_n 1, 1) := by decide +kernel
theorem dX11_same_21 : decode cX11_same 21 = .ok (.iconst (-1), 1) := by decide +kernel
theorem dX11_same_22 : decode cX11_same 22 = .ok (.if_icmp .ge 5, 3) := by decide +kernel
theorem dX11_same_25 : decode cX11_same 25 = .ok (.iconst (-1), 1) := by decide +kernel
theorem dX11_same_26 : decode cX11_same 26 = .ok (.ireturn, 1) := by decide +kernel
theorem dX11_same_27 : decode cX11_same 27 = .ok (.aload_n 0, 1) := by decide +kernel
theorem dX11_same_28 : decode cX11_same 28 = .ok (.getfield 61, 3) := by decide +kernel
theorem dX11_same_31 : decode cX11_same 31 = .ok (.aload_n 0, 1) := by decide +kernel
theorem dX11_same_32 : decode cX11_same 32 = .ok (.getfield 79, 3) := by decide +kernel
theorem dX11_same_35 : decode cX11_same 35 = .ok (.aload_n 0, 1) := by decide +kernel
theorem dX11_same_36 : decode cX11_same 36 = .ok (.getfield 52, 3) := by decide +kernel
theorem dX11_same_39 : decode cX11_same 39 = .ok (.invokevirtual 150, 3) := by decide +kernel
theorem dX11_same_42 : decode cX11_same 42 = .ok (.iload_n 1, 1) := by decide +kernel
theorem dX11_same_43 : decode cX11_same 43 = .ok (.iconst (-1), 1) := by decide +kernel
theorem dX11_same_44 : decode cX11_same 44 = .ok (.if_icmp .ne 13, 3) := by decide +kernel
theorem dX11_same_47 : decode cX11_same 47 = .ok (.aload_n 0, 1) := by decide +kernel
theorem dX11_same_48 : decode cX11_same 48 = .ok (.getfield 61, 3) := by decide +kernel
theorem dX11_same_51 : decode cX11_same 51 = .ok (.invokevirtual 278, 3) := by decide +kernel
theorem dX11_same_54 : decode cX11_same 54 = .ok (.goto 11, 3) := by decide +kernel
theorem dX11_same_57 : decode cX11_same 57 = .ok (.aload_n 0, 1) := by decide +kernel
theorem dX11_same_58 : decode cX11_same 58 = .ok (.getfield 61, 3) := by decide +kernel
theorem dX11_same_61 : decode cX11_same 61 = .ok (.iload_n 1, 1) := by decide +kernel
theorem dX11_same_62 : decode cX11_same 62 = .ok (.invokevirtual 281, 3) := by decide +kernel
theorem dX11_same_65 : decode cX11_same 65 = .ok (.ireturn, 1) := by decide +kernel
set_option maxRecDepth 20000 in
theorem bk_X11_same_0 {d : Nat} {w : hb_W} {Q : Option hb_V → hb_W → Prop} {x1 : Int32} (h : (((hb_fI w 0 10 0) = 0) → Q (some (hb_i (-1 : Int32))) w) ∧ ((¬ (hb_fI w 0 10 0) = 0) → (((400 : Int32) ≤ (hb_fI w 7 3 0)) → Q (some (hb_i (-1 : Int32))) w) ∧ ((¬ (400 : Int32) ≤ (hb_fI w 7 3 0)) → (((-1 : Int32) ≤ x1) → hb_O yX4_bringUp cX4_bringUp 5 none d [hb_r 8 0 0, hb_r 11 (hb_fR w 0 8 0) 0, hb_r 7 0 0] w (fun rv w1 => hb_R yX11_same cX11_same 2 (some .int) (d + 1) 42 [some (hb_r 0 0 0), some (hb_i x1)] (rv.toList ++ []) w1 Q)) ∧ ((¬ (-1 : Int32) ≤ x1) → Q (some (hb_i (-1 : Int32))) w)))) : hb_R yX11_same cX11_same 2 (some .int) (d + 1) 0 [some (hb_r 0 0 0), some (hb_i x1)] [] w Q := by
  refine hb_aload_n (pc := 0) (i := 0) dX11_same_0 rfl rfl ?_
  refine hb_getIx (pc := 1) (x := hb_fI w 0 10 0) dX11_same_1 fw_X11_86 cw_11 rfl (by decide) rfl rfl ?_
  refine hb_if_eq (pc := 4) (tgt := 25) dX11_same_4 (by decide) (fun c1 => ?_) (fun c1 => ?_)
  · have ht1 := h.1 c1
    refine hb_iconst (pc := 25) (v := -1) dX11_same_25 (by decide) ?_
    exact hb_iret (pc := 26) dX11_same_26 rfl ht1
  · have ht1 := h.2 c1
    refine hb_aload_n (pc := 7) (i := 0) dX11_same_7 rfl rfl ?_
    refine hb_getR (pc := 8) (g1 := 0) dX11_same_8 fw_X11_52 cw_11 rfl (by decide) rfl (by decide) rfl ?_
    refine hb_getIx (pc := 11) (x := hb_fI w 7 3 0) dX11_same_11 fw_X11_141 cw_8 rfl (by decide) rfl rfl ?_
    refine hb_sipush (pc := 14) (v := 400) dX11_same_14 (by decide) ?_
    refine hb_icmp_ge (pc := 17) (tgt := 25) dX11_same_17 (by decide) (fun c2 => ?_) (fun c2 => ?_)
    · have ht2 := ht1.1 c2
      refine hb_iconst (pc := 25) (v := -1) dX11_same_25 (by decide) ?_
      exact hb_iret (pc := 26) dX11_same_26 rfl ht2
    · have ht2 := ht1.2 c2
      refine hb_iload_n (pc := 20) (i := 1) dX11_same_20 rfl rfl ?_
      refine hb_iconst (pc := 21) (v := -1) dX11_same_21 (by decide) ?_
      refine hb_icmp_ge (pc := 22) (tgt := 27) dX11_same_22 (by decide) (fun c3 => ?_) (fun c3 => ?_)
      · have ht3 := ht2.1 c3
        refine hb_aload_n (pc := 27) (i := 0) dX11_same_27 rfl rfl ?_
        refine hb_getR (pc := 28) (g1 := 0) dX11_same_28 fw_X11_61 cw_11 rfl (by decide) rfl (by decide) rfl ?_
        refine hb_aload_n (pc := 31) (i := 0) dX11_same_31 rfl rfl ?_
        refine hb_getR (pc := 32) (g1 := hb_fR w 0 8 0) dX11_same_32 fw_X11_79 cw_11 rfl (by decide) rfl (by decide) rfl ?_
        refine hb_aload_n (pc := 35) (i := 0) dX11_same_35 rfl rfl ?_
        refine hb_getR (pc := 36) (g1 := 0) dX11_same_36 fw_X11_52 cw_11 rfl (by decide) rfl (by decide) rfl ?_
        exact hb_callV (pc := 39) (As := [hb_r 11 (hb_fR w 0 8 0) 0, hb_r 7 0 0]) (st := []) dX11_same_39 ml_X11_150 mf_X4_bringUp mi_X4_bringUp (ci := 4) rfl rfl (by decide) rfl rfl (Nat.le_of_ble_eq_true rfl) (Nat.le_of_ble_eq_true rfl) ht3 (fun _ _ q => q)
      · have ht3 := ht2.2 c3
        refine hb_iconst (pc := 25) (v := -1) dX11_same_25 (by decide) ?_
        exact hb_iret (pc := 26) dX11_same_26 rfl ht3
set_option maxRecDepth 20000 in
theorem bk_X11_same_42 {d : Nat} {w : hb_W} {Q : Option hb_V → hb_W → Prop} {x1 : Int32} (h : ((¬ x1 = (-1 : Int32)) → hb_O yX4_tracelessHood cX4_tracelessHood 4 (some .int) d [hb_r 8 0 0, hb_i x1] w (fun rv w1 => hb_R yX11_same cX11_same 2 (some .int) (d + 1) 65 [some (hb_r 0 0 0), some (hb_i x1)] (rv.toList ++ []) w1 Q)) ∧ ((x1 = (-1 : Int32)) → hb_O yX4_countTraceless cX4_countTraceless 3 (some .int) d [hb_r 8 0 0] w (fun rv w1 => hb_R yX11_same cX11_same 2 (some .int) (d + 1) 54 [some (hb_r 0 0 0), some (hb_i x1)] (rv.toList ++ []) w1 Q))) : hb_R yX11_same cX11_same 2 (some .int) (d + 1) 42 [some (hb_r 0 0 0), some (hb_i x1)] [] w Q := by
  refine hb_iload_n (pc := 42) (i := 1) dX11_same_42 rfl rfl ?_
  refine hb_iconst (pc := 43) (v := -1) dX11_same_43 (by decide) ?_
  refine hb_icmp_ne (pc := 44) (tgt := 57) dX11_same_44 (by decide) (fun c1 => ?_) (fun c1 => ?_)
  · have ht1 := h.1 c1
    refine hb_aload_n (pc := 57) (i := 0) dX11_same_57 rfl rfl ?_
    refine hb_getR (pc := 58) (g1 := 0) dX11_same_58 fw_X11_61 cw_11 rfl (by decide) rfl (by decide) rfl ?_
    refine hb_iload_n (pc := 61) (i := 1) dX11_same_61 rfl rfl ?_
    exact hb_callV (pc := 62) (As := [hb_i x1]) (st := []) dX11_same_62 ml_X11_281 mf_X4_tracelessHood mi_X4_tracelessHood (ci := 4) rfl rfl (by decide) rfl rfl (Nat.le_of_ble_eq_true rfl) (Nat.le_of_ble_eq_true rfl) ht1 (fun _ _ q => q)
  · have ht1 := h.2 c1
    refine hb_aload_n (pc := 47) (i := 0) dX11_same_47 rfl rfl ?_
    refine hb_getR (pc := 48) (g1 := 0) dX11_same_48 fw_X11_61 cw_11 rfl (by decide) rfl (by decide) rfl ?_
    exact hb_callV (pc := 51) (As := []) (st := []) dX11_same_51 ml_X11_278 mf_X4_countTraceless mi_X4_countTraceless (ci := 4) rfl rfl (by decide) rfl rfl (Nat.le_of_ble_eq_true rfl) (Nat.le_of_ble_eq_true rfl) ht1 (fun _ _ q => q)
set_option maxRecDepth 20000 in
theorem bk_X11_same_54 {d : Nat} {w : hb_W} {Q : Option hb_V → hb_W → Prop} {x1 : Int32} {xs0 : Int32} (h : hb_R yX11_same cX11_same 2 (some .int) (d + 1) 65 [some (hb_r 0 0 0), some (hb_i x1)] [hb_i xs0] w Q) : hb_R yX11_same cX11_same 2 (some .int) (d + 1) 54 [some (hb_r 0 0 0), some (hb_i x1)] [hb_i xs0] w Q := by
  refine hb_goto (pc := 54) (tgt := 65) dX11_same_54 (by decide) ?_
  exact h
set_option maxRecDepth 20000 in
theorem bk_X11_same_65 {d : Nat} {w : hb_W} {Q : Option hb_V → hb_W → Prop} {x1 : Int32} {xs0 : Int32} (h : Q (some (hb_i xs0)) w) : hb_R yX11_same cX11_same 2 (some .int) (d + 1) 65 [some (hb_r 0 0 0), some (hb_i x1)] [hb_i xs0] w Q := by
  exact hb_iret (pc := 65) dX11_same_65 rfl h
theorem dX11_pass_0 : decode cX11_pass 0 = .ok (.iload_n 1, 1) := by decide +kernel
theorem dX11_pass_1 : decode cX11_pass 1 = .ok (.invokestatic 154, 3) := by decide +kernel
theorem dX11_pass_4 : decode cX11_pass 4 = .ok (.ifCond .eq 26, 3) := by decide +kernel
theorem dX11_pass_7 : decode cX11_pass 7 = .ok (.iload_n 2, 1) := by decide +kernel
theorem dX11_pass_8 : decode cX11_pass 8 = .ok (.ifCond .lt 22, 3) := by decide +kernel
theorem dX11_pass_11 : decode cX11_pass 11 = .ok (.iload_n 2, 1) := by decide +kernel
theorem dX11_pass_12 : decode cX11_pass 12 = .ok (.bipush 100, 2) := by decide +kernel
theorem dX11_pass_14 : decode cX11_pass 14 = .ok (.if_icmp .ge 16, 3) := by decide +kernel
theorem dX11_pass_17 : decode cX11_pass 17 = .ok (.iload_n 3, 1) := by decide +kernel
theorem dX11_pass_18 : decode cX11_pass 18 = .ok (.ifCond .lt 12, 3) := by decide +kernel
theorem dX11_pass_21 : decode cX11_pass 21 = .ok (.iload_n 3, 1) := by decide +kernel
theorem dX11_pass_22 : decode cX11_pass 22 = .ok (.iconst 2, 1) := by decide +kernel
theorem dX11_pass_23 : decode cX11_pass 23 = .ok (.if_icmp .ge 7, 3) := by decide +kernel
theorem dX11_pass_26 : decode cX11_pass 26 = .ok (.iconst 1, 1) := by decide +kernel
theorem dX11_pass_27 : decode cX11_pass 27 = .ok (.goto 4, 3) := by decide +kernel
theorem dX11_pass_30 : decode cX11_pass 30 = .ok (.iconst 0, 1) := by decide +kernel
theorem dX11_pass_31 : decode cX11_pass 31 = .ok (.istore 4, 2) := by decide +kernel
theorem dX11_pass_33 : decode cX11_pass 33 = .ok (.aload_n 0, 1) := by decide +kernel
theorem dX11_pass_34 : decode cX11_pass 34 = .ok (.getfield 86, 3) := by decide +kernel
theorem dX11_pass_37 : decode cX11_pass 37 = .ok (.ifCond .eq 21, 3) := by decide +kernel
theorem dX11_pass_40 : decode cX11_pass 40 = .ok (.iload 4, 2) := by decide +kernel
theorem dX11_pass_42 : decode cX11_pass 42 = .ok (.ifCond .eq 16, 3) := by decide +kernel
theorem dX11_pass_45 : decode cX11_pass 45 = .ok (.aload_n 0, 1) := by decide +kernel
theorem dX11_pass_46 : decode cX11_pass 46 = .ok (.getfield 52, 3) := by decide +kernel
theorem dX11_pass_49 : decode cX11_pass 49 = .ok (.getfield 141, 3) := by decide +kernel
theorem dX11_pass_52 : decode cX11_pass 52 = .ok (.sipush 400, 3) := by decide +kernel
theorem dX11_pass_55 : decode cX11_pass 55 = .ok (.if_icmp .lt 9, 3) := by decide +kernel
theorem dX11_pass_58 : decode cX11_pass 58 = .ok (.aload_n 0, 1) := by decide +kernel
theorem dX11_pass_59 : decode cX11_pass 59 = .ok (.iconst 2, 1) := by decide +kernel
theorem dX11_pass_60 : decode cX11_pass 60 = .ok (.invokevirtual 100, 3) := by decide +kernel
theorem dX11_pass_63 : decode cX11_pass 63 = .ok (.ireturn, 1) := by decide +kernel
theorem dX11_pass_64 : decode cX11_pass 64 = .ok (.aload_n 0, 1) := by decide +kernel
theorem dX11_pass_65 : decode cX11_pass 65 = .ok (.getfield 52, 3) := by decide +kernel
theorem dX11_pass_68 : decode cX11_pass 68 = .ok (.invokevirtual 284, 3) := by decide +kernel
theorem dX11_pass_71 : decode cX11_pass 71 = .ok (.aload_n 0, 1) := by decide +kernel
theorem dX11_pass_72 : decode cX11_pass 72 = .ok (.getfield 52, 3) := by decide +kernel
theorem dX11_pass_75 : decode cX11_pass 75 = .ok (.iload_n 1, 1) := by decide +kernel
theorem dX11_pass_76 : decode cX11_pass 76 = .ok (.iload_n 2, 1) := by decide +kernel
theorem dX11_pass_77 : decode cX11_pass 77 = .ok (.iload_n 3, 1) := by decide +kernel
theorem dX11_pass_78 : decode cX11_pass 78 = .ok (.aload_n 0, 1) := by decide +kernel
theorem dX11_pass_79 : decode cX11_pass 79 = .ok (.getfield 79, 3) := by decide +kernel
theorem dX11_pass_82 : decode cX11_pass 82 = .ok (.getfield 127, 3) := by decide +kernel
theorem dX11_pass_85 : decode cX11_pass 85 = .ok (.invokevirtual 287, 3) := by decide +kernel
theorem dX11_pass_88 : decode cX11_pass 88 = .ok (.aload_n 0, 1) := by decide +kernel
theorem dX11_pass_89 : decode cX11_pass 89 = .ok (.getfield 52, 3) := by decide +kernel
theorem dX11_pass_92 : decode cX11_pass 92 = .ok (.getfield 141, 3) := by decide +kernel
theorem dX11_pass_95 : decode cX11_pass 95 = .ok (.ireturn, 1) := by decide +kernel
set_option maxRecDepth 20000 in
theorem bk_X11_pass_0 {d : Nat} {w : hb_W} {Q : Option hb_V → hb_W → Prop} {x1 : Int32} {x2 : Int32} {x3 : Int32} (h : hb_O yX11_isHood cX11_isHood 1 (some .boolean) d [hb_i x1] w (fun rv w1 => hb_R yX11_pass cX11_pass 5 (some .int) (d + 1) 4 [some (hb_r 0 0 0), some (hb_i x1), some (hb_i x2), some (hb_i x3), none] (rv.toList ++ []) w1 Q)) : hb_R yX11_pass cX11_pass 5 (some .int) (d + 1) 0 [some (hb_r 0 0 0), some (hb_i x1), some (hb_i x2), some (hb_i x3), none] [] w Q := by
  refine hb_iload_n (pc := 0) (i := 1) dX11_pass_0 rfl rfl ?_
  exact hb_callS (pc := 1) (As := [hb_i x1]) (st := []) dX11_pass_1 ml_X11_154 mf_X11_isHood ms_X11_isHood rfl rfl (Nat.le_of_ble_eq_true rfl) (Nat.le_of_ble_eq_true rfl) h (fun _ _ q => q)
set_option maxRecDepth 20000 in
theorem bk_X11_pass_4 {d : Nat} {w : hb_W} {Q : Option hb_V → hb_W → Prop} {x1 : Int32} {x2 : Int32} {x3 : Int32} {xs0 : Int32} (h : ((xs0 = 0) → hb_R yX11_pass cX11_pass 5 (some .int) (d + 1) 30 [some (hb_r 0 0 0), some (hb_i x1), some (hb_i x2), some (hb_i x3), none] [] w Q) ∧ ((¬ xs0 = 0) → ((x2 < 0) → hb_R yX11_pass cX11_pass 5 (some .int) (d + 1) 30 [some (hb_r 0 0 0), some (hb_i x1), some (hb_i x2), some (hb_i x3), none] [] w Q) ∧ ((¬ x2 < 0) → (((100 : Int32) ≤ x2) → hb_R yX11_pass cX11_pass 5 (some .int) (d + 1) 30 [some (hb_r 0 0 0), some (hb_i x1), some (hb_i x2), some (hb_i x3), none] [] w Q) ∧ ((¬ (100 : Int32) ≤ x2) → ((x3 < 0) → hb_R yX11_pass cX11_pass 5 (some .int) (d + 1) 30 [some (hb_r 0 0 0), some (hb_i x1), some (hb_i x2), some (hb_i x3), none] [] w Q) ∧ ((¬ x3 < 0) → (((2 : Int32) ≤ x3) → hb_R yX11_pass cX11_pass 5 (some .int) (d + 1) 30 [some (hb_r 0 0 0), some (hb_i x1), some (hb_i x2), some (hb_i x3), none] [] w Q) ∧ ((¬ (2 : Int32) ≤ x3) → (((hb_fI w 0 10 0) = 0) → hb_R yX11_pass cX11_pass 5 (some .int) (d + 1) 58 [some (hb_r 0 0 0), some (hb_i x1), some (hb_i x2), some (hb_i x3), some (hb_i (1 : Int32))] [] w Q) ∧ ((¬ (hb_fI w 0 10 0) = 0) → (((1 : Int32) = 0) → hb_R yX11_pass cX11_pass 5 (some .int) (d + 1) 58 [some (hb_r 0 0 0), some (hb_i x1), some (hb_i x2), some (hb_i x3), some (hb_i (1 : Int32))] [] w Q) ∧ ((¬ (1 : Int32) = 0) → (((hb_fI w 7 3 0) < (400 : Int32)) → hb_O yX8_remember cX8_remember 1 none d [hb_r 7 0 0] w (fun rv w1 => hb_R yX11_pass cX11_pass 5 (some .int) (d + 1) 71 [some (hb_r 0 0 0), some (hb_i x1), some (hb_i x2), some (hb_i x3), some (hb_i (1 : Int32))] (rv.toList ++ []) w1 Q)) ∧ ((¬ (hb_fI w 7 3 0) < (400 : Int32)) → hb_R yX11_pass cX11_pass 5 (some .int) (d + 1) 58 [some (hb_r 0 0 0), some (hb_i x1), some (hb_i x2), some (hb_i x3), some (hb_i (1 : Int32))] [] w Q))))))))) : hb_R yX11_pass cX11_pass 5 (some .int) (d + 1) 4 [some (hb_r 0 0 0), some (hb_i x1), some (hb_i x2), some (hb_i x3), none] [hb_i xs0] w Q := by
  refine hb_if_eq (pc := 4) (tgt := 30) dX11_pass_4 (by decide) (fun c1 => ?_) (fun c1 => ?_)
  · have ht1 := h.1 c1
    exact ht1
  · have ht1 := h.2 c1
    refine hb_iload_n (pc := 7) (i := 2) dX11_pass_7 rfl rfl ?_
    refine hb_if_lt (pc := 8) (tgt := 30) dX11_pass_8 (by decide) (fun c2 => ?_) (fun c2 => ?_)
    · have ht2 := ht1.1 c2
      exact ht2
    · have ht2 := ht1.2 c2
      refine hb_iload_n (pc := 11) (i := 2) dX11_pass_11 rfl rfl ?_
      refine hb_bipush (pc := 12) (v := 100) dX11_pass_12 (by decide) ?_
      refine hb_icmp_ge (pc := 14) (tgt := 30) dX11_pass_14 (by decide) (fun c3 => ?_) (fun c3 => ?_)
      · have ht3 := ht2.1 c3
        exact ht3
      · have ht3 := ht2.2 c3
        refine hb_iload_n (pc := 17) (i := 3) dX11_pass_17 rfl rfl ?_
        refine hb_if_lt (pc := 18) (tgt := 30) dX11_pass_18 (by decide) (fun c4 => ?_) (fun c4 => ?_)
        · have ht4 := ht3.1 c4
          exact ht4
        · have ht4 := ht3.2 c4
          refine hb_iload_n (pc := 21) (i := 3) dX11_pass_21 rfl rfl ?_
          refine hb_iconst (pc := 22) (v := 2) dX11_pass_22 (by decide) ?_
          refine hb_icmp_ge (pc := 23) (tgt := 30) dX11_pass_23 (by decide) (fun c5 => ?_) (fun c5 => ?_)
          · have ht5 := ht4.1 c5
            exact ht5
          · have ht5 := ht4.2 c5
            refine hb_iconst (pc := 26) (v := 1) dX11_pass_26 (by decide) ?_
            refine hb_goto (pc := 27) (tgt := 31) dX11_pass_27 (by decide) ?_
            refine hb_istore (pc := 31) (i := 4) (ls1 := [some (hb_r 0 0 0), some (hb_i x1), some (hb_i x2), some (hb_i x3), some (hb_i (1 : Int32))]) dX11_pass_31 (by decide) rfl ?_
            refine hb_aload_n (pc := 33) (i := 0) dX11_pass_33 rfl rfl ?_
            refine hb_getIx (pc := 34) (x := hb_fI w 0 10 0) dX11_pass_34 fw_X11_86 cw_11 rfl (by decide) rfl rfl ?_
            refine hb_if_eq (pc := 37) (tgt := 58) dX11_pass_37 (by decide) (fun c6 => ?_) (fun c6 => ?_)
            · have ht6 := ht5.1 c6
              exact ht6
            · have ht6 := ht5.2 c6
              refine hb_iload (pc := 40) dX11_pass_40 rfl ?_
              refine hb_if_eq (pc := 42) (tgt := 58) dX11_pass_42 (by decide) (fun c7 => ?_) (fun c7 => ?_)
              · have ht7 := ht6.1 c7
                exact ht7
              · have ht7 := ht6.2 c7
                refine hb_aload_n (pc := 45) (i := 0) dX11_pass_45 rfl rfl ?_
                refine hb_getR (pc := 46) (g1 := 0) dX11_pass_46 fw_X11_52 cw_11 rfl (by decide) rfl (by decide) rfl ?_
                refine hb_getIx (pc := 49) (x := hb_fI w 7 3 0) dX11_pass_49 fw_X11_141 cw_8 rfl (by decide) rfl rfl ?_
                refine hb_sipush (pc := 52) (v := 400) dX11_pass_52 (by decide) ?_
                refine hb_icmp_lt (pc := 55) (tgt := 64) dX11_pass_55 (by decide) (fun c8 => ?_) (fun c8 => ?_)
                · have ht8 := ht7.1 c8
                  refine hb_aload_n (pc := 64) (i := 0) dX11_pass_64 rfl rfl ?_
                  refine hb_getR (pc := 65) (g1 := 0) dX11_pass_65 fw_X11_52 cw_11 rfl (by decide) rfl (by decide) rfl ?_
                  exact hb_callV (pc := 68) (As := []) (st := []) dX11_pass_68 ml_X11_284 mf_X8_remember mi_X8_remember (ci := 8) rfl rfl (by decide) rfl rfl (Nat.le_of_ble_eq_true rfl) (Nat.le_of_ble_eq_true rfl) ht8 (fun _ _ q => q)
                · have ht8 := ht7.2 c8
                  exact ht8
set_option maxRecDepth 20000 in
theorem bk_X11_pass_30 {d : Nat} {w : hb_W} {Q : Option hb_V → hb_W → Prop} {x1 : Int32} {x2 : Int32} {x3 : Int32} (h : (((hb_fI w 0 10 0) = 0) → hb_R yX11_pass cX11_pass 5 (some .int) (d + 1) 58 [some (hb_r 0 0 0), some (hb_i x1), some (hb_i x2), some (hb_i x3), some (hb_i (0 : Int32))] [] w Q) ∧ ((¬ (hb_fI w 0 10 0) = 0) → (((0 : Int32) = 0) → hb_R yX11_pass cX11_pass 5 (some .int) (d + 1) 58 [some (hb_r 0 0 0), some (hb_i x1), some (hb_i x2), some (hb_i x3), some (hb_i (0 : Int32))] [] w Q) ∧ ((¬ (0 : Int32) = 0) → (((hb_fI w 7 3 0) < (400 : Int32)) → hb_O yX8_remember cX8_remember 1 none d [hb_r 7 0 0] w (fun rv w1 => hb_R yX11_pass cX11_pass 5 (some .int) (d + 1) 71 [some (hb_r 0 0 0), some (hb_i x1), some (hb_i x2), some (hb_i x3), some (hb_i (0 : Int32))] (rv.toList ++ []) w1 Q)) ∧ ((¬ (hb_fI w 7 3 0) < (400 : Int32)) → hb_R yX11_pass cX11_pass 5 (some .int) (d + 1) 58 [some (hb_r 0 0 0), some (hb_i x1), some (hb_i x2), some (hb_i x3), some (hb_i (0 : Int32))] [] w Q)))) : hb_R yX11_pass cX11_pass 5 (some .int) (d + 1) 30 [some (hb_r 0 0 0), some (hb_i x1), some (hb_i x2), some (hb_i x3), none] [] w Q := by
  refine hb_iconst (pc := 30) (v := 0) dX11_pass_30 (by decide) ?_
  refine hb_istore (pc := 31) (i := 4) (ls1 := [some (hb_r 0 0 0), some (hb_i x1), some (hb_i x2), some (hb_i x3), some (hb_i (0 : Int32))]) dX11_pass_31 (by decide) rfl ?_
  refine hb_aload_n (pc := 33) (i := 0) dX11_pass_33 rfl rfl ?_
  refine hb_getIx (pc := 34) (x := hb_fI w 0 10 0) dX11_pass_34 fw_X11_86 cw_11 rfl (by decide) rfl rfl ?_
  refine hb_if_eq (pc := 37) (tgt := 58) dX11_pass_37 (by decide) (fun c1 => ?_) (fun c1 => ?_)
  · have ht1 := h.1 c1
    exact ht1
  · have ht1 := h.2 c1
    refine hb_iload (pc := 40) dX11_pass_40 rfl ?_
    refine hb_if_eq (pc := 42) (tgt := 58) dX11_pass_42 (by decide) (fun c2 => ?_) (fun c2 => ?_)
    · have ht2 := ht1.1 c2
      exact ht2
    · have ht2 := ht1.2 c2
      refine hb_aload_n (pc := 45) (i := 0) dX11_pass_45 rfl rfl ?_
      refine hb_getR (pc := 46) (g1 := 0) dX11_pass_46 fw_X11_52 cw_11 rfl (by decide) rfl (by decide) rfl ?_
      refine hb_getIx (pc := 49) (x := hb_fI w 7 3 0) dX11_pass_49 fw_X11_141 cw_8 rfl (by decide) rfl rfl ?_
      refine hb_sipush (pc := 52) (v := 400) dX11_pass_52 (by decide) ?_
      refine hb_icmp_lt (pc := 55) (tgt := 64) dX11_pass_55 (by decide) (fun c3 => ?_) (fun c3 => ?_)
      · have ht3 := ht2.1 c3
        refine hb_aload_n (pc := 64) (i := 0) dX11_pass_64 rfl rfl ?_
        refine hb_getR (pc := 65) (g1 := 0) dX11_pass_65 fw_X11_52 cw_11 rfl (by decide) rfl (by decide) rfl ?_
        exact hb_callV (pc := 68) (As := []) (st := []) dX11_pass_68 ml_X11_284 mf_X8_remember mi_X8_remember (ci := 8) rfl rfl (by decide) rfl rfl (Nat.le_of_ble_eq_true rfl) (Nat.le_of_ble_eq_true rfl) ht3 (fun _ _ q => q)
      · have ht3 := ht2.2 c3
        exact ht3
set_option maxRecDepth 20000 in
theorem bk_X11_pass_58 {d : Nat} {w : hb_W} {Q : Option hb_V → hb_W → Prop} {x1 : Int32} {x2 : Int32} {x3 : Int32} {x4 : Int32} (h : hb_O yX11_refuse cX11_refuse 2 (some .int) d [hb_r 0 0 0, hb_i (2 : Int32)] w (fun rv w1 => hb_R yX11_pass cX11_pass 5 (some .int) (d + 1) 63 [some (hb_r 0 0 0), some (hb_i x1), some (hb_i x2), some (hb_i x3), some (hb_i x4)] (rv.toList ++ []) w1 Q)) : hb_R yX11_pass cX11_pass 5 (some .int) (d + 1) 58 [some (hb_r 0 0 0), some (hb_i x1), some (hb_i x2), some (hb_i x3), some (hb_i x4)] [] w Q := by
  refine hb_aload_n (pc := 58) (i := 0) dX11_pass_58 rfl rfl ?_
  refine hb_iconst (pc := 59) (v := 2) dX11_pass_59 (by decide) ?_
  exact hb_callV (pc := 60) (As := [hb_i (2 : Int32)]) (st := []) dX11_pass_60 ml_X11_100 mf_X11_refuse mi_X11_refuse (ci := 11) rfl rfl (by decide) rfl rfl (Nat.le_of_ble_eq_true rfl) (Nat.le_of_ble_eq_true rfl) h (fun _ _ q => q)
set_option maxRecDepth 20000 in
theorem bk_X11_pass_63 {d : Nat} {w : hb_W} {Q : Option hb_V → hb_W → Prop} {x1 : Int32} {x2 : Int32} {x3 : Int32} {x4 : Int32} {xs0 : Int32} (h : Q (some (hb_i xs0)) w) : hb_R yX11_pass cX11_pass 5 (some .int) (d + 1) 63 [some (hb_r 0 0 0), some (hb_i x1), some (hb_i x2), some (hb_i x3), some (hb_i x4)] [hb_i xs0] w Q := by
  exact hb_iret (pc := 63) dX11_pass_63 rfl h
set_option maxRecDepth 20000 in
theorem bk_X11_pass_71 {d : Nat} {w : hb_W} {Q : Option hb_V → hb_W → Prop} {x1 : Int32} {x2 : Int32} {x3 : Int32} {x4 : Int32} (h : (hb_fR w 0 8 0) < hb_ct 11 ∧ (hb_O yX8_admit cX8_admit 6 none d [hb_r 7 0 0, hb_i x1, hb_i x2, hb_i x3, hb_i (hb_fI w 11 1 (hb_fR w 0 8 0))] w (fun rv w1 => hb_R yX11_pass cX11_pass 5 (some .int) (d + 1) 88 [some (hb_r 0 0 0), some (hb_i x1), some (hb_i x2), some (hb_i x3), some (hb_i x4)] (rv.toList ++ []) w1 Q))) : hb_R yX11_pass cX11_pass 5 (some .int) (d + 1) 71 [some (hb_r 0 0 0), some (hb_i x1), some (hb_i x2), some (hb_i x3), some (hb_i x4)] [] w Q := by
  refine hb_aload_n (pc := 71) (i := 0) dX11_pass_71 rfl rfl ?_
  refine hb_getR (pc := 72) (g1 := 0) dX11_pass_72 fw_X11_52 cw_11 rfl (by decide) rfl (by decide) rfl ?_
  refine hb_iload_n (pc := 75) (i := 1) dX11_pass_75 rfl rfl ?_
  refine hb_iload_n (pc := 76) (i := 2) dX11_pass_76 rfl rfl ?_
  refine hb_iload_n (pc := 77) (i := 3) dX11_pass_77 rfl rfl ?_
  refine hb_aload_n (pc := 78) (i := 0) dX11_pass_78 rfl rfl ?_
  refine hb_getR (pc := 79) (g1 := hb_fR w 0 8 0) dX11_pass_79 fw_X11_79 cw_11 rfl (by decide) rfl (by decide) rfl ?_
  obtain ⟨ho1, hr1⟩ := h
  refine hb_getIx (pc := 82) (x := hb_fI w 11 1 (hb_fR w 0 8 0)) dX11_pass_82 fw_X11_127 cw_6 rfl ho1 rfl rfl ?_
  exact hb_callV (pc := 85) (As := [hb_i x1, hb_i x2, hb_i x3, hb_i (hb_fI w 11 1 (hb_fR w 0 8 0))]) (st := []) dX11_pass_85 ml_X11_287 mf_X8_admit mi_X8_admit (ci := 8) rfl rfl (by decide) rfl rfl (Nat.le_of_ble_eq_true rfl) (Nat.le_of_ble_eq_true rfl) hr1 (fun _ _ q => q)
set_option maxRecDepth 20000 in
theorem bk_X11_pass_88 {d : Nat} {w : hb_W} {Q : Option hb_V → hb_W → Prop} {x1 : Int32} {x2 : Int32} {x3 : Int32} {x4 : Int32} (h : Q (some (hb_i (hb_fI w 7 3 0))) w) : hb_R yX11_pass cX11_pass 5 (some .int) (d + 1) 88 [some (hb_r 0 0 0), some (hb_i x1), some (hb_i x2), some (hb_i x3), some (hb_i x4)] [] w Q := by
  refine hb_aload_n (pc := 88) (i := 0) dX11_pass_88 rfl rfl ?_
  refine hb_getR (pc := 89) (g1 := 0) dX11_pass_89 fw_X11_52 cw_11 rfl (by decide) rfl (by decide) rfl ?_
  refine hb_getIx (pc := 92) (x := hb_fI w 7 3 0) dX11_pass_92 fw_X11_141 cw_8 rfl (by decide) rfl rfl ?_
  exact hb_iret (pc := 95) dX11_pass_95 rfl h
theorem dX11_night_0 : decode cX11_night 0 = .ok (.aload_n 0, 1) := by decide +kernel
theorem dX11_night_1 : decode cX11_night 1 = .ok (.getfield 79, 3) := by decide +kernel
theorem dX11_night_4 : decode cX11_night 4 = .ok (.invokevirtual 136, 3) := by decide +kernel
theorem dX11_night_7 : decode cX11_night 7 = .ok (.istore_n 1, 1) := by decide +kernel
theorem dX11_night_8 : decode cX11_night 8 = .ok (.aload_n 0, 1) := by decide +kernel
theorem dX11_night_9 : decode cX11_night 9 = .ok (.getfield 86, 3) := by decide +kernel
theorem dX11_night_12 : decode cX11_night 12 = .ok (.ifCond .eq 22, 3) := by decide +kernel
theorem dX11_night_15 : decode cX11_night 15 = .ok (.iload_n 1, 1) := by decide +kernel
theorem dX11_night_16 : decode cX11_night 16 = .ok (.ifCond .eq 18, 3) := by decide +kernel
theorem dX11_night_19 : decode cX11_night 19 = .ok (.aload_n 0, 1) := by decide +kernel
theorem dX11_night_20 : decode cX11_night 20 = .ok (.getfield 52, 3) := by decide +kernel
theorem dX11_night_23 : decode cX11_night 23 = .ok (.getfield 141, 3) := by decide +kernel
theorem dX11_night_26 : decode cX11_night 26 = .ok (.iload_n 1, 1) := by decide +kernel
theorem dX11_night_27 : decode cX11_night 27 = .ok (.iadd, 1) := by decide +kernel
theorem dX11_night_28 : decode cX11_night 28 = .ok (.sipush 400, 3) := by decide +kernel
theorem dX11_night_31 : decode cX11_night 31 = .ok (.if_icmp .le 9, 3) := by decide +kernel
theorem dX11_night_34 : decode cX11_night 34 = .ok (.aload_n 0, 1) := by decide +kernel
theorem dX11_night_35 : decode cX11_night 35 = .ok (.iconst 3, 1) := by decide +kernel
theorem dX11_night_36 : decode cX11_night 36 = .ok (.invokevirtual 100, 3) := by decide +kernel
theorem dX11_night_39 : decode cX11_night 39 = .ok (.ireturn, 1) := by decide +kernel
theorem dX11_night_40 : decode cX11_night 40 = .ok (.aload_n 0, 1) := by decide +kernel
theorem dX11_night_41 : decode cX11_night 41 = .ok (.getfield 52, 3) := by decide +kernel
theorem dX11_night_44 : decode cX11_night 44 = .ok (.invokevirtual 284, 3) := by decide +kernel
theorem dX11_night_47 : decode cX11_night 47 = .ok (.iconst 0, 1) := by decide +kernel
theorem dX11_night_48 : decode cX11_night 48 = .ok (.istore_n 2, 1) := by decide +kernel
theorem dX11_night_49 : decode cX11_night 49 = .ok (.iload_n 2, 1) := by decide +kernel
theorem dX11_night_50 : decode cX11_night 50 = .ok (.aload_n 0, 1) := by decide +kernel
theorem dX11_night_51 : decode cX11_night 51 = .ok (.getfield 79, 3) := by decide +kernel
theorem dX11_night_54 : decode cX11_night 54 = .ok (.getfield 133, 3) := by decide +kernel
theorem dX11_night_57 : decode cX11_night 57 = .ok (.if_icmp .ge 14, 3) := by decide +kernel
theorem dX11_night_60 : decode cX11_night 60 = .ok (.aload_n 0, 1) := by decide +kernel
theorem dX11_night_61 : decode cX11_night 61 = .ok (.iload_n 2, 1) := by decide +kernel
theorem dX11_night_62 : decode cX11_night 62 = .ok (.invokevirtual 291, 3) := by decide +kernel
theorem dX11_night_65 : decode cX11_night 65 = .ok (.iinc 2 1, 3) := by decide +kernel
theorem dX11_night_68 : decode cX11_night 68 = .ok (.goto (-19), 3) := by decide +kernel
theorem dX11_night_71 : decode cX11_night 71 = .ok (.aload_n 0, 1) := by decide +kernel
theorem dX11_night_72 : decode cX11_night 72 = .ok (.getfield 52, 3) := by decide +kernel
theorem dX11_night_75 : decode cX11_night 75 = .ok (.getfield 141, 3) := by decide +kernel
theorem dX11_night_78 : decode cX11_night 78 = .ok (.ireturn, 1) := by decide +kernel
set_option maxRecDepth 20000 in
theorem bk_X11_night_0 {d : Nat} {w : hb_W} {Q : Option hb_V → hb_W → Prop} (h : (hb_fR w 0 8 0) < hb_ct 11 ∧ (hb_O yX6_passesToCome cX6_passesToCome 3 (some .int) d [hb_r 11 (hb_fR w 0 8 0) 0] w (fun rv w1 => hb_R yX11_night cX11_night 3 (some .int) (d + 1) 7 [some (hb_r 0 0 0), none, none] (rv.toList ++ []) w1 Q))) : hb_R yX11_night cX11_night 3 (some .int) (d + 1) 0 [some (hb_r 0 0 0), none, none] [] w Q := by
  refine hb_aload_n (pc := 0) (i := 0) dX11_night_0 rfl rfl ?_
  refine hb_getR (pc := 1) (g1 := hb_fR w 0 8 0) dX11_night_1 fw_X11_79 cw_11 rfl (by decide) rfl (by decide) rfl ?_
  obtain ⟨ho1, hr1⟩ := h
  exact hb_callV (pc := 4) (As := []) (st := []) dX11_night_4 ml_X11_136 mf_X6_passesToCome mi_X6_passesToCome (ci := 6) rfl rfl ho1 rfl rfl (Nat.le_of_ble_eq_true rfl) (Nat.le_of_ble_eq_true rfl) hr1 (fun _ _ q => q)
set_option maxRecDepth 20000 in
theorem bk_X11_night_7 {d : Nat} {w : hb_W} {Q : Option hb_V → hb_W → Prop} {xs0 : Int32} (h : (((hb_fI w 0 10 0) = 0) → hb_O yX11_refuse cX11_refuse 2 (some .int) d [hb_r 0 0 0, hb_i (3 : Int32)] w (fun rv w1 => hb_R yX11_night cX11_night 3 (some .int) (d + 1) 39 [some (hb_r 0 0 0), some (hb_i xs0), none] (rv.toList ++ []) w1 Q)) ∧ ((¬ (hb_fI w 0 10 0) = 0) → ((xs0 = 0) → hb_O yX11_refuse cX11_refuse 2 (some .int) d [hb_r 0 0 0, hb_i (3 : Int32)] w (fun rv w1 => hb_R yX11_night cX11_night 3 (some .int) (d + 1) 39 [some (hb_r 0 0 0), some (hb_i xs0), none] (rv.toList ++ []) w1 Q)) ∧ ((¬ xs0 = 0) → ((((hb_fI w 7 3 0) + xs0) ≤ (400 : Int32)) → hb_O yX8_remember cX8_remember 1 none d [hb_r 7 0 0] w (fun rv w1 => hb_R yX11_night cX11_night 3 (some .int) (d + 1) 47 [some (hb_r 0 0 0), some (hb_i xs0), none] (rv.toList ++ []) w1 Q)) ∧ ((¬ ((hb_fI w 7 3 0) + xs0) ≤ (400 : Int32)) → hb_O yX11_refuse cX11_refuse 2 (some .int) d [hb_r 0 0 0, hb_i (3 : Int32)] w (fun rv w1 => hb_R yX11_night cX11_night 3 (some .int) (d + 1) 39 [some (hb_r 0 0 0), some (hb_i xs0), none] (rv.toList ++ []) w1 Q))))) : hb_R yX11_night cX11_night 3 (some .int) (d + 1) 7 [some (hb_r 0 0 0), none, none] [hb_i xs0] w Q := by
  refine hb_istore_n (pc := 7) (i := 1) (ls1 := [some (hb_r 0 0 0), some (hb_i xs0), none]) dX11_night_7 rfl (by decide) rfl ?_
  refine hb_aload_n (pc := 8) (i := 0) dX11_night_8 rfl rfl ?_
  refine hb_getIx (pc := 9) (x := hb_fI w 0 10 0) dX11_night_9 fw_X11_86 cw_11 rfl (by decide) rfl rfl ?_
  refine hb_if_eq (pc := 12) (tgt := 34) dX11_night_12 (by decide) (fun c1 => ?_) (fun c1 => ?_)
  · have ht1 := h.1 c1
    refine hb_aload_n (pc := 34) (i := 0) dX11_night_34 rfl rfl ?_
    refine hb_iconst (pc := 35) (v := 3) dX11_night_35 (by decide) ?_
    exact hb_callV (pc := 36) (As := [hb_i (3 : Int32)]) (st := []) dX11_night_36 ml_X11_100 mf_X11_refuse mi_X11_refuse (ci := 11) rfl rfl (by decide) rfl rfl (Nat.le_of_ble_eq_true rfl) (Nat.le_of_ble_eq_true rfl) ht1 (fun _ _ q => q)
  · have ht1 := h.2 c1
    refine hb_iload_n (pc := 15) (i := 1) dX11_night_15 rfl rfl ?_
    refine hb_if_eq (pc := 16) (tgt := 34) dX11_night_16 (by decide) (fun c2 => ?_) (fun c2 => ?_)
    · have ht2 := ht1.1 c2
      refine hb_aload_n (pc := 34) (i := 0) dX11_night_34 rfl rfl ?_
      refine hb_iconst (pc := 35) (v := 3) dX11_night_35 (by decide) ?_
      exact hb_callV (pc := 36) (As := [hb_i (3 : Int32)]) (st := []) dX11_night_36 ml_X11_100 mf_X11_refuse mi_X11_refuse (ci := 11) rfl rfl (by decide) rfl rfl (Nat.le_of_ble_eq_true rfl) (Nat.le_of_ble_eq_true rfl) ht2 (fun _ _ q => q)
    · have ht2 := ht1.2 c2
      refine hb_aload_n (pc := 19) (i := 0) dX11_night_19 rfl rfl ?_
      refine hb_getR (pc := 20) (g1 := 0) dX11_night_20 fw_X11_52 cw_11 rfl (by decide) rfl (by decide) rfl ?_
      refine hb_getIx (pc := 23) (x := hb_fI w 7 3 0) dX11_night_23 fw_X11_141 cw_8 rfl (by decide) rfl rfl ?_
      refine hb_iload_n (pc := 26) (i := 1) dX11_night_26 rfl rfl ?_
      refine hb_iadd (pc := 27) dX11_night_27 ?_
      refine hb_sipush (pc := 28) (v := 400) dX11_night_28 (by decide) ?_
      refine hb_icmp_le (pc := 31) (tgt := 40) dX11_night_31 (by decide) (fun c3 => ?_) (fun c3 => ?_)
      · have ht3 := ht2.1 c3
        refine hb_aload_n (pc := 40) (i := 0) dX11_night_40 rfl rfl ?_
        refine hb_getR (pc := 41) (g1 := 0) dX11_night_41 fw_X11_52 cw_11 rfl (by decide) rfl (by decide) rfl ?_
        exact hb_callV (pc := 44) (As := []) (st := []) dX11_night_44 ml_X11_284 mf_X8_remember mi_X8_remember (ci := 8) rfl rfl (by decide) rfl rfl (Nat.le_of_ble_eq_true rfl) (Nat.le_of_ble_eq_true rfl) ht3 (fun _ _ q => q)
      · have ht3 := ht2.2 c3
        refine hb_aload_n (pc := 34) (i := 0) dX11_night_34 rfl rfl ?_
        refine hb_iconst (pc := 35) (v := 3) dX11_night_35 (by decide) ?_
        exact hb_callV (pc := 36) (As := [hb_i (3 : Int32)]) (st := []) dX11_night_36 ml_X11_100 mf_X11_refuse mi_X11_refuse (ci := 11) rfl rfl (by decide) rfl rfl (Nat.le_of_ble_eq_true rfl) (Nat.le_of_ble_eq_true rfl) ht3 (fun _ _ q => q)
set_option maxRecDepth 20000 in
theorem bk_X11_night_39 {d : Nat} {w : hb_W} {Q : Option hb_V → hb_W → Prop} {x1 : Int32} {xs0 : Int32} (h : Q (some (hb_i xs0)) w) : hb_R yX11_night cX11_night 3 (some .int) (d + 1) 39 [some (hb_r 0 0 0), some (hb_i x1), none] [hb_i xs0] w Q := by
  exact hb_iret (pc := 39) dX11_night_39 rfl h
set_option maxRecDepth 20000 in
theorem bk_X11_night_47 {d : Nat} {w : hb_W} {Q : Option hb_V → hb_W → Prop} {x1 : Int32} (h : hb_R yX11_night cX11_night 3 (some .int) (d + 1) 49 [some (hb_r 0 0 0), some (hb_i x1), some (hb_i (0 : Int32))] [] w Q) : hb_R yX11_night cX11_night 3 (some .int) (d + 1) 47 [some (hb_r 0 0 0), some (hb_i x1), none] [] w Q := by
  refine hb_iconst (pc := 47) (v := 0) dX11_night_47 (by decide) ?_
  refine hb_istore_n (pc := 48) (i := 2) (ls1 := [some (hb_r 0 0 0), some (hb_i x1), some (hb_i (0 : Int32))]) dX11_night_48 rfl (by decide) rfl ?_
  exact h
set_option maxRecDepth 20000 in
theorem bk_X11_night_49 {d : Nat} {w : hb_W} {Q : Option hb_V → hb_W → Prop} {x1 : Int32} {x2 : Int32} (h : (hb_fR w 0 8 0) < hb_ct 11 ∧ ((((hb_fI w 11 4 (hb_fR w 0 8 0)) ≤ x2) → Q (some (hb_i (hb_fI w 7 3 0))) w) ∧ ((¬ (hb_fI w 11 4 (hb_fR w 0 8 0)) ≤ x2) → hb_O yX11_admitRow cX11_admitRow 5 none d [hb_r 0 0 0, hb_i x2] w (fun rv w1 => hb_R yX11_night cX11_night 3 (some .int) (d + 1) 65 [some (hb_r 0 0 0), some (hb_i x1), some (hb_i x2)] (rv.toList ++ []) w1 Q)))) : hb_R yX11_night cX11_night 3 (some .int) (d + 1) 49 [some (hb_r 0 0 0), some (hb_i x1), some (hb_i x2)] [] w Q := by
  refine hb_iload_n (pc := 49) (i := 2) dX11_night_49 rfl rfl ?_
  refine hb_aload_n (pc := 50) (i := 0) dX11_night_50 rfl rfl ?_
  refine hb_getR (pc := 51) (g1 := hb_fR w 0 8 0) dX11_night_51 fw_X11_79 cw_11 rfl (by decide) rfl (by decide) rfl ?_
  obtain ⟨ho1, hr1⟩ := h
  refine hb_getIx (pc := 54) (x := hb_fI w 11 4 (hb_fR w 0 8 0)) dX11_night_54 fw_X11_133 cw_6 rfl ho1 rfl rfl ?_
  refine hb_icmp_ge (pc := 57) (tgt := 71) dX11_night_57 (by decide) (fun c2 => ?_) (fun c2 => ?_)
  · have ht2 := hr1.1 c2
    refine hb_aload_n (pc := 71) (i := 0) dX11_night_71 rfl rfl ?_
    refine hb_getR (pc := 72) (g1 := 0) dX11_night_72 fw_X11_52 cw_11 rfl (by decide) rfl (by decide) rfl ?_
    refine hb_getIx (pc := 75) (x := hb_fI w 7 3 0) dX11_night_75 fw_X11_141 cw_8 rfl (by decide) rfl rfl ?_
    exact hb_iret (pc := 78) dX11_night_78 rfl ht2
  · have ht2 := hr1.2 c2
    refine hb_aload_n (pc := 60) (i := 0) dX11_night_60 rfl rfl ?_
    refine hb_iload_n (pc := 61) (i := 2) dX11_night_61 rfl rfl ?_
    exact hb_callV (pc := 62) (As := [hb_i x2]) (st := []) dX11_night_62 ml_X11_291 mf_X11_admitRow mi_X11_admitRow (ci := 11) rfl rfl (by decide) rfl rfl (Nat.le_of_ble_eq_true rfl) (Nat.le_of_ble_eq_true rfl) ht2 (fun _ _ q => q)
set_option maxRecDepth 20000 in
theorem bk_X11_night_65 {d : Nat} {w : hb_W} {Q : Option hb_V → hb_W → Prop} {x1 : Int32} {x2 : Int32} (h : hb_R yX11_night cX11_night 3 (some .int) (d + 1) 49 [some (hb_r 0 0 0), some (hb_i x1), some (hb_i (x2 + (1 : Int32)))] [] w Q) : hb_R yX11_night cX11_night 3 (some .int) (d + 1) 65 [some (hb_r 0 0 0), some (hb_i x1), some (hb_i x2)] [] w Q := by
  refine hb_iinc (pc := 65) (v := x2 + (1 : Int32)) (ls1 := [some (hb_r 0 0 0), some (hb_i x1), some (hb_i (x2 + (1 : Int32)))]) dX11_night_65 rfl rfl (by decide) rfl ?_
  refine hb_goto (pc := 68) (tgt := 49) dX11_night_68 (by decide) ?_
  exact h
theorem dX11_toss_0 : decode cX11_toss 0 = .ok (.aload_n 0, 1) := by decide +kernel
theorem dX11_toss_1 : decode cX11_toss 1 = .ok (.getfield 86, 3) := by decide +kernel
theorem dX11_toss_4 : decode cX11_toss 4 = .ok (.ifCond .eq 24, 3) := by decide +kernel
theorem dX11_toss_7 : decode cX11_toss 7 = .ok (.iload_n 1, 1) := by decide +kernel
theorem dX11_toss_8 : decode cX11_toss 8 = .ok (.ifCond .lt 20, 3) := by decide +kernel
theorem dX11_toss_11 : decode cX11_toss 11 = .ok (.iload_n 1, 1) := by decide +kernel
theorem dX11_toss_12 : decode cX11_toss 12 = .ok (.bipush 100, 2) := by decide +kernel
theorem dX11_toss_14 : decode cX11_toss 14 = .ok (.if_icmp .ge 14, 3) := by decide +kernel
theorem dX11_toss_17 : decode cX11_toss 17 = .ok (.iload_n 1, 1) := by decide +kernel
theorem dX11_toss_18 : decode cX11_toss 18 = .ok (.aload_n 0, 1) := by decide +kernel
theorem dX11_toss_19 : decode cX11_toss 19 = .ok (.getfield 52, 3) := by decide +kernel
theorem dX11_toss_22 : decode cX11_toss 22 = .ok (.getfield 140, 3) := by decide +kernel
theorem dX11_toss_25 : decode cX11_toss 25 = .ok (.if_icmp .ne 11, 3) := by decide +kernel
theorem dX11_toss_28 : decode cX11_toss 28 = .ok (.aload_n 0, 1) := by decide +kernel
theorem dX11_toss_29 : decode cX11_toss 29 = .ok (.iconst 2, 1) := by decide +kernel
theorem dX11_toss_30 : decode cX11_toss 30 = .ok (.invokevirtual 100, 3) := by decide +kernel
theorem dX11_toss_33 : decode cX11_toss 33 = .ok (.pop, 1) := by decide +kernel
theorem dX11_toss_34 : decode cX11_toss 34 = .ok (.iconst 0, 1) := by decide +kernel
theorem dX11_toss_35 : decode cX11_toss 35 = .ok (.ireturn, 1) := by decide +kernel
theorem dX11_toss_36 : decode cX11_toss 36 = .ok (.aload_n 0, 1) := by decide +kernel
theorem dX11_toss_37 : decode cX11_toss 37 = .ok (.getfield 52, 3) := by decide +kernel
theorem dX11_toss_40 : decode cX11_toss 40 = .ok (.invokevirtual 284, 3) := by decide +kernel
theorem dX11_toss_43 : decode cX11_toss 43 = .ok (.aload_n 0, 1) := by decide +kernel
theorem dX11_toss_44 : decode cX11_toss 44 = .ok (.getfield 52, 3) := by decide +kernel
theorem dX11_toss_47 : decode cX11_toss 47 = .ok (.iload_n 1, 1) := by decide +kernel
theorem dX11_toss_48 : decode cX11_toss 48 = .ok (.putfield 140, 3) := by decide +kernel
theorem dX11_toss_51 : decode cX11_toss 51 = .ok (.iconst 1, 1) := by decide +kernel
theorem dX11_toss_52 : decode cX11_toss 52 = .ok (.ireturn, 1) := by decide +kernel
set_option maxRecDepth 20000 in
theorem bk_X11_toss_0 {d : Nat} {w : hb_W} {Q : Option hb_V → hb_W → Prop} {x1 : Int32} (h : (((hb_fI w 0 10 0) = 0) → hb_O yX11_refuse cX11_refuse 2 (some .int) d [hb_r 0 0 0, hb_i (2 : Int32)] w (fun rv w1 => hb_R yX11_toss cX11_toss 2 (some .boolean) (d + 1) 33 [some (hb_r 0 0 0), some (hb_i x1)] (rv.toList ++ []) w1 Q)) ∧ ((¬ (hb_fI w 0 10 0) = 0) → ((x1 < 0) → hb_O yX11_refuse cX11_refuse 2 (some .int) d [hb_r 0 0 0, hb_i (2 : Int32)] w (fun rv w1 => hb_R yX11_toss cX11_toss 2 (some .boolean) (d + 1) 33 [some (hb_r 0 0 0), some (hb_i x1)] (rv.toList ++ []) w1 Q)) ∧ ((¬ x1 < 0) → (((100 : Int32) ≤ x1) → hb_O yX11_refuse cX11_refuse 2 (some .int) d [hb_r 0 0 0, hb_i (2 : Int32)] w (fun rv w1 => hb_R yX11_toss cX11_toss 2 (some .boolean) (d + 1) 33 [some (hb_r 0 0 0), some (hb_i x1)] (rv.toList ++ []) w1 Q)) ∧ ((¬ (100 : Int32) ≤ x1) → ((¬ x1 = (hb_fI w 7 4 0)) → hb_O yX8_remember cX8_remember 1 none d [hb_r 7 0 0] w (fun rv w1 => hb_R yX11_toss cX11_toss 2 (some .boolean) (d + 1) 43 [some (hb_r 0 0 0), some (hb_i x1)] (rv.toList ++ []) w1 Q)) ∧ ((x1 = (hb_fI w 7 4 0)) → hb_O yX11_refuse cX11_refuse 2 (some .int) d [hb_r 0 0 0, hb_i (2 : Int32)] w (fun rv w1 => hb_R yX11_toss cX11_toss 2 (some .boolean) (d + 1) 33 [some (hb_r 0 0 0), some (hb_i x1)] (rv.toList ++ []) w1 Q)))))) : hb_R yX11_toss cX11_toss 2 (some .boolean) (d + 1) 0 [some (hb_r 0 0 0), some (hb_i x1)] [] w Q := by
  refine hb_aload_n (pc := 0) (i := 0) dX11_toss_0 rfl rfl ?_
  refine hb_getIx (pc := 1) (x := hb_fI w 0 10 0) dX11_toss_1 fw_X11_86 cw_11 rfl (by decide) rfl rfl ?_
  refine hb_if_eq (pc := 4) (tgt := 28) dX11_toss_4 (by decide) (fun c1 => ?_) (fun c1 => ?_)
  · have ht1 := h.1 c1
    refine hb_aload_n (pc := 28) (i := 0) dX11_toss_28 rfl rfl ?_
    refine hb_iconst (pc := 29) (v := 2) dX11_toss_29 (by decide) ?_
    exact hb_callV (pc := 30) (As := [hb_i (2 : Int32)]) (st := []) dX11_toss_30 ml_X11_100 mf_X11_refuse mi_X11_refuse (ci := 11) rfl rfl (by decide) rfl rfl (Nat.le_of_ble_eq_true rfl) (Nat.le_of_ble_eq_true rfl) ht1 (fun _ _ q => q)
  · have ht1 := h.2 c1
    refine hb_iload_n (pc := 7) (i := 1) dX11_toss_7 rfl rfl ?_
    refine hb_if_lt (pc := 8) (tgt := 28) dX11_toss_8 (by decide) (fun c2 => ?_) (fun c2 => ?_)
    · have ht2 := ht1.1 c2
      refine hb_aload_n (pc := 28) (i := 0) dX11_toss_28 rfl rfl ?_
      refine hb_iconst (pc := 29) (v := 2) dX11_toss_29 (by decide) ?_
      exact hb_callV (pc := 30) (As := [hb_i (2 : Int32)]) (st := []) dX11_toss_30 ml_X11_100 mf_X11_refuse mi_X11_refuse (ci := 11) rfl rfl (by decide) rfl rfl (Nat.le_of_ble_eq_true rfl) (Nat.le_of_ble_eq_true rfl) ht2 (fun _ _ q => q)
    · have ht2 := ht1.2 c2
      refine hb_iload_n (pc := 11) (i := 1) dX11_toss_11 rfl rfl ?_
      refine hb_bipush (pc := 12) (v := 100) dX11_toss_12 (by decide) ?_
      refine hb_icmp_ge (pc := 14) (tgt := 28) dX11_toss_14 (by decide) (fun c3 => ?_) (fun c3 => ?_)
      · have ht3 := ht2.1 c3
        refine hb_aload_n (pc := 28) (i := 0) dX11_toss_28 rfl rfl ?_
        refine hb_iconst (pc := 29) (v := 2) dX11_toss_29 (by decide) ?_
        exact hb_callV (pc := 30) (As := [hb_i (2 : Int32)]) (st := []) dX11_toss_30 ml_X11_100 mf_X11_refuse mi_X11_refuse (ci := 11) rfl rfl (by decide) rfl rfl (Nat.le_of_ble_eq_true rfl) (Nat.le_of_ble_eq_true rfl) ht3 (fun _ _ q => q)
      · have ht3 := ht2.2 c3
        refine hb_iload_n (pc := 17) (i := 1) dX11_toss_17 rfl rfl ?_
        refine hb_aload_n (pc := 18) (i := 0) dX11_toss_18 rfl rfl ?_
        refine hb_getR (pc := 19) (g1 := 0) dX11_toss_19 fw_X11_52 cw_11 rfl (by decide) rfl (by decide) rfl ?_
        refine hb_getIx (pc := 22) (x := hb_fI w 7 4 0) dX11_toss_22 fw_X11_140 cw_8 rfl (by decide) rfl rfl ?_
        refine hb_icmp_ne (pc := 25) (tgt := 36) dX11_toss_25 (by decide) (fun c4 => ?_) (fun c4 => ?_)
        · have ht4 := ht3.1 c4
          refine hb_aload_n (pc := 36) (i := 0) dX11_toss_36 rfl rfl ?_
          refine hb_getR (pc := 37) (g1 := 0) dX11_toss_37 fw_X11_52 cw_11 rfl (by decide) rfl (by decide) rfl ?_
          exact hb_callV (pc := 40) (As := []) (st := []) dX11_toss_40 ml_X11_284 mf_X8_remember mi_X8_remember (ci := 8) rfl rfl (by decide) rfl rfl (Nat.le_of_ble_eq_true rfl) (Nat.le_of_ble_eq_true rfl) ht4 (fun _ _ q => q)
        · have ht4 := ht3.2 c4
          refine hb_aload_n (pc := 28) (i := 0) dX11_toss_28 rfl rfl ?_
          refine hb_iconst (pc := 29) (v := 2) dX11_toss_29 (by decide) ?_
          exact hb_callV (pc := 30) (As := [hb_i (2 : Int32)]) (st := []) dX11_toss_30 ml_X11_100 mf_X11_refuse mi_X11_refuse (ci := 11) rfl rfl (by decide) rfl rfl (Nat.le_of_ble_eq_true rfl) (Nat.le_of_ble_eq_true rfl) ht4 (fun _ _ q => q)
set_option maxRecDepth 20000 in
theorem bk_X11_toss_33 {d : Nat} {w : hb_W} {Q : Option hb_V → hb_W → Prop} {x1 : Int32} {xs0 : Int32} (h : Q (some (hb_i (0 : Int32))) w) : hb_R yX11_toss cX11_toss 2 (some .boolean) (d + 1) 33 [some (hb_r 0 0 0), some (hb_i x1)] [hb_i xs0] w Q := by
  refine hb_pop (pc := 33) dX11_toss_33 ?_
  refine hb_iconst (pc := 34) (v := 0) dX11_toss_34 (by decide) ?_
  exact hb_zret (pc := 35) dX11_toss_35 rfl (Or.inl rfl) h
set_option maxRecDepth 20000 in
theorem bk_X11_toss_43 {d : Nat} {w : hb_W} {Q : Option hb_V → hb_W → Prop} {x1 : Int32} (h : Q (some (hb_i (1 : Int32))) (hb_pI w 7 4 0 x1)) : hb_R yX11_toss cX11_toss 2 (some .boolean) (d + 1) 43 [some (hb_r 0 0 0), some (hb_i x1)] [] w Q := by
  refine hb_aload_n (pc := 43) (i := 0) dX11_toss_43 rfl rfl ?_
  refine hb_getR (pc := 44) (g1 := 0) dX11_toss_44 fw_X11_52 cw_11 rfl (by decide) rfl (by decide) rfl ?_
  refine hb_iload_n (pc := 47) (i := 1) dX11_toss_47 rfl rfl ?_
  refine hb_putI (pc := 48) dX11_toss_48 fw_X11_140 cw_8 pw_8_4 rfl (by decide) rfl rfl rfl ?_
  refine hb_iconst (pc := 51) (v := 1) dX11_toss_51 (by decide) ?_
  exact hb_zret (pc := 52) dX11_toss_52 rfl (Or.inr rfl) h
theorem dX11_undo_0 : decode cX11_undo 0 = .ok (.aload_n 0, 1) := by decide +kernel
theorem dX11_undo_1 : decode cX11_undo 1 = .ok (.getfield 52, 3) := by decide +kernel
theorem dX11_undo_4 : decode cX11_undo 4 = .ok (.getfield 147, 3) := by decide +kernel
theorem dX11_undo_7 : decode cX11_undo 7 = .ok (.ifCond .ne 11, 3) := by decide +kernel
theorem dX11_undo_10 : decode cX11_undo 10 = .ok (.aload_n 0, 1) := by decide +kernel
theorem dX11_undo_11 : decode cX11_undo 11 = .ok (.iconst 4, 1) := by decide +kernel
theorem dX11_undo_12 : decode cX11_undo 12 = .ok (.invokevirtual 100, 3) := by decide +kernel
theorem dX11_undo_15 : decode cX11_undo 15 = .ok (.pop, 1) := by decide +kernel
theorem dX11_undo_16 : decode cX11_undo 16 = .ok (.iconst 0, 1) := by decide +kernel
theorem dX11_undo_17 : decode cX11_undo 17 = .ok (.ireturn, 1) := by decide +kernel
theorem dX11_undo_18 : decode cX11_undo 18 = .ok (.aload_n 0, 1) := by decide +kernel
theorem dX11_undo_19 : decode cX11_undo 19 = .ok (.getfield 52, 3) := by decide +kernel
theorem dX11_undo_22 : decode cX11_undo 22 = .ok (.invokevirtual 294, 3) := by decide +kernel
theorem dX11_undo_25 : decode cX11_undo 25 = .ok (.aload_n 0, 1) := by decide +kernel
theorem dX11_undo_26 : decode cX11_undo 26 = .ok (.getfield 61, 3) := by decide +kernel
theorem dX11_undo_29 : decode cX11_undo 29 = .ok (.invokevirtual 297, 3) := by decide +kernel
theorem dX11_undo_32 : decode cX11_undo 32 = .ok (.iconst 1, 1) := by decide +kernel
theorem dX11_undo_33 : decode cX11_undo 33 = .ok (.ireturn, 1) := by decide +kernel
set_option maxRecDepth 20000 in
theorem bk_X11_undo_0 {d : Nat} {w : hb_W} {Q : Option hb_V → hb_W → Prop} (h : ((¬ (hb_fI w 7 7 0) = 0) → hb_O yX8_takeBack cX8_takeBack 1 none d [hb_r 7 0 0] w (fun rv w1 => hb_R yX11_undo cX11_undo 1 (some .boolean) (d + 1) 25 [some (hb_r 0 0 0)] (rv.toList ++ []) w1 Q)) ∧ (((hb_fI w 7 7 0) = 0) → hb_O yX11_refuse cX11_refuse 2 (some .int) d [hb_r 0 0 0, hb_i (4 : Int32)] w (fun rv w1 => hb_R yX11_undo cX11_undo 1 (some .boolean) (d + 1) 15 [some (hb_r 0 0 0)] (rv.toList ++ []) w1 Q))) : hb_R yX11_undo cX11_undo 1 (some .boolean) (d + 1) 0 [some (hb_r 0 0 0)] [] w Q := by
  refine hb_aload_n (pc := 0) (i := 0) dX11_undo_0 rfl rfl ?_
  refine hb_getR (pc := 1) (g1 := 0) dX11_undo_1 fw_X11_52 cw_11 rfl (by decide) rfl (by decide) rfl ?_
  refine hb_getIx (pc := 4) (x := hb_fI w 7 7 0) dX11_undo_4 fw_X11_147 cw_8 rfl (by decide) rfl rfl ?_
  refine hb_if_ne (pc := 7) (tgt := 18) dX11_undo_7 (by decide) (fun c1 => ?_) (fun c1 => ?_)
  · have ht1 := h.1 c1
    refine hb_aload_n (pc := 18) (i := 0) dX11_undo_18 rfl rfl ?_
    refine hb_getR (pc := 19) (g1 := 0) dX11_undo_19 fw_X11_52 cw_11 rfl (by decide) rfl (by decide) rfl ?_
    exact hb_callV (pc := 22) (As := []) (st := []) dX11_undo_22 ml_X11_294 mf_X8_takeBack mi_X8_takeBack (ci := 8) rfl rfl (by decide) rfl rfl (Nat.le_of_ble_eq_true rfl) (Nat.le_of_ble_eq_true rfl) ht1 (fun _ _ q => q)
  · have ht1 := h.2 c1
    refine hb_aload_n (pc := 10) (i := 0) dX11_undo_10 rfl rfl ?_
    refine hb_iconst (pc := 11) (v := 4) dX11_undo_11 (by decide) ?_
    exact hb_callV (pc := 12) (As := [hb_i (4 : Int32)]) (st := []) dX11_undo_12 ml_X11_100 mf_X11_refuse mi_X11_refuse (ci := 11) rfl rfl (by decide) rfl rfl (Nat.le_of_ble_eq_true rfl) (Nat.le_of_ble_eq_true rfl) ht1 (fun _ _ q => q)
set_option maxRecDepth 20000 in
theorem bk_X11_undo_15 {d : Nat} {w : hb_W} {Q : Option hb_V → hb_W → Prop} {xs0 : Int32} (h : Q (some (hb_i (0 : Int32))) w) : hb_R yX11_undo cX11_undo 1 (some .boolean) (d + 1) 15 [some (hb_r 0 0 0)] [hb_i xs0] w Q := by
  refine hb_pop (pc := 15) dX11_undo_15 ?_
  refine hb_iconst (pc := 16) (v := 0) dX11_undo_16 (by decide) ?_
  exact hb_zret (pc := 17) dX11_undo_17 rfl (Or.inl rfl) h
set_option maxRecDepth 20000 in
theorem bk_X11_undo_25 {d : Nat} {w : hb_W} {Q : Option hb_V → hb_W → Prop} (h : hb_O yX4_startAgain cX4_startAgain 1 none d [hb_r 8 0 0] w (fun rv w1 => hb_R yX11_undo cX11_undo 1 (some .boolean) (d + 1) 32 [some (hb_r 0 0 0)] (rv.toList ++ []) w1 Q)) : hb_R yX11_undo cX11_undo 1 (some .boolean) (d + 1) 25 [some (hb_r 0 0 0)] [] w Q := by
  refine hb_aload_n (pc := 25) (i := 0) dX11_undo_25 rfl rfl ?_
  refine hb_getR (pc := 26) (g1 := 0) dX11_undo_26 fw_X11_61 cw_11 rfl (by decide) rfl (by decide) rfl ?_
  exact hb_callV (pc := 29) (As := []) (st := []) dX11_undo_29 ml_X11_297 mf_X4_startAgain mi_X4_startAgain (ci := 4) rfl rfl (by decide) rfl rfl (Nat.le_of_ble_eq_true rfl) (Nat.le_of_ble_eq_true rfl) h (fun _ _ q => q)
set_option maxRecDepth 20000 in
theorem bk_X11_undo_32 {d : Nat} {w : hb_W} {Q : Option hb_V → hb_W → Prop} (h : Q (some (hb_i (1 : Int32))) w) : hb_R yX11_undo cX11_undo 1 (some .boolean) (d + 1) 32 [some (hb_r 0 0 0)] [] w Q := by
  refine hb_iconst (pc := 32) (v := 1) dX11_undo_32 (by decide) ?_
  exact hb_zret (pc := 33) dX11_undo_33 rfl (Or.inr rfl) h
theorem dX11_seed_0 : decode cX11_seed 0 = .ok (.iload_n 1, 1) := by decide +kernel
theorem dX11_seed_1 : decode cX11_seed 1 = .ok (.ifCond .ge 11, 3) := by decide +kernel
theorem dX11_seed_4 : decode cX11_seed 4 = .ok (.aload_n 0, 1) := by decide +kernel
theorem dX11_seed_5 : decode cX11_seed 5 = .ok (.iconst 5, 1) := by decide +kernel
theorem dX11_seed_6 : decode cX11_seed 6 = .ok (.invokevirtual 100, 3) := by decide +kernel
theorem dX11_seed_9 : decode cX11_seed 9 = .ok (.pop, 1) := by decide +kernel
theorem dX11_seed_10 : decode cX11_seed 10 = .ok (.iconst 0, 1) := by decide +kernel
theorem dX11_seed_11 : decode cX11_seed 11 = .ok (.ireturn, 1) := by decide +kernel
theorem dX11_seed_12 : decode cX11_seed 12 = .ok (.aload_n 0, 1) := by decide +kernel
theorem dX11_seed_13 : decode cX11_seed 13 = .ok (.getfield 52, 3) := by decide +kernel
theorem dX11_seed_16 : decode cX11_seed 16 = .ok (.iload_n 1, 1) := by decide +kernel
theorem dX11_seed_17 : decode cX11_seed 17 = .ok (.putfield 300, 3) := by decide +kernel
theorem dX11_seed_20 : decode cX11_seed 20 = .ok (.iconst 1, 1) := by decide +kernel
theorem dX11_seed_21 : decode cX11_seed 21 = .ok (.ireturn, 1) := by decide +kernel
set_option maxRecDepth 20000 in
theorem bk_X11_seed_0 {d : Nat} {w : hb_W} {Q : Option hb_V → hb_W → Prop} {x1 : Int32} (h : ((0 ≤ x1) → Q (some (hb_i (1 : Int32))) (hb_pI w 7 6 0 x1)) ∧ ((¬ 0 ≤ x1) → hb_O yX11_refuse cX11_refuse 2 (some .int) d [hb_r 0 0 0, hb_i (5 : Int32)] w (fun rv w1 => hb_R yX11_seed cX11_seed 2 (some .boolean) (d + 1) 9 [some (hb_r 0 0 0), some (hb_i x1)] (rv.toList ++ []) w1 Q))) : hb_R yX11_seed cX11_seed 2 (some .boolean) (d + 1) 0 [some (hb_r 0 0 0), some (hb_i x1)] [] w Q := by
  refine hb_iload_n (pc := 0) (i := 1) dX11_seed_0 rfl rfl ?_
  refine hb_if_ge (pc := 1) (tgt := 12) dX11_seed_1 (by decide) (fun c1 => ?_) (fun c1 => ?_)
  · have ht1 := h.1 c1
    refine hb_aload_n (pc := 12) (i := 0) dX11_seed_12 rfl rfl ?_
    refine hb_getR (pc := 13) (g1 := 0) dX11_seed_13 fw_X11_52 cw_11 rfl (by decide) rfl (by decide) rfl ?_
    refine hb_iload_n (pc := 16) (i := 1) dX11_seed_16 rfl rfl ?_
    refine hb_putI (pc := 17) dX11_seed_17 fw_X11_300 cw_8 pw_8_6 rfl (by decide) rfl rfl rfl ?_
    refine hb_iconst (pc := 20) (v := 1) dX11_seed_20 (by decide) ?_
    exact hb_zret (pc := 21) dX11_seed_21 rfl (Or.inr rfl) ht1
  · have ht1 := h.2 c1
    refine hb_aload_n (pc := 4) (i := 0) dX11_seed_4 rfl rfl ?_
    refine hb_iconst (pc := 5) (v := 5) dX11_seed_5 (by decide) ?_
    exact hb_callV (pc := 6) (As := [hb_i (5 : Int32)]) (st := []) dX11_seed_6 ml_X11_100 mf_X11_refuse mi_X11_refuse (ci := 11) rfl rfl (by decide) rfl rfl (Nat.le_of_ble_eq_true rfl) (Nat.le_of_ble_eq_true rfl) ht1 (fun _ _ q => q)
set_option maxRecDepth 20000 in
theorem bk_X11_seed_9 {d : Nat} {w : hb_W} {Q : Option hb_V → hb_W → Prop} {x1 : Int32} {xs0 : Int32} (h : Q (some (hb_i (0 : Int32))) w) : hb_R yX11_seed cX11_seed 2 (some .boolean) (d + 1) 9 [some (hb_r 0 0 0), some (hb_i x1)] [hb_i xs0] w Q := by
  refine hb_pop (pc := 9) dX11_seed_9 ?_
  refine hb_iconst (pc := 10) (v := 0) dX11_seed_10 (by decide) ?_
  exact hb_zret (pc := 11) dX11_seed_11 rfl (Or.inl rfl) h
theorem dX11_ask_0 : decode cX11_ask 0 = .ok (.aload_n 0, 1) := by decide +kernel
theorem dX11_ask_1 : decode cX11_ask 1 = .ok (.getfield 86, 3) := by decide +kernel
theorem dX11_ask_4 : decode cX11_ask 4 = .ok (.ifCond .ne 15, 3) := by decide +kernel
theorem dX11_ask_7 : decode cX11_ask 7 = .ok (.aload_n 0, 1) := by decide +kernel
theorem dX11_ask_8 : decode cX11_ask 8 = .ok (.getfield 10, 3) := by decide +kernel
theorem dX11_ask_11 : decode cX11_ask 11 = .ok (.iconst 0, 1) := by decide +kernel
theorem dX11_ask_12 : decode cX11_ask 12 = .ok (.putfield 97, 3) := by decide +kernel
theorem dX11_ask_15 : decode cX11_ask 15 = .ok (.ldc2_w 303, 3) := by decide +kernel
theorem dX11_ask_18 : decode cX11_ask 18 = .ok (.lreturn, 1) := by decide +kernel
theorem dX11_ask_19 : decode cX11_ask 19 = .ok (.aload_n 0, 1) := by decide +kernel
theorem dX11_ask_20 : decode cX11_ask 20 = .ok (.getfield 33, 3) := by decide +kernel
theorem dX11_ask_23 : decode cX11_ask 23 = .ok (.aload_n 0, 1) := by decide +kernel
theorem dX11_ask_24 : decode cX11_ask 24 = .ok (.getfield 19, 3) := by decide +kernel
theorem dX11_ask_27 : decode cX11_ask 27 = .ok (.invokevirtual 305, 3) := by decide +kernel
theorem dX11_ask_30 : decode cX11_ask 30 = .ok (.istore_n 1, 1) := by decide +kernel
theorem dX11_ask_31 : decode cX11_ask 31 = .ok (.aload_n 0, 1) := by decide +kernel
theorem dX11_ask_32 : decode cX11_ask 32 = .ok (.getfield 10, 3) := by decide +kernel
theorem dX11_ask_35 : decode cX11_ask 35 = .ok (.iconst 0, 1) := by decide +kernel
theorem dX11_ask_36 : decode cX11_ask 36 = .ok (.putfield 97, 3) := by decide +kernel
theorem dX11_ask_39 : decode cX11_ask 39 = .ok (.aload_n 0, 1) := by decide +kernel
theorem dX11_ask_40 : decode cX11_ask 40 = .ok (.invokevirtual 112, 3) := by decide +kernel
theorem dX11_ask_43 : decode cX11_ask 43 = .ok (.iload_n 1, 1) := by decide +kernel
theorem dX11_ask_44 : decode cX11_ask 44 = .ok (.ifCond .ne 7, 3) := by decide +kernel
theorem dX11_ask_47 : decode cX11_ask 47 = .ok (.ldc2_w 303, 3) := by decide +kernel
theorem dX11_ask_50 : decode cX11_ask 50 = .ok (.lreturn, 1) := by decide +kernel
theorem dX11_ask_51 : decode cX11_ask 51 = .ok (.aload_n 0, 1) := by decide +kernel
theorem dX11_ask_52 : decode cX11_ask 52 = .ok (.getfield 61, 3) := by decide +kernel
theorem dX11_ask_55 : decode cX11_ask 55 = .ok (.aload_n 0, 1) := by decide +kernel
theorem dX11_ask_56 : decode cX11_ask 56 = .ok (.getfield 79, 3) := by decide +kernel
theorem dX11_ask_59 : decode cX11_ask 59 = .ok (.aload_n 0, 1) := by decide +kernel
theorem dX11_ask_60 : decode cX11_ask 60 = .ok (.getfield 52, 3) := by decide +kernel
theorem dX11_ask_63 : decode cX11_ask 63 = .ok (.invokevirtual 150, 3) := by decide +kernel
theorem dX11_ask_66 : decode cX11_ask 66 = .ok (.aload_n 0, 1) := by decide +kernel
theorem dX11_ask_67 : decode cX11_ask 67 = .ok (.iload_n 1, 1) := by decide +kernel
theorem dX11_ask_68 : decode cX11_ask 68 = .ok (.invokevirtual 309, 3) := by decide +kernel
theorem dX11_ask_71 : decode cX11_ask 71 = .ok (.lreturn, 1) := by decide +kernel
set_option maxRecDepth 20000 in
theorem bk_X11_ask_0 {d : Nat} {w : hb_W} {Q : Option hb_V → hb_W → Prop} (h : ((¬ (hb_fI w 0 10 0) = 0) → hb_O yX2_readQuestion cX2_readQuestion 4 (some .int) d [hb_r 4 0 0, hb_r 2 0 0] w (fun rv w1 => hb_R yX11_ask cX11_ask 2 (some .long) (d + 1) 30 [some (hb_r 0 0 0), none] (rv.toList ++ []) w1 Q)) ∧ (((hb_fI w 0 10 0) = 0) → Q (some (hb_l (-1000000000000000 : Int64))) (hb_pI w 1 1 0 (0 : Int32)))) : hb_R yX11_ask cX11_ask 2 (some .long) (d + 1) 0 [some (hb_r 0 0 0), none] [] w Q := by
  refine hb_aload_n (pc := 0) (i := 0) dX11_ask_0 rfl rfl ?_
  refine hb_getIx (pc := 1) (x := hb_fI w 0 10 0) dX11_ask_1 fw_X11_86 cw_11 rfl (by decide) rfl rfl ?_
  refine hb_if_ne (pc := 4) (tgt := 19) dX11_ask_4 (by decide) (fun c1 => ?_) (fun c1 => ?_)
  · have ht1 := h.1 c1
    refine hb_aload_n (pc := 19) (i := 0) dX11_ask_19 rfl rfl ?_
    refine hb_getR (pc := 20) (g1 := 0) dX11_ask_20 fw_X11_33 cw_11 rfl (by decide) rfl (by decide) rfl ?_
    refine hb_aload_n (pc := 23) (i := 0) dX11_ask_23 rfl rfl ?_
    refine hb_getR (pc := 24) (g1 := 0) dX11_ask_24 fw_X11_19 cw_11 rfl (by decide) rfl (by decide) rfl ?_
    exact hb_callV (pc := 27) (As := [hb_r 2 0 0]) (st := []) dX11_ask_27 ml_X11_305 mf_X2_readQuestion mi_X2_readQuestion (ci := 2) rfl rfl (by decide) rfl rfl (Nat.le_of_ble_eq_true rfl) (Nat.le_of_ble_eq_true rfl) ht1 (fun _ _ q => q)
  · have ht1 := h.2 c1
    refine hb_aload_n (pc := 7) (i := 0) dX11_ask_7 rfl rfl ?_
    refine hb_getR (pc := 8) (g1 := 0) dX11_ask_8 fw_X11_10 cw_11 rfl (by decide) rfl (by decide) rfl ?_
    refine hb_iconst (pc := 11) (v := 0) dX11_ask_11 (by decide) ?_
    refine hb_putI (pc := 12) dX11_ask_12 fw_X11_97 cw_10 pw_10_1 rfl (by decide) rfl rfl rfl ?_
    refine hb_ldc2 (pc := 15) (v := -1000000000000000) dX11_ask_15 kc_X11_303 ?_
    exact hb_lret (pc := 18) dX11_ask_18 rfl ht1
set_option maxRecDepth 20000 in
theorem bk_X11_ask_30 {d : Nat} {w : hb_W} {Q : Option hb_V → hb_W → Prop} {xs0 : Int32} (h : hb_O yX11_keepFault cX11_keepFault 1 none d [hb_r 0 0 0] (hb_pI w 1 1 0 (0 : Int32)) (fun rv w1 => hb_R yX11_ask cX11_ask 2 (some .long) (d + 1) 43 [some (hb_r 0 0 0), some (hb_i xs0)] (rv.toList ++ []) w1 Q)) : hb_R yX11_ask cX11_ask 2 (some .long) (d + 1) 30 [some (hb_r 0 0 0), none] [hb_i xs0] w Q := by
  refine hb_istore_n (pc := 30) (i := 1) (ls1 := [some (hb_r 0 0 0), some (hb_i xs0)]) dX11_ask_30 rfl (by decide) rfl ?_
  refine hb_aload_n (pc := 31) (i := 0) dX11_ask_31 rfl rfl ?_
  refine hb_getR (pc := 32) (g1 := 0) dX11_ask_32 fw_X11_10 cw_11 rfl (by decide) rfl (by decide) rfl ?_
  refine hb_iconst (pc := 35) (v := 0) dX11_ask_35 (by decide) ?_
  refine hb_putI (pc := 36) dX11_ask_36 fw_X11_97 cw_10 pw_10_1 rfl (by decide) rfl rfl rfl ?_
  refine hb_aload_n (pc := 39) (i := 0) dX11_ask_39 rfl rfl ?_
  exact hb_callV (pc := 40) (As := []) (st := []) dX11_ask_40 ml_X11_112 mf_X11_keepFault mi_X11_keepFault (ci := 11) rfl rfl (by decide) rfl rfl (Nat.le_of_ble_eq_true rfl) (Nat.le_of_ble_eq_true rfl) h (fun _ _ q => q)
set_option maxRecDepth 20000 in
theorem bk_X11_ask_43 {d : Nat} {w : hb_W} {Q : Option hb_V → hb_W → Prop} {x1 : Int32} (h : ((¬ x1 = 0) → hb_O yX4_bringUp cX4_bringUp 5 none d [hb_r 8 0 0, hb_r 11 (hb_fR w 0 8 0) 0, hb_r 7 0 0] w (fun rv w1 => hb_R yX11_ask cX11_ask 2 (some .long) (d + 1) 66 [some (hb_r 0 0 0), some (hb_i x1)] (rv.toList ++ []) w1 Q)) ∧ ((x1 = 0) → Q (some (hb_l (-1000000000000000 : Int64))) w)) : hb_R yX11_ask cX11_ask 2 (some .long) (d + 1) 43 [some (hb_r 0 0 0), some (hb_i x1)] [] w Q := by
  refine hb_iload_n (pc := 43) (i := 1) dX11_ask_43 rfl rfl ?_
  refine hb_if_ne (pc := 44) (tgt := 51) dX11_ask_44 (by decide) (fun c1 => ?_) (fun c1 => ?_)
  · have ht1 := h.1 c1
    refine hb_aload_n (pc := 51) (i := 0) dX11_ask_51 rfl rfl ?_
    refine hb_getR (pc := 52) (g1 := 0) dX11_ask_52 fw_X11_61 cw_11 rfl (by decide) rfl (by decide) rfl ?_
    refine hb_aload_n (pc := 55) (i := 0) dX11_ask_55 rfl rfl ?_
    refine hb_getR (pc := 56) (g1 := hb_fR w 0 8 0) dX11_ask_56 fw_X11_79 cw_11 rfl (by decide) rfl (by decide) rfl ?_
    refine hb_aload_n (pc := 59) (i := 0) dX11_ask_59 rfl rfl ?_
    refine hb_getR (pc := 60) (g1 := 0) dX11_ask_60 fw_X11_52 cw_11 rfl (by decide) rfl (by decide) rfl ?_
    exact hb_callV (pc := 63) (As := [hb_r 11 (hb_fR w 0 8 0) 0, hb_r 7 0 0]) (st := []) dX11_ask_63 ml_X11_150 mf_X4_bringUp mi_X4_bringUp (ci := 4) rfl rfl (by decide) rfl rfl (Nat.le_of_ble_eq_true rfl) (Nat.le_of_ble_eq_true rfl) ht1 (fun _ _ q => q)
  · have ht1 := h.2 c1
    refine hb_ldc2 (pc := 47) (v := -1000000000000000) dX11_ask_47 kc_X11_303 ?_
    exact hb_lret (pc := 50) dX11_ask_50 rfl ht1
set_option maxRecDepth 20000 in
theorem bk_X11_ask_66 {d : Nat} {w : hb_W} {Q : Option hb_V → hb_W → Prop} {x1 : Int32} (h : hb_O yX11_answer cX11_answer 11 (some .long) d [hb_r 0 0 0, hb_i x1] w (fun rv w1 => hb_R yX11_ask cX11_ask 2 (some .long) (d + 1) 71 [some (hb_r 0 0 0), some (hb_i x1)] (rv.toList ++ []) w1 Q)) : hb_R yX11_ask cX11_ask 2 (some .long) (d + 1) 66 [some (hb_r 0 0 0), some (hb_i x1)] [] w Q := by
  refine hb_aload_n (pc := 66) (i := 0) dX11_ask_66 rfl rfl ?_
  refine hb_iload_n (pc := 67) (i := 1) dX11_ask_67 rfl rfl ?_
  exact hb_callV (pc := 68) (As := [hb_i x1]) (st := []) dX11_ask_68 ml_X11_309 mf_X11_answer mi_X11_answer (ci := 11) rfl rfl (by decide) rfl rfl (Nat.le_of_ble_eq_true rfl) (Nat.le_of_ble_eq_true rfl) h (fun _ _ q => q)
set_option maxRecDepth 20000 in
theorem bk_X11_ask_71 {d : Nat} {w : hb_W} {Q : Option hb_V → hb_W → Prop} {x1 : Int32} {ls0 : Int64} (h : Q (some (hb_l ls0)) w) : hb_R yX11_ask cX11_ask 2 (some .long) (d + 1) 71 [some (hb_r 0 0 0), some (hb_i x1)] [hb_l ls0] w Q := by
  exact hb_lret (pc := 71) dX11_ask_71 rfl h
theorem dX11_image_0 : decode cX11_image 0 = .ok (.aload_n 0, 1) := by decide +kernel
theorem dX11_image_1 : decode cX11_image 1 = .ok (.getfield 68, 3) := by decide +kernel
theorem dX11_image_4 : decode cX11_image 4 = .ok (.aload_n 0, 1) := by decide +kernel
theorem dX11_image_5 : decode cX11_image 5 = .ok (.getfield 52, 3) := by decide +kernel
theorem dX11_image_8 : decode cX11_image 8 = .ok (.aload_n 0, 1) := by decide +kernel
theorem dX11_image_9 : decode cX11_image 9 = .ok (.getfield 79, 3) := by decide +kernel
theorem dX11_image_12 : decode cX11_image 12 = .ok (.getfield 127, 3) := by decide +kernel
theorem dX11_image_15 : decode cX11_image 15 = .ok (.invokevirtual 313, 3) := by decide +kernel
theorem dX11_image_18 : decode cX11_image 18 = .ok (.aload_n 0, 1) := by decide +kernel
theorem dX11_image_19 : decode cX11_image 19 = .ok (.getfield 68, 3) := by decide +kernel
theorem dX11_image_22 : decode cX11_image 22 = .ok (.getfield 317, 3) := by decide +kernel
theorem dX11_image_25 : decode cX11_image 25 = .ok (.ireturn, 1) := by decide +kernel
set_option maxRecDepth 20000 in
theorem bk_X11_image_0 {d : Nat} {w : hb_W} {Q : Option hb_V → hb_W → Prop} (h : (hb_fR w 0 8 0) < hb_ct 11 ∧ (hb_O yX3_write cX3_write 5 none d [hb_r 10 0 0, hb_r 7 0 0, hb_i (hb_fI w 11 1 (hb_fR w 0 8 0))] w (fun rv w1 => hb_R yX11_image cX11_image 1 (some .int) (d + 1) 18 [some (hb_r 0 0 0)] (rv.toList ++ []) w1 Q))) : hb_R yX11_image cX11_image 1 (some .int) (d + 1) 0 [some (hb_r 0 0 0)] [] w Q := by
  refine hb_aload_n (pc := 0) (i := 0) dX11_image_0 rfl rfl ?_
  refine hb_getR (pc := 1) (g1 := 0) dX11_image_1 fw_X11_68 cw_11 rfl (by decide) rfl (by decide) rfl ?_
  refine hb_aload_n (pc := 4) (i := 0) dX11_image_4 rfl rfl ?_
  refine hb_getR (pc := 5) (g1 := 0) dX11_image_5 fw_X11_52 cw_11 rfl (by decide) rfl (by decide) rfl ?_
  refine hb_aload_n (pc := 8) (i := 0) dX11_image_8 rfl rfl ?_
  refine hb_getR (pc := 9) (g1 := hb_fR w 0 8 0) dX11_image_9 fw_X11_79 cw_11 rfl (by decide) rfl (by decide) rfl ?_
  obtain ⟨ho1, hr1⟩ := h
  refine hb_getIx (pc := 12) (x := hb_fI w 11 1 (hb_fR w 0 8 0)) dX11_image_12 fw_X11_127 cw_6 rfl ho1 rfl rfl ?_
  exact hb_callV (pc := 15) (As := [hb_r 7 0 0, hb_i (hb_fI w 11 1 (hb_fR w 0 8 0))]) (st := []) dX11_image_15 ml_X11_313 mf_X3_write mi_X3_write (ci := 3) rfl rfl (by decide) rfl rfl (Nat.le_of_ble_eq_true rfl) (Nat.le_of_ble_eq_true rfl) hr1 (fun _ _ q => q)
set_option maxRecDepth 20000 in
theorem bk_X11_image_18 {d : Nat} {w : hb_W} {Q : Option hb_V → hb_W → Prop} (h : Q (some (hb_i (hb_fI w 10 1 0))) w) : hb_R yX11_image cX11_image 1 (some .int) (d + 1) 18 [some (hb_r 0 0 0)] [] w Q := by
  refine hb_aload_n (pc := 18) (i := 0) dX11_image_18 rfl rfl ?_
  refine hb_getR (pc := 19) (g1 := 0) dX11_image_19 fw_X11_68 cw_11 rfl (by decide) rfl (by decide) rfl ?_
  refine hb_getIx (pc := 22) (x := hb_fI w 10 1 0) dX11_image_22 fw_X11_317 cw_3 rfl (by decide) rfl rfl ?_
  exact hb_iret (pc := 25) dX11_image_25 rfl h
theorem dX11_octet_0 : decode cX11_octet 0 = .ok (.iload_n 1, 1) := by decide +kernel
theorem dX11_octet_1 : decode cX11_octet 1 = .ok (.ifCond .lt 14, 3) := by decide +kernel
theorem dX11_octet_4 : decode cX11_octet 4 = .ok (.iload_n 1, 1) := by decide +kernel
theorem dX11_octet_5 : decode cX11_octet 5 = .ok (.aload_n 0, 1) := by decide +kernel
theorem dX11_octet_6 : decode cX11_octet 6 = .ok (.getfield 68, 3) := by decide +kernel
theorem dX11_octet_9 : decode cX11_octet 9 = .ok (.getfield 317, 3) := by decide +kernel
theorem dX11_octet_12 : decode cX11_octet 12 = .ok (.if_icmp .lt 7, 3) := by decide +kernel
theorem dX11_octet_15 : decode cX11_octet 15 = .ok (.iconst (-1), 1) := by decide +kernel
theorem dX11_octet_16 : decode cX11_octet 16 = .ok (.goto 12, 3) := by decide +kernel
theorem dX11_octet_19 : decode cX11_octet 19 = .ok (.aload_n 0, 1) := by decide +kernel
theorem dX11_octet_20 : decode cX11_octet 20 = .ok (.getfield 68, 3) := by decide +kernel
theorem dX11_octet_23 : decode cX11_octet 23 = .ok (.getfield 318, 3) := by decide +kernel
theorem dX11_octet_26 : decode cX11_octet 26 = .ok (.iload_n 1, 1) := by decide +kernel
theorem dX11_octet_27 : decode cX11_octet 27 = .ok (.iaload, 1) := by decide +kernel
theorem dX11_octet_28 : decode cX11_octet 28 = .ok (.ireturn, 1) := by decide +kernel
set_option maxRecDepth 20000 in
theorem bk_X11_octet_0 {d : Nat} {w : hb_W} {Q : Option hb_V → hb_W → Prop} {x1 : Int32} (h : ((x1 < 0) → Q (some (hb_i (-1 : Int32))) w) ∧ ((¬ x1 < 0) → ((x1 < (hb_fI w 10 1 0)) → vp_in x1 1213 ∧ (Q (some (hb_i (hb_aI w 10 1 0 x1.toNatClampNeg))) w)) ∧ ((¬ x1 < (hb_fI w 10 1 0)) → Q (some (hb_i (-1 : Int32))) w))) : hb_R yX11_octet cX11_octet 2 (some .int) d 0 [some (hb_r 0 0 0), some (hb_i x1)] [] w Q := by
  refine hb_iload_n (pc := 0) (i := 1) dX11_octet_0 rfl rfl ?_
  refine hb_if_lt (pc := 1) (tgt := 15) dX11_octet_1 (by decide) (fun c1 => ?_) (fun c1 => ?_)
  · have ht1 := h.1 c1
    refine hb_iconst (pc := 15) (v := -1) dX11_octet_15 (by decide) ?_
    refine hb_goto (pc := 16) (tgt := 28) dX11_octet_16 (by decide) ?_
    exact hb_iret (pc := 28) dX11_octet_28 rfl ht1
  · have ht1 := h.2 c1
    refine hb_iload_n (pc := 4) (i := 1) dX11_octet_4 rfl rfl ?_
    refine hb_aload_n (pc := 5) (i := 0) dX11_octet_5 rfl rfl ?_
    refine hb_getR (pc := 6) (g1 := 0) dX11_octet_6 fw_X11_68 cw_11 rfl (by decide) rfl (by decide) rfl ?_
    refine hb_getIx (pc := 9) (x := hb_fI w 10 1 0) dX11_octet_9 fw_X11_317 cw_3 rfl (by decide) rfl rfl ?_
    refine hb_icmp_lt (pc := 12) (tgt := 19) dX11_octet_12 (by decide) (fun c2 => ?_) (fun c2 => ?_)
    · have ht2 := ht1.1 c2
      refine hb_aload_n (pc := 19) (i := 0) dX11_octet_19 rfl rfl ?_
      refine hb_getR (pc := 20) (g1 := 0) dX11_octet_20 fw_X11_68 cw_11 rfl (by decide) rfl (by decide) rfl ?_
      refine hb_getR (pc := 23) (g1 := 0) dX11_octet_23 fw_X11_318 cw_3 rfl (by decide) rfl (by decide) rfl ?_
      refine hb_iload_n (pc := 26) (i := 1) dX11_octet_26 rfl rfl ?_
      obtain ⟨ho3, hr3⟩ := ht2
      refine hb_ialdx (pc := 27) (x := hb_aI w 10 1 0 x1.toNatClampNeg) dX11_octet_27 rfl (by decide) ho3 rfl ?_
      exact hb_iret (pc := 28) dX11_octet_28 rfl hr3
    · have ht2 := ht1.2 c2
      refine hb_iconst (pc := 15) (v := -1) dX11_octet_15 (by decide) ?_
      refine hb_goto (pc := 16) (tgt := 28) dX11_octet_16 (by decide) ?_
      exact hb_iret (pc := 28) dX11_octet_28 rfl ht2
theorem dX11_on_0 : decode cX11_on 0 = .ok (.aload_n 0, 1) := by decide +kernel
theorem dX11_on_1 : decode cX11_on 1 = .ok (.getfield 86, 3) := by decide +kernel
theorem dX11_on_4 : decode cX11_on 4 = .ok (.ifCond .eq 24, 3) := by decide +kernel
theorem dX11_on_7 : decode cX11_on 7 = .ok (.aload_n 0, 1) := by decide +kernel
theorem dX11_on_8 : decode cX11_on 8 = .ok (.getfield 10, 3) := by decide +kernel
theorem dX11_on_11 : decode cX11_on 11 = .ok (.aload_n 0, 1) := by decide +kernel
theorem dX11_on_12 : decode cX11_on 12 = .ok (.getfield 79, 3) := by decide +kernel
theorem dX11_on_15 : decode cX11_on 15 = .ok (.getfield 127, 3) := by decide +kernel
theorem dX11_on_18 : decode cX11_on 18 = .ok (.invokestatic 321, 3) := by decide +kernel
theorem dX11_on_21 : decode cX11_on 21 = .ok (.ifCond .eq 7, 3) := by decide +kernel
theorem dX11_on_24 : decode cX11_on 24 = .ok (.iconst 1, 1) := by decide +kernel
theorem dX11_on_25 : decode cX11_on 25 = .ok (.goto 4, 3) := by decide +kernel
theorem dX11_on_28 : decode cX11_on 28 = .ok (.iconst 0, 1) := by decide +kernel
theorem dX11_on_29 : decode cX11_on 29 = .ok (.istore_n 1, 1) := by decide +kernel
theorem dX11_on_30 : decode cX11_on 30 = .ok (.iload_n 1, 1) := by decide +kernel
theorem dX11_on_31 : decode cX11_on 31 = .ok (.ifCond .eq 31, 3) := by decide +kernel
theorem dX11_on_34 : decode cX11_on 34 = .ok (.aload_n 0, 1) := by decide +kernel
theorem dX11_on_35 : decode cX11_on 35 = .ok (.getfield 52, 3) := by decide +kernel
theorem dX11_on_38 : decode cX11_on 38 = .ok (.aload_n 0, 1) := by decide +kernel
theorem dX11_on_39 : decode cX11_on 39 = .ok (.getfield 10, 3) := by decide +kernel
theorem dX11_on_42 : decode cX11_on 42 = .ok (.aload_n 0, 1) := by decide +kernel
theorem dX11_on_43 : decode cX11_on 43 = .ok (.getfield 79, 3) := by decide +kernel
theorem dX11_on_46 : decode cX11_on 46 = .ok (.getfield 127, 3) := by decide +kernel
theorem dX11_on_49 : decode cX11_on 49 = .ok (.invokevirtual 325, 3) := by decide +kernel
theorem dX11_on_52 : decode cX11_on 52 = .ok (.aload_n 0, 1) := by decide +kernel
theorem dX11_on_53 : decode cX11_on 53 = .ok (.getfield 61, 3) := by decide +kernel
theorem dX11_on_56 : decode cX11_on 56 = .ok (.invokevirtual 297, 3) := by decide +kernel
theorem dX11_on_59 : decode cX11_on 59 = .ok (.goto 9, 3) := by decide +kernel
theorem dX11_on_62 : decode cX11_on 62 = .ok (.aload_n 0, 1) := by decide +kernel
theorem dX11_on_63 : decode cX11_on 63 = .ok (.iconst 5, 1) := by decide +kernel
theorem dX11_on_64 : decode cX11_on 64 = .ok (.invokevirtual 100, 3) := by decide +kernel
theorem dX11_on_67 : decode cX11_on 67 = .ok (.pop, 1) := by decide +kernel
theorem dX11_on_68 : decode cX11_on 68 = .ok (.aload_n 0, 1) := by decide +kernel
theorem dX11_on_69 : decode cX11_on 69 = .ok (.getfield 10, 3) := by decide +kernel
theorem dX11_on_72 : decode cX11_on 72 = .ok (.iconst 0, 1) := by decide +kernel
theorem dX11_on_73 : decode cX11_on 73 = .ok (.putfield 97, 3) := by decide +kernel
theorem dX11_on_76 : decode cX11_on 76 = .ok (.iload_n 1, 1) := by decide +kernel
theorem dX11_on_77 : decode cX11_on 77 = .ok (.ireturn, 1) := by decide +kernel
set_option maxRecDepth 20000 in
theorem bk_X11_on_0 {d : Nat} {w : hb_W} {Q : Option hb_V → hb_W → Prop} (h : (((hb_fI w 0 10 0) = 0) → (((0 : Int32) = 0) → hb_O yX11_refuse cX11_refuse 2 (some .int) d [hb_r 0 0 0, hb_i (5 : Int32)] w (fun rv w1 => hb_R yX11_on cX11_on 2 (some .boolean) (d + 1) 67 [some (hb_r 0 0 0), some (hb_i (0 : Int32))] (rv.toList ++ []) w1 Q)) ∧ ((¬ (0 : Int32) = 0) → (hb_fR w 0 8 0) < hb_ct 11 ∧ (hb_O yX8_load cX8_load 6 none d [hb_r 7 0 0, hb_r 1 0 0, hb_i (hb_fI w 11 1 (hb_fR w 0 8 0))] w (fun rv w1 => hb_R yX11_on cX11_on 2 (some .boolean) (d + 1) 52 [some (hb_r 0 0 0), some (hb_i (0 : Int32))] (rv.toList ++ []) w1 Q)))) ∧ ((¬ (hb_fI w 0 10 0) = 0) → (hb_fR w 0 8 0) < hb_ct 11 ∧ (hb_O yX3_isOn cX3_isOn 5 (some .boolean) d [hb_r 1 0 0, hb_i (hb_fI w 11 1 (hb_fR w 0 8 0))] w (fun rv w1 => hb_R yX11_on cX11_on 2 (some .boolean) (d + 1) 21 [some (hb_r 0 0 0), none] (rv.toList ++ []) w1 Q)))) : hb_R yX11_on cX11_on 2 (some .boolean) (d + 1) 0 [some (hb_r 0 0 0), none] [] w Q := by
  refine hb_aload_n (pc := 0) (i := 0) dX11_on_0 rfl rfl ?_
  refine hb_getIx (pc := 1) (x := hb_fI w 0 10 0) dX11_on_1 fw_X11_86 cw_11 rfl (by decide) rfl rfl ?_
  refine hb_if_eq (pc := 4) (tgt := 28) dX11_on_4 (by decide) (fun c1 => ?_) (fun c1 => ?_)
  · have ht1 := h.1 c1
    refine hb_iconst (pc := 28) (v := 0) dX11_on_28 (by decide) ?_
    refine hb_istore_n (pc := 29) (i := 1) (ls1 := [some (hb_r 0 0 0), some (hb_i (0 : Int32))]) dX11_on_29 rfl (by decide) rfl ?_
    refine hb_iload_n (pc := 30) (i := 1) dX11_on_30 rfl rfl ?_
    refine hb_if_eq (pc := 31) (tgt := 62) dX11_on_31 (by decide) (fun c2 => ?_) (fun c2 => ?_)
    · have ht2 := ht1.1 c2
      refine hb_aload_n (pc := 62) (i := 0) dX11_on_62 rfl rfl ?_
      refine hb_iconst (pc := 63) (v := 5) dX11_on_63 (by decide) ?_
      exact hb_callV (pc := 64) (As := [hb_i (5 : Int32)]) (st := []) dX11_on_64 ml_X11_100 mf_X11_refuse mi_X11_refuse (ci := 11) rfl rfl (by decide) rfl rfl (Nat.le_of_ble_eq_true rfl) (Nat.le_of_ble_eq_true rfl) ht2 (fun _ _ q => q)
    · have ht2 := ht1.2 c2
      refine hb_aload_n (pc := 34) (i := 0) dX11_on_34 rfl rfl ?_
      refine hb_getR (pc := 35) (g1 := 0) dX11_on_35 fw_X11_52 cw_11 rfl (by decide) rfl (by decide) rfl ?_
      refine hb_aload_n (pc := 38) (i := 0) dX11_on_38 rfl rfl ?_
      refine hb_getR (pc := 39) (g1 := 0) dX11_on_39 fw_X11_10 cw_11 rfl (by decide) rfl (by decide) rfl ?_
      refine hb_aload_n (pc := 42) (i := 0) dX11_on_42 rfl rfl ?_
      refine hb_getR (pc := 43) (g1 := hb_fR w 0 8 0) dX11_on_43 fw_X11_79 cw_11 rfl (by decide) rfl (by decide) rfl ?_
      obtain ⟨ho3, hr3⟩ := ht2
      refine hb_getIx (pc := 46) (x := hb_fI w 11 1 (hb_fR w 0 8 0)) dX11_on_46 fw_X11_127 cw_6 rfl ho3 rfl rfl ?_
      exact hb_callV (pc := 49) (As := [hb_r 1 0 0, hb_i (hb_fI w 11 1 (hb_fR w 0 8 0))]) (st := []) dX11_on_49 ml_X11_325 mf_X8_load mi_X8_load (ci := 8) rfl rfl (by decide) rfl rfl (Nat.le_of_ble_eq_true rfl) (Nat.le_of_ble_eq_true rfl) hr3 (fun _ _ q => q)
  · have ht1 := h.2 c1
    refine hb_aload_n (pc := 7) (i := 0) dX11_on_7 rfl rfl ?_
    refine hb_getR (pc := 8) (g1 := 0) dX11_on_8 fw_X11_10 cw_11 rfl (by decide) rfl (by decide) rfl ?_
    refine hb_aload_n (pc := 11) (i := 0) dX11_on_11 rfl rfl ?_
    refine hb_getR (pc := 12) (g1 := hb_fR w 0 8 0) dX11_on_12 fw_X11_79 cw_11 rfl (by decide) rfl (by decide) rfl ?_
    obtain ⟨ho4, hr4⟩ := ht1
    refine hb_getIx (pc := 15) (x := hb_fI w 11 1 (hb_fR w 0 8 0)) dX11_on_15 fw_X11_127 cw_6 rfl ho4 rfl rfl ?_
    exact hb_callS (pc := 18) (As := [hb_r 1 0 0, hb_i (hb_fI w 11 1 (hb_fR w 0 8 0))]) (st := []) dX11_on_18 ml_X11_321 mf_X3_isOn ms_X3_isOn rfl rfl (Nat.le_of_ble_eq_true rfl) (Nat.le_of_ble_eq_true rfl) hr4 (fun _ _ q => q)
set_option maxRecDepth 20000 in
theorem bk_X11_on_21 {d : Nat} {w : hb_W} {Q : Option hb_V → hb_W → Prop} {xs0 : Int32} (h : ((xs0 = 0) → (((0 : Int32) = 0) → hb_O yX11_refuse cX11_refuse 2 (some .int) d [hb_r 0 0 0, hb_i (5 : Int32)] w (fun rv w1 => hb_R yX11_on cX11_on 2 (some .boolean) (d + 1) 67 [some (hb_r 0 0 0), some (hb_i (0 : Int32))] (rv.toList ++ []) w1 Q)) ∧ ((¬ (0 : Int32) = 0) → (hb_fR w 0 8 0) < hb_ct 11 ∧ (hb_O yX8_load cX8_load 6 none d [hb_r 7 0 0, hb_r 1 0 0, hb_i (hb_fI w 11 1 (hb_fR w 0 8 0))] w (fun rv w1 => hb_R yX11_on cX11_on 2 (some .boolean) (d + 1) 52 [some (hb_r 0 0 0), some (hb_i (0 : Int32))] (rv.toList ++ []) w1 Q)))) ∧ ((¬ xs0 = 0) → (((1 : Int32) = 0) → hb_O yX11_refuse cX11_refuse 2 (some .int) d [hb_r 0 0 0, hb_i (5 : Int32)] w (fun rv w1 => hb_R yX11_on cX11_on 2 (some .boolean) (d + 1) 67 [some (hb_r 0 0 0), some (hb_i (1 : Int32))] (rv.toList ++ []) w1 Q)) ∧ ((¬ (1 : Int32) = 0) → (hb_fR w 0 8 0) < hb_ct 11 ∧ (hb_O yX8_load cX8_load 6 none d [hb_r 7 0 0, hb_r 1 0 0, hb_i (hb_fI w 11 1 (hb_fR w 0 8 0))] w (fun rv w1 => hb_R yX11_on cX11_on 2 (some .boolean) (d + 1) 52 [some (hb_r 0 0 0), some (hb_i (1 : Int32))] (rv.toList ++ []) w1 Q))))) : hb_R yX11_on cX11_on 2 (some .boolean) (d + 1) 21 [some (hb_r 0 0 0), none] [hb_i xs0] w Q := by
  refine hb_if_eq (pc := 21) (tgt := 28) dX11_on_21 (by decide) (fun c1 => ?_) (fun c1 => ?_)
  · have ht1 := h.1 c1
    refine hb_iconst (pc := 28) (v := 0) dX11_on_28 (by decide) ?_
    refine hb_istore_n (pc := 29) (i := 1) (ls1 := [some (hb_r 0 0 0), some (hb_i (0 : Int32))]) dX11_on_29 rfl (by decide) rfl ?_
    refine hb_iload_n (pc := 30) (i := 1) dX11_on_30 rfl rfl ?_
    refine hb_if_eq (pc := 31) (tgt := 62) dX11_on_31 (by decide) (fun c2 => ?_) (fun c2 => ?_)
    · have ht2 := ht1.1 c2
      refine hb_aload_n (pc := 62) (i := 0) dX11_on_62 rfl rfl ?_
      refine hb_iconst (pc := 63) (v := 5) dX11_on_63 (by decide) ?_
      exact hb_callV (pc := 64) (As := [hb_i (5 : Int32)]) (st := []) dX11_on_64 ml_X11_100 mf_X11_refuse mi_X11_refuse (ci := 11) rfl rfl (by decide) rfl rfl (Nat.le_of_ble_eq_true rfl) (Nat.le_of_ble_eq_true rfl) ht2 (fun _ _ q => q)
    · have ht2 := ht1.2 c2
      refine hb_aload_n (pc := 34) (i := 0) dX11_on_34 rfl rfl ?_
      refine hb_getR (pc := 35) (g1 := 0) dX11_on_35 fw_X11_52 cw_11 rfl (by decide) rfl (by decide) rfl ?_
      refine hb_aload_n (pc := 38) (i := 0) dX11_on_38 rfl rfl ?_
      refine hb_getR (pc := 39) (g1 := 0) dX11_on_39 fw_X11_10 cw_11 rfl (by decide) rfl (by decide) rfl ?_
      refine hb_aload_n (pc := 42) (i := 0) dX11_on_42 rfl rfl ?_
      refine hb_getR (pc := 43) (g1 := hb_fR w 0 8 0) dX11_on_43 fw_X11_79 cw_11 rfl (by decide) rfl (by decide) rfl ?_
      obtain ⟨ho3, hr3⟩ := ht2
      refine hb_getIx (pc := 46) (x := hb_fI w 11 1 (hb_fR w 0 8 0)) dX11_on_46 fw_X11_127 cw_6 rfl ho3 rfl rfl ?_
      exact hb_callV (pc := 49) (As := [hb_r 1 0 0, hb_i (hb_fI w 11 1 (hb_fR w 0 8 0))]) (st := []) dX11_on_49 ml_X11_325 mf_X8_load mi_X8_load (ci := 8) rfl rfl (by decide) rfl rfl (Nat.le_of_ble_eq_true rfl) (Nat.le_of_ble_eq_true rfl) hr3 (fun _ _ q => q)
  · have ht1 := h.2 c1
    refine hb_iconst (pc := 24) (v := 1) dX11_on_24 (by decide) ?_
    refine hb_goto (pc := 25) (tgt := 29) dX11_on_25 (by decide) ?_
    refine hb_istore_n (pc := 29) (i := 1) (ls1 := [some (hb_r 0 0 0), some (hb_i (1 : Int32))]) dX11_on_29 rfl (by decide) rfl ?_
    refine hb_iload_n (pc := 30) (i := 1) dX11_on_30 rfl rfl ?_
    refine hb_if_eq (pc := 31) (tgt := 62) dX11_on_31 (by decide) (fun c4 => ?_) (fun c4 => ?_)
    · have ht4 := ht1.1 c4
      refine hb_aload_n (pc := 62) (i := 0) dX11_on_62 rfl rfl ?_
      refine hb_iconst (pc := 63) (v := 5) dX11_on_63 (by decide) ?_
      exact hb_callV (pc := 64) (As := [hb_i (5 : Int32)]) (st := []) dX11_on_64 ml_X11_100 mf_X11_refuse mi_X11_refuse (ci := 11) rfl rfl (by decide) rfl rfl (Nat.le_of_ble_eq_true rfl) (Nat.le_of_ble_eq_true rfl) ht4 (fun _ _ q => q)
    · have ht4 := ht1.2 c4
      refine hb_aload_n (pc := 34) (i := 0) dX11_on_34 rfl rfl ?_
      refine hb_getR (pc := 35) (g1 := 0) dX11_on_35 fw_X11_52 cw_11 rfl (by decide) rfl (by decide) rfl ?_
      refine hb_aload_n (pc := 38) (i := 0) dX11_on_38 rfl rfl ?_
      refine hb_getR (pc := 39) (g1 := 0) dX11_on_39 fw_X11_10 cw_11 rfl (by decide) rfl (by decide) rfl ?_
      refine hb_aload_n (pc := 42) (i := 0) dX11_on_42 rfl rfl ?_
      refine hb_getR (pc := 43) (g1 := hb_fR w 0 8 0) dX11_on_43 fw_X11_79 cw_11 rfl (by decide) rfl (by decide) rfl ?_
      obtain ⟨ho5, hr5⟩ := ht4
      refine hb_getIx (pc := 46) (x := hb_fI w 11 1 (hb_fR w 0 8 0)) dX11_on_46 fw_X11_127 cw_6 rfl ho5 rfl rfl ?_
      exact hb_callV (pc := 49) (As := [hb_r 1 0 0, hb_i (hb_fI w 11 1 (hb_fR w 0 8 0))]) (st := []) dX11_on_49 ml_X11_325 mf_X8_load mi_X8_load (ci := 8) rfl rfl (by decide) rfl rfl (Nat.le_of_ble_eq_true rfl) (Nat.le_of_ble_eq_true rfl) hr5 (fun _ _ q => q)
set_option maxRecDepth 20000 in
theorem bk_X11_on_52 {d : Nat} {w : hb_W} {Q : Option hb_V → hb_W → Prop} {x1 : Int32} (h : hb_O yX4_startAgain cX4_startAgain 1 none d [hb_r 8 0 0] w (fun rv w1 => hb_R yX11_on cX11_on 2 (some .boolean) (d + 1) 59 [some (hb_r 0 0 0), some (hb_i x1)] (rv.toList ++ []) w1 Q)) : hb_R yX11_on cX11_on 2 (some .boolean) (d + 1) 52 [some (hb_r 0 0 0), some (hb_i x1)] [] w Q := by
  refine hb_aload_n (pc := 52) (i := 0) dX11_on_52 rfl rfl ?_
  refine hb_getR (pc := 53) (g1 := 0) dX11_on_53 fw_X11_61 cw_11 rfl (by decide) rfl (by decide) rfl ?_
  exact hb_callV (pc := 56) (As := []) (st := []) dX11_on_56 ml_X11_297 mf_X4_startAgain mi_X4_startAgain (ci := 4) rfl rfl (by decide) rfl rfl (Nat.le_of_ble_eq_true rfl) (Nat.le_of_ble_eq_true rfl) h (fun _ _ q => q)
set_option maxRecDepth 20000 in
theorem bk_X11_on_59 {d : Nat} {w : hb_W} {Q : Option hb_V → hb_W → Prop} {x1 : Int32} (h : (x1 = 0 ∨ x1 = 1) ∧ Q (some (hb_i x1)) (hb_pI w 1 1 0 (0 : Int32))) : hb_R yX11_on cX11_on 2 (some .boolean) (d + 1) 59 [some (hb_r 0 0 0), some (hb_i x1)] [] w Q := by
  refine hb_goto (pc := 59) (tgt := 68) dX11_on_59 (by decide) ?_
  refine hb_aload_n (pc := 68) (i := 0) dX11_on_68 rfl rfl ?_
  refine hb_getR (pc := 69) (g1 := 0) dX11_on_69 fw_X11_10 cw_11 rfl (by decide) rfl (by decide) rfl ?_
  refine hb_iconst (pc := 72) (v := 0) dX11_on_72 (by decide) ?_
  refine hb_putI (pc := 73) dX11_on_73 fw_X11_97 cw_10 pw_10_1 rfl (by decide) rfl rfl rfl ?_
  refine hb_iload_n (pc := 76) (i := 1) dX11_on_76 rfl rfl ?_
  exact hb_zret (pc := 77) dX11_on_77 rfl h.1 h.2
set_option maxRecDepth 20000 in
theorem bk_X11_on_67 {d : Nat} {w : hb_W} {Q : Option hb_V → hb_W → Prop} {x1 : Int32} {xs0 : Int32} (h : (x1 = 0 ∨ x1 = 1) ∧ Q (some (hb_i x1)) (hb_pI w 1 1 0 (0 : Int32))) : hb_R yX11_on cX11_on 2 (some .boolean) (d + 1) 67 [some (hb_r 0 0 0), some (hb_i x1)] [hb_i xs0] w Q := by
  refine hb_pop (pc := 67) dX11_on_67 ?_
  refine hb_aload_n (pc := 68) (i := 0) dX11_on_68 rfl rfl ?_
  refine hb_getR (pc := 69) (g1 := 0) dX11_on_69 fw_X11_10 cw_11 rfl (by decide) rfl (by decide) rfl ?_
  refine hb_iconst (pc := 72) (v := 0) dX11_on_72 (by decide) ?_
  refine hb_putI (pc := 73) dX11_on_73 fw_X11_97 cw_10 pw_10_1 rfl (by decide) rfl rfl rfl ?_
  refine hb_iload_n (pc := 76) (i := 1) dX11_on_76 rfl rfl ?_
  exact hb_zret (pc := 77) dX11_on_77 rfl h.1 h.2
theorem dX11_status_0 : decode cX11_status 0 = .ok (.iload_n 1, 1) := by decide +kernel
theorem dX11_status_1 : decode cX11_status 1 = .ok (.ifCond .lt 9, 3) := by decide +kernel
theorem dX11_status_4 : decode cX11_status 4 = .ok (.iload_n 1, 1) := by decide +kernel
theorem dX11_status_5 : decode cX11_status 5 = .ok (.bipush 6, 2) := by decide +kernel
theorem dX11_status_7 : decode cX11_status 7 = .ok (.if_icmp .lt 7, 3) := by decide +kernel
theorem dX11_status_10 : decode cX11_status 10 = .ok (.iconst (-1), 1) := by decide +kernel
theorem dX11_status_11 : decode cX11_status 11 = .ok (.goto 9, 3) := by decide +kernel
theorem dX11_status_14 : decode cX11_status 14 = .ok (.aload_n 0, 1) := by decide +kernel
theorem dX11_status_15 : decode cX11_status 15 = .ok (.getfield 72, 3) := by decide +kernel
theorem dX11_status_18 : decode cX11_status 18 = .ok (.iload_n 1, 1) := by decide +kernel
theorem dX11_status_19 : decode cX11_status 19 = .ok (.iaload, 1) := by decide +kernel
theorem dX11_status_20 : decode cX11_status 20 = .ok (.ireturn, 1) := by decide +kernel
set_option maxRecDepth 20000 in
theorem bk_X11_status_0 {d : Nat} {w : hb_W} {Q : Option hb_V → hb_W → Prop} {x1 : Int32} (h : ((x1 < 0) → Q (some (hb_i (-1 : Int32))) w) ∧ ((¬ x1 < 0) → ((x1 < (6 : Int32)) → vp_in x1 6 ∧ (Q (some (hb_i (hb_aI w 0 1 0 x1.toNatClampNeg))) w)) ∧ ((¬ x1 < (6 : Int32)) → Q (some (hb_i (-1 : Int32))) w))) : hb_R yX11_status cX11_status 2 (some .int) d 0 [some (hb_r 0 0 0), some (hb_i x1)] [] w Q := by
  refine hb_iload_n (pc := 0) (i := 1) dX11_status_0 rfl rfl ?_
  refine hb_if_lt (pc := 1) (tgt := 10) dX11_status_1 (by decide) (fun c1 => ?_) (fun c1 => ?_)
  · have ht1 := h.1 c1
    refine hb_iconst (pc := 10) (v := -1) dX11_status_10 (by decide) ?_
    refine hb_goto (pc := 11) (tgt := 20) dX11_status_11 (by decide) ?_
    exact hb_iret (pc := 20) dX11_status_20 rfl ht1
  · have ht1 := h.2 c1
    refine hb_iload_n (pc := 4) (i := 1) dX11_status_4 rfl rfl ?_
    refine hb_bipush (pc := 5) (v := 6) dX11_status_5 (by decide) ?_
    refine hb_icmp_lt (pc := 7) (tgt := 14) dX11_status_7 (by decide) (fun c2 => ?_) (fun c2 => ?_)
    · have ht2 := ht1.1 c2
      refine hb_aload_n (pc := 14) (i := 0) dX11_status_14 rfl rfl ?_
      refine hb_getR (pc := 15) (g1 := 0) dX11_status_15 fw_X11_72 cw_11 rfl (by decide) rfl (by decide) rfl ?_
      refine hb_iload_n (pc := 18) (i := 1) dX11_status_18 rfl rfl ?_
      obtain ⟨ho3, hr3⟩ := ht2
      refine hb_ialdx (pc := 19) (x := hb_aI w 0 1 0 x1.toNatClampNeg) dX11_status_19 rfl (by decide) ho3 rfl ?_
      exact hb_iret (pc := 20) dX11_status_20 rfl hr3
    · have ht2 := ht1.2 c2
      refine hb_iconst (pc := 10) (v := -1) dX11_status_10 (by decide) ?_
      refine hb_goto (pc := 11) (tgt := 20) dX11_status_11 (by decide) ?_
      exact hb_iret (pc := 20) dX11_status_20 rfl ht2
theorem dX11_refuse_0 : decode cX11_refuse 0 = .ok (.aload_n 0, 1) := by decide +kernel
theorem dX11_refuse_1 : decode cX11_refuse 1 = .ok (.getfield 72, 3) := by decide +kernel
theorem dX11_refuse_4 : decode cX11_refuse 4 = .ok (.iload_n 1, 1) := by decide +kernel
theorem dX11_refuse_5 : decode cX11_refuse 5 = .ok (.dup2, 1) := by decide +kernel
theorem dX11_refuse_6 : decode cX11_refuse 6 = .ok (.iaload, 1) := by decide +kernel
theorem dX11_refuse_7 : decode cX11_refuse 7 = .ok (.iconst 1, 1) := by decide +kernel
theorem dX11_refuse_8 : decode cX11_refuse 8 = .ok (.iadd, 1) := by decide +kernel
theorem dX11_refuse_9 : decode cX11_refuse 9 = .ok (.iastore, 1) := by decide +kernel
theorem dX11_refuse_10 : decode cX11_refuse 10 = .ok (.iconst (-1), 1) := by decide +kernel
theorem dX11_refuse_11 : decode cX11_refuse 11 = .ok (.ireturn, 1) := by decide +kernel
set_option maxRecDepth 20000 in
theorem bk_X11_refuse_0 {d : Nat} {w : hb_W} {Q : Option hb_V → hb_W → Prop} {x1 : Int32} (h : vp_in x1 6 ∧ (vp_in x1 6 ∧ (Q (some (hb_i (-1 : Int32))) (hb_sI w 0 1 0 (upd (hb_aI w 0 1 0) x1.toNatClampNeg ((hb_aI w 0 1 0 x1.toNatClampNeg) + (1 : Int32))))))) : hb_R yX11_refuse cX11_refuse 2 (some .int) d 0 [some (hb_r 0 0 0), some (hb_i x1)] [] w Q := by
  refine hb_aload_n (pc := 0) (i := 0) dX11_refuse_0 rfl rfl ?_
  refine hb_getR (pc := 1) (g1 := 0) dX11_refuse_1 fw_X11_72 cw_11 rfl (by decide) rfl (by decide) rfl ?_
  refine hb_iload_n (pc := 4) (i := 1) dX11_refuse_4 rfl rfl ?_
  refine hb_dup2ir (pc := 5) dX11_refuse_5 ?_
  obtain ⟨ho1, hr1⟩ := h
  refine hb_ialdx (pc := 6) (x := hb_aI w 0 1 0 x1.toNatClampNeg) dX11_refuse_6 rfl (by decide) ho1 rfl ?_
  refine hb_iconst (pc := 7) (v := 1) dX11_refuse_7 (by decide) ?_
  refine hb_iadd (pc := 8) dX11_refuse_8 ?_
  obtain ⟨ho2, hr2⟩ := hr1
  refine hb_iastx (pc := 9) (f := upd (hb_aI w 0 1 0) x1.toNatClampNeg ((hb_aI w 0 1 0 x1.toNatClampNeg) + (1 : Int32))) dX11_refuse_9 rfl (by decide) ho2 rfl ?_
  refine hb_iconst (pc := 10) (v := -1) dX11_refuse_10 (by decide) ?_
  exact hb_iret (pc := 11) dX11_refuse_11 rfl hr2
theorem dX11_keepFault_0 : decode cX11_keepFault 0 = .ok (.aload_n 0, 1) := by decide +kernel
theorem dX11_keepFault_1 : decode cX11_keepFault 1 = .ok (.aload_n 0, 1) := by decide +kernel
theorem dX11_keepFault_2 : decode cX11_keepFault 2 = .ok (.getfield 33, 3) := by decide +kernel
theorem dX11_keepFault_5 : decode cX11_keepFault 5 = .ok (.getfield 329, 3) := by decide +kernel
theorem dX11_keepFault_8 : decode cX11_keepFault 8 = .ok (.getfield 333, 3) := by decide +kernel
theorem dX11_keepFault_11 : decode cX11_keepFault 11 = .ok (.putfield 90, 3) := by decide +kernel
theorem dX11_keepFault_14 : decode cX11_keepFault 14 = .ok (.aload_n 0, 1) := by decide +kernel
theorem dX11_keepFault_15 : decode cX11_keepFault 15 = .ok (.aload_n 0, 1) := by decide +kernel
theorem dX11_keepFault_16 : decode cX11_keepFault 16 = .ok (.getfield 33, 3) := by decide +kernel
theorem dX11_keepFault_19 : decode cX11_keepFault 19 = .ok (.getfield 329, 3) := by decide +kernel
theorem dX11_keepFault_22 : decode cX11_keepFault 22 = .ok (.getfield 336, 3) := by decide +kernel
theorem dX11_keepFault_25 : decode cX11_keepFault 25 = .ok (.putfield 94, 3) := by decide +kernel
theorem dX11_keepFault_28 : decode cX11_keepFault 28 = .ok (.return_, 1) := by decide +kernel
set_option maxRecDepth 20000 in
theorem bk_X11_keepFault_0 {d : Nat} {w : hb_W} {Q : Option hb_V → hb_W → Prop} (h : Q none (hb_pI (hb_pI w 0 11 0 (hb_fI w 3 6 0)) 0 12 0 (hb_fI w 3 7 0))) : hb_R yX11_keepFault cX11_keepFault 1 none d 0 [some (hb_r 0 0 0)] [] w Q := by
  refine hb_aload_n (pc := 0) (i := 0) dX11_keepFault_0 rfl rfl ?_
  refine hb_aload_n (pc := 1) (i := 0) dX11_keepFault_1 rfl rfl ?_
  refine hb_getR (pc := 2) (g1 := 0) dX11_keepFault_2 fw_X11_33 cw_11 rfl (by decide) rfl (by decide) rfl ?_
  refine hb_getR (pc := 5) (g1 := 0) dX11_keepFault_5 fw_X11_329 cw_2 rfl (by decide) rfl (by decide) rfl ?_
  refine hb_getIx (pc := 8) (x := hb_fI w 3 6 0) dX11_keepFault_8 fw_X11_333 cw_7 rfl (by decide) rfl rfl ?_
  refine hb_putI (pc := 11) dX11_keepFault_11 fw_X11_90 cw_11 pw_11_11 rfl (by decide) rfl rfl rfl ?_
  refine hb_aload_n (pc := 14) (i := 0) dX11_keepFault_14 rfl rfl ?_
  refine hb_aload_n (pc := 15) (i := 0) dX11_keepFault_15 rfl rfl ?_
  refine hb_getR (pc := 16) (g1 := 0) dX11_keepFault_16 fw_X11_33 cw_11 rfl (by decide) rfl (by decide) rfl ?_
  refine hb_getR (pc := 19) (g1 := 0) dX11_keepFault_19 fw_X11_329 cw_2 rfl (by decide) rfl (by decide) rfl ?_
  refine hb_getIx (pc := 22) (x := hb_fI w 3 7 0) dX11_keepFault_22 fw_X11_336 cw_7 rfl (by decide) rfl rfl ?_
  refine hb_putI (pc := 25) dX11_keepFault_25 fw_X11_94 cw_11 pw_11_12 rfl (by decide) rfl rfl rfl ?_
  exact hb_vret (pc := 28) dX11_keepFault_28 rfl h
theorem dX11_bookNow_0 : decode cX11_bookNow 0 = .ok (.aload_n 0, 1) := by decide +kernel
theorem dX11_bookNow_1 : decode cX11_bookNow 1 = .ok (.getfield 86, 3) := by decide +kernel
theorem dX11_bookNow_4 : decode cX11_bookNow 4 = .ok (.ifCond .ne 5, 3) := by decide +kernel
theorem dX11_bookNow_7 : decode cX11_bookNow 7 = .ok (.aconst_null, 1) := by decide +kernel
theorem dX11_bookNow_8 : decode cX11_bookNow 8 = .ok (.areturn, 1) := by decide +kernel
theorem dX11_bookNow_9 : decode cX11_bookNow 9 = .ok (.aload_n 0, 1) := by decide +kernel
theorem dX11_bookNow_10 : decode cX11_bookNow 10 = .ok (.getfield 61, 3) := by decide +kernel
theorem dX11_bookNow_13 : decode cX11_bookNow 13 = .ok (.aload_n 0, 1) := by decide +kernel
theorem dX11_bookNow_14 : decode cX11_bookNow 14 = .ok (.getfield 79, 3) := by decide +kernel
theorem dX11_bookNow_17 : decode cX11_bookNow 17 = .ok (.aload_n 0, 1) := by decide +kernel
theorem dX11_bookNow_18 : decode cX11_bookNow 18 = .ok (.getfield 52, 3) := by decide +kernel
theorem dX11_bookNow_21 : decode cX11_bookNow 21 = .ok (.invokevirtual 150, 3) := by decide +kernel
theorem dX11_bookNow_24 : decode cX11_bookNow 24 = .ok (.aload_n 0, 1) := by decide +kernel
theorem dX11_bookNow_25 : decode cX11_bookNow 25 = .ok (.getfield 61, 3) := by decide +kernel
theorem dX11_bookNow_28 : decode cX11_bookNow 28 = .ok (.iload_n 1, 1) := by decide +kernel
theorem dX11_bookNow_29 : decode cX11_bookNow 29 = .ok (.invokevirtual 339, 3) := by decide +kernel
theorem dX11_bookNow_32 : decode cX11_bookNow 32 = .ok (.areturn, 1) := by decide +kernel
set_option maxRecDepth 20000 in
theorem bk_X11_bookNow_0 {d : Nat} {w : hb_W} {Q : Option hb_V → hb_W → Prop} {x1 : Int32} (h : ((¬ (hb_fI w 0 10 0) = 0) → hb_O yX4_bringUp cX4_bringUp 5 none d [hb_r 8 0 0, hb_r 11 (hb_fR w 0 8 0) 0, hb_r 7 0 0] w (fun rv w1 => hb_R yX11_bookNow cX11_bookNow 2 (some (.object "HoodBook$Book")) (d + 1) 24 [some (hb_r 0 0 0), some (hb_i x1)] (rv.toList ++ []) w1 Q)) ∧ (((hb_fI w 0 10 0) = 0) → Q (some (hb_n)) w)) : hb_R yX11_bookNow cX11_bookNow 2 (some (.object "HoodBook$Book")) (d + 1) 0 [some (hb_r 0 0 0), some (hb_i x1)] [] w Q := by
  refine hb_aload_n (pc := 0) (i := 0) dX11_bookNow_0 rfl rfl ?_
  refine hb_getIx (pc := 1) (x := hb_fI w 0 10 0) dX11_bookNow_1 fw_X11_86 cw_11 rfl (by decide) rfl rfl ?_
  refine hb_if_ne (pc := 4) (tgt := 9) dX11_bookNow_4 (by decide) (fun c1 => ?_) (fun c1 => ?_)
  · have ht1 := h.1 c1
    refine hb_aload_n (pc := 9) (i := 0) dX11_bookNow_9 rfl rfl ?_
    refine hb_getR (pc := 10) (g1 := 0) dX11_bookNow_10 fw_X11_61 cw_11 rfl (by decide) rfl (by decide) rfl ?_
    refine hb_aload_n (pc := 13) (i := 0) dX11_bookNow_13 rfl rfl ?_
    refine hb_getR (pc := 14) (g1 := hb_fR w 0 8 0) dX11_bookNow_14 fw_X11_79 cw_11 rfl (by decide) rfl (by decide) rfl ?_
    refine hb_aload_n (pc := 17) (i := 0) dX11_bookNow_17 rfl rfl ?_
    refine hb_getR (pc := 18) (g1 := 0) dX11_bookNow_18 fw_X11_52 cw_11 rfl (by decide) rfl (by decide) rfl ?_
    exact hb_callV (pc := 21) (As := [hb_r 11 (hb_fR w 0 8 0) 0, hb_r 7 0 0]) (st := []) dX11_bookNow_21 ml_X11_150 mf_X4_bringUp mi_X4_bringUp (ci := 4) rfl rfl (by decide) rfl rfl (Nat.le_of_ble_eq_true rfl) (Nat.le_of_ble_eq_true rfl) ht1 (fun _ _ q => q)
  · have ht1 := h.2 c1
    refine hb_null (pc := 7) dX11_bookNow_7 ?_
    exact hb_aretN (pc := 8) dX11_bookNow_8 rfl ht1
set_option maxRecDepth 20000 in
theorem bk_X11_bookNow_24 {d : Nat} {w : hb_W} {Q : Option hb_V → hb_W → Prop} {x1 : Int32} (h : hb_O yX4_bookOf cX4_bookOf 2 (some (.object "HoodBook$Book")) d [hb_r 8 0 0, hb_i x1] w (fun rv w1 => hb_R yX11_bookNow cX11_bookNow 2 (some (.object "HoodBook$Book")) (d + 1) 32 [some (hb_r 0 0 0), some (hb_i x1)] (rv.toList ++ []) w1 Q)) : hb_R yX11_bookNow cX11_bookNow 2 (some (.object "HoodBook$Book")) (d + 1) 24 [some (hb_r 0 0 0), some (hb_i x1)] [] w Q := by
  refine hb_aload_n (pc := 24) (i := 0) dX11_bookNow_24 rfl rfl ?_
  refine hb_getR (pc := 25) (g1 := 0) dX11_bookNow_25 fw_X11_61 cw_11 rfl (by decide) rfl (by decide) rfl ?_
  refine hb_iload_n (pc := 28) (i := 1) dX11_bookNow_28 rfl rfl ?_
  exact hb_callV (pc := 29) (As := [hb_i x1]) (st := []) dX11_bookNow_29 ml_X11_339 mf_X4_bookOf mi_X4_bookOf (ci := 4) rfl rfl (by decide) rfl rfl (Nat.le_of_ble_eq_true rfl) (Nat.le_of_ble_eq_true rfl) h (fun _ _ q => q)
set_option maxRecDepth 20000 in
theorem bk_X11_bookNow_32 {d : Nat} {w : hb_W} {Q : Option hb_V → hb_W → Prop} {x1 : Int32} {gs0 : Nat} (hgs0 : gs0 < hb_ct 9) (h : Q (some (hb_r 9 gs0 0)) w) : hb_R yX11_bookNow cX11_bookNow 2 (some (.object "HoodBook$Book")) (d + 1) 32 [some (hb_r 0 0 0), some (hb_i x1)] [hb_r 9 gs0 0] w Q := by
  exact hb_aret (pc := 32) dX11_bookNow_32 rfl h
set_option maxRecDepth 20000 in
theorem bk_X11_bookNow_32N {d : Nat} {w : hb_W} {Q : Option hb_V → hb_W → Prop} {x1 : Int32} (h : Q (some (hb_n)) w) : hb_R yX11_bookNow cX11_bookNow 2 (some (.object "HoodBook$Book")) (d + 1) 32 [some (hb_r 0 0 0), some (hb_i x1)] [hb_n] w Q := by
  exact hb_aretN (pc := 32) dX11_bookNow_32 rfl h
theorem dX11_unlikePassed_0 : decode cX11_unlikePassed 0 = .ok (.aload_n 0, 1) := by decide +kernel
theorem dX11_unlikePassed_1 : decode cX11_unlikePassed 1 = .ok (.getfield 86, 3) := by decide +kernel
theorem dX11_unlikePassed_4 : decode cX11_unlikePassed 4 = .ok (.ifCond .ne 5, 3) := by decide +kernel
theorem dX11_unlikePassed_7 : decode cX11_unlikePassed 7 = .ok (.iconst 0, 1) := by decide +kernel
theorem dX11_unlikePassed_8 : decode cX11_unlikePassed 8 = .ok (.ireturn, 1) := by decide +kernel
theorem dX11_unlikePassed_9 : decode cX11_unlikePassed 9 = .ok (.aload_n 0, 1) := by decide +kernel
theorem dX11_unlikePassed_10 : decode cX11_unlikePassed 10 = .ok (.getfield 61, 3) := by decide +kernel
theorem dX11_unlikePassed_13 : decode cX11_unlikePassed 13 = .ok (.aload_n 0, 1) := by decide +kernel
theorem dX11_unlikePassed_14 : decode cX11_unlikePassed 14 = .ok (.getfield 79, 3) := by decide +kernel
theorem dX11_unlikePassed_17 : decode cX11_unlikePassed 17 = .ok (.aload_n 0, 1) := by decide +kernel
theorem dX11_unlikePassed_18 : decode cX11_unlikePassed 18 = .ok (.getfield 52, 3) := by decide +kernel
theorem dX11_unlikePassed_21 : decode cX11_unlikePassed 21 = .ok (.invokevirtual 150, 3) := by decide +kernel
theorem dX11_unlikePassed_24 : decode cX11_unlikePassed 24 = .ok (.aload_n 0, 1) := by decide +kernel
theorem dX11_unlikePassed_25 : decode cX11_unlikePassed 25 = .ok (.getfield 61, 3) := by decide +kernel
theorem dX11_unlikePassed_28 : decode cX11_unlikePassed 28 = .ok (.getfield 342, 3) := by decide +kernel
theorem dX11_unlikePassed_31 : decode cX11_unlikePassed 31 = .ok (.getfield 243, 3) := by decide +kernel
theorem dX11_unlikePassed_34 : decode cX11_unlikePassed 34 = .ok (.ireturn, 1) := by decide +kernel
set_option maxRecDepth 20000 in
theorem bk_X11_unlikePassed_0 {d : Nat} {w : hb_W} {Q : Option hb_V → hb_W → Prop} (h : ((¬ (hb_fI w 0 10 0) = 0) → hb_O yX4_bringUp cX4_bringUp 5 none d [hb_r 8 0 0, hb_r 11 (hb_fR w 0 8 0) 0, hb_r 7 0 0] w (fun rv w1 => hb_R yX11_unlikePassed cX11_unlikePassed 1 (some .int) (d + 1) 24 [some (hb_r 0 0 0)] (rv.toList ++ []) w1 Q)) ∧ (((hb_fI w 0 10 0) = 0) → Q (some (hb_i (0 : Int32))) w)) : hb_R yX11_unlikePassed cX11_unlikePassed 1 (some .int) (d + 1) 0 [some (hb_r 0 0 0)] [] w Q := by
  refine hb_aload_n (pc := 0) (i := 0) dX11_unlikePassed_0 rfl rfl ?_
  refine hb_getIx (pc := 1) (x := hb_fI w 0 10 0) dX11_unlikePassed_1 fw_X11_86 cw_11 rfl (by decide) rfl rfl ?_
  refine hb_if_ne (pc := 4) (tgt := 9) dX11_unlikePassed_4 (by decide) (fun c1 => ?_) (fun c1 => ?_)
  · have ht1 := h.1 c1
    refine hb_aload_n (pc := 9) (i := 0) dX11_unlikePassed_9 rfl rfl ?_
    refine hb_getR (pc := 10) (g1 := 0) dX11_unlikePassed_10 fw_X11_61 cw_11 rfl (by decide) rfl (by decide) rfl ?_
    refine hb_aload_n (pc := 13) (i := 0) dX11_unlikePassed_13 rfl rfl ?_
    refine hb_getR (pc := 14) (g1 := hb_fR w 0 8 0) dX11_unlikePassed_14 fw_X11_79 cw_11 rfl (by decide) rfl (by decide) rfl ?_
    refine hb_aload_n (pc := 17) (i := 0) dX11_unlikePassed_17 rfl rfl ?_
    refine hb_getR (pc := 18) (g1 := 0) dX11_unlikePassed_18 fw_X11_52 cw_11 rfl (by decide) rfl (by decide) rfl ?_
    exact hb_callV (pc := 21) (As := [hb_r 11 (hb_fR w 0 8 0) 0, hb_r 7 0 0]) (st := []) dX11_unlikePassed_21 ml_X11_150 mf_X4_bringUp mi_X4_bringUp (ci := 4) rfl rfl (by decide) rfl rfl (Nat.le_of_ble_eq_true rfl) (Nat.le_of_ble_eq_true rfl) ht1 (fun _ _ q => q)
  · have ht1 := h.2 c1
    refine hb_iconst (pc := 7) (v := 0) dX11_unlikePassed_7 (by decide) ?_
    exact hb_iret (pc := 8) dX11_unlikePassed_8 rfl ht1
set_option maxRecDepth 20000 in
theorem bk_X11_unlikePassed_24 {d : Nat} {w : hb_W} {Q : Option hb_V → hb_W → Prop} (h : Q (some (hb_i (hb_fI w 9 4 2))) w) : hb_R yX11_unlikePassed cX11_unlikePassed 1 (some .int) (d + 1) 24 [some (hb_r 0 0 0)] [] w Q := by
  refine hb_aload_n (pc := 24) (i := 0) dX11_unlikePassed_24 rfl rfl ?_
  refine hb_getR (pc := 25) (g1 := 0) dX11_unlikePassed_25 fw_X11_61 cw_11 rfl (by decide) rfl (by decide) rfl ?_
  refine hb_getR (pc := 28) (g1 := 2) dX11_unlikePassed_28 fw_X11_342 cw_4 rfl (by decide) rfl (by decide) rfl ?_
  refine hb_getIx (pc := 31) (x := hb_fI w 9 4 2) dX11_unlikePassed_31 fw_X11_243 cw_0 rfl (by decide) rfl rfl ?_
  exact hb_iret (pc := 34) dX11_unlikePassed_34 rfl h
theorem dX11_admitRow_0 : decode cX11_admitRow 0 = .ok (.iconst 0, 1) := by decide +kernel
theorem dX11_admitRow_1 : decode cX11_admitRow 1 = .ok (.istore_n 2, 1) := by decide +kernel
theorem dX11_admitRow_2 : decode cX11_admitRow 2 = .ok (.iload_n 2, 1) := by decide +kernel
theorem dX11_admitRow_3 : decode cX11_admitRow 3 = .ok (.aload_n 0, 1) := by decide +kernel
theorem dX11_admitRow_4 : decode cX11_admitRow 4 = .ok (.getfield 79, 3) := by decide +kernel
theorem dX11_admitRow_7 : decode cX11_admitRow 7 = .ok (.getfield 346, 3) := by decide +kernel
theorem dX11_admitRow_10 : decode cX11_admitRow 10 = .ok (.iload_n 1, 1) := by decide +kernel
theorem dX11_admitRow_11 : decode cX11_admitRow 11 = .ok (.iaload, 1) := by decide +kernel
theorem dX11_admitRow_12 : decode cX11_admitRow 12 = .ok (.if_icmp .ge 125, 3) := by decide +kernel
theorem dX11_admitRow_15 : decode cX11_admitRow 15 = .ok (.aload_n 0, 1) := by decide +kernel
theorem dX11_admitRow_16 : decode cX11_admitRow 16 = .ok (.getfield 45, 3) := by decide +kernel
theorem dX11_admitRow_19 : decode cX11_admitRow 19 = .ok (.aload_n 0, 1) := by decide +kernel
theorem dX11_admitRow_20 : decode cX11_admitRow 20 = .ok (.getfield 79, 3) := by decide +kernel
theorem dX11_admitRow_23 : decode cX11_admitRow 23 = .ok (.getfield 349, 3) := by decide +kernel
theorem dX11_admitRow_26 : decode cX11_admitRow 26 = .ok (.iload_n 1, 1) := by decide +kernel
theorem dX11_admitRow_27 : decode cX11_admitRow 27 = .ok (.iaload, 1) := by decide +kernel
theorem dX11_admitRow_28 : decode cX11_admitRow 28 = .ok (.iload_n 2, 1) := by decide +kernel
theorem dX11_admitRow_29 : decode cX11_admitRow 29 = .ok (.aload_n 0, 1) := by decide +kernel
theorem dX11_admitRow_30 : decode cX11_admitRow 30 = .ok (.getfield 79, 3) := by decide +kernel
theorem dX11_admitRow_33 : decode cX11_admitRow 33 = .ok (.getfield 352, 3) := by decide +kernel
theorem dX11_admitRow_36 : decode cX11_admitRow 36 = .ok (.iload_n 1, 1) := by decide +kernel
theorem dX11_admitRow_37 : decode cX11_admitRow 37 = .ok (.iaload, 1) := by decide +kernel
theorem dX11_admitRow_38 : decode cX11_admitRow 38 = .ok (.imul, 1) := by decide +kernel
theorem dX11_admitRow_39 : decode cX11_admitRow 39 = .ok (.iadd, 1) := by decide +kernel
theorem dX11_admitRow_40 : decode cX11_admitRow 40 = .ok (.bipush 64, 2) := by decide +kernel
theorem dX11_admitRow_42 : decode cX11_admitRow 42 = .ok (.irem, 1) := by decide +kernel
theorem dX11_admitRow_43 : decode cX11_admitRow 43 = .ok (.putfield 355, 3) := by decide +kernel
theorem dX11_admitRow_46 : decode cX11_admitRow 46 = .ok (.aload_n 0, 1) := by decide +kernel
theorem dX11_admitRow_47 : decode cX11_admitRow 47 = .ok (.getfield 45, 3) := by decide +kernel
theorem dX11_admitRow_50 : decode cX11_admitRow 50 = .ok (.iload_n 2, 1) := by decide +kernel
theorem dX11_admitRow_51 : decode cX11_admitRow 51 = .ok (.putfield 358, 3) := by decide +kernel
theorem dX11_admitRow_54 : decode cX11_admitRow 54 = .ok (.aload_n 0, 1) := by decide +kernel
theorem dX11_admitRow_55 : decode cX11_admitRow 55 = .ok (.getfield 45, 3) := by decide +kernel
theorem dX11_admitRow_58 : decode cX11_admitRow 58 = .ok (.aload_n 0, 1) := by decide +kernel
theorem dX11_admitRow_59 : decode cX11_admitRow 59 = .ok (.getfield 79, 3) := by decide +kernel
theorem dX11_admitRow_62 : decode cX11_admitRow 62 = .ok (.getfield 361, 3) := by decide +kernel
theorem dX11_admitRow_65 : decode cX11_admitRow 65 = .ok (.aload_n 0, 1) := by decide +kernel
theorem dX11_admitRow_66 : decode cX11_admitRow 66 = .ok (.getfield 79, 3) := by decide +kernel
theorem dX11_admitRow_69 : decode cX11_admitRow 69 = .ok (.getfield 364, 3) := by decide +kernel
theorem dX11_admitRow_72 : decode cX11_admitRow 72 = .ok (.iload_n 1, 1) := by decide +kernel
theorem dX11_admitRow_73 : decode cX11_admitRow 73 = .ok (.iaload, 1) := by decide +kernel
theorem dX11_admitRow_74 : decode cX11_admitRow 74 = .ok (.aload_n 0, 1) := by decide +kernel
theorem dX11_admitRow_75 : decode cX11_admitRow 75 = .ok (.getfield 79, 3) := by decide +kernel
theorem dX11_admitRow_78 : decode cX11_admitRow 78 = .ok (.getfield 367, 3) := by decide +kernel
theorem dX11_admitRow_81 : decode cX11_admitRow 81 = .ok (.iload_n 1, 1) := by decide +kernel
theorem dX11_admitRow_82 : decode cX11_admitRow 82 = .ok (.iaload, 1) := by decide +kernel
theorem dX11_admitRow_83 : decode cX11_admitRow 83 = .ok (.invokevirtual 370, 3) := by decide +kernel
theorem dX11_admitRow_86 : decode cX11_admitRow 86 = .ok (.istore_n 3, 1) := by decide +kernel
theorem dX11_admitRow_87 : decode cX11_admitRow 87 = .ok (.iconst 0, 1) := by decide +kernel
theorem dX11_admitRow_88 : decode cX11_admitRow 88 = .ok (.bipush 99, 2) := by decide +kernel
theorem dX11_admitRow_90 : decode cX11_admitRow 90 = .ok (.iload_n 3, 1) := by decide +kernel
theorem dX11_admitRow_91 : decode cX11_admitRow 91 = .ok (.invokestatic 374, 3) := by decide +kernel
theorem dX11_admitRow_94 : decode cX11_admitRow 94 = .ok (.invokestatic 379, 3) := by decide +kernel
theorem dX11_admitRow_97 : decode cX11_admitRow 97 = .ok (.istore 4, 2) := by decide +kernel
theorem dX11_admitRow_99 : decode cX11_admitRow 99 = .ok (.aload_n 0, 1) := by decide +kernel
theorem dX11_admitRow_100 : decode cX11_admitRow 100 = .ok (.getfield 52, 3) := by decide +kernel
theorem dX11_admitRow_103 : decode cX11_admitRow 103 = .ok (.aload_n 0, 1) := by decide +kernel
theorem dX11_admitRow_104 : decode cX11_admitRow 104 = .ok (.getfield 45, 3) := by decide +kernel
theorem dX11_admitRow_107 : decode cX11_admitRow 107 = .ok (.getfield 355, 3) := by decide +kernel
theorem dX11_admitRow_110 : decode cX11_admitRow 110 = .ok (.iload 4, 2) := by decide +kernel
theorem dX11_admitRow_112 : decode cX11_admitRow 112 = .ok (.aload_n 0, 1) := by decide +kernel
theorem dX11_admitRow_113 : decode cX11_admitRow 113 = .ok (.getfield 79, 3) := by decide +kernel
theorem dX11_admitRow_116 : decode cX11_admitRow 116 = .ok (.getfield 382, 3) := by decide +kernel
theorem dX11_admitRow_119 : decode cX11_admitRow 119 = .ok (.iload_n 1, 1) := by decide +kernel
theorem dX11_admitRow_120 : decode cX11_admitRow 120 = .ok (.iaload, 1) := by decide +kernel
theorem dX11_admitRow_121 : decode cX11_admitRow 121 = .ok (.aload_n 0, 1) := by decide +kernel
theorem dX11_admitRow_122 : decode cX11_admitRow 122 = .ok (.getfield 79, 3) := by decide +kernel
theorem dX11_admitRow_125 : decode cX11_admitRow 125 = .ok (.getfield 127, 3) := by decide +kernel
theorem dX11_admitRow_128 : decode cX11_admitRow 128 = .ok (.invokevirtual 287, 3) := by decide +kernel
theorem dX11_admitRow_131 : decode cX11_admitRow 131 = .ok (.iinc 2 1, 3) := by decide +kernel
theorem dX11_admitRow_134 : decode cX11_admitRow 134 = .ok (.goto (-132), 3) := by decide +kernel
theorem dX11_admitRow_137 : decode cX11_admitRow 137 = .ok (.return_, 1) := by decide +kernel
set_option maxRecDepth 20000 in
theorem bk_X11_admitRow_0 {d : Nat} {w : hb_W} {Q : Option hb_V → hb_W → Prop} {x1 : Int32} (h : hb_R yX11_admitRow cX11_admitRow 5 none (d + 1) 2 [some (hb_r 0 0 0), some (hb_i x1), some (hb_i (0 : Int32)), none, none] [] w Q) : hb_R yX11_admitRow cX11_admitRow 5 none (d + 1) 0 [some (hb_r 0 0 0), some (hb_i x1), none, none, none] [] w Q := by
  refine hb_iconst (pc := 0) (v := 0) dX11_admitRow_0 (by decide) ?_
  refine hb_istore_n (pc := 1) (i := 2) (ls1 := [some (hb_r 0 0 0), some (hb_i x1), some (hb_i (0 : Int32)), none, none]) dX11_admitRow_1 rfl (by decide) rfl ?_
  exact h
set_option maxRecDepth 20000 in
theorem bk_X11_admitRow_2 {d : Nat} {w : hb_W} {Q : Option hb_V → hb_W → Prop} {x1 : Int32} {x2 : Int32} (h : (hb_fR w 0 8 0) < hb_ct 11 ∧ ((hb_fR w 0 8 0) < hb_ct 11 ∧ (vp_in x1 20 ∧ ((((hb_aI w 11 1 (hb_fR w 0 8 0) x1.toNatClampNeg) ≤ x2) → Q none w) ∧ ((¬ (hb_aI w 11 1 (hb_fR w 0 8 0) x1.toNatClampNeg) ≤ x2) → (hb_fR w 0 8 0) < hb_ct 11 ∧ ((hb_fR w 0 8 0) < hb_ct 11 ∧ (vp_in x1 20 ∧ ((hb_fR w 0 8 0) < hb_ct 11 ∧ ((hb_fR w 0 8 0) < hb_ct 11 ∧ (vp_in x1 20 ∧ ((hb_fR w 0 8 0) < hb_ct 11 ∧ ((hb_fR w 0 8 0) < hb_ct 11 ∧ ((hb_fR w 0 8 0) < hb_ct 11 ∧ (vp_in x1 20 ∧ ((hb_fR w 0 8 0) < hb_ct 11 ∧ ((hb_fR w 0 8 0) < hb_ct 11 ∧ (vp_in x1 20 ∧ (hb_O yX9_reckon cX9_reckon 8 (some .int) d [hb_r 6 0 0, hb_r 2 (hb_fR w 0 8 0 + 1) 0, hb_i (hb_aI w 11 5 (hb_fR w 0 8 0) x1.toNatClampNeg), hb_i (hb_aI w 11 6 (hb_fR w 0 8 0) x1.toNatClampNeg)] (hb_pI (hb_pI w 6 0 0 (((hb_aI w 11 2 (hb_fR w 0 8 0) x1.toNatClampNeg) + (x2 * (hb_aI w 11 3 (hb_fR w 0 8 0) x1.toNatClampNeg))) - ((hb_aI w 11 2 (hb_fR w 0 8 0) x1.toNatClampNeg) + (x2 * (hb_aI w 11 3 (hb_fR w 0 8 0) x1.toNatClampNeg))) / (64 : Int32) * (64 : Int32))) 6 1 0 x2) (fun rv w1 => hb_R yX11_admitRow cX11_admitRow 5 none (d + 1) 86 [some (hb_r 0 0 0), some (hb_i x1), some (hb_i x2), none, none] (rv.toList ++ []) w1 Q))))))))))))))))))) : hb_R yX11_admitRow cX11_admitRow 5 none (d + 1) 2 [some (hb_r 0 0 0), some (hb_i x1), some (hb_i x2), none, none] [] w Q := by
  refine hb_iload_n (pc := 2) (i := 2) dX11_admitRow_2 rfl rfl ?_
  refine hb_aload_n (pc := 3) (i := 0) dX11_admitRow_3 rfl rfl ?_
  refine hb_getR (pc := 4) (g1 := hb_fR w 0 8 0) dX11_admitRow_4 fw_X11_79 cw_11 rfl (by decide) rfl (by decide) rfl ?_
  obtain ⟨ho1, hr1⟩ := h
  refine hb_getR (pc := 7) (g1 := hb_fR w 0 8 0) dX11_admitRow_7 fw_X11_346 cw_6 rfl ho1 rfl (by decide) rfl ?_
  refine hb_iload_n (pc := 10) (i := 1) dX11_admitRow_10 rfl rfl ?_
  obtain ⟨ho2, hr2⟩ := hr1
  obtain ⟨ho3, hr3⟩ := hr2
  refine hb_ialdx (pc := 11) (x := hb_aI w 11 1 (hb_fR w 0 8 0) x1.toNatClampNeg) dX11_admitRow_11 rfl ho2 ho3 rfl ?_
  refine hb_icmp_ge (pc := 12) (tgt := 137) dX11_admitRow_12 (by decide) (fun c4 => ?_) (fun c4 => ?_)
  · have ht4 := hr3.1 c4
    exact hb_vret (pc := 137) dX11_admitRow_137 rfl ht4
  · have ht4 := hr3.2 c4
    refine hb_aload_n (pc := 15) (i := 0) dX11_admitRow_15 rfl rfl ?_
    refine hb_getR (pc := 16) (g1 := 0) dX11_admitRow_16 fw_X11_45 cw_11 rfl (by decide) rfl (by decide) rfl ?_
    refine hb_aload_n (pc := 19) (i := 0) dX11_admitRow_19 rfl rfl ?_
    refine hb_getR (pc := 20) (g1 := hb_fR w 0 8 0) dX11_admitRow_20 fw_X11_79 cw_11 rfl (by decide) rfl (by decide) rfl ?_
    obtain ⟨ho5, hr5⟩ := ht4
    refine hb_getR (pc := 23) (g1 := hb_fR w 0 8 0) dX11_admitRow_23 fw_X11_349 cw_6 rfl ho5 rfl (by decide) rfl ?_
    refine hb_iload_n (pc := 26) (i := 1) dX11_admitRow_26 rfl rfl ?_
    obtain ⟨ho6, hr6⟩ := hr5
    obtain ⟨ho7, hr7⟩ := hr6
    refine hb_ialdx (pc := 27) (x := hb_aI w 11 2 (hb_fR w 0 8 0) x1.toNatClampNeg) dX11_admitRow_27 rfl ho6 ho7 rfl ?_
    refine hb_iload_n (pc := 28) (i := 2) dX11_admitRow_28 rfl rfl ?_
    refine hb_aload_n (pc := 29) (i := 0) dX11_admitRow_29 rfl rfl ?_
    refine hb_getR (pc := 30) (g1 := hb_fR w 0 8 0) dX11_admitRow_30 fw_X11_79 cw_11 rfl (by decide) rfl (by decide) rfl ?_
    obtain ⟨ho8, hr8⟩ := hr7
    refine hb_getR (pc := 33) (g1 := hb_fR w 0 8 0) dX11_admitRow_33 fw_X11_352 cw_6 rfl ho8 rfl (by decide) rfl ?_
    refine hb_iload_n (pc := 36) (i := 1) dX11_admitRow_36 rfl rfl ?_
    obtain ⟨ho9, hr9⟩ := hr8
    obtain ⟨ho10, hr10⟩ := hr9
    refine hb_ialdx (pc := 37) (x := hb_aI w 11 3 (hb_fR w 0 8 0) x1.toNatClampNeg) dX11_admitRow_37 rfl ho9 ho10 rfl ?_
    refine hb_imul (pc := 38) dX11_admitRow_38 ?_
    refine hb_iadd (pc := 39) dX11_admitRow_39 ?_
    refine hb_bipush (pc := 40) (v := 64) dX11_admitRow_40 (by decide) ?_
    refine hb_irem (pc := 42) dX11_admitRow_42 (by decide) ?_
    refine hb_putI (pc := 43) dX11_admitRow_43 fw_X11_355 cw_9 pw_9_0 rfl (by decide) rfl rfl rfl ?_
    refine hb_aload_n (pc := 46) (i := 0) dX11_admitRow_46 rfl rfl ?_
    refine hb_getR (pc := 47) (g1 := 0) dX11_admitRow_47 fw_X11_45 cw_11 rfl (by decide) rfl (by decide) rfl ?_
    refine hb_iload_n (pc := 50) (i := 2) dX11_admitRow_50 rfl rfl ?_
    refine hb_putI (pc := 51) dX11_admitRow_51 fw_X11_358 cw_9 pw_9_1 rfl (by decide) rfl rfl rfl ?_
    refine hb_aload_n (pc := 54) (i := 0) dX11_admitRow_54 rfl rfl ?_
    refine hb_getR (pc := 55) (g1 := 0) dX11_admitRow_55 fw_X11_45 cw_11 rfl (by decide) rfl (by decide) rfl ?_
    refine hb_aload_n (pc := 58) (i := 0) dX11_admitRow_58 rfl rfl ?_
    refine hb_getR (pc := 59) (g1 := hb_fR w 0 8 0) dX11_admitRow_59 fw_X11_79 cw_11 rfl (by decide) rfl (by decide) rfl ?_
    obtain ⟨ho11, hr11⟩ := hr10
    refine hb_getR (pc := 62) (g1 := hb_fR w 0 8 0 + 1) dX11_admitRow_62 fw_X11_361 cw_6 rfl ho11 rfl (by decide) rfl ?_
    refine hb_aload_n (pc := 65) (i := 0) dX11_admitRow_65 rfl rfl ?_
    refine hb_getR (pc := 66) (g1 := hb_fR w 0 8 0) dX11_admitRow_66 fw_X11_79 cw_11 rfl (by decide) rfl (by decide) rfl ?_
    obtain ⟨ho12, hr12⟩ := hr11
    refine hb_getR (pc := 69) (g1 := hb_fR w 0 8 0) dX11_admitRow_69 fw_X11_364 cw_6 rfl ho12 rfl (by decide) rfl ?_
    refine hb_iload_n (pc := 72) (i := 1) dX11_admitRow_72 rfl rfl ?_
    obtain ⟨ho13, hr13⟩ := hr12
    obtain ⟨ho14, hr14⟩ := hr13
    refine hb_ialdx (pc := 73) (x := hb_aI w 11 5 (hb_fR w 0 8 0) x1.toNatClampNeg) dX11_admitRow_73 rfl ho13 ho14 rfl ?_
    refine hb_aload_n (pc := 74) (i := 0) dX11_admitRow_74 rfl rfl ?_
    refine hb_getR (pc := 75) (g1 := hb_fR w 0 8 0) dX11_admitRow_75 fw_X11_79 cw_11 rfl (by decide) rfl (by decide) rfl ?_
    obtain ⟨ho15, hr15⟩ := hr14
    refine hb_getR (pc := 78) (g1 := hb_fR w 0 8 0) dX11_admitRow_78 fw_X11_367 cw_6 rfl ho15 rfl (by decide) rfl ?_
    refine hb_iload_n (pc := 81) (i := 1) dX11_admitRow_81 rfl rfl ?_
    obtain ⟨ho16, hr16⟩ := hr15
    obtain ⟨ho17, hr17⟩ := hr16
    refine hb_ialdx (pc := 82) (x := hb_aI w 11 6 (hb_fR w 0 8 0) x1.toNatClampNeg) dX11_admitRow_82 rfl ho16 ho17 rfl ?_
    exact hb_callV (pc := 83) (As := [hb_r 2 (hb_fR w 0 8 0 + 1) 0, hb_i (hb_aI w 11 5 (hb_fR w 0 8 0) x1.toNatClampNeg), hb_i (hb_aI w 11 6 (hb_fR w 0 8 0) x1.toNatClampNeg)]) (st := []) dX11_admitRow_83 ml_X11_370 mf_X9_reckon mi_X9_reckon (ci := 9) rfl rfl (by decide) rfl rfl (Nat.le_of_ble_eq_true rfl) (Nat.le_of_ble_eq_true rfl) hr17 (fun _ _ q => q)
set_option maxRecDepth 20000 in
theorem bk_X11_admitRow_86 {d : Nat} {w : hb_W} {Q : Option hb_V → hb_W → Prop} {x1 : Int32} {x2 : Int32} {xs0 : Int32} (h : (hb_fR w 0 8 0) < hb_ct 11 ∧ ((hb_fR w 0 8 0) < hb_ct 11 ∧ (vp_in x1 20 ∧ ((hb_fR w 0 8 0) < hb_ct 11 ∧ (hb_O yX8_admit cX8_admit 6 none d [hb_r 7 0 0, hb_i (hb_fI w 6 0 0), hb_i (if (0 : Int32) < (if xs0 < (99 : Int32) then xs0 else (99 : Int32)) then (if xs0 < (99 : Int32) then xs0 else (99 : Int32)) else (0 : Int32)), hb_i (hb_aI w 11 4 (hb_fR w 0 8 0) x1.toNatClampNeg), hb_i (hb_fI w 11 1 (hb_fR w 0 8 0))] w (fun rv w1 => hb_R yX11_admitRow cX11_admitRow 5 none (d + 1) 131 [some (hb_r 0 0 0), some (hb_i x1), some (hb_i x2), some (hb_i xs0), some (hb_i (if (0 : Int32) < (if xs0 < (99 : Int32) then xs0 else (99 : Int32)) then (if xs0 < (99 : Int32) then xs0 else (99 : Int32)) else (0 : Int32)))] (rv.toList ++ []) w1 Q)))))) : hb_R yX11_admitRow cX11_admitRow 5 none (d + 1) 86 [some (hb_r 0 0 0), some (hb_i x1), some (hb_i x2), none, none] [hb_i xs0] w Q := by
  refine hb_istore_n (pc := 86) (i := 3) (ls1 := [some (hb_r 0 0 0), some (hb_i x1), some (hb_i x2), some (hb_i xs0), none]) dX11_admitRow_86 rfl (by decide) rfl ?_
  refine hb_iconst (pc := 87) (v := 0) dX11_admitRow_87 (by decide) ?_
  refine hb_bipush (pc := 88) (v := 99) dX11_admitRow_88 (by decide) ?_
  refine hb_iload_n (pc := 90) (i := 3) dX11_admitRow_90 rfl rfl ?_
  refine hb_mmin (pc := 91) dX11_admitRow_91 ml_X11_374 (Nat.le_of_ble_eq_true rfl) ?_
  refine hb_mmax (pc := 94) dX11_admitRow_94 ml_X11_379 (Nat.le_of_ble_eq_true rfl) ?_
  refine hb_istore (pc := 97) (i := 4) (ls1 := [some (hb_r 0 0 0), some (hb_i x1), some (hb_i x2), some (hb_i xs0), some (hb_i (if (0 : Int32) < (if xs0 < (99 : Int32) then xs0 else (99 : Int32)) then (if xs0 < (99 : Int32) then xs0 else (99 : Int32)) else (0 : Int32)))]) dX11_admitRow_97 (by decide) rfl ?_
  refine hb_aload_n (pc := 99) (i := 0) dX11_admitRow_99 rfl rfl ?_
  refine hb_getR (pc := 100) (g1 := 0) dX11_admitRow_100 fw_X11_52 cw_11 rfl (by decide) rfl (by decide) rfl ?_
  refine hb_aload_n (pc := 103) (i := 0) dX11_admitRow_103 rfl rfl ?_
  refine hb_getR (pc := 104) (g1 := 0) dX11_admitRow_104 fw_X11_45 cw_11 rfl (by decide) rfl (by decide) rfl ?_
  refine hb_getIx (pc := 107) (x := hb_fI w 6 0 0) dX11_admitRow_107 fw_X11_355 cw_9 rfl (by decide) rfl rfl ?_
  refine hb_iload (pc := 110) dX11_admitRow_110 rfl ?_
  refine hb_aload_n (pc := 112) (i := 0) dX11_admitRow_112 rfl rfl ?_
  refine hb_getR (pc := 113) (g1 := hb_fR w 0 8 0) dX11_admitRow_113 fw_X11_79 cw_11 rfl (by decide) rfl (by decide) rfl ?_
  obtain ⟨ho1, hr1⟩ := h
  refine hb_getR (pc := 116) (g1 := hb_fR w 0 8 0) dX11_admitRow_116 fw_X11_382 cw_6 rfl ho1 rfl (by decide) rfl ?_
  refine hb_iload_n (pc := 119) (i := 1) dX11_admitRow_119 rfl rfl ?_
  obtain ⟨ho2, hr2⟩ := hr1
  obtain ⟨ho3, hr3⟩ := hr2
  refine hb_ialdx (pc := 120) (x := hb_aI w 11 4 (hb_fR w 0 8 0) x1.toNatClampNeg) dX11_admitRow_120 rfl ho2 ho3 rfl ?_
  refine hb_aload_n (pc := 121) (i := 0) dX11_admitRow_121 rfl rfl ?_
  refine hb_getR (pc := 122) (g1 := hb_fR w 0 8 0) dX11_admitRow_122 fw_X11_79 cw_11 rfl (by decide) rfl (by decide) rfl ?_
  obtain ⟨ho4, hr4⟩ := hr3
  refine hb_getIx (pc := 125) (x := hb_fI w 11 1 (hb_fR w 0 8 0)) dX11_admitRow_125 fw_X11_127 cw_6 rfl ho4 rfl rfl ?_
  exact hb_callV (pc := 128) (As := [hb_i (hb_fI w 6 0 0), hb_i (if (0 : Int32) < (if xs0 < (99 : Int32) then xs0 else (99 : Int32)) then (if xs0 < (99 : Int32) then xs0 else (99 : Int32)) else (0 : Int32)), hb_i (hb_aI w 11 4 (hb_fR w 0 8 0) x1.toNatClampNeg), hb_i (hb_fI w 11 1 (hb_fR w 0 8 0))]) (st := []) dX11_admitRow_128 ml_X11_287 mf_X8_admit mi_X8_admit (ci := 8) rfl rfl (by decide) rfl rfl (Nat.le_of_ble_eq_true rfl) (Nat.le_of_ble_eq_true rfl) hr4 (fun _ _ q => q)
set_option maxRecDepth 20000 in
theorem bk_X11_admitRow_131 {d : Nat} {w : hb_W} {Q : Option hb_V → hb_W → Prop} {x1 : Int32} {x2 : Int32} {x3 : Int32} {x4 : Int32} (h : hb_R yX11_admitRow cX11_admitRow 5 none (d + 1) 2 [some (hb_r 0 0 0), some (hb_i x1), some (hb_i (x2 + (1 : Int32))), some (hb_i x3), some (hb_i x4)] [] w Q) : hb_R yX11_admitRow cX11_admitRow 5 none (d + 1) 131 [some (hb_r 0 0 0), some (hb_i x1), some (hb_i x2), some (hb_i x3), some (hb_i x4)] [] w Q := by
  refine hb_iinc (pc := 131) (v := x2 + (1 : Int32)) (ls1 := [some (hb_r 0 0 0), some (hb_i x1), some (hb_i (x2 + (1 : Int32))), some (hb_i x3), some (hb_i x4)]) dX11_admitRow_131 rfl rfl (by decide) rfl ?_
  refine hb_goto (pc := 134) (tgt := 2) dX11_admitRow_134 (by decide) ?_
  exact h
theorem dX11_answer_0 : decode cX11_answer 0 = .ok (.iconst (-1), 1) := by decide +kernel
theorem dX11_answer_1 : decode cX11_answer 1 = .ok (.istore_n 2, 1) := by decide +kernel
theorem dX11_answer_2 : decode cX11_answer 2 = .ok (.iconst (-1), 1) := by decide +kernel
theorem dX11_answer_3 : decode cX11_answer 3 = .ok (.istore_n 3, 1) := by decide +kernel
theorem dX11_answer_4 : decode cX11_answer 4 = .ok (.iconst 0, 1) := by decide +kernel
theorem dX11_answer_5 : decode cX11_answer 5 = .ok (.istore 4, 2) := by decide +kernel
theorem dX11_answer_7 : decode cX11_answer 7 = .ok (.lconst 0, 1) := by decide +kernel
theorem dX11_answer_8 : decode cX11_answer 8 = .ok (.lstore 5, 2) := by decide +kernel
theorem dX11_answer_10 : decode cX11_answer 10 = .ok (.ldc_w 383, 3) := by decide +kernel
theorem dX11_answer_13 : decode cX11_answer 13 = .ok (.istore 7, 2) := by decide +kernel
theorem dX11_answer_15 : decode cX11_answer 15 = .ok (.ldc_w 384, 3) := by decide +kernel
theorem dX11_answer_18 : decode cX11_answer 18 = .ok (.istore 8, 2) := by decide +kernel
theorem dX11_answer_20 : decode cX11_answer 20 = .ok (.iconst 0, 1) := by decide +kernel
theorem dX11_answer_21 : decode cX11_answer 21 = .ok (.istore 9, 2) := by decide +kernel
theorem dX11_answer_23 : decode cX11_answer 23 = .ok (.iload 9, 2) := by decide +kernel
theorem dX11_answer_25 : decode cX11_answer 25 = .ok (.bipush 64, 2) := by decide +kernel
theorem dX11_answer_27 : decode cX11_answer 27 = .ok (.if_icmp .ge 111, 3) := by decide +kernel
theorem dX11_answer_30 : decode cX11_answer 30 = .ok (.aload_n 0, 1) := by decide +kernel
theorem dX11_answer_31 : decode cX11_answer 31 = .ok (.getfield 61, 3) := by decide +kernel
theorem dX11_answer_34 : decode cX11_answer 34 = .ok (.getfield 342, 3) := by decide +kernel
theorem dX11_answer_37 : decode cX11_answer 37 = .ok (.getfield 246, 3) := by decide +kernel
theorem dX11_answer_40 : decode cX11_answer 40 = .ok (.iload 9, 2) := by decide +kernel
theorem dX11_answer_42 : decode cX11_answer 42 = .ok (.iaload, 1) := by decide +kernel
theorem dX11_answer_43 : decode cX11_answer 43 = .ok (.ifCond .le 89, 3) := by decide +kernel
theorem dX11_answer_46 : decode cX11_answer 46 = .ok (.aload_n 0, 1) := by decide +kernel
theorem dX11_answer_47 : decode cX11_answer 47 = .ok (.getfield 61, 3) := by decide +kernel
theorem dX11_answer_50 : decode cX11_answer 50 = .ok (.iload 9, 2) := by decide +kernel
theorem dX11_answer_52 : decode cX11_answer 52 = .ok (.aload_n 0, 1) := by decide +kernel
theorem dX11_answer_53 : decode cX11_answer 53 = .ok (.getfield 52, 3) := by decide +kernel
theorem dX11_answer_56 : decode cX11_answer 56 = .ok (.getfield 140, 3) := by decide +kernel
theorem dX11_answer_59 : decode cX11_answer 59 = .ok (.invokevirtual 385, 3) := by decide +kernel
theorem dX11_answer_62 : decode cX11_answer 62 = .ok (.aload_n 0, 1) := by decide +kernel
theorem dX11_answer_63 : decode cX11_answer 63 = .ok (.getfield 45, 3) := by decide +kernel
theorem dX11_answer_66 : decode cX11_answer 66 = .ok (.aload_n 0, 1) := by decide +kernel
theorem dX11_answer_67 : decode cX11_answer 67 = .ok (.getfield 19, 3) := by decide +kernel
theorem dX11_answer_70 : decode cX11_answer 70 = .ok (.iconst 0, 1) := by decide +kernel
theorem dX11_answer_71 : decode cX11_answer 71 = .ok (.aload_n 0, 1) := by decide +kernel
theorem dX11_answer_72 : decode cX11_answer 72 = .ok (.getfield 19, 3) := by decide +kernel
theorem dX11_answer_75 : decode cX11_answer 75 = .ok (.getfield 389, 3) := by decide +kernel
theorem dX11_answer_78 : decode cX11_answer 78 = .ok (.invokevirtual 370, 3) := by decide +kernel
theorem dX11_answer_81 : decode cX11_answer 81 = .ok (.istore 10, 2) := by decide +kernel
theorem dX11_answer_83 : decode cX11_answer 83 = .ok (.iload 10, 2) := by decide +kernel
theorem dX11_answer_85 : decode cX11_answer 85 = .ok (.ifCond .eq 21, 3) := by decide +kernel
theorem dX11_answer_88 : decode cX11_answer 88 = .ok (.iload_n 2, 1) := by decide +kernel
theorem dX11_answer_89 : decode cX11_answer 89 = .ok (.iconst (-1), 1) := by decide +kernel
theorem dX11_answer_90 : decode cX11_answer 90 = .ok (.if_icmp .ne 8, 3) := by decide +kernel
theorem dX11_answer_93 : decode cX11_answer 93 = .ok (.iload 9, 2) := by decide +kernel
theorem dX11_answer_95 : decode cX11_answer 95 = .ok (.goto 4, 3) := by decide +kernel
theorem dX11_answer_98 : decode cX11_answer 98 = .ok (.iload_n 2, 1) := by decide +kernel
theorem dX11_answer_99 : decode cX11_answer 99 = .ok (.istore_n 2, 1) := by decide +kernel
theorem dX11_answer_100 : decode cX11_answer 100 = .ok (.iload 9, 2) := by decide +kernel
theorem dX11_answer_102 : decode cX11_answer 102 = .ok (.istore_n 3, 1) := by decide +kernel
theorem dX11_answer_103 : decode cX11_answer 103 = .ok (.iinc 4 1, 3) := by decide +kernel
theorem dX11_answer_106 : decode cX11_answer 106 = .ok (.lload 5, 2) := by decide +kernel
theorem dX11_answer_108 : decode cX11_answer 108 = .ok (.iload 10, 2) := by decide +kernel
theorem dX11_answer_110 : decode cX11_answer 110 = .ok (.i2l, 1) := by decide +kernel
theorem dX11_answer_111 : decode cX11_answer 111 = .ok (.ladd, 1) := by decide +kernel
theorem dX11_answer_112 : decode cX11_answer 112 = .ok (.lstore 5, 2) := by decide +kernel
theorem dX11_answer_114 : decode cX11_answer 114 = .ok (.iload 7, 2) := by decide +kernel
theorem dX11_answer_116 : decode cX11_answer 116 = .ok (.iload 10, 2) := by decide +kernel
theorem dX11_answer_118 : decode cX11_answer 118 = .ok (.invokestatic 379, 3) := by decide +kernel
theorem dX11_answer_121 : decode cX11_answer 121 = .ok (.istore 7, 2) := by decide +kernel
theorem dX11_answer_123 : decode cX11_answer 123 = .ok (.iload 8, 2) := by decide +kernel
theorem dX11_answer_125 : decode cX11_answer 125 = .ok (.iload 10, 2) := by decide +kernel
theorem dX11_answer_127 : decode cX11_answer 127 = .ok (.invokestatic 374, 3) := by decide +kernel
theorem dX11_answer_130 : decode cX11_answer 130 = .ok (.istore 8, 2) := by decide +kernel
theorem dX11_answer_132 : decode cX11_answer 132 = .ok (.iinc 9 1, 3) := by decide +kernel
theorem dX11_answer_135 : decode cX11_answer 135 = .ok (.goto (-112), 3) := by decide +kernel
theorem dX11_answer_138 : decode cX11_answer 138 = .ok (.iload_n 1, 1) := by decide +kernel
theorem dX11_answer_139 : decode cX11_answer 139 = .ok (.tableswitch 64 1 5 #[33, 36, 39, 43, 46], 33) := by decide +kernel
theorem dX11_answer_172 : decode cX11_answer 172 = .ok (.iload_n 2, 1) := by decide +kernel
theorem dX11_answer_173 : decode cX11_answer 173 = .ok (.i2l, 1) := by decide +kernel
theorem dX11_answer_174 : decode cX11_answer 174 = .ok (.lreturn, 1) := by decide +kernel
theorem dX11_answer_175 : decode cX11_answer 175 = .ok (.iload_n 3, 1) := by decide +kernel
theorem dX11_answer_176 : decode cX11_answer 176 = .ok (.i2l, 1) := by decide +kernel
theorem dX11_answer_177 : decode cX11_answer 177 = .ok (.lreturn, 1) := by decide +kernel
theorem dX11_answer_178 : decode cX11_answer 178 = .ok (.iload 4, 2) := by decide +kernel
theorem dX11_answer_180 : decode cX11_answer 180 = .ok (.i2l, 1) := by decide +kernel
theorem dX11_answer_181 : decode cX11_answer 181 = .ok (.lreturn, 1) := by decide +kernel
theorem dX11_answer_182 : decode cX11_answer 182 = .ok (.lload 5, 2) := by decide +kernel
theorem dX11_answer_184 : decode cX11_answer 184 = .ok (.lreturn, 1) := by decide +kernel
theorem dX11_answer_185 : decode cX11_answer 185 = .ok (.aload_n 0, 1) := by decide +kernel
theorem dX11_answer_186 : decode cX11_answer 186 = .ok (.getfield 52, 3) := by decide +kernel
theorem dX11_answer_189 : decode cX11_answer 189 = .ok (.getfield 141, 3) := by decide +kernel
theorem dX11_answer_192 : decode cX11_answer 192 = .ok (.ifCond .ne 7, 3) := by decide +kernel
theorem dX11_answer_195 : decode cX11_answer 195 = .ok (.lconst 0, 1) := by decide +kernel
theorem dX11_answer_196 : decode cX11_answer 196 = .ok (.goto 6, 3) := by decide +kernel
theorem dX11_answer_199 : decode cX11_answer 199 = .ok (.iload 7, 2) := by decide +kernel
theorem dX11_answer_201 : decode cX11_answer 201 = .ok (.i2l, 1) := by decide +kernel
theorem dX11_answer_202 : decode cX11_answer 202 = .ok (.lreturn, 1) := by decide +kernel
theorem dX11_answer_203 : decode cX11_answer 203 = .ok (.aload_n 0, 1) := by decide +kernel
theorem dX11_answer_204 : decode cX11_answer 204 = .ok (.getfield 52, 3) := by decide +kernel
theorem dX11_answer_207 : decode cX11_answer 207 = .ok (.getfield 141, 3) := by decide +kernel
theorem dX11_answer_210 : decode cX11_answer 210 = .ok (.ifCond .ne 7, 3) := by decide +kernel
theorem dX11_answer_213 : decode cX11_answer 213 = .ok (.lconst 0, 1) := by decide +kernel
theorem dX11_answer_214 : decode cX11_answer 214 = .ok (.goto 6, 3) := by decide +kernel
theorem dX11_answer_217 : decode cX11_answer 217 = .ok (.iload 8, 2) := by decide +kernel
theorem dX11_answer_219 : decode cX11_answer 219 = .ok (.i2l, 1) := by decide +kernel
theorem dX11_answer_220 : decode cX11_answer 220 = .ok (.lreturn, 1) := by decide +kernel
set_option maxRecDepth 20000 in
theorem bk_X11_answer_0 {d : Nat} {w : hb_W} {Q : Option hb_V → hb_W → Prop} {x1 : Int32} (h : hb_R yX11_answer cX11_answer 11 (some .long) (d + 1) 23 [some (hb_r 0 0 0), some (hb_i x1), some (hb_i (-1 : Int32)), some (hb_i (-1 : Int32)), some (hb_i (0 : Int32)), some (hb_l (0 : Int64)), none, some (hb_i (-1000000 : Int32)), some (hb_i (1000000 : Int32)), some (hb_i (0 : Int32)), none] [] w Q) : hb_R yX11_answer cX11_answer 11 (some .long) (d + 1) 0 [some (hb_r 0 0 0), some (hb_i x1), none, none, none, none, none, none, none, none, none] [] w Q := by
  refine hb_iconst (pc := 0) (v := -1) dX11_answer_0 (by decide) ?_
  refine hb_istore_n (pc := 1) (i := 2) (ls1 := [some (hb_r 0 0 0), some (hb_i x1), some (hb_i (-1 : Int32)), none, none, none, none, none, none, none, none]) dX11_answer_1 rfl (by decide) rfl ?_
  refine hb_iconst (pc := 2) (v := -1) dX11_answer_2 (by decide) ?_
  refine hb_istore_n (pc := 3) (i := 3) (ls1 := [some (hb_r 0 0 0), some (hb_i x1), some (hb_i (-1 : Int32)), some (hb_i (-1 : Int32)), none, none, none, none, none, none, none]) dX11_answer_3 rfl (by decide) rfl ?_
  refine hb_iconst (pc := 4) (v := 0) dX11_answer_4 (by decide) ?_
  refine hb_istore (pc := 5) (i := 4) (ls1 := [some (hb_r 0 0 0), some (hb_i x1), some (hb_i (-1 : Int32)), some (hb_i (-1 : Int32)), some (hb_i (0 : Int32)), none, none, none, none, none, none]) dX11_answer_5 (by decide) rfl ?_
  refine hb_lconst (pc := 7) (v := 0) dX11_answer_7 (by decide) ?_
  refine hb_lstore (pc := 8) (i := 5) (ls1 := [some (hb_r 0 0 0), some (hb_i x1), some (hb_i (-1 : Int32)), some (hb_i (-1 : Int32)), some (hb_i (0 : Int32)), some (hb_l (0 : Int64)), none, none, none, none, none]) dX11_answer_8 (by decide) rfl ?_
  refine hb_ldcw (pc := 10) (v := -1000000) dX11_answer_10 kc_X11_383 ?_
  refine hb_istore (pc := 13) (i := 7) (ls1 := [some (hb_r 0 0 0), some (hb_i x1), some (hb_i (-1 : Int32)), some (hb_i (-1 : Int32)), some (hb_i (0 : Int32)), some (hb_l (0 : Int64)), none, some (hb_i (-1000000 : Int32)), none, none, none]) dX11_answer_13 (by decide) rfl ?_
  refine hb_ldcw (pc := 15) (v := 1000000) dX11_answer_15 kc_X11_384 ?_
  refine hb_istore (pc := 18) (i := 8) (ls1 := [some (hb_r 0 0 0), some (hb_i x1), some (hb_i (-1 : Int32)), some (hb_i (-1 : Int32)), some (hb_i (0 : Int32)), some (hb_l (0 : Int64)), none, some (hb_i (-1000000 : Int32)), some (hb_i (1000000 : Int32)), none, none]) dX11_answer_18 (by decide) rfl ?_
  refine hb_iconst (pc := 20) (v := 0) dX11_answer_20 (by decide) ?_
  refine hb_istore (pc := 21) (i := 9) (ls1 := [some (hb_r 0 0 0), some (hb_i x1), some (hb_i (-1 : Int32)), some (hb_i (-1 : Int32)), some (hb_i (0 : Int32)), some (hb_l (0 : Int64)), none, some (hb_i (-1000000 : Int32)), some (hb_i (1000000 : Int32)), some (hb_i (0 : Int32)), none]) dX11_answer_21 (by decide) rfl ?_
  exact h
set_option maxRecDepth 20000 in
theorem bk_X11_answer_23 {d : Nat} {w : hb_W} {Q : Option hb_V → hb_W → Prop} {x1 : Int32} {x2 : Int32} {x3 : Int32} {x4 : Int32} {l5 : Int64} {x7 : Int32} {x8 : Int32} {x9 : Int32} (h : (((64 : Int32) ≤ x9) → (x1 = (1 : Int32) → Q (some (hb_l x2.toInt64)) w) ∧ (x1 = (2 : Int32) → Q (some (hb_l x3.toInt64)) w) ∧ (x1 = (3 : Int32) → Q (some (hb_l x4.toInt64)) w) ∧ (x1 = (4 : Int32) → Q (some (hb_l l5)) w) ∧ (x1 = (5 : Int32) → ((¬ (hb_fI w 7 3 0) = 0) → Q (some (hb_l x7.toInt64)) w) ∧ (((hb_fI w 7 3 0) = 0) → Q (some (hb_l (0 : Int64))) w)) ∧ (¬ x1 = (1 : Int32) → ¬ x1 = (2 : Int32) → ¬ x1 = (3 : Int32) → ¬ x1 = (4 : Int32) → ¬ x1 = (5 : Int32) → ((¬ (hb_fI w 7 3 0) = 0) → Q (some (hb_l x8.toInt64)) w) ∧ (((hb_fI w 7 3 0) = 0) → Q (some (hb_l (0 : Int64))) w))) ∧ ((¬ (64 : Int32) ≤ x9) → vp_in x9 64 ∧ ((((hb_aI w 9 1 2 x9.toNatClampNeg) ≤ 0) → hb_R yX11_answer cX11_answer 11 (some .long) (d + 1) 23 [some (hb_r 0 0 0), some (hb_i x1), some (hb_i x2), some (hb_i x3), some (hb_i x4), some (hb_l l5), none, some (hb_i x7), some (hb_i x8), some (hb_i (x9 + (1 : Int32))), none] [] w Q) ∧ ((¬ (hb_aI w 9 1 2 x9.toNatClampNeg) ≤ 0) → hb_O yX4_setScene cX4_setScene 3 none d [hb_r 8 0 0, hb_i x9, hb_i (hb_fI w 7 4 0)] w (fun rv w1 => hb_R yX11_answer cX11_answer 11 (some .long) (d + 1) 62 [some (hb_r 0 0 0), some (hb_i x1), some (hb_i x2), some (hb_i x3), some (hb_i x4), some (hb_l l5), none, some (hb_i x7), some (hb_i x8), some (hb_i x9), none] (rv.toList ++ []) w1 Q))))) : hb_R yX11_answer cX11_answer 11 (some .long) (d + 1) 23 [some (hb_r 0 0 0), some (hb_i x1), some (hb_i x2), some (hb_i x3), some (hb_i x4), some (hb_l l5), none, some (hb_i x7), some (hb_i x8), some (hb_i x9), none] [] w Q := by
  refine hb_iload (pc := 23) dX11_answer_23 rfl ?_
  refine hb_bipush (pc := 25) (v := 64) dX11_answer_25 (by decide) ?_
  refine hb_icmp_ge (pc := 27) (tgt := 138) dX11_answer_27 (by decide) (fun c1 => ?_) (fun c1 => ?_)
  · have ht1 := h.1 c1
    refine hb_iload_n (pc := 138) (i := 1) dX11_answer_138 rfl rfl ?_
    by_cases e2_0 : x1 = (1 : Int32)
    · have hk2_0 := ht1.1 e2_0
      have ei : x1.toInt = 1 := by rw [e2_0]; rfl
      refine hb_tabIn (pc := 139) (tgt := 172) (off := 33) dX11_answer_139 (by rw [ei]; decide) (by rw [ei]; decide) (by rw [ei]; rfl) (by decide) ?_
      refine hb_iload_n (pc := 172) (i := 2) dX11_answer_172 rfl rfl ?_
      refine hb_i2l (pc := 173) dX11_answer_173 ?_
      exact hb_lret (pc := 174) dX11_answer_174 rfl hk2_0
    by_cases e2_1 : x1 = (2 : Int32)
    · have hk2_1 := ht1.2.1 e2_1
      have ei : x1.toInt = 2 := by rw [e2_1]; rfl
      refine hb_tabIn (pc := 139) (tgt := 175) (off := 36) dX11_answer_139 (by rw [ei]; decide) (by rw [ei]; decide) (by rw [ei]; rfl) (by decide) ?_
      refine hb_iload_n (pc := 175) (i := 3) dX11_answer_175 rfl rfl ?_
      refine hb_i2l (pc := 176) dX11_answer_176 ?_
      exact hb_lret (pc := 177) dX11_answer_177 rfl hk2_1
    by_cases e2_2 : x1 = (3 : Int32)
    · have hk2_2 := ht1.2.2.1 e2_2
      have ei : x1.toInt = 3 := by rw [e2_2]; rfl
      refine hb_tabIn (pc := 139) (tgt := 178) (off := 39) dX11_answer_139 (by rw [ei]; decide) (by rw [ei]; decide) (by rw [ei]; rfl) (by decide) ?_
      refine hb_iload (pc := 178) dX11_answer_178 rfl ?_
      refine hb_i2l (pc := 180) dX11_answer_180 ?_
      exact hb_lret (pc := 181) dX11_answer_181 rfl hk2_2
    by_cases e2_3 : x1 = (4 : Int32)
    · have hk2_3 := ht1.2.2.2.1 e2_3
      have ei : x1.toInt = 4 := by rw [e2_3]; rfl
      refine hb_tabIn (pc := 139) (tgt := 182) (off := 43) dX11_answer_139 (by rw [ei]; decide) (by rw [ei]; decide) (by rw [ei]; rfl) (by decide) ?_
      refine hb_lload (pc := 182) dX11_answer_182 rfl ?_
      exact hb_lret (pc := 184) dX11_answer_184 rfl hk2_3
    by_cases e2_4 : x1 = (5 : Int32)
    · have hk2_4 := ht1.2.2.2.2.1 e2_4
      have ei : x1.toInt = 5 := by rw [e2_4]; rfl
      refine hb_tabIn (pc := 139) (tgt := 185) (off := 46) dX11_answer_139 (by rw [ei]; decide) (by rw [ei]; decide) (by rw [ei]; rfl) (by decide) ?_
      refine hb_aload_n (pc := 185) (i := 0) dX11_answer_185 rfl rfl ?_
      refine hb_getR (pc := 186) (g1 := 0) dX11_answer_186 fw_X11_52 cw_11 rfl (by decide) rfl (by decide) rfl ?_
      refine hb_getIx (pc := 189) (x := hb_fI w 7 3 0) dX11_answer_189 fw_X11_141 cw_8 rfl (by decide) rfl rfl ?_
      refine hb_if_ne (pc := 192) (tgt := 199) dX11_answer_192 (by decide) (fun c3 => ?_) (fun c3 => ?_)
      · have ht3 := hk2_4.1 c3
        refine hb_iload (pc := 199) dX11_answer_199 rfl ?_
        refine hb_i2l (pc := 201) dX11_answer_201 ?_
        exact hb_lret (pc := 202) dX11_answer_202 rfl ht3
      · have ht3 := hk2_4.2 c3
        refine hb_lconst (pc := 195) (v := 0) dX11_answer_195 (by decide) ?_
        refine hb_goto (pc := 196) (tgt := 202) dX11_answer_196 (by decide) ?_
        exact hb_lret (pc := 202) dX11_answer_202 rfl ht3
    have hk2_d := ht1.2.2.2.2.2 e2_0 e2_1 e2_2 e2_3 e2_4
    have n2_0 := lv_neT (a := 1) e2_0 rfl
    have n2_1 := lv_neT (a := 2) e2_1 rfl
    have n2_2 := lv_neT (a := 3) e2_2 rfl
    have n2_3 := lv_neT (a := 4) e2_3 rfl
    have n2_4 := lv_neT (a := 5) e2_4 rfl
    refine hb_tabOut (pc := 139) (tgt := 203) dX11_answer_139 (by omega) (by decide) ?_
    refine hb_aload_n (pc := 203) (i := 0) dX11_answer_203 rfl rfl ?_
    refine hb_getR (pc := 204) (g1 := 0) dX11_answer_204 fw_X11_52 cw_11 rfl (by decide) rfl (by decide) rfl ?_
    refine hb_getIx (pc := 207) (x := hb_fI w 7 3 0) dX11_answer_207 fw_X11_141 cw_8 rfl (by decide) rfl rfl ?_
    refine hb_if_ne (pc := 210) (tgt := 217) dX11_answer_210 (by decide) (fun c4 => ?_) (fun c4 => ?_)
    · have ht4 := hk2_d.1 c4
      refine hb_iload (pc := 217) dX11_answer_217 rfl ?_
      refine hb_i2l (pc := 219) dX11_answer_219 ?_
      exact hb_lret (pc := 220) dX11_answer_220 rfl ht4
    · have ht4 := hk2_d.2 c4
      refine hb_lconst (pc := 213) (v := 0) dX11_answer_213 (by decide) ?_
      refine hb_goto (pc := 214) (tgt := 220) dX11_answer_214 (by decide) ?_
      exact hb_lret (pc := 220) dX11_answer_220 rfl ht4
  · have ht1 := h.2 c1
    refine hb_aload_n (pc := 30) (i := 0) dX11_answer_30 rfl rfl ?_
    refine hb_getR (pc := 31) (g1 := 0) dX11_answer_31 fw_X11_61 cw_11 rfl (by decide) rfl (by decide) rfl ?_
    refine hb_getR (pc := 34) (g1 := 2) dX11_answer_34 fw_X11_342 cw_4 rfl (by decide) rfl (by decide) rfl ?_
    refine hb_getR (pc := 37) (g1 := 2) dX11_answer_37 fw_X11_246 cw_0 rfl (by decide) rfl (by decide) rfl ?_
    refine hb_iload (pc := 40) dX11_answer_40 rfl ?_
    obtain ⟨ho5, hr5⟩ := ht1
    refine hb_ialdx (pc := 42) (x := hb_aI w 9 1 2 x9.toNatClampNeg) dX11_answer_42 rfl (by decide) ho5 rfl ?_
    refine hb_if_le (pc := 43) (tgt := 132) dX11_answer_43 (by decide) (fun c6 => ?_) (fun c6 => ?_)
    · have ht6 := hr5.1 c6
      refine hb_iinc (pc := 132) (v := x9 + (1 : Int32)) (ls1 := [some (hb_r 0 0 0), some (hb_i x1), some (hb_i x2), some (hb_i x3), some (hb_i x4), some (hb_l l5), none, some (hb_i x7), some (hb_i x8), some (hb_i (x9 + (1 : Int32))), none]) dX11_answer_132 rfl rfl (by decide) rfl ?_
      refine hb_goto (pc := 135) (tgt := 23) dX11_answer_135 (by decide) ?_
      exact ht6
    · have ht6 := hr5.2 c6
      refine hb_aload_n (pc := 46) (i := 0) dX11_answer_46 rfl rfl ?_
      refine hb_getR (pc := 47) (g1 := 0) dX11_answer_47 fw_X11_61 cw_11 rfl (by decide) rfl (by decide) rfl ?_
      refine hb_iload (pc := 50) dX11_answer_50 rfl ?_
      refine hb_aload_n (pc := 52) (i := 0) dX11_answer_52 rfl rfl ?_
      refine hb_getR (pc := 53) (g1 := 0) dX11_answer_53 fw_X11_52 cw_11 rfl (by decide) rfl (by decide) rfl ?_
      refine hb_getIx (pc := 56) (x := hb_fI w 7 4 0) dX11_answer_56 fw_X11_140 cw_8 rfl (by decide) rfl rfl ?_
      exact hb_callV (pc := 59) (As := [hb_i x9, hb_i (hb_fI w 7 4 0)]) (st := []) dX11_answer_59 ml_X11_385 mf_X4_setScene mi_X4_setScene (ci := 4) rfl rfl (by decide) rfl rfl (Nat.le_of_ble_eq_true rfl) (Nat.le_of_ble_eq_true rfl) ht6 (fun _ _ q => q)
set_option maxRecDepth 20000 in
theorem bk_X11_answer_62 {d : Nat} {w : hb_W} {Q : Option hb_V → hb_W → Prop} {x1 : Int32} {x2 : Int32} {x3 : Int32} {x4 : Int32} {l5 : Int64} {x7 : Int32} {x8 : Int32} {x9 : Int32} (h : hb_O yX9_reckon cX9_reckon 8 (some .int) d [hb_r 6 0 0, hb_r 2 0 0, hb_i (0 : Int32), hb_i (hb_fI w 2 1 0)] w (fun rv w1 => hb_R yX11_answer cX11_answer 11 (some .long) (d + 1) 81 [some (hb_r 0 0 0), some (hb_i x1), some (hb_i x2), some (hb_i x3), some (hb_i x4), some (hb_l l5), none, some (hb_i x7), some (hb_i x8), some (hb_i x9), none] (rv.toList ++ []) w1 Q)) : hb_R yX11_answer cX11_answer 11 (some .long) (d + 1) 62 [some (hb_r 0 0 0), some (hb_i x1), some (hb_i x2), some (hb_i x3), some (hb_i x4), some (hb_l l5), none, some (hb_i x7), some (hb_i x8), some (hb_i x9), none] [] w Q := by
  refine hb_aload_n (pc := 62) (i := 0) dX11_answer_62 rfl rfl ?_
  refine hb_getR (pc := 63) (g1 := 0) dX11_answer_63 fw_X11_45 cw_11 rfl (by decide) rfl (by decide) rfl ?_
  refine hb_aload_n (pc := 66) (i := 0) dX11_answer_66 rfl rfl ?_
  refine hb_getR (pc := 67) (g1 := 0) dX11_answer_67 fw_X11_19 cw_11 rfl (by decide) rfl (by decide) rfl ?_
  refine hb_iconst (pc := 70) (v := 0) dX11_answer_70 (by decide) ?_
  refine hb_aload_n (pc := 71) (i := 0) dX11_answer_71 rfl rfl ?_
  refine hb_getR (pc := 72) (g1 := 0) dX11_answer_72 fw_X11_19 cw_11 rfl (by decide) rfl (by decide) rfl ?_
  refine hb_getIx (pc := 75) (x := hb_fI w 2 1 0) dX11_answer_75 fw_X11_389 cw_1 rfl (by decide) rfl rfl ?_
  exact hb_callV (pc := 78) (As := [hb_r 2 0 0, hb_i (0 : Int32), hb_i (hb_fI w 2 1 0)]) (st := []) dX11_answer_78 ml_X11_370 mf_X9_reckon mi_X9_reckon (ci := 9) rfl rfl (by decide) rfl rfl (Nat.le_of_ble_eq_true rfl) (Nat.le_of_ble_eq_true rfl) h (fun _ _ q => q)
set_option maxRecDepth 20000 in
theorem bk_X11_answer_81 {d : Nat} {w : hb_W} {Q : Option hb_V → hb_W → Prop} {x1 : Int32} {x2 : Int32} {x3 : Int32} {x4 : Int32} {l5 : Int64} {x7 : Int32} {x8 : Int32} {x9 : Int32} {xs0 : Int32} (h : ((xs0 = 0) → hb_R yX11_answer cX11_answer 11 (some .long) (d + 1) 23 [some (hb_r 0 0 0), some (hb_i x1), some (hb_i x2), some (hb_i x3), some (hb_i x4), some (hb_l (l5 + xs0.toInt64)), none, some (hb_i (if x7 < xs0 then xs0 else x7)), some (hb_i (if xs0 < x8 then xs0 else x8)), some (hb_i (x9 + (1 : Int32))), some (hb_i xs0)] [] w Q) ∧ ((¬ xs0 = 0) → ((¬ x2 = (-1 : Int32)) → hb_R yX11_answer cX11_answer 11 (some .long) (d + 1) 23 [some (hb_r 0 0 0), some (hb_i x1), some (hb_i x2), some (hb_i x9), some (hb_i (x4 + (1 : Int32))), some (hb_l (l5 + xs0.toInt64)), none, some (hb_i (if x7 < xs0 then xs0 else x7)), some (hb_i (if xs0 < x8 then xs0 else x8)), some (hb_i (x9 + (1 : Int32))), some (hb_i xs0)] [] w Q) ∧ ((x2 = (-1 : Int32)) → hb_R yX11_answer cX11_answer 11 (some .long) (d + 1) 23 [some (hb_r 0 0 0), some (hb_i x1), some (hb_i x9), some (hb_i x9), some (hb_i (x4 + (1 : Int32))), some (hb_l (l5 + xs0.toInt64)), none, some (hb_i (if x7 < xs0 then xs0 else x7)), some (hb_i (if xs0 < x8 then xs0 else x8)), some (hb_i (x9 + (1 : Int32))), some (hb_i xs0)] [] w Q))) : hb_R yX11_answer cX11_answer 11 (some .long) (d + 1) 81 [some (hb_r 0 0 0), some (hb_i x1), some (hb_i x2), some (hb_i x3), some (hb_i x4), some (hb_l l5), none, some (hb_i x7), some (hb_i x8), some (hb_i x9), none] [hb_i xs0] w Q := by
  refine hb_istore (pc := 81) (i := 10) (ls1 := [some (hb_r 0 0 0), some (hb_i x1), some (hb_i x2), some (hb_i x3), some (hb_i x4), some (hb_l l5), none, some (hb_i x7), some (hb_i x8), some (hb_i x9), some (hb_i xs0)]) dX11_answer_81 (by decide) rfl ?_
  refine hb_iload (pc := 83) dX11_answer_83 rfl ?_
  refine hb_if_eq (pc := 85) (tgt := 106) dX11_answer_85 (by decide) (fun c1 => ?_) (fun c1 => ?_)
  · have ht1 := h.1 c1
    refine hb_lload (pc := 106) dX11_answer_106 rfl ?_
    refine hb_iload (pc := 108) dX11_answer_108 rfl ?_
    refine hb_i2l (pc := 110) dX11_answer_110 ?_
    refine hb_ladd (pc := 111) dX11_answer_111 ?_
    refine hb_lstore (pc := 112) (i := 5) (ls1 := [some (hb_r 0 0 0), some (hb_i x1), some (hb_i x2), some (hb_i x3), some (hb_i x4), some (hb_l (l5 + xs0.toInt64)), none, some (hb_i x7), some (hb_i x8), some (hb_i x9), some (hb_i xs0)]) dX11_answer_112 (by decide) rfl ?_
    refine hb_iload (pc := 114) dX11_answer_114 rfl ?_
    refine hb_iload (pc := 116) dX11_answer_116 rfl ?_
    refine hb_mmax (pc := 118) dX11_answer_118 ml_X11_379 (Nat.le_of_ble_eq_true rfl) ?_
    refine hb_istore (pc := 121) (i := 7) (ls1 := [some (hb_r 0 0 0), some (hb_i x1), some (hb_i x2), some (hb_i x3), some (hb_i x4), some (hb_l (l5 + xs0.toInt64)), none, some (hb_i (if x7 < xs0 then xs0 else x7)), some (hb_i x8), some (hb_i x9), some (hb_i xs0)]) dX11_answer_121 (by decide) rfl ?_
    refine hb_iload (pc := 123) dX11_answer_123 rfl ?_
    refine hb_iload (pc := 125) dX11_answer_125 rfl ?_
    refine hb_mmin (pc := 127) dX11_answer_127 ml_X11_374 (Nat.le_of_ble_eq_true rfl) ?_
    refine hb_istore (pc := 130) (i := 8) (ls1 := [some (hb_r 0 0 0), some (hb_i x1), some (hb_i x2), some (hb_i x3), some (hb_i x4), some (hb_l (l5 + xs0.toInt64)), none, some (hb_i (if x7 < xs0 then xs0 else x7)), some (hb_i (if xs0 < x8 then xs0 else x8)), some (hb_i x9), some (hb_i xs0)]) dX11_answer_130 (by decide) rfl ?_
    refine hb_iinc (pc := 132) (v := x9 + (1 : Int32)) (ls1 := [some (hb_r 0 0 0), some (hb_i x1), some (hb_i x2), some (hb_i x3), some (hb_i x4), some (hb_l (l5 + xs0.toInt64)), none, some (hb_i (if x7 < xs0 then xs0 else x7)), some (hb_i (if xs0 < x8 then xs0 else x8)), some (hb_i (x9 + (1 : Int32))), some (hb_i xs0)]) dX11_answer_132 rfl rfl (by decide) rfl ?_
    refine hb_goto (pc := 135) (tgt := 23) dX11_answer_135 (by decide) ?_
    exact ht1
  · have ht1 := h.2 c1
    refine hb_iload_n (pc := 88) (i := 2) dX11_answer_88 rfl rfl ?_
    refine hb_iconst (pc := 89) (v := -1) dX11_answer_89 (by decide) ?_
    refine hb_icmp_ne (pc := 90) (tgt := 98) dX11_answer_90 (by decide) (fun c2 => ?_) (fun c2 => ?_)
    · have ht2 := ht1.1 c2
      refine hb_iload_n (pc := 98) (i := 2) dX11_answer_98 rfl rfl ?_
      refine hb_istore_n (pc := 99) (i := 2) (ls1 := [some (hb_r 0 0 0), some (hb_i x1), some (hb_i x2), some (hb_i x3), some (hb_i x4), some (hb_l l5), none, some (hb_i x7), some (hb_i x8), some (hb_i x9), some (hb_i xs0)]) dX11_answer_99 rfl (by decide) rfl ?_
      refine hb_iload (pc := 100) dX11_answer_100 rfl ?_
      refine hb_istore_n (pc := 102) (i := 3) (ls1 := [some (hb_r 0 0 0), some (hb_i x1), some (hb_i x2), some (hb_i x9), some (hb_i x4), some (hb_l l5), none, some (hb_i x7), some (hb_i x8), some (hb_i x9), some (hb_i xs0)]) dX11_answer_102 rfl (by decide) rfl ?_
      refine hb_iinc (pc := 103) (v := x4 + (1 : Int32)) (ls1 := [some (hb_r 0 0 0), some (hb_i x1), some (hb_i x2), some (hb_i x9), some (hb_i (x4 + (1 : Int32))), some (hb_l l5), none, some (hb_i x7), some (hb_i x8), some (hb_i x9), some (hb_i xs0)]) dX11_answer_103 rfl rfl (by decide) rfl ?_
      refine hb_lload (pc := 106) dX11_answer_106 rfl ?_
      refine hb_iload (pc := 108) dX11_answer_108 rfl ?_
      refine hb_i2l (pc := 110) dX11_answer_110 ?_
      refine hb_ladd (pc := 111) dX11_answer_111 ?_
      refine hb_lstore (pc := 112) (i := 5) (ls1 := [some (hb_r 0 0 0), some (hb_i x1), some (hb_i x2), some (hb_i x9), some (hb_i (x4 + (1 : Int32))), some (hb_l (l5 + xs0.toInt64)), none, some (hb_i x7), some (hb_i x8), some (hb_i x9), some (hb_i xs0)]) dX11_answer_112 (by decide) rfl ?_
      refine hb_iload (pc := 114) dX11_answer_114 rfl ?_
      refine hb_iload (pc := 116) dX11_answer_116 rfl ?_
      refine hb_mmax (pc := 118) dX11_answer_118 ml_X11_379 (Nat.le_of_ble_eq_true rfl) ?_
      refine hb_istore (pc := 121) (i := 7) (ls1 := [some (hb_r 0 0 0), some (hb_i x1), some (hb_i x2), some (hb_i x9), some (hb_i (x4 + (1 : Int32))), some (hb_l (l5 + xs0.toInt64)), none, some (hb_i (if x7 < xs0 then xs0 else x7)), some (hb_i x8), some (hb_i x9), some (hb_i xs0)]) dX11_answer_121 (by decide) rfl ?_
      refine hb_iload (pc := 123) dX11_answer_123 rfl ?_
      refine hb_iload (pc := 125) dX11_answer_125 rfl ?_
      refine hb_mmin (pc := 127) dX11_answer_127 ml_X11_374 (Nat.le_of_ble_eq_true rfl) ?_
      refine hb_istore (pc := 130) (i := 8) (ls1 := [some (hb_r 0 0 0), some (hb_i x1), some (hb_i x2), some (hb_i x9), some (hb_i (x4 + (1 : Int32))), some (hb_l (l5 + xs0.toInt64)), none, some (hb_i (if x7 < xs0 then xs0 else x7)), some (hb_i (if xs0 < x8 then xs0 else x8)), some (hb_i x9), some (hb_i xs0)]) dX11_answer_130 (by decide) rfl ?_
      refine hb_iinc (pc := 132) (v := x9 + (1 : Int32)) (ls1 := [some (hb_r 0 0 0), some (hb_i x1), some (hb_i x2), some (hb_i x9), some (hb_i (x4 + (1 : Int32))), some (hb_l (l5 + xs0.toInt64)), none, some (hb_i (if x7 < xs0 then xs0 else x7)), some (hb_i (if xs0 < x8 then xs0 else x8)), some (hb_i (x9 + (1 : Int32))), some (hb_i xs0)]) dX11_answer_132 rfl rfl (by decide) rfl ?_
      refine hb_goto (pc := 135) (tgt := 23) dX11_answer_135 (by decide) ?_
      exact ht2
    · have ht2 := ht1.2 c2
      refine hb_iload (pc := 93) dX11_answer_93 rfl ?_
      refine hb_goto (pc := 95) (tgt := 99) dX11_answer_95 (by decide) ?_
      refine hb_istore_n (pc := 99) (i := 2) (ls1 := [some (hb_r 0 0 0), some (hb_i x1), some (hb_i x9), some (hb_i x3), some (hb_i x4), some (hb_l l5), none, some (hb_i x7), some (hb_i x8), some (hb_i x9), some (hb_i xs0)]) dX11_answer_99 rfl (by decide) rfl ?_
      refine hb_iload (pc := 100) dX11_answer_100 rfl ?_
      refine hb_istore_n (pc := 102) (i := 3) (ls1 := [some (hb_r 0 0 0), some (hb_i x1), some (hb_i x9), some (hb_i x9), some (hb_i x4), some (hb_l l5), none, some (hb_i x7), some (hb_i x8), some (hb_i x9), some (hb_i xs0)]) dX11_answer_102 rfl (by decide) rfl ?_
      refine hb_iinc (pc := 103) (v := x4 + (1 : Int32)) (ls1 := [some (hb_r 0 0 0), some (hb_i x1), some (hb_i x9), some (hb_i x9), some (hb_i (x4 + (1 : Int32))), some (hb_l l5), none, some (hb_i x7), some (hb_i x8), some (hb_i x9), some (hb_i xs0)]) dX11_answer_103 rfl rfl (by decide) rfl ?_
      refine hb_lload (pc := 106) dX11_answer_106 rfl ?_
      refine hb_iload (pc := 108) dX11_answer_108 rfl ?_
      refine hb_i2l (pc := 110) dX11_answer_110 ?_
      refine hb_ladd (pc := 111) dX11_answer_111 ?_
      refine hb_lstore (pc := 112) (i := 5) (ls1 := [some (hb_r 0 0 0), some (hb_i x1), some (hb_i x9), some (hb_i x9), some (hb_i (x4 + (1 : Int32))), some (hb_l (l5 + xs0.toInt64)), none, some (hb_i x7), some (hb_i x8), some (hb_i x9), some (hb_i xs0)]) dX11_answer_112 (by decide) rfl ?_
      refine hb_iload (pc := 114) dX11_answer_114 rfl ?_
      refine hb_iload (pc := 116) dX11_answer_116 rfl ?_
      refine hb_mmax (pc := 118) dX11_answer_118 ml_X11_379 (Nat.le_of_ble_eq_true rfl) ?_
      refine hb_istore (pc := 121) (i := 7) (ls1 := [some (hb_r 0 0 0), some (hb_i x1), some (hb_i x9), some (hb_i x9), some (hb_i (x4 + (1 : Int32))), some (hb_l (l5 + xs0.toInt64)), none, some (hb_i (if x7 < xs0 then xs0 else x7)), some (hb_i x8), some (hb_i x9), some (hb_i xs0)]) dX11_answer_121 (by decide) rfl ?_
      refine hb_iload (pc := 123) dX11_answer_123 rfl ?_
      refine hb_iload (pc := 125) dX11_answer_125 rfl ?_
      refine hb_mmin (pc := 127) dX11_answer_127 ml_X11_374 (Nat.le_of_ble_eq_true rfl) ?_
      refine hb_istore (pc := 130) (i := 8) (ls1 := [some (hb_r 0 0 0), some (hb_i x1), some (hb_i x9), some (hb_i x9), some (hb_i (x4 + (1 : Int32))), some (hb_l (l5 + xs0.toInt64)), none, some (hb_i (if x7 < xs0 then xs0 else x7)), some (hb_i (if xs0 < x8 then xs0 else x8)), some (hb_i x9), some (hb_i xs0)]) dX11_answer_130 (by decide) rfl ?_
      refine hb_iinc (pc := 132) (v := x9 + (1 : Int32)) (ls1 := [some (hb_r 0 0 0), some (hb_i x1), some (hb_i x9), some (hb_i x9), some (hb_i (x4 + (1 : Int32))), some (hb_l (l5 + xs0.toInt64)), none, some (hb_i (if x7 < xs0 then xs0 else x7)), some (hb_i (if xs0 < x8 then xs0 else x8)), some (hb_i (x9 + (1 : Int32))), some (hb_i xs0)]) dX11_answer_132 rfl rfl (by decide) rfl ?_
      refine hb_goto (pc := 135) (tgt := 23) dX11_answer_135 (by decide) ?_
      exact ht2
theorem dX11_isHood_0 : decode cX11_isHood 0 = .ok (.iload_n 0, 1) := by decide +kernel
theorem dX11_isHood_1 : decode cX11_isHood 1 = .ok (.ifCond .lt 13, 3) := by decide +kernel
theorem dX11_isHood_4 : decode cX11_isHood 4 = .ok (.iload_n 0, 1) := by decide +kernel
theorem dX11_isHood_5 : decode cX11_isHood 5 = .ok (.bipush 64, 2) := by decide +kernel
theorem dX11_isHood_7 : decode cX11_isHood 7 = .ok (.if_icmp .ge 7, 3) := by decide +kernel
theorem dX11_isHood_10 : decode cX11_isHood 10 = .ok (.iconst 1, 1) := by decide +kernel
theorem dX11_isHood_11 : decode cX11_isHood 11 = .ok (.goto 4, 3) := by decide +kernel
theorem dX11_isHood_14 : decode cX11_isHood 14 = .ok (.iconst 0, 1) := by decide +kernel
theorem dX11_isHood_15 : decode cX11_isHood 15 = .ok (.ireturn, 1) := by decide +kernel
set_option maxRecDepth 20000 in
theorem bk_X11_isHood_0 {d : Nat} {w : hb_W} {Q : Option hb_V → hb_W → Prop} {x0 : Int32} (h : ((x0 < 0) → Q (some (hb_i (0 : Int32))) w) ∧ ((¬ x0 < 0) → (((64 : Int32) ≤ x0) → Q (some (hb_i (0 : Int32))) w) ∧ ((¬ (64 : Int32) ≤ x0) → Q (some (hb_i (1 : Int32))) w))) : hb_R yX11_isHood cX11_isHood 1 (some .boolean) d 0 [some (hb_i x0)] [] w Q := by
  refine hb_iload_n (pc := 0) (i := 0) dX11_isHood_0 rfl rfl ?_
  refine hb_if_lt (pc := 1) (tgt := 14) dX11_isHood_1 (by decide) (fun c1 => ?_) (fun c1 => ?_)
  · have ht1 := h.1 c1
    refine hb_iconst (pc := 14) (v := 0) dX11_isHood_14 (by decide) ?_
    exact hb_zret (pc := 15) dX11_isHood_15 rfl (Or.inl rfl) ht1
  · have ht1 := h.2 c1
    refine hb_iload_n (pc := 4) (i := 0) dX11_isHood_4 rfl rfl ?_
    refine hb_bipush (pc := 5) (v := 64) dX11_isHood_5 (by decide) ?_
    refine hb_icmp_ge (pc := 7) (tgt := 14) dX11_isHood_7 (by decide) (fun c2 => ?_) (fun c2 => ?_)
    · have ht2 := ht1.1 c2
      refine hb_iconst (pc := 14) (v := 0) dX11_isHood_14 (by decide) ?_
      exact hb_zret (pc := 15) dX11_isHood_15 rfl (Or.inl rfl) ht2
    · have ht2 := ht1.2 c2
      refine hb_iconst (pc := 10) (v := 1) dX11_isHood_10 (by decide) ?_
      refine hb_goto (pc := 11) (tgt := 15) dX11_isHood_11 (by decide) ?_
      exact hb_zret (pc := 15) dX11_isHood_15 rfl (Or.inr rfl) ht2
theorem dX11_isLine_0 : decode cX11_isLine 0 = .ok (.iload_n 0, 1) := by decide +kernel
theorem dX11_isLine_1 : decode cX11_isLine 1 = .ok (.ifCond .lt 13, 3) := by decide +kernel
theorem dX11_isLine_4 : decode cX11_isLine 4 = .ok (.iload_n 0, 1) := by decide +kernel
theorem dX11_isLine_5 : decode cX11_isLine 5 = .ok (.bipush 9, 2) := by decide +kernel
theorem dX11_isLine_7 : decode cX11_isLine 7 = .ok (.if_icmp .ge 7, 3) := by decide +kernel
theorem dX11_isLine_10 : decode cX11_isLine 10 = .ok (.iconst 1, 1) := by decide +kernel
theorem dX11_isLine_11 : decode cX11_isLine 11 = .ok (.goto 4, 3) := by decide +kernel
theorem dX11_isLine_14 : decode cX11_isLine 14 = .ok (.iconst 0, 1) := by decide +kernel
theorem dX11_isLine_15 : decode cX11_isLine 15 = .ok (.ireturn, 1) := by decide +kernel
set_option maxRecDepth 20000 in
theorem bk_X11_isLine_0 {d : Nat} {w : hb_W} {Q : Option hb_V → hb_W → Prop} {x0 : Int32} (h : ((x0 < 0) → Q (some (hb_i (0 : Int32))) w) ∧ ((¬ x0 < 0) → (((9 : Int32) ≤ x0) → Q (some (hb_i (0 : Int32))) w) ∧ ((¬ (9 : Int32) ≤ x0) → Q (some (hb_i (1 : Int32))) w))) : hb_R yX11_isLine cX11_isLine 1 (some .boolean) d 0 [some (hb_i x0)] [] w Q := by
  refine hb_iload_n (pc := 0) (i := 0) dX11_isLine_0 rfl rfl ?_
  refine hb_if_lt (pc := 1) (tgt := 14) dX11_isLine_1 (by decide) (fun c1 => ?_) (fun c1 => ?_)
  · have ht1 := h.1 c1
    refine hb_iconst (pc := 14) (v := 0) dX11_isLine_14 (by decide) ?_
    exact hb_zret (pc := 15) dX11_isLine_15 rfl (Or.inl rfl) ht1
  · have ht1 := h.2 c1
    refine hb_iload_n (pc := 4) (i := 0) dX11_isLine_4 rfl rfl ?_
    refine hb_bipush (pc := 5) (v := 9) dX11_isLine_5 (by decide) ?_
    refine hb_icmp_ge (pc := 7) (tgt := 14) dX11_isLine_7 (by decide) (fun c2 => ?_) (fun c2 => ?_)
    · have ht2 := ht1.1 c2
      refine hb_iconst (pc := 14) (v := 0) dX11_isLine_14 (by decide) ?_
      exact hb_zret (pc := 15) dX11_isLine_15 rfl (Or.inl rfl) ht2
    · have ht2 := ht1.2 c2
      refine hb_iconst (pc := 10) (v := 1) dX11_isLine_10 (by decide) ?_
      refine hb_goto (pc := 11) (tgt := 15) dX11_isLine_11 (by decide) ?_
      exact hb_zret (pc := 15) dX11_isLine_15 rfl (Or.inr rfl) ht2
theorem dX11_isKind_0 : decode cX11_isKind 0 = .ok (.iload_n 0, 1) := by decide +kernel
theorem dX11_isKind_1 : decode cX11_isKind 1 = .ok (.ifCond .lt 12, 3) := by decide +kernel
theorem dX11_isKind_4 : decode cX11_isKind 4 = .ok (.iload_n 0, 1) := by decide +kernel
theorem dX11_isKind_5 : decode cX11_isKind 5 = .ok (.iconst 5, 1) := by decide +kernel
theorem dX11_isKind_6 : decode cX11_isKind 6 = .ok (.if_icmp .gt 7, 3) := by decide +kernel
theorem dX11_isKind_9 : decode cX11_isKind 9 = .ok (.iconst 1, 1) := by decide +kernel
theorem dX11_isKind_10 : decode cX11_isKind 10 = .ok (.goto 4, 3) := by decide +kernel
theorem dX11_isKind_13 : decode cX11_isKind 13 = .ok (.iconst 0, 1) := by decide +kernel
theorem dX11_isKind_14 : decode cX11_isKind 14 = .ok (.ireturn, 1) := by decide +kernel
set_option maxRecDepth 20000 in
theorem bk_X11_isKind_0 {d : Nat} {w : hb_W} {Q : Option hb_V → hb_W → Prop} {x0 : Int32} (h : ((x0 < 0) → Q (some (hb_i (0 : Int32))) w) ∧ ((¬ x0 < 0) → (((5 : Int32) < x0) → Q (some (hb_i (0 : Int32))) w) ∧ ((¬ (5 : Int32) < x0) → Q (some (hb_i (1 : Int32))) w))) : hb_R yX11_isKind cX11_isKind 1 (some .boolean) d 0 [some (hb_i x0)] [] w Q := by
  refine hb_iload_n (pc := 0) (i := 0) dX11_isKind_0 rfl rfl ?_
  refine hb_if_lt (pc := 1) (tgt := 13) dX11_isKind_1 (by decide) (fun c1 => ?_) (fun c1 => ?_)
  · have ht1 := h.1 c1
    refine hb_iconst (pc := 13) (v := 0) dX11_isKind_13 (by decide) ?_
    exact hb_zret (pc := 14) dX11_isKind_14 rfl (Or.inl rfl) ht1
  · have ht1 := h.2 c1
    refine hb_iload_n (pc := 4) (i := 0) dX11_isKind_4 rfl rfl ?_
    refine hb_iconst (pc := 5) (v := 5) dX11_isKind_5 (by decide) ?_
    refine hb_icmp_gt (pc := 6) (tgt := 13) dX11_isKind_6 (by decide) (fun c2 => ?_) (fun c2 => ?_)
    · have ht2 := ht1.1 c2
      refine hb_iconst (pc := 13) (v := 0) dX11_isKind_13 (by decide) ?_
      exact hb_zret (pc := 14) dX11_isKind_14 rfl (Or.inl rfl) ht2
    · have ht2 := ht1.2 c2
      refine hb_iconst (pc := 9) (v := 1) dX11_isKind_9 (by decide) ?_
      refine hb_goto (pc := 10) (tgt := 14) dX11_isKind_10 (by decide) ?_
      exact hb_zret (pc := 14) dX11_isKind_14 rfl (Or.inr rfl) ht2
theorem dX11_isWhichOrHowFar_0 : decode cX11_isWhichOrHowFar 0 = .ok (.iload_n 0, 1) := by decide +kernel
theorem dX11_isWhichOrHowFar_1 : decode cX11_isWhichOrHowFar 1 = .ok (.ifCond .eq 8, 3) := by decide +kernel
theorem dX11_isWhichOrHowFar_4 : decode cX11_isWhichOrHowFar 4 = .ok (.iload_n 0, 1) := by decide +kernel
theorem dX11_isWhichOrHowFar_5 : decode cX11_isWhichOrHowFar 5 = .ok (.iconst 1, 1) := by decide +kernel
theorem dX11_isWhichOrHowFar_6 : decode cX11_isWhichOrHowFar 6 = .ok (.if_icmp .ne 7, 3) := by decide +kernel
theorem dX11_isWhichOrHowFar_9 : decode cX11_isWhichOrHowFar 9 = .ok (.iconst 1, 1) := by decide +kernel
theorem dX11_isWhichOrHowFar_10 : decode cX11_isWhichOrHowFar 10 = .ok (.goto 4, 3) := by decide +kernel
theorem dX11_isWhichOrHowFar_13 : decode cX11_isWhichOrHowFar 13 = .ok (.iconst 0, 1) := by decide +kernel
theorem dX11_isWhichOrHowFar_14 : decode cX11_isWhichOrHowFar 14 = .ok (.ireturn, 1) := by decide +kernel
set_option maxRecDepth 20000 in
theorem bk_X11_isWhichOrHowFar_0 {d : Nat} {w : hb_W} {Q : Option hb_V → hb_W → Prop} {x0 : Int32} (h : ((x0 = 0) → Q (some (hb_i (1 : Int32))) w) ∧ ((¬ x0 = 0) → ((¬ x0 = (1 : Int32)) → Q (some (hb_i (0 : Int32))) w) ∧ ((x0 = (1 : Int32)) → Q (some (hb_i (1 : Int32))) w))) : hb_R yX11_isWhichOrHowFar cX11_isWhichOrHowFar 1 (some .boolean) d 0 [some (hb_i x0)] [] w Q := by
  refine hb_iload_n (pc := 0) (i := 0) dX11_isWhichOrHowFar_0 rfl rfl ?_
  refine hb_if_eq (pc := 1) (tgt := 9) dX11_isWhichOrHowFar_1 (by decide) (fun c1 => ?_) (fun c1 => ?_)
  · have ht1 := h.1 c1
    refine hb_iconst (pc := 9) (v := 1) dX11_isWhichOrHowFar_9 (by decide) ?_
    refine hb_goto (pc := 10) (tgt := 14) dX11_isWhichOrHowFar_10 (by decide) ?_
    exact hb_zret (pc := 14) dX11_isWhichOrHowFar_14 rfl (Or.inr rfl) ht1
  · have ht1 := h.2 c1
    refine hb_iload_n (pc := 4) (i := 0) dX11_isWhichOrHowFar_4 rfl rfl ?_
    refine hb_iconst (pc := 5) (v := 1) dX11_isWhichOrHowFar_5 (by decide) ?_
    refine hb_icmp_ne (pc := 6) (tgt := 13) dX11_isWhichOrHowFar_6 (by decide) (fun c2 => ?_) (fun c2 => ?_)
    · have ht2 := ht1.1 c2
      refine hb_iconst (pc := 13) (v := 0) dX11_isWhichOrHowFar_13 (by decide) ?_
      exact hb_zret (pc := 14) dX11_isWhichOrHowFar_14 rfl (Or.inl rfl) ht2
    · have ht2 := ht1.2 c2
      refine hb_iconst (pc := 9) (v := 1) dX11_isWhichOrHowFar_9 (by decide) ?_
      refine hb_goto (pc := 10) (tgt := 14) dX11_isWhichOrHowFar_10 (by decide) ?_
      exact hb_zret (pc := 14) dX11_isWhichOrHowFar_14 rfl (Or.inr rfl) ht2
