/-! ===== pairs: pass, toss, mark, feed ===== -/
theorem zV.of {L R : Nat} {rows : List wT} {r r2 : rT} {op : Int32} (h : zV L R rows r op) (h1 : op = 1) (hv : vRl r2) (hl : vLt L r2) : zV L R rows r2 op := ⟨hv, hl, h.2.2.1, h.2.2.2.1, Or.inr ⟨h1, h.L1 h1⟩⟩
theorem pr_pass : hp_pass Sim := by
  intro w x1 x2 x3 hs
  obtain ⟨n, T, f1, f2, rf, L, R, rows, mix, r, li, op, h⟩ := hs
  have hlen := h.2.2.2.1.1
  have e10 : hb_fI w 0 10 0 = op := h.1.2.2.2.1
  have e73 : hb_fI w 7 3 0 = nI r.1.length := h.1.2.2.2.2.1.2.1
  have e30 : hb_fI w 12 30 0 = op := h.2.2.1.2.2.1
  have e18 : hb_aI w 12 18 0 1 = nI r.1.length := h.2.2.1.2.2.2.1.2.1
  have hop := h.2.2.2.op1
  have bad : (op = 0 ∨ nbad 64 x1 ∨ nbad 100 x2 ∨ nbad 2 x3 ∨ r.1.length = 400) → hb_O yX11_pass cX11_pass 5 (some .int) 1000 [hb_r 0 0 0, hb_i x1, hb_i x2, hb_i x3] w (fun rv w1 => ∃ r : Int32, rv = some (hb_i r) ∧ hb_O yX12_pass cX12_pass 4 (some .int) 1000 [hb_r 12 0 0, hb_i x1, hb_i x2, hb_i x3] w1 (fun rv2 w2 => rv2 = some (hb_i r) ∧ Sim w2)) := by
    intro hb
    have M : ∃ v : Int32, (some (hb_i (-1)) : Option hb_V) = some (hb_i v) ∧ hb_O yX12_pass cX12_pass 4 (some .int) 1000 [hb_r 12 0 0, hb_i x1, hb_i x2, hb_i x3] (hb_sI w 0 1 0 (upd (hb_aI w 0 1 0) 2 (hb_aI w 0 1 0 2 + 1))) (fun rv2 w2 => rv2 = some (hb_i v) ∧ Sim w2) := by
      have g30 : hb_fI (hb_sI w 0 1 0 (upd (hb_aI w 0 1 0) 2 (hb_aI w 0 1 0 2 + 1))) 12 30 0 = op := e30
      have g18 : hb_aI (hb_sI w 0 1 0 (upd (hb_aI w 0 1 0) 2 (hb_aI w 0 1 0 2 + 1))) 12 18 0 (1 : Int32).toNatClampNeg = nI r.1.length := e18
      have RM : hb_O yX12_refuses cX12_refuses 2 (some .int) 999 [hb_r 12 0 0, hb_i 2] (hb_sI w 0 1 0 (upd (hb_aI w 0 1 0) 2 (hb_aI w 0 1 0 2 + 1))) (fun rv w1 => hb_R yX12_pass cX12_pass 4 (some .int) 1000 54 [some (hb_r 12 0 0), some (hb_i x1), some (hb_i x2), some (hb_i x3)] (rv.toList ++ []) w1 (fun rv2 w2 => rv2 = some (hb_i (-1)) ∧ Sim w2)) := om_refuses (k := 2) (by decide) (bk_X12_pass_54 ⟨rfl, h.ref (k := 2) (by decide)⟩)
      refine ⟨-1, rfl, bk_X12_pass_0 ?_⟩
      rw [g30]
      refine ⟨fun _ => RM, fun y => bk_X12_isHood_0 (om_in (N := 64) (by decide) (by decide) (fun j1 hj1 e1 => bk_X12_isHood_9 ⟨Or.inr rfl, bk_X12_pass_12 ⟨fun y => absurd y (by decide), fun _ => ?_⟩⟩) (fun _ => bk_X12_isHood_9 ⟨Or.inl rfl, bk_X12_pass_12 ⟨fun _ => RM, fun y => absurd rfl y⟩⟩))⟩
      refine om_in (N := 100) (by decide) (by decide) (fun j2 hj2 e2 => bk_X12_pass_24 ⟨fun y => absurd y (by decide), fun _ => ?_⟩) (fun _ => bk_X12_pass_24 ⟨fun _ => RM, fun y => absurd rfl y⟩)
      refine om_in (N := 2) (by decide) (by decide) (fun j3 hj3 e3 => bk_X12_pass_34 ⟨fun y => absurd y (by decide), fun _ => ?_⟩) (fun _ => bk_X12_pass_34 ⟨fun _ => RM, fun y => absurd rfl y⟩)
      rw [g18]
      refine ⟨fun y2 => ?_, fun _ => RM⟩
      exfalso
      rcases hb with u | u | u | u | u
      · exact y u
      · exact u.ne hj1 (by decide) e1
      · exact u.ne hj2 (by decide) e2
      · exact u.ne hj3 (by decide) e3
      · exact y2 (by rw [u]; rfl)
    have RC : ∀ x4 : Int32, hb_R yX11_pass cX11_pass 5 (some .int) 1000 58 [some (hb_r 0 0 0), some (hb_i x1), some (hb_i x2), some (hb_i x3), some (hb_i x4)] [] w (fun rv w1 => ∃ r : Int32, rv = some (hb_i r) ∧ hb_O yX12_pass cX12_pass 4 (some .int) 1000 [hb_r 12 0 0, hb_i x1, hb_i x2, hb_i x3] w1 (fun rv2 w2 => rv2 = some (hb_i r) ∧ Sim w2)) := fun x4 => bk_X11_pass_58 (ok_refuse (k := 2) (by decide) (bk_X11_pass_63 M))
    have R30 : hb_R yX11_pass cX11_pass 5 (some .int) 1000 30 [some (hb_r 0 0 0), some (hb_i x1), some (hb_i x2), some (hb_i x3), none] [] w (fun rv w1 => ∃ r : Int32, rv = some (hb_i r) ∧ hb_O yX12_pass cX12_pass 4 (some .int) 1000 [hb_r 12 0 0, hb_i x1, hb_i x2, hb_i x3] w1 (fun rv2 w2 => rv2 = some (hb_i r) ∧ Sim w2)) := bk_X11_pass_30 ⟨fun _ => RC 0, fun _ => ⟨fun _ => RC 0, fun y => absurd rfl y⟩⟩
    refine bk_X11_pass_0 (ok_isHood _ (fun j hj e => bk_X11_pass_4 ⟨fun y => absurd y (by decide), fun _ => ⟨fun _ => R30, fun y2 => ⟨fun _ => R30, fun y3 => ⟨fun _ => R30, fun y4 => ⟨fun _ => R30, fun y5 => ⟨fun _ => RC 1, fun y6 => ⟨fun y => absurd y (by decide), fun _ => ⟨fun y7 => ?_, fun _ => RC 1⟩⟩⟩⟩⟩⟩⟩⟩) (fun _ => bk_X11_pass_4 ⟨fun _ => R30, fun y => absurd rfl y⟩))
    exfalso
    rw [e10] at y6
    rcases hb with u | u | u | u | u
    · exact y6 u
    · exact u.ne hj (by decide) e
    · exact u.le y2 y3
    · exact u.le y4 y5
    · rw [e73, u] at y7
      exact absurd y7 (by decide)
  by_cases hb : op = 0 ∨ nbad 64 x1 ∨ nbad 100 x2 ∨ nbad 2 x3 ∨ r.1.length = 400
  · exact bad hb
  · have h1 : op = 1 := hop.resolve_left (fun y => hb (Or.inl y))
    rcases ixc x1 (N := 64) (by decide) with u | ⟨a, ha, rfl⟩
    · exact absurd (Or.inr (Or.inl u)) hb
    rcases ixc x2 (N := 100) (by decide) with u | ⟨b, hb2, rfl⟩
    · exact absurd (Or.inr (Or.inr (Or.inl u))) hb
    rcases ixc x3 (N := 2) (by decide) with u | ⟨c, hc, rfl⟩
    · exact absurd (Or.inr (Or.inr (Or.inr (Or.inl u)))) hb
    have hn : r.1.length < 400 := by
      rcases Nat.lt_or_ge r.1.length 400 with u | u
      · exact u
      · exact absurd (Or.inr (Or.inr (Or.inr (Or.inr (by omega))))) hb
    have v1 := h.2.2.2.1
    have hL9 := h.2.2.2.2.2.1.1
    refine bk_X11_pass_0 (ok_isHood_y ha (bk_X11_pass_4 ?_))
    rw [e10, e73, h1]
    refine ⟨fun y => absurd y (by decide), fun _ => ⟨fun y => absurd y (nI_pos (by omega)), fun _ => ⟨fun y => absurd y (nI_ge (b := 100) hb2 (by decide)), fun _ => ⟨fun y => absurd y (nI_pos (by omega)), fun _ => ⟨fun y => absurd y (nI_ge (b := 2) hc (by decide)), fun _ => ⟨fun y => absurd y (by decide), fun _ => ⟨fun y => absurd y (by decide), fun _ => ⟨fun _ => ?_, fun y => absurd (nI_lt (b := 400) hn (by decide)) y⟩⟩⟩⟩⟩⟩⟩⟩
    refine ok_remember v1.2.2.2.2.2.1 v1.2.2.2.2.1 h.1.2.2.2.2.1 (fun w2 k1 k2 k3 => bk_X11_pass_71 ?_)
    have e8 : hb_fR w2 0 8 0 = hb_fR w 0 8 0 := k2.2.2.1 0 8 0 (by decide)
    have el : hb_fI w2 11 1 (hb_fR w2 0 8 0) = nI L := by rw [e8, k2.1 11 1 _ (show ¬ (11 : Nat) = 7 by decide)]; exact h.1.2.2.2.2.2.2.1
    refine ⟨by rw [e8]; exact h.1.2.2.1.1, ?_⟩
    rw [el]
    refine ok_admit (r := rt_rem r) hL9 hn v1.2.2.2.1 k1 (fun w3 j1 j2 j3 => bk_X11_pass_88 ?_)
    have A3 : hw_ag (fun t _ => t = 7) w w3 := k2.tr j2
    obtain ⟨zc, zs, zm⟩ := h.rollc (r2 := rt_add L a b c (rt_rem r)) A3 (fun t _ y => Or.inr (Or.inl y)) j1 (fun y => ((h.2.1.2.2 y).2.ag A3 (by decide) (by decide) (fun _ => by decide)).app)
    have zv : zV L R rows (rt_add L a b c (rt_rem r)) op := h.2.2.2.of h1 (v1.rem.add ha hb2 hc hn) (h.2.2.2.2.1.rem v1.2.2.2.2.2.1 v1.2.2.2.2.1).add
    have g30 : hb_fI w3 12 30 0 = 1 := by rw [zm.2.2.1, h1]
    have g18 : hb_aI w3 12 18 0 (1 : Int32).toNatClampNeg = nI r.1.length := zm.2.2.2.1.2.1
    rw [j1.2.1]
    refine ⟨_, rfl, bk_X12_pass_0 ?_⟩
    rw [g30]
    refine ⟨fun y => absurd y (by decide), fun _ => om_hdY ha (bk_X12_pass_12 ⟨fun y => absurd y (by decide), fun _ => ?_⟩)⟩
    refine om_in (N := 100) (by decide) (by decide) (fun _ _ _ => bk_X12_pass_24 ⟨fun y => absurd y (by decide), fun _ => ?_⟩) (fun hn => absurd rfl (hn.ne hb2 (by decide)))
    refine om_in (N := 2) (by decide) (by decide) (fun _ _ _ => bk_X12_pass_34 ⟨fun y => absurd y (by decide), fun _ => ?_⟩) (fun hn => absurd rfl (hn.ne hc (by decide)))
    rw [g18, show (400 : Int32) = nI 400 from rfl, nI_eq (by omega) (by decide)]
    refine ⟨fun _ => om_keeps v1.2.2.2.2.2.1 v1.2.2.2.2.1 zm.2.2.2.1 (fun w4 p1 p2 => bk_X12_pass_59 ?_), fun y => absurd y (by omega)⟩
    refine om_goes (r := rt_rem r) hL9 hn v1.2.2.2.1 (by rw [p2.A 13]; exact zm.2.2.2.2.2.2.1.1) p1 (fun w5 q1 q2 => bk_X12_pass_66 ⟨eqi q1.2.1, ?_⟩)
    exact (zW.rollm zc zs zm zv ((p2.wk (K2 := [55, 56, 57]) (J2 := [18, 19, 32]) (by decide) (by decide)).tr (q2.wk (by decide) (by decide))) (by decide) (by decide) (by decide) q1).S
theorem pr_toss : hp_toss Sim := by
  intro w x hs
  obtain ⟨n, T, f1, f2, rf, L, R, rows, mix, r, li, op, h⟩ := hs
  have e10 : hb_fI w 0 10 0 = op := h.1.2.2.2.1
  have e74 : hb_fI w 7 4 0 = nI r.2.1 := h.1.2.2.2.2.1.2.2.1
  have e30 : hb_fI w 12 30 0 = op := h.2.2.1.2.2.1
  have e18 : hb_aI w 12 18 0 0 = nI r.2.1 := h.2.2.1.2.2.2.1.2.2.1
  have hop := h.2.2.2.op1
  have hco := h.2.2.2.1.2.2.1.1
  have bad : (op = 0 ∨ nbad 100 x ∨ x = nI r.2.1) → hb_O yX11_toss cX11_toss 2 (some .boolean) 1000 [hb_r 0 0 0, hb_i x] w (fun rv w1 => ∃ r : Int32, rv = some (hb_i r) ∧ hb_O yX12_toss cX12_toss 2 (some .boolean) 1000 [hb_r 12 0 0, hb_i x] w1 (fun rv2 w2 => rv2 = some (hb_i r) ∧ Sim w2)) := by
    intro hb
    have M : ∃ v : Int32, (some (hb_i 0) : Option hb_V) = some (hb_i v) ∧ hb_O yX12_toss cX12_toss 2 (some .boolean) 1000 [hb_r 12 0 0, hb_i x] (hb_sI w 0 1 0 (upd (hb_aI w 0 1 0) 2 (hb_aI w 0 1 0 2 + 1))) (fun rv2 w2 => rv2 = some (hb_i v) ∧ Sim w2) := by
      have g30 : hb_fI (hb_sI w 0 1 0 (upd (hb_aI w 0 1 0) 2 (hb_aI w 0 1 0 2 + 1))) 12 30 0 = op := e30
      have g18 : hb_aI (hb_sI w 0 1 0 (upd (hb_aI w 0 1 0) 2 (hb_aI w 0 1 0 2 + 1))) 12 18 0 (0 : Int32).toNatClampNeg = nI r.2.1 := e18
      have RM := h.ref (k := 2) (by decide)
      refine ⟨0, rfl, bk_X12_toss_0 ?_⟩
      rw [g30]
      refine ⟨fun _ => ⟨rfl, RM⟩, fun y => om_in (N := 100) (by decide) (by decide) (fun j hj e => bk_X12_toss_16 ⟨fun y => absurd y (by decide), fun _ => ?_⟩) (fun _ => bk_X12_toss_16 ⟨fun _ => ⟨rfl, RM⟩, fun y => absurd rfl y⟩)⟩
      rw [g18]
      refine ⟨fun y2 => ?_, fun _ => ⟨rfl, RM⟩⟩
      exfalso
      rcases hb with u | u | u
      · exact y u
      · exact u.ne hj (by decide) e
      · exact y2 u.symm
    refine bk_X11_toss_0 ?_
    rw [e10, e74]
    refine ⟨fun _ => ok_refuse (k := 2) (by decide) (bk_X11_toss_33 M), fun y => ⟨fun _ => ok_refuse (k := 2) (by decide) (bk_X11_toss_33 M), fun y2 => ⟨fun _ => ok_refuse (k := 2) (by decide) (bk_X11_toss_33 M), fun y3 => ⟨fun y4 => ?_, fun _ => ok_refuse (k := 2) (by decide) (bk_X11_toss_33 M)⟩⟩⟩⟩
    exfalso
    rcases hb with u | u | u
    · exact y u
    · exact u.le y2 y3
    · exact y4 u
  by_cases hb : op = 0 ∨ nbad 100 x ∨ x = nI r.2.1
  · exact bad hb
  · have h1 : op = 1 := hop.resolve_left (fun y => hb (Or.inl y))
    rcases ixc x (N := 100) (by decide) with u | ⟨c, hc, rfl⟩
    · exact absurd (Or.inr (Or.inl u)) hb
    have hne : ¬ nI c = nI r.2.1 := fun y => hb (Or.inr (Or.inr y))
    have v1 := h.2.2.2.1
    refine bk_X11_toss_0 ?_
    rw [e10, e74, h1]
    refine ⟨fun y => absurd y (by decide), fun _ => ⟨fun y => absurd y (nI_pos (by omega)), fun _ => ⟨fun y => absurd y (nI_ge (b := 100) hc (by decide)), fun _ => ⟨fun _ => ?_, fun y => absurd y hne⟩⟩⟩⟩
    refine ok_remember v1.2.2.2.2.2.1 v1.2.2.2.2.1 h.1.2.2.2.2.1 (fun w2 k1 k2 k3 => bk_X11_toss_43 ?_)
    have A3 : hw_ag (fun t _ => t = 7) w (hb_pI w2 7 4 0 (nI c)) := k2.pI rfl
    obtain ⟨c1, c2, c3, c4, c5, c6, c7, c8⟩ := k1
    obtain ⟨zc, zs, zm⟩ := h.rollc (r2 := rt_coin c (rt_rem r)) A3 (fun t _ y => Or.inr (Or.inl y)) ⟨c1, c2, rfl, c4, c5, c6, c7, c8⟩ (fun y => (h.2.1.2.2 y).2.ag A3 (by decide) (by decide) (fun _ => by decide))
    have zv : zV L R rows (rt_coin c (rt_rem r)) op := h.2.2.2.of h1 (v1.rem.coin hc) (h.2.2.2.2.1.rem v1.2.2.2.2.2.1 v1.2.2.2.2.1)
    have g30 : hb_fI (hb_pI w2 7 4 0 (nI c)) 12 30 0 = 1 := by rw [zm.2.2.1, h1]
    have g18 : hb_aI (hb_pI w2 7 4 0 (nI c)) 12 18 0 (0 : Int32).toNatClampNeg = nI r.2.1 := zm.2.2.2.1.2.2.1
    refine ⟨_, rfl, bk_X12_toss_0 ?_⟩
    rw [g30]
    refine ⟨fun y => absurd y (by decide), fun _ => om_in (N := 100) (by decide) (by decide) (fun _ _ _ => bk_X12_toss_16 ⟨fun y => absurd y (by decide), fun _ => ?_⟩) (fun hn => absurd rfl (hn.ne hc (by decide)))⟩
    rw [g18]
    refine ⟨fun _ => om_keeps v1.2.2.2.2.2.1 v1.2.2.2.2.1 zm.2.2.2.1 (fun w4 p1 p2 => bk_X12_toss_45 ⟨rfl, ?_⟩), fun y => absurd y.symm hne⟩
    obtain ⟨m1, m2, m3, m4, m5, m6, m7, m8⟩ := p1
    refine zW.S (zW.rollm zc zs zm zv ((p2.wk (K2 := [55, 56]) (J2 := [18, 32]) (by decide) (by decide)).sI (by decide)) (by decide) (by decide) (by decide) ⟨m1, ?_, ?_, m4, m5, m6, fun l hl => ?_, m8⟩)
    · rw [oa_s]; exact (pk_un (by decide)).trans m2
    · rw [oa_s]; exact pk_us
    · rw [oa_s]; exact (pk_un (show ¬ 2 + l = 0 by omega)).trans (m7 l hl)
theorem pr_mark : hp_mark Sim := by
  intro w x1 x2 hs
  obtain ⟨n, T, f1, f2, rf, L, R, rows, mix, r, li, op, h⟩ := hs
  have e10 : hb_fI w 0 10 0 = op := h.1.2.2.2.1
  refine bk_X11_mark_0 ?_
  rw [e10]
  rcases h.2.2.2.op1 with h0 | h1
  · have e30 : hb_fI w 12 30 0 = 0 := h.2.2.1.2.2.1.trans h0
    exact ⟨fun y => absurd h0 y, fun _ => ⟨_, rfl, bk_X12_mark_0 ⟨fun _ => ⟨rfl, h.S⟩, fun y => absurd e30 y⟩⟩⟩
  · refine ⟨fun _ => ok_up h h1 (fun w2 hU h2 _ => bk_X11_mark_24 ?_), fun y => absurd (h1.symm.trans y) (by decide)⟩
    have e30 : hb_fI w2 12 30 0 = 1 := h2.2.2.1.2.2.1.trans h1
    have hc := h2.2.2.2.1.2.2.1.1
    have e18 : hb_aI w2 12 18 0 (0 : Int32).toNatClampNeg = nI r.2.1 := h2.2.2.1.2.2.2.1.2.2.1
    have hd0 : ∀ Q : Option hb_V → hb_W → Prop, (hb_O yX12_isHood cX12_isHood 2 (some .boolean) 999 [hb_r 12 0 0, hb_i x1] w2 (fun rv w1 => hb_R yX12_mark cX12_mark 3 (some .int) 1000 12 [some (hb_r 12 0 0), some (hb_i x1), some (hb_i x2)] (rv.toList ++ []) w1 Q)) → hb_O yX12_mark cX12_mark 3 (some .int) 1000 [hb_r 12 0 0, hb_i x1, hb_i x2] w2 Q := fun Q q => bk_X12_mark_0 ⟨fun y => absurd (e30.symm.trans y) (by decide), fun _ => q⟩
    refine ok_isHood _ (fun j hj e => bk_X11_mark_28 ⟨fun y => absurd y (by decide), fun _ => ?_⟩) (fun hn => bk_X11_mark_28 ⟨fun _ => ⟨_, rfl, hd0 _ (om_hdN hn (bk_X12_mark_12 ⟨fun _ => ⟨rfl, h2.S⟩, fun y => absurd rfl y⟩))⟩, fun y => absurd rfl y⟩)
    subst e
    refine ok_isLine _ (fun l hl e => bk_X11_mark_35 ⟨fun y => absurd y (by decide), fun _ => ?_⟩) (fun hn => bk_X11_mark_35 ⟨fun _ => ⟨_, rfl, hd0 _ (om_hdY hj (bk_X12_mark_12 ⟨fun y => absurd y (by decide), fun _ => om_in (N := 9) (by decide) (by decide) (fun j hj e => absurd e (nbad.ne hn hj (by decide))) (fun _ => bk_X12_mark_24 ⟨fun _ => ⟨rfl, h2.S⟩, fun y => absurd rfl y⟩)⟩))⟩, fun y => absurd rfl y⟩)
    subst e
    refine ok_of (by decide) hj hl (bk_X11_mark_50 ⟨_, rfl, hd0 _ (om_hdY hj (bk_X12_mark_12 ⟨fun y => absurd y (by decide), fun _ => om_in (N := 9) (by decide) (by decide) (fun _ _ _ => bk_X12_mark_24 ⟨fun y => absurd y (by decide), fun _ => ?_⟩) (fun hn => absurd rfl (hn.ne hl (by decide)))⟩))⟩)
    rw [e18]
    exact om_markOf hj hl hc (h2.2.2.1.2.2.2.2.2.2.2 h1) (fun w3 m1 => bk_X12_mark_39 ⟨eqi (hU.2.2.2.1 j l hj hl).1.symm, (h2.m m1 (by decide) (by decide) (by decide)).S⟩)
