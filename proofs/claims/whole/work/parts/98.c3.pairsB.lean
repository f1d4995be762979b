/-! ===== pairs: often, crossed, told, was, times, says, truth, out ===== -/
theorem pr_often : hp_often Sim := by
  intro w x1 x2 x3 hs
  obtain ⟨n, T, f1, f2, rf, L, R, rows, mix, r, li, op, h⟩ := hs
  refine bk_X11_often_0 (ok_bookNow h (fun h1 b w2 hb hx hU h2 => ?_) (fun h0 w2 h2 => bk_X11_often_5N ⟨-1, rfl, bk_X12_often_0 (om_bkN h2 h0 (bk_X12_often_5 ⟨fun _ => ⟨rfl, h2.S⟩, fun y => absurd rfl y⟩))⟩))
  subst hx
  have hB := hU.2.2.2.2 b hb
  have hL := hB.1.2.1
  have hO := hB.2.2.2.1.2.2.2.2.2.2
  have hg9 : b < hb_ct 9 := Nat.lt_trans hb (by decide)
  have e0 : (0 : Int32) = nI 0 := rfl
  refine bk_X11_often_5 hg9 ?_
  rw [hB.2.1]
  rcases ixc x3 (N := 2) (by decide) with hn3 | ⟨j3, hj3, rfl⟩
  · have M : pq yX12_often cX12_often 4 [hb_r 12 0 0, hb_i (nI b), hb_i x2, hb_i x3] w2 (-1) := bk_X12_often_0 (om_bkY h2 h1 hb (bk_X12_often_5 ⟨fun y => absurd y (by decide), fun _ => om_in (N := 2) (by decide) (by decide) (fun j hj e => absurd e (hn3.ne hj (by decide))) (fun _ => bk_X12_often_15 ⟨fun y => absurd rfl y, fun _ => ⟨rfl, h2.S⟩⟩)⟩))
    refine ⟨fun _ => ⟨_, rfl, M⟩, fun y => ⟨fun _ => ⟨_, rfl, M⟩, fun y2 => ?_⟩⟩
    rcases ixc x2 (N := L) (by omega) with hn | ⟨j, hj, rfl⟩
    · exact (hn.le y y2).elim
    · exact ⟨vp_in_nI (by omega) (by decide), ⟨fun _ => ⟨fun e => absurd e (hn3.ne (j := 0) (by decide) (by decide)), fun e => absurd e (hn3.ne (j := 1) (by decide) (by decide)), fun _ _ => ⟨_, rfl, M⟩⟩, fun _ => ⟨_, rfl, M⟩⟩⟩
  · have mod : ∀ (Q : Option hb_V → hb_W → Prop), (∀ w3, zW w3 n T f1 f2 rf L R rows mix r li op → mB w3 L R (zk mix r) (sp_bk b r.1) → hb_R yX12_often cX12_often 4 (some .int) 1000 25 [some (hb_r 12 0 0), some (hb_i (nI b)), some (hb_i x2), some (hb_i (nI j3))] [] w3 Q) → hb_O yX12_often cX12_often 4 (some .int) 1000 [hb_r 12 0 0, hb_i (nI b), hb_i x2, hb_i (nI j3)] w2 Q := fun Q q => bk_X12_often_0 (om_bkY h2 h1 hb (bk_X12_often_5 ⟨fun y => absurd y (by decide), fun _ => om_in (N := 2) (by decide) (by decide) (fun _ _ _ => bk_X12_often_15 ⟨fun _ => om_layZ h2 h1 hb (fun w3 m1 m2 h3 => q w3 h3 m1), fun y => absurd y (by decide)⟩) (fun hn => absurd rfl (hn.ne hj3 (by decide)))⟩))
    rcases ixc x2 (N := L) (by omega) with hn | ⟨j, hj, rfl⟩
    · have M : pq yX12_often cX12_often 4 [hb_r 12 0 0, hb_i (nI b), hb_i x2, hb_i (nI j3)] w2 (-1) := mod _ (fun w3 h3 m1 => bk_X12_often_25 (by
        rw [m1.2.1]
        exact om_in (N := L) (by omega) (i64m (by omega)) (fun j hj e => absurd e (hn.ne hj (by omega))) (fun _ => bk_X12_often_38 ⟨fun _ => ⟨rfl, h3.S⟩, fun y => absurd rfl y⟩)))
      exact ⟨fun _ => ⟨_, rfl, M⟩, fun y => ⟨fun _ => ⟨_, rfl, M⟩, fun y2 => (hn.le y y2).elim⟩⟩
    · obtain ⟨o1, o2, o3⟩ := hO j hj
      rw [nI_clamp (by omega), o1, e0, nI_eq (by omega) (by decide)]
      have vj : vp_in (nI j) 9 := vp_in_nI (by omega) (by decide)
      have mod2 : ∀ v : Int32, ((sp_of L ((sp_bk b r.1).map Prod.fst) j).2 = 0 → v = -1) → (¬ (sp_of L ((sp_bk b r.1).map Prod.fst) j).2 = 0 → j3 = 0 → v = nI (sp_of L ((sp_bk b r.1).map Prod.fst) j).1) → (¬ (sp_of L ((sp_bk b r.1).map Prod.fst) j).2 = 0 → ¬ j3 = 0 → v = nI (sp_of L ((sp_bk b r.1).map Prod.fst) j).2) → pq yX12_often cX12_often 4 [hb_r 12 0 0, hb_i (nI b), hb_i (nI j), hb_i (nI j3)] w2 v := by
        intro v k0 k1 k2
        refine mod _ (fun w3 h3 m1 => bk_X12_often_25 ?_)
        rw [m1.2.1]
        refine om_in (N := L) (by omega) (i64m (by omega)) (fun _ _ _ => bk_X12_often_38 ⟨fun y => absurd y (by decide), fun _ => ⟨vj, ?_⟩⟩) (fun hn => absurd rfl (hn.ne hj (by omega)))
        obtain ⟨p1, p2, p3⟩ := m1.2.2.2.1.2.2.2.2 j hj
        rw [nI_clamp (by omega), p1, e0, nI_eq (by omega) (by decide), nI_eq (by omega) (by decide)]
        exact ⟨fun y => ⟨fun y3 => ⟨vj, eqi (k2 y y3).symm, h3.S⟩, fun y3 => ⟨vj, eqi ((p3 (by omega)).1.trans (k1 y y3).symm), h3.S⟩⟩, fun y => ⟨eqi (k0 y).symm, h3.S⟩⟩
      refine ⟨fun y => absurd y (nI_pos (by omega)), fun _ => ⟨fun y => absurd y (nI_ge hj (by omega)), fun _ => ⟨vj, ⟨fun y => ?_, fun y => ⟨_, rfl, mod2 _ (fun _ => rfl) (fun u => absurd y u) (fun u => absurd y u)⟩⟩⟩⟩⟩
      have : j3 = 0 ∨ j3 = 1 := by omega
      rcases this with rfl | rfl
      · exact ⟨fun _ => ⟨vj, _, rfl, mod2 _ (fun u => absurd u y) (fun _ _ => (o3 (by omega)).1) (fun _ u => absurd rfl u)⟩, fun e => absurd e (by decide), fun e => absurd rfl e⟩
      · exact ⟨fun e => absurd e (by decide), fun _ => ⟨vj, _, rfl, mod2 _ (fun u => absurd u y) (fun _ u => absurd u (by decide)) (fun _ _ => rfl)⟩, fun _ e => absurd rfl e⟩
theorem pr_crossed : hp_crossed Sim := by
  intro w x1 x2 x3 hs
  obtain ⟨n, T, f1, f2, rf, L, R, rows, mix, r, li, op, h⟩ := hs
  refine bk_X11_crossed_0 (ok_bookNow h (fun h1 b w2 hb hx hU h2 => ?_) (fun h0 w2 h2 => bk_X11_crossed_5N ⟨-1, rfl, bk_X12_crossed_0 (om_bkN h2 h0 (bk_X12_crossed_5 ⟨fun y => absurd rfl y, fun _ => ⟨rfl, h2.S⟩⟩))⟩))
  subst hx
  have hB := hU.2.2.2.2 b hb
  have hL := hB.1.2.1
  have hR := hB.1.2.2.2.1
  have hg9 : b < hb_ct 9 := Nat.lt_trans hb (by decide)
  have mod : ∀ (Q : Option hb_V → hb_W → Prop), (∀ w3, zW w3 n T f1 f2 rf L R rows mix r li op → mB w3 L R (zk mix r) (sp_bk b r.1) → hb_O yX12_isIn cX12_isIn 6 (some .boolean) 999 [hb_l x2.toInt64, hb_l 0, hb_l ((nI R - 1).toInt64)] w3 (fun rv w1 => hb_R yX12_crossed cX12_crossed 4 (some .int) 1000 28 [some (hb_r 12 0 0), some (hb_i (nI b)), some (hb_i x2), some (hb_i x3)] (rv.toList ++ []) w1 Q)) → hb_O yX12_crossed cX12_crossed 4 (some .int) 1000 [hb_r 12 0 0, hb_i (nI b), hb_i x2, hb_i x3] w2 Q := by
    intro Q q
    refine bk_X12_crossed_0 (om_bkY h2 h1 hb (bk_X12_crossed_5 ⟨fun _ => om_layZ h2 h1 hb (fun w3 m1 m2 h3 => bk_X12_crossed_15 (bk_X12_rowMany_0 ?_)), fun y => absurd y (by decide)⟩))
    have e3 : hb_aI w3 12 13 0 (3 : Int32).toNatClampNeg = nI R := m1.2.2.1
    rw [e3]
    exact bk_X12_crossed_22 (q w3 h3 m1)
  refine bk_X11_crossed_5 hg9 ?_
  rw [hB.2.1, hB.2.2.1]
  rcases ixc x2 (N := R) (by omega) with hn2 | ⟨j2, hj2, rfl⟩
  · have M : pq yX12_crossed cX12_crossed 4 [hb_r 12 0 0, hb_i (nI b), hb_i x2, hb_i x3] w2 (-1) := mod _ (fun w3 h3 m1 => om_in (N := R) (by omega) (i64m (by omega)) (fun j hj e => absurd e (hn2.ne hj (by omega))) (fun _ => bk_X12_crossed_28 ⟨fun _ => ⟨rfl, h3.S⟩, fun y => absurd rfl y⟩))
    exact ⟨fun _ => ⟨_, rfl, M⟩, fun y => ⟨fun _ => ⟨_, rfl, M⟩, fun y2 => (hn2.le y y2).elim⟩⟩
  · have mod2 : ∀ (Q : Option hb_V → hb_W → Prop), (∀ w3, zW w3 n T f1 f2 rf L R rows mix r li op → mB w3 L R (zk mix r) (sp_bk b r.1) → hb_O yX12_isIn cX12_isIn 6 (some .boolean) 999 [hb_l x3.toInt64, hb_l 0, hb_l ((nI L - 1).toInt64)] w3 (fun rv w1 => hb_R yX12_crossed cX12_crossed 4 (some .int) 1000 44 [some (hb_r 12 0 0), some (hb_i (nI b)), some (hb_i (nI j2)), some (hb_i x3)] (rv.toList ++ []) w1 Q)) → hb_O yX12_crossed cX12_crossed 4 (some .int) 1000 [hb_r 12 0 0, hb_i (nI b), hb_i (nI j2), hb_i x3] w2 Q := by
      intro Q q
      refine mod Q (fun w3 h3 m1 => om_in (N := R) (by omega) (i64m (by omega)) (fun _ _ _ => bk_X12_crossed_28 ⟨fun y => absurd y (by decide), fun _ => ?_⟩) (fun hn => absurd rfl (hn.ne hj2 (by omega))))
      rw [m1.2.1]
      exact q w3 h3 m1
    refine ⟨fun y => absurd y (nI_pos (by omega)), fun _ => ⟨fun y => absurd y (nI_ge hj2 (by omega)), fun _ => ?_⟩⟩
    rcases ixc x3 (N := L) (by omega) with hn3 | ⟨j3, hj3, rfl⟩
    · have M : pq yX12_crossed cX12_crossed 4 [hb_r 12 0 0, hb_i (nI b), hb_i (nI j2), hb_i x3] w2 (-1) := mod2 _ (fun w3 h3 m1 => om_in (N := L) (by omega) (i64m (by omega)) (fun j hj e => absurd e (hn3.ne hj (by omega))) (fun _ => bk_X12_crossed_44 ⟨fun _ => ⟨rfl, h3.S⟩, fun y => absurd rfl y⟩))
      exact ⟨fun _ => ⟨_, rfl, M⟩, fun y => ⟨fun y2 => (hn3.lt y y2).elim, fun _ => ⟨_, rfl, M⟩⟩⟩
    · have ec : nI j2 * (9 : Int32) + nI j3 = nI (j2 * 9 + j3) := by rw [show (9 : Int32) = nI 9 from rfl, pk_mul, nI_add]
      have em : (9 : Int32) * nI j2 + nI j3 = nI (9 * j2 + j3) := by rw [show (9 : Int32) = nI 9 from rfl, pk_mul, nI_add]
      rw [ec, nI_clamp (by omega)]
      refine ⟨fun y => absurd y (nI_pos (by omega)), fun _ => ⟨fun _ => ⟨vp_in_nI (by omega) (by decide), _, rfl, mod2 _ (fun w3 h3 m1 => om_in (N := L) (by omega) (i64m (by omega)) (fun _ _ _ => bk_X12_crossed_44 ⟨fun y => absurd y (by decide), fun _ => ?_⟩) (fun hn => absurd rfl (hn.ne hj3 (by omega))))⟩, fun y => absurd (nI_lt hj3 (by omega)) y⟩⟩
      rw [em, nI_clamp (by omega)]
      exact ⟨vp_in_nI (by omega) (by decide), eqi ((m1.2.2.2.2.2.2.1 j2 j3 hj2 hj3).trans (hB.2.2.2.2.2.2.1 j2 j3 hj2 hj3).symm), h3.S⟩
theorem cUp.mk {w : hb_W} {L R c : Nat} {C : List Nat} {P : List (Nat × Nat × Nat)} (h : cUp w L R C c P) {b : Nat} (hb : b < 3) : hb_fR w 9 2 b < 2 ∧ hw_mk w (hb_fR w 9 2 b) (sp_mark C c) := h.mk0 hb
theorem hnot {x : Int32} (h : x < 0 ∨ nI 64 ≤ x) : nbad 64 x := h
theorem pr_told : hp_told Sim := by
  intro w x1 x2 hs
  obtain ⟨n, T, f1, f2, rf, L, R, rows, mix, r, li, op, h⟩ := hs
  refine bk_X11_told_0 (ok_bookNow h (fun h1 b w2 hb hx hU h2 => ?_) (fun h0 w2 h2 => bk_X11_told_5N (hb_iret (pc := 26) dX11_told_26 rfl ⟨-1, rfl, bk_X12_told_0 (om_bkN h2 h0 (bk_X12_told_5 ⟨fun _ => ⟨rfl, h2.S⟩, fun y => absurd rfl y⟩))⟩)))
  subst hx
  have hB := hU.2.2.2.2 b hb
  have hg9 : b < hb_ct 9 := Nat.lt_trans hb (by decide)
  refine bk_X11_told_5 hg9 (ok_isHood _ (fun j hj e => bk_X11_told_14 hg9 ⟨fun _ => ?_, fun y => absurd y (by decide)⟩) (fun hn => bk_X11_told_14 hg9 ⟨fun y => absurd rfl y, fun _ => bk_X11_told_26 hg9 ⟨_, rfl, bk_X12_told_0 (om_bkY h2 h1 hb (bk_X12_told_5 ⟨fun y => absurd y (by decide), fun _ => om_hdN hn (bk_X12_told_13 ⟨fun y => absurd rfl y, fun _ => ⟨rfl, h2.S⟩⟩)⟩))⟩⟩))
  subst e
  exact ok_toldOf (show b < 4 by omega) hj (hU.mk0 hb).1 (hU.mk0 hb).2 hB.H hB.2.2.2.2.2.2.1 (bk_X11_told_26 hg9 ⟨_, rfl, bk_X12_told_0 (om_bkY h2 h1 hb (bk_X12_told_5 ⟨fun y => absurd y (by decide), fun _ => om_hdY hj (bk_X12_told_13 ⟨fun _ => om_layZ h2 h1 hb (fun w3 m1 m2 h3 => bk_X12_told_23 (om_toldOf hj m2 m1 (bk_X12_told_28 ⟨rfl, h3.S⟩))), fun y => absurd y (by decide)⟩)⟩))⟩)
theorem pr_was : hp_was Sim := by
  intro w x1 x2 hs
  obtain ⟨n, T, f1, f2, rf, L, R, rows, mix, r, li, op, h⟩ := hs
  refine bk_X11_was_0 (ok_bookNow h (fun h1 b w2 hb hx hU h2 => ?_) (fun h0 w2 h2 => bk_X11_was_5N ⟨-1, rfl, bk_X12_was_0 (om_bkN h2 h0 (bk_X12_was_5 ⟨fun _ => ⟨rfl, h2.S⟩, fun y => absurd rfl y⟩))⟩))
  subst hx
  have hB := hU.2.2.2.2 b hb
  have hg9 : b < hb_ct 9 := Nat.lt_trans hb (by decide)
  refine bk_X11_was_5 hg9 (ok_isHood _ (fun j hj e => bk_X11_was_14 hg9 ⟨fun _ => ?_, fun y => absurd y (by decide)⟩) (fun hn => bk_X11_was_14 hg9 ⟨fun y => absurd rfl y, fun _ => ⟨_, rfl, bk_X12_was_0 (om_bkY h2 h1 hb (bk_X12_was_5 ⟨fun y => absurd y (by decide), fun _ => om_hdN hn (bk_X12_was_13 ⟨fun y => absurd rfl y, fun _ => ⟨rfl, h2.S⟩⟩)⟩))⟩⟩))
  subst e
  have mod : ∀ (Q : Option hb_V → hb_W → Prop), (∀ w3, zW w3 n T f1 f2 rf L R rows mix r li op → mB w3 L R (zk mix r) (sp_bk b r.1) → hm_mk w3 (zk mix r) → hb_R yX12_was cX12_was 3 (some .int) 1000 23 [some (hb_r 12 0 0), some (hb_i (nI b)), some (hb_i (nI j))] [] w3 Q) → hb_O yX12_was cX12_was 3 (some .int) 1000 [hb_r 12 0 0, hb_i (nI b), hb_i (nI j)] w2 Q := fun Q q => bk_X12_was_0 (om_bkY h2 h1 hb (bk_X12_was_5 ⟨fun y => absurd y (by decide), fun _ => om_hdY hj (bk_X12_was_13 ⟨fun _ => om_layZ h2 h1 hb (fun w3 m1 m2 h3 => q w3 h3 m1 m2), fun y => absurd y (by decide)⟩)⟩))
  refine ok_seemsThere (R := R) (show b < 4 by omega) hB.1.1 hB.1.2.1 hj hB.2.1 (hU.mk0 hb).1 (hU.mk0 hb).2 hB.2.2.2.2.2.2.2.1 (fun y => bk_X11_was_24 hg9 ⟨fun u => absurd u (by decide), fun _ => ⟨_, rfl, mod _ (fun w3 h3 m1 m2 => bk_X12_was_23 (om_wasThere hj m2 m1 (fun _ => bk_X12_was_28 ⟨fun u => absurd u (by decide), fun _ => ⟨rfl, h3.S⟩⟩) (fun u => absurd y u)))⟩⟩) (fun y => bk_X11_was_24 hg9 ⟨fun _ => ⟨_, rfl, mod _ (fun w3 h3 m1 m2 => bk_X12_was_23 (om_wasThere hj m2 m1 (fun u => absurd u y) (fun _ => bk_X12_was_28 ⟨fun _ => ⟨rfl, h3.S⟩, fun u => absurd rfl u⟩)))⟩, fun u => absurd rfl u⟩)
theorem pr_times : hp_times Sim := by
  intro w x1 x2 hs
  obtain ⟨n, T, f1, f2, rf, L, R, rows, mix, r, li, op, h⟩ := hs
  refine bk_X11_times_0 (ok_bookNow h (fun h1 b w2 hb hx hU h2 => ?_) (fun h0 w2 h2 => bk_X11_times_5N ⟨-1, rfl, bk_X12_times_0 (om_bkN h2 h0 (bk_X12_times_5 ⟨fun _ => ⟨rfl, h2.S⟩, fun y => absurd rfl y⟩))⟩))
  subst hx
  have hB := hU.2.2.2.2 b hb
  have hg9 : b < hb_ct 9 := Nat.lt_trans hb (by decide)
  refine bk_X11_times_5 hg9 (ok_isHood _ (fun j hj e => bk_X11_times_14 hg9 ⟨fun _ => ?_, fun y => absurd y (by decide)⟩) (fun hn => bk_X11_times_14 hg9 ⟨fun y => absurd rfl y, fun _ => ⟨_, rfl, bk_X12_times_0 (om_bkY h2 h1 hb (bk_X12_times_5 ⟨fun y => absurd y (by decide), fun _ => om_hdN hn (bk_X12_times_13 ⟨fun y => absurd rfl y, fun _ => ⟨rfl, h2.S⟩⟩)⟩))⟩⟩))
  subst e
  rw [nI_clamp (by omega)]
  refine ⟨vp_in_nI hj (by decide), _, rfl, bk_X12_times_0 (om_bkY h2 h1 hb (bk_X12_times_5 ⟨fun y => absurd y (by decide), fun _ => om_hdY hj (bk_X12_times_13 ⟨fun _ => om_layZ h2 h1 hb (fun w3 m1 m2 h3 => bk_X12_times_23 ?_), fun y => absurd y (by decide)⟩)⟩))⟩
  rw [nI_clamp (by omega)]
  exact ⟨vp_in_nI hj (by decide), eqi ((m1.2.2.2.1.2.1 j hj).trans (hB.2.2.2.1.2.2.1 j hj).symm), h3.S⟩
theorem pr_out : hp_out Sim := by
  intro w x1 x2 hs
  obtain ⟨n, T, f1, f2, rf, L, R, rows, mix, r, li, op, h⟩ := hs
  refine bk_X11_out_0 (ok_bookNow h (fun h1 b w2 hb hx hU h2 => ?_) (fun h0 w2 h2 => bk_X11_out_5N (hb_iret (pc := 26) dX11_out_26 rfl ⟨-1, rfl, bk_X12_out_0 (om_bkN h2 h0 (bk_X12_out_5 ⟨fun _ => ⟨rfl, h2.S⟩, fun y => absurd rfl y⟩))⟩)))
  subst hx
  have hB := hU.2.2.2.2 b hb
  have hg9 : b < hb_ct 9 := Nat.lt_trans hb (by decide)
  refine bk_X11_out_5 hg9 (ok_isKind _ (fun j hj e => bk_X11_out_14 hg9 ⟨fun _ => ?_, fun y => absurd y (by decide)⟩) (fun hn => bk_X11_out_14 hg9 ⟨fun y => absurd rfl y, fun _ => bk_X11_out_26 hg9 ⟨_, rfl, bk_X12_out_0 (om_bkY h2 h1 hb (bk_X12_out_5 ⟨fun y => absurd y (by decide), fun _ => om_in (N := 6) (by decide) (by decide) (fun j hj e => absurd e (nbad.ne hn hj (by decide))) (fun _ => bk_X12_out_17 ⟨fun y => absurd rfl y, fun _ => ⟨rfl, h2.S⟩⟩)⟩))⟩⟩))
  subst e
  exact ok_outBy (show b < 4 by omega) hj (hU.mk0 hb).1 (hU.mk0 hb).2 hB.H (fun _ => hB.2.2.2.2.1) (fun _ => hB.2.2.2.2.2.1) (fun _ => hB.2.2.2.2.2.2.1) (fun _ => hB.2.2.2.2.2.2.2.1) (bk_X11_out_26 hg9 ⟨_, rfl, bk_X12_out_0 (om_bkY h2 h1 hb (bk_X12_out_5 ⟨fun y => absurd y (by decide), fun _ => om_in (N := 6) (by decide) (by decide) (fun _ _ _ => bk_X12_out_17 ⟨fun _ => om_layZ h2 h1 hb (fun w3 m1 m2 h3 => bk_X12_out_27 (om_outBy hj m2 m1 (bk_X12_out_32 ⟨rfl, h3.S⟩))), fun y => absurd y (by decide)⟩) (fun hn => absurd rfl (hn.ne hj (by decide)))⟩))⟩)
