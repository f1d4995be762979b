/-! ===== pairs: least, run, often, crossed, bit, bin, sign ===== -/
theorem pr_run : hp_run Sim := by
  intro w x1 hs
  obtain ⟨n, T, f1, f2, rf, L, R, rows, mix, r, li, op, h⟩ := hs
  refine bk_X11_run_0 (ok_bookNow h (fun h1 b w2 hb hx hU h2 => ?_) (fun h0 w2 h2 => bk_X11_run_5N ⟨-1, rfl, bk_X12_run_0 (om_bkN h2 h0 (bk_X12_run_5 ⟨fun y => absurd rfl y, fun _ => ⟨rfl, h2.S⟩⟩))⟩))
  subst hx
  have hB := hU.2.2.2.2 b hb
  refine bk_X11_run_5 (show b < hb_ct 9 from Nat.lt_trans hb (by decide)) ⟨_, rfl, bk_X12_run_0 (om_bkY h2 h1 hb (bk_X12_run_5 ⟨fun _ => om_layZ h2 h1 hb (fun w3 m1 m2 h3 => bk_X12_run_15 ⟨eqi ?_, h3.S⟩), fun y => absurd y (by decide)⟩))⟩
  exact sp_run_one m1.2.2.2.2.2.1 hB.2.2.2.2.2.1
theorem pr_least : hp_least Sim := by
  intro w x1 x2 hs
  obtain ⟨n, T, f1, f2, rf, L, R, rows, mix, r, li, op, h⟩ := hs
  refine bk_X11_least_0 (ok_bookNow h (fun h1 b w2 hb hx hU h2 => ?_) (fun h0 w2 h2 => bk_X11_least_5N ⟨-1, rfl, bk_X12_least_0 (om_bkN h2 h0 (bk_X12_least_5 ⟨fun y => absurd rfl y, fun _ => ⟨rfl, h2.S⟩⟩))⟩))
  subst hx
  have hB := hU.2.2.2.2 b hb
  obtain ⟨l, l1, l2, l3, l4⟩ := hB.2.2.2.2.1
  have hl := l3.2.2.1
  have hL := hB.1.2.1
  have hg9 : b < hb_ct 9 := Nat.lt_trans hb (by decide)
  have mod : ∀ (Q : Option hb_V → hb_W → Prop), (∀ w3, zW w3 n T f1 f2 rf L R rows mix r li op → hb_fI w3 12 44 0 = nI l.length → (∀ k, k < l.length → hb_aI w3 12 23 0 k = nI (l.getD k 0)) → hb_R yX12_least cX12_least 3 (some .int) 1000 15 [some (hb_r 12 0 0), some (hb_i (nI b)), some (hb_i x2)] [] w3 Q) → hb_O yX12_least cX12_least 3 (some .int) 1000 [hb_r 12 0 0, hb_i (nI b), hb_i x2] w2 Q := by
    intro Q q
    refine bk_X12_least_0 (om_bkY h2 h1 hb (bk_X12_least_5 ⟨fun _ => om_layZ h2 h1 hb (fun w3 m1 m2 h3 => ?_), fun y => absurd y (by decide)⟩))
    obtain ⟨l', k1, k2, k3, k4⟩ := m1.2.2.2.2.1
    have e : l' = l := sp_least_one _ _ _ _ k3 l3
    subst e
    exact q w3 h3 k1 k2
  refine bk_X11_least_5 hg9 ?_
  rw [l1]
  rcases ixc x2 (N := l.length) (by omega) with hn | ⟨j, hj, rfl⟩
  · have M : pq yX12_least cX12_least 3 [hb_r 12 0 0, hb_i (nI b), hb_i x2] w2 (-1) := mod _ (fun w3 h3 k1 k2 => by
      refine bk_X12_least_15 ?_
      rw [k1]
      exact om_in (N := l.length) (by omega) (i64m (by omega)) (fun j hj e => absurd e (hn.ne hj (by omega))) (fun _ => bk_X12_least_28 ⟨fun _ => ⟨rfl, h3.S⟩, fun y => absurd rfl y⟩))
    exact ⟨fun _ => ⟨_, rfl, M⟩, fun y => ⟨fun y2 => (hn.lt y y2).elim, fun _ => ⟨_, rfl, M⟩⟩⟩
  · rw [nI_clamp (by omega)]
    refine ⟨fun y => absurd y (nI_pos (by omega)), fun _ => ⟨fun _ => ⟨vp_in_nI (by omega) (by decide), _, rfl, mod _ (fun w3 h3 k1 k2 => ?_)⟩, fun y => absurd (nI_lt hj (by omega)) y⟩⟩
    refine bk_X12_least_15 ?_
    rw [k1]
    refine om_in (N := l.length) (by omega) (i64m (by omega)) (fun _ _ _ => bk_X12_least_28 ⟨fun y => absurd y (by decide), fun _ => ?_⟩) (fun hn => absurd rfl (hn.ne hj (by omega)))
    rw [nI_clamp (by omega)]
    exact ⟨vp_in_nI (by omega) (by decide), eqi ((k2 j hj).trans (l2 j hj).symm), h3.S⟩
theorem pr_bin : hp_bin Sim := by
  intro w x1 x2 hs
  obtain ⟨n, T, f1, f2, rf, L, R, rows, mix, r, li, op, h⟩ := hs
  refine bk_X11_bin_0 (ok_bookNow h (fun h1 b w2 hb hx hU h2 => ?_) (fun h0 w2 h2 => bk_X11_bin_5N ⟨-1, rfl, bk_X12_bin_0 (om_bkN h2 h0 (bk_X12_bin_5 ⟨fun y => absurd rfl y, fun _ => ⟨rfl, h2.S⟩⟩))⟩))
  subst hx
  have hB := hU.2.2.2.2 b hb
  have hL := hB.1.2.1
  have hg9 : b < hb_ct 9 := Nat.lt_trans hb (by decide)
  refine bk_X11_bin_5 hg9 ?_
  rw [hB.2.1]
  rcases ixc x2 (N := L) (by omega) with hn | ⟨j, hj, rfl⟩
  · have M : pq yX12_bin cX12_bin 3 [hb_r 12 0 0, hb_i (nI b), hb_i x2] w2 (-1) := bk_X12_bin_0 (om_bkY h2 h1 hb (bk_X12_bin_5 ⟨fun _ => om_layZ h2 h1 hb (fun w3 m1 m2 h3 => bk_X12_bin_15 (by
      rw [m1.2.1]
      exact om_in (N := L) (by omega) (i64m (by omega)) (fun j hj e => absurd e (hn.ne hj (by omega))) (fun _ => bk_X12_bin_28 ⟨fun _ => ⟨rfl, h3.S⟩, fun y => absurd rfl y⟩))), fun y => absurd y (by decide)⟩))
    exact ⟨fun _ => ⟨_, rfl, M⟩, fun y => ⟨fun y2 => (hn.lt y y2).elim, fun _ => ⟨_, rfl, M⟩⟩⟩
  · rw [nI_clamp (by omega)]
    refine ⟨fun y => absurd y (nI_pos (by omega)), fun _ => ⟨fun _ => ⟨vp_in_nI (by omega) (by decide), _, rfl, bk_X12_bin_0 (om_bkY h2 h1 hb (bk_X12_bin_5 ⟨fun _ => om_layZ h2 h1 hb (fun w3 m1 m2 h3 => bk_X12_bin_15 ?_), fun y => absurd y (by decide)⟩))⟩, fun y => absurd (nI_lt hj (by omega)) y⟩⟩
    rw [m1.2.1]
    refine om_in (N := L) (by omega) (i64m (by omega)) (fun _ _ _ => bk_X12_bin_28 ⟨fun y => absurd y (by decide), fun _ => ?_⟩) (fun hn => absurd rfl (hn.ne hj (by omega)))
    rw [nI_clamp (by omega)]
    exact ⟨vp_in_nI (by omega) (by decide), eqi ((m1.2.2.2.1.2.2.2.1 j hj).trans (hB.2.2.2.1.2.2.2.2.2.1 j hj).symm), h3.S⟩
theorem pr_sign : hp_sign Sim := by
  intro w x1 x2 hs
  obtain ⟨n, T, f1, f2, rf, L, R, rows, mix, r, li, op, h⟩ := hs
  refine bk_X11_sign_0 (ok_bookNow h (fun h1 b w2 hb hx hU h2 => ?_) (fun h0 w2 h2 => bk_X11_sign_5N ⟨-1, rfl, bk_X12_sign_0 (om_bkN h2 h0 (bk_X12_sign_5 ⟨fun y => absurd rfl y, fun _ => ⟨rfl, h2.S⟩⟩))⟩))
  subst hx
  have hB := hU.2.2.2.2 b hb
  have hL := hB.1.2.1
  have hlen := hB.1.2.2.2.2.1
  have hg9 : b < hb_ct 9 := Nat.lt_trans hb (by decide)
  have hmk : ∀ x l, x < 64 → l < 9 → zk mix r x l < 1000 := fun x l hx hl => (hU.2.2.2.1 x l hx hl).2
  refine bk_X11_sign_5 hg9 ?_
  rw [hB.2.1, hB.2.2.2.1.1, show (0 : Int32) = nI 0 from rfl, nI_eq (by omega) (by decide)]
  rcases ixc x2 (N := L) (by omega) with hn | ⟨j, hj, rfl⟩
  · have M : pq yX12_sign cX12_sign 3 [hb_r 12 0 0, hb_i (nI b), hb_i x2] w2 (-1) := bk_X12_sign_0 (om_bkY h2 h1 hb (bk_X12_sign_5 ⟨fun _ => om_layZ h2 h1 hb (fun w3 m1 m2 h3 => bk_X12_sign_15 (by
      rw [m1.2.1]
      exact om_in (N := L) (by omega) (i64m (by omega)) (fun j hj e => absurd e (hn.ne hj (by omega))) (fun _ => bk_X12_sign_28 ⟨fun _ => ⟨rfl, h3.S⟩, fun y => absurd rfl y⟩))), fun y => absurd y (by decide)⟩))
    exact ⟨fun _ => ⟨_, rfl, M⟩, fun _ => ⟨fun _ => ⟨_, rfl, M⟩, fun y => ⟨fun y2 => (hn.lt y y2).elim, fun _ => ⟨_, rfl, M⟩⟩⟩⟩
  · obtain ⟨v, s1, s2, s3⟩ := hB.2.2.2.2.2.2.2.2 j hj
    have h1000 := sg_1000 s1 (fun x hx => hmk x j hx (by omega)) (fun p hp => (hB.1.2.2.2.2.2 p hp).1)
    have M : pq yX12_sign cX12_sign 3 [hb_r 12 0 0, hb_i (nI b), hb_i (nI j)] w2 (if v = 1000 then -1 else nI v) := bk_X12_sign_0 (om_bkY h2 h1 hb (bk_X12_sign_5 ⟨fun _ => om_layZ h2 h1 hb (fun w3 m1 m2 h3 => bk_X12_sign_15 (by
      rw [m1.2.1]
      refine om_in (N := L) (by omega) (i64m (by omega)) (fun _ _ _ => bk_X12_sign_28 ⟨fun y => absurd y (by decide), fun _ => ?_⟩) (fun hn => absurd rfl (hn.ne hj (by omega)))
      rw [nI_clamp (by omega)]
      obtain ⟨v', t1, t2, t3⟩ := m1.2.2.2.2.2.2.2.2 j hj
      have e : v' = v := sp_sg_one t1 s1
      subst e
      exact ⟨vp_in_nI (by omega) (by decide), eqi t3, h3.S⟩)), fun y => absurd y (by decide)⟩))
    rw [nI_clamp (by omega)]
    refine ⟨fun y => ?_, fun y => ⟨fun y2 => absurd y2 (nI_pos (by omega)), fun _ => ⟨fun _ => ⟨vp_in_nI (by omega) (by decide), ?_⟩, fun y => absurd (nI_lt hj (by omega)) y⟩⟩⟩
    · rw [if_pos (h1000.mpr y)] at M
      exact ⟨_, rfl, M⟩
    · rw [if_neg (fun e => y (h1000.mp e)), ← s2] at M
      exact ⟨_, rfl, M⟩
theorem pr_bit : hp_bit Sim := by
  intro w x1 x2 hs
  obtain ⟨n, T, f1, f2, rf, L, R, rows, mix, r, li, op, h⟩ := hs
  refine bk_X11_bit_0 (ok_bookNow h (fun h1 b w2 hb hx hU h2 => ?_) (fun h0 w2 h2 => bk_X11_bit_5N ⟨-1, rfl, bk_X12_bit_0 (om_bkN h2 h0 (bk_X12_bit_5 ⟨fun y => absurd rfl y, fun _ => ⟨rfl, h2.S⟩⟩))⟩))
  subst hx
  have hB := hU.2.2.2.2 b hb
  have hL := hB.1.2.1
  have hg9 : b < hb_ct 9 := Nat.lt_trans hb (by decide)
  have e8 : (8 : Int32) * nI L = nI (8 * L) := pk_mul 8 L
  refine bk_X11_bit_5 hg9 ?_
  rw [hB.2.1, e8]
  rcases ixc x2 (N := 8 * L) (by omega) with hn | ⟨j, hj, rfl⟩
  · have M : pq yX12_bit cX12_bit 3 [hb_r 12 0 0, hb_i (nI b), hb_i x2] w2 (-1) := bk_X12_bit_0 (om_bkY h2 h1 hb (bk_X12_bit_5 ⟨fun _ => om_layZ h2 h1 hb (fun w3 m1 m2 h3 => bk_X12_bit_15 (by
      rw [m1.2.1, e8]
      exact om_in (N := 8 * L) (by omega) (i64m (by omega)) (fun j hj e => absurd e (hn.ne hj (by omega))) (fun _ => bk_X12_bit_31 ⟨fun y => absurd rfl y, fun _ => ⟨rfl, h3.S⟩⟩))), fun y => absurd y (by decide)⟩))
    exact ⟨fun _ => ⟨_, rfl, M⟩, fun y => ⟨fun y2 => (hn.lt y y2).elim, fun _ => ⟨_, rfl, M⟩⟩⟩
  · rw [nI_clamp (by omega)]
    refine ⟨fun y => absurd y (nI_pos (by omega)), fun _ => ⟨fun _ => ⟨vp_in_nI (by omega) (by decide), _, rfl, bk_X12_bit_0 (om_bkY h2 h1 hb (bk_X12_bit_5 ⟨fun _ => om_layZ h2 h1 hb (fun w3 m1 m2 h3 => bk_X12_bit_15 ?_), fun y => absurd y (by decide)⟩))⟩, fun y => absurd (nI_lt hj (by omega)) y⟩⟩
    rw [m1.2.1, e8]
    refine om_in (N := 8 * L) (by omega) (i64m (by omega)) (fun _ _ _ => bk_X12_bit_31 ⟨fun _ => ?_, fun y => absurd y (by decide)⟩) (fun hn => absurd rfl (hn.ne hj (by omega)))
    rw [nI_clamp (by omega)]
    refine ⟨vp_in_nI (by omega) (by decide), ?_⟩
    rcases hB.2.2.2.2.2.2.2.1 j hj with ⟨c1, c2⟩ | ⟨c1, c2⟩
    · rcases m1.2.2.2.2.2.2.2.1 j hj with ⟨t1, t2⟩ | ⟨t1, t2⟩
      · rw [t2, c2]
        exact ⟨fun y => absurd y (by decide), fun _ => ⟨rfl, h3.S⟩⟩
      · exact absurd c1 t1
    · rcases m1.2.2.2.2.2.2.2.1 j hj with ⟨t1, t2⟩ | ⟨t1, t2⟩
      · exact absurd t1 c1
      · rw [t2, c2]
        exact ⟨fun _ => ⟨rfl, h3.S⟩, fun y => absurd rfl y⟩
