/-! ===== pairs: fault, status, octet, lot, passed; changes of parts of the state ===== -/
section HZD
variable {d : Nat} {Q : Option hb_V → hb_W → Prop} {w w2 : hb_W} {n n2 : Nat} {T T2 : Nat → Nat} {f1 f2 f3 f4 : Int32} {rf rf2 : Nat → Int32} {L R : Nat} {rows : List wT} {mix : Option (List Nat)} {r r2 : rT} {li li2 : List Int32} {op op2 : Int32} {Pp : Nat → Nat → Prop} {K J : List Nat}
theorem zC.re (h : zC w n T f1 f2 rf L R rows r li op) (ha : hw_ag Pp w w2) (p2 : ∀ g, g < 2 → ¬ Pp 2 (g + 1)) (p11 : ∀ g, g < 2 → ¬ Pp 11 g) (e8 : hb_fR w2 0 8 0 = hb_fR w 0 8 0) (e9 : hb_fR w2 0 9 0 = hb_fR w 0 9 0) (k1 : cTx w2 T2 n2) (k2 : hb_fI w2 0 11 0 = f3 ∧ hb_fI w2 0 12 0 = f4 ∧ ∀ k, k < 6 → hb_aI w2 0 1 0 k = rf2 k) (k3 : hb_fI w2 0 10 0 = op2) (k4 : cRl w2 r2) (k5 : cIm w2 li2) : zC w2 n2 T2 f3 f4 rf2 L R rows r2 li2 op2 := by
  obtain ⟨h1, h2, h5, h6, h7, h8, h9, h10, h11, h12⟩ := h
  have f := fun k => ha.1 11 k (hb_fR w 0 8 0) (p11 _ h5.1)
  unfold zC
  rw [e8, e9]
  exact ⟨k1, k2, h5, k3, k4, k5, by rw [f]; exact h9, by rw [f]; exact h10, by rw [f]; exact h11, fun k x hk => (h12 k x hk).ag ha (p2 _ h5.1) (p11 _ h5.1)⟩
theorem zM.re (h : zM w n T f1 f2 rf L R rows mix r li op) (ha : hm_ag K J w w2) (hK : ¬ 23 ∈ K) (hJ : ∀ x ∈ [13, 14, 15, 16, 17], ¬ x ∈ J) (hV : ∀ q ∈ wd_voc, ¬ q.1 ∈ J) (k1 : mTx w2 T2 n2 ∧ hb_fI w2 12 1 0 = nI n2) (k2 : hb_fI w2 12 7 0 = f3 ∧ hb_fI w2 12 8 0 = f4 ∧ ∀ k, k < 6 → hb_aI w2 12 2 0 k = rf2 k) (k3 : hb_fI w2 12 30 0 = op) (k4 : mRl w2 r2) (k5 : mIm w2 li2) : zM w2 n2 T2 f3 f4 rf2 L R rows mix r2 li2 op := by
  obtain ⟨_, _, h6, h7, h8, h9, ⟨h10, h11, h12, h13⟩, h14⟩ := h
  have i14 := hJ 14 (by decide)
  have i15 := hJ 15 (by decide)
  have i16 := hJ 16 (by decide)
  have i17 := hJ 17 (by decide)
  exact ⟨k1, k2, k3, k4, k5, h9.ag ha hV, ⟨by rw [ha.A 13 (hJ 13 (by decide))]; exact h10, by rw [ha.A 13 (hJ 13 (by decide))]; exact h11, by rw [ha.I 23 hK]; exact h12, fun k x hk => (h13 k x hk).ag ha i14 i15 i16 i17⟩, fun y => (h14 y).ag ha i15 i16 i17⟩
/-- the class has refused, the model not yet -/
theorem zW.rc {k : Nat} (h : zW w n T f1 f2 rf L R rows mix r li op) : zC (hb_sI w 0 1 0 (upd (hb_aI w 0 1 0) k (hb_aI w 0 1 0 k + 1))) n T f1 f2 (fun i => if i = k then hb_aI w 0 1 0 k + 1 else rf i) L R rows r li op ∧ zS (hb_sI w 0 1 0 (upd (hb_aI w 0 1 0) k (hb_aI w 0 1 0 k + 1))) L R mix r op ∧ zM (hb_sI w 0 1 0 (upd (hb_aI w 0 1 0) k (hb_aI w 0 1 0 k + 1))) n T f1 f2 rf L R rows mix r li op ∧ zV L R rows r op := by
  have ha : hw_ag (fun t _ => t = 0) w (hb_sI w 0 1 0 (upd (hb_aI w 0 1 0) k (hb_aI w 0 1 0 k + 1))) := hw_ag.rf.sI rfl
  obtain ⟨hC, hS, hM, hV⟩ := h
  refine ⟨hC.re ha (fun _ _ => by decide) (fun _ _ => by decide) rfl rfl (hC.1.ag ha (by decide)) ⟨hC.2.1.1, hC.2.1.2.1, fun i hi => ?_⟩ hC.2.2.2.1 (hC.2.2.2.2.1.ag ha (by decide)) (hC.2.2.2.2.2.1.ag ha (by decide)), ?_, hM.agc ha (by decide), hV⟩
  · rw [hw_aIs]
    by_cases e : i = k
    · subst e
      rw [if_pos rfl]
      exact pk_us
    · rw [if_neg e]
      exact (pk_un e).trans (hC.2.1.2.2 i hi)
  · obtain ⟨s1, ⟨mk, s2⟩, s3⟩ := hS
    have hg := hC.2.2.1.1
    exact ⟨s1.ag ha (fun _ => by decide), ⟨mk, s2.ag ha (by decide)⟩, fun y => ⟨(s3 y).1.ag ha (by decide) (by decide), (s3 y).2.ag ha (by decide) (by decide) (fun _ => by decide)⟩⟩
/-- now the model has refused too -/
theorem zW.rm {k : Nat} {v : Int32} (hk : k < 6) (hC : zC w n T f1 f2 (fun i => if i = k then v else rf i) L R rows r li op) (hS : zS w L R mix r op) (hM : zM w n T f1 f2 rf L R rows mix r li op) (hV : zV L R rows r op) (hv : v = rf k + 1) : zW (hb_sI w 12 2 0 (upd (hb_aI w 12 2 0) k (hb_aI w 12 2 0 k + 1))) n T f1 f2 (fun i => if i = k then v else rf i) L R rows mix r li op := by
  have ha : hm_ag [] [2] w (hb_sI w 12 2 0 (upd (hb_aI w 12 2 0) k (hb_aI w 12 2 0 k + 1))) := hm_ag.rf.sI (by decide)
  have hc := ha.c
  refine ⟨hC.ag hc (by decide) (by decide) (fun _ _ => by decide) (by decide) (by decide) (fun _ _ => by decide), hS.ag hc hC.2.2.1.1 (by decide) (fun _ _ => by decide) (fun _ _ => by decide) (fun _ => by decide) (by decide) (fun _ => by decide), hM.re ha (by decide) (by decide) (by decide) ⟨hM.1.1.ag ha (by decide), hM.1.2⟩ ⟨hM.2.1.1, hM.2.1.2.1, fun i hi => ?_⟩ hM.2.2.1 (hM.2.2.2.1.ag ha (by decide) (by decide) (by decide) (by decide) (by decide) (by decide)) (hM.2.2.2.2.1.ag ha (by decide) (by decide)), hV⟩
  rw [oa_s]
  by_cases e : i = k
  · subst e
    rw [if_pos rfl, hv, ← hM.2.1.2.2 i hk]
    exact pk_us
  · rw [if_neg e]
    exact (pk_un e).trans (hM.2.1.2.2 i hi)
/-- both refuse -/
theorem zW.ref {k : Nat} (hk : k < 6) (h : zW w n T f1 f2 rf L R rows mix r li op) : Sim (hb_sI (hb_sI w 0 1 0 (upd (hb_aI w 0 1 0) k (hb_aI w 0 1 0 k + 1))) 12 2 0 (upd (hb_aI (hb_sI w 0 1 0 (upd (hb_aI w 0 1 0) k (hb_aI w 0 1 0 k + 1))) 12 2 0) k (hb_aI (hb_sI w 0 1 0 (upd (hb_aI w 0 1 0) k (hb_aI w 0 1 0 k + 1))) 12 2 0 k + 1))) := by
  obtain ⟨a, b, c, e⟩ := h.rc (k := k)
  exact (zW.rm hk a b c e (by rw [h.1.2.1.2.2 k hk])).S
end HZD
theorem pr_fault : hp_fault Sim := by
  intro w x hs
  obtain ⟨n, T, f1, f2, rf, L, R, rows, mix, r, li, op, h⟩ := hs
  have c1 := h.1.2.1
  have m1 := h.2.2.1.2.1
  refine bk_X11_fault_0 ⟨fun e => ?_, fun e => ?_, fun e0 e1 => ⟨_, rfl, bk_X12_fault_0 ⟨fun _ => ⟨fun _ => ⟨rfl, h.S⟩, fun y => absurd y e1⟩, fun y => absurd y e0⟩⟩⟩
  · subst e
    exact ⟨_, rfl, bk_X12_fault_0 ⟨fun y => absurd rfl y, fun _ => ⟨eqi (m1.1.trans c1.1.symm), h.S⟩⟩⟩
  · subst e
    exact ⟨_, rfl, bk_X12_fault_0 ⟨fun _ => ⟨fun y => absurd rfl y, fun _ => ⟨eqi (m1.2.1.trans c1.2.1.symm), h.S⟩⟩, fun y => absurd y (by decide)⟩⟩
theorem pr_status : hp_status Sim := by
  intro w x hs
  obtain ⟨n, T, f1, f2, rf, L, R, rows, mix, r, li, op, h⟩ := hs
  rcases ixc x (N := 6) (by decide) with hn | ⟨j, hj, rfl⟩
  · have M : pq yX12_status cX12_status 2 [hb_r 12 0 0, hb_i x] w (-1) := bk_X12_status_0 (om_in (N := 6) (by decide) (by decide) (fun j hj e => absurd e (hn.ne hj (by decide))) (fun _ => bk_X12_status_9 ⟨fun _ => ⟨rfl, h.S⟩, fun y => absurd rfl y⟩))
    exact bk_X11_status_0 ⟨fun _ => ⟨_, rfl, M⟩, fun y => ⟨fun y2 => (hn.lt y y2).elim, fun _ => ⟨_, rfl, M⟩⟩⟩
  · refine bk_X11_status_0 ⟨fun y => absurd y (nI_pos (by omega)), fun _ => ⟨fun _ => ?_, fun y => absurd (nI_lt (b := 6) hj (by decide)) y⟩⟩
    rw [nI_clamp (by omega)]
    refine ⟨vp_in_nI hj (by decide), _, rfl, bk_X12_status_0 (om_in (N := 6) (by decide) (by decide) (fun _ _ _ => bk_X12_status_9 ⟨fun y => absurd y (by decide), fun _ => ?_⟩) (fun hn => absurd rfl (hn.ne hj (by decide))))⟩
    rw [nI_clamp (by omega)]
    exact ⟨vp_in_nI hj (by decide), eqi ((h.2.2.1.2.1.2.2 j hj).trans (h.1.2.1.2.2 j hj).symm), h.S⟩
theorem pr_octet : hp_octet Sim := by
  intro w x hs
  obtain ⟨n, T, f1, f2, rf, L, R, rows, mix, r, li, op, h⟩ := hs
  obtain ⟨c1, c2, c3⟩ := h.1.2.2.2.2.2.1
  obtain ⟨m1, m2, m3⟩ := h.2.2.1.2.2.2.2.1
  refine bk_X11_octet_0 ?_
  rw [c1]
  rcases ixc x (N := li.length) (by omega) with hn | ⟨j, hj, rfl⟩
  · have M : pq yX12_octet cX12_octet 2 [hb_r 12 0 0, hb_i x] w (-1) := bk_X12_octet_0 (by
      rw [m1]
      exact ⟨fun _ => ⟨rfl, h.S⟩, fun y => ⟨fun _ => ⟨rfl, h.S⟩, fun y2 => (hn.le y y2).elim⟩⟩)
    exact ⟨fun _ => ⟨_, rfl, M⟩, fun y => ⟨fun y2 => (hn.lt y y2).elim, fun _ => ⟨_, rfl, M⟩⟩⟩
  · have hg : li[j]? = some li[j] := List.getElem?_eq_getElem hj
    rw [nI_clamp (by omega)]
    refine ⟨fun y => absurd y (nI_pos (by omega)), fun _ => ⟨fun _ => ⟨vp_in_nI (by omega) (by decide), _, rfl, bk_X12_octet_0 ?_⟩, fun y => absurd (nI_lt hj (by omega)) y⟩⟩
    rw [m1, nI_clamp (by omega)]
    exact ⟨fun y => absurd y (nI_pos (by omega)), fun _ => ⟨fun y => absurd y (nI_ge hj (by omega)), fun _ => ⟨vp_in_nI (by omega) (by decide), eqi ((m3 j _ hg).trans (c3 j _ hg).symm), h.S⟩⟩⟩
theorem pr_lot : hp_lot Sim := by
  intro w x hs
  obtain ⟨n, T, f1, f2, rf, L, R, rows, mix, r, li, op, h⟩ := hs
  have hL9 := h.2.2.2.2.2.1.1
  have hl := h.1.2.2.2.2.2.2.1
  have hg := h.1.2.2.1.1
  have hm := h.2.2.1.2.2.2.2.2.2.1.1
  have e30 : hb_fI w 12 30 0 = op := h.2.2.1.2.2.1
  have hlen := h.2.2.2.1.1
  have e2 : hb_aI w 12 13 0 (2 : Int32).toNatClampNeg = nI L := hm
  refine bk_X11_lot_0 ?_
  rw [hl, h.1.2.2.2.2.1.2.1]
  rcases ixc x (N := L) (by omega) with hn | ⟨j, hj, rfl⟩
  · have M : pq yX12_lot cX12_lot 2 [hb_r 12 0 0, hb_i x] w (-1) := bk_X12_lot_0 ⟨fun _ => ⟨rfl, h.S⟩, fun _ => (by
      rw [e2]
      exact om_in (N := L) (by omega) (i64m (by omega)) (fun j hj e => absurd e (hn.ne hj (by omega))) (fun _ => bk_X12_lot_22 ⟨fun _ => ⟨rfl, h.S⟩, fun y => absurd rfl y⟩))⟩
    exact ⟨fun _ => ⟨_, rfl, M⟩, fun y => ⟨hg, fun _ => ⟨_, rfl, M⟩, fun y2 => (hn.le y y2).elim⟩⟩
  · have h1 : op = 1 := by
      rcases h.2.2.2.2.2.2.2 with y | y
      · omega
      · exact y.1
    have el : (2 : Int32) + nI j = nI (2 + j) := nI_add 2 j
    have M : pq yX12_lot cX12_lot 2 [hb_r 12 0 0, hb_i (nI j)] w (r.2.2.1 j) := bk_X12_lot_0 ⟨fun y => absurd (e30.symm.trans y) (by rw [h1]; decide), fun _ => (by
      rw [e2]
      refine om_in (N := L) (by omega) (i64m (by omega)) (fun _ _ _ => bk_X12_lot_22 ⟨fun y => absurd y (by decide), fun _ => ?_⟩) (fun hn => absurd rfl (hn.ne hj (by omega)))
      rw [el, nI_clamp (by omega)]
      exact ⟨vp_in_nI (by omega) (by decide), eqi (h.2.2.1.2.2.2.1.2.2.2.2.2.2.1 j (by omega)), h.S⟩)⟩
    rw [nI_clamp (by omega), show (0 : Int32) = nI 0 from rfl, nI_eq (by omega) (by decide)]
    refine ⟨fun y => absurd y (nI_pos (by omega)), fun _ => ⟨hg, fun y => absurd y (nI_ge hj (by omega)), fun _ => ⟨fun _ => ⟨vp_in_nI (by omega) (by decide), ?_⟩, fun y => ?_⟩⟩⟩
    · rw [h.1.2.2.2.2.1.2.2.2.2.2.2.1 j (by omega)]
      exact ⟨_, rfl, M⟩
    · rw [h.2.2.2.1.2.2.1.2.2 y j (by omega)] at M
      exact ⟨_, rfl, M⟩
theorem pr_passed : hp_passed Sim := by
  intro w x1 x2 hs
  obtain ⟨n, T, f1, f2, rf, L, R, rows, mix, r, li, op, h⟩ := hs
  have hlen := h.2.2.2.1.1
  have hP := h.1.2.2.2.2.1.1
  have mP0 := h.2.2.1.2.2.2.1.1
  have e1 : hb_aI w 12 18 0 (1 : Int32).toNatClampNeg = nI r.1.length := h.2.2.1.2.2.2.1.2.1
  refine bk_X11_passed_0 ?_
  rw [h.1.2.2.2.2.1.2.1]
  rcases ixc x1 (N := r.1.length) (by omega) with hn | ⟨j, hj, rfl⟩
  · have M : pq yX12_passed cX12_passed 3 [hb_r 12 0 0, hb_i x1, hb_i x2] w (-1) := bk_X12_passed_0 (by
      rw [e1]
      exact om_in (N := r.1.length) (by omega) (i64m (by omega)) (fun j hj e => absurd e (hn.ne hj (by omega))) (fun _ => bk_X12_passed_15 ⟨fun _ => ⟨rfl, h.S⟩, fun y => absurd rfl y⟩))
    exact ⟨fun _ => ⟨_, rfl, M⟩, fun y => ⟨fun y2 => (hn.lt y y2).elim, fun _ => ⟨_, rfl, M⟩⟩⟩
  · have hg : r.1[j]? = some r.1[j] := List.getElem?_eq_getElem hj
    obtain ⟨c1, c2, c3⟩ := hP j _ hg
    obtain ⟨m1, m2, m3⟩ := mP0 j _ hg
    have vj : vp_in (nI j) 400 := vp_in_nI (by omega) (by decide)
    have mod : ∀ (Q : Option hb_V → hb_W → Prop), hb_R yX12_passed cX12_passed 3 (some .int) 1000 15 [some (hb_r 12 0 0), some (hb_i (nI j)), some (hb_i x2)] [hb_i 1] w Q → hb_O yX12_passed cX12_passed 3 (some .int) 1000 [hb_r 12 0 0, hb_i (nI j), hb_i x2] w Q := by
      intro Q q
      refine bk_X12_passed_0 ?_
      rw [e1]
      exact om_in (N := r.1.length) (by omega) (i64m (by omega)) (fun _ _ _ => q) (fun hn => absurd rfl (hn.ne hj (by omega)))
    have mod2 : ∀ (i : Nat) (v : Int32), i < 3 → x2 = nI i → hb_aI w 12 19 0 (3 * j + i) = v → pq yX12_passed cX12_passed 3 [hb_r 12 0 0, hb_i (nI j), hb_i x2] w v := by
      intro i v hi hx hv
      subst hx
      refine mod _ (bk_X12_passed_15 ⟨fun y => absurd y (by decide), fun _ => om_in (N := 3) (by decide) (by decide) (fun _ _ _ => bk_X12_passed_27 ⟨fun y => absurd y (by decide), fun _ => ?_⟩) (fun hn => absurd rfl (hn.ne hi (by decide)))⟩)
      have e : (3 : Int32) * nI j + nI i = nI (3 * j + i) := by rw [show (3 : Int32) = nI 3 from rfl, pk_mul, nI_add]
      rw [e, nI_clamp (by omega)]
      exact ⟨vp_in_nI (by omega) (by decide), eqi hv, h.S⟩
    rw [nI_clamp (by omega)]
    refine ⟨fun y => absurd y (nI_pos (by omega)), fun _ => ⟨fun _ => ⟨fun e => ⟨vj, _, rfl, mod2 0 _ (by decide) e (m1.trans c1.symm)⟩, fun e => ⟨vj, _, rfl, mod2 1 _ (by decide) e (m2.trans c2.symm)⟩, fun e => ⟨vj, _, rfl, mod2 2 _ (by decide) e (m3.trans c3.symm)⟩, fun n0 n1 n2 => ⟨_, rfl, mod _ (bk_X12_passed_15 ⟨fun y => absurd y (by decide), fun _ => om_in (N := 3) (by decide) (by decide) (fun i hi e => ?_) (fun _ => bk_X12_passed_27 ⟨fun _ => ⟨rfl, h.S⟩, fun y => absurd rfl y⟩)⟩)⟩⟩, fun y => absurd (nI_lt hj (by omega)) y⟩⟩
    exfalso
    have : i = 0 ∨ i = 1 ∨ i = 2 := by omega
    rcases this with rfl | rfl | rfl
    · exact n0 e
    · exact n1 e
    · exact n2 e
