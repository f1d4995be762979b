/-! ===== pairs: end, seed, image, pass, toss ===== -/
theorem cLd.app {w : hb_W} {L R : Nat} {C : List Nat} {P P2 : List (Nat × Nat × Nat)} (h : cLd w L R C P) : cLd w L R C (P ++ P2) := by
  obtain ⟨h1, h2, h3⟩ := h
  refine ⟨h1, h2, ?_⟩
  rcases h3 with h3 | ⟨m, k, a1, a2, a3, a4, a5⟩
  · exact Or.inl h3
  · refine Or.inr ⟨m, k, a1, a2, by rw [List.length_append]; omega, a4, fun b hb => ?_⟩
    rw [List.take_append_of_le_length a3]
    exact a5 b hb
def pqb (y : MethodName) (cc : ByteArray) (nL : Nat) (As : List hb_V) (w : hb_W) (v : Int32) : Prop := hb_O y cc nL (some .boolean) 1000 As w (fun rv2 w2 => rv2 = some (hb_i v) ∧ Sim w2)
section HZE
variable {d : Nat} {Q : Option hb_V → hb_W → Prop} {w w2 : hb_W} {n : Nat} {T : Nat → Nat} {f1 f2 : Int32} {rf : Nat → Int32} {L R : Nat} {rows : List wT} {mix : Option (List Nat)} {r r2 : rT} {li : List Int32} {op : Int32} {Pp : Nat → Nat → Prop} {K J : List Nat}
/-- the class's roll has changed, the model's not yet -/
theorem zW.rollc (h : zW w n T f1 f2 rf L R rows mix r li op) (ha : hw_ag Pp w w2) (hp : ∀ t g, Pp t g → t = 6 ∨ t = 7 ∨ t = 8) (hR : cRl w2 r2) (hl : op = 1 → cLd w2 L R (sp_mxC mix) r2.1) : zC w2 n T f1 f2 rf L R rows r2 li op ∧ zS w2 L R mix r2 op ∧ zM w2 n T f1 f2 rf L R rows mix r li op := by
  have n0 : ¬ Pp 0 0 := fun y => by have := hp _ _ y; omega
  have n1 : ¬ Pp 1 0 := fun y => by have := hp _ _ y; omega
  have n2 : ∀ g, g < 2 → ¬ Pp 2 (g + 1) := fun g _ y => by have := hp _ _ y; omega
  have n5 : ∀ g, ¬ Pp 5 g := fun g y => by have := hp _ _ y; omega
  have n9 : ∀ g, ¬ Pp 9 g := fun g y => by have := hp _ _ y; omega
  have n10 : ¬ Pp 10 0 := fun y => by have := hp _ _ y; omega
  have n11 : ∀ g, g < 2 → ¬ Pp 11 g := fun g _ y => by have := hp _ _ y; omega
  have n12 : ¬ Pp 12 0 := fun y => by have := hp _ _ y; omega
  obtain ⟨hC, hS, hM, hV⟩ := h
  have hg := hC.2.2.1.1
  have e8 : hb_fR w2 0 8 0 = hb_fR w 0 8 0 := ha.2.2.1 0 8 0 n0
  have e := fun k => ha.1 0 k 0 n0
  obtain ⟨s1, ⟨mk, s2⟩, s3⟩ := hS
  refine ⟨hC.re ha n2 n11 e8 (ha.2.2.1 0 9 0 n0) (hC.1.ag ha n1) ⟨by rw [e]; exact hC.2.1.1, by rw [e]; exact hC.2.1.2.1, by rw [ha.2.2.2.1 0 1 0 n0]; exact hC.2.1.2.2⟩ (by rw [e]; exact hC.2.2.2.1) hR (hC.2.2.2.2.2.1.ag ha n10), ⟨s1.ag ha n9, ⟨mk, s2.ag ha (n5 1)⟩, fun y => ⟨?_, hl y⟩⟩, hM.agc ha n12⟩
  rw [e8]
  exact (s3 y).1.ag ha (n2 _ hg) (n11 _ hg)
/-- now the model's too -/
theorem zW.rollm (hC : zC w n T f1 f2 rf L R rows r2 li op) (hS : zS w L R mix r2 op) (hM : zM w n T f1 f2 rf L R rows mix r li op) (hV : zV L R rows r2 op) (ha : hm_ag K J w w2) (hK : ∀ x ∈ [1, 7, 8, 23, 30, 90], ¬ x ∈ K) (hJ : ∀ x ∈ [1, 2, 13, 14, 15, 16, 17, 57], ¬ x ∈ J) (hW : ∀ q ∈ wd_voc, ¬ q.1 ∈ J) (hR : mRl w2 r2) : zW w2 n T f1 f2 rf L R rows mix r2 li op := by
  have hc := ha.c
  refine ⟨hC.ag hc (by decide) (by decide) (fun _ _ => by decide) (by decide) (by decide) (fun _ _ => by decide), hS.ag hc hC.2.2.1.1 (by decide) (fun _ _ => by decide) (fun _ _ => by decide) (fun _ => by decide) (by decide) (fun _ => by decide), hM.re ha (hK 23 (by decide)) (fun x hx => hJ x (by revert x; decide)) hW ⟨hM.1.1.ag ha (hJ 1 (by decide)), by rw [ha.I 1 (hK 1 (by decide))]; exact hM.1.2⟩ ⟨by rw [ha.I 7 (hK 7 (by decide))]; exact hM.2.1.1, by rw [ha.I 8 (hK 8 (by decide))]; exact hM.2.1.2.1, by rw [ha.A 2 (hJ 2 (by decide))]; exact hM.2.1.2.2⟩ (by rw [ha.I 30 (hK 30 (by decide))]; exact hM.2.2.1) hR (hM.2.2.2.2.1.ag ha (hK 90 (by decide)) (hJ 57 (by decide))), hV⟩
theorem om_refuses {k : Nat} (hk : k < 6) (q : Q (some (hb_i (-1))) (hb_sI w 12 2 0 (upd (hb_aI w 12 2 0) k (hb_aI w 12 2 0 k + 1)))) : hb_O yX12_refuses cX12_refuses 2 (some .int) d [hb_r 12 0 0, hb_i (nI k)] w Q := by
  have v : vp_in (nI k) 6 := vp_in_nI hk (by decide)
  refine bk_X12_refuses_0 ⟨v, v, ?_⟩
  rw [nI_clamp (by omega)]
  exact q
end HZE
theorem pr_end : hp_end Sim := by
  intro w x hs
  obtain ⟨n, T, f1, f2, rf, L, R, rows, mix, r, li, op, h⟩ := hs
  have hn := h.1.1.2.1
  have c1 := h.1.1.1
  have m1 := h.2.2.1.1.2
  have bad : nbad (n + 1) x → hb_O yX11_end cX11_end 2 (some .boolean) 1000 [hb_r 0 0 0, hb_i x] w (fun rv w1 => ∃ r : Int32, rv = some (hb_i r) ∧ hb_O yX12_end cX12_end 2 (some .boolean) 1000 [hb_r 12 0 0, hb_i x] w1 (fun rv2 w2 => rv2 = some (hb_i r) ∧ Sim w2)) := by
    intro hb
    have M : ∃ r : Int32, (some (hb_i 0) : Option hb_V) = some (hb_i r) ∧ hb_O yX12_end cX12_end 2 (some .boolean) 1000 [hb_r 12 0 0, hb_i x] (hb_sI w 0 1 0 (upd (hb_aI w 0 1 0) 0 (hb_aI w 0 1 0 0 + 1))) (fun rv2 w2 => rv2 = some (hb_i r) ∧ Sim w2) := by
      refine ⟨_, rfl, bk_X12_end_0 ⟨fun _ => ⟨rfl, h.ref (k := 0) (by decide)⟩, fun y => ⟨fun y2 => ?_, fun _ => ⟨rfl, h.ref (k := 0) (by decide)⟩⟩⟩⟩
      exfalso
      have y3 : x ≤ nI n := by rw [← m1]; exact y2
      obtain ⟨j, hj, rfl⟩ := nI_of y
      rw [nI_leI hj (by omega)] at y3
      exact hb.ne (j := j) (by omega) (by omega) rfl
    refine bk_X11_end_0 ?_
    rw [c1]
    refine ⟨fun _ => ok_refuse (k := 0) (by decide) (bk_X11_end_20 M), fun y => ⟨fun y2 => ?_, fun _ => ok_refuse (k := 0) (by decide) (bk_X11_end_20 M)⟩⟩
    exfalso
    obtain ⟨j, hj, rfl⟩ := nI_of y
    rw [nI_leI hj (by omega)] at y2
    exact hb.ne (j := j) (by omega) (by omega) rfl
  rcases ixc x (N := n + 1) (by omega) with hb | ⟨j, hj, rfl⟩
  · exact bad hb
  · refine bk_X11_end_0 ?_
    rw [c1, nI_leI (by omega) (by omega)]
    refine ⟨fun y => absurd y (nI_pos (by omega)), fun _ => ⟨fun _ => ⟨_, rfl, bk_X12_end_0 ?_⟩, fun y => absurd (show j ≤ n by omega) y⟩⟩
    have ha : hw_ag (fun t _ => t = 1) w (hb_pI w 1 1 0 (nI j)) := hw_ag.rf.pI rfl
    have m2 : hb_fI (hb_pI w 1 1 0 (nI j)) 12 1 0 = nI n := m1
    rw [m2, nI_leI (by omega) (by omega)]
    refine ⟨fun y => absurd y (nI_pos (by omega)), fun _ => ⟨fun _ => ⟨rfl, ?_⟩, fun y => absurd (show j ≤ n by omega) y⟩⟩
    obtain ⟨hC, hS, hM, hV⟩ := h
    have hC2 : zC (hb_pI w 1 1 0 (nI j)) j T f1 f2 rf L R rows r li op := hC.re ha (fun _ _ => by decide) (fun _ _ => by decide) rfl rfl ⟨rfl, by omega, fun k hk => hC.1.2.2 k (by omega)⟩ hC.2.1 hC.2.2.2.1 (hC.2.2.2.2.1.ag ha (by decide)) (hC.2.2.2.2.2.1.ag ha (by decide))
    have hS2 : zS (hb_pI w 1 1 0 (nI j)) L R mix r op := hS.ag ha hC.2.2.1.1 (by decide) (fun _ _ => by decide) (fun _ _ => by decide) (fun _ => by decide) (by decide) (fun _ => by decide)
    have hM2 := hM.agc ha (by decide)
    have hb : hm_ag [1] [] (hb_pI w 1 1 0 (nI j)) (hb_pI (hb_pI w 1 1 0 (nI j)) 12 1 0 (nI j)) := hm_ag.rf.pI (by decide)
    have hc := hb.c
    exact zW.S ⟨hC2.ag hc (by decide) (by decide) (fun _ _ => by decide) (by decide) (by decide) (fun _ _ => by decide), hS2.ag hc hC2.2.2.1.1 (by decide) (fun _ _ => by decide) (fun _ _ => by decide) (fun _ => by decide) (by decide) (fun _ => by decide), hM2.re hb (by decide) (by decide) (by decide) (n2 := j) (T2 := T) ⟨⟨by omega, fun k hk => hM2.1.1.2 k (by omega)⟩, rfl⟩ hM2.2.1 hM2.2.2.1 (hM2.2.2.2.1.ag hb (by decide) (by decide) (by decide) (by decide) (by decide) (by decide)) (hM2.2.2.2.2.1.ag hb (by decide) (by decide)), hV⟩
theorem pr_seed : hp_seed Sim := by
  intro w x hs
  obtain ⟨n, T, f1, f2, rf, L, R, rows, mix, r, li, op, h⟩ := hs
  by_cases hx : x < 0
  · have hx0 : ¬ 0 ≤ x := by rw [ltle32]; exact fun y => y hx
    exact bk_X11_seed_0 ⟨fun y => absurd y hx0, fun _ => ok_refuse (k := 5) (by decide) (bk_X11_seed_9 ⟨_, rfl, bk_X12_seed_0 ⟨fun y => absurd y hx0, fun _ => ⟨rfl, h.ref (k := 5) (by decide)⟩⟩⟩)⟩
  · have hx0 : 0 ≤ x := by rw [ltle32]; exact hx
    obtain ⟨s, hs, rfl⟩ := nI_of hx
    have ha : hw_ag (fun t _ => t = 7) w (hb_pI w 7 6 0 (nI s)) := hw_ag.rf.pI rfl
    obtain ⟨c1, c2, c3, c4, c5, c6, c7, c8⟩ := h.1.2.2.2.2.1
    have hR : cRl (hb_pI w 7 6 0 (nI s)) (rt_seed s r) := ⟨c1, c2, c3, rfl, c5, c6, c7, c8⟩
    obtain ⟨zc, zs, zm⟩ := h.rollc (r2 := rt_seed s r) ha (fun t _ y => Or.inr (Or.inl y)) hR (fun y => (h.2.1.2.2 y).2.ag ha (by decide) (by decide) (fun _ => by decide))
    refine bk_X11_seed_0 ⟨fun _ => ⟨_, rfl, bk_X12_seed_0 ⟨fun _ => ⟨rfl, ?_⟩, fun y => absurd hx0 y⟩⟩, fun y => absurd hx0 y⟩
    have hb : hm_ag [57] [] (hb_pI w 7 6 0 (nI s)) (hb_pL (hb_pI w 7 6 0 (nI s)) 12 57 0 ((nI s).toInt64)) := hm_ag.rf.pL (by decide)
    obtain ⟨m1, m2, m3, m4, m5, m6, m7, m8⟩ := zm.2.2.2.1
    have hV := h.2.2.2
    exact (zW.rollm zc zs zm ⟨hV.1.seed hs, hV.2.1, hV.2.2⟩ hb (by decide) (by decide) (by decide) ⟨m1, m2, m3, nI_l hs, m5, m6, m7, m8⟩).S
theorem pr_image : hp_image Sim := by
  intro w hs
  obtain ⟨n, T, f1, f2, rf, L, R, rows, mix, r, li, op, h⟩ := hs
  have hL9 := h.2.2.2.2.2.1.1
  refine bk_X11_image_0 ⟨h.1.2.2.1.1, ?_⟩
  rw [h.1.2.2.2.2.2.2.1]
  refine ok_iwrite hL9 h.2.2.2.1.1 h.1.2.2.2.2.1 (fun w2 k1 ha k3 => bk_X11_image_18 ?_)
  obtain ⟨hC, hS, hM, hV⟩ := h
  have hC2 : zC w2 n T f1 f2 rf L R rows r (im_all L r) op := hC.re ha (fun _ _ => by decide) (fun _ _ => by decide) (ha.2.2.1 0 8 0 (by decide)) (ha.2.2.1 0 9 0 (by decide)) (hC.1.ag ha (by decide)) ⟨(ha.1 0 11 0 (by decide)).trans hC.2.1.1, (ha.1 0 12 0 (by decide)).trans hC.2.1.2.1, fun k hk => (congrFun (ha.2.2.2.1 0 1 0 (by decide)) k).trans (hC.2.1.2.2 k hk)⟩ ((ha.1 0 10 0 (by decide)).trans hC.2.2.2.1) (hC.2.2.2.2.1.ag ha (by decide)) k1
  have hS2 : zS w2 L R mix r op := hS.ag ha hC.2.2.1.1 (by decide) (fun _ _ => by decide) (fun _ _ => by decide) (fun _ => by decide) (by decide) (fun _ => by decide)
  have hM2 := hM.agc ha (by decide)
  rw [k1.1]
  refine ⟨_, rfl, om_image hL9 hV.1.1 hM2.2.2.2.2.2.2.1.1 hM2.2.2.2.1 (fun w3 m1 hb => ⟨rfl, ?_⟩)⟩
  have hc := hb.c
  exact zW.S ⟨hC2.ag hc (by decide) (by decide) (fun _ _ => by decide) (by decide) (by decide) (fun _ _ => by decide), hS2.ag hc hC2.2.2.1.1 (by decide) (fun _ _ => by decide) (fun _ _ => by decide) (fun _ => by decide) (by decide) (fun _ => by decide), hM2.re hb (by decide) (by decide) (by decide) ⟨hM2.1.1.ag hb (by decide), (hb.I 1).trans hM2.1.2⟩ ⟨(hb.I 7).trans hM2.2.1.1, (hb.I 8).trans hM2.2.1.2.1, fun k hk => (congrFun (hb.A 2) k).trans (hM2.2.1.2.2 k hk)⟩ ((hb.I 30).trans hM2.2.2.1) (hM2.2.2.2.1.ag hb (by decide) (by decide) (by decide) (by decide) (by decide) (by decide)) m1, hV⟩
