/-! ===== pairs: ask ===== -/
section HZG
variable {d : Nat} {Q : Option hb_V → hb_W → Prop} {w w2 : hb_W} {n : Nat} {T : Nat → Nat} {f1 f2 : Int32} {rf : Nat → Int32} {L R : Nat} {rows : List wT} {mix : Option (List Nat)} {r r2 : rT} {li : List Int32} {op : Int32} {Pp : Nat → Nat → Prop} {K J : List Nat}
abbrev kfW (w2 : hb_W) : hb_W := hb_pI (hb_pI (hb_pI w2 1 1 0 0) 0 11 0 (hb_fI w2 3 6 0)) 0 12 0 (hb_fI w2 3 7 0)
theorem kf_ag (ha : hw_ag Pp w w2) : hw_ag (fun t g => Pp t g ∨ t = 0 ∨ t = 1) w (kfW w2) := hw_ag.pI (t := 0) (hw_ag.pI (t := 0) (hw_ag.pI (t := 1) (g := 0) (ha.wk (P2 := fun t g => Pp t g ∨ t = 0 ∨ t = 1) (fun t g y => Or.inl y)) (Or.inr (Or.inr rfl))) (Or.inr (Or.inl rfl))) (Or.inr (Or.inl rfl))
theorem zC.kf (h : zC w n T f1 f2 rf L R rows r li op) (ha : hw_ag Pp w w2) (n0 : ¬ Pp 0 0) (n7 : ¬ Pp 7 0) (n10 : ¬ Pp 10 0) (p2 : ¬ Pp 2 (hb_fR w 0 8 0 + 1)) (p11 : ¬ Pp 11 (hb_fR w 0 8 0)) : zC (kfW w2) 0 T (hb_fI w2 3 6 0) (hb_fI w2 3 7 0) rf L R rows r li op := by
  obtain ⟨h1, h2, h5, h6, h7, h8, h9, h10, h11, h12⟩ := h
  have hb := kf_ag ha
  have e8 : hb_fR (kfW w2) 0 8 0 = hb_fR w 0 8 0 := ha.2.2.1 0 8 0 n0
  have e9 : hb_fR (kfW w2) 0 9 0 = hb_fR w 0 9 0 := ha.2.2.1 0 9 0 n0
  have q2 : ¬ (fun t g => Pp t g ∨ t = 0 ∨ t = 1) 2 (hb_fR w 0 8 0 + 1) := by
    intro y
    rcases y with y | y | y
    · exact p2 y
    · exact absurd y (by decide)
    · exact absurd y (by decide)
  have q11 : ¬ (fun t g => Pp t g ∨ t = 0 ∨ t = 1) 11 (hb_fR w 0 8 0) := by
    intro y
    rcases y with y | y | y
    · exact p11 y
    · exact absurd y (by decide)
    · exact absurd y (by decide)
  have q7 : ¬ (fun t g => Pp t g ∨ t = 0 ∨ t = 1) 7 0 := by
    intro y
    rcases y with y | y | y
    · exact n7 y
    · exact absurd y (by decide)
    · exact absurd y (by decide)
  have q10 : ¬ (fun t g => Pp t g ∨ t = 0 ∨ t = 1) 10 0 := by
    intro y
    rcases y with y | y | y
    · exact n10 y
    · exact absurd y (by decide)
    · exact absurd y (by decide)
  have f := fun k => hb.1 11 k (hb_fR w 0 8 0) q11
  unfold zC
  rw [e8, e9]
  refine ⟨⟨rfl, Nat.zero_le _, fun k hk => absurd hk (by omega)⟩, ⟨rfl, rfl, fun k hk => ?_⟩, h5, ?_, h7.ag hb q7, h8.ag hb q10, by rw [f]; exact h9, by rw [f]; exact h10, by rw [f]; exact h11, fun k x hk => (h12 k x hk).ag hb q2 q11⟩
  · show hb_aI w2 0 1 0 k = rf k
    rw [ha.2.2.2.1 0 1 0 n0]
    exact h2.2.2 k hk
  · show hb_fI w2 0 10 0 = op
    rw [ha.1 0 10 0 n0]
    exact h6
theorem zS.ag2 (h : zS w L R mix r op) (ha : hw_ag Pp w w2) (e8 : hb_fR w2 0 8 0 = hb_fR w 0 8 0) (p2 : ¬ Pp 2 (hb_fR w 0 8 0 + 1)) (p11 : ¬ Pp 11 (hb_fR w 0 8 0)) (n5 : ∀ g, ¬ Pp 5 g) (n8 : ¬ Pp 8 0) (n9 : ∀ g, ¬ Pp 9 g) : zS w2 L R mix r op := by
  obtain ⟨h1, ⟨mk, h2⟩, h3⟩ := h
  unfold zS
  rw [e8]
  exact ⟨h1.ag ha n9, ⟨mk, h2.ag ha (n5 1)⟩, fun y => ⟨(h3 y).1.ag ha p2 p11, (h3 y).2.ag ha (n5 0) n8 n9⟩⟩
theorem ok_upC (hC : zC w n T f1 f2 rf L R rows r li op) (hS : zS w L R mix r op) (hV : zV L R rows r op) (h1 : op = 1) (q : ∀ w2, cUp w2 L R (sp_mxC mix) r.2.1 r.1 → zC w2 n T f1 f2 rf L R rows r li op → zS w2 L R mix r op → hw_ag aUp w w2 → Q none w2) : hb_O yX4_bringUp cX4_bringUp 5 none (d + 5) [hb_r 8 0 0, hb_r 11 (hb_fR w 0 8 0) 0, hb_r 7 0 0] w Q := by
  have hL := hV.L1 h1
  obtain ⟨v1, v2, v3, v4, v5⟩ := hV
  obtain ⟨c1, c2, c3, c4, c5, c6, c7, c8, c9, c10⟩ := hC
  obtain ⟨s1, ⟨mk, s2⟩, s3⟩ := hS
  have n0 : ¬ aUp 0 0 := by unfold aUp; omega
  have n2 : ∀ g, g < 2 → ¬ aUp 2 (g + 1) := fun g _ => by unfold aUp; omega
  have n11 : ∀ g, g < 2 → ¬ aUp 11 g := fun g _ => by unfold aUp; omega
  refine ok_bringUp c3.1 v1.2.2.1.1 v1.1 v1.2.1 hL.1 v3.1 hL.2 v3.2 (s3 h1).1 c7 c8 c5.1 c5.2.1 c5.2.2.1 (s3 h1).2 (fun w2 k1 k2 k3 => q w2 k1 ?_ ?_ k2)
  · exact zC.ag ⟨c1, c2, c3, c4, c5, c6, c7, c8, c9, c10⟩ k2 n0 (by unfold aUp; omega) n2 (by unfold aUp; omega) (by unfold aUp; omega) n11
  · have e8 : hb_fR w2 0 8 0 = hb_fR w 0 8 0 := k2.2.2.1 0 8 0 n0
    unfold zS
    rw [e8]
    exact ⟨k1.1, ⟨mk, s2.ag k2 (by unfold aUp; omega)⟩, fun y => ⟨(s3 y).1.ag k2 (n2 _ c3.1) (n11 _ c3.1), k1.Ld v1.2.2.1.1⟩⟩
theorem qU_0 (hM : zM w n T f1 f2 rf L R rows mix r li op) : mU (hb_pI (hb_pI (hb_pI (hb_pI (hb_pI (hb_pI (hb_pI (hb_pI (hb_pI (hb_pI (hb_pI w 12 3 0 (hb_fI w 12 1 0)) 12 1 0 0) 12 2 0 0) 12 4 0 (-1)) 12 5 0 0) 12 6 0 (-1)) 12 31 0 2) 12 80 0 0) 12 82 0 0) 12 83 0 0) 12 84 0 0) T n 2 0 (lx_S T n 0) false 0 [] [] ∧ hm_ag [1, 2, 3, 4, 5, 6, 31, 80, 82, 83, 84] [] w (hb_pI (hb_pI (hb_pI (hb_pI (hb_pI (hb_pI (hb_pI (hb_pI (hb_pI (hb_pI (hb_pI w 12 3 0 (hb_fI w 12 1 0)) 12 1 0 0) 12 2 0 0) 12 4 0 (-1)) 12 5 0 0) 12 6 0 (-1)) 12 31 0 2) 12 80 0 0) 12 82 0 0) 12 83 0 0) 12 84 0 0) := by
  have ha : hm_ag [1, 2, 3, 4, 5, 6, 31, 80, 82, 83, 84] [] w (hb_pI (hb_pI (hb_pI (hb_pI (hb_pI (hb_pI (hb_pI (hb_pI (hb_pI (hb_pI (hb_pI w 12 3 0 (hb_fI w 12 1 0)) 12 1 0 0) 12 2 0 0) 12 4 0 (-1)) 12 5 0 0) 12 6 0 (-1)) 12 31 0 2) 12 80 0 0) 12 82 0 0) 12 83 0 0) 12 84 0 0) := ((((((((((hm_ag.rf.pI (by decide)).pI (by decide)).pI (by decide)).pI (by decide)).pI (by decide)).pI (by decide)).pI (by decide)).pI (by decide)).pI (by decide)).pI (by decide)).pI (by decide)
  exact ⟨⟨⟨hM.1.1.ag ha (by decide), hM.1.2, rfl, rfl, ⟨0, rfl, Nat.zero_le _, rfl⟩, Or.inr ⟨rfl, fun k _ k2 => hx_ne (by omega)⟩⟩, hM.2.2.2.2.2.1.ag ha (by decide), rfl, rfl, rfl, Nat.le_refl _, ⟨rfl, trivial, fun x hx => (by cases hx)⟩, rfl, fun k c hk => by simp at hk⟩, ha⟩
end HZG
theorem pr_ask : hp_ask Sim := by
  intro w hs
  obtain ⟨n, T, f1, f2, rf, L, R, rows, mix, r, li, op, h⟩ := hs
  have e10 : hb_fI w 0 10 0 = op := h.1.2.2.2.1
  have e30 : hb_fI w 12 30 0 = op := h.2.2.1.2.2.1
  refine bk_X11_ask_0 ?_
  rw [e10]
  rcases h.2.2.2.op1 with h0 | h1
  · refine ⟨fun y => absurd h0 y, fun _ => ⟨_, rfl, bk_X12_ask_0 ⟨fun y => absurd (e30.trans h0) y, fun _ => ⟨rfl, ?_⟩⟩⟩⟩
    have ha : hm_ag [1] [] (hb_pI w 1 1 0 0) (hb_pI (hb_pI w 1 1 0 0) 12 1 0 0) := hm_ag.rf.pI (by decide)
    exact zW.S ⟨h.1.t0.cm ha, (h.2.1.t0 h.1.2.2.1.1).cm h.1.t0.2.2.1.1 ha, h.2.2.1.ct0.t0, h.2.2.2⟩
  · refine ⟨fun _ => ?_, fun y => absurd (h1.symm.trans y) (by decide)⟩
    obtain ⟨hC, hS, hM, hV⟩ := h
    have hL := hV.L1 h1
    obtain ⟨v1, v2, v3, v4, v5⟩ := id hV
    have n0 : ¬ aQ 0 0 := by unfold aQ; omega
    have n7 : ¬ aQ 7 0 := by unfold aQ; omega
    have n10 : ¬ aQ 10 0 := by unfold aQ; omega
    have n12 : ¬ aQ 12 0 := by unfold aQ; omega
    have p2 : ¬ aQ 2 (hb_fR w 0 8 0 + 1) := by unfold aQ; omega
    have p11 : ¬ aQ 11 (hb_fR w 0 8 0) := by unfold aQ; omega
    have zsK : ∀ w2, hw_ag aQ w w2 → zS (kfW w2) L R mix r op := fun w2 ha => hS.ag2 (kf_ag ha) (ha.2.2.1 0 8 0 n0) (by unfold aQ; omega) (by unfold aQ; omega) (fun g => by unfold aQ; omega) (by unfold aQ; omega) (fun g => by unfold aQ; omega)
    have zmK : ∀ w2, hw_ag aQ w w2 → zM (kfW w2) n T f1 f2 rf L R rows mix r li op := fun w2 ha => hM.agc (kf_ag ha) (by unfold aQ; omega)
    refine ok_readQuestion hC.1 (fun k C w2 hk hgq hty hqo hrF hcC hsz ha => bk_X11_ask_30 (ok_keepFault (bk_X11_ask_43 ⟨fun _ => ?_, fun y => ?_⟩))) (fun k pl w2 hk0 hk10 hfq hrX ha => bk_X11_ask_30 (ok_keepFault (bk_X11_ask_43 ⟨fun y => absurd rfl y, fun _ => ?_⟩)))
    · have zc := hC.kf ha n0 n7 n10 p2 p11
      have zs := zsK w2 ha
      have zm := zmK w2 ha
      rw [hrF.1, hrF.2] at zc
      refine ok_upC (w := kfW w2) zc zs hV h1 (fun w3 hU zc3 zs3 ha3 => bk_X11_ask_66 ?_)
      have m2 : ¬ aUp 2 0 := by unfold aUp; omega
      have m12 : ¬ aUp 12 0 := by unfold aUp; omega
      have hcK : cC (kfW w2) 0 0 C := hcC
      have hsK : hb_fI (kfW w2) 2 1 0 = nI C.length := hsz
      refine ok_answer hk v1.2.2.1.1 v1.1 v1.2.1 hU (hcK.ag ha3 m2) ((ha3.1 2 1 0 m2).trans hsK) hty hqo zc3.2.2.2.2.1.2.1 zc3.2.2.2.2.1.2.2.1 (fun w4 ha4 hr4 => bk_X11_ask_71 ⟨_, rfl, ?_⟩)
      have zc4 := zc3.ag ha4 (by decide) (by decide) (fun _ _ => by decide) (by decide) (by decide) (fun _ _ => by decide)
      have zs4 := zs3.ag ha4 zc3.2.2.1.1 (by decide) (fun _ _ => by decide) (fun _ _ => by decide) (fun _ => by decide) (by decide) (fun _ => by decide)
      have zm4 := (zm.agc ha3 m12).agc ha4 (by decide)
      obtain ⟨hU0, hA0⟩ := qU_0 zm4
      refine bk_X12_ask_0 ⟨fun _ => hgq 991 _ _ hU0 (fun w5 a5 k5 k6 kQ => ?_), fun y => absurd (zm4.2.2.1.symm.trans y) (by rw [h1]; decide)⟩
      have A5 : hm_ag [1, 2, 3, 4, 5, 6, 10, 31, 80, 82, 83, 84] [54, 55] w4 w5 := (hA0.wk (by decide) (by decide)).tr (a5.wk (by decide) (by decide))
      refine om_askTail hk v1.2.2.1.1 hL.1 v3.1 hL.2 v3.2 v1.1 v1.2.1 k5 ((zm4.2.2.2.2.2.2.2 h1).ag A5 (by decide) (by decide) (by decide)) ((congrFun (A5.A 13) 2).trans zm4.2.2.2.2.2.2.1.1) ((congrFun (A5.A 13) 3).trans zm4.2.2.2.2.2.2.1.2.1) ((congrFun (A5.A 18) 0).trans zm4.2.2.2.1.2.2.1) ((congrFun (A5.A 18) 1).trans zm4.2.2.2.1.2.1) (fun j p hj => by rw [A5.A 19]; exact zm4.2.2.2.1.1 j p hj) kQ hty hqo (fun w6 a6 k7 k8 => ⟨rfl, ?_⟩)
      have A6 := (A5.wk (K2 := [1, 2, 3, 4, 5, 6, 7, 8, 10, 31, 34, 36, 37, 39, 40, 44, 45, 80, 82, 83, 84, 86, 87, 88]) (J2 := [20, 21, 22, 23, 24, 25, 26, 27, 28, 29, 30, 54, 55, 56]) (by decide) (by decide)).tr (a6.wk (by decide) (by decide))
      have e1 : hb_fI w6 12 1 0 = 0 := by rw [a6.I 1, a5.I 1]; rfl
      exact zW.S ⟨zc4.cm A6, zs4.cm zc4.2.2.1.1 A6, zm4.re A6 (by decide) (by decide) (by decide) ⟨⟨Nat.zero_le _, fun k hk => absurd hk (by omega)⟩, e1⟩ ⟨k7, k8.trans k6, fun k hk => (congrFun (A6.A 2) k).trans (zm4.2.1.2.2 k hk)⟩ ((A6.I 30).trans zm4.2.2.1) (zm4.2.2.2.1.ag A6 (by decide) (by decide) (by decide) (by decide) (by decide) (by decide)) (zm4.2.2.2.2.1.ag A6 (by decide) (by decide)), hV⟩
    · exfalso
      rw [show (0 : Int32) = nI 0 from rfl, nI_eq (by omega) (by decide)] at y
      omega
    · have zc := hC.kf ha n0 n7 n10 p2 p11
      have zs := zsK w2 ha
      have zm := zmK w2 ha
      rw [hrX.1, hrX.2] at zc
      obtain ⟨hU0, hA0⟩ := qU_0 zm
      refine ⟨_, rfl, bk_X12_ask_0 ⟨fun _ => hfq 991 _ _ hU0 (fun j w5 a5 hx => ?_), fun y => absurd (zm.2.2.1.symm.trans y) (by rw [h1]; decide)⟩⟩
      have hne := hx.ne hk0 hk10
      refine bk_X12_ask_133 ⟨fun y => absurd y hne, fun _ => ⟨rfl, ?_⟩⟩
      have A6 : hm_ag [1, 2, 3, 4, 5, 6, 7, 8, 10, 31, 80, 82, 83, 84] [54, 55] (kfW w2) (hb_pI (hb_pI w5 12 7 0 (hb_fI w5 12 5 0)) 12 8 0 (hb_fI w5 12 6 0)) := (((hA0.wk (by decide) (by decide)).tr (a5.wk (by decide) (by decide))).pI (by decide)).pI (by decide)
      have e1 : hb_fI (hb_pI (hb_pI w5 12 7 0 (hb_fI w5 12 5 0)) 12 8 0 (hb_fI w5 12 6 0)) 12 1 0 = 0 := by
        show hb_fI w5 12 1 0 = 0
        rw [a5.I 1]; rfl
      exact zW.S ⟨zc.cm A6, zs.cm zc.2.2.1.1 A6, zm.re A6 (by decide) (by decide) (by decide) ⟨⟨Nat.zero_le _, fun k hk => absurd hk (by omega)⟩, e1⟩ ⟨hx.1, hx.2, fun k hk => (congrFun (A6.A 2) k).trans (zm.2.1.2.2 k hk)⟩ ((A6.I 30).trans zm.2.2.1) (zm.2.2.2.1.ag A6 (by decide) (by decide) (by decide) (by decide) (by decide) (by decide)) (zm.2.2.2.2.1.ag A6 (by decide) (by decide)), hV⟩
