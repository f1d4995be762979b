/-! ===== pairs: feed, undo, on ===== -/
section HZF
variable {d : Nat} {Q : Option hb_V → hb_W → Prop} {w w2 : hb_W} {n : Nat} {T : Nat → Nat} {f1 f2 : Int32} {rf : Nat → Int32} {L R : Nat} {rows : List wT} {mix : Option (List Nat)} {r r2 : rT} {li : List Int32} {op : Int32} {K J : List Nat}
theorem zC.cm (h : zC w n T f1 f2 rf L R rows r li op) (ha : hm_ag K J w w2) : zC w2 n T f1 f2 rf L R rows r li op := h.ag ha.c (by decide) (by decide) (fun _ _ => by decide) (by decide) (by decide) (fun _ _ => by decide)
theorem zS.cm (h : zS w L R mix r op) (hg : hb_fR w 0 8 0 < 2) (ha : hm_ag K J w w2) : zS w2 L R mix r op := h.ag ha.c hg (by decide) (fun _ _ => by decide) (fun _ _ => by decide) (fun _ => by decide) (by decide) (fun _ => by decide)
theorem zC.t0 (h : zC w n T f1 f2 rf L R rows r li op) : zC (hb_pI w 1 1 0 0) 0 T f1 f2 rf L R rows r li op := by
  have ha : hw_ag (fun t _ => t = 1) w (hb_pI w 1 1 0 0) := hw_ag.rf.pI rfl
  exact h.re ha (fun _ _ => by decide) (fun _ _ => by decide) rfl rfl ⟨rfl, Nat.zero_le _, fun k hk => absurd hk (by omega)⟩ h.2.1 h.2.2.2.1 (h.2.2.2.2.1.ag ha (by decide)) (h.2.2.2.2.2.1.ag ha (by decide))
theorem zS.t0 (h : zS w L R mix r op) (hg : hb_fR w 0 8 0 < 2) : zS (hb_pI w 1 1 0 0) L R mix r op := by
  have ha : hw_ag (fun t _ => t = 1) w (hb_pI w 1 1 0 0) := hw_ag.rf.pI rfl
  exact h.ag ha hg (by decide) (fun _ _ => by decide) (fun _ _ => by decide) (fun _ => by decide) (by decide) (fun _ => by decide)
theorem zM.ct0 (h : zM w n T f1 f2 rf L R rows mix r li op) : zM (hb_pI w 1 1 0 0) n T f1 f2 rf L R rows mix r li op := h.agc (Pp := fun t _ => t = 1) (hw_ag.rf.pI rfl) (by decide)
theorem zM.t0 (h : zM w n T f1 f2 rf L R rows mix r li op) : zM (hb_pI w 12 1 0 0) 0 T f1 f2 rf L R rows mix r li op := by
  have ha : hm_ag [1] [] w (hb_pI w 12 1 0 0) := hm_ag.rf.pI (by decide)
  exact h.re ha (by decide) (by decide) (by decide) ⟨⟨Nat.zero_le _, fun k hk => absurd hk (by omega)⟩, rfl⟩ h.2.1 h.2.2.1 (h.2.2.2.1.ag ha (by decide) (by decide) (by decide) (by decide) (by decide) (by decide)) (h.2.2.2.2.1.ag ha (by decide) (by decide))
/-- both refuse, and both tapes are empty -/
theorem zW.ref0 {k : Nat} (hk : k < 6) (h : zW w n T f1 f2 rf L R rows mix r li op) : Sim (hb_sI (hb_pI (hb_pI (hb_sI w 0 1 0 (upd (hb_aI w 0 1 0) k (hb_aI w 0 1 0 k + 1))) 1 1 0 0) 12 1 0 0) 12 2 0 (upd (hb_aI (hb_pI (hb_sI w 0 1 0 (upd (hb_aI w 0 1 0) k (hb_aI w 0 1 0 k + 1))) 1 1 0 0) 12 2 0) k (hb_aI (hb_pI (hb_sI w 0 1 0 (upd (hb_aI w 0 1 0) k (hb_aI w 0 1 0 k + 1))) 1 1 0 0) 12 2 0 k + 1))) := by
  obtain ⟨a, b, c, e⟩ := h.rc (k := k)
  have ha : hm_ag [1] [] (hb_pI (hb_sI w 0 1 0 (upd (hb_aI w 0 1 0) k (hb_aI w 0 1 0 k + 1))) 1 1 0 0) (hb_pI (hb_pI (hb_sI w 0 1 0 (upd (hb_aI w 0 1 0) k (hb_aI w 0 1 0 k + 1))) 1 1 0 0) 12 1 0 0) := hm_ag.rf.pI (by decide)
  exact (zW.rm hk (a.t0.cm ha) ((b.t0 a.2.2.1.1).cm a.t0.2.2.1.1 ha) c.ct0.t0 e (by rw [h.1.2.1.2.2 k hk])).S
theorem om_undo (hv : vRl r) (ha : 0 < r.2.2.2.2.1) (hR : mRl w r) (q : ∀ w2, mRl w2 (rt_back r) → hm_ag [55, 56] [18] w w2 → Q (some (hb_i 1)) w2) : hb_O yX12_undo cX12_undo 2 (some .boolean) d [hb_r 12 0 0] w Q := by
  have hb := (hv.back ha).2
  obtain ⟨P, c, f, s, a, nw, oc, oco, ol⟩ := r
  obtain ⟨h1, h3, h4, h6, h7, h8, h9, h10⟩ := hR
  have ha20 := hv.2.2.2.2.1
  have hnw := hv.2.2.2.2.2.1
  dsimp only at h1 h3 h4 h6 h7 h8 h9 h10 ha ha20 hnw hb
  have loop : ∀ (m i : Nat), i + m = 11 → ∀ w', hm_ag [55, 56] [18] w w' → hb_fI w' 12 55 0 = nI a → hb_fI w' 12 56 0 = nI nw → (∀ k, k < i → hb_aI w' 12 18 0 k = hb_aI w 12 32 0 (11 * nw + k)) → hb_R yX12_undo cX12_undo 2 (some .boolean) d 21 [some (hb_r 12 0 0), some (hb_i (nI i))] [] w' Q := by
    intro m
    induction m with
    | zero =>
      intro i hi w' g1 g2 g3 g4
      obtain rfl : i = 11 := by omega
      refine bk_X12_undo_21 ⟨fun _ => ?_, fun z => absurd (nI_le (Nat.le_refl 11) (by decide)) z⟩
      have e1 : nI nw + (20 : Int32) - (1 : Int32) = nI (nw + 19) := by
        rw [show nI nw + (20 : Int32) = nI (nw + 20) from nI_add nw 20, show (1 : Int32) = nI 1 from rfl, pk_sub (by omega)]
        rfl
      have e2 : nI (nw + 19) - nI (nw + 19) / (20 : Int32) * (20 : Int32) = nI ((nw + 19) % 20) := by
        rw [show (20 : Int32) = nI 20 from rfl, pk_rem (by omega) (by decide) (by decide)]
      have e3 : nI a - (1 : Int32) = nI (a - 1) := by rw [show (1 : Int32) = nI 1 from rfl, pk_sub (by omega)]
      rw [g2, g3, e1, e2, e3]
      refine q _ ⟨fun k p hk => ?_, ?_, ?_, ?_, rfl, rfl, fun l hl => ?_, ?_⟩ ((g1.pI (by decide)).pI (by decide))
      · have hk2 : P[k]? = some p := by
          have : (P.take (oc nw))[k]? = some p := hk
          rw [List.getElem?_take] at this
          split at this
          · exact this
          · cases this
        show hb_aI w' 12 19 0 (3 * k) = _ ∧ hb_aI w' 12 19 0 (3 * k + 1) = _ ∧ hb_aI w' 12 19 0 (3 * k + 2) = _
        rw [g1.A 19]
        exact h1 k p hk2
      · show hb_aI w' 12 18 0 1 = nI (P.take (oc nw)).length
        have e : (P.take (oc nw)).length = oc nw := hb
        rw [g4 1 (by decide), e]
        exact (h10 nw hnw).1
      · show hb_aI w' 12 18 0 0 = nI (oco nw)
        rw [g4 0 (by decide)]
        exact (h10 nw hnw).2.1
      · show hb_fL w' 12 57 0 = _
        rw [g1.FL 57]
        exact h6
      · show hb_aI w' 12 18 0 (2 + l) = ol nw l
        rw [g4 (2 + l) (by omega)]
        exact (h10 nw hnw).2.2 l hl
      · show ∀ i, i < 20 → hb_aI w' 12 32 0 (11 * i + 1) = _ ∧ hb_aI w' 12 32 0 (11 * i) = _ ∧ ∀ l, l < 9 → hb_aI w' 12 32 0 (11 * i + (2 + l)) = _
        rw [g1.A 32]
        exact h10
    | succ m ih =>
      intro i hi w' g1 g2 g3 g4
      have e : (11 : Int32) * nI nw + nI i = nI (11 * nw + i) := by rw [show (11 : Int32) = nI 11 from rfl, pk_mul, nI_add]
      refine bk_X12_undo_21 ⟨fun y => absurd y (nI_ge (b := 11) (by omega) (by decide)), fun _ => ?_⟩
      rw [g3, e, nI_clamp (by omega), nI_clamp (by omega), nI_1]
      refine ⟨vp_in_nI (by omega) (by decide), vp_in_nI (by omega) (by decide), ih (i + 1) (by omega) _ (g1.sI (by decide)) g2 g3 (fun k hk => ?_)⟩
      rw [oa_s, g1.A 32]
      by_cases u : k = i
      · subst u; exact pk_us
      · exact (pk_un u).trans (g4 k (by omega))
  refine bk_X12_undo_0 ?_
  rw [h7, show (0 : Int32) = nI 0 from rfl, nI_eq (by omega) (by decide)]
  exact ⟨fun _ => loop 11 0 rfl w hm_ag.rf h7 h8 (fun k hk => absurd hk (by omega)), fun y => absurd y (by omega)⟩
end HZF
theorem pr_undo : hp_undo Sim := by
  intro w hs
  obtain ⟨n, T, f1, f2, rf, L, R, rows, mix, r, li, op, h⟩ := hs
  have v1 := h.2.2.2.1
  have ha20 := v1.2.2.2.2.1
  have e77 : hb_fI w 7 7 0 = nI r.2.2.2.2.1 := h.1.2.2.2.2.1.2.2.2.2.1
  have e55 : hb_fI w 12 55 0 = nI r.2.2.2.2.1 := h.2.2.1.2.2.2.1.2.2.2.2.1
  refine bk_X11_undo_0 ?_
  rw [e77, show (0 : Int32) = nI 0 from rfl, nI_eq (by omega) (by decide)]
  refine ⟨fun y => ?_, fun y => ok_refuse (k := 4) (by decide) (bk_X11_undo_15 ⟨_, rfl, bk_X12_undo_0 ⟨fun u => ?_, fun _ => ⟨rfl, h.ref (k := 4) (by decide)⟩⟩⟩)⟩
  · have hpos : 0 < r.2.2.2.2.1 := by omega
    refine ok_takeBack v1 hpos h.1.2.2.2.2.1 (fun w2 k1 k2 k3 => bk_X11_undo_25 (bk_X4_startAgain_0 (bk_X11_undo_32 ?_)))
    have A3 : hw_ag (fun t _ => t = 7 ∨ t = 8) w (hb_pI w2 8 10 0 (-1)) := (k2.wk (fun t _ y => Or.inl y)).pI (Or.inr rfl)
    obtain ⟨zc, zs, zm⟩ := h.rollc (r2 := rt_back r) A3 (fun t _ y => Or.inr y) (k1.ag (Pp := fun t _ => t = 8) (hw_ag.rf.pI rfl) (by decide)) (fun y => by
      have hl := (h.2.1.2.2 y).2.ag k2 (by decide) (by decide) (fun _ => by decide)
      have hb : hw_ag (fun t _ => t = 8) w2 (hb_pI w2 8 10 0 (-1)) := hw_ag.rf.pI rfl
      refine ⟨hl.1.ag hb (fun _ => by decide), ?_, Or.inl rfl⟩
      rcases hl.2.1 with u | ⟨m, u1, u2, u3⟩
      · exact Or.inl u
      · exact Or.inr ⟨m, u1, u2, u3.ag hb (by decide)⟩)
    have zv : zV L R rows (rt_back r) op := by
      refine ⟨(v1.back hpos).1, h.2.2.2.2.1.back v1.2.2.2.2.2.1 hpos ha20, h.2.2.2.2.2.1, h.2.2.2.2.2.2.1, ?_⟩
      rcases h.2.2.2.2.2.2.2 with u | u
      · refine Or.inl ⟨u.1, ?_, u.2.2⟩
        show r.1.take _ = []
        rw [u.2.1, List.take_nil]
      · exact Or.inr u
    refine ⟨_, rfl, om_undo v1 hpos zm.2.2.2.1 (fun w4 m1 m2 => ⟨rfl, ?_⟩)⟩
    exact (zW.rollm zc zs zm zv m2 (by decide) (by decide) (by decide) m1).S
  · exact absurd (e55.trans (by rw [y]; rfl)) u
theorem pr_on : hp_on Sim := by
  intro w hs
  obtain ⟨n, T, f1, f2, rf, L, R, rows, mix, r, li, op, h⟩ := hs
  have e10 : hb_fI w 0 10 0 = op := h.1.2.2.2.1
  have e30 : hb_fI w 12 30 0 = op := h.2.2.1.2.2.1
  have hL9 := h.2.2.2.2.2.1.1
  have hg := h.1.2.2.1.1
  have el := h.1.2.2.2.2.2.2.1
  refine bk_X11_on_0 ?_
  rw [e10]
  rcases h.2.2.2.op1 with h0 | h1
  · refine ⟨fun _ => ⟨fun _ => ok_refuse (k := 5) (by decide) (bk_X11_on_67 ⟨Or.inl rfl, _, rfl, ?_⟩), fun y => absurd rfl y⟩, fun y => absurd h0 y⟩
    exact bk_X12_on_0 (bk_X12_isImage_0 ⟨fun _ => bk_X12_on_15 ⟨fun y => absurd rfl y, fun _ => ⟨rfl, h.ref0 (k := 5) (by decide)⟩⟩, fun y => absurd (e30.trans h0) y⟩)
  · refine ⟨fun y => absurd (h1.symm.trans y) (by decide), fun _ => ⟨hg, ?_⟩⟩
    rw [el]
    refine ok_isOn h.1.1 hL9 (fun hok => bk_X11_on_21 ⟨fun y => absurd y (by decide), fun _ => ⟨fun y => absurd y (by decide), fun _ => ⟨hg, ?_⟩⟩⟩) (fun hno => bk_X11_on_21 ⟨fun _ => ⟨fun _ => ok_refuse (k := 5) (by decide) (bk_X11_on_67 ⟨Or.inl rfl, _, rfl, ?_⟩), fun y => absurd rfl y⟩, fun y => absurd rfl y⟩)
    · rw [el]
      refine ok_load h.1.1 hL9 hok h.1.2.2.2.2.1 (fun w2 k1 k2 k3 => bk_X11_on_52 (bk_X4_startAgain_0 (bk_X11_on_59 ⟨Or.inr rfl, _, rfl, ?_⟩)))
      have A3 : hw_ag (fun t _ => t = 7 ∨ t = 8) w (hb_pI w2 8 10 0 (-1)) := (k2.wk (fun t _ y => Or.inl y)).pI (Or.inr rfl)
      obtain ⟨zc, zs, zm⟩ := h.rollc (r2 := rt_new (on_P T) (T 0) (on_f T L) r) A3 (fun t _ y => Or.inr y) (k1.ag (Pp := fun t _ => t = 8) (hw_ag.rf.pI rfl) (by decide)) (fun y => by
        have hl := (h.2.1.2.2 y).2.ag k2 (by decide) (by decide) (fun _ => by decide)
        have hb : hw_ag (fun t _ => t = 8) w2 (hb_pI w2 8 10 0 (-1)) := hw_ag.rf.pI rfl
        refine ⟨hl.1.ag hb (fun _ => by decide), ?_, Or.inl rfl⟩
        rcases hl.2.1 with u | ⟨m, u1, u2, u3⟩
        · exact Or.inl u
        · exact Or.inr ⟨m, u1, u2, u3.ag hb (by decide)⟩)
      have zv : zV L R rows (rt_new (on_P T) (T 0) (on_f T L) r) op := h.2.2.2.of h1 (on_v hok h.2.2.2.1) (vLt.new (fun l hl _ => by unfold on_f; rw [if_neg (by omega)]))
      have zm2 := zm.ct0
      refine om_on zm2.1.2 zm2.1.1 hL9 (zm2.2.2.1.trans h1) zm2.2.2.2.2.2.2.1.1 zm2.2.2.2.1 h.2.2.2.2.1.1 (fun _ w4 m1 m2 m3 => ⟨rfl, ?_⟩) (fun y => absurd hok y)
      refine zW.S (n := 0) (T := T) ⟨zc.t0.cm m3, (zs.t0 zc.2.2.1.1).cm zc.t0.2.2.1.1 m3, zm2.re m3 (by decide) (by decide) (by decide) ⟨⟨Nat.zero_le _, fun k hk => absurd hk (by omega)⟩, m2⟩ ⟨(m3.I 7).trans zm2.2.1.1, (m3.I 8).trans zm2.2.1.2.1, fun k hk => (congrFun (m3.A 2) k).trans (zm2.2.1.2.2 k hk)⟩ ((m3.I 30).trans zm2.2.2.1) m1 (zm2.2.2.2.2.1.ag m3 (by decide) (by decide)), zv⟩
    · have zm2 := (h.rc (k := 5)).2.2.1.ct0
      exact om_on zm2.1.2 zm2.1.1 hL9 (zm2.2.2.1.trans h1) zm2.2.2.2.2.2.2.1.1 zm2.2.2.2.1 h.2.2.2.2.1.1 (fun y => absurd y hno) (fun _ => ⟨rfl, h.ref0 (k := 5) (by decide)⟩)
