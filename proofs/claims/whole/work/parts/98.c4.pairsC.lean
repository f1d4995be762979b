/-! ===== pairs: says, truth ===== -/
theorem pr_says : hp_says Sim := by
  intro w x1 x2 hs
  obtain ⟨n, T, f1, f2, rf, L, R, rows, mix, r, li, op, h⟩ := hs
  refine bk_X11_says_0 (ok_bookNow h (fun h1 b w2 hb hx hU h2 => ?_) (fun h0 w2 h2 => bk_X11_says_5N ⟨-1, rfl, bk_X12_says_0 (om_bkN h2 h0 (bk_X12_says_5 ⟨fun y => absurd rfl y, fun _ => ⟨rfl, h2.S⟩⟩))⟩))
  subst hx
  have hB := hU.2.2.2.2 b hb
  have hg9 : b < hb_ct 9 := Nat.lt_trans hb (by decide)
  have hb4 : b < 4 := by omega
  have mod : ∀ (Q : Option hb_V → hb_W → Prop), (∀ w3, zW w3 n T f1 f2 rf L R rows mix r li op → mB w3 L R (zk mix r) (sp_bk b r.1) → hb_R yX12_says cX12_says 3 (some .int) 1000 15 [some (hb_r 12 0 0), some (hb_i (nI b)), some (hb_i x2)] [] w3 Q) → hb_O yX12_says cX12_says 3 (some .int) 1000 [hb_r 12 0 0, hb_i (nI b), hb_i x2] w2 Q := fun Q q => bk_X12_says_0 (om_bkY h2 h1 hb (bk_X12_says_5 ⟨fun _ => om_layZ h2 h1 hb (fun w3 m1 m2 h3 => q w3 h3 m1), fun y => absurd y (by decide)⟩))
  refine bk_X11_says_5 hg9 ⟨fun e => ?_, fun e => ?_, fun e => ?_, fun e => ?_, fun n0 n1 n2 n3 => ⟨_, rfl, mod _ (fun w3 h3 m1 => bk_X12_says_15 ⟨fun e => absurd e n0, fun e => absurd e n1, fun e => absurd e n2, fun e => absurd e n3, fun _ _ _ _ => ⟨rfl, h3.S⟩⟩)⟩⟩
  · subst e
    exact ok_unlikeSaid hb4 hB.H hB.2.2.2.2.1 (bk_X11_says_48 hg9 ⟨_, rfl, mod _ (fun w3 h3 m1 => bk_X12_says_15 ⟨fun _ => om_unlikeSaid m1 (bk_X12_says_52 ⟨rfl, h3.S⟩), fun e => absurd e (by decide), fun e => absurd e (by decide), fun e => absurd e (by decide), fun e => absurd rfl e⟩)⟩)
  · subst e
    exact ok_runsSaid hb4 hB.H hB.2.2.2.2.2.1 (bk_X11_says_53 hg9 ⟨_, rfl, mod _ (fun w3 h3 m1 => bk_X12_says_15 ⟨fun e => absurd e (by decide), fun _ => om_runsSaid m1 (bk_X12_says_57 ⟨rfl, h3.S⟩), fun e => absurd e (by decide), fun e => absurd e (by decide), fun _ e => absurd rfl e⟩)⟩)
  · subst e
    exact ok_middleSaid hb4 hB.H (bk_X11_says_58 hg9 ⟨_, rfl, mod _ (fun w3 h3 m1 => bk_X12_says_15 ⟨fun e => absurd e (by decide), fun e => absurd e (by decide), fun _ => om_middleSaid m1 (bk_X12_says_62 ⟨rfl, h3.S⟩), fun e => absurd e (by decide), fun _ _ e => absurd rfl e⟩)⟩)
  · subst e
    exact ok_oftenestSaid hb4 hB.H (bk_X11_says_63 hg9 ⟨_, rfl, mod _ (fun w3 h3 m1 => bk_X12_says_15 ⟨fun e => absurd e (by decide), fun e => absurd e (by decide), fun e => absurd e (by decide), fun _ => om_oftenSaid m1 (bk_X12_says_67 ⟨rfl, h3.S⟩), fun _ _ _ e => absurd rfl e⟩)⟩)
theorem pr_truth : hp_truth Sim := by
  intro w x1 x2 hs
  obtain ⟨n, T, f1, f2, rf, L, R, rows, mix, r, li, op, h⟩ := hs
  refine bk_X11_truth_0 (ok_bookNow h (fun h1 b w2 hb hx hU h2 => ?_) (fun h0 w2 h2 => bk_X11_truth_5N ⟨-1, rfl, bk_X12_truth_0 (om_bkN h2 h0 (bk_X12_truth_5 ⟨fun y => absurd rfl y, fun _ => ⟨rfl, h2.S⟩⟩))⟩))
  subst hx
  have hB := hU.2.2.2.2 b hb
  have hg9 : b < hb_ct 9 := Nat.lt_trans hb (by decide)
  have hb4 : b < 4 := by omega
  have mod : ∀ (Q : Option hb_V → hb_W → Prop), (∀ w3, zW w3 n T f1 f2 rf L R rows mix r li op → mB w3 L R (zk mix r) (sp_bk b r.1) → hb_R yX12_truth cX12_truth 3 (some .int) 1000 15 [some (hb_r 12 0 0), some (hb_i (nI b)), some (hb_i x2)] [] w3 Q) → hb_O yX12_truth cX12_truth 3 (some .int) 1000 [hb_r 12 0 0, hb_i (nI b), hb_i x2] w2 Q := fun Q q => bk_X12_truth_0 (om_bkY h2 h1 hb (bk_X12_truth_5 ⟨fun _ => om_layZ h2 h1 hb (fun w3 m1 m2 h3 => q w3 h3 m1), fun y => absurd y (by decide)⟩))
  refine bk_X11_truth_5 hg9 (ok_oftenestHood hb4 hB.H (bk_X11_truth_16 hg9 ⟨fun e => ?_, fun e => ?_, fun e => ?_, fun e => ?_, fun e => ?_, fun n0 n1 n2 n3 n4 => ⟨_, rfl, mod _ (fun w3 h3 m1 => bk_X12_truth_15 ⟨fun e => absurd e n0, fun e => absurd e n1, fun e => absurd e n2, fun e => absurd e n3, fun e => absurd e n4, fun _ _ _ _ _ => ⟨rfl, h3.S⟩⟩)⟩⟩))
  · subst e
    exact ⟨_, rfl, mod _ (fun w3 h3 m1 => bk_X12_truth_15 ⟨fun _ => ⟨eqi (m1.2.2.2.1.1.trans hB.2.2.2.1.1.symm), h3.S⟩, fun e => absurd e (by decide), fun e => absurd e (by decide), fun e => absurd e (by decide), fun e => absurd e (by decide), fun e => absurd rfl e⟩)⟩
  · subst e
    exact ⟨_, rfl, mod _ (fun w3 h3 m1 => bk_X12_truth_15 ⟨fun e => absurd e (by decide), fun _ => om_unlikeMany m1.U (bk_X12_truth_61 ⟨eqi hB.2.2.2.1.2.1.symm, h3.S⟩), fun e => absurd e (by decide), fun e => absurd e (by decide), fun e => absurd e (by decide), fun _ e => absurd rfl e⟩)⟩
  · subst e
    exact ⟨_, rfl, mod _ (fun w3 h3 m1 => bk_X12_truth_15 ⟨fun e => absurd e (by decide), fun e => absurd e (by decide), fun _ => om_oftenest m1 (bk_X12_truth_66 ⟨rfl, h3.S⟩), fun e => absurd e (by decide), fun e => absurd e (by decide), fun _ _ e => absurd rfl e⟩)⟩
  · subst e
    have mod3 : ∀ (Q : Option hb_V → hb_W → Prop), (∀ w3, zW w3 n T f1 f2 rf L R rows mix r li op → mB w3 L R (zk mix r) (sp_bk b r.1) → hb_R yX12_truth cX12_truth 3 (some .int) 1000 71 [some (hb_r 12 0 0), some (hb_i (nI b)), some (hb_i 3)] [hb_i (sv_hood (sp_bk b r.1))] w3 Q) → hb_O yX12_truth cX12_truth 3 (some .int) 1000 [hb_r 12 0 0, hb_i (nI b), hb_i 3] w2 Q := fun Q q => mod Q (fun w3 h3 m1 => bk_X12_truth_15 ⟨fun e => absurd e (by decide), fun e => absurd e (by decide), fun e => absurd e (by decide), fun _ => om_oftenest m1 (q w3 h3 m1), fun e => absurd e (by decide), fun _ _ _ e => absurd rfl e⟩)
    by_cases ht : (sv_top (sp_T (sp_bk b r.1)) 64).2 = 0
    · have eh : sv_hood (sp_bk b r.1) = -1 := by unfold sv_hood; rw [if_pos ht]
      rw [eh] at mod3 ⊢
      exact ok_isHood _ (fun j hj e => absurd e.symm (hx_ne (by omega))) (fun _ => bk_X11_truth_70 hg9 ⟨fun _ => ⟨_, rfl, mod3 _ (fun w3 h3 m1 => bk_X12_truth_71 ⟨fun y => absurd rfl y, fun _ => ⟨rfl, h3.S⟩⟩)⟩, fun y => absurd rfl y⟩)
    · have eh : sv_hood (sp_bk b r.1) = nI (sv_top (sp_T (sp_bk b r.1)) 64).1 := by unfold sv_hood; rw [if_neg ht]
      have hj := (sv_top_lt (f := sp_T (sp_bk b r.1)) 64 (by omega)).1
      rw [eh] at mod3 ⊢
      refine ok_isHood_y hj (bk_X11_truth_70 hg9 ⟨fun y => absurd y (by decide), fun _ => ?_⟩)
      rw [nI_clamp (by omega)]
      refine ⟨vp_in_nI hj (by decide), _, rfl, mod3 _ (fun w3 h3 m1 => bk_X12_truth_71 ⟨fun _ => om_oftenest m1 ?_, fun y => absurd y (hx_ne (by omega))⟩)⟩
      rw [eh]
      refine bk_X12_truth_87 ?_
      rw [nI_clamp (by omega)]
      exact ⟨vp_in_nI hj (by decide), eqi ((m1.2.2.2.1.2.1 _ hj).trans (hB.2.2.2.1.2.2.1 _ hj).symm), h3.S⟩
  · subst e
    exact ok_middleGift hb4 hB.H (bk_X11_truth_89 hg9 ⟨_, rfl, mod _ (fun w3 h3 m1 => bk_X12_truth_15 ⟨fun e => absurd e (by decide), fun e => absurd e (by decide), fun e => absurd e (by decide), fun e => absurd e (by decide), fun _ => om_middleGift m1 (bk_X12_truth_93 ⟨rfl, h3.S⟩), fun _ _ _ _ e => absurd rfl e⟩)⟩)
