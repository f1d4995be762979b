/-! ===== pairs: same ===== -/
theorem sv_sc_neg {P : Nat → Prop} {x : Int32} (hx : x < 0) : ∀ (m i c : Nat), c + m < 2 ^ 31 → sv_sc P x m i c = -1
  | 0, _, _, _ => rfl
  | m + 1, i, c, h => by
    have hne : ¬ nI c = x := fun e => by rw [← e] at hx; exact nI_pos (by omega) hx
    show @ite Int32 (P i) (Classical.propDecidable _) _ _ = _
    by_cases hp : P i
    · rw [if_pos hp, if_neg hne]
      exact sv_sc_neg hx m (i + 1) (c + 1) (by omega)
    · rw [if_neg hp]
      exact sv_sc_neg hx m (i + 1) c (by omega)
section HSM
variable {d : Nat} {Q : Option hb_V → hb_W → Prop} {w : hb_W} {n : Nat} {T : Nat → Nat} {f1 f2 : Int32} {rf : Nat → Int32} {L R : Nat} {rows : List wT} {mix : Option (List Nat)} {r : rT} {li : List Int32} {op : Int32}
theorem om_same {x : Int32} (h : zW w n T f1 f2 rf L R rows mix r li op) (h1 : op = 1) (hn : r.1.length < 400) (q : ∀ w2, zW w2 n T f1 f2 rf L R rows mix r li op → Q (some (hb_i (if x = -1 then nI (sv_cnt (sv_sameP L (zk mix r) (sp_T (sp_bk 2 r.1))) 64) else sv_sc (sv_sameP L (zk mix r) (sp_T (sp_bk 2 r.1))) x 64 0 0))) w2) : hb_O yX12_same cX12_same 4 (some .int) (d + 7) [hb_r 12 0 0, hb_i x] w Q := by
  have e30 : hb_fI w 12 30 0 = 1 := h.2.2.1.2.2.1.trans h1
  have g18 : hb_aI w 12 18 0 (1 : Int32).toNatClampNeg = nI r.1.length := h.2.2.1.2.2.2.1.2.1
  refine bk_X12_same_0 ⟨fun y => absurd (e30.symm.trans y) (by decide), fun _ => ?_⟩
  rw [g18, show (400 : Int32) = nI 400 from rfl, nI_eq (by omega) (by decide)]
  refine ⟨fun _ => om_layZ (b := 2) h h1 (by decide) (fun w2 m1 m2 h2 => bk_X12_same_26 ?_), fun y => absurd y (by omega)⟩
  have loop : ∀ (m i : Nat), i + m = 64 → (x = -1 ∨ sv_sc (sv_sameP L (zk mix r) (sp_T (sp_bk 2 r.1))) x 64 0 0 = sv_sc (sv_sameP L (zk mix r) (sp_T (sp_bk 2 r.1))) x m i (sv_cnt (sv_sameP L (zk mix r) (sp_T (sp_bk 2 r.1))) i)) → hb_R yX12_same cX12_same 4 (some .int) (d + 7) 30 [some (hb_r 12 0 0), some (hb_i x), some (hb_i (nI (sv_cnt (sv_sameP L (zk mix r) (sp_T (sp_bk 2 r.1))) i))), some (hb_i (nI i))] [] w2 Q := by
    intro m
    induction m with
    | zero =>
      intro i hi hs
      obtain rfl : i = 64 := by omega
      refine bk_X12_same_30 ⟨fun _ => ⟨fun y => ?_, fun y => ?_⟩, fun z => absurd (nI_le (Nat.le_refl 64) (by decide)) z⟩
      · have := q w2 h2
        rw [if_neg y, hs.resolve_left y] at this
        exact this
      · have := q w2 h2
        rw [if_pos y] at this
        exact this
    | succ m ih =>
      intro i hi hs
      have hcl := sv_cnt_le (sv_sameP L (zk mix r) (sp_T (sp_bk 2 r.1))) i
      refine bk_X12_same_30 ⟨fun y => absurd y (nI_ge (b := 64) (by omega) (by decide)), fun _ => om_isSame (by omega) m2 m1 (fun hp => bk_X12_same_41 ⟨fun _ => ⟨fun y => ?_, fun y => ?_⟩, fun y => absurd y (by decide)⟩) (fun hp => bk_X12_same_41 ⟨fun y => absurd rfl y, fun _ => ?_⟩)⟩
      · have e : sv_cnt (sv_sameP L (zk mix r) (sp_T (sp_bk 2 r.1))) (i + 1) = sv_cnt (sv_sameP L (zk mix r) (sp_T (sp_bk 2 r.1))) i + 1 := by
          show _ + sv_is _ = _
          rw [sv_is_y hp]
        have hn := ih (i + 1) (by omega)
        rw [e] at hn
        rw [nI_1, nI_1]
        refine hn ?_
        rcases hs with u | u
        · exact Or.inl u
        · refine Or.inr (u.trans ?_)
          show @ite Int32 _ (Classical.propDecidable _) _ _ = _
          rw [if_pos hp, if_neg y]
      · have hne : ¬ x = -1 := fun u => absurd (y.trans u) (hx_ne (by omega))
        have := q w2 h2
        rw [if_neg hne, hs.resolve_left hne] at this
        have e : sv_sc (sv_sameP L (zk mix r) (sp_T (sp_bk 2 r.1))) x (m + 1) i (sv_cnt (sv_sameP L (zk mix r) (sp_T (sp_bk 2 r.1))) i) = nI i := by
          show @ite Int32 _ (Classical.propDecidable _) _ _ = _
          rw [if_pos hp, if_pos y]
        rw [e] at this
        exact this
      · have e : sv_cnt (sv_sameP L (zk mix r) (sp_T (sp_bk 2 r.1))) (i + 1) = sv_cnt (sv_sameP L (zk mix r) (sp_T (sp_bk 2 r.1))) i := by
          show _ + sv_is _ = _
          rw [sv_is_n hp]
          rfl
        have hn := ih (i + 1) (by omega)
        rw [e] at hn
        rw [nI_1]
        refine hn ?_
        rcases hs with u | u
        · exact Or.inl u
        · refine Or.inr (u.trans ?_)
          show @ite Int32 _ (Classical.propDecidable _) _ _ = _
          rw [if_neg hp]
  exact loop 64 0 rfl (Or.inr rfl)
end HSM
theorem pr_same : hp_same Sim := by
  intro w x hs
  obtain ⟨n, T, f1, f2, rf, L, R, rows, mix, r, li, op, h⟩ := hs
  have hlen := h.2.2.2.1.1
  have e10 : hb_fI w 0 10 0 = op := h.1.2.2.2.1
  have e73 : hb_fI w 7 3 0 = nI r.1.length := h.1.2.2.2.2.1.2.1
  have e30 : hb_fI w 12 30 0 = op := h.2.2.1.2.2.1
  have g18 : hb_aI w 12 18 0 (1 : Int32).toNatClampNeg = nI r.1.length := h.2.2.1.2.2.2.1.2.1
  have e400 : (400 : Int32) = nI 400 := rfl
  refine bk_X11_same_0 ?_
  rw [e10, e73, e400, nI_leI (by decide) (by omega)]
  rcases h.2.2.2.op1 with h0 | h1
  · exact ⟨fun _ => ⟨_, rfl, bk_X12_same_0 ⟨fun _ => ⟨rfl, h.S⟩, fun y => absurd (e30.trans h0) y⟩⟩, fun y => absurd h0 y⟩
  refine ⟨fun y => absurd (h1.symm.trans y) (by decide), fun _ => ⟨fun y => ⟨_, rfl, bk_X12_same_0 ⟨fun _ => ⟨rfl, h.S⟩, fun _ => ?_⟩⟩, fun y => ⟨fun y2 => ?_, fun y2 => ⟨_, rfl, ?_⟩⟩⟩⟩
  · rw [g18, e400, nI_eq (by omega) (by decide)]
    exact ⟨fun z => absurd (show r.1.length = 400 by omega) z, fun _ => ⟨rfl, h.S⟩⟩
  · refine ok_up h h1 (fun w2 hU h2 _ => bk_X11_same_42 ⟨fun y3 => ?_, fun y3 => ?_⟩)
    · refine ok_tracelessHood (hU.mk0 (b := 2) (by decide)).1 (hU.mk0 (b := 2) (by decide)).2 (hU.2.2.2.2 2 (by decide)) (bk_X11_same_65 ⟨_, rfl, om_same h2 h1 (by omega) (fun w3 h3 => ⟨eqi ?_, h3.S⟩)⟩)
      rw [if_neg y3]
    · refine ok_countTraceless (hU.mk0 (b := 2) (by decide)).1 (hU.mk0 (b := 2) (by decide)).2 (hU.2.2.2.2 2 (by decide)) (bk_X11_same_54 (bk_X11_same_65 ⟨_, rfl, om_same h2 h1 (by omega) (fun w3 h3 => ⟨eqi ?_, h3.S⟩)⟩))
      rw [if_pos y3]
  · have hx : x < 0 := by
      rw [Int32.lt_iff_toInt_lt]
      rw [Int32.le_iff_toInt_le] at y2
      have e1 : (-1 : Int32).toInt = -1 := by decide
      have e2 : (0 : Int32).toInt = 0 := by decide
      omega
    have hne : ¬ x = -1 := fun e => y2 (by rw [e]; exact (by decide))
    refine om_same h h1 (by omega) (fun w3 h3 => ⟨eqi ?_, h3.S⟩)
    rw [if_neg hne]
    exact sv_sc_neg hx 64 0 0 (by decide)
