/-! ===== pairs: alike, few, same ===== -/
section HAK
variable {d : Nat} {Q : Option hb_V → hb_W → Prop} {w : hb_W} {n : Nat} {T : Nat → Nat} {f1 f2 : Int32} {rf : Nat → Int32} {L R : Nat} {rows : List wT} {mix : Option (List Nat)} {r : rT} {li : List Int32} {op : Int32}
theorem mS_v {f : Nat → Int32} {mk : Nat → Nat → Nat} {T : Nat → Nat} (h : mS f L mk T) {l : Nat} (hl : l < L) : f l = (if sv_S mk T l = 1000 then -1 else nI (sv_S mk T l)) ∧ sv_S mk T l ≤ 1000 := by
  obtain ⟨v, v1, v2, v3⟩ := h l hl
  rw [sv_S_eq v1]
  exact ⟨v3, v2⟩
theorem om_alike (h : zW w n T f1 f2 rf L R rows mix r li op) (h1 : op = 1) (q : ∀ w2, zW w2 n T f1 f2 rf L R rows mix r li op → Q (some (hb_i (nI (sv_al L (zk mix r) (sp_T (sp_bk 0 r.1)) (sp_T (sp_bk 1 r.1)))))) w2) : hb_O yX12_alike cX12_alike 3 (some .int) (d + 7) [hb_r 12 0 0] w Q := by
  have hL := h.2.2.2.L1 h1
  have v1 := h.2.2.2.1
  have hlen := v1.1
  have v3 := h.2.2.2.2.2.1
  have e30 : hb_fI w 12 30 0 = 1 := h.2.2.1.2.2.1.trans h1
  refine bk_X12_alike_0 ⟨fun _ => om_layZ (b := 0) h h1 (by decide) (fun w2 m1 m2 h2 => bk_X12_alike_14 ?_), fun y => absurd (e30.symm.trans y) (by decide)⟩
  have loop2 : ∀ (w4 : hb_W), zW w4 n T f1 f2 rf L R rows mix r li op → mB w4 L R (zk mix r) (sp_bk 1 r.1) → (∀ l, l < 9 → hb_aI w4 12 31 0 l = hb_aI w2 12 29 0 l) → ∀ (m i : Nat), i + m = L → hb_R yX12_alike cX12_alike 3 (some .int) (d + 7) 55 [some (hb_r 12 0 0), some (hb_i (nI (sv_cnt (fun l => sv_S (zk mix r) (sp_T (sp_bk 0 r.1)) l = sv_S (zk mix r) (sp_T (sp_bk 1 r.1)) l ∧ sv_S (zk mix r) (sp_T (sp_bk 0 r.1)) l ≠ 1000) i))), some (hb_i (nI i))] [] w4 Q := by
    intro w4 h4 b4 hc m
    induction m with
    | zero =>
      intro i hi
      obtain rfl : i = L := by omega
      refine bk_X12_alike_55 ?_
      rw [b4.2.1]
      exact ⟨fun _ => q w4 h4, fun z => absurd (nI_le (Nat.le_refl _) (by omega)) z⟩
    | succ m ih =>
      intro i hi
      have hi9 : i < 9 := by omega
      obtain ⟨a1, a2⟩ := mS_v m1.2.2.2.2.2.2.2.2 (l := i) (by omega)
      obtain ⟨b1, b2⟩ := mS_v b4.2.2.2.2.2.2.2.2 (l := i) (by omega)
      have hv : vp_in (nI i) 9 := vp_in_nI hi9 (by decide)
      have hn := ih (i + 1) (by omega)
      have hcl := sv_cnt_le (fun l => sv_S (zk mix r) (sp_T (sp_bk 0 r.1)) l = sv_S (zk mix r) (sp_T (sp_bk 1 r.1)) l ∧ sv_S (zk mix r) (sp_T (sp_bk 0 r.1)) l ≠ 1000) i
      refine bk_X12_alike_55 ?_
      rw [b4.2.1]
      refine ⟨fun z => absurd z (nI_ge (by omega) (by omega)), fun _ => ⟨hv, ?_⟩⟩
      rw [nI_clamp (by omega), hc i hi9, a1, b1, nI_1, nI_1]
      have hno : ¬ (sv_S (zk mix r) (sp_T (sp_bk 0 r.1)) i = sv_S (zk mix r) (sp_T (sp_bk 1 r.1)) i ∧ sv_S (zk mix r) (sp_T (sp_bk 0 r.1)) i ≠ 1000) → hb_R yX12_alike cX12_alike 3 (some .int) (d + 7) 55 [some (hb_r 12 0 0), some (hb_i (nI (sv_cnt (fun l => sv_S (zk mix r) (sp_T (sp_bk 0 r.1)) l = sv_S (zk mix r) (sp_T (sp_bk 1 r.1)) l ∧ sv_S (zk mix r) (sp_T (sp_bk 0 r.1)) l ≠ 1000) i))), some (hb_i (nI (i + 1)))] [] w4 Q := by
        intro hx
        have e : sv_cnt (fun l => sv_S (zk mix r) (sp_T (sp_bk 0 r.1)) l = sv_S (zk mix r) (sp_T (sp_bk 1 r.1)) l ∧ sv_S (zk mix r) (sp_T (sp_bk 0 r.1)) l ≠ 1000) (i + 1) = sv_cnt (fun l => sv_S (zk mix r) (sp_T (sp_bk 0 r.1)) l = sv_S (zk mix r) (sp_T (sp_bk 1 r.1)) l ∧ sv_S (zk mix r) (sp_T (sp_bk 0 r.1)) l ≠ 1000) i := by
          show _ + sv_is _ = _
          rw [sv_is_n hx]
          rfl
        rw [e] at hn
        exact hn
      by_cases c1 : sv_S (zk mix r) (sp_T (sp_bk 1 r.1)) i = 1000
      · rw [if_pos c1]
        exact ⟨fun _ => hno (fun y => y.2 (y.1.trans c1)), fun y => absurd rfl y⟩
      · rw [if_neg c1]
        refine ⟨fun y => absurd y (hx_ne (by omega)), fun _ => ⟨hv, hv, ?_⟩⟩
        by_cases c0 : sv_S (zk mix r) (sp_T (sp_bk 0 r.1)) i = 1000
        · rw [if_pos c0]
          exact ⟨fun _ => hno (fun y => y.2 c0), fun y => absurd y (hx_ne (by omega))⟩
        · rw [if_neg c0, nI_eq (by omega) (by omega)]
          refine ⟨fun y => hno (fun u => y u.1.symm), fun y => ?_⟩
          have e : sv_cnt (fun l => sv_S (zk mix r) (sp_T (sp_bk 0 r.1)) l = sv_S (zk mix r) (sp_T (sp_bk 1 r.1)) l ∧ sv_S (zk mix r) (sp_T (sp_bk 0 r.1)) l ≠ 1000) (i + 1) = sv_cnt (fun l => sv_S (zk mix r) (sp_T (sp_bk 0 r.1)) l = sv_S (zk mix r) (sp_T (sp_bk 1 r.1)) l ∧ sv_S (zk mix r) (sp_T (sp_bk 0 r.1)) l ≠ 1000) i + 1 := by
            show _ + sv_is _ = _
            rw [sv_is_y ⟨y.symm, c0⟩]
          rw [e] at hn
          exact hn
  have loop1 : ∀ (m i : Nat), i + m = 9 → ∀ w', hm_ag [] [31] w2 w' → (∀ l, l < i → hb_aI w' 12 31 0 l = hb_aI w2 12 29 0 l) → hb_R yX12_alike cX12_alike 3 (some .int) (d + 7) 16 [some (hb_r 12 0 0), some (hb_i (nI i)), none] [] w' Q := by
    intro m
    induction m with
    | zero =>
      intro i hi w' ha hc
      obtain rfl : i = 9 := by omega
      have h3 := h2.m ha (by decide) (by decide) (by decide)
      have e2 : hb_aI w' 12 13 0 (2 : Int32).toNatClampNeg = nI L := h3.2.2.1.2.2.2.2.2.2.1.1
      refine bk_X12_alike_16 ⟨fun _ => ?_, fun z => absurd (nI_le (Nat.le_refl 9) (by decide)) z⟩
      rw [e2]
      have hmk3 : hm_mk w' (zk mix r) := fun x l hx hl => by rw [ha.A 20]; exact m2 x l hx hl
      refine om_laysBook (b := 1) (by decide) hL.1 v3.1 hL.2 v3.2 h3.2.2.1.2.2.2.2.2.2.1.2.1 hmk3 h3.2.2.1.2.2.2.1.2.1 (by omega) v1.2.1 h3.2.2.1.2.2.2.1.1 (fun w4 b4 a4 => bk_X12_alike_51 ?_)
      exact loop2 w4 (h3.m a4 (by decide) (by decide) (by decide)) b4 (fun l hl => (congrFun (a4.A 31) l).trans (hc l hl)) L 0 (by omega)
    | succ m ih =>
      intro i hi w' ha hc
      have v : vp_in (nI i) 9 := vp_in_nI (by omega) (by decide)
      refine bk_X12_alike_16 ⟨fun y => absurd y (nI_ge (b := 9) (by omega) (by decide)), fun _ => ?_⟩
      rw [nI_clamp (by omega), nI_1]
      refine ⟨v, v, ih (i + 1) (by omega) _ (ha.sI (by decide)) (fun l hl => ?_)⟩
      rw [oa_s, ha.A 29]
      by_cases u : l = i
      · subst u; exact pk_us
      · exact (pk_un u).trans (hc l (by omega))
  exact loop1 9 0 rfl w2 hm_ag.rf (fun l hl => absurd hl (by omega))
end HAK
theorem pr_alike : hp_alike Sim := by
  intro w hs
  obtain ⟨n, T, f1, f2, rf, L, R, rows, mix, r, li, op, h⟩ := hs
  have e10 : hb_fI w 0 10 0 = op := h.1.2.2.2.1
  refine bk_X11_alike_0 ?_
  rw [e10]
  rcases h.2.2.2.op1 with h0 | h1
  · have e30 : hb_fI w 12 30 0 = 0 := h.2.2.1.2.2.1.trans h0
    exact ⟨fun y => absurd h0 y, fun _ => ⟨_, rfl, bk_X12_alike_0 ⟨fun y => absurd e30 y, fun _ => ⟨rfl, h.S⟩⟩⟩⟩
  · refine ⟨fun _ => ok_up h h1 (fun w2 hU h2 _ => bk_X11_alike_24 (ok_linesAlike (hU.2.2.2.2 0 (by decide)) (hU.2.2.2.2 1 (by decide)) (hU.2.2.2.2 2 (by decide)) (fun x l hx hl => (hU.2.2.2.1 x l hx hl).2) (bk_X11_alike_31 ⟨_, rfl, om_alike h2 h1 (fun w3 h3 => ⟨rfl, h3.S⟩)⟩))), fun y => absurd (h1.symm.trans y) (by decide)⟩
theorem aTr_s {t g : Nat} (h : aTr t g) : t = 5 ∨ t = 6 ∨ t = 8 ∨ t = 9 := by
  unfold aTr at h
  omega
theorem pr_few : hp_few Sim := by
  intro w x1 x2 hs
  obtain ⟨n, T, f1, f2, rf, L, R, rows, mix, r, li, op, h⟩ := hs
  have e10 : hb_fI w 0 10 0 = op := h.1.2.2.2.1
  have e30 : hb_fI w 12 30 0 = op := h.2.2.1.2.2.1
  have bad : (op = 0 ∨ nbad 6 x1 ∨ nbad 10000 x2) → pq yX12_few cX12_few 4 [hb_r 12 0 0, hb_i x1, hb_i x2] w (-1) := by
    intro hb
    refine bk_X12_few_0 ?_
    rw [e30]
    refine ⟨fun _ => ⟨rfl, h.S⟩, fun y => om_in (N := 6) (by decide) (by decide) (fun j hj e => bk_X12_few_16 ⟨fun y => absurd y (by decide), fun _ => om_in (N := 10000) (by decide) (by decide) (fun j2 hj2 e2 => ?_) (fun _ => bk_X12_few_28 ⟨fun y => absurd rfl y, fun _ => ⟨rfl, h.S⟩⟩)⟩) (fun _ => bk_X12_few_16 ⟨fun _ => ⟨rfl, h.S⟩, fun y => absurd rfl y⟩)⟩
    exfalso
    rcases hb with u | u | u
    · exact y u
    · exact u.ne hj (by decide) e
    · exact u.ne hj2 (by decide) e2
  refine bk_X11_few_0 ?_
  rw [e10]
  rcases h.2.2.2.op1 with h0 | h1
  · exact ⟨fun _ => ⟨_, rfl, bad (Or.inl h0)⟩, fun y => absurd h0 y⟩
  refine ⟨fun y => absurd (h1.symm.trans y) (by decide), fun _ => ok_isKind _ (fun k hk e => bk_X11_few_11 ⟨fun y => absurd y (by decide), fun _ => ⟨fun y => ⟨_, rfl, bad (Or.inr (Or.inr (Or.inl y)))⟩, fun y => ⟨fun y2 => ?_, fun y2 => ⟨_, rfl, bad ?_⟩⟩⟩⟩) (fun hn => bk_X11_few_11 ⟨fun _ => ⟨_, rfl, bad (Or.inr (Or.inl hn))⟩, fun y => absurd rfl y⟩)⟩
  · subst e
    rcases ixc x2 (N := 10000) (by decide) with hn | ⟨j, hj, rfl⟩
    · exfalso
      rcases hn with u | u
      · exact y u
      · have e1 : (nI 10000).toInt = 10000 := nI_toInt (by decide)
        have e2 : (9999 : Int32).toInt = 9999 := by decide
        rw [Int32.le_iff_toInt_le] at u y2
        omega
    refine ok_up h h1 (fun w2 hU h2 _ => bk_X11_few_42 (ok_fewestLines hk h2.2.2.2.1.1 h2.2.2.2.1.2.1 h2.1.2.2.2.2.1.1 h2.1.2.2.2.2.1.2.1 hU (fun w3 hU3 a3 => bk_X11_few_55 ⟨_, rfl, ?_⟩)))
    obtain ⟨mk, s2⟩ := h2.2.1.2.1
    have h3 : zW w3 n T f1 f2 rf L R rows mix r li op := h2.s a3 (fun _ _ y => aTr_s y) hU3.1 ⟨mk, s2.ag a3 (by unfold aTr; omega)⟩ (fun _ => hU3.Ld h2.2.2.2.1.2.2.1.1)
    have hL := h3.2.2.2.L1 h1
    have v1 := h3.2.2.2.1
    have hlen := v1.1
    have v3 := h3.2.2.2.2.2.1
    have g30 : hb_fI w3 12 30 0 = 1 := h3.2.2.1.2.2.1.trans h1
    have g18 : hb_aI w3 12 18 0 (0 : Int32).toNatClampNeg = nI r.2.1 := h3.2.2.1.2.2.2.1.2.2.1
    refine bk_X12_few_0 ⟨fun y => absurd (g30.symm.trans y) (by decide), fun _ => om_in (N := 6) (by decide) (by decide) (fun _ _ _ => bk_X12_few_16 ⟨fun y => absurd y (by decide), fun _ => om_in (N := 10000) (by decide) (by decide) (fun _ _ _ => bk_X12_few_28 ⟨fun _ => ?_, fun y => absurd y (by decide)⟩) (fun hn => absurd rfl (hn.ne hj (by decide)))⟩) (fun hn => absurd rfl (hn.ne hk (by decide)))⟩
    rw [g18]
    have loop : ∀ (m i : Nat), i + m = 10 → 1 ≤ i → ∀ w', zW w' n T f1 f2 rf L R rows mix r li op → hm_mk w' (zk mix r) → hb_R yX12_few cX12_few 4 (some .int) 1000 45 [some (hb_r 12 0 0), some (hb_i (nI k)), some (hb_i (nI j)), some (hb_i (nI i))] [] w' (fun rv2 w2 => rv2 = some (hb_i (sv_few (fun i => sv_out i R (zk mix r) (sp_bk 2 r.1) k) (nI j) m i)) ∧ Sim w2) := by
      intro m
      induction m with
      | zero =>
        intro i hi h1i w' h' hm'
        obtain rfl : i = 10 := by omega
        exact bk_X12_few_45 ⟨fun _ => ⟨rfl, h'.S⟩, fun z => absurd (nI_lt (a := 9) (b := 10) (by decide) (by decide)) z⟩
      | succ m ih =>
        intro i hi h1i w' h' hm'
        refine bk_X12_few_45 ⟨fun y => absurd y (nI_nlt (a := 9) (by omega) (by decide)), fun _ => ?_⟩
        refine om_laysBook (b := 2) (L := i) (by decide) h1i (by omega) hL.2 v3.2 h'.2.2.1.2.2.2.2.2.2.1.2.1 hm' h'.2.2.1.2.2.2.1.2.1 (by omega) v1.2.1 h'.2.2.1.2.2.2.1.1 (fun w4 b4 a4 => bk_X12_few_57 ?_)
        have h4 := h'.m a4 (by decide) (by decide) (by decide)
        have hm4 : hm_mk w4 (zk mix r) := fun x l hx hl => by rw [a4.A 20]; exact hm' x l hx hl
        refine om_outBy hk hm4 b4 (bk_X12_few_62 ⟨fun y => ?_, fun y => ⟨eqi ?_, h4.S⟩⟩)
        · rw [nI_1]
          have e : sv_few (fun i => sv_out i R (zk mix r) (sp_bk 2 r.1) k) (nI j) (m + 1) i = sv_few (fun i => sv_out i R (zk mix r) (sp_bk 2 r.1) k) (nI j) m (i + 1) := by
            show (if _ then _ else _) = _
            rw [if_pos y]
          rw [e]
          exact ih (i + 1) (by omega) (by omega) w4 h4 hm4
        · show nI i = (if _ then _ else _)
          rw [if_neg y]
    exact om_laysMarks v1.2.2.1.1 (h3.2.2.1.2.2.2.2.2.2.2 h1) (fun w4 m1 m2 => bk_X12_few_43 (loop 9 1 rfl (by decide) w4 (h3.m m2 (by decide) (by decide) (by decide)) m1))
  · rcases ixc x2 (N := 10000) (by decide) with hn | ⟨j, hj, rfl⟩
    · exact Or.inr (Or.inr hn)
    · exact absurd (nI_le (b := 9999) (by omega) (by decide)) y2
