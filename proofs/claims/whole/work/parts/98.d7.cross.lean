/-! ===== pairs: cross ===== -/
theorem cx_m1 {x : Int32} (h : 0 ≤ x) : (-1 : Int32) < x := by
  rw [Int32.le_iff_toInt_le] at h
  rw [Int32.lt_iff_toInt_lt]
  have e1 : (-1 : Int32).toInt = -1 := by decide
  have e2 : (0 : Int32).toInt = 0 := by decide
  omega
theorem sv_cx_n {f : Nat → Int32} : ∀ i, 1 ≤ i → (∀ a, a < i → 0 ≤ f a) → ∃ b, b < i ∧ (sv_cx f i).1 = nI b
  | 0, h, _ => absurd h (by decide)
  | i + 1, _, h => by
    rw [sv_cx_s]
    by_cases u : (sv_cx f i).2 < f i
    · rw [if_pos u]
      exact ⟨i, by omega, rfl⟩
    · rw [if_neg u]
      rcases Nat.eq_zero_or_pos i with z | z
      · subst z
        exact absurd (cx_m1 (h 0 (by decide))) u
      · obtain ⟨b, b1, b2⟩ := sv_cx_n i z (fun a ha => h a (by omega))
        exact ⟨b, by omega, b2⟩
section HCR
variable {d : Nat} {Q : Option hb_V → hb_W → Prop} {w : hb_W} {n : Nat} {T : Nat → Nat} {f1 f2 : Int32} {rf : Nat → Int32} {L R : Nat} {rows : List wT} {mix : Option (List Nat)} {r : rT} {li : List Int32} {op : Int32}
theorem om_cross {k j : Nat} (h : zW w n T f1 f2 rf L R rows mix r li op) (h1 : op = 1) (hk : k < 6) (hj : j < 2) (hn : r.1.length < 400) (q : ∀ w2, zW w2 n T f1 f2 rf L R rows mix r li op → Q (some (hb_i (if j = 0 then (sv_cx (fun i => sv_out L R (zk mix r) (sp_bk 2 r.1 ++ [(i, 0)]) k) 64).1 else (sv_cx (fun i => sv_out L R (zk mix r) (sp_bk 2 r.1 ++ [(i, 0)]) k) 64).2))) w2) : hb_O yX12_cross cX12_cross 7 (some .int) (d + 7) [hb_r 12 0 0, hb_i (nI k), hb_i (nI j)] w Q := by
  have hL := h.2.2.2.L1 h1
  have v1 := h.2.2.2.1
  have v3 := h.2.2.2.2.2.1
  have e30 : hb_fI w 12 30 0 = 1 := h.2.2.1.2.2.1.trans h1
  have g18 : hb_aI w 12 18 0 (1 : Int32).toNatClampNeg = nI r.1.length := h.2.2.1.2.2.2.1.2.1
  have g180 : hb_aI w 12 18 0 (0 : Int32).toNatClampNeg = nI r.2.1 := h.2.2.1.2.2.2.1.2.2.1
  have e0 : (0 : Int32) = nI 0 := rfl
  have loop : ∀ (m i : Nat), i + m = 64 → ∀ (x3 x4 : Int32) (w' : hb_W), (i = 0 → x3 = -1) → (1 ≤ i → x3 = (sv_cx (fun i => sv_out L R (zk mix r) (sp_bk 2 r.1 ++ [(i, 0)]) k) i).1 ∧ x4 = (sv_cx (fun i => sv_out L R (zk mix r) (sp_bk 2 r.1 ++ [(i, 0)]) k) i).2) → (∀ a, a < i → 0 ≤ sv_out L R (zk mix r) (sp_bk 2 r.1 ++ [(a, 0)]) k) → zW w' n T f1 f2 rf L R rows mix r li op → hm_mk w' (zk mix r) → hb_R yX12_cross cX12_cross 7 (some .int) (d + 7) 61 [some (hb_r 12 0 0), some (hb_i (nI k)), some (hb_i (nI j)), some (hb_i x3), some (hb_i x4), some (hb_i (nI i)), none] [] w' Q := by
    intro m
    induction m with
    | zero =>
      intro i hi x3 x4 w' hz hp hnn h' hm'
      obtain rfl : i = 64 := by omega
      obtain ⟨e3, e4⟩ := hp (by decide)
      refine bk_X12_cross_61 ⟨fun _ => ?_, fun z => absurd (nI_le (Nat.le_refl 64) (by decide)) z⟩
      rw [e0, nI_eq (by omega) (by decide)]
      have := q w' h'
      refine ⟨fun y => ?_, fun y => ?_⟩
      · rw [if_neg y] at this
        rw [e4]
        exact this
      · rw [if_pos y] at this
        rw [e3]
        exact this
    | succ m ih =>
      intro i hi x3 x4 w' hz hp hnn h' hm'
      have hi64 : i < 64 := by omega
      obtain ⟨mm1, mm2, mm3, mm4, mm5, mm6, mm7, mm8⟩ := h'.2.2.1.2.2.2.1
      refine bk_X12_cross_61 ⟨fun y => absurd y (nI_ge (b := 64) (by omega) (by decide)), fun _ => ?_⟩
      refine om_wouldGo (P := r.1) (h := i) (q := 0) (t := 0) mm2 (by omega) mm1 (fun w3 k1 k2 a3 => bk_X12_cross_76 ?_)
      have hl1 : (r.1 ++ [(i, 0, 0)]).length = r.1.length + 1 := by rw [List.length_append]; rfl
      have e2 : hb_aI w3 12 13 0 (2 : Int32).toNatClampNeg = nI L := (congrFun (a3.A 13) 2).trans h'.2.2.1.2.2.2.2.2.2.1.1
      have hm3 : hm_mk w3 (zk mix r) := fun x l hx hl => by rw [a3.A 20]; exact hm' x l hx hl
      have hok : sp_okP (r.1 ++ [(i, 0, 0)]) := fun p hpp => by
        rcases List.mem_append.mp hpp with u | u
        · exact v1.2.1 p u
        · rw [List.mem_singleton.mp u]
          exact ⟨hi64, (show (0 : Nat) < 100 by decide), (show (0 : Nat) < 2 by decide)⟩
      rw [e2]
      refine om_laysBook (b := 2) (P := r.1 ++ [(i, 0, 0)]) (by decide) hL.1 v3.1 hL.2 v3.2 ((congrFun (a3.A 13) 3).trans h'.2.2.1.2.2.2.2.2.2.1.2.1) hm3 (by rw [k2, hl1]; exact pk_us) (by rw [hl1]; omega) hok k1 (fun w4 b4 a4 => bk_X12_cross_87 ?_)
      rw [sp_bk_app, if_pos (Or.inl rfl)] at b4
      have f18 : hb_aI w4 12 18 0 = upd (hb_aI w' 12 18 0) 1 (nI (r.1.length + 1)) := (a4.A 18).trans k2
      have f181 : hb_aI w4 12 18 0 (1 : Int32).toNatClampNeg = nI (r.1.length + 1) := by rw [f18]; exact pk_us
      have esub : nI (r.1.length + 1) - (1 : Int32) = nI r.1.length := by rw [show (1 : Int32) = nI 1 from rfl, pk_sub (by omega)]; rfl
      rw [f181, esub]
      have A5 : hm_ag [39, 40, 44, 45] [18, 19, 21, 23, 24, 25, 26, 27, 28, 29, 30] w' (hb_sI w4 12 18 0 (upd (hb_aI w4 12 18 0) (1 : Int32).toNatClampNeg (nI r.1.length))) := ((a3.wk (by decide) (by decide)).tr (a4.wk (by decide) (by decide))).sI (by decide)
      have g18' : hb_aI (hb_sI w4 12 18 0 (upd (hb_aI w4 12 18 0) (1 : Int32).toNatClampNeg (nI r.1.length))) 12 18 0 = upd (upd (hb_aI w' 12 18 0) 1 (nI (r.1.length + 1))) 1 (nI r.1.length) := by rw [oa_s, f18]; rfl
      have g19 : hb_aI (hb_sI w4 12 18 0 (upd (hb_aI w4 12 18 0) (1 : Int32).toNatClampNeg (nI r.1.length))) 12 19 0 = hb_aI w3 12 19 0 := (oa_n _ 18 _ (by decide)).trans (a4.A 19)
      have hR5 : mRl (hb_sI w4 12 18 0 (upd (hb_aI w4 12 18 0) (1 : Int32).toNatClampNeg (nI r.1.length))) r := by
        refine ⟨fun a p hap => ?_, ?_, ?_, ?_, ?_, ?_, fun l hl => ?_, ?_⟩
        · rw [g19]
          exact k1 a p (by rw [List.getElem?_append_left (gl_lt hap)]; exact hap)
        · rw [g18']; exact pk_us
        · rw [g18']; exact (pk_un (by decide)).trans ((pk_un (by decide)).trans mm3)
        · exact (A5.FL 57).trans mm4
        · exact (A5.I 55).trans mm5
        · exact (A5.I 56).trans mm6
        · rw [g18']; exact (pk_un (by omega)).trans ((pk_un (by omega)).trans (mm7 l hl))
        · rw [A5.A 32]; exact mm8
      have h5 := zW.rollm h'.1 h'.2.1 h'.2.2.1 h'.2.2.2 A5 (by decide) (by decide) (by decide) hR5
      have hm5 : hm_mk (hb_sI w4 12 18 0 (upd (hb_aI w4 12 18 0) (1 : Int32).toNatClampNeg (nI r.1.length))) (zk mix r) := fun x l hx hl => by rw [A5.A 20]; exact hm' x l hx hl
      have b5 : mB (hb_sI w4 12 18 0 (upd (hb_aI w4 12 18 0) (1 : Int32).toNatClampNeg (nI r.1.length))) L R (zk mix r) (sp_bk 2 r.1 ++ [(i, 0)]) := b4
      have nn5 := b5.nn (k := k)
      have hnn' : ∀ a, a < i + 1 → 0 ≤ sv_out L R (zk mix r) (sp_bk 2 r.1 ++ [(a, 0)]) k := fun a ha => by
        by_cases u : a = i
        · subst u; exact nn5
        · exact hnn a (by omega)
      have hs := sv_cx_s (fun i => sv_out L R (zk mix r) (sp_bk 2 r.1 ++ [(i, 0)]) k) i
      refine om_outBy hk hm5 b5 (bk_X12_cross_102 ?_)
      rw [nI_1]
      refine ⟨fun y => ?_, fun y => ⟨fun y2 => ?_, fun y2 => ?_⟩⟩
      · have hi0 : i = 0 := by
          rcases Nat.eq_zero_or_pos i with u | u
          · exact u
          · exfalso
            obtain ⟨b, b1, b2⟩ := sv_cx_n (f := fun i => sv_out L R (zk mix r) (sp_bk 2 r.1 ++ [(i, 0)]) k) i u hnn
            exact hx_ne (n := b) (by omega) (b2.symm.trans ((hp u).1.symm.trans y))
        refine hx_at 6 (ih (i + 1) (by omega) _ _ _ (fun u => absurd u (by omega)) (fun _ => ?_) hnn' h5 hm5)
        subst hi0
        have c0 : (sv_cx (fun i => sv_out L R (zk mix r) (sp_bk 2 r.1 ++ [(i, 0)]) k) 0).2 < sv_out L R (zk mix r) (sp_bk 2 r.1 ++ [(0, 0)]) k := cx_m1 nn5
        rw [hs, if_pos c0]
        exact ⟨rfl, rfl⟩
      · have hi0 : 1 ≤ i := by
          rcases Nat.eq_zero_or_pos i with u | u
          · exact absurd (hz u) y
          · exact u
        refine hx_at 6 (ih (i + 1) (by omega) _ _ _ (fun u => absurd u (by omega)) (fun _ => ?_) hnn' h5 hm5)
        rw [(hp hi0).2] at y2
        rw [hs, if_pos y2]
        exact ⟨rfl, rfl⟩
      · have hi0 : 1 ≤ i := by
          rcases Nat.eq_zero_or_pos i with u | u
          · exact absurd (hz u) y
          · exact u
        refine hx_at 6 (ih (i + 1) (by omega) _ _ _ (fun u => absurd u (by omega)) (fun _ => ?_) hnn' h5 hm5)
        rw [(hp hi0).2] at y2
        rw [hs, if_neg y2]
        exact hp hi0
  refine bk_X12_cross_0 ⟨fun y => absurd (e30.symm.trans y) (by decide), fun _ => om_in (N := 6) (by decide) (by decide) (fun _ _ _ => bk_X12_cross_16 ⟨fun y => absurd y (by decide), fun _ => om_in (N := 2) (by decide) (by decide) (fun _ _ _ => bk_X12_cross_26 ⟨fun y => absurd y (by decide), fun _ => ?_⟩) (fun hn => absurd rfl (hn.ne hj (by decide)))⟩) (fun hn => absurd rfl (hn.ne hk (by decide)))⟩
  rw [g18, g180, show (400 : Int32) = nI 400 from rfl, nI_eq (by omega) (by decide)]
  refine ⟨fun _ => om_laysMarks v1.2.2.1.1 (h.2.2.1.2.2.2.2.2.2.2 h1) (fun w3 m3 a3 => bk_X12_cross_58 ?_), fun y => absurd y (by omega)⟩
  exact loop 64 0 rfl _ _ w3 (fun _ => rfl) (fun u => absurd u (by decide)) (fun a ha => absurd ha (by omega)) (h.m a3 (by decide) (by decide) (by decide)) m3
end HCR
theorem pr_cross : hp_cross Sim := by
  intro w x1 x2 hs
  obtain ⟨n, T, f1, f2, rf, L, R, rows, mix, r, li, op, h⟩ := hs
  have hlen := h.2.2.2.1.1
  have e10 : hb_fI w 0 10 0 = op := h.1.2.2.2.1
  have e73 : hb_fI w 7 3 0 = nI r.1.length := h.1.2.2.2.2.1.2.1
  have e30 : hb_fI w 12 30 0 = op := h.2.2.1.2.2.1
  have g18 : hb_aI w 12 18 0 (1 : Int32).toNatClampNeg = nI r.1.length := h.2.2.1.2.2.2.1.2.1
  have e400 : (400 : Int32) = nI 400 := rfl
  have e0 : (0 : Int32) = nI 0 := rfl
  have bad : (op = 0 ∨ nbad 6 x1 ∨ nbad 2 x2 ∨ r.1.length = 400) → pq yX12_cross cX12_cross 7 [hb_r 12 0 0, hb_i x1, hb_i x2] w (-1) := by
    intro hb
    refine bk_X12_cross_0 ?_
    rw [e30]
    refine ⟨fun _ => ⟨rfl, h.S⟩, fun y => om_in (N := 6) (by decide) (by decide) (fun j hj e => bk_X12_cross_16 ⟨fun y => absurd y (by decide), fun _ => om_in (N := 2) (by decide) (by decide) (fun j2 hj2 e2 => bk_X12_cross_26 ⟨fun y => absurd y (by decide), fun _ => ?_⟩) (fun _ => bk_X12_cross_26 ⟨fun _ => ⟨rfl, h.S⟩, fun y => absurd rfl y⟩)⟩) (fun _ => bk_X12_cross_16 ⟨fun _ => ⟨rfl, h.S⟩, fun y => absurd rfl y⟩)⟩
    rw [g18, e400, nI_eq (by omega) (by decide)]
    refine ⟨fun y4 => ?_, fun _ => ⟨rfl, h.S⟩⟩
    exfalso
    rcases hb with u | u | u | u
    · exact y u
    · exact u.ne hj (by decide) e
    · exact u.ne hj2 (by decide) e2
    · exact y4 u
  refine bk_X11_cross_0 ?_
  rw [e10]
  rcases h.2.2.2.op1 with h0 | h1
  · exact ⟨fun _ => ⟨_, rfl, bad (Or.inl h0)⟩, fun y => absurd h0 y⟩
  refine ⟨fun y => absurd (h1.symm.trans y) (by decide), fun _ => ok_isKind _ (fun k hk e => bk_X11_cross_11 ⟨fun y => absurd y (by decide), fun _ => ok_which (fun j hj e2 => bk_X11_cross_18 ⟨fun y => absurd y (by decide), fun _ => ?_⟩) (fun hn => bk_X11_cross_18 ⟨fun _ => ⟨_, rfl, bad (Or.inr (Or.inr (Or.inl hn)))⟩, fun y => absurd rfl y⟩)⟩) (fun hn => bk_X11_cross_11 ⟨fun _ => ⟨_, rfl, bad (Or.inr (Or.inl hn))⟩, fun y => absurd rfl y⟩)⟩
  rw [e73, e400, nI_ltI (by omega) (by decide)]
  refine ⟨fun hlt => ?_, fun y => ⟨_, rfl, bad (Or.inr (Or.inr (Or.inr (by omega))))⟩⟩
  subst e
  subst e2
  refine ok_up h h1 (fun w2 hU h2 e8 => bk_X11_cross_51 ?_)
  obtain ⟨mk, s2⟩ := h2.2.1.2.1
  refine ok_findCross hk hlt hU (fun w3 hU3 a3 q4 q5 => bk_X11_cross_59 ?_)
  have h3 : zW w3 n T f1 f2 rf L R rows mix r li op := h2.s a3 (fun _ _ y => aTr_s y) hU3.1 ⟨mk, s2.ag a3 (by unfold aTr; omega)⟩ (fun _ => hU3.Ld h2.2.2.2.1.2.2.1.1)
  rw [e0, nI_eq (by omega) (by decide)]
  refine ⟨fun y => ⟨_, rfl, om_cross h3 h1 hk hj hlt (fun w4 h4 => ⟨eqi ?_, h4.S⟩)⟩, fun y => ⟨_, rfl, om_cross h3 h1 hk hj hlt (fun w4 h4 => ⟨eqi ?_, h4.S⟩)⟩⟩
  · rw [if_neg y, q5]
  · rw [if_pos y, q4]
