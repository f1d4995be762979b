/-! ===== pairs: best ===== -/
theorem sv_bs_stay {f : Nat → Int32} {n : Nat} (h1 : 1 ≤ n) (hz : (sv_bs f n).2 ≤ 0) : ∀ m, (∀ j, j < n + m → 0 ≤ f j) → sv_bs f (n + m) = sv_bs f n
  | 0, _ => rfl
  | m + 1, h => by
    have ih := sv_bs_stay h1 hz m (fun j hj => h j (by omega))
    show sv_bs f (n + m + 1) = _
    rw [sv_bs_s, if_neg ?_, ih]
    intro y
    rcases y with y | y
    · omega
    · rw [ih] at y
      have h0 := h (n + m) (by omega)
      rw [Int32.le_iff_toInt_le] at h0 hz
      rw [Int32.lt_iff_toInt_lt] at y
      omega
theorem sv_bs_const {f : Nat → Int32} {v : Int32} (hf : ∀ j, f j = v) : ∀ m, sv_bs f (m + 1) = (nI 0, v)
  | 0 => by rw [sv_bs_s, if_pos (Or.inl rfl), hf]
  | m + 1 => by
    rw [sv_bs_s, sv_bs_const hf m, if_neg ?_]
    intro y
    rcases y with y | y
    · omega
    · rw [hf] at y
      have y' : v < v := y
      rw [Int32.lt_iff_toInt_lt] at y'
      omega
theorem aBs_s {t g : Nat} (h : aBs t g) : t = 5 ∨ t = 6 ∨ t = 8 ∨ t = 9 := by
  unfold aBs at h
  omega
theorem mB.nn {w : hb_W} {L R k : Nat} {mk : Nat → Nat → Nat} {ps : List (Nat × Nat)} (h : mB w L R mk ps) : 0 ≤ sv_out L R mk ps k := sv_out_nn h.1 (fun _ => by
  obtain ⟨l, _, _, l3, _⟩ := h.2.2.2.2.1
  exact ⟨l, l3⟩) (fun _ => ⟨_, h.2.2.2.2.2.1⟩)
section HBE
variable {d : Nat} {Q : Option hb_V → hb_W → Prop} {w : hb_W} {n : Nat} {T : Nat → Nat} {f1 f2 : Int32} {rf : Nat → Int32} {L R : Nat} {rows : List wT} {mix : Option (List Nat)} {r : rT} {li : List Int32} {op : Int32}
theorem om_best {k j : Nat} (h : zW w n T f1 f2 rf L R rows mix r li op) (h1 : op = 1) (hk : k < 6) (hk4 : ¬ k = 4) (hj : j < 2) (q : ∀ w2, zW w2 n T f1 f2 rf L R rows mix r li op → (∀ i, i < 100 → 0 ≤ sv_out L R (sp_mark (sp_mxC mix) i) (sp_bk 2 r.1) k) → Q (some (hb_i (if j = 0 then (sv_bs (fun i => sv_out L R (sp_mark (sp_mxC mix) i) (sp_bk 2 r.1) k) 100).1 else (sv_bs (fun i => sv_out L R (sp_mark (sp_mxC mix) i) (sp_bk 2 r.1) k) 100).2))) w2) : hb_O yX12_best cX12_best 7 (some .int) (d + 7) [hb_r 12 0 0, hb_i (nI k), hb_i (nI j)] w Q := by
  have hL := h.2.2.2.L1 h1
  have v1 := h.2.2.2.1
  have hlen := v1.1
  have v3 := h.2.2.2.2.2.1
  have e30 : hb_fI w 12 30 0 = 1 := h.2.2.1.2.2.1.trans h1
  have e0 : (0 : Int32) = nI 0 := rfl
  have loop : ∀ (m i : Nat), i + m = 100 → ∀ (x3 x4 : Int32) (w' : hb_W), (i = 0 → x3 = -1) → (1 ≤ i → x3 = (sv_bs (fun i => sv_out L R (sp_mark (sp_mxC mix) i) (sp_bk 2 r.1) k) i).1 ∧ x4 = (sv_bs (fun i => sv_out L R (sp_mark (sp_mxC mix) i) (sp_bk 2 r.1) k) i).2) → (∀ a, a < i → 0 ≤ sv_out L R (sp_mark (sp_mxC mix) a) (sp_bk 2 r.1) k) → zW w' n T f1 f2 rf L R rows mix r li op → hb_R yX12_best cX12_best 7 (some .int) (d + 7) 44 [some (hb_r 12 0 0), some (hb_i (nI k)), some (hb_i (nI j)), some (hb_i x3), some (hb_i x4), some (hb_i (nI i)), none] [] w' Q := by
    intro m
    induction m with
    | zero =>
      intro i hi x3 x4 w' hz hp hnn h'
      obtain rfl : i = 100 := by omega
      obtain ⟨e3, e4⟩ := hp (by decide)
      refine bk_X12_best_44 ⟨fun _ => ?_, fun z => absurd (nI_lt (a := 99) (b := 100) (by decide) (by decide)) z⟩
      rw [e0, nI_eq (by omega) (by decide)]
      have := q w' h' hnn
      refine ⟨fun y => ?_, fun y => ?_⟩
      · rw [if_neg y] at this
        rw [e4]
        exact this
      · rw [if_pos y] at this
        rw [e3]
        exact this
    | succ m ih =>
      intro i hi x3 x4 w' hz hp hnn h'
      refine bk_X12_best_44 ⟨fun y => absurd y (nI_nlt (a := 99) (by omega) (by decide)), fun _ => ?_⟩
      refine om_laysMarks (c := i) (by omega) (h'.2.2.1.2.2.2.2.2.2.2 h1) (fun w3 m3 a3 => bk_X12_best_57 ?_)
      have h3 := h'.m a3 (by decide) (by decide) (by decide)
      have e2 : hb_aI w3 12 13 0 (2 : Int32).toNatClampNeg = nI L := h3.2.2.1.2.2.2.2.2.2.1.1
      rw [e2]
      refine om_laysBook (b := 2) (by decide) hL.1 v3.1 hL.2 v3.2 h3.2.2.1.2.2.2.2.2.2.1.2.1 m3 h3.2.2.1.2.2.2.1.2.1 (by omega) v1.2.1 h3.2.2.1.2.2.2.1.1 (fun w4 b4 a4 => bk_X12_best_68 ?_)
      have h4 := h3.m a4 (by decide) (by decide) (by decide)
      have hm4 : hm_mk w4 (sp_mark (sp_mxC mix) i) := fun x l hx hl => by rw [a4.A 20]; exact m3 x l hx hl
      have nn4 := b4.nn (k := k)
      have hnn' : ∀ a, a < i + 1 → 0 ≤ sv_out L R (sp_mark (sp_mxC mix) a) (sp_bk 2 r.1) k := fun a ha => by
        by_cases u : a = i
        · subst u; exact nn4
        · exact hnn a (by omega)
      have hs := sv_bs_s (fun i => sv_out L R (sp_mark (sp_mxC mix) i) (sp_bk 2 r.1) k) i
      refine om_outBy hk hm4 b4 (bk_X12_best_73 ?_)
      rw [nI_1]
      refine ⟨fun y => ?_, fun y => ⟨fun y2 => ?_, fun y2 => ?_⟩⟩
      · have hi0 : i = 0 := by
          rcases Nat.eq_zero_or_pos i with u | u
          · exact u
          · exfalso
            obtain ⟨b, b1, b2⟩ := sv_bs_n (fun i => sv_out L R (sp_mark (sp_mxC mix) i) (sp_bk 2 r.1) k) (i - 1)
            rw [show i - 1 + 1 = i by omega] at b2
            exact hx_ne (n := b) (by omega) (b2.symm.trans ((hp u).1.symm.trans y))
        refine hx_at 6 (ih (i + 1) (by omega) _ _ w4 (fun u => absurd u (by omega)) (fun _ => ?_) hnn' h4)
        rw [hs, if_pos (Or.inl hi0)]
        exact ⟨rfl, rfl⟩
      · have hi0 : 1 ≤ i := by
          rcases Nat.eq_zero_or_pos i with u | u
          · exact absurd (hz u) y
          · exact u
        refine hx_at 6 (ih (i + 1) (by omega) _ _ w4 (fun u => absurd u (by omega)) (fun _ => ?_) hnn' h4)
        rw [(hp hi0).2] at y2
        rw [hs, if_pos (Or.inr y2)]
        exact ⟨rfl, rfl⟩
      · have hi0 : 1 ≤ i := by
          rcases Nat.eq_zero_or_pos i with u | u
          · exact absurd (hz u) y
          · exact u
        refine hx_at 6 (ih (i + 1) (by omega) _ _ w4 (fun u => absurd u (by omega)) (fun _ => ?_) hnn' h4)
        rw [(hp hi0).2] at y2
        rw [hs, if_neg (fun z => z.elim (fun u => by omega) y2)]
        exact hp hi0
  refine bk_X12_best_0 ⟨fun y => absurd (e30.symm.trans y) (by decide), fun _ => om_in (N := 6) (by decide) (by decide) (fun _ _ _ => bk_X12_best_16 ⟨fun y => absurd y (by decide), fun _ => ⟨fun y => ?_, fun _ => om_in (N := 2) (by decide) (by decide) (fun _ _ _ => bk_X12_best_31 ⟨fun _ => ?_, fun y => absurd y (by decide)⟩) (fun hn => absurd rfl (hn.ne hj (by decide)))⟩⟩) (fun hn => absurd rfl (hn.ne hk (by decide)))⟩
  · exfalso
    rw [show (4 : Int32) = nI 4 from rfl, nI_eq (by omega) (by decide)] at y
    exact hk4 y
  · exact loop 100 0 rfl _ _ w (fun _ => rfl) (fun u => absurd u (by decide)) (fun a ha => absurd ha (by omega)) h
end HBE
theorem ok_which {d : Nat} {w : hb_W} {Q : Option hb_V → hb_W → Prop} {x : Int32} (q1 : ∀ j, j < 2 → x = nI j → Q (some (hb_i 1)) w) (q0 : nbad 2 x → Q (some (hb_i 0)) w) : hb_O yX11_isWhichOrHowFar cX11_isWhichOrHowFar 1 (some .boolean) d [hb_i x] w Q := by
  refine bk_X11_isWhichOrHowFar_0 ⟨fun y => q1 0 (by decide) y, fun y => ⟨fun y2 => ?_, fun y2 => q1 1 (by decide) y2⟩⟩
  rcases ixc x (N := 2) (by decide) with u | ⟨j, j1, j2⟩
  · exact q0 u
  · exfalso
    have : j = 0 ∨ j = 1 := by omega
    rcases this with rfl | rfl
    · exact y j2
    · exact y2 j2
theorem pr_best : hp_best Sim := by
  intro w x1 x2 hs
  obtain ⟨n, T, f1, f2, rf, L, R, rows, mix, r, li, op, h⟩ := hs
  have e10 : hb_fI w 0 10 0 = op := h.1.2.2.2.1
  have e30 : hb_fI w 12 30 0 = op := h.2.2.1.2.2.1
  have e0 : (0 : Int32) = nI 0 := rfl
  have bad : (op = 0 ∨ nbad 6 x1 ∨ x1 = 4 ∨ nbad 2 x2) → pq yX12_best cX12_best 7 [hb_r 12 0 0, hb_i x1, hb_i x2] w (-1) := by
    intro hb
    refine bk_X12_best_0 ?_
    rw [e30]
    refine ⟨fun _ => ⟨rfl, h.S⟩, fun y => om_in (N := 6) (by decide) (by decide) (fun j hj e => bk_X12_best_16 ⟨fun y => absurd y (by decide), fun _ => ⟨fun _ => ⟨rfl, h.S⟩, fun y4 => om_in (N := 2) (by decide) (by decide) (fun j2 hj2 e2 => ?_) (fun _ => bk_X12_best_31 ⟨fun y => absurd rfl y, fun _ => ⟨rfl, h.S⟩⟩)⟩⟩) (fun _ => bk_X12_best_16 ⟨fun _ => ⟨rfl, h.S⟩, fun y => absurd rfl y⟩)⟩
    exfalso
    rcases hb with u | u | u | u
    · exact y u
    · exact u.ne hj (by decide) e
    · exact y4 u
    · exact u.ne hj2 (by decide) e2
  refine bk_X11_best_0 ?_
  rw [e10]
  rcases h.2.2.2.op1 with h0 | h1
  · exact ⟨fun _ => ⟨_, rfl, bad (Or.inl h0)⟩, fun y => absurd h0 y⟩
  refine ⟨fun y => absurd (h1.symm.trans y) (by decide), fun _ => ok_isKind _ (fun k hk e => bk_X11_best_11 ⟨fun y => absurd y (by decide), fun _ => ⟨fun y => ⟨_, rfl, bad (Or.inr (Or.inr (Or.inl y)))⟩, fun y4 => ok_which (fun j hj e2 => bk_X11_best_23 ⟨fun _ => ?_, fun y => absurd y (by decide)⟩) (fun hn => bk_X11_best_23 ⟨fun y => absurd rfl y, fun _ => ⟨_, rfl, bad (Or.inr (Or.inr (Or.inr hn)))⟩⟩)⟩⟩) (fun hn => bk_X11_best_11 ⟨fun _ => ⟨_, rfl, bad (Or.inr (Or.inl hn))⟩, fun y => absurd rfl y⟩)⟩
  subst e
  subst e2
  have hk4 : ¬ k = 4 := fun u => y4 (by rw [u]; rfl)
  refine ok_up h h1 (fun w2 hU h2 e8 => bk_X11_best_43 ?_)
  obtain ⟨mk, s2⟩ := h2.2.1.2.1
  refine ok_findBest h2.1.2.2.1.1 hk (h2.2.1.2.2 h1).1 hU s2 (fun w3 N mk2 hU3 s3 a3 hN1 hN q4 q5 hst => bk_X11_best_55 ?_)
  have h3 : zW w3 n T f1 f2 rf L R rows mix r li op := h2.s a3 (fun _ _ y => aBs_s y) hU3.1 ⟨mk2, s3⟩ (fun _ => hU3.Ld h2.2.2.2.1.2.2.1.1)
  have fin : (∀ i, i < 100 → 0 ≤ sv_out L R (sp_mark (sp_mxC mix) i) (sp_bk 2 r.1) k) → sv_bs (fun i => sv_out L R (sp_mark (sp_mxC mix) i) (sp_bk 2 r.1) k) 100 = sv_bs (fun i => sv_out L R (sp_mark (sp_mxC mix) i) (sp_bk 2 r.1) k) N := by
    intro hnn
    rcases hst with u | u | u
    · rw [u]
    · have := sv_bs_stay hN1 u (100 - N) (fun j hj => hnn j (by omega))
      rw [show N + (100 - N) = 100 by omega] at this
      exact this
    · subst u
      have c := sv_bs_const (f := fun i => sv_out L R (sp_mark (sp_mxC mix) i) (sp_bk 2 r.1) 5) (v := sv_om L (sp_bk 2 r.1)) (fun j => rfl)
      have c1 := c 99
      have c2 := c (N - 1)
      rw [show N - 1 + 1 = N by omega] at c2
      exact c1.trans c2.symm
  rw [e0, nI_eq (by omega) (by decide)]
  refine ⟨fun y => ⟨_, rfl, om_best h3 h1 hk hk4 hj (fun w4 h4 hnn => ⟨eqi ?_, h4.S⟩)⟩, fun y => ⟨_, rfl, om_best h3 h1 hk hk4 hj (fun w4 h4 hnn => ⟨eqi ?_, h4.S⟩)⟩⟩
  · rw [if_neg y, fin hnn, q5]
  · rw [if_pos y, fin hnn, q4]
