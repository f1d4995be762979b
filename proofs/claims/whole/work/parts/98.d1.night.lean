/-! ===== pairs: night ===== -/
theorem rt_rows_app {L : Nat} {x : wT} : ∀ (l : List wT) (r : rT), rt_rows L (l ++ [x]) r = rt_row L x x.1 (rt_rows L l r)
  | [], _ => rfl
  | _ :: l, _ => rt_rows_app l _
theorem ry_take_le (l : List wT) (i : Nat) : ry_sum (l.take i) ≤ ry_sum l := by
  have e : ry_sum l = ry_sum (l.take i) + ry_sum (l.drop i) := by
    have := congrArg ry_sum (List.take_append_drop i l)
    rw [← this]
    unfold ry_sum
    rw [List.map_append, List.sum_append]
  omega
theorem rt_row_ext {L : Nat} {x : wT} : ∀ (j : Nat) (r : rT), ∃ P2, (rt_row L x j r).1 = r.1 ++ P2
  | 0, r => ⟨[], (List.append_nil _).symm⟩
  | j + 1, r => by
    obtain ⟨P2, h⟩ := rt_row_ext (L := L) (x := x) j r
    refine ⟨P2 ++ [(ry_h x j, ry_q x j, x.2.2.2.1)], ?_⟩
    show (rt_row L x j r).1 ++ [(ry_h x j, ry_q x j, x.2.2.2.1)] = _
    rw [h, List.append_assoc]
theorem rt_ext {L : Nat} : ∀ (l : List wT) (r : rT), ∃ P2, (rt_rows L l r).1 = r.1 ++ P2
  | [], r => ⟨[], (List.append_nil _).symm⟩
  | x :: l, r => by
    obtain ⟨P2, h⟩ := rt_ext (L := L) l (rt_row L x x.1 r)
    obtain ⟨P3, h3⟩ := rt_row_ext (L := L) (x := x) x.1 r
    refine ⟨P3 ++ P2, ?_⟩
    show (rt_rows L l (rt_row L x x.1 r)).1 = _
    rw [h, h3, List.append_assoc]
theorem tk_mem {α : Type} {l : List α} {i : Nat} {p : α → Prop} (h : ∀ x ∈ l, p x) : ∀ x ∈ l.take i, p x := fun x hx => h x (List.mem_of_mem_take hx)
theorem pr_night : hp_night Sim := by
  intro w hs
  obtain ⟨n, T, f1, f2, rf, L, R, rows, mix, r, li, op, h⟩ := hs
  have hg := h.1.2.2.1.1
  obtain ⟨cl, cr, cw, crw⟩ := h.1.2.2.2.2.2.2
  have h20 := h.2.2.2.2.2.2.1.1
  have hvr := h.2.2.2.2.2.2.1.2
  have v1 := h.2.2.2.1
  have hlen := v1.1
  have hL9 := h.2.2.2.2.2.1.1
  have hS := ry_sum_le hvr
  have e10 : hb_fI w 0 10 0 = op := h.1.2.2.2.1
  have e73 : hb_fI w 7 3 0 = nI r.1.length := h.1.2.2.2.2.1.2.1
  have e30 : hb_fI w 12 30 0 = op := h.2.2.1.2.2.1
  have e18 : hb_aI w 12 18 0 1 = nI r.1.length := h.2.2.1.2.2.2.1.2.1
  have ec : nI r.1.length + nI (ry_sum rows) = nI (r.1.length + ry_sum rows) := nI_add _ _
  have e400 : (400 : Int32) = nI 400 := rfl
  have e0 : (0 : Int32) = nI 0 := rfl
  refine bk_X11_night_0 ⟨hg, ok_toCome hg cw h20 crw (bk_X11_night_7 ?_)⟩
  rw [e10, e73, ec, e400, nI_leI (by omega) (by decide)]
  by_cases hb : op = 0 ∨ ry_sum rows = 0 ∨ 400 < r.1.length + ry_sum rows
  · have M : ∃ v : Int32, (some (hb_i (-1)) : Option hb_V) = some (hb_i v) ∧ hb_O yX12_night cX12_night 3 (some .int) 1000 [hb_r 12 0 0] (hb_sI w 0 1 0 (upd (hb_aI w 0 1 0) 3 (hb_aI w 0 1 0 3 + 1))) (fun rv2 w2 => rv2 = some (hb_i v) ∧ Sim w2) := by
      have zm := (h.rc (k := 3)).2.2.1
      have g30 : hb_fI (hb_sI w 0 1 0 (upd (hb_aI w 0 1 0) 3 (hb_aI w 0 1 0 3 + 1))) 12 30 0 = op := e30
      have g18 : hb_aI (hb_sI w 0 1 0 (upd (hb_aI w 0 1 0) 3 (hb_aI w 0 1 0 3 + 1))) 12 18 0 (1 : Int32).toNatClampNeg = nI r.1.length := e18
      have RM : hb_O yX12_refuses cX12_refuses 2 (some .int) 999 [hb_r 12 0 0, hb_i 3] (hb_sI w 0 1 0 (upd (hb_aI w 0 1 0) 3 (hb_aI w 0 1 0 3 + 1))) (fun rv w1 => hb_R yX12_night cX12_night 3 (some .int) 1000 35 [some (hb_r 12 0 0), some (hb_i (nI (ry_sum rows))), none] (rv.toList ++ []) w1 (fun rv2 w2 => rv2 = some (hb_i (-1)) ∧ Sim w2)) := om_refuses (k := 3) (by decide) (bk_X12_night_35 ⟨rfl, h.ref (k := 3) (by decide)⟩)
      refine ⟨-1, rfl, bk_X12_night_0 (om_wouldPass zm.2.2.2.2.2.2.1.2.2.1 h20 zm.2.2.2.2.2.2.1.2.2.2 (bk_X12_night_4 ?_))⟩
      rw [g30, g18, ec, e400, nI_leI (by omega) (by decide)]
      refine ⟨fun _ => RM, fun y => ⟨fun _ => RM, fun y2 => ⟨fun y3 => ?_, fun _ => RM⟩⟩⟩
      exfalso
      rcases hb with u | u | u
      · exact y u
      · exact y2 (by rw [u]; rfl)
      · omega
    refine ⟨fun _ => ok_refuse (k := 3) (by decide) (bk_X11_night_39 M), fun y => ⟨fun _ => ok_refuse (k := 3) (by decide) (bk_X11_night_39 M), fun y2 => ⟨fun y3 => ?_, fun _ => ok_refuse (k := 3) (by decide) (bk_X11_night_39 M)⟩⟩⟩
    exfalso
    rcases hb with u | u | u
    · exact y u
    · exact y2 (by rw [u]; rfl)
    · omega
  · have h1 : op = 1 := h.2.2.2.op1.resolve_left (fun y => hb (Or.inl y))
    have hpos : ¬ ry_sum rows = 0 := fun y => hb (Or.inr (Or.inl y))
    have hle : r.1.length + ry_sum rows ≤ 400 := by
      rcases Nat.lt_or_ge 400 (r.1.length + ry_sum rows) with u | u
      · exact absurd (Or.inr (Or.inr u)) hb
      · exact u
    have hrow : ∀ i, vRl (rt_rows L (rows.take i) (rt_rem r)) ∧ (rt_rows L (rows.take i) (rt_rem r)).1.length = r.1.length + ry_sum (rows.take i) := fun i => rt_rows_v v1.rem (tk_mem hvr) (show r.1.length + ry_sum (rows.take i) ≤ 400 by have := ry_take_le rows i; omega)
    refine ⟨fun y => absurd (h1.symm.trans y) (by decide), fun _ => ⟨fun y => absurd y (by rw [e0, nI_eq (by omega) (by decide)]; exact hpos), fun _ => ⟨fun _ => ?_, fun y => absurd hle y⟩⟩⟩
    -- the model's rows
    have mloop : ∀ (w0 : hb_W), zM w0 n T f1 f2 rf L R rows mix r li op → ∀ (Q : Option hb_V → hb_W → Prop), (∀ w3, hm_ag [31, 34, 35, 55, 56, 57, 86] [18, 19, 32, 56] w0 w3 → mRl w3 (rt_rows L rows (rt_rem r)) → Q (some (hb_i (nI (rt_rows L rows (rt_rem r)).1.length))) w3) → ∀ (m i : Nat), i + m = rows.length → ∀ w', hm_ag [31, 34, 35, 55, 56, 57, 86] [18, 19, 32, 56] w0 w' → mRl w' (rt_rows L (rows.take i) (rt_rem r)) → hb_R yX12_night cX12_night 3 (some .int) 1000 42 [some (hb_r 12 0 0), some (hb_i (nI (ry_sum rows))), some (hb_i (nI i))] [] w' Q := by
      intro w0 zm Q q m
      induction m with
      | zero =>
        intro i hi w' ha hR
        obtain rfl : i = rows.length := by omega
        have e23 : hb_fI w' 12 23 0 = nI rows.length := (ha.I 23).trans zm.2.2.2.2.2.2.1.2.2.1
        rw [List.take_length] at hR
        refine bk_X12_night_42 ?_
        rw [e23]
        refine ⟨fun _ => ?_, fun z => absurd (nI_le (Nat.le_refl _) (by omega)) z⟩
        have e1 : hb_aI w' 12 18 0 (1 : Int32).toNatClampNeg = nI (rt_rows L rows (rt_rem r)).1.length := hR.2.1
        rw [e1]
        exact q w' ha hR
      | succ m ih =>
        intro i hi w' ha hR
        have hk : rows[i]? = some rows[i] := List.getElem?_eq_getElem (by omega)
        have e23 : hb_fI w' 12 23 0 = nI rows.length := (ha.I 23).trans zm.2.2.2.2.2.2.1.2.2.1
        have htk : rows.take (i + 1) = rows.take i ++ [rows[i]] := by rw [List.take_add_one, hk]; rfl
        have hsum := ry_take hk
        have hle2 := ry_take_le rows (i + 1)
        refine bk_X12_night_42 ?_
        rw [e23]
        refine ⟨fun z => absurd z (nI_ge (by omega) (by omega)), fun _ => ?_⟩
        refine om_rowGoes (by omega) hL9 ((congrFun (ha.A 13) 2).trans zm.2.2.2.2.2.2.1.1) (hvr _ (gl_mem hk)) ((zm.2.2.2.2.2.2.1.2.2.2 i _ hk).ag ha (by decide) (by decide) (by decide) (by decide)) (hrow i).1 (by rw [(hrow i).2]; omega) hR (fun w3 k1 k2 => bk_X12_night_55 ?_)
        rw [nI_1]
        rw [← rt_rows_app, ← htk] at k1
        exact ih (i + 1) (by omega) w3 (ha.tr (k2.wk (by decide) (by decide))) k1
    -- the class's rows
    have cloop : ∀ (Q : Option hb_V → hb_W → Prop), (∀ w3, hw_ag (fun t _ => t = 7 ∨ t = 6) w w3 → cRl w3 (rt_rows L rows (rt_rem r)) → Q (some (hb_i (nI (rt_rows L rows (rt_rem r)).1.length))) w3) → ∀ (m i : Nat), i + m = rows.length → ∀ w', hw_ag (fun t _ => t = 7 ∨ t = 6) w w' → cRl w' (rt_rows L (rows.take i) (rt_rem r)) → hb_R yX11_night cX11_night 3 (some .int) 1000 49 [some (hb_r 0 0 0), some (hb_i (nI (ry_sum rows))), some (hb_i (nI i))] [] w' Q := by
      intro Q q m
      have n0 : ¬ (fun t (_ : Nat) => t = 7 ∨ t = 6) 0 0 := by decide
      have n11 : ¬ (fun t (_ : Nat) => t = 7 ∨ t = 6) 11 (hb_fR w 0 8 0) := (show ¬ ((11 : Nat) = 7 ∨ (11 : Nat) = 6) by decide)
      have n2 : ¬ (fun t (_ : Nat) => t = 7 ∨ t = 6) 2 (hb_fR w 0 8 0 + 1) := (show ¬ ((2 : Nat) = 7 ∨ (2 : Nat) = 6) by decide)
      induction m with
      | zero =>
        intro i hi w' ha hR
        obtain rfl : i = rows.length := by omega
        have e8 : hb_fR w' 0 8 0 = hb_fR w 0 8 0 := ha.2.2.1 0 8 0 n0
        rw [List.take_length] at hR
        refine bk_X11_night_49 ?_
        rw [e8, ha.1 11 4 _ n11, cw, hR.2.1]
        exact ⟨hg, fun _ => q w' ha hR, fun z => absurd (nI_le (Nat.le_refl _) (by omega)) z⟩
      | succ m ih =>
        intro i hi w' ha hR
        have e8 : hb_fR w' 0 8 0 = hb_fR w 0 8 0 := ha.2.2.1 0 8 0 n0
        have hk : rows[i]? = some rows[i] := List.getElem?_eq_getElem (by omega)
        have htk : rows.take (i + 1) = rows.take i ++ [rows[i]] := by rw [List.take_add_one, hk]; rfl
        have hsum := ry_take hk
        have hle2 := ry_take_le rows (i + 1)
        refine bk_X11_night_49 ?_
        rw [e8, ha.1 11 4 _ n11, cw]
        refine ⟨hg, fun z => absurd z (nI_ge (by omega) (by omega)), fun _ => ?_⟩
        refine ok_admitRow hg e8 (by omega) hL9 (by rw [ha.1 11 1 _ n11]; exact cl) (hvr _ (gl_mem hk)) ((crw i _ hk).ag ha n2 n11) (hrow i).1 (by rw [(hrow i).2]; omega) hR (fun w3 k1 k2 k3 => bk_X11_night_65 ?_)
        rw [nI_1]
        rw [← rt_rows_app, ← htk] at k1
        exact ih (i + 1) (by omega) w3 (ha.tr k2) k1
    refine ok_remember v1.2.2.2.2.2.1 v1.2.2.2.2.1 h.1.2.2.2.2.1 (fun w2 k1 k2 k3 => bk_X11_night_47 (cloop _ (fun w3 A3 R3 => ?_) rows.length 0 (by omega) w2 (k2.wk (fun t _ y => Or.inl y)) k1))
    obtain ⟨zc, zs, zm⟩ := h.rollc (r2 := rt_rows L rows (rt_rem r)) A3 (fun t _ y => by rcases y with y | y <;> omega) R3 (fun y => by
      have hl := (h.2.1.2.2 y).2.ag A3 (by decide) (by decide) (fun _ => by decide)
      obtain ⟨P2, hP2⟩ := rt_ext rows (L := L) (rt_rem r)
      rw [hP2]
      exact hl.app)
    have hfull := hrow rows.length
    rw [List.take_length] at hfull
    have zv : zV L R rows (rt_rows L rows (rt_rem r)) op := h.2.2.2.of h1 hfull.1 (h.2.2.2.2.1.rem v1.2.2.2.2.2.1 v1.2.2.2.2.1).rows
    have g30 : hb_fI w3 12 30 0 = 1 := zm.2.2.1.trans h1
    have g18 : hb_aI w3 12 18 0 (1 : Int32).toNatClampNeg = nI r.1.length := zm.2.2.2.1.2.1
    refine ⟨_, rfl, bk_X12_night_0 (om_wouldPass zm.2.2.2.2.2.2.1.2.2.1 h20 zm.2.2.2.2.2.2.1.2.2.2 (bk_X12_night_4 ?_))⟩
    rw [g30, g18, ec, e400, nI_leI (by omega) (by decide)]
    refine ⟨fun y => absurd y (by decide), fun _ => ⟨fun y => absurd y (by rw [e0, nI_eq (by omega) (by decide)]; exact hpos), fun _ => ⟨fun _ => ?_, fun y => absurd hle y⟩⟩⟩
    refine om_keeps v1.2.2.2.2.2.1 v1.2.2.2.2.1 zm.2.2.2.1 (fun w4 p1 p2 => bk_X12_night_40 (mloop w3 zm _ (fun w5 A5 R5 => ⟨rfl, ?_⟩) rows.length 0 (by omega) w4 (p2.wk (by decide) (by decide)) p1))
    exact (zW.rollm zc zs zm zv A5 (by decide) (by decide) (by decide) R5).S
