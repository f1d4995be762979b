/-! ===== pairs: has ===== -/
theorem ry_take {l : List wT} {i : Nat} {x : wT} (h : l[i]? = some x) : ry_sum (l.take (i + 1)) = ry_sum (l.take i) + x.1 := by
  unfold ry_sum
  rw [List.take_add_one, h]
  simp
theorem ry_sum_le {l : List wT} (h : ∀ x ∈ l, vRow x) : ry_sum l ≤ 99 * l.length := by
  induction l with
  | nil => simp [ry_sum]
  | cons x l ih =>
    have h1 := ih (fun y hy => h y (List.mem_cons_of_mem _ hy))
    have h2 := (h x List.mem_cons_self).2.1
    have e : ry_sum (x :: l) = x.1 + ry_sum l := by unfold ry_sum; simp
    rw [e, List.length_cons]
    omega
section HHA
variable {d : Nat} {Q : Option hb_V → hb_W → Prop} {w : hb_W} {rows : List wT}
theorem ok_toCome {g : Nat} (hg : g < 2) (hl : hb_fI w 11 4 g = nI rows.length) (h20 : rows.length ≤ 20) (hr : ∀ k x, rows[k]? = some x → cRow w g k x) (q : Q (some (hb_i (nI (ry_sum rows)))) w) : hb_O yX6_passesToCome cX6_passesToCome 3 (some .int) d [hb_r 11 g 0] w Q := by
  have hgc : g < hb_ct 11 := hg
  have loop : ∀ (m i : Nat), i + m = rows.length → hb_R yX6_passesToCome cX6_passesToCome 3 (some .int) d 4 [some (hb_r 11 g 0), some (hb_i (nI (ry_sum (rows.take i)))), some (hb_i (nI i))] [] w Q := by
    intro m
    induction m with
    | zero =>
      intro i hi
      obtain rfl : i = rows.length := by omega
      refine bk_X6_passesToCome_4 hgc ?_
      rw [hl, List.take_length]
      exact ⟨fun _ => q, fun z => absurd (nI_le (Nat.le_refl _) (by omega)) z⟩
    | succ m ih =>
      intro i hi
      have hk : rows[i]? = some rows[i] := List.getElem?_eq_getElem (by omega)
      refine bk_X6_passesToCome_4 hgc ?_
      rw [hl]
      refine ⟨fun z => absurd z (nI_ge (by omega) (by omega)), fun _ => ⟨vp_in_nI (by omega) (by decide), ?_⟩⟩
      rw [nI_clamp (by omega), (hr i _ hk).1, nI_add, nI_1, ← ry_take hk]
      exact ih (i + 1) (by omega)
  exact bk_X6_passesToCome_0 hgc (loop rows.length 0 (by omega))
theorem om_wouldPass (hl : hb_fI w 12 23 0 = nI rows.length) (h20 : rows.length ≤ 20) (hr : ∀ k x, rows[k]? = some x → mRow w k x) (q : Q (some (hb_i (nI (ry_sum rows)))) w) : hb_O yX12_wouldPass cX12_wouldPass 3 (some .int) d [hb_r 12 0 0] w Q := by
  have loop : ∀ (m i : Nat), i + m = rows.length → hb_R yX12_wouldPass cX12_wouldPass 3 (some .int) d 4 [some (hb_r 12 0 0), some (hb_i (nI (ry_sum (rows.take i)))), some (hb_i (nI i))] [] w Q := by
    intro m
    induction m with
    | zero =>
      intro i hi
      obtain rfl : i = rows.length := by omega
      refine bk_X12_wouldPass_4 ?_
      rw [hl, List.take_length]
      exact ⟨fun _ => q, fun z => absurd (nI_le (Nat.le_refl _) (by omega)) z⟩
    | succ m ih =>
      intro i hi
      have hk : rows[i]? = some rows[i] := List.getElem?_eq_getElem (by omega)
      have e : (80 : Int32) + (4 : Int32) * nI i = nI (80 + 4 * i) := by rw [show (4 : Int32) = nI 4 from rfl, pk_mul]; exact nI_add 80 _
      refine bk_X12_wouldPass_4 ?_
      rw [hl, e]
      refine ⟨fun z => absurd z (nI_ge (by omega) (by omega)), fun _ => ⟨vp_in_nI (by omega) (by decide), ?_⟩⟩
      rw [nI_clamp (by omega), (hr i _ hk).1, nI_add, nI_1, ← ry_take hk]
      exact ih (i + 1) (by omega)
  exact bk_X12_wouldPass_0 (loop rows.length 0 (by omega))
theorem om_hoodMany {P : List (Nat × Nat × Nat)} (hlen : P.length ≤ 400) (ho : sp_okP P) (hn : hb_aI w 12 18 0 1 = nI P.length) (hP : mP w P) (q : ∀ w2, hm_ag [] [21] w w2 → Q (some (hb_i (nI (sp_U (sp_T (sp_bk 2 P)))))) w2) : hb_O yX12_hoodMany cX12_hoodMany 2 (some .int) (d + 1) [hb_r 12 0 0] w Q := by
  have loop2 : ∀ (m k : Nat), k + m = P.length → ∀ w', hm_ag [] [21] w w' → (∀ h, h < 64 → hb_aI w' 12 21 0 h = nI (sp_T (sp_bk 2 (P.take k)) h)) → hb_R yX12_hoodMany cX12_hoodMany 2 (some .int) (d + 1) 23 [some (hb_r 12 0 0), some (hb_i (nI k))] [] w' Q := by
    intro m
    induction m with
    | zero =>
      intro k hk w' ha hT
      obtain rfl : k = P.length := by omega
      have e1 : hb_aI w' 12 18 0 (1 : Int32).toNatClampNeg = nI P.length := (congrFun (ha.A 18) 1).trans hn
      refine bk_X12_hoodMany_23 ?_
      rw [e1]
      rw [List.take_length] at hT
      refine ⟨fun _ => om_unlikeMany (T := sp_T (sp_bk 2 P)) (fun h hh => ⟨hT h hh, ?_⟩) (bk_X12_hoodMany_57 (q w' ha)), fun z => absurd (nI_le (Nat.le_refl _) (by omega)) z⟩
      have := sp_T_le (sp_bk 2 P) h
      have := sp_bk_len 2 P
      omega
    | succ m ih =>
      intro k hk w' ha hT
      have hkl : k < P.length := by omega
      have hpk : P[k]? = some P[k] := List.getElem?_eq_getElem hkl
      have hpp := ho P[k] (List.getElem_mem hkl)
      have htk : P.take (k + 1) = P.take k ++ [P[k]] := by rw [List.take_add_one, hpk]; rfl
      have e1 : hb_aI w' 12 18 0 (1 : Int32).toNatClampNeg = nI P.length := (congrFun (ha.A 18) 1).trans hn
      have hP' : mP w' P := fun j p hj => by rw [ha.A 19]; exact hP j p hj
      refine bk_X12_hoodMany_23 ?_
      rw [e1]
      refine ⟨fun z => absurd z (nI_ge hkl (by omega)), fun _ => om_hoodOf hpk (by omega) hP' (bk_X12_hoodMany_42 ?_)⟩
      have v : vp_in (nI P[k].1) 64 := vp_in_nI hpp.1 (by decide)
      rw [nI_clamp (by omega), nI_1]
      refine ⟨v, v, ih (k + 1) (by omega) _ (ha.sI (by decide)) (fun h hh => ?_)⟩
      rw [oa_s, htk, sp_bk_app, if_pos (Or.inl rfl), sp_T_app]
      by_cases u : h = P[k].1
      · subst u
        rw [if_pos rfl, pk_us, hT _ hpp.1, nI_1]
      · rw [if_neg u, pk_un u]
        exact hT h hh
  have loop1 : ∀ (m i : Nat), i + m = 64 → ∀ w', hm_ag [] [21] w w' → (∀ h, h < i → hb_aI w' 12 21 0 h = 0) → hb_R yX12_hoodMany cX12_hoodMany 2 (some .int) (d + 1) 2 [some (hb_r 12 0 0), some (hb_i (nI i))] [] w' Q := by
    intro m
    induction m with
    | zero =>
      intro i hi w' ha hT
      obtain rfl : i = 64 := by omega
      exact bk_X12_hoodMany_2 ⟨fun _ => loop2 P.length 0 (by omega) w' ha (fun h hh => hT h hh), fun z => absurd (nI_le (Nat.le_refl 64) (by decide)) z⟩
    | succ m ih =>
      intro i hi w' ha hT
      refine bk_X12_hoodMany_2 ⟨fun y => absurd y (nI_ge (b := 64) (by omega) (by decide)), fun _ => ?_⟩
      rw [nI_clamp (by omega), nI_1]
      refine ⟨vp_in_nI (by omega) (by decide), ih (i + 1) (by omega) _ (ha.sI (by decide)) (fun h hh => ?_)⟩
      rw [oa_s]
      by_cases u : h = i
      · subst u; exact pk_us
      · exact (pk_un u).trans (hT h (by omega))
  exact bk_X12_hoodMany_0 (loop1 64 0 rfl w hm_ag.rf (fun h hh => absurd hh (by omega)))
end HHA
theorem pr_has : hp_has Sim := by
  intro w x hs
  obtain ⟨n, T, f1, f2, rf, L, R, rows, mix, r, li, op, h⟩ := hs
  have hg := h.1.2.2.1.1
  obtain ⟨cl, cr, cw, crw⟩ := h.1.2.2.2.2.2.2
  obtain ⟨ml, mr, mw, mrw⟩ := h.2.2.1.2.2.2.2.2.2.1
  have h20 := h.2.2.2.2.2.2.1.1
  obtain ⟨c1, c2, c3, c4, c5, c6, c7, c8⟩ := h.1.2.2.2.2.1
  obtain ⟨m1, m2, m3, m4, m5, m6, m7, m8⟩ := h.2.2.1.2.2.2.1
  have ab : ∀ {P : Prop} {a b : Int32}, a ≠ b → a = b → P := fun hn he => absurd he hn
  refine bk_X11_has_0 ⟨fun e => ?_, fun e => ?_, fun e => ?_, fun e => ?_, fun e => ?_, fun e => ?_, fun e => ?_, fun e => ?_, fun n0 n1 n2 n3 n4 n5 n6 n7 => ⟨_, rfl, bk_X12_has_0 ⟨fun e => absurd e n0, fun e => absurd e n1, fun e => absurd e n2, fun e => absurd e n3, fun e => absurd e n4, fun e => absurd e n5, fun e => absurd e n6, fun e => absurd e n7, fun _ _ _ _ _ _ _ _ => ⟨rfl, h.S⟩⟩⟩⟩
  · subst e
    exact ⟨hg, _, rfl, bk_X12_has_0 ⟨fun _ => ⟨(vp_in_nI (by decide) (by decide) : vp_in (nI 2) 6), eqi (ml.trans cl.symm), h.S⟩, ab (by decide), ab (by decide), ab (by decide), ab (by decide), ab (by decide), ab (by decide), ab (by decide), fun e => absurd rfl e⟩⟩
  · subst e
    exact ⟨hg, _, rfl, bk_X12_has_0 ⟨ab (by decide), fun _ => ⟨(vp_in_nI (by decide) (by decide) : vp_in (nI 3) 6), eqi (mr.trans cr.symm), h.S⟩, ab (by decide), ab (by decide), ab (by decide), ab (by decide), ab (by decide), ab (by decide), fun _ e => absurd rfl e⟩⟩
  · subst e
    exact ⟨hg, _, rfl, bk_X12_has_0 ⟨ab (by decide), ab (by decide), fun _ => ⟨eqi (mw.trans cw.symm), h.S⟩, ab (by decide), ab (by decide), ab (by decide), ab (by decide), ab (by decide), fun _ _ e => absurd rfl e⟩⟩
  · subst e
    exact ⟨hg, ok_toCome hg cw h20 crw (bk_X11_has_79 ⟨_, rfl, bk_X12_has_0 ⟨ab (by decide), ab (by decide), ab (by decide), fun _ => om_wouldPass mw h20 mrw (bk_X12_has_66 ⟨rfl, h.S⟩), ab (by decide), ab (by decide), ab (by decide), ab (by decide), fun _ _ _ e => absurd rfl e⟩⟩)⟩
  · subst e
    exact ⟨_, rfl, bk_X12_has_0 ⟨ab (by decide), ab (by decide), ab (by decide), ab (by decide), fun _ => ⟨(vp_in_nI (by decide) (by decide) : vp_in (nI 0) 11), eqi (m3.trans c3.symm), h.S⟩, ab (by decide), ab (by decide), ab (by decide), fun _ _ _ _ e => absurd rfl e⟩⟩
  · subst e
    exact ⟨_, rfl, bk_X12_has_0 ⟨ab (by decide), ab (by decide), ab (by decide), ab (by decide), ab (by decide), fun _ => ⟨(vp_in_nI (by decide) (by decide) : vp_in (nI 1) 11), eqi (m2.trans c2.symm), h.S⟩, ab (by decide), ab (by decide), fun _ _ _ _ _ e => absurd rfl e⟩⟩
  · subst e
    have mod : ∀ (w2 : hb_W) (Q : Option hb_V → hb_W → Prop), zW w2 n T f1 f2 rf L R rows mix r li op → (∀ w3, zW w3 n T f1 f2 rf L R rows mix r li op → Q (some (hb_i (nI (sp_U (sp_T (sp_bk 2 r.1)))))) w3) → hb_O yX12_has cX12_has 2 (some .int) 1000 [hb_r 12 0 0, hb_i 6] w2 Q := fun w2 Q h2 q => bk_X12_has_0 ⟨ab (by decide), ab (by decide), ab (by decide), ab (by decide), ab (by decide), ab (by decide), fun _ => om_hoodMany h2.2.2.2.1.1 h2.2.2.2.1.2.1 h2.2.2.1.2.2.2.1.2.1 h2.2.2.1.2.2.2.1.1 (fun w3 k1 => bk_X12_has_80 (q w3 (h2.m k1 (by decide) (by decide) (by decide)))), ab (by decide), fun _ _ _ _ _ _ e => absurd rfl e⟩
    have e10 : hb_fI w 0 10 0 = op := h.1.2.2.2.1
    refine bk_X11_unlikePassed_0 ?_
    rw [e10]
    rcases h.2.2.2.op1 with h0 | h1
    · refine ⟨fun y => absurd h0 y, fun _ => bk_X11_has_100 ⟨_, rfl, mod w _ h (fun w3 h3 => ⟨eqi ?_, h3.S⟩)⟩⟩
      have hr : r.1 = [] := by
        rcases h.2.2.2.2.2.2.2 with y | y
        · exact y.2.1
        · exact absurd (h0.symm.trans y.1) (by decide)
      rw [hr]
      rfl
    · exact ⟨fun _ => ok_up h h1 (fun w2 hU h2 _ => bk_X11_unlikePassed_24 (bk_X11_has_100 ⟨_, rfl, mod w2 _ h2 (fun w3 h3 => ⟨eqi (hU.2.2.2.2 2 (by decide)).2.2.2.1.2.1.symm, h3.S⟩)⟩)), fun y => absurd (h1.symm.trans y) (by decide)⟩
  · subst e
    exact ⟨_, rfl, bk_X12_has_0 ⟨ab (by decide), ab (by decide), ab (by decide), ab (by decide), ab (by decide), ab (by decide), ab (by decide), fun _ => ⟨eqi (m5.trans c5.symm), h.S⟩, fun _ _ _ _ _ _ _ e => absurd rfl e⟩⟩
