/-! ===== pairs: open ===== -/
section HZH
variable {d : Nat} {Q : Option hb_V → hb_W → Prop} {w w2 : hb_W} {n : Nat} {T : Nat → Nat} {f1 f2 : Int32} {rf : Nat → Int32} {L R : Nat} {rows : List wT} {mix : Option (List Nat)} {r r2 : rT} {li : List Int32} {op : Int32} {Pp : Nat → Nat → Prop} {K J : List Nat}
theorem zC.rc {k : Nat} (hC : zC w n T f1 f2 rf L R rows r li op) : zC (hb_sI w 0 1 0 (upd (hb_aI w 0 1 0) k (hb_aI w 0 1 0 k + 1))) n T f1 f2 (fun i => if i = k then hb_aI w 0 1 0 k + 1 else rf i) L R rows r li op := by
  have ha : hw_ag (fun t _ => t = 0) w (hb_sI w 0 1 0 (upd (hb_aI w 0 1 0) k (hb_aI w 0 1 0 k + 1))) := hw_ag.rf.sI rfl
  refine hC.re ha (fun _ _ => by decide) (fun _ _ => by decide) rfl rfl (hC.1.ag ha (by decide)) ⟨hC.2.1.1, hC.2.1.2.1, fun i hi => ?_⟩ hC.2.2.2.1 (hC.2.2.2.2.1.ag ha (by decide)) (hC.2.2.2.2.2.1.ag ha (by decide))
  rw [hw_aIs]
  by_cases e : i = k
  · subst e
    rw [if_pos rfl]
    exact pk_us
  · rw [if_neg e]
    exact (pk_un e).trans (hC.2.1.2.2 i hi)
theorem zS.rc {k : Nat} (hS : zS w L R mix r op) : zS (hb_sI w 0 1 0 (upd (hb_aI w 0 1 0) k (hb_aI w 0 1 0 k + 1))) L R mix r op := by
  have ha : hw_ag (fun t _ => t = 0) w (hb_sI w 0 1 0 (upd (hb_aI w 0 1 0) k (hb_aI w 0 1 0 k + 1))) := hw_ag.rf.sI rfl
  exact hS.ag2 ha rfl (show ¬ (2 : Nat) = 0 by decide) (show ¬ (11 : Nat) = 0 by decide) (fun _ => by decide) (by decide) (fun _ => by decide)
theorem zM.rc {k : Nat} (hM : zM w n T f1 f2 rf L R rows mix r li op) : zM (hb_sI w 0 1 0 (upd (hb_aI w 0 1 0) k (hb_aI w 0 1 0 k + 1))) n T f1 f2 rf L R rows mix r li op := hM.agc (Pp := fun t _ => t = 0) (hw_ag.rf.sI rfl) (by decide)
theorem mC.up {k : Nat} {C : List Nat} (h : mC w k C) (hu : up_ag w w2) : mC w2 k C := by
  obtain ⟨a, h1, h2, h3, h4⟩ := h
  exact ⟨a, (hu.2.2.2.1 _ (by omega)).trans h1, (hu.2.2.2.2.1 _ (by omega)).trans h2, h3, fun i c hi => (hu.2.2.2.2.2 _ (by omega)).trans (h4 i c hi)⟩
theorem mRow.up {k : Nat} {x : wT} (h : mRow w k x) (hu : up_ag w w2) : mRow w2 k x := by
  obtain ⟨h1, h2, h3, h4, h5⟩ := h
  exact ⟨(hu.2.2.1 _ (by omega)).trans h1, (hu.2.2.1 _ (by omega)).trans h2, (hu.2.2.1 _ (by omega)).trans h3, (hu.2.2.1 _ (by omega)).trans h4, h5.up hu⟩
theorem mMx.up (h : mMx w mix) (hu : up_ag w w2) : mMx w2 mix := by
  unfold mMx at h ⊢
  cases mix with
  | none => exact (hu.2.2.2.1 41 (by decide)).trans h
  | some C => exact ⟨h.1.up hu, h.2⟩
end HZH
theorem pr_open : hp_open Sim := by
  intro w hs
  obtain ⟨n, T, f1, f2, rf, L, R, rows, mix, r, li, op, hC, hS, hM, hV⟩ := hs
  obtain ⟨hg8, hg9, hne⟩ := hC.2.2.1
  have v1 := hV.1
  have n0 : ¬ aM (hb_fR w 0 9 0) 0 0 := by unfold aM; omega
  have n5 : ∀ g, ¬ aM (hb_fR w 0 9 0) 5 g := fun g => by unfold aM; omega
  have n7 : ¬ aM (hb_fR w 0 9 0) 7 0 := by unfold aM; omega
  have n8 : ¬ aM (hb_fR w 0 9 0) 8 0 := by unfold aM; omega
  have n9 : ∀ g, ¬ aM (hb_fR w 0 9 0) 9 g := fun g => by unfold aM; omega
  have n10 : ¬ aM (hb_fR w 0 9 0) 10 0 := by unfold aM; omega
  have n12 : ¬ aM (hb_fR w 0 9 0) 12 0 := by unfold aM; omega
  have p2 : ¬ aM (hb_fR w 0 9 0) 2 (hb_fR w 0 8 0 + 1) := by unfold aM; omega
  have p11 : ¬ aM (hb_fR w 0 9 0) 11 (hb_fR w 0 8 0) := by unfold aM; omega
  refine bk_X11_open_0 (ok_readNight hg9 hC.1 (fun st L2 R2 rows2 mix2 co K p w2 hL0 hL hR0 hR hO hp h20 hok hrF hN ha => bk_X11_open_11 (ok_keepFault ?_)) (fun k pl w2 hbX hrX ha => bk_X11_open_11 (ok_keepFault (bk_X11_open_24 ⟨fun y => absurd rfl y, fun _ => ok_refuse (k := 1) (by decide) (bk_X11_open_33 ⟨_, rfl, ?_⟩)⟩))))
  · -- a night
    show hb_R yX11_open cX11_open 3 (some .int) 1000 24 [some (hb_r 0 0 0), some (hb_i 1), none] [] (kfW w2) _
    have e9 : hb_fR (kfW w2) 0 9 0 = hb_fR w 0 9 0 := ha.2.2.1 0 9 0 n0
    have e8 : hb_fR (kfW w2) 0 8 0 = hb_fR w 0 8 0 := ha.2.2.1 0 8 0 n0
    have eco : hb_fI (kfW w2) 11 3 (hb_fR w 0 9 0) = nI co := hN.2.2.2.1
    have zc0 := hC.kf ha n0 n7 n10 p2 p11
    refine bk_X11_open_24 ⟨fun _ => ?_, fun y => absurd y (by decide)⟩
    rw [e9, e8, eco]
    refine ⟨hg9, ?_⟩
    have hW : hw_ag (fun t _ => t = 0) (kfW w2) (hb_pI (hb_pR (hb_pR (kfW w2) 0 8 0 (hb_fR w 0 9 0)) 0 9 0 (hb_fR w 0 8 0)) 0 10 0 1) := hw_ag.pI (t := 0) (hw_ag.pR (t := 0) (hw_ag.pR (t := 0) (hw_ag.rf) rfl) rfl) rfl
    refine ok_restart (zc0.2.2.2.2.1.ag hW (by decide)) (fun w3 k1 k2 k3 => bk_X11_open_71 hg8 (bk_X4_forget_0 (bk_X11_open_78 hg8 ?_)))
    have r8 : hb_fR w3 0 8 0 = hb_fR w 0 9 0 := by unfold hb_fR; rw [k3]; rfl
    have r9 : hb_fR w3 0 9 0 = hb_fR w 0 8 0 := by unfold hb_fR; rw [k3]; rfl
    have B : hw_ag (fun t _ => t = 0 ∨ t = 1 ∨ t = 7 ∨ t = 8) w2 (hb_pI (hb_pI w3 8 9 0 (-1)) 8 10 0 (-1)) := by
      have b0 : hw_ag (fun t _ => t = 0 ∨ t = 1 ∨ t = 7 ∨ t = 8) w2 (kfW w2) := hw_ag.pI (t := 0) (hw_ag.pI (t := 0) (hw_ag.pI (t := 1) (hw_ag.rf) (Or.inr (Or.inl rfl))) (Or.inl rfl)) (Or.inl rfl)
      have b1 := (b0.tr (hW.wk (fun t _ y => Or.inl y))).tr (k2.wk (fun t _ y => Or.inr (Or.inr (Or.inl y))))
      exact hw_ag.pI (t := 8) (hw_ag.pI (t := 8) b1 (Or.inr (Or.inr (Or.inr rfl)))) (Or.inr (Or.inr (Or.inr rfl)))
    have A : hw_ag (fun t g => aM (hb_fR w 0 9 0) t g ∨ t = 0 ∨ t = 1 ∨ t = 7 ∨ t = 8) w (hb_pI (hb_pI w3 8 9 0 (-1)) 8 10 0 (-1)) := (ha.wk (fun t g y => Or.inl y)).tr (B.wk (fun t g y => Or.inr y))
    have m11 : ¬ (fun t (_ : Nat) => t = 0 ∨ t = 1 ∨ t = 7 ∨ t = 8) 11 (hb_fR w 0 9 0) := (show ¬ ((11 : Nat) = 0 ∨ (11 : Nat) = 1 ∨ (11 : Nat) = 7 ∨ (11 : Nat) = 8) by decide)
    have m2 : ¬ (fun t (_ : Nat) => t = 0 ∨ t = 1 ∨ t = 7 ∨ t = 8) 2 (hb_fR w 0 9 0 + 1) := (show ¬ ((2 : Nat) = 0 ∨ (2 : Nat) = 1 ∨ (2 : Nat) = 7 ∨ (2 : Nat) = 8) by decide)
    have f := fun k => B.1 11 k (hb_fR w 0 9 0) m11
    obtain ⟨d0, d1, d2, d3, d4, d5, d6⟩ := hN
    have r8' : hb_fR (hb_pI (hb_pI w3 8 9 0 (-1)) 8 10 0 (-1)) 0 8 0 = hb_fR w 0 9 0 := r8
    have r9' : hb_fR (hb_pI (hb_pI w3 8 9 0 (-1)) 8 10 0 (-1)) 0 9 0 = hb_fR w 0 8 0 := r9
    have W3 : ∀ k, hb_fI w3 0 k 0 = hb_fI (hb_pI (hb_pR (hb_pR (kfW w2) 0 8 0 (hb_fR w 0 9 0)) 0 9 0 (hb_fR w 0 8 0)) 0 10 0 1) 0 k 0 := fun k => k2.1 0 k 0 (by decide)
    have zc : zC (hb_pI (hb_pI w3 8 9 0 (-1)) 8 10 0 (-1)) 0 T 0 (-1) rf L2 R2 (rows2.map (fun x => x.1)) (rt_new [] co (fun _ => -1) r) li 1 := by
      unfold zC
      rw [r8', r9']
      refine ⟨⟨?_, Nat.zero_le _, fun k hk => absurd hk (by omega)⟩, ⟨?_, ?_, fun k hk => ?_⟩, ⟨hg9, hg8, fun y => hne y.symm⟩, ?_, k1.ag (Pp := fun t _ => t = 8) (hw_ag.pI (t := 8) (hw_ag.pI (t := 8) hw_ag.rf rfl) rfl) (by decide), hC.2.2.2.2.2.1.ag A (by unfold aM; omega), by rw [f]; exact d1, by rw [f]; exact d2, by rw [f]; exact d4, fun k x hk => (d5 k x hk).ag B m2 m11⟩
      · show hb_fI w3 1 1 0 = nI 0
        rw [k2.1 1 1 0 (by decide)]
        rfl
      · show hb_fI w3 0 11 0 = 0
        rw [W3]
        exact hrF.1
      · show hb_fI w3 0 12 0 = -1
        rw [W3]
        exact hrF.2
      · show hb_aI w3 0 1 0 k = rf k
        rw [k2.2.2.2.1 0 1 0 (by decide)]
        show hb_aI w2 0 1 0 k = rf k
        rw [ha.2.2.2.1 0 1 0 n0]
        exact hC.2.1.2.2 k hk
      · show hb_fI w3 0 10 0 = 1
        rw [W3]
        rfl
    obtain ⟨s1, ⟨mk, s2⟩, s3⟩ := hS
    have hrf : cRf (hb_pI (hb_pI w3 8 9 0 (-1)) 8 10 0 (-1)) := s1.ag A (fun g => by unfold aM; omega)
    have zs : zS (hb_pI (hb_pI w3 8 9 0 (-1)) 8 10 0 (-1)) L2 R2 (mix2.map (fun m => m.1)) (rt_new [] co (fun _ => -1) r) 1 := by
      unfold zS
      rw [r8']
      exact ⟨hrf, ⟨mk, s2.ag A (by unfold aM; omega)⟩, fun _ => ⟨d6.ag B m2 m11, hrf, Or.inl rfl, Or.inl rfl⟩⟩
    have zm := hM.agc A (by unfold aM; omega)
    have zv : zV L2 R2 (rows2.map (fun x => x.1)) (rt_new [] co (fun _ => -1) r) 1 := by
      refine ⟨v1.new (Nat.zero_le _) (fun p hp => by cases hp) ⟨hok.2.2, fun l _ => Or.inl rfl, fun _ l _ => rfl⟩, vLt.new (fun l _ _ => rfl), ⟨hL, hR⟩, ⟨by rw [List.length_map]; exact h20, fun x hx => ?_⟩, Or.inr ⟨rfl, hL0, hR0⟩⟩
      obtain ⟨y, hy, rfl⟩ := List.mem_map.mp hx
      exact (hok.1 y hy).1
    have est : hb_fI (hb_pI (hb_pI w3 8 9 0 (-1)) 8 10 0 (-1)) 11 0 (hb_fR w 0 9 0) = nI st := (f 0).trans d0
    rw [r8', est]
    refine ⟨hg9, _, rfl, ?_⟩
    refine om_openG (d := 990) hO hp hok zm.1.1 zm.1.2 zm.2.2.2.2.2.1 zm.2.2.2.1 (fun w5 a5 q1 q7 q8 q30 q23 qL qR qrow qmx qroll => ⟨rfl, ?_⟩)
    refine zW.S (n := 0) (T := T) ⟨zc.cm a5, zs.cm zc.2.2.1.1 a5, ⟨⟨⟨Nat.zero_le _, fun k hk => absurd hk (by omega)⟩, q1⟩, ⟨q7, q8, fun k hk => (congrFun (a5.A 2) k).trans (zm.2.1.2.2 k hk)⟩, q30, qroll, zm.2.2.2.2.1.ag a5 (by decide) (by decide), zm.2.2.2.2.2.1.ag a5 (by decide), ⟨qL, qR, by rw [List.length_map]; exact q23, fun k x hk => ?_⟩, fun _ => qmx⟩, zv⟩
    rw [List.getElem?_map] at hk
    cases hr : rows2[k]? with
    | none => rw [hr] at hk; cases hk
    | some y =>
      rw [hr] at hk
      cases hk
      exact qrow k y hr
  · -- a fault
    have zc := (hC.kf ha n0 n7 n10 p2 p11).rc (k := 1)
    have zs0 : zS (kfW w2) L R mix r op := hS.ag2 (kf_ag ha) (ha.2.2.1 0 8 0 n0) (by unfold aM; omega) (by unfold aM; omega) (fun g => by unfold aM; omega) (by unfold aM; omega) (fun g => by unfold aM; omega)
    have zs := zs0.rc (k := 1)
    have zm := (hM.agc (kf_ag ha) (by unfold aM; omega)).rc (k := 1)
    rw [hrX.1, hrX.2] at zc
    refine om_openX (d := 990) hbX zm.1.1 zm.1.2 zm.2.2.2.2.2.1 (fun w5 a5 q1 q7 q8 q2 => ⟨rfl, ?_⟩)
    have hv : hb_aI (kfW w2) 0 1 0 1 = rf 1 := by
      show hb_aI w2 0 1 0 1 = rf 1
      rw [ha.2.2.2.1 0 1 0 n0]
      exact hC.2.1.2.2 1 (by decide)
    refine zW.S (n := 0) (T := T) ⟨zc.cm a5.1, zs.cm zc.2.2.1.1 a5.1, ⟨⟨⟨Nat.zero_le _, fun k hk => absurd hk (by omega)⟩, q1⟩, ⟨q7, q8, fun i hi => ?_⟩, (a5.I 30).trans zm.2.2.1, zm.2.2.2.1.ag a5.1 (by decide) (by decide) (by decide) (by decide) (by decide) (by decide), zm.2.2.2.2.1.ag a5.1 (by decide) (by decide), zm.2.2.2.2.2.1.ag a5.1 (by decide), ⟨a5.2.1.trans zm.2.2.2.2.2.2.1.1, a5.2.2.1.trans zm.2.2.2.2.2.2.1.2.1, (a5.I 23).trans zm.2.2.2.2.2.2.1.2.2.1, fun k x hk => (zm.2.2.2.2.2.2.1.2.2.2 k x hk).up a5.2⟩, fun y => (zm.2.2.2.2.2.2.2 y).up a5.2⟩, hV⟩
    rw [q2, hv]
    show _ = if i = 1 then rf 1 + 1 else rf i
    by_cases e : i = 1
    · rw [if_pos e, e]
      exact pk_us.trans (congrArg (fun x => x + 1) (zm.2.1.2.2 1 (by decide)))
    · rw [if_neg e]
      exact (pk_un e).trans (zm.2.1.2.2 i hi)
