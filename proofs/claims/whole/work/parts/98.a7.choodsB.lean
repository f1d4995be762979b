section HKI
variable {d : Nat} {w : hb_W} {Q : Option hb_V → hb_W → Prop} {T : Nat → Nat} {n p g1 tk st L R co : Nat} {z : Bool} {rows : List rO} {mix : Option (List Nat × Nat)} {K : List Nat}
/-- up to the codes -/
theorem ok_hoodsA (hg : g1 < 2) (hst : ¬ st = 40) (hW : lx_W T n p z wd_hoods) (h : cSt w T n g1 tk p z st L R rows mix co K) (q1 : hC3 T n p z rows.length → lx_no T n (pN T n 5 p) (zN T n 5 p z) 0 63 → lx_W T n (pN T n 6 p) (zN T n 6 p z) wd_gives → ∀ w2, cMd w2 T n g1 tk (pN T n 7 p) (zN T n 7 p z) st L R rows mix co K [(3, vN T n 5 p), (2, vN T n 3 p), (1, vN T n 1 p)] → hw_ag (aM g1) w w2 → w2.2.2.1 = w.2.2.1 → hb_R yX2_readHoods cX2_readHoods 3 (some .boolean) (d + 31) 149 [some (hb_r 4 0 0), some (hb_r 11 g1 0), some (hb_i (nI rows.length))] [hb_i 1] w2 Q) (q0 : ∀ k pl w2, oX T n p z st L R rows mix co K k pl → rX w2 k pl → hw_ag (aM g1) w w2 → w2.2.2.1 = w.2.2.1 → Q (some (hb_i 0)) w2) : hb_O yX2_readHoods cX2_readHoods 3 (some .boolean) (d + 31) [hb_r 4 0 0, hb_r 11 g1 0] w Q := by
  have hgc : g1 < hb_ct 11 := hg
  obtain ⟨hS, hN, hr, hl, hok⟩ := h
  have hp := hS.1.2.1.1
  have k1 : lx_k T n p ≠ 0 := by rw [hW.2.1]; decide
  have hlt := lx_n_lt hp k1
  have h4 : hb_fI w 11 4 g1 = nI rows.length := hN.2.2.2.2.1
  have p11 : aM g1 11 g1 := Or.inr (Or.inr (Or.inr ⟨rfl, rfl⟩))
  have kk : (nI rows.length).toNatClampNeg = rows.length := nI_clamp (by omega)
  have at_ : ∀ (w' : hb_W) (j : Nat) (v : Int32), hb_aI (hb_sI w' 11 j g1 (upd (hb_aI w' 11 j g1) rows.length v)) 11 j g1 rows.length = v := fun w' j v => by rw [sI_s]; exact pk_us
  refine bk_X2_readHoods_0 hgc ?_
  rw [h4, hS.1.2.1.2.2.2.2.1, show (20 : Int32) = nI 20 from rfl, nI_ltI (by omega) (by decide)]
  refine ⟨fun hr2 => ?_, fun hr2 => ok_stopG (k := 5) hS.1.2.2 (fun w2 c1 c2 c3 => bk_X2_readHoods_26 hgc ⟨Or.inl rfl, q0 5 p w2 (oX_h0 hW hst (by omega)) c1 (aM3 c2) c3⟩)⟩
  have v20 : vp_in (nI rows.length) 20 := vp_in_nI (by omega) (by decide)
  refine ok_stepG hS.1 k1 (fun e => by rw [hW.1] at e; cases e) (fun w1 a1 a2 a3 => bk_X2_readHoods_34 hgc ?_)
  have M0 : cMd w T n g1 tk p z st L R rows mix co K [] := ⟨hS, hN, hr2, hl, hok, fun q hq => by cases hq⟩
  have M1 : cMd w1 T n g1 tk (pN T n 1 p) (zN T n 1 p z) st L R rows mix co K [] := M0.lex a1 a2 a3 (Nat.le_of_lt hlt)
  refine ok_numM (lo := 1) (hi := 99) (by decide) (by decide) M1 (fun c1 w2 M2 b2 b3 => bk_X2_readHoods_49 hgc hgc ⟨v20, v20, ?_⟩) (fun c1 w2 b1 b2 b3 => bk_X2_readHoods_49 hgc hgc ⟨v20, v20, ?_⟩)
  · rw [kk, at_]
    refine ⟨fun y => absurd y (hx_ne (by have := c1.2.2.2.2; omega)), fun _ => ?_⟩
    have A2 := ((aM3 (g1 := g1) a2).tr b2).sI (f := upd (hb_aI w2 11 1 g1) rows.length (nI (vN T n 1 p))) (j := 1) p11
    have r2 := b3.trans a3
    have M2' := M2.put (j := 1) (v := vN T n 1 p) (fun q hq => by cases hq)
    refine ok_wordM (wd := wd_from) (wdo ⟨7, by decide⟩) (by decide) M2' (fun c2 w3 M3 d2 d3 => bk_X2_readHoods_69 hgc ⟨fun _ => ?_, fun y => absurd y (by decide)⟩) (fun c2 w3 d1 d2 d3 => bk_X2_readHoods_69 hgc ⟨fun y => absurd rfl y, fun _ => q0 1 _ w3 (oX_h2 hW hst hr2 c1 c2) d1 (A2.tr d2) (d3.trans r2)⟩)
    have A3 := A2.tr d2
    have r3 : w3.2.2.1 = w.2.2.1 := d3.trans r2
    refine ok_numM (lo := 0) (hi := 63) (by decide) (by decide) M3 (fun c3 w4 M4 e2 e3 => bk_X2_readHoods_89 hgc hgc ⟨v20, v20, ?_⟩) (fun c3 w4 e1 e2 e3 => bk_X2_readHoods_89 hgc hgc ⟨v20, v20, ?_⟩)
    · rw [kk, at_]
      refine ⟨fun y => absurd y (hx_ne (by have := c3.2.2.2.2; omega)), fun _ => ?_⟩
      have A4 := (A3.tr e2).sI (f := upd (hb_aI w4 11 2 g1) rows.length (nI (vN T n 3 p))) (j := 2) p11
      have r4 := e3.trans r3
      have M4' := M4.put (j := 2) (v := vN T n 3 p) (by simp)
      refine ok_wordM (wd := wd_step) (wdo ⟨8, by decide⟩) (by decide) M4' (fun c4 w5 M5 f2 f3 => bk_X2_readHoods_109 hgc ⟨fun _ => ?_, fun y => absurd y (by decide)⟩) (fun c4 w5 f1 f2 f3 => bk_X2_readHoods_109 hgc ⟨fun y => absurd rfl y, fun _ => q0 1 _ w5 (oX_h4 hW hst hr2 c1 c2 c3 c4) f1 (A4.tr f2) (f3.trans r4)⟩)
      have A5 := A4.tr f2
      have r5 : w5.2.2.1 = w.2.2.1 := f3.trans r4
      have C3 : hC3 T n p z rows.length := ⟨hW, hr2, c1, c2, c3, c4⟩
      refine ok_numM (lo := 0) (hi := 63) (by decide) (by decide) M5 (fun c5 w6 M6 k2 k3 => bk_X2_readHoods_129 hgc hgc ⟨v20, v20, ?_⟩) (fun c5 w6 k1 k2 k3 => bk_X2_readHoods_129 hgc hgc ⟨v20, v20, ?_⟩)
      · rw [kk, at_]
        refine ⟨fun y => absurd y (hx_ne (by have := c5.2.2.2.2; omega)), fun _ => ?_⟩
        have A6 := (A5.tr k2).sI (f := upd (hb_aI w6 11 3 g1) rows.length (nI (vN T n 5 p))) (j := 3) p11
        have r6 := k3.trans r5
        have M6' := M6.put (j := 3) (v := vN T n 5 p) (by simp)
        exact ok_wordM (wd := wd_gives) (wdo ⟨9, by decide⟩) (by decide) M6' (fun c6 w7 M7 l2 l3 => q1 C3 c5 c6 w7 M7 (A6.tr l2) (l3.trans r6)) (fun c6 w7 l1 l2 l3 => bk_X2_readHoods_149 hgc ⟨fun y => absurd rfl y, fun _ => q0 1 _ w7 (oX_h6 hst C3 c5 c6) l1 (A6.tr l2) (l3.trans r6)⟩)
      · rw [kk, at_]
        exact ⟨fun _ => q0 _ _ _ (oX_h5 hst C3 c5) k1 ((A5.tr k2).sI p11) (k3.trans r5), fun y => absurd rfl y⟩
    · rw [kk, at_]
      exact ⟨fun _ => q0 _ _ _ (oX_h3 hW hst hr2 c1 c2 c3) e1 ((A3.tr e2).sI p11) (e3.trans r3), fun y => absurd rfl y⟩
  · rw [kk, at_]
    exact ⟨fun _ => q0 _ _ _ (oX_h1 hW hst hr2 c1) b1 (((aM3 a2).tr b2).sI p11) (b3.trans a3), fun y => absurd rfl y⟩
end HKI
