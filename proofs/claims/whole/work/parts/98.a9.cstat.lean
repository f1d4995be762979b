/-! ===== the class's nights: a statement ===== -/
section HKS
variable {d : Nat} {w : hb_W} {Q : Option hb_V → hb_W → Prop} {T : Nat → Nat} {n p g1 tk st L R co : Nat} {z : Bool} {rows : List rO} {mix : Option (List Nat × Nat)} {K : List Nat}
theorem cSt.lex {w2 : hb_W} {p2 : Nat} {z2 : Bool} (h : cSt w T n g1 tk p z st L R rows mix co K) (hG : rG w2 T n p2 z2) (ha : hw_ag (fun t _ => t = 3) w w2) (hr : w2.2.2.1 = w.2.2.1) (hp : p ≤ p2) : cSt w2 T n g1 tk p2 z2 st L R rows mix co K := by
  have n3 : ¬ (fun t (_ : Nat) => t = 3) 11 g1 := (show ¬ (11 : Nat) = 3 by decide)
  obtain ⟨h1, h2, h3, h4, h5⟩ := h
  exact ⟨h1.lex hG ha hr, h2.ag ha n3, h3, by omega, h5⟩
theorem cSt.coin {v : Nat} (h : cSt w T n g1 tk p z st L R rows mix co K) (hv : v < 100) : cSt (hb_pI w 11 3 g1 (nI v)) T n g1 tk p z st L R rows mix v K := by
  have ha : hw_ag (fun t g => t = 11 ∧ g = g1) w (hb_pI w 11 3 g1 (nI v)) := hw_ag.rf.pI ⟨rfl, rfl⟩
  obtain ⟨⟨s1, s2, s3, s4, s5⟩, ⟨h0, h1, h2, h3, h4, h5, h6⟩, hr, hl, hok⟩ := h
  refine ⟨⟨s1.ag ha (by omega) (by omega), s2, s3, s4, s5⟩, ⟨(pI_n _ _ _ _ _ (by decide)).trans h0, (pI_n _ _ _ _ _ (by decide)).trans h1, (pI_n _ _ _ _ _ (by decide)).trans h2, pI_s _ _ _ _ _, (pI_n _ _ _ _ _ (by decide)).trans h4, h5, ?_⟩, hr, hl, ⟨hok.1, hok.2.1, hv⟩⟩
  unfold cNx at h6 ⊢
  cases mix with
  | none => exact (pI_n _ _ _ _ _ (by decide)).trans h6
  | some m => exact ⟨(pI_n _ _ _ _ _ (by decide)).trans h6.1, (pI_n _ _ _ _ _ (by decide)).trans h6.2.1, (pI_n _ _ _ _ _ (by decide)).trans h6.2.2⟩
theorem ok_signS (h : cSt w T n g1 tk p z st L R rows mix co K) (q1 : lx_s T n p 59 → ∀ w2, cSt w2 T n g1 tk (lx_n T n p) false st L R rows mix co K → hw_ag (aM g1) w w2 → w2.2.2.1 = w.2.2.1 → Q (some (hb_i 1)) w2) (q0 : ¬ lx_s T n p 59 → ∀ w2, rX w2 1 p → hw_ag (aM g1) w w2 → w2.2.2.1 = w.2.2.1 → Q (some (hb_i 0)) w2) : hb_O yX7_takeSign cX7_takeSign 2 (some .boolean) (d + 2) [hb_r 3 0 0, hb_i 59] w Q := ok_takeSign sg59 h.1.1 (fun y w2 g1' g2 g3 => q1 y w2 (h.lex g1' g2 g3 (Nat.le_of_lt (lx_n_lt h.1.1.2.1.1 (by rw [lx_s3 sg59 y]; decide)))) (aM3 g2) g3) (fun y w2 g1' g2 g3 => q0 y w2 g1' (aM3 g2) g3)
theorem ok_readStatement (hg : g1 < 2) (hst : st < 40) (hp : p < n) (h : cSt w T n g1 tk p z st L R rows mix co K) (q1 : ∀ tk' p' rows' mix' co' K' w2, oG T n p z st L R rows mix co K p' false rows' mix' co' K' → cSt w2 T n g1 tk' p' false st L R rows' mix' co' K' → hw_ag (aM g1) w w2 → w2.2.2.1 = w.2.2.1 → Q (some (hb_i 1)) w2) (q0 : ∀ k pl w2, oX T n p z st L R rows mix co K k pl → rX w2 k pl → hw_ag (aM g1) w w2 → w2.2.2.1 = w.2.2.1 → Q (some (hb_i 0)) w2) : hb_O yX2_readStatement cX2_readStatement 3 (some .boolean) (d + 32) [hb_r 4 0 0, hb_r 11 g1 0] w Q := by
  have hgc : g1 < hb_ct 11 := hg
  have hne : ¬ st = 40 := by omega
  have p11 : aM g1 11 g1 := Or.inr (Or.inr (Or.inr ⟨rfl, rfl⟩))
  have wh := h.1.W (wd := wd_hoods) (x := 112806131) (wdo ⟨6, by decide⟩) (by decide)
  have wm := h.1.W (wd := wd_mix) (x := 115096) (wdo ⟨11, by decide⟩) (by decide)
  have wc := h.1.W (wd := wd_coin) (x := 3361166) (wdo ⟨12, by decide⟩) (by decide)
  refine bk_X2_readStatement_0 hgc ?_
  rw [wh, wm, wc, h.1.1.2.1.2.2.2.2.1]
  refine ⟨fun nh => ⟨fun nm => ⟨fun nc => ?_, fun hW => ?_⟩, fun hW => ?_⟩, fun hW => ?_⟩
  · exact ok_stopG (k := 1) h.1.1.2.2 (fun w2 c1 c2 c3 => bk_X2_readStatement_107 hgc ⟨fun _ => q0 1 p w2 (oX_none hp hne nh nm nc) c1 (aM3 c2) c3, fun y => absurd rfl y⟩)
  · have k1 : lx_k T n p ≠ 0 := by rw [hW.2.1]; decide
    have hlt := lx_n_lt h.1.1.2.1.1 k1
    refine ok_stepG h.1.1 k1 (fun e => by rw [hW.1] at e; cases e) (fun w1 a1 a2 a3 => bk_X2_readStatement_61 hgc ?_)
    have S1 := h.lex a1 a2 a3 (Nat.le_of_lt hlt)
    refine ok_takeNumber (lo := 0) (hi := 99) (by decide) (by decide) a1 (fun c1 w2 b1 b2 b3 => bk_X2_readStatement_72 hgc hgc ?_) (fun c1 w2 b1 b2 b3 => bk_X2_readStatement_72 hgc hgc ?_)
    · rw [pI_s]
      have hv := c1.2.2.2.2
      refine ⟨fun y => absurd y (hx_ne (by omega)), fun _ => ⟨fun y => absurd y (by decide), fun _ => ?_⟩⟩
      have hlt2 := lx_n_lt a1.2.1.1 (show lx_k T n (lx_n T n p) ≠ 0 by rw [c1.2.1]; decide)
      have S2 := (S1.lex b1 b2 b3 (Nat.le_of_lt hlt2)).coin (v := lx_v T (lx_n T n p) (lx_E T n (lx_n T n p) - lx_n T n p)) (by omega)
      have A2 : hw_ag (aM g1) w (hb_pI w2 11 3 g1 (nI (lx_v T (lx_n T n p) (lx_E T n (lx_n T n p) - lx_n T n p)))) := (aM3 (a2.tr b2)).pI p11
      exact ok_signS S2 (fun c2 w3 S3 e2 e3 => bk_X2_readStatement_121 hgc ⟨fun y => absurd y (by decide), fun _ => q1 _ _ _ _ _ _ w3 (oG_coin hW hst c1 c2) S3 (A2.tr e2) (e3.trans (b3.trans a3))⟩) (fun c2 w3 e1 e2 e3 => bk_X2_readStatement_121 hgc ⟨fun _ => q0 1 _ w3 (oX_coin2 hW hst c1 c2) e1 (A2.tr e2) (e3.trans (b3.trans a3)), fun y => absurd rfl y⟩)
    · rw [pI_s]
      exact ⟨fun _ => ⟨fun _ => q0 _ _ _ (oX_coin1 hW hne c1) b1 ((aM3 (a2.tr b2)).pI p11) (b3.trans a3), fun y => absurd rfl y⟩, fun y => absurd rfl y⟩
  · refine ok_readMix hg hne hW h (fun hm D p1 z1 w2 l1 l2 S2 A2 r2 => bk_X2_readStatement_38 hgc ⟨fun y => absurd y (by decide), fun _ => ?_⟩) (fun k pl w2 l1 l2 A2 r2 => bk_X2_readStatement_38 hgc ⟨fun _ => q0 k pl w2 l1 l2 A2 r2, fun y => absurd rfl y⟩)
    subst hm
    exact ok_signS S2 (fun c2 w3 S3 e2 e3 => bk_X2_readStatement_121 hgc ⟨fun y => absurd y (by decide), fun _ => q1 _ _ _ _ _ _ w3 (oG_mix hW hst l1 l2 c2) S3 (A2.tr e2) (e3.trans r2)⟩) (fun c2 w3 e1 e2 e3 => bk_X2_readStatement_121 hgc ⟨fun _ => q0 1 _ w3 (oX_mixE hW hst l1 l2 c2) e1 (A2.tr e2) (e3.trans r2), fun y => absurd rfl y⟩)
  · refine ok_readHoods hg hne hW h (fun D p1 z1 w2 C7 c8 c9 S2 A2 r2 => bk_X2_readStatement_17 hgc ⟨fun y => absurd y (by decide), fun _ => ?_⟩) (fun k pl w2 l1 l2 A2 r2 => bk_X2_readStatement_17 hgc ⟨fun _ => q0 k pl w2 l1 l2 A2 r2, fun y => absurd rfl y⟩)
    exact ok_signS S2 (fun c2 w3 S3 e2 e3 => bk_X2_readStatement_121 hgc ⟨fun y => absurd y (by decide), fun _ => q1 _ _ _ _ _ _ w3 (oG_h hst C7 c8 c9 c2) S3 (A2.tr e2) (e3.trans r2)⟩) (fun c2 w3 e1 e2 e3 => bk_X2_readStatement_121 hgc ⟨fun _ => q0 1 _ w3 (oX_h10 hst C7 c8 c9 c2) e1 (A2.tr e2) (e3.trans r2), fun y => absurd rfl y⟩)
end HKS
