/-! ===== the class's nights: state, mix ===== -/
def cNr (w : hb_W) (g1 k : Nat) (x : rO) : Prop := hb_aI w 11 1 g1 k = nI x.1.1 ∧ hb_aI w 11 2 g1 k = nI x.1.2.1 ∧ hb_aI w 11 3 g1 k = nI x.1.2.2.1 ∧ hb_aI w 11 4 g1 k = nI x.1.2.2.2.1 ∧ hb_aI w 11 5 g1 k = nI x.2 ∧ hb_aI w 11 6 g1 k = nI (x.2 + x.1.2.2.2.2.length)
def cNx (w : hb_W) (g1 : Nat) (mix : Option (List Nat × Nat)) : Prop := match mix with
  | none => hb_fI w 11 12 g1 = 0
  | some m => hb_fI w 11 12 g1 = 1 ∧ hb_fI w 11 13 g1 = nI m.2 ∧ hb_fI w 11 14 g1 = nI (m.2 + m.1.length)
def cNn (w : hb_W) (g1 st L R : Nat) (rows : List rO) (mix : Option (List Nat × Nat)) (co : Nat) : Prop := hb_fI w 11 0 g1 = nI st ∧ hb_fI w 11 1 g1 = nI L ∧ hb_fI w 11 2 g1 = nI R ∧ hb_fI w 11 3 g1 = nI co ∧ hb_fI w 11 4 g1 = nI rows.length ∧ (∀ k x, rows[k]? = some x → cNr w g1 k x) ∧ cNx w g1 mix
def okN (rows : List rO) (mix : Option (List Nat × Nat)) (co : Nat) (K : List Nat) : Prop := (∀ x ∈ rows, vRow x.1 ∧ seg K x.2 x.1.2.2.2.2) ∧ (∀ m, mix = some m → sp_okMix m.1 ∧ seg K m.2 m.1) ∧ co < 100
def cSt (w : hb_W) (T : Nat → Nat) (n g1 tk p : Nat) (z : Bool) (st L R : Nat) (rows : List rO) (mix : Option (List Nat × Nat)) (co : Nat) (K : List Nat) : Prop := cS w T n tk (g1 + 1) p z K ∧ cNn w g1 st L R rows mix co ∧ rows.length ≤ 20 ∧ K.length + 11 ≤ p ∧ okN rows mix co K
def aM (g1 t g : Nat) : Prop := t = 3 ∨ t = 4 ∨ (t = 2 ∧ g = g1 + 1) ∨ (t = 11 ∧ g = g1)
theorem seg.app {K C D : List Nat} {a : Nat} (h : seg K a C) : seg (K ++ D) a C := ⟨by rw [List.length_append]; have := h.1; omega, fun i c hi => by
  have h2 := h.2 i c hi
  have hlt : a + i < K.length := by
    rcases Nat.lt_or_ge (a + i) K.length with u | u
    · exact u
    · rw [List.getElem?_eq_none u] at h2; cases h2
  rw [List.getElem?_append_left hlt]; exact h2⟩
theorem seg_new {K D : List Nat} : seg (K ++ D) K.length D := ⟨by rw [List.length_append]; omega, fun i c hi => by rw [List.getElem?_append_right (by omega), Nat.add_sub_cancel_left]; exact hi⟩
theorem okN.app {rows : List rO} {mix : Option (List Nat × Nat)} {co : Nat} {K D : List Nat} (h : okN rows mix co K) : okN rows mix co (K ++ D) := ⟨fun x hx => ⟨(h.1 x hx).1, (h.1 x hx).2.app⟩, fun m hm => ⟨(h.2.1 m hm).1, (h.2.1 m hm).2.app⟩, h.2.2⟩
theorem okc.mix {D : List Nat} (h : okc 1 D) (ht : tyD 21 D) : sp_okMix D := ⟨ht [] (by decide), fun c hc => by
  rcases h c hc with u | u | ⟨k, k1, k2, k3⟩ | u
  · exact Or.inl u
  · exact Or.inr (Or.inl u)
  · unfold alw at k2
    exact Or.inr (Or.inr ⟨k, k1, by omega, k3⟩)
  · omega⟩
theorem okc.give {D : List Nat} (h : okc 0 D) (ht : tyD 21 D) : sp_okGive D := ⟨ht [] (by decide), fun c hc => by
  rcases h c hc with u | u | ⟨k, k1, k2, k3⟩ | u
  · exact Or.inl u
  · exact Or.inr (Or.inl u)
  · unfold alw at k2
    exact Or.inr (Or.inr ⟨k, k1, by omega, k3⟩)
  · omega⟩
theorem cNn.ag {Pp : Nat → Nat → Prop} {w w2 : hb_W} {g1 st L R co : Nat} {rows : List rO} {mix : Option (List Nat × Nat)} (h : cNn w g1 st L R rows mix co) (ha : hw_ag Pp w w2) (hn : ¬ Pp 11 g1) : cNn w2 g1 st L R rows mix co := by
  unfold cNn cNr at h ⊢
  simp only [ha.1 11 _ g1 hn, ha.2.2.2.1 11 _ g1 hn]
  refine ⟨h.1, h.2.1, h.2.2.1, h.2.2.2.1, h.2.2.2.2.1, h.2.2.2.2.2.1, ?_⟩
  have hx := h.2.2.2.2.2.2
  unfold cNx at hx ⊢
  cases mix with
  | none => simp only [ha.1 11 _ g1 hn]; exact hx
  | some m => simp only [ha.1 11 _ g1 hn]; exact hx
section HKM
variable {d : Nat} {w : hb_W} {Q : Option hb_V → hb_W → Prop} {T : Nat → Nat} {n p g1 tk st L R co : Nat} {z : Bool} {rows : List rO} {mix : Option (List Nat × Nat)} {K : List Nat}
theorem aM3 {w2 : hb_W} (h : hw_ag (fun t _ => t = 3) w w2) : hw_ag (aM g1) w w2 := h.wk (fun t _ y => Or.inl y)
theorem aMG {w2 : hb_W} (h : hw_ag (aG (g1 + 1)) w w2) : hw_ag (aM g1) w w2 := h.wk (fun t g y => by unfold aG at y; unfold aM; omega)
theorem ok_readMix (hg : g1 < 2) (hst : ¬ st = 40) (hW : lx_W T n p z wd_mix) (h : cSt w T n g1 tk p z st L R rows mix co K) (q1 : mix = none → ∀ D p1 z1 w2, gS T n 1 (lx_n T n p) (lx_z T n p) 0 D p1 z1 → noOp T n p1 → cSt w2 T n g1 1 p1 z1 st L R rows (some (D, K.length)) co (K ++ D) → hw_ag (aM g1) w w2 → w2.2.2.1 = w.2.2.1 → Q (some (hb_i 1)) w2) (q0 : ∀ k pl w2, oX T n p z st L R rows mix co K k pl → rX w2 k pl → hw_ag (aM g1) w w2 → w2.2.2.1 = w.2.2.1 → Q (some (hb_i 0)) w2) : hb_O yX2_readMix cX2_readMix 3 (some .boolean) (d + 31) [hb_r 4 0 0, hb_r 11 g1 0] w Q := by
  have hgc : g1 < hb_ct 11 := hg
  obtain ⟨hS, hN, hr, hl, hok⟩ := h
  have hn := hS.1.1.2.1
  have hp := hS.1.2.1.1
  have k1 : lx_k T n p ≠ 0 := by rw [hW.2.1]; decide
  have hlt := lx_n_lt hp k1
  have n311 : ¬ (fun t (_ : Nat) => t = 3) 11 g1 := (show ¬ (11 : Nat) = 3 by decide)
  have P : ∀ {t g : Nat}, aM g1 t g → aM g1 t g := fun y => y
  have p4 : aM g1 4 0 := Or.inr (Or.inl rfl)
  have p11 : aM g1 11 g1 := Or.inr (Or.inr (Or.inr ⟨rfl, rfl⟩))
  cases mix with
  | some m =>
    have h12 : hb_fI w 11 12 g1 = 1 := hN.2.2.2.2.2.2.1
    have hm := (hok.2.1 m rfl).2.1
    refine bk_X2_readMix_0 hgc ?_
    rw [h12, hS.1.2.1.2.2.2.2.1]
    exact ⟨fun y => absurd y (by decide), fun _ => ok_stopG (k := 5) hS.1.2.2 (fun w2 c1 c2 c3 => bk_X2_readMix_22 hgc ⟨Or.inl rfl, q0 5 p w2 (oX_mix5 hW hst (by omega)) c1 (aM3 c2) c3⟩)⟩
  | none =>
    have h12 : hb_fI w 11 12 g1 = 0 := hN.2.2.2.2.2.2
    refine bk_X2_readMix_0 hgc ⟨fun _ => ?_, fun y => absurd h12 y⟩
    refine ok_stepG hS.1 k1 (fun e => by rw [hW.1] at e; cases e) (fun w1 a1 a2 a3 => bk_X2_readMix_30 hgc ?_)
    have S1 := hS.lex a1 a2 a3
    have hfr1 : hb_fR w1 4 1 0 = g1 + 1 := S1.2.1
    have N1 := hN.ag a2 n311
    rw [hfr1]
    have g2 : g1 + 1 < hb_ct 2 := (show g1 + 1 < 3 by omega)
    refine ⟨g2, ?_⟩
    have hsz : hb_fI w1 2 1 (g1 + 1) = nI K.length := S1.2.2.2.2
    rw [hsz]
    have b2 : hw_ag (fun t g => t = 4 ∨ (t = 11 ∧ g = g1)) w1 (hb_pI (hb_pI (hb_pI w1 4 2 0 1) 11 12 g1 1) 11 13 g1 (nI K.length)) := ((hw_ag.rf.pI (Or.inl rfl)).pI (Or.inr ⟨rfl, rfl⟩)).pI (Or.inr ⟨rfl, rfl⟩)
    have bM : hw_ag (aM g1) w1 (hb_pI (hb_pI (hb_pI w1 4 2 0 1) 11 12 g1 1) 11 13 g1 (nI K.length)) := ((hw_ag.rf.pI p4).pI p11).pI p11
    have S2 : cS (hb_pI (hb_pI (hb_pI w1 4 2 0 1) 11 12 g1 1) 11 13 g1 (nI K.length)) T n 1 (g1 + 1) (lx_n T n p) (lx_z T n p) K := ⟨S1.1.ag b2 (by omega) (by omega), S1.2.1, rfl, S1.2.2.2.1, S1.2.2.2.2⟩
    refine ct_sum (tk := 1) (by decide) 6 d _ _ (g1 + 1) _ _ K 11 0 rfl (by omega) S2 (by omega) (fun D p1 z1 w3 l1 l2 l3 l4 => bk_X2_readMix_56 hgc ?_) (fun kf pl w3 l1 l2 => bk_X2_readMix_56 hgc ?_)
    · obtain ⟨r1, r2, r3, r4, r5, r6⟩ := l4
      have hfr3 : hb_fR w3 4 1 0 = g1 + 1 := r2.2.1
      rw [hfr3]
      refine ⟨g2, Or.inr rfl, ?_⟩
      have hsz3 : hb_fI w3 2 1 (g1 + 1) = nI (K ++ D).length := r2.2.2.2.2
      rw [hsz3]
      have n11 : ¬ aG (g1 + 1) 11 g1 := by unfold aG; omega
      have b3 : hw_ag (fun t g => t = 11 ∧ g = g1) w3 (hb_pI w3 11 14 g1 (nI (K ++ D).length)) := hw_ag.rf.pI ⟨rfl, rfl⟩
      have f3 : ∀ k, hb_fI w3 11 k g1 = hb_fI (hb_pI (hb_pI (hb_pI w1 4 2 0 1) 11 12 g1 1) 11 13 g1 (nI K.length)) 11 k g1 := fun k => r4.1 11 k g1 n11
      have ar3 : ∀ k, hb_aI w3 11 k g1 = hb_aI w1 11 k g1 := fun k => r4.2.2.2.1 11 k g1 n11
      have lo : ∀ k, k < 5 → hb_fI (hb_pI w3 11 14 g1 (nI (K ++ D).length)) 11 k g1 = hb_fI w1 11 k g1 := fun k hk => by
        rw [pI_n _ _ _ _ _ (by omega), f3 k, pI_n _ _ _ _ _ (by omega), pI_n _ _ _ _ _ (by omega)]
        rfl
      obtain ⟨N0, N1', N2, N3, N4, N5, N6⟩ := N1
      refine q1 rfl D p1 z1 _ l1 l2 ⟨⟨r2.1.ag b3 (by omega) (by omega), r2.2.1, r2.2.2.1, r2.2.2.2.1, r2.2.2.2.2⟩, ⟨by rw [lo 0 (by decide)]; exact N0, by rw [lo 1 (by decide)]; exact N1', by rw [lo 2 (by decide)]; exact N2, by rw [lo 3 (by decide)]; exact N3, by rw [lo 4 (by decide)]; exact N4, fun k x hk => ?_, ?_⟩, hr, r3, ⟨hok.app.1, fun m hm => ?_, hok.2.2⟩⟩ ((((aM3 a2).tr bM).tr (aMG r4)).pI p11) (r5.trans a3)
      · have := N5 k x hk
        unfold cNr at this ⊢
        show hb_aI w3 11 1 g1 k = _ ∧ hb_aI w3 11 2 g1 k = _ ∧ hb_aI w3 11 3 g1 k = _ ∧ hb_aI w3 11 4 g1 k = _ ∧ hb_aI w3 11 5 g1 k = _ ∧ hb_aI w3 11 6 g1 k = _
        rw [ar3, ar3, ar3, ar3, ar3, ar3]
        exact this
      · refine ⟨?_, ?_, ?_⟩
        · rw [pI_n _ _ _ _ _ (by decide), f3 12, pI_n _ _ _ _ _ (by decide), pI_s]
        · rw [pI_n _ _ _ _ _ (by decide), f3 13, pI_s]
        · rw [pI_s, List.length_append]
      · cases hm
        exact ⟨okc.mix r6 (l3.le (by decide)), seg_new⟩
    · have hfr3 : hb_fR w3 4 1 0 = g1 + 1 := l2.ref S2.2.1
      rw [hfr3]
      exact ⟨g2, Or.inl rfl, q0 kf pl _ (oX_mixS hW hst l2.2.2.2.2.1 l2.2.2.2.2.2 l1) l2.1 ((((aM3 a2).tr bM).tr (aMG l2.2.2.1)).pI p11) (l2.2.2.2.1.trans a3)⟩
end HKM
