/-! ===== the class's nights: the book's line ===== -/
def aN (g1 t g : Nat) : Prop := t = 3 ∨ (t = 11 ∧ g = g1)
theorem pI_s (w : hb_W) (t k g : Nat) (v : Int32) : hb_fI (hb_pI w t k g v) t k g = v := hb_u3_s w.1 t k g v
theorem pI_n (w : hb_W) (t k g : Nat) (v : Int32) {k' g' : Nat} (h : ¬ k' = k) : hb_fI (hb_pI w t k g v) t k' g' = hb_fI w t k' g' := hb_u3_tk w.1 t k g v (fun z => h z.2)
theorem lx_W_le {T : Nat → Nat} {n p : Nat} {z : Bool} {wd : List Nat} (hp : p ≤ n) (h : lx_W T n p z wd) : p + wd.length ≤ lx_n T n p := by
  have h1 := lx_E_le (T := T) hp
  have h2 := lx_S_sp (T := T) h1.2
  have h3 := h.2.2.1
  have h4 : lx_E T n p ≤ lx_n T n p := h2.1
  omega
section HKB
variable {d : Nat} {w : hb_W} {Q : Option hb_V → hb_W → Prop} {T : Nat → Nat} {n p g1 : Nat} {z : Bool}
theorem rG.n11 {w2 : hb_W} (h : rG w T n p z) (ha : hw_ag (fun t g => t = 11 ∧ g = g1) w w2) : rG w2 T n p z := h.ag ha (by omega) (by omega)
theorem aN3 {w2 : hb_W} (h : hw_ag (fun t _ => t = 3) w w2) : hw_ag (aN g1) w w2 := h.wk (fun t _ y => Or.inl y)
theorem aN11 {w2 : hb_W} (h : hw_ag (fun t g => t = 11 ∧ g = g1) w w2) : hw_ag (aN g1) w w2 := h.wk (fun t _ y => Or.inr y)
theorem ok_readBook (hg : g1 < 2) (h : rG w T n (lx_S T n 0) false) (q1 : ∀ L R p' w2, 1 ≤ L → L ≤ 9 → 1 ≤ R → R ≤ 3 → bG T n L R p' → 11 ≤ p' → rG w2 T n p' false → hb_fI w2 11 1 g1 = nI L → hb_fI w2 11 2 g1 = nI R → (∀ k, ¬ k = 1 → ¬ k = 2 → hb_fI w2 11 k g1 = hb_fI w 11 k g1) → hw_ag (aN g1) w w2 → w2.2.2.1 = w.2.2.1 → Q (some (hb_i 1)) w2) (q0 : ∀ k pl w2, bX T n k pl → rX w2 k pl → hw_ag (aN g1) w w2 → w2.2.2.1 = w.2.2.1 → Q (some (hb_i 0)) w2) : hb_O yX2_readBook cX2_readBook 2 (some .boolean) (d + 3) [hb_r 4 0 0, hb_r 11 g1 0] w Q := by
  have hgc : g1 < hb_ct 11 := hg
  have n3 : ∀ k, ¬ (fun t (_ : Nat) => t = 3) 11 k := fun k => (show ¬ (11 : Nat) = 3 by decide)
  have P11 : (fun t g => t = 11 ∧ g = g1) 11 g1 := ⟨rfl, rfl⟩
  refine bk_X2_readBook_0 hgc (ok_takeWord (wd := wd_book) (wdo ⟨3, by decide⟩) (by decide) h (fun c0 w1 a1 a2 a3 => bk_X2_readBook_9 hgc ⟨fun y => absurd y (by decide), fun _ => ?_⟩) (fun c0 w1 a1 a2 a3 => bk_X2_readBook_9 hgc ⟨fun _ => q0 1 _ w1 (bX_0 c0) a1 (aN3 a2) a3, fun y => absurd rfl y⟩))
  have hp0 := h.2.1.1
  have hl0 := lx_W_le hp0 c0
  refine ok_takeWord (wd := wd_lines) (wdo ⟨4, by decide⟩) (by decide) a1 (fun c1 w2 b1 b2 b3 => bk_X2_readBook_21 hgc ⟨fun _ => ?_, fun y => absurd y (by decide)⟩) (fun c1 w2 b1 b2 b3 => bk_X2_readBook_21 hgc ⟨fun y => absurd rfl y, fun _ => q0 1 _ w2 (bX_1 c0 c1) b1 (aN3 (a2.tr b2)) (b3.trans a3)⟩)
  have hl1 := lx_W_le a1.2.1.1 c1
  have ab := a2.tr b2
  have abr := b3.trans a3
  refine ok_takeNumber (lo := 1) (hi := 9) (by decide) (by decide) b1 (fun c2 w3 d1 d2 d3 => bk_X2_readBook_37 hgc hgc ?_) (fun c2 w3 d1 d2 d3 => bk_X2_readBook_37 hgc hgc ?_)
  · rw [pI_s]
    have hv := c2.2.2.2
    refine ⟨fun y => absurd y (hx_ne (by omega)), fun _ => ?_⟩
    have ad := ab.tr d2
    have adr := d3.trans abr
    have g3 : rG (hb_pI w3 11 1 g1 (nI (vN T n 2 (lx_S T n 0)))) T n (pN T n 3 (lx_S T n 0)) (zN T n 3 (lx_S T n 0) false) := d1.n11 (hw_ag.rf.pI P11)
    have ag3' : hw_ag (aN g1) w (hb_pI w3 11 1 g1 (nI (vN T n 2 (lx_S T n 0)))) := (aN3 ad).pI (Or.inr ⟨rfl, rfl⟩)
    have hl2 := lx_n_lt b1.2.1.1 (show lx_k T n (lx_n T n (lx_n T n (lx_S T n 0))) ≠ 0 by rw [c2.2.1]; decide)
    refine ok_takeWord (wd := wd_rows) (wdo ⟨5, by decide⟩) (by decide) g3 (fun c3 w4 e1 e2 e3 => bk_X2_readBook_57 hgc ⟨fun _ => ?_, fun y => absurd y (by decide)⟩) (fun c3 w4 e1 e2 e3 => bk_X2_readBook_57 hgc ⟨fun y => absurd rfl y, fun _ => q0 1 _ w4 (bX_3 ⟨c0, c1, c2⟩ c3) e1 (ag3'.tr (aN3 e2)) (e3.trans adr)⟩)
    have hl3 := lx_W_le g3.2.1.1 c3
    refine ok_takeNumber (lo := 1) (hi := 3) (by decide) (by decide) e1 (fun c4 w5 f1 f2 f3 => bk_X2_readBook_72 hgc hgc ?_) (fun c4 w5 f1 f2 f3 => bk_X2_readBook_72 hgc hgc ?_)
    · rw [pI_s]
      have hv4 := c4.2.2.2
      refine ⟨fun y => absurd y (hx_ne (by omega)), fun _ => ?_⟩
      have g5 : rG (hb_pI w5 11 2 g1 (nI (vN T n 4 (lx_S T n 0)))) T n (pN T n 5 (lx_S T n 0)) (zN T n 5 (lx_S T n 0) false) := f1.n11 (hw_ag.rf.pI P11)
      have ag5 : hw_ag (aN g1) w (hb_pI w5 11 2 g1 (nI (vN T n 4 (lx_S T n 0)))) := ((ag3'.tr (aN3 e2)).tr (aN3 f2)).pI (Or.inr ⟨rfl, rfl⟩)
      have hl4 := lx_n_lt e1.2.1.1 (show lx_k T n (lx_n T n (pN T n 3 (lx_S T n 0))) ≠ 0 by rw [c4.2.1]; decide)
      refine ok_takeSign sg59 g5 (fun c5 w6 k1 k2 k3 => bk_X2_readBook_92 hgc ⟨fun y => absurd y (by decide), fun _ => ?_⟩) (fun c5 w6 k1 k2 k3 => bk_X2_readBook_92 hgc ⟨fun _ => q0 1 _ w6 (bX_5 ⟨c0, c1, c2⟩ c3 c4 c5) k1 (ag5.tr (aN3 k2)) (k3.trans (f3.trans (e3.trans adr))), fun y => absurd rfl y⟩)
      have hl5 := lx_n_lt g5.2.1.1 (show lx_k T n (pN T n 5 (lx_S T n 0)) ≠ 0 by rw [lx_s3 sg59 c5]; decide)
      have l0 : wd_book.length = 4 := rfl
      have l1 : wd_lines.length = 5 := rfl
      have l3 : wd_rows.length = 4 := rfl
      have x3 : pN T n 3 (lx_S T n 0) = lx_n T n (lx_n T n (lx_n T n (lx_S T n 0))) := rfl
      have x4 : pN T n 4 (lx_S T n 0) = lx_n T n (pN T n 3 (lx_S T n 0)) := rfl
      have x5 : pN T n 5 (lx_S T n 0) = lx_n T n (pN T n 4 (lx_S T n 0)) := rfl
      have x6 : pN T n 6 (lx_S T n 0) = lx_n T n (pN T n 5 (lx_S T n 0)) := rfl
      rw [← x4] at hl3 hl4
      have fr : ∀ k, hb_fI w6 11 k g1 = hb_fI (hb_pI w5 11 2 g1 (nI (vN T n 4 (lx_S T n 0)))) 11 k g1 := fun k => k2.1 11 k g1 (n3 g1)
      have fr5 : ∀ k, hb_fI w5 11 k g1 = hb_fI (hb_pI w3 11 1 g1 (nI (vN T n 2 (lx_S T n 0)))) 11 k g1 := fun k => (f2.1 11 k g1 (n3 g1)).trans (e2.1 11 k g1 (n3 g1))
      refine q1 _ _ _ w6 hv.1 hv.2 hv4.1 hv4.2 (bG_5 ⟨c0, c1, c2⟩ c3 c4 c5) (by omega) k1 ?_ ?_ (fun k k1' k2' => ?_) (ag5.tr (aN3 k2)) (k3.trans (f3.trans (e3.trans adr)))
      · rw [fr 1]
        refine Eq.trans (pI_n w5 11 2 g1 _ (by decide)) ?_
        refine (fr5 1).trans (pI_s _ _ _ _ _)
      · exact (fr 2).trans (pI_s _ _ _ _ _)
      · rw [fr k]
        refine Eq.trans (pI_n w5 11 2 g1 _ k2') ?_
        refine (fr5 k).trans (Eq.trans (pI_n w3 11 1 g1 _ k1') ?_)
        exact ad.1 11 k g1 (n3 g1)
    · rw [pI_s]
      exact ⟨fun _ => q0 _ _ _ (bX_4 ⟨c0, c1, c2⟩ c3 c4) f1 (((ag3'.tr (aN3 e2)).tr (aN3 f2)).pI (Or.inr ⟨rfl, rfl⟩)) (f3.trans (e3.trans adr)), fun y => absurd rfl y⟩
  · rw [pI_s]
    exact ⟨fun _ => q0 _ _ _ (bX_2 c0 c1 c2) d1 ((aN3 (ab.tr d2)).pI (Or.inr ⟨rfl, rfl⟩)) (d3.trans abr), fun y => absurd rfl y⟩
end HKB
