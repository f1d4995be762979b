/-! ===== the class's Grammar: parts ===== -/
section HCP
variable {d : Nat} {w : hb_W} {Q : Option hb_V → hb_W → Prop} {T : Nat → Nat} {n tk g p o s E : Nat} {z : Bool} {K : List Nat}
theorem cS.kind (h : cS w T n tk g p z K) : hb_fI w 3 1 0 = 2 ↔ (z = false ∧ lx_k T n p = 2) := by
  have hkl := lx_k_le T n p
  rw [h.1.2.1.2.1, show (2 : Int32) = nI 2 from rfl, nI_eq (by split <;> omega) (by decide)]
  cases z with
  | false => simp
  | true =>
    constructor
    · intro y
      split at y <;> simp_all
    · intro y
      cases y.1
theorem ok_pair (htk : tk < 3) (hS : ∀ e, E = e + 1 → ctSum T n tk d e) {m : Bool} {x2 : Int32} (hx2 : x2 = cO (if m = true then 5 else 6)) (ho : o + E = 6) (hg : g < 3) (h : cS w T n tk g p z K) (hl : K.length + s ≤ p) (hW : lx_W T n p z (if m = true then wd_min else wd_max)) (q1 : ∀ D p' z' w2, gP T n tk p z o D p' z' → tyD (3 * E + 1) D → cOK w w2 T n tk g p p' z' K D s → Q (some (hb_i 1)) w2) (q0 : ∀ k pl w2, fP T n tk p z o k pl → cBad w w2 g k pl → Q (some (hb_i 0)) w2) : hb_O yX2_readPair cX2_readPair 4 (some .boolean) (d + 4 * E + 3) [hb_r 4 0 0, hb_i (nI o), hb_i x2] w Q := by
  have hn := h.1.1.2.1
  have hp := h.1.2.1.1
  have k1 : lx_k T n p ≠ 0 := by rw [hW.2.1]; decide
  have hlt := lx_n_lt hp k1
  have hc5 : 1 ≤ (if m = true then 5 else 6) ∧ (if m = true then 5 else 6) ≤ 6 := by cases m <;> simp
  refine bk_X2_readPair_0 (ok_stepG h.1 k1 (fun e => by rw [hW.1] at e; cases e) (fun w1 a1 a2 a3 => bk_X2_readPair_7 ?_))
  have S1 := h.lex a1 a2 a3
  have hfr1 : hb_fR w1 4 1 0 = g := S1.2.1
  have sz1 : cSz w1 g := S1.sz (by omega)
  -- what follows a failure
  have bad : ∀ (w3 : hb_W) (k pl : Nat), fP T n tk p z o k pl → cBad w w3 g k pl → hb_fR w3 4 1 0 < hb_ct 2 ∧ hb_O yX1_put cX1_put 2 none (d + 4 * E + 2) [hb_r 2 (hb_fR w3 4 1 0) 0, hb_i x2] w3 (fun rv w1 => hb_R yX2_readPair cX2_readPair 4 (some .boolean) (d + 4 * E + 2 + 1) 101 [some (hb_r 4 0 0), some (hb_i (nI o)), some (hb_i x2), some (hb_i 0)] (rv.toList ++ []) w1 Q) := by
    intro w3 k pl hf hb
    have hfr3 : hb_fR w3 4 1 0 = g := hb.ref h.2.1
    rw [hfr3]
    exact ⟨hg, ok_putX hg hb (fun w4 t1 => bk_X2_readPair_101 ⟨Or.inl rfl, q0 k pl w4 hf t1⟩)⟩
  refine ok_isSign sg40 a1 (fun y => bk_X2_readPair_16 ⟨fun _ => ?_, fun u => absurd u (by decide)⟩) (fun y => bk_X2_readPair_16 ⟨fun u => absurd rfl u, fun _ => ?_⟩)
  · have k3 := lx_s3 sg40 y
    refine ok_goIn (by omega) S1 (by omega) (fun _ => k3) (fun ho6 w2 b1 b2 b3 => bk_X2_readPair_40 ⟨fun u => absurd u (by decide), fun _ => ?_⟩) (fun ho6 w2 b1 b2 b3 => bk_X2_readPair_40 ⟨fun _ => ?_, fun u => absurd rfl u⟩)
    · obtain ⟨e, rfl⟩ : ∃ e, E = e + 1 := ⟨E - 1, by omega⟩
      have hSe := hS e rfl
      rw [lx_z3 k3] at b1
      have hlt2 := lx_n_lt a1.2.1.1 (show lx_k T n (lx_n T n p) ≠ 0 by omega)
      have hp2 := b1.1.2.1.1
      rw [nI_1]
      refine hSe w2 _ g _ false K s (o + 1) (by omega) hg b1 (by omega) (fun D1 p1 z1 w3 l1 l2 l3 l4 => bk_X2_readPair_50 ⟨fun u => absurd u (by decide), fun _ => ?_⟩) (fun k pl w3 l1 l2 => bk_X2_readPair_50 ⟨fun _ => bad w3 k pl (fP_pair3 htk ho6 hW y l1) (l2.tr ((ag3 a2).tr (ag3 b2)) (b3.trans a3)), fun u => absurd rfl u⟩)
      obtain ⟨r1, r2, r3, r4, r5, r6⟩ := l4
      have ag3' := ((ag3 (g := g) a2).tr (ag3 b2)).tr r4
      have rf3 := r5.trans (b3.trans a3)
      refine ok_takeSign sg44 r2.1 (fun y2 w4 c1 c2 c3 => bk_X2_readPair_62 ⟨fun u => absurd u (by decide), fun _ => ?_⟩) (fun y2 w4 c1 c2 c3 => bk_X2_readPair_62 ⟨fun _ => bad w4 1 p1 (fP_pair4 htk ho6 hW y l1 l2 y2) ((cBad.of (r2.sz (by omega)) c1 c2 c3 (by decide) (by decide)).tr ag3' rf3), fun u => absurd rfl u⟩)
      have S4 := r2.lex c1 c2 c3
      have k32 := lx_s3 sg44 y2
      have hlt3 := lx_n_lt r2.1.2.1.1 (show lx_k T n p1 ≠ 0 by omega)
      rw [nI_1]
      refine hSe w4 _ g _ false (K ++ D1) (s + 1) (o + 1) (by omega) hg S4 (by omega) (fun D2 p2 z2 w5 m1 m2 m3 m4 => bk_X2_readPair_72 ⟨fun u => absurd u (by decide), fun _ => ?_⟩) (fun k pl w5 m1 m2 => bk_X2_readPair_72 ⟨fun _ => bad w5 k pl (fP_pair5 htk ho6 hW y l1 y2 m1) (m2.tr (ag3'.tr (ag3 c2)) (c3.trans rf3)), fun u => absurd rfl u⟩)
      obtain ⟨v1, v2, v3, v4, v5, v6⟩ := m4
      have ag5 := (ag3'.tr (ag3 c2)).tr v4
      have rf5 := v5.trans (c3.trans rf3)
      refine ok_takeSign sg41 v2.1 (fun y3 w6 e1 e2 e3 => bk_X2_readPair_84 ⟨fun u => absurd u (by decide), fun _ => ?_⟩) (fun y3 w6 e1 e2 e3 => bk_X2_readPair_84 ⟨fun _ => bad w6 1 p2 (fP_pair6 htk ho6 hW y l1 y2 m1 m2 y3) ((cBad.of (v2.sz (by omega)) e1 e2 e3 (by decide) (by decide)).tr ag5 rf5), fun u => absurd rfl u⟩)
      have S6 := v2.lex e1 e2 e3
      have hfr6 : hb_fR w6 4 1 0 = g := S6.2.1
      have k33 := lx_s3 sg41 y3
      have hlt4 := lx_n_lt v2.1.2.1.1 (show lx_k T n p2 ≠ 0 by omega)
      rw [hfr6]
      refine ⟨hg, ok_put hx2 hg S6 (by omega) (fun w7 t1 t2 t3 => bk_X2_readPair_101 ⟨Or.inr rfl, ?_⟩)⟩
      refine q1 _ _ _ w7 (gP_pair htk ho6 hW y l1 y2 m1 y3) (ty_bin (l3.le (by omega)) (m3.le (by omega : 3 * e + 3 ≤ 3 * e + 3)) (by omega) hc5) ⟨by omega, ?_, ?_, (ag5.tr (ag3 e2)).tr t2, t3.trans (e3.trans rf5), (r6.app v6).app (okc_op hc5)⟩
      · have e1 : K ++ (D1 ++ D2 ++ [if m = true then 5 else 6]) = K ++ D1 ++ D2 ++ [if m = true then 5 else 6] := by simp [List.append_assoc]
        rw [e1]; exact t1
      · simp only [List.length_append, List.length_singleton] at v3 ⊢
        omega
    · exact bad w2 4 _ (fP_pair2 htk ho6 hW y) ((cBad.of sz1 b1 b2 b3 (by decide) (by decide)).tr (ag3 a2) a3)
  · rw [a1.2.1.2.2.2.2.1]
    exact ok_stopG (k := 1) a1.2.2 (fun w2 g1 g2 g3 => bk_X2_readPair_34 ⟨Or.inl rfl, q0 1 _ w2 (fP_pair1 htk (by omega) hW y) ((cBad.of sz1 g1 g2 g3 (by decide) (by decide)).tr (ag3 a2) a3)⟩)
theorem ok_lookup (hS : ∀ e, E = e + 1 → ctPart T n tk (d + 2) e) {k : Nat} {x2 : Int32} (hk : k < 2) (hx2 : x2 = cO (60 + k)) (htk : tk = 2) (ho : o + E = 6) (hg : g < 3) (h : cS w T n tk g p z K) (hl : K.length + s ≤ p) (hW : lx_W T n p z (wq (7 + k))) (q1 : ∀ D p' z' w2, gP T n tk p z o D p' z' → tyD (3 * E + 1) D → cOK w w2 T n tk g p p' z' K D s → Q (some (hb_i 1)) w2) (q0 : ∀ k pl w2, fP T n tk p z o k pl → cBad w w2 g k pl → Q (some (hb_i 0)) w2) : hb_O yX2_readLookup cX2_readLookup 4 (some .boolean) (d + 4 * E + 3) [hb_r 4 0 0, hb_i (nI o), hb_i x2] w Q := by
  have hn := h.1.1.2.1
  have hp := h.1.2.1.1
  have k1 : lx_k T n p ≠ 0 := by rw [hW.2.1]; decide
  have hlt := lx_n_lt hp k1
  have hA : alw tk (7 + k) := by unfold alw; omega
  have sz : cSz w g := h.sz (by omega)
  have bad : ∀ (w3 : hb_W) (k pl : Nat), fP T n tk p z o k pl → cBad w w3 g k pl → hb_fR w3 4 1 0 < hb_ct 2 ∧ hb_O yX1_put cX1_put 2 none (d + 4 * E + 2) [hb_r 2 (hb_fR w3 4 1 0) 0, hb_i x2] w3 (fun rv w1 => hb_R yX2_readLookup cX2_readLookup 4 (some .boolean) (d + 4 * E + 2 + 1) 32 [some (hb_r 4 0 0), some (hb_i (nI o)), some (hb_i x2), some (hb_i 0)] (rv.toList ++ []) w1 Q) := by
    intro w3 k pl hf hb
    have hfr3 : hb_fR w3 4 1 0 = g := hb.ref h.2.1
    rw [hfr3]
    exact ⟨hg, ok_putX hg hb (fun w4 t1 => bk_X2_readLookup_32 ⟨Or.inl rfl, q0 k pl w4 hf t1⟩)⟩
  refine bk_X2_readLookup_0 (ok_goIn (by omega) h k1 (fun e => by rw [hW.1] at e; cases e) (fun ho6 w2 b1 b2 b3 => bk_X2_readLookup_5 ⟨fun u => absurd u (by decide), fun _ => ?_⟩) (fun ho6 w2 b1 b2 b3 => bk_X2_readLookup_5 ⟨fun _ => bad w2 4 _ (fP_of1 (by omega) ho6 hk hW hA) (cBad.of sz b1 b2 b3 (by decide) (by decide)), fun u => absurd rfl u⟩))
  obtain ⟨e, rfl⟩ : ∃ e, E = e + 1 := ⟨E - 1, by omega⟩
  rw [nI_1]
  have hd : d + 4 * (e + 1) + 2 = d + 2 + 4 * e + 4 := by omega
  rw [hd]
  refine hS e rfl w2 _ g _ _ K (s + 1) (o + 1) (by omega) hg b1 (by omega) (fun D p1 z1 w3 l1 l2 l3 => bk_X2_readLookup_15 ⟨fun u => absurd u (by decide), fun _ => ?_⟩) (fun k pl w3 l1 l2 => bk_X2_readLookup_15 ⟨fun _ => ?_, fun u => absurd rfl u⟩)
  · obtain ⟨r1, r2, r3, r4, r5, r6⟩ := l3
    have hfr3 : hb_fR w3 4 1 0 = g := r2.2.1
    rw [hfr3]
    refine ⟨hg, ok_put hx2 hg r2 (by omega) (fun w7 t1 t2 t3 => bk_X2_readLookup_32 ⟨Or.inr rfl, ?_⟩)⟩
    refine q1 _ _ _ w7 (gP_of (by omega) ho6 hk hW hA l1) ((ty_un l2 (by omega)).le (by omega)) ⟨by omega, ?_, ?_, ((ag3 b2).tr r4).tr t2, t3.trans (r5.trans b3), r6.app (fun x hx => ?_)⟩
    · rw [← List.append_assoc]; exact t1
    · simp only [List.length_append, List.length_singleton] at r3 ⊢
      omega
    · rw [List.mem_singleton.mp hx]
      exact Or.inr (Or.inr (Or.inr ⟨htk, by omega⟩))
  · have := bad w3 k pl (fP_of2 (by omega) ho6 (by assumption) hW hA l1) (l2.tr (ag3 b2) b3)
    rw [hd] at this
    exact this
end HCP
