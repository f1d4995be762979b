/-! ===== the class's Grammar: tests ===== -/
def cOKt (w w2 : hb_W) (T : Nat → Nat) (n tk g p p' : Nat) (z' : Bool) (K D : List Nat) (s : Nat) : Prop := p < p' ∧ cS w2 T n tk g p' z' (K ++ D) ∧ (K ++ D).length + s ≤ p' ∧ hw_ag (aG g) w w2 ∧ w2.2.2.1 = w.2.2.1 ∧ okt tk D
def ctFact (T : Nat → Nat) (n tk d e : Nat) : Prop := ∀ (w : hb_W) (Q : Option hb_V → hb_W → Prop) (g p : Nat) (z : Bool) (K : List Nat) (s o : Nat), o + e = 6 → g < 3 → cS w T n tk g p z K → K.length + s ≤ p → (∀ D p' z' w2, gF T n tk p z o D p' z' → tyT (3 * e + 4) D → cOKt w w2 T n tk g p p' z' K D s → Q (some (hb_i 1)) w2) → (∀ k pl w2, fF T n tk p z o k pl → cBad w w2 g k pl → Q (some (hb_i 0)) w2) → hb_O yX2_readFact cX2_readFact 3 (some .boolean) (d + 4 * e + 8) [hb_r 4 0 0, hb_i (nI o)] w Q
def ctBoth (T : Nat → Nat) (n tk d e : Nat) : Prop := ∀ (w : hb_W) (Q : Option hb_V → hb_W → Prop) (g p : Nat) (z : Bool) (K : List Nat) (s o : Nat), o + e = 6 → g < 3 → cS w T n tk g p z K → K.length + s ≤ p → (∀ D p' z' w2, gB T n tk p z o D p' z' → ¬ lx_W T n p' z' wd_and → tyT (3 * e + 5) D → cOKt w w2 T n tk g p p' z' K D s → Q (some (hb_i 1)) w2) → (∀ k pl w2, fB T n tk p z o k pl → cBad w w2 g k pl → Q (some (hb_i 0)) w2) → hb_O yX2_readBoth cX2_readBoth 4 (some .boolean) (d + 4 * e + 9) [hb_r 4 0 0, hb_i (nI o)] w Q
def ctTest (T : Nat → Nat) (n tk d e : Nat) : Prop := ∀ (w : hb_W) (Q : Option hb_V → hb_W → Prop) (g p : Nat) (z : Bool) (K : List Nat) (s o : Nat), o + e = 6 → g < 3 → cS w T n tk g p z K → K.length + s ≤ p → (∀ D p' z' w2, gT T n tk p z o D p' z' → ¬ lx_W T n p' z' wd_and → ¬ lx_W T n p' z' wd_or → tyT (3 * e + 6) D → cOKt w w2 T n tk g p p' z' K D s → Q (some (hb_i 1)) w2) → (∀ k pl w2, fT T n tk p z o k pl → cBad w w2 g k pl → Q (some (hb_i 0)) w2) → hb_O yX2_readTest cX2_readTest 4 (some .boolean) (d + 4 * e + 10) [hb_r 4 0 0, hb_i (nI o)] w Q
section HCU
variable {d : Nat} {T : Nat → Nat} {n tk e : Nat}
theorem ok_both (hP : ctFact T n tk d e) : ctBoth T n tk d e := by
  intro w Q g p z K s o ho hg hS hl q1 q0
  have hn := hS.1.1.2.1
  have loop : ∀ (m k : Nat) (w' : hb_W) (D : List Nat) (p1 : Nat) (z1 : Bool), p1 + m = 1600 → k + 1 ≤ p1 → gB T n tk p z o D p1 z1 → tyT (3 * e + 5) D → cOKt w w' T n tk g p p1 z1 K D s → hb_R yX2_readBoth cX2_readBoth 4 (some .boolean) (d + 4 * e + 8 + 1) 8 [some (hb_r 4 0 0), some (hb_i (nI o)), some (hb_i 1), some (hb_i (nI k))] [] w' Q := by
    intro m
    induction m using Nat.strongRecOn with
    | ind m ih =>
      intro k w' D p1 z1 hm hk hG hty hOK
      obtain ⟨o1, o2, o3, o4, o5, o6⟩ := hOK
      have hp1 := o2.1.2.1.1
      have wand := o2.W (wd := wd_and) (x := 102948) (wdo ⟨40, by decide⟩) (by decide)
      refine bk_X2_readBoth_8 ⟨fun y => absurd y (nI_ge (b := 1600) (by omega) (by decide)), fun _ => ⟨fun y => absurd y (by decide), fun _ => ?_⟩⟩
      rw [wand]
      refine ⟨fun y => ⟨Or.inr rfl, q1 D p1 z1 w' hG y hty ⟨o1, o2, o3, o4, o5, o6⟩⟩, fun hW => ?_⟩
      have k1 : lx_k T n p1 ≠ 0 := by rw [hW.2.1]; decide
      have hlt := lx_n_lt hp1 k1
      refine ok_stepG o2.1 k1 (fun e => by rw [hW.1] at e; cases e) (fun w2 g1 g2 g3 => bk_X2_readBoth_38 ?_)
      have hS2 := o2.lex g1 g2 g3
      have hfr2 : hb_fR w2 4 1 0 = g := hS2.2.1
      refine hP w2 _ g _ _ (K ++ D) (s + 1) o ho hg hS2 (by omega) (fun D2 p2 z2 w3 l1 l2 l3 => bk_X2_readBoth_43 ?_) (fun k2 pl w3 l1 l2 => bk_X2_readBoth_43 ?_)
      · obtain ⟨r1, r2, r3, r4, r5, r6⟩ := l3
        have hfr3 : hb_fR w3 4 1 0 = g := r2.2.1
        rw [hfr3]
        refine ⟨hg, ok_put (c := 10) (by decide) hg r2 (by omega) (fun w4 t1 t2 t3 => bk_X2_readBoth_53 ?_)⟩
        rw [nI_1]
        have hp2 := t1.1.2.1.1
        refine ih (1600 - p2) (by omega) (k + 1) w4 (D ++ D2 ++ [10]) p2 z2 (by omega) (by omega) (gB_more hG hW l1) (ty_ao hty l2 (by omega) (Or.inl rfl)) ⟨by omega, ?_, ?_, ((o4.tr (ag3 g2)).tr r4).tr t2, t3.trans (r5.trans (g3.trans o5)), (o6.app r6).app (okt_op (by decide))⟩
        · have e1 : K ++ (D ++ D2 ++ [10]) = K ++ D ++ D2 ++ [10] := by simp [List.append_assoc]
          rw [e1]; exact t1
        · simp only [List.length_append, List.length_singleton] at r3 ⊢
          omega
      · have hB : cBad w w3 g k2 pl := l2.tr ((o4.tr (ag3 g2))) (g3.trans o5)
        have hfr3 : hb_fR w3 4 1 0 = g := l2.ref hfr2
        have hGf := fB_more hG hW l1
        rw [hfr3]
        refine ⟨hg, ok_putX hg hB (fun w4 t1 => bk_X2_readBoth_53 ?_)⟩
        exact bk_X2_readBoth_8 ⟨fun _ => ⟨Or.inl rfl, q0 k2 pl w4 hGf t1⟩, fun _ => ⟨fun _ => ⟨Or.inl rfl, q0 k2 pl w4 hGf t1⟩, fun y => absurd rfl y⟩⟩
  refine bk_X2_readBoth_0 (hP w _ g p z K s o ho hg hS hl (fun D p1 z1 w2 l1 l2 l3 => bk_X2_readBoth_5 ?_) (fun k pl w2 l1 l2 => bk_X2_readBoth_5 ?_))
  · have hp1 := l3.2.1.1.2.1.1
    have := l3.1
    exact loop (1600 - p1) 0 w2 D p1 z1 (by omega) (by omega) (gB_one l1) (l2.le (by omega)) l3
  · exact bk_X2_readBoth_8 ⟨fun _ => ⟨Or.inl rfl, q0 k pl w2 (fB_one l1) l2⟩, fun _ => ⟨fun _ => ⟨Or.inl rfl, q0 k pl w2 (fB_one l1) l2⟩, fun y => absurd rfl y⟩⟩
theorem ok_test (hP : ctBoth T n tk d e) : ctTest T n tk d e := by
  intro w Q g p z K s o ho hg hS hl q1 q0
  have hn := hS.1.1.2.1
  have loop : ∀ (m k : Nat) (w' : hb_W) (D : List Nat) (p1 : Nat) (z1 : Bool), p1 + m = 1600 → k + 1 ≤ p1 → gT T n tk p z o D p1 z1 → ¬ lx_W T n p1 z1 wd_and → tyT (3 * e + 6) D → cOKt w w' T n tk g p p1 z1 K D s → hb_R yX2_readTest cX2_readTest 4 (some .boolean) (d + 4 * e + 9 + 1) 8 [some (hb_r 4 0 0), some (hb_i (nI o)), some (hb_i 1), some (hb_i (nI k))] [] w' Q := by
    intro m
    induction m using Nat.strongRecOn with
    | ind m ih =>
      intro k w' D p1 z1 hm hk hG na hty hOK
      obtain ⟨o1, o2, o3, o4, o5, o6⟩ := hOK
      have hp1 := o2.1.2.1.1
      have wor := o2.W (wd := wd_or) (x := 3666) (wdo ⟨41, by decide⟩) (by decide)
      refine bk_X2_readTest_8 ⟨fun y => absurd y (nI_ge (b := 1600) (by omega) (by decide)), fun _ => ⟨fun y => absurd y (by decide), fun _ => ?_⟩⟩
      rw [wor]
      refine ⟨fun y => ⟨Or.inr rfl, q1 D p1 z1 w' hG na y hty ⟨o1, o2, o3, o4, o5, o6⟩⟩, fun hW => ?_⟩
      have k1 : lx_k T n p1 ≠ 0 := by rw [hW.2.1]; decide
      have hlt := lx_n_lt hp1 k1
      refine ok_stepG o2.1 k1 (fun e => by rw [hW.1] at e; cases e) (fun w2 g1 g2 g3 => bk_X2_readTest_39 ?_)
      have hS2 := o2.lex g1 g2 g3
      have hfr2 : hb_fR w2 4 1 0 = g := hS2.2.1
      refine hP w2 _ g _ _ (K ++ D) (s + 1) o ho hg hS2 (by omega) (fun D2 p2 z2 w3 l1 na2 l2 l3 => bk_X2_readTest_44 ?_) (fun k2 pl w3 l1 l2 => bk_X2_readTest_44 ?_)
      · obtain ⟨r1, r2, r3, r4, r5, r6⟩ := l3
        have hfr3 : hb_fR w3 4 1 0 = g := r2.2.1
        rw [hfr3]
        refine ⟨hg, ok_put (c := 11) (by decide) hg r2 (by omega) (fun w4 t1 t2 t3 => bk_X2_readTest_54 ?_)⟩
        rw [nI_1]
        have hp2 := t1.1.2.1.1
        refine ih (1600 - p2) (by omega) (k + 1) w4 (D ++ D2 ++ [11]) p2 z2 (by omega) (by omega) (gT_more hG hW l1) na2 (ty_ao hty l2 (by omega) (Or.inr rfl)) ⟨by omega, ?_, ?_, ((o4.tr (ag3 g2)).tr r4).tr t2, t3.trans (r5.trans (g3.trans o5)), (o6.app r6).app (okt_op (by decide))⟩
        · have e1 : K ++ (D ++ D2 ++ [11]) = K ++ D ++ D2 ++ [11] := by simp [List.append_assoc]
          rw [e1]; exact t1
        · simp only [List.length_append, List.length_singleton] at r3 ⊢
          omega
      · have hB : cBad w w3 g k2 pl := l2.tr ((o4.tr (ag3 g2))) (g3.trans o5)
        have hfr3 : hb_fR w3 4 1 0 = g := l2.ref hfr2
        have hGf := fT_more hG hW l1
        rw [hfr3]
        refine ⟨hg, ok_putX hg hB (fun w4 t1 => bk_X2_readTest_54 ?_)⟩
        exact bk_X2_readTest_8 ⟨fun _ => ⟨Or.inl rfl, q0 k2 pl w4 hGf t1⟩, fun _ => ⟨fun _ => ⟨Or.inl rfl, q0 k2 pl w4 hGf t1⟩, fun y => absurd rfl y⟩⟩
  refine bk_X2_readTest_0 (hP w _ g p z K s o ho hg hS hl (fun D p1 z1 w2 l1 na l2 l3 => bk_X2_readTest_5 ?_) (fun k pl w2 l1 l2 => bk_X2_readTest_5 ?_))
  · have hp1 := l3.2.1.1.2.1.1
    have := l3.1
    exact loop (1600 - p1) 0 w2 D p1 z1 (by omega) (by omega) (gT_one l1) na (l2.le (by omega)) l3
  · exact bk_X2_readTest_8 ⟨fun _ => ⟨Or.inl rfl, q0 k pl w2 (fT_one l1) l2⟩, fun _ => ⟨fun _ => ⟨Or.inl rfl, q0 k pl w2 (fT_one l1) l2⟩, fun y => absurd rfl y⟩⟩
variable {w : hb_W} {Q : Option hb_V → hb_W → Prop} {g p o s : Nat} {z : Bool} {K : List Nat}
theorem ok_compare (htk : tk < 3) (n91 : ¬ lx_s T n p 91) (nn : ¬ lx_W T n p z wd_not) (na : ¬ lx_W T n p z wd_all) (ho : o + e = 6) (hg : g < 3) (hS : cS w T n tk g p z K) (hl : K.length + s ≤ p) (q1 : ∀ D p' z' w2, gF T n tk p z o D p' z' → tyT (3 * e + 4) D → cOKt w w2 T n tk g p p' z' K D s → Q (some (hb_i 1)) w2) (q0 : ∀ k pl w2, fF T n tk p z o k pl → cBad w w2 g k pl → Q (some (hb_i 0)) w2) : hb_O yX2_readComparison cX2_readComparison 4 (some .boolean) (d + 4 * e + 7) [hb_r 4 0 0, hb_i (nI o)] w Q := by
  have hn := hS.1.1.2.1
  refine bk_X2_readComparison_0 (ct_sum htk e d w _ g p z K s o ho hg hS hl (fun D1 p1 z1 w2 l1 l2 l3 l4 => bk_X2_readComparison_5 ⟨fun _ => ?_, fun y => absurd y (by decide)⟩) (fun k pl w2 l1 l2 => bk_X2_readComparison_5 ⟨fun y => absurd rfl y, fun _ => q0 k pl w2 (fF_cmp1 l2.2.2.2.2.1 l2.2.2.2.2.2 n91 nn na l1) l2⟩))
  obtain ⟨o1, o2, o3, o4, o5, o6⟩ := l4
  have hp1 := o2.1.2.1.1
  have more : ∀ (c : Nat) (x : Int32), (c = 7 ∨ c = 8 ∨ c = 9) → x = cO c → lx_s T n p1 (cmpS c) → hb_O yX7_step cX7_step 4 none (d + 4 * e + 6) [hb_r 3 0 0] w2 (fun rv w1 => hb_R yX2_readComparison cX2_readComparison 4 (some .boolean) (d + 4 * e + 6 + 1) 88 [some (hb_r 4 0 0), some (hb_i (nI o)), some (hb_i x), none] (rv.toList ++ []) w1 Q) := by
    intro c x hc hx hs
    have k3 := lx_s3 cmp_sg hs
    have hlt := lx_n_lt hp1 (show lx_k T n p1 ≠ 0 by omega)
    refine ok_stepG o2.1 (by omega) (fun _ => k3) (fun w3 g1 g2 g3 => bk_X2_readComparison_88 ?_)
    rw [lx_z3 k3] at g1
    have hS3 := o2.lex g1 g2 g3
    have hfr3 : hb_fR w3 4 1 0 = g := hS3.2.1
    refine ct_sum htk e d w3 _ g _ false (K ++ D1) (s + 1) o ho hg hS3 (by omega) (fun D2 p2 z2 w4 m1 m2 m3 m4 => bk_X2_readComparison_93 ?_) (fun k pl w4 m1 m2 => bk_X2_readComparison_93 ?_)
    · obtain ⟨r1, r2, r3, r4, r5, r6⟩ := m4
      have hfr4 : hb_fR w4 4 1 0 = g := r2.2.1
      rw [hfr4]
      refine ⟨hg, ok_put hx hg r2 (by omega) (fun w5 t1 t2 t3 => bk_X2_readComparison_102 ⟨Or.inr rfl, ?_⟩)⟩
      refine q1 _ _ _ w5 (gF_cmp hc n91 nn na l1 l2 hs m1 m2) (ty_cmp (l3.le (by omega : 3 * e + 3 ≤ 3 * e + 4)) m3 (by omega) (by omega)) ⟨by omega, ?_, ?_, ((o4.tr (ag3 g2)).tr r4).tr t2, t3.trans (r5.trans (g3.trans o5)), (o6.t.app r6.t).app (okt_op (by omega))⟩
      · have e1 : K ++ (D1 ++ D2 ++ [c]) = K ++ D1 ++ D2 ++ [c] := by simp [List.append_assoc]
        rw [e1]; exact t1
      · simp only [List.length_append, List.length_singleton] at r3 ⊢
        omega
    · have hB : cBad w w4 g k pl := m2.tr ((o4.tr (ag3 g2))) (g3.trans o5)
      have hfr4 : hb_fR w4 4 1 0 = g := m2.ref hfr3
      rw [hfr4]
      exact ⟨hg, ok_putX hg hB (fun w5 t1 => bk_X2_readComparison_102 ⟨Or.inl rfl, q0 k pl w5 (fF_cmp3 m2.2.2.2.2.1 m2.2.2.2.2.2 hc n91 nn na l1 l2 hs m1) t1⟩)⟩
  refine ok_isSign sg60 o2.1 (fun y => bk_X2_readComparison_19 ⟨fun u => absurd u (by decide), fun _ => ⟨fun _ => more 7 _ (by decide) (by decide) y, fun u => absurd u (by decide)⟩⟩) (fun n60 => bk_X2_readComparison_19 ⟨fun _ => ?_, fun u => absurd rfl u⟩)
  refine ok_isSign sg62 o2.1 (fun y => bk_X2_readComparison_36 ⟨fun u => absurd u (by decide), fun _ => ⟨fun _ => more 8 _ (by decide) (by decide) y, fun u => absurd u (by decide)⟩⟩) (fun n62 => bk_X2_readComparison_36 ⟨fun _ => ⟨fun u => absurd rfl u, fun _ => ?_⟩, fun u => absurd rfl u⟩)
  refine ok_isSign sg61 o2.1 (fun y => bk_X2_readComparison_62 ⟨fun _ => more 9 _ (by decide) (by decide) y, fun u => absurd u (by decide)⟩) (fun n61 => bk_X2_readComparison_62 ⟨fun u => absurd rfl u, fun _ => ?_⟩)
  rw [o2.1.2.1.2.2.2.2.1]
  exact ok_stopG (k := 1) o2.1.2.2 (fun w3 g1 g2 g3 => bk_X2_readComparison_80 ⟨Or.inl rfl, q0 1 p1 w3 (fF_cmp2 n91 nn na l1 l2 n60 n62 n61) ((cBad.of (o2.sz (by omega)) g1 g2 g3 (by decide) (by decide)).tr o4 o5)⟩)
theorem ok_fact {E : Nat} (htk : tk < 3) (hT : ∀ d e, E = e + 1 → ctTest T n tk d e) (hF : ∀ d e, E = e + 1 → ctFact T n tk d e) : ctFact T n tk d E := by
  intro w Q g p z K s o ho hg h hl q1 q0
  have hn := h.1.1.2.1
  have hp := h.1.2.1.1
  have sz : cSz w g := h.sz (by omega)
  have hfr : hb_fR w 4 1 0 = g := h.2.1
  have wnot := h.W (wd := wd_not) (x := 116308) (wdo ⟨39, by decide⟩) (by decide)
  have wall := h.W (wd := wd_all) (x := 102892) (wdo ⟨42, by decide⟩) (by decide)
  refine bk_X2_readFact_0 ?_
  rw [wnot]
  refine ⟨fun nn => ?_, fun hW => ?_⟩
  · refine ok_isSign sg91 h.1 (fun y => bk_X2_readFact_56 ⟨fun u => absurd u (by decide), fun _ => ?_⟩) (fun n91 => bk_X2_readFact_56 ⟨fun _ => ?_, fun u => absurd rfl u⟩)
    · have k3 := lx_s3 sg91 y
      refine ok_goIn (by omega) h (by omega) (fun _ => k3) (fun ho6 w2 b1 b2 b3 => bk_X2_readFact_64 ⟨fun u => absurd u (by decide), fun _ => ?_⟩) (fun ho6 w2 b1 b2 b3 => bk_X2_readFact_64 ⟨fun _ => q0 4 p w2 (fF_square1 ho6 y) (cBad.of sz b1 b2 b3 (by decide) (by decide)), fun u => absurd rfl u⟩)
      obtain ⟨e, rfl⟩ : ∃ e, E = e + 1 := ⟨E - 1, by omega⟩
      rw [lx_z3 k3] at b1
      have hlt2 := lx_n_lt hp (show lx_k T n p ≠ 0 by omega)
      rw [nI_1]
      have hd : d + 4 * (e + 1) + 7 = d + 1 + 4 * e + 10 := by omega
      rw [hd]
      refine hT (d + 1) e rfl w2 _ g _ false K s (o + 1) (by omega) hg b1 (by omega) (fun D1 p1 z1 w3 l1 na no l3 l4 => bk_X2_readFact_74 ⟨fun u => absurd u (by decide), fun _ => ?_⟩) (fun k pl w3 l1 l2 => bk_X2_readFact_74 ⟨fun _ => q0 k pl w3 (fF_square2 ho6 y l1) (l2.tr (ag3 b2) b3), fun u => absurd rfl u⟩)
      obtain ⟨r1, r2, r3, r4, r5, r6⟩ := l4
      refine ok_takeSign sg93 r2.1 (fun y2 w4 c1 c2 c3 => bk_X2_readFact_86 ⟨fun u => absurd u (by decide), fun _ => ?_⟩) (fun y2 w4 c1 c2 c3 => bk_X2_readFact_86 ⟨fun _ => q0 1 p1 w4 (fF_square3 ho6 y l1 na no y2) ((cBad.of (r2.sz (by omega)) c1 c2 c3 (by decide) (by decide)).tr ((ag3 b2).tr r4) (r5.trans b3)), fun u => absurd rfl u⟩)
      have k32 := lx_s3 sg93 y2
      have hlt3 := lx_n_lt r2.1.2.1.1 (show lx_k T n p1 ≠ 0 by omega)
      exact q1 _ _ _ w4 (gF_square ho6 y l1 y2) (l3.le (by omega)) ⟨by omega, r2.lex c1 c2 c3, by omega, ((ag3 b2).tr r4).tr (ag3 c2), c3.trans (r5.trans b3), r6⟩
    · rw [wall]
      refine ⟨fun na => ok_compare htk n91 nn na ho hg h hl (fun D p' z' w2 l1 l2 l3 => bk_X2_readFact_129 ⟨Or.inr rfl, q1 D p' z' w2 l1 l2 l3⟩) (fun k pl w2 l1 l2 => bk_X2_readFact_129 ⟨Or.inl rfl, q0 k pl w2 l1 l2⟩), fun hA => ?_⟩
      have k1 : lx_k T n p ≠ 0 := by rw [hA.2.1]; decide
      have hlt := lx_n_lt hp k1
      refine ok_stepG h.1 k1 (fun e => by rw [hA.1] at e; cases e) (fun w2 a1 a2 a3 => bk_X2_readFact_114 ?_)
      have S2 := h.lex a1 a2 a3
      have hfr2 : hb_fR w2 4 1 0 = g := S2.2.1
      rw [hfr2]
      refine ⟨hg, ok_put (c := 13) (by decide) hg S2 (by omega) (fun w3 t1 t2 t3 => bk_X2_readFact_122 ?_)⟩
      refine q1 _ _ _ w3 (gF_all hA) (ty_all (by omega)) ⟨hlt, t1, ?_, (ag3 a2).tr t2, t3.trans a3, okt_op (by decide)⟩
      simp only [List.length_append, List.length_singleton]
      omega
  · have k1 : lx_k T n p ≠ 0 := by rw [hW.2.1]; decide
    have hlt := lx_n_lt hp k1
    have bad : ∀ (w3 : hb_W) (k pl : Nat), fF T n tk p z o k pl → cBad w w3 g k pl → hb_fR w3 4 1 0 < hb_ct 2 ∧ hb_O yX1_put cX1_put 2 none (d + 4 * E + 7) [hb_r 2 (hb_fR w3 4 1 0) 0, hb_i (-13)] w3 (fun rv w1 => hb_R yX2_readFact cX2_readFact 3 (some .boolean) (d + 4 * E + 7 + 1) 45 [some (hb_r 4 0 0), some (hb_i (nI o)), some (hb_i 0)] (rv.toList ++ []) w1 Q) := by
      intro w3 k pl hf hb
      have hfr3 : hb_fR w3 4 1 0 = g := hb.ref hfr
      rw [hfr3]
      exact ⟨hg, ok_putX hg hb (fun w4 t1 => bk_X2_readFact_45 ⟨Or.inl rfl, q0 k pl w4 hf t1⟩)⟩
    refine ok_goIn (by omega) h k1 (fun e => by rw [hW.1] at e; cases e) (fun ho6 w2 b1 b2 b3 => bk_X2_readFact_17 ⟨fun u => absurd u (by decide), fun _ => ?_⟩) (fun ho6 w2 b1 b2 b3 => bk_X2_readFact_17 ⟨fun _ => bad w2 4 p (fF_not1 ho6 hW) (cBad.of sz b1 b2 b3 (by decide) (by decide)), fun u => absurd rfl u⟩)
    obtain ⟨e, rfl⟩ : ∃ e, E = e + 1 := ⟨E - 1, by omega⟩
    rw [nI_1]
    have hd : d + 4 * (e + 1) + 7 = d + 3 + 4 * e + 8 := by omega
    rw [hd]
    refine hF (d + 3) e rfl w2 _ g _ _ K (s + 1) (o + 1) (by omega) hg b1 (by omega) (fun D p1 z1 w3 l1 l2 l3 => bk_X2_readFact_27 ⟨fun u => absurd u (by decide), fun _ => ?_⟩) (fun k pl w3 l1 l2 => bk_X2_readFact_27 ⟨fun _ => ?_, fun u => absurd rfl u⟩)
    · obtain ⟨r1, r2, r3, r4, r5, r6⟩ := l3
      have hfr3 : hb_fR w3 4 1 0 = g := r2.2.1
      rw [hfr3]
      refine ⟨hg, ok_put (c := 12) (by decide) hg r2 (by omega) (fun w7 t1 t2 t3 => bk_X2_readFact_45 ⟨Or.inr rfl, ?_⟩)⟩
      refine q1 _ _ _ w7 (gF_not ho6 hW l1) ((ty_not l2).le (by omega)) ⟨by omega, ?_, ?_, ((ag3 b2).tr r4).tr t2, t3.trans (r5.trans b3), r6.app (okt_op (by decide))⟩
      · rw [← List.append_assoc]; exact t1
      · simp only [List.length_append, List.length_singleton] at r3 ⊢
        omega
    · have := bad w3 k pl (fF_not2 ho6 hW l1) (l2.tr (ag3 b2) b3)
      rw [hd] at this
      exact this
end HCU
theorem ct_fact {T : Nat → Nat} {n tk : Nat} (htk : tk < 3) (e : Nat) : ∀ d, ctFact T n tk d e := by
  induction e with
  | zero => exact fun d => ok_fact htk (fun _ _ y => by cases y) (fun _ _ y => by cases y)
  | succ e ih => exact fun d => ok_fact htk (fun d e' y => by cases y; exact ok_test (ok_both (ih d))) (fun d e' y => by cases y; exact ih d)
theorem ct_test {T : Nat → Nat} {n tk : Nat} (htk : tk < 3) (e d : Nat) : ctTest T n tk d e := ok_test (ok_both (ct_fact htk e d))
