/-! ===== the class's Grammar: sums ===== -/
def aG (g : Nat) (t g' : Nat) : Prop := t = 3 ∨ (t = 2 ∧ g' = g)
def cSz (w : hb_W) (g : Nat) : Prop := ∃ m, m ≤ 1600 ∧ hb_fI w 2 1 g = nI m
/-- the class reads a sum into code g, which holds K -/
def cS (w : hb_W) (T : Nat → Nat) (n tk g p : Nat) (z : Bool) (K : List Nat) : Prop := rG w T n p z ∧ hb_fR w 4 1 0 = g ∧ hb_fI w 4 2 0 = nI tk ∧ (∀ k c, K[k]? = some c → hb_aI w 2 1 g k = cO c) ∧ hb_fI w 2 1 g = nI K.length
def cOK (w w2 : hb_W) (T : Nat → Nat) (n tk g p p' : Nat) (z' : Bool) (K D : List Nat) (s : Nat) : Prop := p < p' ∧ cS w2 T n tk g p' z' (K ++ D) ∧ (K ++ D).length + s ≤ p' ∧ hw_ag (aG g) w w2 ∧ w2.2.2.1 = w.2.2.1 ∧ okc tk D
def cBad (w w2 : hb_W) (g k pl : Nat) : Prop := rX w2 k pl ∧ cSz w2 g ∧ hw_ag (aG g) w w2 ∧ w2.2.2.1 = w.2.2.1 ∧ 0 < k ∧ k < 10
theorem cS.lex {w w2 : hb_W} {T : Nat → Nat} {n tk g p p2 : Nat} {z z2 : Bool} {K : List Nat} (h : cS w T n tk g p z K) (hG : rG w2 T n p2 z2) (ha : hw_ag (fun t _ => t = 3) w w2) (hr : w2.2.2.1 = w.2.2.1) : cS w2 T n tk g p2 z2 K := by
  obtain ⟨h1, h2, h3, h4, h5⟩ := h
  have n4 : ¬ (fun t (_ : Nat) => t = 3) 4 0 := by decide
  have n2 : ¬ (fun t (_ : Nat) => t = 3) 2 g := (show ¬ (2 : Nat) = 3 by decide)
  exact ⟨hG, by unfold hb_fR at h2 ⊢; rw [hr]; exact h2, by rw [ha.1 4 2 0 n4]; exact h3, fun k c hk => by rw [ha.2.2.2.1 2 1 g n2]; exact h4 k c hk, by rw [ha.1 2 1 g n2]; exact h5⟩
theorem cS.sz {w : hb_W} {T : Nat → Nat} {n tk g p : Nat} {z : Bool} {K : List Nat} (h : cS w T n tk g p z K) (hl : K.length ≤ p) : cSz w g := ⟨K.length, by have h1 := h.1.1.2.1; have h2 := h.1.2.1.1; omega, h.2.2.2.2⟩
theorem cSz.lex {w w2 : hb_W} {g : Nat} (h : cSz w g) (ha : hw_ag (fun t _ => t = 3) w w2) : cSz w2 g := by
  have n2 : ¬ (fun t (_ : Nat) => t = 3) 2 g := (show ¬ (2 : Nat) = 3 by decide)
  obtain ⟨m, m1, m2⟩ := h
  exact ⟨m, m1, by rw [ha.1 2 1 g n2]; exact m2⟩
theorem ag3 {w w2 : hb_W} {g : Nat} (h : hw_ag (fun t _ => t = 3) w w2) : hw_ag (aG g) w w2 := h.wk (fun t _ y => Or.inl y)
theorem rG.ag {Pp : Nat → Nat → Prop} {w w2 : hb_W} {T : Nat → Nat} {n p : Nat} {z : Bool} (h : rG w T n p z) (ha : hw_ag Pp w w2) (n1 : ¬ Pp 1 0) (n3 : ¬ Pp 3 0) : rG w2 T n p z := by
  obtain ⟨h1, h2, h3⟩ := h
  refine ⟨h1.ag ha n1, ?_, ?_⟩
  · unfold rD at h2 ⊢
    rw [ha.1 3 1 0 n3, ha.1 3 2 0 n3, ha.1 3 3 0 n3, ha.1 3 4 0 n3, ha.1 3 5 0 n3]
    exact h2
  · unfold rF at h3 ⊢
    rw [ha.1 3 6 0 n3, ha.1 3 7 0 n3]
    exact h3
section HCS
variable {d : Nat} {w : hb_W} {Q : Option hb_V → hb_W → Prop} {T : Nat → Nat} {n tk g p o : Nat} {z : Bool} {K : List Nat}
theorem ok_put2 {c : Nat} {x : Int32} (hx : x = cO c) (hg : g < 3) (h : cS w T n tk g p z K) (hl : K.length < 1600) (q : ∀ w2, cS w2 T n tk g p z (K ++ [c]) → hw_ag (aG g) w w2 → w2.2.2.1 = w.2.2.1 → Q none w2) : hb_O yX1_put cX1_put 2 none d [hb_r 2 g 0, hb_i x] w Q := by
  obtain ⟨h1, h2, h3, h4, h5⟩ := h
  have hn := h1.1.2.1
  have hp := h1.2.1.1
  have hgc : g < hb_ct 2 := hg
  refine bk_X1_put_0 hgc ?_
  rw [h5, nI_clamp (by omega), nI_1]
  refine ⟨fun y => absurd y (nI_ge (b := 1600) (by omega) (by decide)), fun _ => ⟨vp_in_nI (by omega) (by decide), ?_⟩⟩
  have p2 : aG g 2 g := Or.inr ⟨rfl, rfl⟩
  have ha : hw_ag (fun t g' => t = 2 ∧ g' = g) w (hb_pI (hb_sI w 2 1 g (upd (hb_aI w 2 1 g) K.length x)) 2 1 g (nI (K.length + 1))) := (hw_ag.rf.sI ⟨rfl, rfl⟩).pI ⟨rfl, rfl⟩
  refine q _ ⟨h1.ag ha (by omega) (by omega), h2, h3, fun k c' hk => ?_, ?_⟩ ((hw_ag.rf.sI p2).pI p2) rfl
  · show hb_u3 _ 2 1 g (upd (hb_aI w 2 1 g) K.length x) 2 1 g k = cO c'
    rw [hb_u3_s]
    by_cases e : k < K.length
    · rw [List.getElem?_append_left e] at hk
      rw [pk_un (by omega)]
      exact h4 k c' hk
    · rw [List.getElem?_append_right (by omega)] at hk
      cases e2 : k - K.length with
      | zero =>
        rw [e2] at hk
        cases hk
        rw [show k = K.length by omega, pk_us, hx]
      | succ m =>
        rw [e2] at hk
        simp at hk
  · show hb_u3 _ 2 1 g (nI (K.length + 1)) 2 1 g = _
    rw [hb_u3_s, List.length_append]
    rfl
theorem ok_put {c : Nat} {x : Int32} (hx : x = cO c) (hg : g < 3) (h : cS w T n tk g p z K) (hl : K.length < p) (q : ∀ w2, cS w2 T n tk g p z (K ++ [c]) → hw_ag (aG g) w w2 → w2.2.2.1 = w.2.2.1 → Q none w2) : hb_O yX1_put cX1_put 2 none d [hb_r 2 g 0, hb_i x] w Q := ok_put2 hx hg h (by have h1 := h.1.1.2.1; have h2 := h.1.2.1.1; omega) q
theorem ok_putX {w1 : hb_W} {x : Int32} {k pl : Nat} (hg : g < 3) (h : cBad w1 w g k pl) (q : ∀ w2, cBad w1 w2 g k pl → Q none w2) : hb_O yX1_put cX1_put 2 none d [hb_r 2 g 0, hb_i x] w Q := by
  have hB := h
  obtain ⟨h1, ⟨m, m1, m2⟩, h3, h4, h5, h6⟩ := h
  have hgc : g < hb_ct 2 := hg
  have p2 : aG g 2 g := Or.inr ⟨rfl, rfl⟩
  refine bk_X1_put_0 hgc ?_
  rw [m2]
  refine ⟨fun _ => q w hB, fun y => ?_⟩
  rw [show (1600 : Int32) = nI 1600 from rfl, nI_leI (by decide) (by omega)] at y
  refine ⟨vp_in_nI (by omega) (by decide), q _ ⟨h1, ⟨m + 1, by omega, ?_⟩, (h3.sI p2).pI p2, h4, h5, h6⟩⟩
  rw [nI_1]
  show hb_u3 _ 2 1 g (nI (m + 1)) 2 1 g = _
  rw [hb_u3_s]
theorem cBad.of {w2 : hb_W} {k pl : Nat} (hz : cSz w g) (hx : rX w2 k pl) (ha : hw_ag (fun t _ => t = 3) w w2) (hr : w2.2.2.1 = w.2.2.1) (h1 : 0 < k) (h2 : k < 10) : cBad w w2 g k pl := ⟨hx, hz.lex ha, ag3 ha, hr, h1, h2⟩
theorem cBad.tr {w0 w1 w2 : hb_W} {k pl : Nat} (ha : hw_ag (aG g) w0 w1) (hr : w1.2.2.1 = w0.2.2.1) (h : cBad w1 w2 g k pl) : cBad w0 w2 g k pl := ⟨h.1, h.2.1, ha.tr h.2.2.1, h.2.2.2.1.trans hr, h.2.2.2.2⟩
theorem cBad.ref {w0 w2 : hb_W} {k pl : Nat} (h : cBad w0 w2 g k pl) (hr : hb_fR w0 4 1 0 = g) : hb_fR w2 4 1 0 = g := by
  unfold hb_fR at hr ⊢
  rw [h.2.2.2.1]; exact hr
theorem ok_goIn (ho : o ≤ 6) (h : cS w T n tk g p z K) (hk : lx_k T n p ≠ 0) (hz : z = true → lx_k T n p = 3) (q1 : o < 6 → ∀ w2, cS w2 T n tk g (lx_n T n p) (lx_z T n p) K → hw_ag (fun t _ => t = 3) w w2 → w2.2.2.1 = w.2.2.1 → Q (some (hb_i 1)) w2) (q0 : o = 6 → ∀ w2, rX w2 4 p → hw_ag (fun t _ => t = 3) w w2 → w2.2.2.1 = w.2.2.1 → Q (some (hb_i 0)) w2) : hb_O yX2_goIn cX2_goIn 2 (some .boolean) (d + 2) [hb_r 4 0 0, hb_i (nI o)] w Q := by
  refine bk_X2_goIn_0 ?_
  rw [show (6 : Int32) = nI 6 from rfl, nI_ltI (by omega) (by decide), h.1.2.1.2.2.2.2.1]
  refine ⟨fun y => ok_stepG h.1 hk hz (fun w2 g1 g2 g3 => bk_X2_goIn_29 (q1 y w2 (h.lex g1 g2 g3) g2 g3)), fun y => ok_stopG (k := 4) h.1.2.2 (fun w2 g1 g2 g3 => bk_X2_goIn_21 ⟨Or.inl rfl, q0 (by omega) w2 g1 g2 g3⟩)⟩
theorem cS.W (h : cS w T n tk g p z K) {wd : List Nat} {x : Int32} (ho : lx_ok wd) (hx : x = nI (lx_H wd)) : hb_fI w 3 2 0 = x ↔ lx_W T n p z wd := by
  rw [hx]
  exact h.1.2.1.W (fun k hk => (h.1.1.2.2 k hk).2) h.1.1.2.1 ho
theorem wdo {wd : List Nat} (h : ∃ j, (j, wd) ∈ wd_voc) : lx_ok wd := by
  obtain ⟨j, hj⟩ := h
  exact wd_ok _ hj
theorem ok_nameHere (htk : tk < 3) (h : cS w T n tk g p z K) (q1 : ∀ k, k < 7 → lx_W T n p z (wq k) → alw tk k → Q (some (hb_i (cO (40 + k)))) w) (q0 : (∀ k, k < 7 → ¬ (lx_W T n p z (wq k) ∧ alw tk k)) → Q (some (hb_i 0)) w) : hb_O yX2_nameHere cX2_nameHere 1 (some .int) d [hb_r 4 0 0] w Q := by
  have w3 := h.W (wd := wd_coin) (x := 3361166) (wdo ⟨48, by decide⟩) (by decide)
  have w0 := h.W (wd := wd_hood) (x := 3525188) (wdo ⟨45, by decide⟩) (by decide)
  have w2 := h.W (wd := wd_line) (x := 3650085) (wdo ⟨47, by decide⟩) (by decide)
  have w5 := h.W (wd := wd_told) (x := 3918308) (wdo ⟨50, by decide⟩) (by decide)
  have w1 := h.W (wd := wd_turn) (x := 3924654) (wdo ⟨46, by decide⟩) (by decide)
  have w6 := h.W (wd := wd_gifts) (x := 111552243) (wdo ⟨51, by decide⟩) (by decide)
  have w4 := h.W (wd := wd_times) (x := 125190419) (wdo ⟨49, by decide⟩) (by decide)
  have only : ∀ k, k < 7 → lx_W T n p z (wq k) → ¬ alw tk k → Q (some (hb_i 0)) w := fun k hk hW hA => q0 (fun j hj y => by
    have : j = k := wq_inj j (by omega) k (by omega) (lx_W_u y.1 hW)
    subst this
    exact hA y.2)
  refine bk_X2_nameHere_0 ?_
  rw [w3, w0, w2, w5, w1, w6, w4, h.2.2.1, show (0 : Int32) = nI 0 from rfl, show (1 : Int32) = nI 1 from rfl, show (2 : Int32) = nI 2 from rfl, nI_eq (by omega) (by decide), nI_eq (by omega) (by decide), nI_eq (by omega) (by decide)]
  refine ⟨fun y => ⟨fun u => only 3 (by decide) y (by unfold alw; omega), fun u => q1 3 (by decide) y (by unfold alw; omega)⟩, fun y => q1 0 (by decide) y (by unfold alw; omega), fun y => ⟨fun u => only 2 (by decide) y (by unfold alw; omega), fun u => q1 2 (by decide) y (by unfold alw; omega)⟩, fun y => ⟨fun u => only 5 (by decide) y (by unfold alw; omega), fun u => q1 5 (by decide) y (by unfold alw; omega)⟩, fun y => ⟨fun u => only 1 (by decide) y (by unfold alw; omega), fun u => q1 1 (by decide) y (by unfold alw; omega)⟩, fun y => ⟨fun u => only 6 (by decide) y (by unfold alw; omega), fun u => q1 6 (by decide) y (by unfold alw; omega)⟩, fun y => ⟨fun u => only 4 (by decide) y (by unfold alw; omega), fun u => q1 4 (by decide) y (by unfold alw; omega)⟩, fun n3 n0 n2 n5 n1 n6 n4 => q0 (fun k hk y => ?_)⟩
  have : k = 0 ∨ k = 1 ∨ k = 2 ∨ k = 3 ∨ k = 4 ∨ k = 5 ∨ k = 6 := by omega
  rcases this with rfl | rfl | rfl | rfl | rfl | rfl | rfl
  · exact n0 y.1
  · exact n1 y.1
  · exact n2 y.1
  · exact n3 y.1
  · exact n4 y.1
  · exact n5 y.1
  · exact n6 y.1
end HCS
def ctPart (T : Nat → Nat) (n tk d e : Nat) : Prop := ∀ (w : hb_W) (Q : Option hb_V → hb_W → Prop) (g p : Nat) (z : Bool) (K : List Nat) (s o : Nat), o + e = 6 → g < 3 → cS w T n tk g p z K → K.length + s ≤ p → (∀ D p' z' w2, gP T n tk p z o D p' z' → tyD (3 * e + 1) D → cOK w w2 T n tk g p p' z' K D s → Q (some (hb_i 1)) w2) → (∀ k pl w2, fP T n tk p z o k pl → cBad w w2 g k pl → Q (some (hb_i 0)) w2) → hb_O yX2_readPart cX2_readPart 3 (some .boolean) (d + 4 * e + 4) [hb_r 4 0 0, hb_i (nI o)] w Q
def ctProd (T : Nat → Nat) (n tk d e : Nat) : Prop := ∀ (w : hb_W) (Q : Option hb_V → hb_W → Prop) (g p : Nat) (z : Bool) (K : List Nat) (s o : Nat), o + e = 6 → g < 3 → cS w T n tk g p z K → K.length + s ≤ p → (∀ D p' z' w2, gM T n tk p z o D p' z' → ¬ lx_s T n p' 42 → ¬ lx_s T n p' 47 → tyD (3 * e + 2) D → cOK w w2 T n tk g p p' z' K D s → Q (some (hb_i 1)) w2) → (∀ k pl w2, fM T n tk p z o k pl → cBad w w2 g k pl → Q (some (hb_i 0)) w2) → hb_O yX2_readProduct cX2_readProduct 5 (some .boolean) (d + 4 * e + 5) [hb_r 4 0 0, hb_i (nI o)] w Q
def ctSum (T : Nat → Nat) (n tk d e : Nat) : Prop := ∀ (w : hb_W) (Q : Option hb_V → hb_W → Prop) (g p : Nat) (z : Bool) (K : List Nat) (s o : Nat), o + e = 6 → g < 3 → cS w T n tk g p z K → K.length + s ≤ p → (∀ D p' z' w2, gS T n tk p z o D p' z' → noOp T n p' → tyD (3 * e + 3) D → cOK w w2 T n tk g p p' z' K D s → Q (some (hb_i 1)) w2) → (∀ k pl w2, fS T n tk p z o k pl → cBad w w2 g k pl → Q (some (hb_i 0)) w2) → hb_O yX2_readSum cX2_readSum 5 (some .boolean) (d + 4 * e + 6) [hb_r 4 0 0, hb_i (nI o)] w Q
section HCT
variable {d : Nat} {w : hb_W} {Q : Option hb_V → hb_W → Prop} {T : Nat → Nat} {n tk g p o s e : Nat} {z : Bool} {K : List Nat}
theorem ok_prod (hP : ctPart T n tk d e) : ctProd T n tk d e := by
  intro w Q g p z K s o ho hg hS hl q1 q0
  have hn := hS.1.1.2.1
  -- behind the first part and each further one
  have loop : ∀ (m k : Nat) (w' : hb_W) (D : List Nat) (p1 : Nat) (z1 : Bool), p1 + m = 1600 → k + 1 ≤ p1 → gM T n tk p z o D p1 z1 → tyD (3 * e + 2) D → cOK w w' T n tk g p p1 z1 K D s → hb_R yX2_readProduct cX2_readProduct 5 (some .boolean) (d + 4 * e + 4 + 1) 8 [some (hb_r 4 0 0), some (hb_i (nI o)), some (hb_i 1), some (hb_i (nI k)), none] [] w' Q := by
    intro m
    induction m using Nat.strongRecOn with
    | ind m ih =>
      intro k w' D p1 z1 hm hk hG hty hOK
      obtain ⟨o1, o2, o3, o4, o5, o6⟩ := hOK
      have hp1 := o2.1.2.1.1
      have hfr : hb_fR w' 4 1 0 = g := o2.2.1
      -- one more
      have more : ∀ (b : Bool), lx_s T n p1 (if b = true then 42 else 47) → ∀ x4 : Int32, x4 = (if b = true then 1 else 0) → hb_O yX7_step cX7_step 4 none (d + 4 * e + 4) [hb_r 3 0 0] w' (fun rv w1 => hb_R yX2_readProduct cX2_readProduct 5 (some .boolean) (d + 4 * e + 4 + 1) 56 [some (hb_r 4 0 0), some (hb_i (nI o)), some (hb_i 1), some (hb_i (nI k)), some (hb_i x4)] (rv.toList ++ []) w1 Q) := by
        intro b hs x4 hx4
        have hsg : lx_sg (if b = true then 42 else 47) := by cases b; exact sg47; exact sg42
        have k3 := lx_s3 hsg hs
        have hlt := lx_n_lt hp1 (show lx_k T n p1 ≠ 0 by omega)
        refine ok_stepG o2.1 (by omega) (fun _ => k3) (fun w2 g1 g2 g3 => bk_X2_readProduct_56 ?_)
        rw [lx_z3 k3] at g1
        have hS2 := o2.lex g1 g2 g3
        have hfr2 : hb_fR w2 4 1 0 = g := hS2.2.1
        refine hP w2 _ g (lx_n T n p1) false (K ++ D) (s + 1) o ho hg hS2 (by omega) (fun D2 p2 z2 w3 l1 l2 l3 => ?_) (fun k2 pl w3 l1 l2 => ?_)
        · obtain ⟨r1, r2, r3, r4, r5, r6⟩ := l3
          have hfr3 : hb_fR w3 4 1 0 = g := r2.2.1
          have hGm := gM_more hG hs l1
          have next : ∀ c x, x = cO c → c = (if b = true then 3 else 4) → hb_O yX1_put cX1_put 2 none (d + 4 * e + 4) [hb_r 2 (hb_fR w3 4 1 0) 0, hb_i x] w3 (fun rv w1 => hb_R yX2_readProduct cX2_readProduct 5 (some .boolean) (d + 4 * e + 4 + 1) 81 [some (hb_r 4 0 0), some (hb_i (nI o)), some (hb_i 1), some (hb_i (nI k)), some (hb_i x4)] (rv.toList ++ []) w1 Q) := by
            intro c x hx hc
            rw [hfr3]
            refine ok_put hx hg r2 (by omega) (fun w4 t1 t2 t3 => bk_X2_readProduct_81 ?_)
            rw [nI_1]
            have hp2 := t1.1.2.1.1
            refine hx_at 4 (ih (1600 - p2) (by omega) (k + 1) w4 (D ++ D2 ++ [c]) p2 z2 (by omega) (by omega) ?_ ?_ ⟨by omega, ?_, ?_, ?_, t3.trans (r5.trans (g3.trans o5)), ?_⟩)
            · rw [hc]; exact hGm
            · exact ty_bin hty l2 (by omega) (by rw [hc]; cases b <;> simp)
            · have e1 : K ++ (D ++ D2 ++ [c]) = K ++ D ++ D2 ++ [c] := by simp [List.append_assoc]
              rw [e1]; exact t1
            · simp only [List.length_append, List.length_singleton] at r3 ⊢
              omega
            · exact ((o4.tr (ag3 g2)).tr r4).tr t2
            · exact (o6.app r6).app (okc_op (by rw [hc]; cases b <;> simp))
          refine bk_X2_readProduct_61 ⟨fun y => ⟨by rw [hfr3]; exact hg, ?_⟩, fun y => ⟨by rw [hfr3]; exact hg, ?_⟩⟩
          · cases b with
            | true => rw [hx4] at y; exact absurd y (by decide)
            | false => exact next 4 _ (by decide) rfl
          · cases b with
            | true => exact next 3 _ (by decide) rfl
            | false => rw [hx4] at y; exact absurd rfl y
        · have hB : cBad w w3 g k2 pl := l2.tr ((o4.tr (ag3 g2))) (g3.trans o5)
          have hfr3 : hb_fR w3 4 1 0 = g := l2.ref hfr2
          have hGf := fM_more hG hs l1
          have next : ∀ x, hb_O yX1_put cX1_put 2 none (d + 4 * e + 4) [hb_r 2 (hb_fR w3 4 1 0) 0, hb_i x] w3 (fun rv w1 => hb_R yX2_readProduct cX2_readProduct 5 (some .boolean) (d + 4 * e + 4 + 1) 81 [some (hb_r 4 0 0), some (hb_i (nI o)), some (hb_i 0), some (hb_i (nI k)), some (hb_i x4)] (rv.toList ++ []) w1 Q) := by
            intro x
            rw [hfr3]
            refine ok_putX hg hB (fun w4 t1 => bk_X2_readProduct_81 (hx_at 4 ?_))
            exact bk_X2_readProduct_8 ⟨fun _ => ⟨Or.inl rfl, q0 k2 pl w4 hGf t1⟩, fun _ => ⟨fun _ => ⟨Or.inl rfl, q0 k2 pl w4 hGf t1⟩, fun y => absurd rfl y⟩⟩
          exact bk_X2_readProduct_61 ⟨fun _ => ⟨by rw [hfr3]; exact hg, next _⟩, fun _ => ⟨by rw [hfr3]; exact hg, next _⟩⟩
      refine bk_X2_readProduct_8 ⟨fun y => absurd y (nI_ge (b := 1600) (by omega) (by decide)), fun _ => ⟨fun y => absurd y (by decide), fun _ => ?_⟩⟩
      refine ok_isSign sg42 o2.1 (fun y => bk_X2_readProduct_28 ⟨fun _ => more true y _ rfl, fun u => absurd u (by decide)⟩) (fun y => bk_X2_readProduct_28 ⟨fun u => absurd rfl u, fun _ => ?_⟩)
      refine ok_isSign sg47 o2.1 (fun y2 => bk_X2_readProduct_44 ⟨fun _ => more false y2 _ rfl, fun u => absurd u (by decide)⟩) (fun y2 => bk_X2_readProduct_44 ⟨fun u => absurd rfl u, fun _ => ?_⟩)
      exact q1 D p1 z1 w' hG y y2 hty ⟨o1, o2, o3, o4, o5, o6⟩
  refine bk_X2_readProduct_0 (hP w _ g p z K s o ho hg hS hl (fun D p1 z1 w2 l1 l2 l3 => bk_X2_readProduct_5 ?_) (fun k pl w2 l1 l2 => bk_X2_readProduct_5 ?_))
  · have hp1 := l3.2.1.1.2.1.1
    have := l3.1
    exact loop (1600 - p1) 0 w2 D p1 z1 (by omega) (by omega) (gM_one l1) (l2.le (by omega)) l3
  · exact bk_X2_readProduct_8 ⟨fun _ => ⟨Or.inl rfl, q0 k pl w2 (fM_one l1) l2⟩, fun _ => ⟨fun _ => ⟨Or.inl rfl, q0 k pl w2 (fM_one l1) l2⟩, fun y => absurd rfl y⟩⟩
theorem ok_sum (hP : ctProd T n tk d e) : ctSum T n tk d e := by
  intro w Q g p z K s o ho hg hS hl q1 q0
  have hn := hS.1.1.2.1
  have loop : ∀ (m k : Nat) (w' : hb_W) (D : List Nat) (p1 : Nat) (z1 : Bool), p1 + m = 1600 → k + 1 ≤ p1 → gS T n tk p z o D p1 z1 → ¬ lx_s T n p1 42 → ¬ lx_s T n p1 47 → tyD (3 * e + 3) D → cOK w w' T n tk g p p1 z1 K D s → hb_R yX2_readSum cX2_readSum 5 (some .boolean) (d + 4 * e + 5 + 1) 8 [some (hb_r 4 0 0), some (hb_i (nI o)), some (hb_i 1), some (hb_i (nI k)), none] [] w' Q := by
    intro m
    induction m using Nat.strongRecOn with
    | ind m ih =>
      intro k w' D p1 z1 hm hk hG n42 n47 hty hOK
      obtain ⟨o1, o2, o3, o4, o5, o6⟩ := hOK
      have hp1 := o2.1.2.1.1
      have hfr : hb_fR w' 4 1 0 = g := o2.2.1
      have more : ∀ (b : Bool), lx_s T n p1 (if b = true then 43 else 45) → ∀ x4 : Int32, x4 = (if b = true then 1 else 0) → hb_O yX7_step cX7_step 4 none (d + 4 * e + 5) [hb_r 3 0 0] w' (fun rv w1 => hb_R yX2_readSum cX2_readSum 5 (some .boolean) (d + 4 * e + 5 + 1) 56 [some (hb_r 4 0 0), some (hb_i (nI o)), some (hb_i 1), some (hb_i (nI k)), some (hb_i x4)] (rv.toList ++ []) w1 Q) := by
        intro b hs x4 hx4
        have hsg : lx_sg (if b = true then 43 else 45) := by cases b; exact sg45; exact sg43
        have k3 := lx_s3 hsg hs
        have hlt := lx_n_lt hp1 (show lx_k T n p1 ≠ 0 by omega)
        refine ok_stepG o2.1 (by omega) (fun _ => k3) (fun w2 g1 g2 g3 => bk_X2_readSum_56 ?_)
        rw [lx_z3 k3] at g1
        have hS2 := o2.lex g1 g2 g3
        have hfr2 : hb_fR w2 4 1 0 = g := hS2.2.1
        refine hP w2 _ g (lx_n T n p1) false (K ++ D) (s + 1) o ho hg hS2 (by omega) (fun D2 p2 z2 w3 l1 m1 m2 l2 l3 => ?_) (fun k2 pl w3 l1 l2 => ?_)
        · obtain ⟨r1, r2, r3, r4, r5, r6⟩ := l3
          have hfr3 : hb_fR w3 4 1 0 = g := r2.2.1
          have hGm := gS_more hG hs l1
          have next : ∀ c x, x = cO c → c = (if b = true then 1 else 2) → hb_O yX1_put cX1_put 2 none (d + 4 * e + 5) [hb_r 2 (hb_fR w3 4 1 0) 0, hb_i x] w3 (fun rv w1 => hb_R yX2_readSum cX2_readSum 5 (some .boolean) (d + 4 * e + 5 + 1) 81 [some (hb_r 4 0 0), some (hb_i (nI o)), some (hb_i 1), some (hb_i (nI k)), some (hb_i x4)] (rv.toList ++ []) w1 Q) := by
            intro c x hx hc
            rw [hfr3]
            refine ok_put hx hg r2 (by omega) (fun w4 t1 t2 t3 => bk_X2_readSum_81 ?_)
            rw [nI_1]
            have hp2 := t1.1.2.1.1
            refine hx_at 4 (ih (1600 - p2) (by omega) (k + 1) w4 (D ++ D2 ++ [c]) p2 z2 (by omega) (by omega) ?_ m1 m2 ?_ ⟨by omega, ?_, ?_, ?_, t3.trans (r5.trans (g3.trans o5)), ?_⟩)
            · rw [hc]; exact hGm
            · exact ty_bin hty l2 (by omega) (by rw [hc]; cases b <;> simp)
            · have e1 : K ++ (D ++ D2 ++ [c]) = K ++ D ++ D2 ++ [c] := by simp [List.append_assoc]
              rw [e1]; exact t1
            · simp only [List.length_append, List.length_singleton] at r3 ⊢
              omega
            · exact ((o4.tr (ag3 g2)).tr r4).tr t2
            · exact (o6.app r6).app (okc_op (by rw [hc]; cases b <;> simp))
          refine bk_X2_readSum_61 ⟨fun y => ⟨by rw [hfr3]; exact hg, ?_⟩, fun y => ⟨by rw [hfr3]; exact hg, ?_⟩⟩
          · cases b with
            | true => rw [hx4] at y; exact absurd y (by decide)
            | false => exact next 2 _ (by decide) rfl
          · cases b with
            | true => exact next 1 _ (by decide) rfl
            | false => rw [hx4] at y; exact absurd rfl y
        · have hB : cBad w w3 g k2 pl := l2.tr ((o4.tr (ag3 g2))) (g3.trans o5)
          have hfr3 : hb_fR w3 4 1 0 = g := l2.ref hfr2
          have hGf := fS_more hG hs l1
          have next : ∀ x, hb_O yX1_put cX1_put 2 none (d + 4 * e + 5) [hb_r 2 (hb_fR w3 4 1 0) 0, hb_i x] w3 (fun rv w1 => hb_R yX2_readSum cX2_readSum 5 (some .boolean) (d + 4 * e + 5 + 1) 81 [some (hb_r 4 0 0), some (hb_i (nI o)), some (hb_i 0), some (hb_i (nI k)), some (hb_i x4)] (rv.toList ++ []) w1 Q) := by
            intro x
            rw [hfr3]
            refine ok_putX hg hB (fun w4 t1 => bk_X2_readSum_81 (hx_at 4 ?_))
            exact bk_X2_readSum_8 ⟨fun _ => ⟨Or.inl rfl, q0 k2 pl w4 hGf t1⟩, fun _ => ⟨fun _ => ⟨Or.inl rfl, q0 k2 pl w4 hGf t1⟩, fun y => absurd rfl y⟩⟩
          exact bk_X2_readSum_61 ⟨fun _ => ⟨by rw [hfr3]; exact hg, next _⟩, fun _ => ⟨by rw [hfr3]; exact hg, next _⟩⟩
      refine bk_X2_readSum_8 ⟨fun y => absurd y (nI_ge (b := 1600) (by omega) (by decide)), fun _ => ⟨fun y => absurd y (by decide), fun _ => ?_⟩⟩
      refine ok_isSign sg43 o2.1 (fun y => bk_X2_readSum_28 ⟨fun _ => more true y _ rfl, fun u => absurd u (by decide)⟩) (fun y => bk_X2_readSum_28 ⟨fun u => absurd rfl u, fun _ => ?_⟩)
      refine ok_isSign sg45 o2.1 (fun y2 => bk_X2_readSum_44 ⟨fun _ => more false y2 _ rfl, fun u => absurd u (by decide)⟩) (fun y2 => bk_X2_readSum_44 ⟨fun u => absurd rfl u, fun _ => ?_⟩)
      exact q1 D p1 z1 w' hG ⟨n42, n47, y, y2⟩ hty ⟨o1, o2, o3, o4, o5, o6⟩
  refine bk_X2_readSum_0 (hP w _ g p z K s o ho hg hS hl (fun D p1 z1 w2 l1 m1 m2 l2 l3 => bk_X2_readSum_5 ?_) (fun k pl w2 l1 l2 => bk_X2_readSum_5 ?_))
  · have hp1 := l3.2.1.1.2.1.1
    have := l3.1
    exact loop (1600 - p1) 0 w2 D p1 z1 (by omega) (by omega) (gS_one l1) m1 m2 (l2.le (by omega)) l3
  · exact bk_X2_readSum_8 ⟨fun _ => ⟨Or.inl rfl, q0 k pl w2 (fS_one l1) l2⟩, fun _ => ⟨fun _ => ⟨Or.inl rfl, q0 k pl w2 (fS_one l1) l2⟩, fun y => absurd rfl y⟩⟩
end HCT
