/-! ===== the class's Grammar: questions ===== -/
def aQ (t g' : Nat) : Prop := t = 3 ∨ t = 4 ∨ (t = 2 ∧ g' = 0)
theorem aG.Q {t g' : Nat} (h : aG 0 t g') : aQ t g' := by
  unfold aG at h
  unfold aQ
  omega
theorem okt.q {D : List Nat} (h : okt 2 D) : qOk D := by
  intro c hc k hk hk7
  rcases h c hc with u | u | u | ⟨j, j1, j2, j3⟩ | u
  · omega
  · omega
  · omega
  · unfold alw at j2
    omega
  · omega
section HCX
variable {d : Nat} {w : hb_W} {Q : Option hb_V → hb_W → Prop} {T : Nat → Nat} {n p : Nat} {z : Bool} {K : List Nat}
theorem cS.kind0 {tk g : Nat} (h : cS w T n tk g p z K) : hb_fI w 3 1 0 = 0 ↔ ¬ p < n := by
  have hkl := lx_k_le T n p
  rw [h.1.2.1.2.1, show (0 : Int32) = nI 0 from rfl, nI_eq (by split <;> omega) (by decide)]
  have h0 := lx_k_0 (T := T) (n := n) (k := p)
  constructor
  · intro y
    split at y
    · cases y
    · omega
  · intro y
    rw [if_neg (by have := h0.mpr (by omega); omega)]
    exact h0.mpr (by omega)
theorem ok_askedHere {tk g : Nat} (h : cS w T n tk g p z K) (q1 : ∀ k, k < 6 → lx_W T n p z (wk k) → Q (some (hb_i (nI (k + 1)))) w) (q0 : (∀ k, k < 6 → ¬ lx_W T n p z (wk k)) → Q (some (hb_i 0)) w) : hb_O yX2_askedHere cX2_askedHere 1 (some .int) d [hb_r 4 0 0] w Q := by
  have w0 := h.W (wd := wd_first) (x := 110515924) (wdo ⟨33, by decide⟩) (by decide)
  have w1 := h.W (wd := wd_last) (x := 3642068) (wdo ⟨34, by decide⟩) (by decide)
  have w2 := h.W (wd := wd_often) (x := 119856398) (wdo ⟨35, by decide⟩) (by decide)
  have w3 := h.W (wd := wd_total) (x := 125394060) (wdo ⟨36, by decide⟩) (by decide)
  have w4 := h.W (wd := wd_most) (x := 3689172) (wdo ⟨37, by decide⟩) (by decide)
  have w5 := h.W (wd := wd_least) (x := 116658900) (wdo ⟨38, by decide⟩) (by decide)
  refine bk_X2_askedHere_0 ?_
  rw [w0, w1, w2, w3, w4, w5]
  refine ⟨fun y => q1 1 (by decide) y, fun y => q1 4 (by decide) y, fun y => q1 0 (by decide) y, fun y => q1 5 (by decide) y, fun y => q1 2 (by decide) y, fun y => q1 3 (by decide) y, fun n1 n4 n0 n5 n2 n3 => q0 (fun k hk y => ?_)⟩
  have : k = 0 ∨ k = 1 ∨ k = 2 ∨ k = 3 ∨ k = 4 ∨ k = 5 := by omega
  rcases this with rfl | rfl | rfl | rfl | rfl | rfl
  · exact n0 y
  · exact n1 y
  · exact n2 y
  · exact n3 y
  · exact n4 y
  · exact n5 y
theorem ok_readQuestion (h : cTx w T n) (q1 : ∀ k C w2, k < 6 → gQ T n k C → tyR 64 C [] = some [decide (k < 3)] → qOk C → rF w2 → cC w2 0 0 C → hb_fI w2 2 1 0 = nI C.length → hw_ag aQ w w2 → Q (some (hb_i (nI (k + 1)))) w2) (q0 : ∀ k pl w2, 0 < k → k < 10 → fQ T n k pl → rX w2 k pl → hw_ag aQ w w2 → Q (some (hb_i 0)) w2) : hb_O yX2_readQuestion cX2_readQuestion 4 (some .int) (d + 35) [hb_r 4 0 0, hb_r 2 0 0] w Q := by
  have p2 : aQ 2 0 := Or.inr (Or.inr ⟨rfl, rfl⟩)
  have p4 : aQ 4 0 := Or.inr (Or.inl rfl)
  have a0 : hw_ag aQ w (hb_pI (hb_pI (hb_pR w 4 1 0 0) 2 1 0 0) 4 2 0 2) := ((hw_ag.rf.pR p4).pI p2).pI p4
  have n1 : ¬ aQ 1 0 := by unfold aQ; omega
  have gt : (0 : Nat) < hb_ct 2 := by decide
  refine bk_X2_readQuestion_0 gt (ok_start (h.ag a0 n1) (fun w2 g1 g2 g3 => bk_X2_readQuestion_22 gt ?_))
  have n4 : ¬ (fun t (_ : Nat) => t = 3) 4 0 := by decide
  have n2 : ¬ (fun t (_ : Nat) => t = 3) 2 0 := by decide
  have S2 : cS w2 T n 2 0 (lx_S T n 0) false [] := ⟨g1, by unfold hb_fR; rw [g3]; rfl, by rw [g2.1 4 2 0 n4]; rfl, fun k c hk => by simp at hk, by rw [g2.1 2 1 0 n2]; rfl⟩
  have a2 : hw_ag aQ w w2 := a0.tr (g2.wk (fun t _ y => Or.inl y))
  have hn := h.2.1
  have hp := g1.2.1.1
  refine ok_askedHere S2 (fun k hk hW => bk_X2_readQuestion_26 gt ⟨fun _ => ?_, fun y => ?_⟩) (fun hno => bk_X2_readQuestion_26 gt ⟨fun y => absurd rfl y, fun _ => ?_⟩)
  · have k1 : lx_k T n (lx_S T n 0) ≠ 0 := by rw [hW.2.1]; decide
    have hlt := lx_n_lt hp k1
    refine ok_stepG g1 k1 (fun e => by cases e) (fun w3 b1 b2 b3 => bk_X2_readQuestion_56 gt ?_)
    have S3 := S2.lex b1 b2 b3
    have a3 : hw_ag aQ w w3 := a2.tr (b2.wk (fun t _ y => Or.inl y))
    rw [show (3 : Int32) = nI 3 from rfl, nI_ltI (by decide) (by omega)]
    -- behind the reading
    have fin : ∀ (w4 : hb_W) (D : List Nat) (p1 : Nat) (z1 : Bool), cS w4 T n 2 0 p1 z1 D → D.length ≤ p1 → hw_ag (aG 0) w3 w4 → qOk D → tyR 64 D [] = some [decide (k < 3)] → ((¬ p1 < n → gQ T n k D) ∧ (p1 < n → fQ T n 1 p1)) → hb_R yX2_readQuestion cX2_readQuestion 4 (some .int) (d + 35) 74 [some (hb_r 4 0 0), some (hb_r 2 0 0), some (hb_i (nI (k + 1))), none] [hb_i 1] w4 Q := by
      intro w4 D p1 z1 hS hl ha hok hty hgf
      have a4 : hw_ag aQ w w4 := a3.tr (ha.wk (fun t g y => aG.Q y))
      have hp1 := hS.1.2.1.1
      refine bk_X2_readQuestion_74 gt ⟨fun y => absurd y (by decide), fun _ => ?_⟩
      rw [hS.kind0, hS.1.2.1.2.2.2.2.1]
      refine ⟨fun y => ⟨fun u => absurd u (by decide), fun _ => q1 k D w4 hk (hgf.1 y) hty hok hS.1.2.2 ⟨fun i c hi => ?_, D.length, by omega, hS.2.2.2.2, by omega⟩ hS.2.2.2.2 a4⟩, fun y => ?_⟩
      · rw [Nat.zero_add]
        exact hS.2.2.2.1 i c hi
      · refine ok_stopG (k := 1) hS.1.2.2 (fun w5 c1 c2 c3 => bk_X2_readQuestion_104 gt ⟨fun _ => ?_, fun u => absurd rfl u⟩)
        exact q0 1 p1 w5 (by decide) (by decide) (hgf.2 (by omega)) c1 (a4.tr (c2.wk (fun t _ y => Or.inl y)))
    have bad : ∀ (w4 : hb_W) (kf pl : Nat), fQ T n kf pl → cBad w3 w4 0 kf pl → hb_R yX2_readQuestion cX2_readQuestion 4 (some .int) (d + 35) 74 [some (hb_r 4 0 0), some (hb_r 2 0 0), some (hb_i (nI (k + 1))), none] [hb_i 0] w4 Q := by
      intro w4 kf pl hf hb
      have a4 : hw_ag aQ w w4 := a3.tr (hb.2.2.1.wk (fun t g y => aG.Q y))
      exact bk_X2_readQuestion_74 gt ⟨fun _ => ⟨fun _ => q0 kf pl w4 hb.2.2.2.2.1 hb.2.2.2.2.2 hf hb.1 a4, fun u => absurd rfl u⟩, fun u => absurd rfl u⟩
    refine ⟨fun y => ?_, fun y => ?_⟩
    · refine ct_sum (tk := 2) (by decide) 6 (d + 4) w3 _ 0 _ _ [] 0 0 rfl (by decide) S3 (Nat.zero_le _) (fun D p1 z1 w4 l1 l2 l3 l4 => ?_) (fun kf pl w4 l1 l2 => ?_)
      · obtain ⟨r1, r2, r3, r4, r5, r6⟩ := l4
        refine fin w4 D p1 z1 r2 r3 r4 r6.t.q ?_ (q_sum (by omega) hk hW l1 l2)
        rw [l3 [] (by decide)]
        have : decide (k < 3) = false := by simp; omega
        rw [this]
      · exact bad w4 kf pl (q_sumX (by omega) hk hW l2.2.2.2.2.1 l2.2.2.2.2.2 l1) l2
    · refine ct_test (tk := 2) (by decide) 6 d w3 _ 0 _ _ [] 0 0 rfl (by decide) S3 (Nat.zero_le _) (fun D p1 z1 w4 l1 na no l3 l4 => bk_X2_readQuestion_66 gt ?_) (fun kf pl w4 l1 l2 => bk_X2_readQuestion_66 gt ?_)
      · obtain ⟨r1, r2, r3, r4, r5, r6⟩ := l4
        refine fin w4 D p1 z1 r2 r3 r4 r6.q ?_ (q_test (by omega) hW l1 na no)
        rw [l3 [] (by decide)]
        have : decide (k < 3) = true := by simp; omega
        rw [this]
      · exact bad w4 kf pl (q_testX (by omega) hW l2.2.2.2.2.1 l2.2.2.2.2.2 l1) l2
  · exfalso
    have : k = 0 ∨ k = 1 ∨ k = 2 ∨ k = 3 ∨ k = 4 ∨ k = 5 := by omega
    rcases this with rfl | rfl | rfl | rfl | rfl | rfl <;> exact absurd y (by decide)
  · rw [g1.2.1.2.2.2.2.1]
    exact ok_stopG (k := 1) g1.2.2 (fun w3 c1 c2 c3 => bk_X2_readQuestion_46 gt (q0 1 _ w3 (by decide) (by decide) (fQ_kind hno) c1 (a2.tr (c2.wk (fun t _ y => Or.inl y)))))
end HCX
