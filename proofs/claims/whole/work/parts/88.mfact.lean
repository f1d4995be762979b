section HMW
variable {d : Nat} {Q : Option hb_V → hb_W → Prop} {w0 w : hb_W} {T : Nat → Nat} {n tk s p p1 p2 : Nat} {z z1 z2 : Bool} {Wt W Cd D D1 D2 : List Nat} {x2 : Int32}
/-- a square bracket closes -/
theorem tA_33 : ∀ {V : List Nat} {w : hb_W} {Cd : List Nat}, (∀ y ∈ V, y < 12) → hm_ag kS jS w0 w → mU w T n tk 0 p z (opn W + 1) (V ++ 25 :: W) Cd → Cd.length + V.length + W.length + s + 1 ≤ p → tA d Q w0 T n tk s p z (nnW W) (Cd ++ V ++ nnC W) → hb_R yX12_qGoesOnTest cX12_qGoesOnTest 1 (some .boolean) (d + 7) 33 [some (hb_r 12 0 0)] [] w (tK98 d x2 Q)
  | [], w, Cd, hV, ha, hS, hl, q => by
    have hn := hS.1.le
    simp only [List.length_nil] at hl
    rw [List.append_nil] at q
    have hS' : mU w T n tk 0 p z (opn W + 1) (25 :: W) Cd := hS
    have hSS := hS'
    obtain ⟨h1, h2, h3, h4, h5, h6, ⟨h7, h8, h9⟩, h10⟩ := hS'
    have e7 : hb_fI w 12 82 0 = nI (W.length + 1) := h7
    refine bk_X12_qGoesOnTest_33 ?_
    by_cases big : W.length < 1600
    · refine om_qIsOn (c := 25) (by decide) hSS (by simp only [List.length_cons]; omega) (fun _ => bk_X12_qGoesOnTest_39 ⟨fun _ => ?_, fun y => absurd y (by decide)⟩) (fun y => absurd rfl y)
      have e83 : hb_fI w 12 83 0 - 1 = nI (opn W) := by rw [h4, nI_pred]
      rw [e83, e7, nI_pred]
      have hag : hm_ag [82, 83] [] w (hb_pI (hb_pI w 12 82 0 (nI W.length)) 12 83 0 (nI (opn W))) := (hm_ag.rf.pI (by decide)).pI (by decide)
      have hS5 : mU (hb_pI (hb_pI w 12 82 0 (nI W.length)) 12 83 0 (nI (opn W))) T n tk 0 p z (opn W) W Cd := ⟨h1.ag hag (by decide) (by decide) (by decide) (by decide) (by decide) (by decide), h2.ag hag (by decide), h3, rfl, h5, Nat.zero_le _, ⟨rfl, h8.2, fun y hy => h9 y (List.mem_cons_of_mem _ hy)⟩, h10⟩
      have hnn := nn_len W
      refine om_dropsNots hS5 (by omega) (fun w2 g1 g2 => bk_X12_qGoesOnTest_73 ?_)
      exact q w2 x2 ((ha.tr (hag.wk (by decide) (by decide))).tr (g2.wk (by decide) (by decide))) g1 (by rw [List.length_append]; omega)
    · exfalso
      omega
  | y :: V, w, Cd, hV, ha, hS, hl, q => by
    have hn := hS.1.le
    simp only [List.length_cons] at hl
    have hll : (y :: V ++ 25 :: W).length = V.length + W.length + 2 := by simp; omega
    have hy := hV y List.mem_cons_self
    refine bk_X12_qGoesOnTest_33 ?_
    have hne : ¬ (y :: V ++ 25 :: W).head? = some 25 := fun u => by
      have : y = 25 := by simpa using u
      omega
    by_cases big : V.length + W.length + 2 ≤ 1600
    · refine om_qIsOn (c := 25) (by decide) hS (by omega) (fun u => absurd u hne) (fun _ => bk_X12_qGoesOnTest_39 ⟨fun u => absurd rfl u, fun _ => ?_⟩)
      refine om_qDrops (x := y) (Wt := V ++ 25 :: W) hS (Nat.zero_le _) (by rw [List.length_append, List.length_cons]; omega) (fun w2 g1 g2 => bk_X12_qGoesOnTest_46 ?_)
      refine tA_33 (V := V) (fun u hu => hV u (List.mem_cons_of_mem _ hu)) (ha.tr (g2.wk (by decide) (by decide))) g1 (by rw [List.length_append, List.length_singleton]; omega) ?_
      have e : Cd ++ [y] ++ V ++ nnC W = Cd ++ (y :: V) ++ nnC W := by simp [List.append_assoc]
      rw [e]
      exact q
    · exfalso
      omega
theorem tA_close {V : List Nat} (hV : ∀ y ∈ V, y < 12) (hs : lx_s T n p 93) (q : tA d Q w0 T n tk s (lx_n T n p) false (nnW W) (Cd ++ V ++ nnC W)) : tA d Q w0 T n tk s p z (V ++ 25 :: W) Cd := by
  intro w x2 ha hS hl
  have hn := hS.1.le
  have hpn : p < n := hs.1
  have hVo : opn (V ++ 25 :: W) = opn W + 1 := by rw [opn_ops hV, opn_in (by decide)]
  have hlen : (V ++ 25 :: W).length = V.length + W.length + 1 := by simp; omega
  have hlt := lx_n_lt hn.1 (show lx_k T n p ≠ 0 by rw [lx_s3 sg93 hs]; decide)
  refine bk_X12_qGoesOnTest_0 ⟨fun y => absurd hS.1.2.2.1 y, fun _ => om_look hS.1 (fun w2 g1 g2 g3 => ?_)⟩
  have hS2 := mU_sign hS g1 g3
  have a2 : hm_ag kS jS w0 w2 := ha.tr (g3.wk (by decide) (by decide))
  rw [if_pos hs.1, hs.2]
  refine bk_X12_qGoesOnTest_11 ⟨fun y => absurd rfl y, fun _ => om_hasSquare hS2 (by omega) (fun _ => bk_X12_qGoesOnTest_20 ⟨fun u => absurd u (by decide), fun _ => ?_⟩) (fun y => absurd (by simp) y)⟩
  have hD := mD_sign sg93 g1 hs
  rw [g2, nI_1]
  have hS3 := mU_sign hS2 hD (hm_ag.rf.pI (by decide))
  rw [hVo] at hS3
  exact tA_33 hV (a2.pI (by decide)) hS3 (by omega) q
/-- facts -/
theorem tE_all (hW : lx_W T n p z wd_all) (q : tA d Q w0 T n tk s (lx_n T n p) (lx_z T n p) (nnW Wt) (Cd ++ [13] ++ nnC Wt)) : tE d Q w0 T n tk s p z Wt Cd := by
  refine tE_fact (fun y => lx_sW sg91 y hW) (fun y => absurd (lx_W_u y hW) (by decide)) (fun w x2 ha hS hl => ?_)
  have hn := hS.1.le
  have hk1 : lx_k T n p = 1 := hW.2.1
  have hpn : p < n := (lx_k_1.mp hk1).1
  have hlt := lx_n_lt hn.1 (show lx_k T n p ≠ 0 by omega)
  refine bk_X12_qFact_0 (om_takes (wd := wd_all) rfl (wd_ok (42, wd_all) (by decide)) (hS.2.1 (42, wd_all) (by decide)) hS.1 (fun _ w3 k1 k3 => bk_X12_qFact_8 ⟨fun y => absurd y (by decide), fun _ => ?_⟩) (fun y => absurd hW y))
  have hS3 := mU_takes hS k1 k3
  refine om_qCode (c := 13) hS3 (by omega) (fun w4 l1 l2 => bk_X12_qFact_17 ?_)
  exact q.k83 ((ha.tr (k3.wk (by decide) (by decide))).tr (l2.wk (by decide) (by decide))) l1 (by rw [List.length_append, List.length_singleton]; omega)
def cmpS (c : Nat) : Nat := if c = 7 then 60 else if c = 8 then 62 else 61
theorem tE_sum1 (hd : hdS Wt) (n91 : ¬ lx_s T n p 91) (nn : ¬ lx_W T n p z wd_not) (na : ¬ lx_W T n p z wd_all) (hG : gS T n tk p z (opn Wt) D1 p1 z1) (hno : noOp T n p1) (q : ∀ w x2, hm_ag kS jS w0 w → mU w T n tk 0 p1 z1 (opn Wt) Wt (Cd ++ D1) → hb_fI w 12 2 0 = nI p1 → (Cd ++ D1).length + Wt.length + s ≤ p1 → hb_R yX12_qFact cX12_qFact 2 none (d + 7) 34 [some (hb_r 12 0 0), none] [hb_i (if p1 < n then nI (T p1) else -1)] w (tK83 d x2 Q)) : tE d Q w0 T n tk s p z Wt Cd := by
  refine tE_fact n91 nn (fun w x2 ha hS hl => ?_)
  refine bk_X12_qFact_0 (om_takes (wd := wd_all) rfl (wd_ok (42, wd_all) (by decide)) (hS.2.1 (42, wd_all) (by decide)) hS.1 (fun y => absurd y na) (fun _ w3 k1 k2 k3 => bk_X12_qFact_8 ⟨fun _ => ?_, fun y => absurd rfl y⟩))
  have hS3 := mU_takes hS k1 k3
  refine om_qSums hS3 hd hl hG hno (fun w4 l1 l2 l3 => bk_X12_qFact_22 ⟨fun _ => om_look l2.1 (fun w5 g1 g2 g3 => ?_), fun y => absurd l2.1.2.2.1 y⟩)
  exact q w5 x2 (((ha.tr (k3.wk (by decide) (by decide))).tr l1).tr (g3.wk (by decide) (by decide))) (mU_sign l2 g1 g3) g2 l3
theorem tE_sumX {k pl : Nat} (hd : hdS Wt) (n91 : ¬ lx_s T n p 91) (nn : ¬ lx_W T n p z wd_not) (na : ¬ lx_W T n p z wd_all) (hk : 0 < k) (hk2 : k < 10) (hG : fS T n tk p z (opn Wt) k pl) (q : pXt Q w0 k pl) : tE d Q w0 T n tk s p z Wt Cd := by
  refine tE_fact n91 nn (fun w x2 ha hS hl => ?_)
  refine bk_X12_qFact_0 (om_takes (wd := wd_all) rfl (wd_ok (42, wd_all) (by decide)) (hS.2.1 (42, wd_all) (by decide)) hS.1 (fun y => absurd y na) (fun _ w3 k1 k2 k3 => bk_X12_qFact_8 ⟨fun _ => ?_, fun y => absurd rfl y⟩))
  have hS3 := mU_takes hS k1 k3
  exact om_qSumsX hS3 hd hl hG (fun w4 l1 l2 => bk_X12_qFact_22 ⟨fun y => absurd y (l2.1.ne hk hk2), fun _ => tX_83 q ((ha.tr (k3.wk (by decide) (by decide))).tr l1) l2.1 hk hk2⟩)
/-- the sign between two sums -/
theorem fc_34 {c : Nat} (hc : c = 7 ∨ c = 8 ∨ c = 9) (hs : lx_s T n p1 (cmpS c)) {w : hb_W} {K : Option hb_V → hb_W → Prop} (h2 : hb_fI w 12 2 0 = nI p1) (q : hb_O yX12_qSums cX12_qSums 3 none (d + 6) [hb_r 12 0 0] (hb_pI w 12 2 0 (nI (p1 + 1))) (fun rv w1 => hb_R yX12_qFact cX12_qFact 2 none (d + 7) 77 [some (hb_r 12 0 0), some (hb_i (nI (cmpS c)))] (rv.toList ++ []) w1 K)) : hb_R yX12_qFact cX12_qFact 2 none (d + 7) 34 [some (hb_r 12 0 0), none] [hb_i (if p1 < n then nI (T p1) else -1)] w K := by
  rw [if_pos hs.1, hs.2]
  refine bk_X12_qFact_34 ?_
  rw [h2, nI_1]
  rcases hc with rfl | rfl | rfl
  · exact ⟨fun _ => q, fun y => absurd rfl y⟩
  · exact ⟨fun y => absurd y (by decide), fun _ => ⟨fun _ => q, fun y => absurd rfl y⟩⟩
  · exact ⟨fun y => absurd y (by decide), fun _ => ⟨fun y => absurd y (by decide), fun _ => ⟨fun _ => q, fun y => absurd rfl y⟩⟩⟩
theorem cmp_sg {c : Nat} : lx_sg (cmpS c) := by
  unfold cmpS
  split
  · exact sg60
  · split
    · exact sg62
    · exact sg61
theorem tE_cmp {c : Nat} (hc : c = 7 ∨ c = 8 ∨ c = 9) (hd : hdS Wt) (n91 : ¬ lx_s T n p 91) (nn : ¬ lx_W T n p z wd_not) (na : ¬ lx_W T n p z wd_all) (hG : gS T n tk p z (opn Wt) D1 p1 z1) (hno : noOp T n p1) (hs : lx_s T n p1 (cmpS c)) (hG2 : gS T n tk (lx_n T n p1) false (opn Wt) D2 p2 z2) (hno2 : noOp T n p2) (q : tA d Q w0 T n tk s p2 z2 (nnW Wt) (Cd ++ (D1 ++ D2 ++ [c]) ++ nnC Wt)) : tE d Q w0 T n tk s p z Wt Cd := by
  refine tE_sum1 hd n91 nn na hG hno (fun w x2 ha hS h2 hl => fc_34 hc hs h2 ?_)
  have hn := hS.1.le
  have hlt := lx_n_lt hn.1 (show lx_k T n p1 ≠ 0 by rw [lx_s3 cmp_sg hs]; decide)
  have hD := mD_sign cmp_sg hS.1 hs
  have hS2 := mU_sign hS hD (hm_ag.rf.pI (by decide))
  refine om_qSums (s := s + 1) hS2 hd (by omega) hG2 hno2 (fun w3 l1 l2 l3 => ?_)
  have hn3 := l2.1.le
  have fin : hb_O yX12_qCode cX12_qCode 2 none (d + 6) [hb_r 12 0 0, hb_i (nI c)] w3 (fun rv w1 => hb_R yX12_qFact cX12_qFact 2 none (d + 7) 105 [some (hb_r 12 0 0), some (hb_i (nI (cmpS c)))] (rv.toList ++ []) w1 (tK83 d x2 Q)) := by
    refine om_qCode (c := c) l2 (by omega) (fun w4 m1 m2 => bk_X12_qFact_105 ?_)
    have e : Cd ++ D1 ++ D2 ++ [c] = Cd ++ (D1 ++ D2 ++ [c]) := by simp [List.append_assoc]
    rw [e] at m1
    refine q.k83 (((ha.pI (by decide)).tr l1).tr (m2.wk (by decide) (by decide))) m1 ?_
    rw [← e, List.length_append, List.length_singleton]
    omega
  refine bk_X12_qFact_77 ?_
  rcases hc with rfl | rfl | rfl
  · exact ⟨fun y => absurd rfl y, fun _ => fin⟩
  · exact ⟨fun _ => ⟨fun y => absurd rfl y, fun _ => fin⟩, fun y => absurd y (by decide)⟩
  · exact ⟨fun _ => ⟨fun _ => fin, fun y => absurd y (by decide)⟩, fun y => absurd y (by decide)⟩
theorem tE_cmpX {c k pl : Nat} (hc : c = 7 ∨ c = 8 ∨ c = 9) (hd : hdS Wt) (n91 : ¬ lx_s T n p 91) (nn : ¬ lx_W T n p z wd_not) (na : ¬ lx_W T n p z wd_all) (hG : gS T n tk p z (opn Wt) D1 p1 z1) (hno : noOp T n p1) (hs : lx_s T n p1 (cmpS c)) (hk : 0 < k) (hk2 : k < 10) (hG2 : fS T n tk (lx_n T n p1) false (opn Wt) k pl) (q : pXt Q w0 k pl) : tE d Q w0 T n tk s p z Wt Cd := by
  refine tE_sum1 hd n91 nn na hG hno (fun w x2 ha hS h2 hl => fc_34 hc hs h2 ?_)
  have hn := hS.1.le
  have hlt := lx_n_lt hn.1 (show lx_k T n p1 ≠ 0 by rw [lx_s3 cmp_sg hs]; decide)
  have hD := mD_sign cmp_sg hS.1 hs
  have hS2 := mU_sign hS hD (hm_ag.rf.pI (by decide))
  refine om_qSumsX (s := s + 1) hS2 hd (by omega) hG2 (fun w3 l1 l2 => ?_)
  have a2 : hm_ag kS jS w0 (hb_pI w 12 2 0 (nI (p1 + 1))) := ha.pI (by decide)
  obtain ⟨m, m1, m2⟩ := l2.2
  have fin : ∀ (x : Int32), hb_O yX12_qCode cX12_qCode 2 none (d + 6) [hb_r 12 0 0, hb_i x] w3 (fun rv w1 => hb_R yX12_qFact cX12_qFact 2 none (d + 7) 105 [some (hb_r 12 0 0), some (hb_i (nI (cmpS c)))] (rv.toList ++ []) w1 (tK83 d x2 Q)) := by
    intro x
    refine om_qCodeX m2 (by omega) (fun w4 r1 r2 => bk_X12_qFact_105 ?_)
    have hx4 : mX w4 k pl := ⟨by rw [r1.I 5]; exact l2.1.1, by rw [r1.I 6]; exact l2.1.2⟩
    exact tX_83 q ((a2.tr l1).tr (r1.wk (by decide) (by decide))) hx4 hk hk2
  refine bk_X12_qFact_77 ?_
  rcases hc with rfl | rfl | rfl
  · exact ⟨fun y => absurd rfl y, fun _ => fin _⟩
  · exact ⟨fun _ => ⟨fun y => absurd rfl y, fun _ => fin _⟩, fun y => absurd y (by decide)⟩
  · exact ⟨fun _ => ⟨fun _ => fin _, fun y => absurd y (by decide)⟩, fun y => absurd y (by decide)⟩
end HMW
