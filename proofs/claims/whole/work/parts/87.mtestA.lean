/-! ===== the model: tests, expecting a fact and behind one ===== -/
def tK98 (d : Nat) (x2 : Int32) (Q : Option hb_V → hb_W → Prop) : Option hb_V → hb_W → Prop := fun rv w1 => hb_R yX12_qTest cX12_qTest 3 none (d + 8) 98 [some (hb_r 12 0 0), some (hb_i 1), some (hb_i x2)] (rv.toList ++ []) w1 Q
def tK83 (d : Nat) (x2 : Int32) (Q : Option hb_V → hb_W → Prop) : Option hb_V → hb_W → Prop := fun rv w1 => hb_R yX12_qTest cX12_qTest 3 none (d + 8) 83 [some (hb_r 12 0 0), some (hb_i 1), some (hb_i x2)] (rv.toList ++ []) w1 Q
def tE (d : Nat) (Q : Option hb_V → hb_W → Prop) (w0 : hb_W) (T : Nat → Nat) (n tk s p : Nat) (z : Bool) (Wt Cd : List Nat) : Prop := ∀ w, hm_ag kS jS w0 w → mU w T n tk 0 p z (opn Wt) Wt Cd → Cd.length + Wt.length + s ≤ p → hb_R yX12_qTest cX12_qTest 3 none (d + 8) 2 [some (hb_r 12 0 0), some (hb_i 1), none] [] w Q
def tA (d : Nat) (Q : Option hb_V → hb_W → Prop) (w0 : hb_W) (T : Nat → Nat) (n tk s p : Nat) (z : Bool) (Wt Cd : List Nat) : Prop := ∀ w x2, hm_ag kS jS w0 w → mU w T n tk 0 p z (opn Wt) Wt Cd → Cd.length + Wt.length + s ≤ p → hb_O yX12_qGoesOnTest cX12_qGoesOnTest 1 (some .boolean) (d + 7) [hb_r 12 0 0] w (tK98 d x2 Q)
def tD (Q : Option hb_V → hb_W → Prop) (w0 : hb_W) (T : Nat → Nat) (n tk s p : Nat) (z : Bool) (Cd : List Nat) : Prop := ∀ w, hm_ag kS jS w0 w → mU w T n tk 0 p z 0 [] Cd → Cd.length + s ≤ p → Q none w
def pXt (Q : Option hb_V → hb_W → Prop) (w0 : hb_W) (k pl : Nat) : Prop := ∀ w, hm_ag kS jS w0 w → mX w k pl → Q none w
theorem sg91 : lx_sg 91 := by unfold lx_sg; decide
theorem sg93 : lx_sg 93 := by unfold lx_sg; decide
theorem sg60 : lx_sg 60 := by unfold lx_sg; decide
theorem sg61 : lx_sg 61 := by unfold lx_sg; decide
theorem sg62 : lx_sg 62 := by unfold lx_sg; decide
section HMV
variable {d : Nat} {Q : Option hb_V → hb_W → Prop} {w0 w : hb_W} {T : Nat → Nat} {n tk s p : Nat} {z : Bool} {Wt W Cd : List Nat} {x2 : Int32}
theorem ne_sg {c : Nat} {x : Int32} (hx : x = nI c) (hc : c < 256) (hT : ∀ k, k < n → T k < 256) (hs : ¬ lx_s T n p c) : ¬ (if p < n then nI (T p) else -1) = x := by
  by_cases y : p < n
  · rw [if_pos y, hx, nI_eq (by have := hT p y; omega) (by omega)]
    exact fun u => hs ⟨y, u⟩
  · rw [if_neg y, hx]
    exact fun u => hx_ne (by omega) u.symm
theorem tX_110 {k pl : Nat} {x1 : Int32} (h : pXt Q w0 k pl) (ha : hm_ag kS jS w0 w) (hx : mX w k pl) (hk : 0 < k) (hk2 : k < 10) : hb_R yX12_qTest cX12_qTest 3 none (d + 8) 110 [some (hb_r 12 0 0), some (hb_i x1), none] [] w Q := bk_X12_qTest_110 ⟨fun _ => h w ha hx, fun y => absurd y (hx.ne hk hk2)⟩
theorem tX_2 {k pl : Nat} {x1 : Int32} {y : Option hb_V} (h : pXt Q w0 k pl) (ha : hm_ag kS jS w0 w) (hx : mX w k pl) (hk : 0 < k) (hk2 : k < 10) : hb_R yX12_qTest cX12_qTest 3 none (d + 8) 2 [some (hb_r 12 0 0), some (hb_i x1), y] [] w Q := hx_at 2 (bk_X12_qTest_2 ⟨fun _ => tX_110 h ha hx hk hk2, fun _ => ⟨fun _ => tX_110 h ha hx hk hk2, fun y => absurd y (hx.ne hk hk2)⟩⟩)
theorem tX_98 {k pl : Nat} (h : pXt Q w0 k pl) (ha : hm_ag kS jS w0 w) (hx : mX w k pl) (hk : 0 < k) (hk2 : k < 10) : tK98 d x2 Q (some (hb_i 0)) w := bk_X12_qTest_98 ⟨fun _ => tX_2 h ha hx hk hk2, fun y => absurd rfl y⟩
theorem tX_83 {k pl : Nat} (h : pXt Q w0 k pl) (ha : hm_ag kS jS w0 w) (hx : mX w k pl) (hk : 0 < k) (hk2 : k < 10) : tK83 d x2 Q none w := bk_X12_qTest_83 (bk_X12_qDropsNots_0 ⟨fun _ => bk_X12_qTest_87 ⟨fun _ => tX_2 h ha hx hk hk2, fun y => absurd y (hx.ne hk hk2)⟩, fun y => absurd y (hx.ne hk hk2)⟩)
theorem tA.k83 (h : tA d Q w0 T n tk s p z (nnW Wt) (Cd ++ nnC Wt)) (ha : hm_ag kS jS w0 w) (hS : mU w T n tk 0 p z (opn Wt) Wt Cd) (hl : Cd.length + Wt.length + s ≤ p) : tK83 d x2 Q none w := by
  have hn := hS.1.le
  have hnn := nn_len Wt
  refine bk_X12_qTest_83 (om_dropsNots hS (by omega) (fun w2 g1 g2 => bk_X12_qTest_87 ⟨fun y => absurd g1.1.2.2.1 y, fun _ => h w2 x2 (ha.tr (g2.wk (by decide) (by decide))) g1 ?_⟩))
  rw [List.length_append]
  omega
theorem tE.k98 (h : tE d Q w0 T n tk s p z Wt Cd) (ha : hm_ag kS jS w0 w) (hS : mU w T n tk 0 p z (opn Wt) Wt Cd) (hl : Cd.length + Wt.length + s ≤ p) : tK98 d x2 Q (some (hb_i 1)) w := bk_X12_qTest_98 ⟨fun y => absurd y (by decide), fun _ => hx_at 2 (h w ha hS hl)⟩
/-- a square bracket opens -/
theorem tE_square (ho : opn Wt ≤ 6) (hs : lx_s T n p 91) (qX : opn Wt = 6 → pXt Q w0 4 p) (qG : opn Wt < 6 → tE d Q w0 T n tk s (lx_n T n p) false (25 :: Wt) Cd) : tE d Q w0 T n tk s p z Wt Cd := by
  intro w ha hS hl
  have hn := hS.1.le
  have hpn : p < n := hs.1
  refine bk_X12_qTest_2 ⟨fun y => absurd y (by decide), fun _ => ⟨fun y => absurd hS.1.2.2.1 y, fun _ => om_look hS.1 (fun w2 g1 g2 g3 => ?_)⟩⟩
  have hS2 := mU_sign hS g1 g3
  rw [if_pos hs.1, hs.2]
  refine bk_X12_qTest_17 ⟨fun y => absurd rfl y, fun _ => ?_⟩
  rw [g2]
  refine om_qOpens (x := 25) (by decide) (by omega) ho hS2 (fun h6 w3 k1 k2 => bk_X12_qTest_34 ?_) (fun h6 w3 k1 k2 => bk_X12_qTest_34 ?_)
  · have e2 : hb_fI w3 12 2 0 + 1 = nI (p + 1) := by rw [k2.I 2, g2, nI_1]
    rw [e2]
    have hD := mD_sign sg91 k1.1 hs
    have hlt := lx_n_lt hn.1 (by rw [lx_s3 sg91 hs]; decide)
    refine hx_at 2 (qG h6 _ (((ha.tr (g3.wk (by decide) (by decide))).tr (k2.wk (by decide) (by decide))).pI (by decide)) ?_ ?_)
    · rw [opn_in (by decide)]
      exact k1.lex hD (hm_ag.rf.pI (K := [2]) (by decide)) (by decide) (by decide) (by decide) (by decide) (by decide)
    · simp only [List.length_cons]; omega
  · exact tX_2 (qX h6) (((ha.tr (g3.wk (by decide) (by decide))).tr (k2.wk (by decide) (by decide))).pI (by decide)) (show mX (hb_pI w3 12 2 0 (hb_fI w3 12 2 0 + 1)) 4 p from k1) (by decide) (by decide)
/-- not -/
theorem tE_not (ho : opn Wt ≤ 6) (hW : lx_W T n p z wd_not) (qX : opn Wt = 6 → pXt Q w0 4 p) (qG : opn Wt < 6 → tE d Q w0 T n tk s (lx_n T n p) (lx_z T n p) (12 :: Wt) Cd) : tE d Q w0 T n tk s p z Wt Cd := by
  intro w ha hS hl
  have hn := hS.1.le
  have hk1 : lx_k T n p = 1 := hW.2.1
  have hpn : p < n := (lx_k_1.mp hk1).1
  have hlt := lx_n_lt hn.1 (show lx_k T n p ≠ 0 by omega)
  have hT : ∀ k, k < n → T k < 256 := fun k hk => (hS.1.1.2 k hk).2
  refine bk_X12_qTest_2 ⟨fun y => absurd y (by decide), fun _ => ⟨fun y => absurd hS.1.2.2.1 y, fun _ => om_look hS.1 (fun w2 g1 g2 g3 => ?_)⟩⟩
  have hS2 := mU_sign hS g1 g3
  refine bk_X12_qTest_17 ⟨fun _ => ?_, fun y => absurd y (ne_sg (c := 91) rfl (by decide) hT (fun y => lx_sW sg91 y hW))⟩
  refine om_hereV (wd := wd_not) (by decide) rfl hS2 (fun _ w3 k1 k2 k3 => bk_X12_qTest_55 ⟨fun y => absurd y (by decide), fun _ => ?_⟩) (fun y => absurd hW y)
  rw [k2]
  have a3 : hm_ag kS jS w0 w3 := (ha.tr (g3.wk (by decide) (by decide))).tr (k3.wk (by decide) (by decide))
  refine om_qOpens (x := 12) (by decide) (by omega) ho k1 (fun h6 w4 l1 l2 => bk_X12_qTest_68 ?_) (fun h6 w4 l1 l2 => bk_X12_qTest_68 ?_)
  · refine om_asksV (wd := wd_not) (by decide) rfl hW l1 (fun w5 m1 m2 => bk_X12_qTest_76 (hx_at 2 (qG h6 w5 ((a3.tr (l2.wk (by decide) (by decide))).tr (m2.wk (by decide) (by decide))) ?_ ?_)))
    · rw [opn_in (by decide)]; exact m1
    · simp only [List.length_cons]; omega
  · exact om_asksX rfl (l1.ne (by decide) (by decide)) (bk_X12_qTest_76 (tX_2 (qX h6) (a3.tr (l2.wk (by decide) (by decide))) l1 (by decide) (by decide)))
/-- neither -/
theorem tE_fact (n91 : ¬ lx_s T n p 91) (nn : ¬ lx_W T n p z wd_not) (q : ∀ w x2, hm_ag kS jS w0 w → mU w T n tk 0 p z (opn Wt) Wt Cd → Cd.length + Wt.length + s ≤ p → hb_O yX12_qFact cX12_qFact 2 none (d + 7) [hb_r 12 0 0] w (tK83 d x2 Q)) : tE d Q w0 T n tk s p z Wt Cd := by
  intro w ha hS hl
  have hT : ∀ k, k < n → T k < 256 := fun k hk => (hS.1.1.2 k hk).2
  refine bk_X12_qTest_2 ⟨fun y => absurd y (by decide), fun _ => ⟨fun y => absurd hS.1.2.2.1 y, fun _ => om_look hS.1 (fun w2 g1 g2 g3 => ?_)⟩⟩
  have hS2 := mU_sign hS g1 g3
  refine bk_X12_qTest_17 ⟨fun _ => ?_, fun y => absurd y (ne_sg (c := 91) rfl (by decide) hT n91)⟩
  refine om_hereV (wd := wd_not) (by decide) rfl hS2 (fun y => absurd y nn) (fun _ w3 k1 k2 k3 => bk_X12_qTest_55 ⟨fun _ => ?_, fun y => absurd rfl y⟩)
  exact q w3 _ ((ha.tr (g3.wk (by decide) (by decide))).tr (k3.wk (by decide) (by decide))) k1 hl
theorem mU_takes {w w2 : hb_W} {p2 o b : Nat} {z2 : Bool} (h : mU w T n tk b p z o Wt Cd) (hD : mD w2 T n p2 z2) (ha : hm_ag [2, 4] [] w w2) : mU w2 T n tk b p2 z2 o Wt Cd := h.lex hD ha (by decide) (by decide) (by decide) (by decide) (by decide)
/-- up to where and, or are looked for -/
theorem tA_mid (hS : mU w T n tk 0 p z (opn Wt) Wt Cd) (hl : Wt.length ≤ 1600) (hc : ¬ lx_s T n p 93 ∨ ¬ 25 ∈ Wt) (q : ∀ w2, mU w2 T n tk 0 p z (opn Wt) Wt Cd → hm_ag [2] [] w w2 → hb_O yX12_takes cX12_takes 2 (some .boolean) (d + 6) [hb_r 12 0 0, hb_r 12 0 40] w2 (fun rv w1 => hb_R yX12_qGoesOnTest cX12_qGoesOnTest 1 (some .boolean) (d + 7) 84 [some (hb_r 12 0 0)] (rv.toList ++ []) w1 (tK98 d x2 Q))) : hb_O yX12_qGoesOnTest cX12_qGoesOnTest 1 (some .boolean) (d + 7) [hb_r 12 0 0] w (tK98 d x2 Q) := by
  have hT : ∀ k, k < n → T k < 256 := fun k hk => (hS.1.1.2 k hk).2
  refine bk_X12_qGoesOnTest_0 ⟨fun y => absurd hS.1.2.2.1 y, fun _ => om_look hS.1 (fun w2 g1 g2 g3 => ?_)⟩
  have hS2 := mU_sign hS g1 g3
  by_cases e : lx_s T n p 93
  · rw [if_pos e.1, e.2]
    refine bk_X12_qGoesOnTest_11 ⟨fun y => absurd rfl y, fun _ => om_hasSquare hS2 hl (fun y => ?_) (fun y => bk_X12_qGoesOnTest_20 ⟨fun _ => q w2 hS2 g3, fun u => absurd rfl u⟩)⟩
    rcases hc with h | h
    · exact absurd e h
    · exact absurd y h
  · exact bk_X12_qGoesOnTest_11 ⟨fun _ => q w2 hS2 g3, fun y => absurd y (ne_sg (c := 93) rfl (by decide) hT e)⟩
theorem tA_87 {o : Nat} (hh : ¬ W.head? = some 10) (ho : o = opn W) : ∀ {V : List Nat} {w : hb_W} {Cd : List Nat}, (∀ y ∈ V, y = 10) → hm_ag kS jS w0 w → mU w T n tk 0 p z o (V ++ W) Cd → Cd.length + V.length + W.length + s + 1 ≤ p → tE d Q w0 T n tk s p z (10 :: W) (Cd ++ V) → hb_R yX12_qGoesOnTest cX12_qGoesOnTest 1 (some .boolean) (d + 7) 87 [some (hb_r 12 0 0)] [] w (tK98 d x2 Q)
  | [], w, Cd, hV, ha, hS, hl, q => by
    have hn := hS.1.le
    simp only [List.length_nil] at hl
    have hS' : mU w T n tk 0 p z o W Cd := hS
    refine bk_X12_qGoesOnTest_87 (om_qIsOn (c := 10) (by decide) hS' (by omega) (fun y => absurd y hh) (fun _ => bk_X12_qGoesOnTest_93 ⟨fun _ => ?_, fun y => absurd rfl y⟩))
    have e7 : hb_fI w 12 82 0 = nI W.length := hS'.2.2.2.2.2.2.1.1
    rw [e7, nI_clamp (by omega), nI_1]
    refine ⟨vp_in_nI (by omega) (by decide), ?_⟩
    rw [List.append_nil] at q
    refine q.k98 ((ha.sI (by decide)).pI (by decide)) ?_ (by simp only [List.length_cons]; omega)
    rw [opn_op (by omega), ← ho]
    exact mU_push (x := 10) (by omega) hS'
  | y :: V, w, Cd, hV, ha, hS, hl, q => by
    have hn := hS.1.le
    simp only [List.length_cons] at hl
    have hll : (y :: V ++ W).length = V.length + W.length + 1 := by simp
    have hy := hV y List.mem_cons_self
    refine bk_X12_qGoesOnTest_87 (om_qIsOn (c := 10) (by decide) hS (by omega) (fun _ => bk_X12_qGoesOnTest_93 ⟨fun u => absurd u (by decide), fun _ => ?_⟩) (fun u => absurd (by rw [hy]; rfl) u))
    refine om_qDrops (x := y) (Wt := V ++ W) hS (Nat.zero_le _) (by rw [List.length_append]; omega) (fun w2 g1 g2 => bk_X12_qGoesOnTest_100 ?_)
    refine tA_87 hh ho (V := V) (fun u hu => hV u (List.mem_cons_of_mem _ hu)) (ha.tr (g2.wk (by decide) (by decide))) g1 (by rw [List.length_append, List.length_singleton]; omega) ?_
    rw [List.append_assoc]
    exact q
theorem tA_137 {o : Nat} (hh : ¬ W.head? = some 10 ∧ ¬ W.head? = some 11) (ho : o = opn W) : ∀ {V : List Nat} {w : hb_W} {Cd : List Nat}, (∀ y ∈ V, y = 10 ∨ y = 11) → hm_ag kS jS w0 w → mU w T n tk 0 p z o (V ++ W) Cd → Cd.length + V.length + W.length + s + 1 ≤ p → tE d Q w0 T n tk s p z (11 :: W) (Cd ++ V) → hb_R yX12_qGoesOnTest cX12_qGoesOnTest 1 (some .boolean) (d + 7) 137 [some (hb_r 12 0 0)] [] w (tK98 d x2 Q)
  | [], w, Cd, hV, ha, hS, hl, q => by
    have hn := hS.1.le
    simp only [List.length_nil] at hl
    have hS' : mU w T n tk 0 p z o W Cd := hS
    refine bk_X12_qGoesOnTest_137 (om_qIsOn (c := 10) (by decide) hS' (by omega) (fun y => absurd y hh.1) (fun _ => bk_X12_qGoesOnTest_143 ⟨fun y => absurd rfl y, fun _ => om_qIsOn (c := 11) (by decide) hS' (by omega) (fun y => absurd y hh.2) (fun _ => bk_X12_qGoesOnTest_152 ⟨fun _ => ?_, fun y => absurd rfl y⟩)⟩))
    have e7 : hb_fI w 12 82 0 = nI W.length := hS'.2.2.2.2.2.2.1.1
    rw [e7, nI_clamp (by omega), nI_1]
    refine ⟨vp_in_nI (by omega) (by decide), ?_⟩
    rw [List.append_nil] at q
    refine q.k98 ((ha.sI (by decide)).pI (by decide)) ?_ (by simp only [List.length_cons]; omega)
    rw [opn_op (by omega), ← ho]
    exact mU_push (x := 11) (by omega) hS'
  | y :: V, w, Cd, hV, ha, hS, hl, q => by
    have hn := hS.1.le
    simp only [List.length_cons] at hl
    have hll : (y :: V ++ W).length = V.length + W.length + 1 := by simp
    have hy := hV y List.mem_cons_self
    have drop : hb_O yX12_qDrops cX12_qDrops 1 none (d + 6) [hb_r 12 0 0] w (fun rv w1 => hb_R yX12_qGoesOnTest cX12_qGoesOnTest 1 (some .boolean) (d + 7) 159 [some (hb_r 12 0 0)] (rv.toList ++ []) w1 (tK98 d x2 Q)) := by
      refine om_qDrops (x := y) (Wt := V ++ W) hS (Nat.zero_le _) (by rw [List.length_append]; omega) (fun w2 g1 g2 => bk_X12_qGoesOnTest_159 ?_)
      refine tA_137 hh ho (V := V) (fun u hu => hV u (List.mem_cons_of_mem _ hu)) (ha.tr (g2.wk (by decide) (by decide))) g1 (by rw [List.length_append, List.length_singleton]; omega) ?_
      rw [List.append_assoc]
      exact q
    refine bk_X12_qGoesOnTest_137 (om_qIsOn (c := 10) (by decide) hS (by omega) (fun _ => bk_X12_qGoesOnTest_143 ⟨fun _ => drop, fun u => absurd u (by decide)⟩) (fun u => bk_X12_qGoesOnTest_143 ⟨fun v => absurd rfl v, fun _ => om_qIsOn (c := 11) (by decide) hS (by omega) (fun _ => bk_X12_qGoesOnTest_152 ⟨fun v => absurd v (by decide), fun _ => drop⟩) (fun v => ?_)⟩))
    exfalso
    rcases hy with e | e
    · exact u (by rw [e]; rfl)
    · exact v (by rw [e]; rfl)
theorem tA_and {V : List Nat} (hV : ∀ y ∈ V, y = 10) (hh : ¬ W.head? = some 10) (hW : lx_W T n p z wd_and) (q : tE d Q w0 T n tk s (lx_n T n p) (lx_z T n p) (10 :: W) (Cd ++ V)) : tA d Q w0 T n tk s p z (V ++ W) Cd := by
  intro w x2 ha hS hl
  have hn := hS.1.le
  have hVo : opn (V ++ W) = opn W := opn_ops (fun y hy => by have := hV y hy; omega)
  have hlen : (V ++ W).length = V.length + W.length := List.length_append
  have hlt := lx_n_lt hn.1 (show lx_k T n p ≠ 0 by rw [hW.2.1]; decide)
  refine tA_mid hS (by omega) (Or.inl (fun y => lx_sW sg93 y hW)) (fun w2 g1 g2 => ?_)
  have a2 : hm_ag kS jS w0 w2 := ha.tr (g2.wk (by decide) (by decide))
  refine om_takes (wd := wd_and) rfl (wd_ok (40, wd_and) (by decide)) (g1.2.1 (40, wd_and) (by decide)) g1.1 (fun _ w3 k1 k3 => bk_X12_qGoesOnTest_84 ⟨fun y => absurd y (by decide), fun _ => ?_⟩) (fun y => absurd hW y)
  rw [hVo] at g1
  exact tA_87 hh rfl hV (a2.tr (k3.wk (by decide) (by decide))) (mU_takes g1 k1 k3) (by omega) q
theorem tA_or {V : List Nat} (hV : ∀ y ∈ V, y = 10 ∨ y = 11) (hh : ¬ W.head? = some 10 ∧ ¬ W.head? = some 11) (hW : lx_W T n p z wd_or) (q : tE d Q w0 T n tk s (lx_n T n p) (lx_z T n p) (11 :: W) (Cd ++ V)) : tA d Q w0 T n tk s p z (V ++ W) Cd := by
  intro w x2 ha hS hl
  have hn := hS.1.le
  have hVo : opn (V ++ W) = opn W := opn_ops (fun y hy => by have := hV y hy; omega)
  have hlen : (V ++ W).length = V.length + W.length := List.length_append
  have hlt := lx_n_lt hn.1 (show lx_k T n p ≠ 0 by rw [hW.2.1]; decide)
  refine tA_mid hS (by omega) (Or.inl (fun y => lx_sW sg93 y hW)) (fun w2 g1 g2 => ?_)
  have a2 : hm_ag kS jS w0 w2 := ha.tr (g2.wk (by decide) (by decide))
  refine om_takes (wd := wd_and) rfl (wd_ok (40, wd_and) (by decide)) (g1.2.1 (40, wd_and) (by decide)) g1.1 (fun y => absurd (lx_W_u y hW) (by decide)) (fun _ w3 k1 k2 k3 => bk_X12_qGoesOnTest_84 ⟨fun _ => ?_, fun y => absurd rfl y⟩)
  have hS3 := mU_takes g1 k1 k3
  refine om_takes (wd := wd_or) rfl (wd_ok (41, wd_or) (by decide)) (hS3.2.1 (41, wd_or) (by decide)) hS3.1 (fun _ w4 l1 l3 => bk_X12_qGoesOnTest_134 ⟨fun y => absurd y (by decide), fun _ => ?_⟩) (fun y => absurd hW y)
  rw [hVo] at hS3
  exact tA_137 hh rfl hV ((a2.tr (k3.wk (by decide) (by decide))).tr (l3.wk (by decide) (by decide))) (mU_takes hS3 l1 l3) (by omega) q
/-- neither and nor or -/
theorem tA_no (hS : mU w T n tk 0 p z (opn Wt) Wt Cd) (hl : Wt.length ≤ 1600) (hc : ¬ lx_s T n p 93 ∨ ¬ 25 ∈ Wt) (na : ¬ lx_W T n p z wd_and) (no : ¬ lx_W T n p z wd_or) (q : ∀ w2, mU w2 T n tk 0 p z (opn Wt) Wt Cd → hb_fI w2 12 2 0 = nI p → hm_ag [2, 4] [] w w2 → hb_O yX12_qHasSquare cX12_qHasSquare 2 (some .boolean) (d + 6) [hb_r 12 0 0] w2 (fun rv w1 => hb_R yX12_qGoesOnTest cX12_qGoesOnTest 1 (some .boolean) (d + 7) 196 [some (hb_r 12 0 0)] (rv.toList ++ []) w1 (tK98 d x2 Q))) : hb_O yX12_qGoesOnTest cX12_qGoesOnTest 1 (some .boolean) (d + 7) [hb_r 12 0 0] w (tK98 d x2 Q) := by
  refine tA_mid hS hl hc (fun w2 g1 g2 => ?_)
  refine om_takes (wd := wd_and) rfl (wd_ok (40, wd_and) (by decide)) (g1.2.1 (40, wd_and) (by decide)) g1.1 (fun y => absurd y na) (fun _ w3 k1 k2 k3 => bk_X12_qGoesOnTest_84 ⟨fun _ => ?_, fun y => absurd rfl y⟩)
  have hS3 := mU_takes g1 k1 k3
  refine om_takes (wd := wd_or) rfl (wd_ok (41, wd_or) (by decide)) (hS3.2.1 (41, wd_or) (by decide)) hS3.1 (fun y => absurd y no) (fun _ w4 l1 l2 l3 => bk_X12_qGoesOnTest_134 ⟨fun _ => ⟨fun y => absurd l1.2.2.1 y, fun _ => ?_⟩, fun y => absurd rfl y⟩)
  exact q w4 (mU_takes hS3 l1 l3) l2 ((g2.wk (by decide) (by decide)).tr (k3.tr l3))
theorem tA_bad (h25 : 25 ∈ Wt) (n93 : ¬ lx_s T n p 93) (na : ¬ lx_W T n p z wd_and) (no : ¬ lx_W T n p z wd_or) (q : pXt Q w0 1 p) : tA d Q w0 T n tk s p z Wt Cd := by
  intro w x2 ha hS hl
  have hn := hS.1.le
  refine tA_no hS (by omega) (Or.inl n93) na no (fun w2 g1 g2 g3 => om_hasSquare g1 (by omega) (fun _ => bk_X12_qGoesOnTest_196 ⟨fun y => absurd y (by decide), fun _ => ?_⟩) (fun y => absurd h25 y))
  rw [g2]
  exact om_fail (k := 1) g1.1.2.2.1 (fun w3 k1 k2 => bk_X12_qGoesOnTest_208 (tX_98 q ((ha.tr (g3.wk (by decide) (by decide))).tr (k2.wk (by decide) (by decide))) k1 (by decide) (by decide)))
theorem tD_110 {x1 : Int32} : ∀ {V : List Nat} {w : hb_W} {Cd : List Nat}, (∀ y ∈ V, y < 12) → hm_ag kS jS w0 w → mU w T n tk 0 p z 0 V Cd → Cd.length + V.length + s ≤ p → tD Q w0 T n tk s p z (Cd ++ V) → hb_R yX12_qTest cX12_qTest 3 none (d + 8) 110 [some (hb_r 12 0 0), some (hb_i x1), none] [] w Q
  | [], w, Cd, hV, ha, hS, hl, q => by
    have e7 : hb_fI w 12 82 0 = 0 := hS.2.2.2.2.2.2.1.1
    refine bk_X12_qTest_110 ⟨fun y => absurd hS.1.2.2.1 y, fun _ => ?_⟩
    rw [e7]
    rw [List.append_nil] at q
    exact ⟨fun _ => q w ha hS hl, fun y => absurd (by decide) y⟩
  | y :: V, w, Cd, hV, ha, hS, hl, q => by
    have hn := hS.1.le
    simp only [List.length_cons] at hl
    have e7 : hb_fI w 12 82 0 = nI (V.length + 1) := hS.2.2.2.2.2.2.1.1
    refine bk_X12_qTest_110 ⟨fun y => absurd hS.1.2.2.1 y, fun _ => ?_⟩
    rw [e7, show (0 : Int32) = nI 0 from rfl, nI_leI (by omega) (by omega)]
    refine ⟨fun u => absurd u (by omega), fun _ => ?_⟩
    refine om_qDrops (x := y) (Wt := V) hS (Nat.zero_le _) (by omega) (fun w2 g1 g2 => bk_X12_qTest_128 ?_)
    refine tD_110 (V := V) (fun u hu => hV u (List.mem_cons_of_mem _ hu)) (ha.tr (g2.wk (by decide) (by decide))) g1 (by rw [List.length_append, List.length_singleton]; omega) ?_
    rw [List.append_assoc]
    exact q
theorem tA_done {V : List Nat} (hV : ∀ y ∈ V, y < 12) (na : ¬ lx_W T n p z wd_and) (no : ¬ lx_W T n p z wd_or) (q : tD Q w0 T n tk s p z (Cd ++ V)) : tA d Q w0 T n tk s p z V Cd := by
  intro w x2 ha hS hl
  have hn := hS.1.le
  have h25 : ¬ 25 ∈ V := fun u => by have := hV 25 u; omega
  have hVo : opn V = 0 := by
    have := opn_ops (W := []) hV
    rw [List.append_nil] at this
    exact this
  refine tA_no hS (by omega) (Or.inr h25) na no (fun w2 g1 g2 g3 => om_hasSquare g1 (by omega) (fun y => absurd y h25) (fun _ => bk_X12_qGoesOnTest_196 ⟨fun _ => bk_X12_qGoesOnTest_208 ?_, fun y => absurd rfl y⟩))
  rw [hVo] at g1
  exact bk_X12_qTest_98 ⟨fun _ => hx_at 2 (bk_X12_qTest_2 ⟨fun _ => tD_110 hV (ha.tr (g3.wk (by decide) (by decide))) g1 hl q, fun y => absurd rfl y⟩), fun y => absurd rfl y⟩
end HMV
