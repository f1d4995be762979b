/-! ===== the model's sums: behind a part ===== -/
theorem brk_in {b x : Nat} {W : List Nat} (hb : b ≤ W.length) (hx : 20 ≤ x ∧ x ≤ 24) : ∀ {V : List Nat}, (∀ y ∈ V, y < 12) → brk b (V ++ x :: W) = some x
  | [], _ => by
    show (if b ≤ W.length then (if 20 ≤ x ∧ x ≤ 24 then some x else brk b W) else none) = some x
    rw [if_pos hb, if_pos hx]
  | y :: V, h => by
    have hy := h y List.mem_cons_self
    have hl : (V ++ x :: W).length = V.length + (W.length + 1) := by rw [List.length_append, List.length_cons]
    show (if b ≤ (V ++ x :: W).length then (if 20 ≤ y ∧ y ≤ 24 then some y else brk b (V ++ x :: W)) else none) = some x
    rw [if_pos (by omega), if_neg (by omega), brk_in hb hx (fun u hu => h u (List.mem_cons_of_mem _ hu))]
theorem brk_no {b : Nat} {W : List Nat} (hb : W.length = b) : ∀ {V : List Nat}, (∀ y ∈ V, y < 12) → brk b (V ++ W) = none
  | [], _ => by
    cases W with
    | nil => rfl
    | cons y W =>
      show (if b ≤ W.length then (if 20 ≤ y ∧ y ≤ 24 then some y else brk b W) else none) = none
      rw [if_neg (by simp only [List.length_cons] at hb; omega)]
  | y :: V, h => by
    have hy := h y List.mem_cons_self
    show (if b ≤ (V ++ W).length then (if 20 ≤ y ∧ y ≤ 24 then some y else brk b (V ++ W)) else none) = none
    by_cases e : b ≤ (V ++ W).length
    · rw [if_pos e, if_neg (by omega), brk_no hb (fun u hu => h u (List.mem_cons_of_mem _ hu))]
    · rw [if_neg e]
/-- neither '*' nor '/' nor '+' nor '-' -/
def noOp (T : Nat → Nat) (n p : Nat) : Prop := ¬ lx_s T n p 42 ∧ ¬ lx_s T n p 47 ∧ ¬ lx_s T n p 43 ∧ ¬ lx_s T n p 45
def pD (Q : Option hb_V → hb_W → Prop) (w0 : hb_W) (T : Nat → Nat) (n tk b x s p : Nat) (z : Bool) (W Cd : List Nat) : Prop := ∀ w, hm_ag kS jS w0 w → mU w T n tk x p z (opn W) W Cd → Cd.length + W.length + s ≤ p → Q none w
theorem sg41 : lx_sg 41 := by unfold lx_sg; decide
theorem sg42 : lx_sg 42 := by unfold lx_sg; decide
theorem sg43 : lx_sg 43 := by unfold lx_sg; decide
theorem sg44 : lx_sg 44 := by unfold lx_sg; decide
theorem sg45 : lx_sg 45 := by unfold lx_sg; decide
theorem sg47 : lx_sg 47 := by unfold lx_sg; decide
theorem lx_s_u {T : Nat → Nat} {n p a c : Nat} (h : lx_s T n p a) (hne : a ≠ c) : ¬ lx_s T n p c := fun y => hne (h.2.symm.trans y.2)
section HPA
variable {d : Nat} {x1 : Int32} {Q : Option hb_V → hb_W → Prop} {w0 : hb_W} {T : Nat → Nat} {n tk b s p : Nat} {z : Bool} {Wt Cd : List Nat}
theorem pE.k41 {w : hb_W} (h : pE d x1 Q w0 T n tk b s p z Wt Cd) (ha : hm_ag kS jS w0 w) (hS : mU w T n tk b p z (opn Wt) Wt Cd) (hl : Cd.length + Wt.length + s ≤ p) : pK41 d x1 Q (some (hb_i 1)) w := bk_X12_qSums_41 ⟨fun y => absurd y (by decide), fun _ => bk_X12_qSums_15 ⟨fun y => absurd y (by decide), fun _ => ⟨fun y => absurd hS.1.2.2.1 y, fun _ => bk_X12_qPartTold_0 (h w ha hS hl)⟩⟩⟩
/-- the way past the closing brackets -/
theorem pA_mid {w : hb_W} (hS : mU w T n tk b p z (opn Wt) Wt Cd) (hl : Wt.length ≤ 1600) (hc : ¬ lx_s T n p 41 ∨ (∀ x, brk b Wt = some x → x ≠ 20 ∧ x ≠ 23 ∧ x ≠ 24)) (q : ∀ w2, mU w2 T n tk b p z (opn Wt) Wt Cd → hm_ag [2] [] w w2 → hb_O yX12_takesSign cX12_takesSign 2 (some .boolean) (d + 4) [hb_r 12 0 0, hb_i 42] w2 (fun rv w1 => hb_R yX12_qGoesOn cX12_qGoesOn 2 (some .boolean) (d + 5) 128 [some (hb_r 12 0 0), none] (rv.toList ++ []) w1 (pK41 d x1 Q))) : hb_O yX12_qGoesOn cX12_qGoesOn 2 (some .boolean) (d + 5) [hb_r 12 0 0] w (pK41 d x1 Q) := by
  refine bk_X12_qGoesOn_0 ⟨fun y => absurd hS.1.2.2.1 y, fun _ => om_look hS.1 (fun w2 g1 g2 g3 => ?_)⟩
  have hS2 := hS.lex g1 g3 (by decide) (by decide) (by decide) (by decide) (by decide)
  have q2 := q w2 hS2 g3
  by_cases h41 : lx_s T n p 41
  · have hb : ∀ x, brk b Wt = some x → x ≠ 20 ∧ x ≠ 23 ∧ x ≠ 24 := by
      rcases hc with y | y
      · exact absurd h41 y
      · exact y
    rw [if_pos h41.1, h41.2]
    refine bk_X12_qGoesOn_11 ⟨fun y => absurd rfl y, fun _ => ?_⟩
    refine om_qBracket hS2 hl (fun x hx e => ?_) (fun e => ?_)
    · have hbx := hb x e
      refine bk_X12_qGoesOn_20 ⟨fun y => absurd ((nI_eq (by omega) (by decide)).mp y) hbx.1, fun _ => om_qBracket hS2 hl (fun x' hx' e' => ?_) (fun e' => by rw [e] at e'; cases e')⟩
      rw [e] at e'
      cases e'
      refine bk_X12_qGoesOn_29 ⟨fun y => absurd ((nI_eq (by omega) (by decide)).mp y) hbx.2.1, fun _ => om_qBracket hS2 hl (fun x' hx' e' => ?_) (fun e' => by rw [e] at e'; cases e')⟩
      rw [e] at e'
      cases e'
      exact bk_X12_qGoesOn_38 ⟨fun _ => q2, fun y => absurd ((nI_eq (by omega) (by decide)).mp y) hbx.2.2⟩
    · refine bk_X12_qGoesOn_20 ⟨fun y => absurd y (by decide), fun _ => om_qBracket hS2 hl (fun x' hx' e' => by rw [e] at e'; cases e') (fun _ => ?_)⟩
      refine bk_X12_qGoesOn_29 ⟨fun y => absurd y (by decide), fun _ => om_qBracket hS2 hl (fun x' hx' e' => by rw [e] at e'; cases e') (fun _ => ?_)⟩
      exact bk_X12_qGoesOn_38 ⟨fun _ => q2, fun y => absurd y (by decide)⟩
  · refine bk_X12_qGoesOn_11 ⟨fun _ => q2, fun y => ?_⟩
    exfalso
    by_cases u : p < n
    · rw [if_pos u, show (41 : Int32) = nI 41 from rfl, nI_eq (by have := (g1.1.2 p u).2; omega) (by decide)] at y
      exact h41 ⟨u, y⟩
    · rw [if_neg u] at y
      exact absurd y (by decide)
/-- an operator waits -/
theorem mU_push {w : hb_W} {x o : Nat} (hx : x < 12) (h : mU w T n tk b p z o Wt Cd) : mU (hb_pI (hb_sI w 12 55 0 (upd (hb_aI w 12 55 0) Wt.length (nI x))) 12 82 0 (nI (Wt.length + 1))) T n tk b p z o (x :: Wt) Cd := by
  obtain ⟨h1, h2, h3, h4, h5, h6, ⟨h7, h8, h9⟩, h10⟩ := h
  have ha : hm_ag [82] [55] w (hb_pI (hb_sI w 12 55 0 (upd (hb_aI w 12 55 0) Wt.length (nI x))) 12 82 0 (nI (Wt.length + 1))) := (hm_ag.rf.sI (by decide)).pI (by decide)
  refine ⟨h1.ag ha (by decide) (by decide) (by decide) (by decide) (by decide) (by decide), h2.ag ha (by decide), h3, h4, h5, by simp only [List.length_cons]; omega, ⟨rfl, stW_push h8, fun y hy => ?_⟩, h10⟩
  rcases List.mem_cons.mp hy with u | u
  · rw [u]; omega
  · exact h9 y u
theorem pA_162 {x o : Nat} (hx : x = 3 ∨ x = 4) (hh : ¬ Wt.head? = some 3 ∧ ¬ Wt.head? = some 4) (ho : o = opn Wt) : ∀ {V : List Nat} {w : hb_W} {Cd : List Nat}, (∀ y ∈ V, y = 3 ∨ y = 4) → hm_ag kS jS w0 w → mU w T n tk b p z o (V ++ Wt) Cd → Cd.length + V.length + Wt.length + s + 1 ≤ p → b ≤ Wt.length → pE d x1 Q w0 T n tk b s p z (x :: Wt) (Cd ++ V) → hb_R yX12_qGoesOn cX12_qGoesOn 2 (some .boolean) (d + 5) 162 [some (hb_r 12 0 0), some (hb_i (nI x))] [] w (pK41 d x1 Q)
  | [], w, Cd, hV, ha, hS, hl, hb, q => by
    have hn := hS.1.le
    simp only [List.length_nil] at hl
    have hS' : mU w T n tk b p z o Wt Cd := hS
    refine bk_X12_qGoesOn_162 (om_qIsOn (c := 3) (by decide) hS' (by omega) (fun y => absurd y hh.1) (fun _ => bk_X12_qGoesOn_167 ⟨fun y => absurd rfl y, fun _ => om_qIsOn (c := 4) (by decide) hS' (by omega) (fun y => absurd y hh.2) (fun _ => bk_X12_qGoesOn_175 ⟨fun _ => ?_, fun y => absurd rfl y⟩)⟩))
    have e7 : hb_fI w 12 82 0 = nI Wt.length := hS'.2.2.2.2.2.2.1.1
    rw [e7, nI_clamp (by omega), nI_1]
    refine ⟨vp_in_nI (by omega) (by decide), ?_⟩
    rw [List.append_nil] at q
    refine q.k41 ((ha.sI (by decide)).pI (by decide)) ?_ (by simp only [List.length_cons]; omega)
    rw [opn_op (by omega), ← ho]
    exact mU_push (by omega) hS'
  | y :: V, w, Cd, hV, ha, hS, hl, hb, q => by
    have hn := hS.1.le
    simp only [List.length_cons] at hl
    have hll : (y :: V ++ Wt).length = V.length + Wt.length + 1 := by simp
    have hy := hV y List.mem_cons_self
    have drop : hb_O yX12_qDrops cX12_qDrops 1 none (d + 4) [hb_r 12 0 0] w (fun rv w1 => hb_R yX12_qGoesOn cX12_qGoesOn 2 (some .boolean) (d + 5) 182 [some (hb_r 12 0 0), some (hb_i (nI x))] (rv.toList ++ []) w1 (pK41 d x1 Q)) := by
      refine om_qDrops (x := y) (Wt := V ++ Wt) hS (by rw [List.length_append]; omega) (by rw [List.length_append]; omega) (fun w2 g1 g2 => bk_X12_qGoesOn_182 ?_)
      refine pA_162 hx hh ho (V := V) (fun u hu => hV u (List.mem_cons_of_mem _ hu)) (ha.tr (g2.wk (by decide) (by decide))) g1 (by rw [List.length_append, List.length_singleton]; omega) hb ?_
      rw [List.append_assoc]
      exact q
    refine bk_X12_qGoesOn_162 (om_qIsOn (c := 3) (by decide) hS (by omega) (fun _ => bk_X12_qGoesOn_167 ⟨fun _ => drop, fun u => absurd u (by decide)⟩) (fun u => bk_X12_qGoesOn_167 ⟨fun v => absurd rfl v, fun _ => om_qIsOn (c := 4) (by decide) hS (by omega) (fun _ => bk_X12_qGoesOn_175 ⟨fun v => absurd v (by decide), fun _ => drop⟩) (fun v => ?_)⟩))
    exfalso
    simp at u v
    omega
theorem pA_247 {x o : Nat} (hx : x = 1 ∨ x = 2) (hh : ∀ c, Wt.head? = some c → 5 ≤ c ∨ c = 0) (ho : o = opn Wt) : ∀ {V : List Nat} {w : hb_W} {Cd : List Nat}, (∀ y ∈ V, 1 ≤ y ∧ y ≤ 4) → hm_ag kS jS w0 w → mU w T n tk b p z o (V ++ Wt) Cd → Cd.length + V.length + Wt.length + s + 1 ≤ p → b ≤ Wt.length → pE d x1 Q w0 T n tk b s p z (x :: Wt) (Cd ++ V) → hb_R yX12_qGoesOn cX12_qGoesOn 2 (some .boolean) (d + 5) 247 [some (hb_r 12 0 0), some (hb_i (nI x))] [] w (pK41 d x1 Q)
  | [], w, Cd, hV, ha, hS, hl, hb, q => by
    have hn := hS.1.le
    simp only [List.length_nil] at hl
    have hS' : mU w T n tk b p z o Wt Cd := hS
    have nh : ∀ c, 1 ≤ c → c ≤ 4 → ¬ Wt.head? = some c := fun c c1 c2 y => by have := hh c y; omega
    refine bk_X12_qGoesOn_247 (om_qIsOn (c := 3) (by decide) hS' (by omega) (fun y => absurd y (nh 3 (by decide) (by decide))) (fun _ => bk_X12_qGoesOn_252 ⟨fun y => absurd rfl y, fun _ => om_qIsOn (c := 4) (by decide) hS' (by omega) (fun y => absurd y (nh 4 (by decide) (by decide))) (fun _ => bk_X12_qGoesOn_260 ⟨fun y => absurd rfl y, fun _ => om_qIsOn (c := 1) (by decide) hS' (by omega) (fun y => absurd y (nh 1 (by decide) (by decide))) (fun _ => bk_X12_qGoesOn_268 ⟨fun y => absurd rfl y, fun _ => om_qIsOn (c := 2) (by decide) hS' (by omega) (fun y => absurd y (nh 2 (by decide) (by decide))) (fun _ => bk_X12_qGoesOn_276 ⟨fun _ => ?_, fun y => absurd rfl y⟩)⟩)⟩)⟩))
    have e7 : hb_fI w 12 82 0 = nI Wt.length := hS'.2.2.2.2.2.2.1.1
    rw [e7, nI_clamp (by omega), nI_1]
    refine ⟨vp_in_nI (by omega) (by decide), ?_⟩
    rw [List.append_nil] at q
    refine q.k41 ((ha.sI (by decide)).pI (by decide)) ?_ (by simp only [List.length_cons]; omega)
    rw [opn_op (by omega), ← ho]
    exact mU_push (by omega) hS'
  | y :: V, w, Cd, hV, ha, hS, hl, hb, q => by
    have hn := hS.1.le
    simp only [List.length_cons] at hl
    have hll : (y :: V ++ Wt).length = V.length + Wt.length + 1 := by simp
    have hy := hV y List.mem_cons_self
    have drop : hb_O yX12_qDrops cX12_qDrops 1 none (d + 4) [hb_r 12 0 0] w (fun rv w1 => hb_R yX12_qGoesOn cX12_qGoesOn 2 (some .boolean) (d + 5) 283 [some (hb_r 12 0 0), some (hb_i (nI x))] (rv.toList ++ []) w1 (pK41 d x1 Q)) := by
      refine om_qDrops (x := y) (Wt := V ++ Wt) hS (by rw [List.length_append]; omega) (by rw [List.length_append]; omega) (fun w2 g1 g2 => bk_X12_qGoesOn_283 ?_)
      refine pA_247 hx hh ho (V := V) (fun u hu => hV u (List.mem_cons_of_mem _ hu)) (ha.tr (g2.wk (by decide) (by decide))) g1 (by rw [List.length_append, List.length_singleton]; omega) hb ?_
      rw [List.append_assoc]
      exact q
    refine bk_X12_qGoesOn_247 (om_qIsOn (c := 3) (by decide) hS (by omega) (fun _ => bk_X12_qGoesOn_252 ⟨fun _ => drop, fun u => absurd u (by decide)⟩) (fun u => bk_X12_qGoesOn_252 ⟨fun v => absurd rfl v, fun _ => om_qIsOn (c := 4) (by decide) hS (by omega) (fun _ => bk_X12_qGoesOn_260 ⟨fun _ => drop, fun v => absurd v (by decide)⟩) (fun v => bk_X12_qGoesOn_260 ⟨fun x => absurd rfl x, fun _ => om_qIsOn (c := 1) (by decide) hS (by omega) (fun _ => bk_X12_qGoesOn_268 ⟨fun _ => drop, fun x => absurd x (by decide)⟩) (fun r => bk_X12_qGoesOn_268 ⟨fun x => absurd rfl x, fun _ => om_qIsOn (c := 2) (by decide) hS (by omega) (fun _ => bk_X12_qGoesOn_276 ⟨fun x => absurd x (by decide), fun _ => drop⟩) (fun t => ?_)⟩)⟩)⟩))
    exfalso
    simp at u v r t
    omega
theorem mU_sign {w w2 : hb_W} {p2 o : Nat} {z2 : Bool} (h : mU w T n tk b p z o Wt Cd) (hD : mD w2 T n p2 z2) (ha : hm_ag [2] [] w w2) : mU w2 T n tk b p2 z2 o Wt Cd := h.lex hD ha (by decide) (by decide) (by decide) (by decide) (by decide)
theorem tape_at {w : hb_W} (h : mD w T n p z) (c : Nat) {q : Nat} (hq : q < n) (e : hb_fI w 12 2 0 = nI (q + 1)) : vp_in (hb_fI w 12 2 0 - 1) 1600 ∧ hb_aI w 12 1 0 (hb_fI w 12 2 0 - 1).toNatClampNeg = nI (T q) := by
  have hn := h.1.1
  rw [e, nI_pred, nI_clamp (by omega)]
  exact ⟨vp_in_nI (by omega) (by decide), (h.1.2 q hq).1⟩
theorem pA_mul {V W : List Nat} {m : Bool} (hV : ∀ y ∈ V, y = 3 ∨ y = 4) (hh : ¬ W.head? = some 3 ∧ ¬ W.head? = some 4) (hs : lx_s T n p (if m = true then 42 else 47)) (hb : b ≤ W.length) (q : pE d x1 Q w0 T n tk b s (lx_n T n p) false ((if m = true then 3 else 4) :: W) (Cd ++ V)) : pA d x1 Q w0 T n tk b s p z (V ++ W) Cd := by
  intro w ha hS hl
  have hn := hS.1.le
  have hpn : p < n := hs.1
  have hVo : opn (V ++ W) = opn W := opn_ops (fun y hy => by have := hV y hy; omega)
  have hlen : (V ++ W).length = V.length + W.length := List.length_append
  refine pA_mid hS (by omega) (Or.inl (lx_s_u hs (by cases m <;> simp))) (fun w2 g1 g2 => ?_)
  have a2 : hm_ag kS jS w0 w2 := ha.tr (g2.wk (by decide) (by decide))
  rw [hVo] at g1
  cases m with
  | true =>
    have hs' : lx_s T n p 42 := hs
    have hlt := lx_n_lt hn.1 (show lx_k T n p ≠ 0 by rw [lx_s3 sg42 hs']; decide)
    refine om_takesSign sg42 g1.1 (fun _ w3 k1 k2 k3 => bk_X12_qGoesOn_128 ⟨fun _ => ?_, fun y => absurd y (by decide)⟩) (fun y => absurd hs' y)
    obtain ⟨v1, v2⟩ := tape_at k1 42 hpn k2
    rw [v2, hs'.2]
    refine ⟨v1, fun y => absurd rfl y, fun _ => ?_⟩
    exact pA_162 (x := 3) (Or.inl rfl) hh rfl hV (a2.tr (k3.wk (by decide) (by decide))) (mU_sign g1 k1 k3) (by omega) hb q
  | false =>
    have hs' : lx_s T n p 47 := hs
    have hlt := lx_n_lt hn.1 (show lx_k T n p ≠ 0 by rw [lx_s3 sg47 hs']; decide)
    refine om_takesSign sg42 g1.1 (fun y => absurd y (lx_s_u hs' (by decide))) (fun _ w3 k1 k2 k3 => bk_X12_qGoesOn_128 ⟨fun y => absurd rfl y, fun _ => ?_⟩)
    refine om_takesSign sg47 k1 (fun _ w4 l1 l2 l3 => bk_X12_qGoesOn_137 ⟨fun y => absurd y (by decide), fun _ => ?_⟩) (fun y => absurd hs' y)
    obtain ⟨v1, v2⟩ := tape_at l1 47 hpn l2
    rw [v2, hs'.2]
    refine ⟨v1, fun _ => ?_, fun y => absurd y (by decide)⟩
    exact pA_162 (x := 4) (Or.inr rfl) hh rfl hV ((a2.tr (k3.wk (by decide) (by decide))).tr (l3.wk (by decide) (by decide))) (mU_sign (mU_sign g1 k1 k3) l1 l3) (by omega) hb q
theorem pA_add {V W : List Nat} {m : Bool} (hV : ∀ y ∈ V, 1 ≤ y ∧ y ≤ 4) (hh : ∀ c, W.head? = some c → 5 ≤ c ∨ c = 0) (hs : lx_s T n p (if m = true then 43 else 45)) (hb : b ≤ W.length) (q : pE d x1 Q w0 T n tk b s (lx_n T n p) false ((if m = true then 1 else 2) :: W) (Cd ++ V)) : pA d x1 Q w0 T n tk b s p z (V ++ W) Cd := by
  intro w ha hS hl
  have hn := hS.1.le
  have hpn : p < n := hs.1
  have hVo : opn (V ++ W) = opn W := opn_ops (fun y hy => by have := hV y hy; omega)
  have hlen : (V ++ W).length = V.length + W.length := List.length_append
  refine pA_mid hS (by omega) (Or.inl (lx_s_u hs (by cases m <;> simp))) (fun w2 g1 g2 => ?_)
  have a2 : hm_ag kS jS w0 w2 := ha.tr (g2.wk (by decide) (by decide))
  rw [hVo] at g1
  have n42 : ¬ lx_s T n p 42 := lx_s_u hs (by cases m <;> simp)
  have n47 : ¬ lx_s T n p 47 := lx_s_u hs (by cases m <;> simp)
  refine om_takesSign sg42 g1.1 (fun y => absurd y n42) (fun _ w3 k1 k2 k3 => bk_X12_qGoesOn_128 ⟨fun y => absurd rfl y, fun _ => ?_⟩)
  refine om_takesSign sg47 k1 (fun y => absurd y n47) (fun _ w4 l1 l2 l3 => bk_X12_qGoesOn_137 ⟨fun _ => ?_, fun y => absurd rfl y⟩)
  have a4 : hm_ag kS jS w0 w4 := (a2.tr (k3.wk (by decide) (by decide))).tr (l3.wk (by decide) (by decide))
  have g4 := mU_sign (mU_sign g1 k1 k3) l1 l3
  cases m with
  | true =>
    have hs' : lx_s T n p 43 := hs
    have hlt := lx_n_lt hn.1 (show lx_k T n p ≠ 0 by rw [lx_s3 sg43 hs']; decide)
    refine om_takesSign sg43 l1 (fun _ w5 m1 m2 m3 => bk_X12_qGoesOn_213 ⟨fun _ => ?_, fun y => absurd y (by decide)⟩) (fun y => absurd hs' y)
    obtain ⟨v1, v2⟩ := tape_at m1 43 hpn m2
    rw [v2, hs'.2]
    refine ⟨v1, fun y => absurd rfl y, fun _ => ?_⟩
    exact pA_247 (x := 1) (Or.inl rfl) hh rfl hV (a4.tr (m3.wk (by decide) (by decide))) (mU_sign g4 m1 m3) (by omega) hb q
  | false =>
    have hs' : lx_s T n p 45 := hs
    have hlt := lx_n_lt hn.1 (show lx_k T n p ≠ 0 by rw [lx_s3 sg45 hs']; decide)
    refine om_takesSign sg43 l1 (fun y => absurd y (lx_s_u hs' (by decide))) (fun _ w5 m1 m2 m3 => bk_X12_qGoesOn_213 ⟨fun y => absurd rfl y, fun _ => ?_⟩)
    refine om_takesSign sg45 m1 (fun _ w6 r1 r2 r3 => bk_X12_qGoesOn_222 ⟨fun y => absurd y (by decide), fun _ => ?_⟩) (fun y => absurd hs' y)
    obtain ⟨v1, v2⟩ := tape_at r1 45 hpn r2
    rw [v2, hs'.2]
    refine ⟨v1, fun _ => ?_, fun y => absurd y (by decide)⟩
    exact pA_247 (x := 2) (Or.inr rfl) hh rfl hV ((a4.tr (m3.wk (by decide) (by decide))).tr (r3.wk (by decide) (by decide))) (mU_sign (mU_sign g4 m1 m3) r1 r3) (by omega) hb q
/-- no operator: what is open decides -/
theorem pA_no {w : hb_W} (hno : noOp T n p) (hS : mU w T n tk b p z (opn Wt) Wt Cd) (hl : Wt.length ≤ 1600) (hc : ¬ lx_s T n p 41 ∨ (∀ x, brk b Wt = some x → x ≠ 20 ∧ x ≠ 23 ∧ x ≠ 24)) (q : ∀ w2, mU w2 T n tk b p z (opn Wt) Wt Cd → hb_fI w2 12 2 0 = nI p → hm_ag [2] [] w w2 → hb_O yX12_qBracket cX12_qBracket 2 (some .int) (d + 4) [hb_r 12 0 0] w2 (fun rv w1 => hb_R yX12_qGoesOn cX12_qGoesOn 2 (some .boolean) (d + 5) 312 [some (hb_r 12 0 0), none] (rv.toList ++ []) w1 (pK41 d x1 Q))) : hb_O yX12_qGoesOn cX12_qGoesOn 2 (some .boolean) (d + 5) [hb_r 12 0 0] w (pK41 d x1 Q) := by
  obtain ⟨n42, n47, n43, n45⟩ := hno
  refine pA_mid hS hl hc (fun w2 g1 g2 => ?_)
  refine om_takesSign sg42 g1.1 (fun y => absurd y n42) (fun _ w3 k1 k2 k3 => bk_X12_qGoesOn_128 ⟨fun y => absurd rfl y, fun _ => ?_⟩)
  refine om_takesSign sg47 k1 (fun y => absurd y n47) (fun _ w4 l1 l2 l3 => bk_X12_qGoesOn_137 ⟨fun _ => ?_, fun y => absurd rfl y⟩)
  refine om_takesSign sg43 l1 (fun y => absurd y n43) (fun _ w5 m1 m2 m3 => bk_X12_qGoesOn_213 ⟨fun y => absurd rfl y, fun _ => ?_⟩)
  refine om_takesSign sg45 m1 (fun y => absurd y n45) (fun _ w6 r1 r2 r3 => bk_X12_qGoesOn_222 ⟨fun _ => ?_, fun y => absurd rfl y⟩)
  exact q w6 (mU_sign (mU_sign (mU_sign (mU_sign g1 k1 k3) l1 l3) m1 m3) r1 r3) r2 ((((g2.tr k3).tr l3).tr m3).tr r3)
theorem pA_comma {V W : List Nat} {x : Nat} (hx : x = 21 ∨ x = 22) (hV : ∀ y ∈ V, y < 12) (hb : b ≤ W.length) (hs : lx_s T n p 44) (q : pE d x1 Q w0 T n tk b s (lx_n T n p) false ((x + 2) :: W) (Cd ++ V)) : pA d x1 Q w0 T n tk b s p z (V ++ x :: W) Cd := by
  intro w ha hS hl
  have hn := hS.1.le
  have hpn : p < n := hs.1
  have hVo : opn (V ++ x :: W) = opn (x :: W) := opn_ops hV
  have hlen : (V ++ x :: W).length = V.length + W.length + 1 := by simp; omega
  have hbr : brk b (V ++ x :: W) = some x := brk_in hb (by omega) hV
  have hlt := lx_n_lt hn.1 (show lx_k T n p ≠ 0 by rw [lx_s3 sg44 hs]; decide)
  refine pA_no ⟨lx_s_u hs (by decide), lx_s_u hs (by decide), lx_s_u hs (by decide), lx_s_u hs (by decide)⟩ hS (by omega) (Or.inl (lx_s_u hs (by decide))) (fun w2 g1 g2 g3 => ?_)
  have a2 : hm_ag kS jS w0 w2 := ha.tr (g3.wk (by decide) (by decide))
  have asks : hb_O yX12_asksSign cX12_asksSign 2 none (d + 4) [hb_r 12 0 0, hb_i 44] w2 (fun rv w1 => hb_R yX12_qGoesOn cX12_qGoesOn 2 (some .boolean) (d + 5) 332 [some (hb_r 12 0 0), none] (rv.toList ++ []) w1 (pK41 d x1 Q)) := by
    refine om_asksSign sg44 g1.1 (fun _ w3 k1 k2 => bk_X12_qGoesOn_332 ⟨fun _ => ?_, fun y => absurd k1.2.2.1 y⟩) (fun y => absurd hs y)
    have hS3 := g1.lex k1 k2 (by decide) (by decide) (by decide) (by decide) (by decide)
    refine om_dropsTo hS3 (fun y hy => by have := hV y hy; omega) (by omega) hb (by omega) (fun w4 l1 l2 => bk_X12_qGoesOn_345 ?_)
    have e7 : hb_fI w4 12 82 0 = nI (W.length + 1) := l1.2.2.2.2.2.2.1.1
    have e8 : hb_aI w4 12 55 0 W.length = nI x := l1.2.2.2.2.2.2.1.2.1.1
    rw [e7, nI_pred, nI_clamp (by omega), e8, show nI x + (2 : Int32) = nI (x + 2) from nI_add x 2]
    refine ⟨vp_in_nI (by omega) (by decide), vp_in_nI (by omega) (by decide), ?_⟩
    refine q.k41 (((a2.tr (k2.wk (by decide) (by decide))).tr (l2.wk (by decide) (by decide))).sI (by decide)) ?_ (by rw [List.length_append]; simp only [List.length_cons]; omega)
    obtain ⟨h1, h2, h3, h4, h5, h6, ⟨h7, h8, h9⟩, h10⟩ := l1
    have hag : hm_ag [] [55] w4 (hb_sI w4 12 55 0 (upd (hb_aI w4 12 55 0) W.length (nI (x + 2)))) := hm_ag.rf.sI (by decide)
    refine ⟨h1.ag hag (by decide) (by decide) (by decide) (by decide) (by decide) (by decide), h2.ag hag (by decide), h3, ?_, h5, h6, ⟨h7, stW_push h8.2, fun y hy => ?_⟩, h10⟩
    · rw [hVo, opn_in (by omega)] at h4
      rw [opn_in (by omega)]; exact h4
    · rcases List.mem_cons.mp hy with u | u
      · omega
      · exact h9 y (List.mem_cons_of_mem _ u)
  refine om_qBracket g1 (by omega) (fun y hy e => ?_) (fun e => by rw [hbr] at e; cases e)
  rw [hbr] at e
  cases e
  refine bk_X12_qGoesOn_312 ⟨fun _ => asks, fun y => om_qBracket g1 (by omega) (fun v hv e => ?_) (fun e => by rw [hbr] at e; cases e)⟩
  rw [hbr] at e
  cases e
  refine bk_X12_qGoesOn_321 ⟨fun u => ?_, fun _ => asks⟩
  exfalso
  rcases hx with r | r
  · exact y (by rw [r]; rfl)
  · exact u (by rw [r]; rfl)
/-- what should stand here does not: a comma, or a bracket -/
theorem pA_bad {V W : List Nat} {x : Nat} (hx : 20 ≤ x ∧ x ≤ 24) (hV : ∀ y ∈ V, y < 12) (hb : b ≤ W.length) (hno : noOp T n p) (hc : (x = 21 ∨ x = 22) → ¬ lx_s T n p 44) (hd : (x = 20 ∨ x = 23 ∨ x = 24) → ¬ lx_s T n p 41) (q : pX Q w0 1 p) : pA d x1 Q w0 T n tk b s p z (V ++ x :: W) Cd := by
  intro w ha hS hl
  have hn := hS.1.le
  have hlen : (V ++ x :: W).length = V.length + W.length + 1 := by simp; omega
  have hbr : brk b (V ++ x :: W) = some x := brk_in hb hx hV
  refine pA_no hno hS (by omega) ?_ (fun w2 g1 g2 g3 => ?_)
  · by_cases e : x = 20 ∨ x = 23 ∨ x = 24
    · exact Or.inl (hd e)
    · refine Or.inr (fun y hy => ?_)
      rw [hbr] at hy
      cases hy
      omega
  have a2 : hm_ag kS jS w0 w2 := ha.tr (g3.wk (by decide) (by decide))
  have asks : (x = 21 ∨ x = 22) → hb_O yX12_asksSign cX12_asksSign 2 none (d + 4) [hb_r 12 0 0, hb_i 44] w2 (fun rv w1 => hb_R yX12_qGoesOn cX12_qGoesOn 2 (some .boolean) (d + 5) 332 [some (hb_r 12 0 0), none] (rv.toList ++ []) w1 (pK41 d x1 Q)) := fun hxx => om_asksSign sg44 g1.1 (fun y => absurd y (hc hxx)) (fun _ w3 k1 k2 => bk_X12_qGoesOn_332 ⟨fun y => absurd y (k1.ne (by decide) (by decide)), fun _ => q.k41 (a2.tr (k2.wk (by decide) (by decide))) ⟨k1, (g1.cz (by omega)).ag k2 (by decide)⟩ (by decide) (by decide)⟩)
  refine om_qBracket g1 (by omega) (fun y hy e => ?_) (fun e => by rw [hbr] at e; cases e)
  rw [hbr] at e
  cases e
  refine bk_X12_qGoesOn_312 ⟨fun y => asks (Or.inl ((nI_eq (by omega) (by decide)).mp y)), fun _ => om_qBracket g1 (by omega) (fun v hv e => ?_) (fun e => by rw [hbr] at e; cases e)⟩
  rw [hbr] at e
  cases e
  refine bk_X12_qGoesOn_321 ⟨fun _ => om_qBracket g1 (by omega) (fun v hv e => ?_) (fun e => by rw [hbr] at e; cases e), fun y => asks (Or.inr ((nI_eq (by omega) (by decide)).mp y))⟩
  rw [hbr] at e
  cases e
  refine bk_X12_qGoesOn_366 ⟨fun y => absurd y (hx_ne (by omega)), fun _ => ⟨fun y => absurd g1.1.2.2.1 y, fun _ => ?_⟩⟩
  rw [g2]
  exact om_fail (k := 1) g1.1.2.2.1 (fun w3 k1 k2 => bk_X12_qGoesOn_386 (q.k41 (a2.tr (k2.wk (by decide) (by decide))) ⟨k1, (g1.cz (by omega)).ag k2 (by decide)⟩ (by decide) (by decide)))
/-- the sum has ended -/
theorem pD_53 {x2 : Int32} {o : Nat} {W : List Nat} {x : Nat} (hxb : x ≤ W.length) (hx1 : x1 = nI x) (hW : W.length = b) (ho : o = opn W) : ∀ {V : List Nat} {w : hb_W} {Cd : List Nat}, (∀ y ∈ V, y < 12) → hm_ag kS jS w0 w → mU w T n tk b p z o (V ++ W) Cd → Cd.length + V.length + W.length + s ≤ p → pD Q w0 T n tk b x s p z W (Cd ++ V) → hb_R yX12_qSums cX12_qSums 3 none (d + 6) 53 [some (hb_r 12 0 0), some (hb_i x1), some (hb_i x2)] [] w Q
  | [], w, Cd, hV, ha, hS, hl, q => by
    have hn := hS.1.le
    simp only [List.length_nil] at hl
    have hS' : mU w T n tk b p z o W Cd := hS
    have e7 : hb_fI w 12 82 0 = nI W.length := hS'.2.2.2.2.2.2.1.1
    refine bk_X12_qSums_53 ⟨fun y => absurd hS.1.2.2.1 y, fun _ => ?_⟩
    rw [e7, hS'.2.2.2.2.1, nI_leI (by omega) (by omega)]
    refine ⟨fun _ => ?_, fun y => absurd (by omega) y⟩
    rw [List.append_nil] at q
    refine q _ (ha.pI (by decide)) ?_ (by omega)
    obtain ⟨h1, h2, h3, h4, h5, h6, h7, h8⟩ := hS'
    have hag : hm_ag [84] [] w (hb_pI w 12 84 0 x1) := hm_ag.rf.pI (by decide)
    rw [ho] at h4
    exact ⟨h1.ag hag (by decide) (by decide) (by decide) (by decide) (by decide) (by decide), h2.ag hag (by decide), h3, h4, hx1, hxb, h7, h8⟩
  | y :: V, w, Cd, hV, ha, hS, hl, q => by
    have hn := hS.1.le
    simp only [List.length_cons] at hl
    have hll : (y :: V ++ W).length = V.length + W.length + 1 := by simp
    have e7 : hb_fI w 12 82 0 = nI (V.length + W.length + 1) := by rw [hS.2.2.2.2.2.2.1.1, hll]
    refine bk_X12_qSums_53 ⟨fun y => absurd hS.1.2.2.1 y, fun _ => ?_⟩
    rw [e7, hS.2.2.2.2.1, nI_leI (by omega) (by omega)]
    refine ⟨fun u => absurd u (by omega), fun _ => ?_⟩
    refine om_qDrops (x := y) (Wt := V ++ W) hS (by rw [List.length_append]; omega) (by rw [List.length_append]; omega) (fun w2 g1 g2 => bk_X12_qSums_75 ?_)
    refine pD_53 hxb hx1 hW ho (V := V) (fun u hu => hV u (List.mem_cons_of_mem _ hu)) (ha.tr (g2.wk (by decide) (by decide))) g1 (by rw [List.length_append, List.length_singleton]; omega) ?_
    rw [List.append_assoc]
    exact q
theorem pA_done {V W : List Nat} {x : Nat} (hxb : x ≤ W.length) (hx1 : x1 = nI x) (hV : ∀ y ∈ V, y < 12) (hW : W.length = b) (hno : noOp T n p) (q : pD Q w0 T n tk b x s p z W (Cd ++ V)) : pA d x1 Q w0 T n tk b s p z (V ++ W) Cd := by
  intro w ha hS hl
  have hn := hS.1.le
  have hlen : (V ++ W).length = V.length + W.length := List.length_append
  have hbr : brk b (V ++ W) = none := brk_no hW hV
  have hVo : opn (V ++ W) = opn W := opn_ops hV
  refine pA_no hno hS (by omega) (Or.inr (fun y hy => by rw [hbr] at hy; cases hy)) (fun w2 g1 g2 g3 => ?_)
  have a2 : hm_ag kS jS w0 w2 := ha.tr (g3.wk (by decide) (by decide))
  refine om_qBracket g1 (by omega) (fun y hy e => by rw [hbr] at e; cases e) (fun _ => ?_)
  refine bk_X12_qGoesOn_312 ⟨fun y => absurd y (by decide), fun _ => om_qBracket g1 (by omega) (fun y hy e => by rw [hbr] at e; cases e) (fun _ => ?_)⟩
  refine bk_X12_qGoesOn_321 ⟨fun _ => om_qBracket g1 (by omega) (fun y hy e => by rw [hbr] at e; cases e) (fun _ => ?_), fun y => absurd y (by decide)⟩
  refine bk_X12_qGoesOn_366 ⟨fun _ => bk_X12_qGoesOn_386 ?_, fun y => absurd rfl y⟩
  refine bk_X12_qSums_41 ⟨fun _ => bk_X12_qSums_15 ⟨fun _ => ?_, fun y => absurd rfl y⟩, fun y => absurd rfl y⟩
  rw [hVo] at g1
  exact pD_53 hxb hx1 hW rfl hV a2 g1 (by omega) q
/-- a bracket closes -/
theorem pA_close {V W : List Nat} {x : Nat} (hx : x = 20 ∨ x = 23 ∨ x = 24) (hV : ∀ y ∈ V, y < 12) (hb : b ≤ W.length) (hs : lx_s T n p 41) (q : pA d x1 Q w0 T n tk b s (lx_n T n p) false (pnW b W) (Cd ++ V ++ (if x = 20 then [] else if x = 23 then [5] else [6]) ++ pnC b W)) : pA d x1 Q w0 T n tk b s p z (V ++ x :: W) Cd := by
  intro w ha hS hl
  have hn := hS.1.le
  have hpn : p < n := hs.1
  have hVo : opn (V ++ x :: W) = opn W + 1 := by rw [opn_ops hV, opn_in (by omega)]
  have hlen : (V ++ x :: W).length = V.length + W.length + 1 := by simp; omega
  have hbr : brk b (V ++ x :: W) = some x := brk_in hb (by omega) hV
  have hlt := lx_n_lt hn.1 (show lx_k T n p ≠ 0 by rw [lx_s3 sg41 hs]; decide)
  refine bk_X12_qGoesOn_0 ⟨fun y => absurd hS.1.2.2.1 y, fun _ => om_look hS.1 (fun w2 g1 g2 g3 => ?_)⟩
  have hS2 := mU_sign hS g1 g3
  have a2 : hm_ag kS jS w0 w2 := ha.tr (g3.wk (by decide) (by decide))
  rw [if_pos hs.1, hs.2]
  -- from where the bracket is on top
  have cl : hb_O yX12_qDropsToBracket cX12_qDropsToBracket 1 none (d + 4) [hb_r 12 0 0] (hb_pI w2 12 2 0 (hb_fI w2 12 2 0 + 1)) (fun rv w1 => hb_R yX12_qGoesOn cX12_qGoesOn 2 (some .boolean) (d + 5) 57 [some (hb_r 12 0 0), none] (rv.toList ++ []) w1 (pK41 d x1 Q)) := by
    have hD := mD_sign sg41 g1 hs
    rw [g2, nI_1]
    have hS3 := mU_sign hS2 hD (hm_ag.rf.pI (by decide))
    have a3 : hm_ag kS jS w0 (hb_pI w2 12 2 0 (nI (p + 1))) := a2.pI (by decide)
    refine om_dropsTo hS3 (fun y hy => by have := hV y hy; omega) (by omega) hb (by omega) (fun w4 l1 l2 => bk_X12_qGoesOn_57 ?_)
    have a4 := a3.tr (l2.wk (K2 := kS) (J2 := jS) (by decide) (by decide))
    obtain ⟨h1, h2, h3, h4, h5, h6, ⟨h7, h8, h9⟩, h10⟩ := l1
    have e7 : hb_fI w4 12 82 0 = nI (W.length + 1) := h7
    have e8 : hb_aI w4 12 55 0 W.length = nI x := h8.1
    have e83 : hb_fI w4 12 83 0 - 1 = nI (opn W) := by rw [h4, hVo, nI_pred]
    rw [e83, e7, nI_pred, nI_clamp (by omega), e8]
    have hag : hm_ag [82, 83] [] w4 (hb_pI (hb_pI w4 12 82 0 (nI W.length)) 12 83 0 (nI (opn W))) := (hm_ag.rf.pI (by decide)).pI (by decide)
    have hS5 : mU (hb_pI (hb_pI w4 12 82 0 (nI W.length)) 12 83 0 (nI (opn W))) T n tk b (lx_n T n p) false (opn W) W (Cd ++ V) := ⟨h1.ag hag (by decide) (by decide) (by decide) (by decide) (by decide) (by decide), h2.ag hag (by decide), h3, rfl, h5, hb, ⟨rfl, h8.2, fun y hy => h9 y (List.mem_cons_of_mem _ hy)⟩, h10⟩
    have a5 := a4.tr (hag.wk (K2 := kS) (J2 := jS) (by decide) (by decide))
    have hlen2 : (Cd ++ V).length = Cd.length + V.length := List.length_append
    have hpl := pn_len b W
    have fin : ∀ (w5 : hb_W) (E : List Nat), E.length ≤ 1 → hm_ag kS jS w0 w5 → mU w5 T n tk b (lx_n T n p) false (opn W) W (Cd ++ V ++ E) → E = (if x = 20 then [] else if x = 23 then [5] else [6]) → hb_R yX12_qGoesOn cX12_qGoesOn 2 (some .boolean) (d + 5) 115 [some (hb_r 12 0 0), none] [] w5 (pK41 d x1 Q) := by
      intro w5 E hE a hU he
      refine bk_X12_qGoesOn_115 (om_endsPart hU (by rw [List.length_append]; omega) (fun w6 m1 m2 => bk_X12_qGoesOn_119 ?_))
      rw [← he] at q
      exact q w6 (a.tr (m2.wk (by decide) (by decide))) m1 (by rw [List.length_append, List.length_append]; omega)
    refine ⟨vp_in_nI (by omega) (by decide), fun y => ?_, fun y => ⟨vp_in_nI (by omega) (by decide), fun y2 => ?_, fun y2 => ?_⟩⟩
    · rw [show (20 : Int32) = nI 20 from rfl, nI_eq (by omega) (by decide)] at y
      exact fin _ [] (by simp) a5 (by rw [List.append_nil]; exact hS5) (by rw [if_pos y])
    · rw [show (20 : Int32) = nI 20 from rfl, nI_eq (by omega) (by decide)] at y
      rw [show (23 : Int32) = nI 23 from rfl, nI_eq (by omega) (by decide)] at y2
      refine om_qCode (c := 6) hS5 (by omega) (fun w5 m1 m2 => fin w5 [6] (by simp) (a5.tr (m2.wk (by decide) (by decide))) m1 ?_)
      rw [if_neg y, if_neg y2]
    · rw [show (20 : Int32) = nI 20 from rfl, nI_eq (by omega) (by decide)] at y
      rw [show (23 : Int32) = nI 23 from rfl, nI_eq (by omega) (by decide)] at y2
      refine om_qCode (c := 5) hS5 (by omega) (fun w5 m1 m2 => fin w5 [5] (by simp) (a5.tr (m2.wk (by decide) (by decide))) m1 ?_)
      rw [if_neg y, if_pos y2]
  refine bk_X12_qGoesOn_11 ⟨fun y => absurd rfl y, fun _ => om_qBracket hS2 (by omega) (fun y hy e => ?_) (fun e => by rw [hbr] at e; cases e)⟩
  rw [hbr] at e
  cases e
  refine bk_X12_qGoesOn_20 ⟨fun _ => cl, fun y1 => om_qBracket hS2 (by omega) (fun y hy e => ?_) (fun e => by rw [hbr] at e; cases e)⟩
  rw [hbr] at e
  cases e
  refine bk_X12_qGoesOn_29 ⟨fun _ => cl, fun y2 => om_qBracket hS2 (by omega) (fun y hy e => ?_) (fun e => by rw [hbr] at e; cases e)⟩
  rw [hbr] at e
  cases e
  refine bk_X12_qGoesOn_38 ⟨fun y3 => ?_, fun _ => cl⟩
  exfalso
  rcases hx with r | r | r
  · exact y1 (by rw [r]; rfl)
  · exact y2 (by rw [r]; rfl)
  · exact y3 (by rw [r]; rfl)
end HPA
