/-! ===== the model's nights: one statement ===== -/
abbrev rO : Type := wT × Nat
def seg (K : List Nat) (a : Nat) (C : List Nat) : Prop := a + C.length ≤ K.length ∧ ∀ i c, C[i]? = some c → K[a + i]? = some c
def mNr (w : hb_W) (k : Nat) (x : rO) : Prop := hb_aI w 12 14 0 (4 * k) = nI x.1.1 ∧ hb_aI w 12 14 0 (4 * k + 1) = nI x.1.2.1 ∧ hb_aI w 12 14 0 (4 * k + 2) = nI x.1.2.2.1 ∧ hb_aI w 12 14 0 (4 * k + 3) = nI x.1.2.2.2.1 ∧ hb_aI w 12 15 0 k = nI x.2 ∧ hb_aI w 12 16 0 k = nI (x.2 + x.1.2.2.2.2.length)
def mNx (w : hb_W) (mix : Option (List Nat × Nat)) : Prop := match mix with
  | none => hb_aI w 12 15 0 20 = -1
  | some m => hb_aI w 12 15 0 20 = nI m.2 ∧ hb_aI w 12 16 0 20 = nI (m.2 + m.1.length)
def mN (w : hb_W) (st L R : Nat) (rows : List rO) (mix : Option (List Nat × Nat)) (co : Nat) (K : List Nat) : Prop := hb_fI w 12 29 0 = nI st ∧ hb_fI w 12 22 0 = nI rows.length ∧ mK w K ∧ hb_aI w 12 13 0 0 = nI L ∧ hb_aI w 12 13 0 1 = nI R ∧ hb_aI w 12 13 0 5 = nI co ∧ (∀ k x, rows[k]? = some x → mNr w k x) ∧ mNx w mix
def mSt (w : hb_W) (T : Nat → Nat) (n p : Nat) (z : Bool) (st L R : Nat) (rows : List rO) (mix : Option (List Nat × Nat)) (co : Nat) (K : List Nat) : Prop := mD w T n p z ∧ mVoc w ∧ mN w st L R rows mix co K ∧ st ≤ 40 ∧ rows.length ≤ 20 ∧ K.length ≤ p
theorem mN.ag {A J : List Nat} {w w2 : hb_W} {st L R co : Nat} {rows : List rO} {mix : Option (List Nat × Nat)} {K : List Nat} (h : mN w st L R rows mix co K) (ha : hm_ag A J w w2) (k1 : ¬ 29 ∈ A) (k2 : ¬ 22 ∈ A) (k3 : ¬ 28 ∈ A) (j1 : ¬ 13 ∈ J) (j2 : ¬ 14 ∈ J) (j3 : ¬ 15 ∈ J) (j4 : ¬ 16 ∈ J) (j5 : ¬ 17 ∈ J) : mN w2 st L R rows mix co K := by
  unfold mN mK mNr at h ⊢
  rw [ha.I 29 k1, ha.I 22 k2, ha.I 28 k3, ha.A 13 j1, ha.A 14 j2, ha.A 15 j3, ha.A 16 j4, ha.A 17 j5]
  refine ⟨h.1, h.2.1, h.2.2.1, h.2.2.2.1, h.2.2.2.2.1, h.2.2.2.2.2.1, h.2.2.2.2.2.2.1, ?_⟩
  have hx := h.2.2.2.2.2.2.2
  unfold mNx at hx ⊢
  cases mix with
  | none => rw [ha.A 15 j3]; exact hx
  | some m => rw [ha.A 15 j3, ha.A 16 j4]; exact hx
def oR (d : Nat) (Q : Option hb_V → hb_W → Prop) (w : hb_W) : Prop := hb_R yX12_open cX12_open 1 (some .int) (d + 10) 67 [some (hb_r 12 0 0)] [] w Q
def oK86 (d : Nat) (Q : Option hb_V → hb_W → Prop) : Option hb_V → hb_W → Prop := fun rv w1 => hb_R yX12_open cX12_open 1 (some .int) (d + 10) 86 [some (hb_r 12 0 0)] (rv.toList ++ []) w1 Q
def sK86 (d : Nat) (x : Int32) (Q : Option hb_V → hb_W → Prop) : Option hb_V → hb_W → Prop := fun rv w1 => hb_R yX12_statementTold cX12_statementTold 2 none (d + 9) 86 [some (hb_r 12 0 0), some (hb_i x)] (rv.toList ++ []) w1 (oK86 d Q)
def oG (T : Nat → Nat) (n p : Nat) (z : Bool) (st L R : Nat) (rows : List rO) (mix : Option (List Nat × Nat)) (co : Nat) (K : List Nat) (p' : Nat) (z' : Bool) (rows' : List rO) (mix' : Option (List Nat × Nat)) (co' : Nat) (K' : List Nat) : Prop := ∀ (d : Nat) (Q : Option hb_V → hb_W → Prop) (w : hb_W), mSt w T n p z st L R rows mix co K → (∀ w2, ho_ag kO jO w w2 → mSt w2 T n p' z' (st + 1) L R rows' mix' co' K' → oR d Q w2) → oR d Q w
def oX (T : Nat → Nat) (n p : Nat) (z : Bool) (st L R : Nat) (rows : List rO) (mix : Option (List Nat × Nat)) (co : Nat) (K : List Nat) (k pl : Nat) : Prop := 0 < k ∧ k < 10 ∧ ∀ (d : Nat) (Q : Option hb_V → hb_W → Prop) (w : hb_W), mSt w T n p z st L R rows mix co K → (∀ w2, ho_ag kO jO w w2 → mX w2 k pl → oR d Q w2) → oR d Q w
theorem v56 : vp_in (5 : Int32) 6 := (vp_in_nI (by decide) (by decide) : vp_in (nI 5) 6)
section HMS
variable {d : Nat} {Q : Option hb_V → hb_W → Prop} {w : hb_W} {T : Nat → Nat} {n p st L R co : Nat} {z : Bool} {rows : List rO} {mix : Option (List Nat × Nat)} {K : List Nat}
theorem mSt.lex {w2 : hb_W} {p2 : Nat} {z2 : Bool} (h : mSt w T n p z st L R rows mix co K) (hD : mD w2 T n p2 z2) (ha : hm_ag [2, 4, 5, 6, 10] [] w w2) (hp : p ≤ p2) : mSt w2 T n p2 z2 st L R rows mix co K := ⟨hD, h.2.1.ag ha (fun q _ => by simp), h.2.2.1.ag ha (by decide) (by decide) (by decide) (by decide) (by decide) (by decide) (by decide) (by decide), h.2.2.2.1, h.2.2.2.2.1, by have := h.2.2.2.2.2; omega⟩
theorem st_head (hS : mSt w T n p z st L R rows mix co K) (hp : p < n) (hst : ¬ st = 40) (q : ∀ w2, mSt w2 T n p z st L R rows mix co K → hb_fI w2 12 2 0 = nI p → hm_ag [2, 4, 5, 6, 10] [] w w2 → hb_O yX12_takes cX12_takes 2 (some .boolean) (d + 8) [hb_r 12 0 0, hb_r 12 0 6] w2 (fun rv w1 => hb_R yX12_statementTold cX12_statementTold 2 none (d + 9) 29 [some (hb_r 12 0 0), some (hb_i (nI p))] (rv.toList ++ []) w1 (oK86 d Q))) : oR d Q w := by
  have hst2 := hS.2.2.2.1
  refine bk_X12_open_67 ⟨fun y => absurd hS.1.2.2.1 y, fun _ => om_look hS.1 (fun w2 g1 g2 g3 => ?_)⟩
  rw [if_pos hp]
  refine bk_X12_open_78 ⟨fun y => absurd y (hx_ne (by have := (g1.1.2 p hp).2; omega)), fun _ => ?_⟩
  have hS2 := hS.lex g1 (g3.wk (by decide) (by decide)) (Nat.le_refl p)
  have e29 := hS2.2.2.1.1
  refine bk_X12_statementTold_0 ?_
  rw [e29, g2, show (40 : Int32) = nI 40 from rfl, nI_eq (by omega) (by decide)]
  exact ⟨fun _ => q w2 hS2 g2 (g3.wk (by decide) (by decide)), fun y => absurd y hst⟩
theorem oX_40 (hp : p < n) : oX T n p z 40 L R rows mix co K 5 p := by
  refine ⟨by decide, by decide, ?_⟩
  intro d Q w hS q
  refine bk_X12_open_67 ⟨fun y => absurd hS.1.2.2.1 y, fun _ => om_look hS.1 (fun w2 g1 g2 g3 => ?_)⟩
  rw [if_pos hp]
  refine bk_X12_open_78 ⟨fun y => absurd y (hx_ne (by have := (g1.1.2 p hp).2; omega)), fun _ => ?_⟩
  have hS2 := hS.lex g1 (g3.wk (by decide) (by decide)) (Nat.le_refl p)
  refine bk_X12_statementTold_0 ⟨fun y => absurd hS2.2.2.1.1 y, fun _ => ?_⟩
  rw [g2]
  exact om_fail (k := 5) g1.2.2.1 (fun w3 k1 k2 => bk_X12_statementTold_20 (bk_X12_open_86 (q w3 ((g3.ow (by decide) (by decide)).tr (k2.ow (by decide) (by decide))) k1)))
theorem st_86 {x : Int32} {w2 : hb_W} (q : oR d Q (hb_pI w2 12 29 0 (hb_fI w2 12 29 0 + 1))) : sK86 d x Q none w2 := bk_X12_statementTold_86 (bk_X12_open_86 q)
theorem st_endX {x : Int32} {w0 : hb_W} {kf pl : Nat} (ha : ho_ag kO jO w0 w) (hx : mX w kf pl) (hk : 0 < kf) (hk2 : kf < 10) (q : ∀ w2, ho_ag kO jO w0 w2 → mX w2 kf pl → oR d Q w2) : hb_O yX12_asksSign cX12_asksSign 2 none (d + 8) [hb_r 12 0 0, hb_i 59] w (sK86 d x Q) := om_asksSignX (hx.ne hk hk2) (st_86 (q _ (ha.pI (by decide)) hx))
theorem sg59 : lx_sg 59 := by unfold lx_sg; decide
theorem st_end {x : Int32} {w0 : hb_W} (ha : ho_ag kO jO w0 w) (hst : st < 40) (hS : mSt w T n p z st L R rows mix co K) (q1 : lx_s T n p 59 → ∀ w2, ho_ag kO jO w0 w2 → mSt w2 T n (lx_n T n p) false (st + 1) L R rows mix co K → oR d Q w2) (q0 : ¬ lx_s T n p 59 → ∀ w2, ho_ag kO jO w0 w2 → mX w2 1 p → oR d Q w2) : hb_O yX12_asksSign cX12_asksSign 2 none (d + 8) [hb_r 12 0 0, hb_i 59] w (sK86 d x Q) := by
  refine om_asksSign sg59 hS.1 (fun y w2 g1 g2 => st_86 ?_) (fun y w2 g1 g2 => st_86 (q0 y _ ((ha.tr (g2.ow (by decide) (by decide))).pI (by decide)) g1))
  have hn := hS.1.le
  have hlt := lx_n_lt hn.1 (show lx_k T n p ≠ 0 by rw [lx_s3 sg59 y]; decide)
  have hS2 := hS.lex g1 (g2.wk (by decide) (by decide)) (by omega)
  have e29 : hb_fI w2 12 29 0 + 1 = nI (st + 1) := by rw [hS2.2.2.1.1, nI_1]
  rw [e29]
  refine q1 y _ ((ha.tr (g2.ow (by decide) (by decide))).pI (by decide)) ?_
  have hag : hm_ag [29] [] w2 (hb_pI w2 12 29 0 (nI (st + 1))) := hm_ag.rf.pI (by decide)
  obtain ⟨h1, h2, ⟨h3, h4, h5, h6, h7, h8, h9, h10⟩, h11, h12, h13⟩ := hS2
  exact ⟨h1.ag hag (by decide) (by decide) (by decide) (by decide) (by decide) (by decide), h2.ag hag (by decide), ⟨rfl, h4, h5, h6, h7, h8, h9, h10⟩, by omega, h12, h13⟩
/-- the coin, and none of the three words -/
theorem st_coin (hS : mSt w T n p z st L R rows mix co K) (hp : p < n) (hst : ¬ st = 40) (nh : ¬ lx_W T n p z wd_hoods) (nm : ¬ lx_W T n p z wd_mix) (q : ∀ w2, mSt w2 T n p z st L R rows mix co K → hm_ag [2, 4, 5, 6, 10] [] w w2 → hb_O yX12_asks cX12_asks 2 none (d + 8) [hb_r 12 0 0, hb_r 12 0 12] w2 (fun rv w1 => hb_R yX12_statementTold cX12_statementTold 2 none (d + 9) 67 [some (hb_r 12 0 0), some (hb_i (nI p))] (rv.toList ++ []) w1 (oK86 d Q))) : oR d Q w := by
  refine st_head hS hp hst (fun w2 s2 g2 a2 => ?_)
  refine om_takes (wd := wd_hoods) rfl (wd_ok (6, wd_hoods) (by decide)) (s2.2.1 (6, wd_hoods) (by decide)) s2.1 (fun y => absurd y nh) (fun _ w3 k1 k2 k3 => bk_X12_statementTold_29 ⟨fun _ => ?_, fun y => absurd rfl y⟩)
  have s3 := s2.lex k1 (k3.wk (by decide) (by decide)) (Nat.le_refl p)
  refine om_takes (wd := wd_mix) rfl (wd_ok (11, wd_mix) (by decide)) (s3.2.1 (11, wd_mix) (by decide)) s3.1 (fun y => absurd y nm) (fun _ w4 l1 l2 l3 => bk_X12_statementTold_48 ⟨fun _ => ?_, fun y => absurd rfl y⟩)
  have s4 := s3.lex l1 (l3.wk (by decide) (by decide)) (Nat.le_refl p)
  exact q w4 s4 ((a2.tr (k3.wk (by decide) (by decide))).tr (l3.wk (by decide) (by decide)))
theorem oX_none (hp : p < n) (hst : ¬ st = 40) (nh : ¬ lx_W T n p z wd_hoods) (nm : ¬ lx_W T n p z wd_mix) (nc : ¬ lx_W T n p z wd_coin) : oX T n p z st L R rows mix co K 1 p := by
  refine ⟨by decide, by decide, ?_⟩
  intro d Q w hS q
  refine st_coin hS hp hst nh nm (fun w2 s2 a2 => ?_)
  refine om_asks (wd := wd_coin) rfl (wd_ok (12, wd_coin) (by decide)) (s2.2.1 (12, wd_coin) (by decide)) s2.1 (fun y => absurd y nc) (fun _ w3 g1 g2 => bk_X12_statementTold_67 ?_)
  refine om_numberX (g1.ne (by decide) (by decide)) (bk_X12_statementTold_79 ⟨v56, ?_⟩)
  exact st_endX (((a2.ow (by decide) (by decide)).tr (g2.ow (by decide) (by decide))).s13 (by decide) (by decide) (by decide)) (show mX (hb_sI w3 12 13 0 _) 1 p from g1) (by decide) (by decide) q
theorem st_coinN (hW : lx_W T n p z wd_coin) (hst : ¬ st = 40) (hS : mSt w T n p z st L R rows mix co K) (q : ∀ w2, mSt w2 T n (lx_n T n p) (lx_z T n p) st L R rows mix co K → hm_ag [2, 4, 5, 6, 10] [] w w2 → hb_O yX12_number cX12_number 5 (some .int) (d + 8) [hb_r 12 0 0, hb_i (nI 0), hb_i (nI 99)] w2 (fun rv w1 => hb_R yX12_statementTold cX12_statementTold 2 none (d + 9) 79 [some (hb_r 12 0 0), some (hb_i (nI p))] (rv.toList ++ [hb_i 5, hb_r 12 0 13]) w1 (oK86 d Q))) : oR d Q w := by
  have hk1 : lx_k T n p = 1 := hW.2.1
  have hpn : p < n := (lx_k_1.mp hk1).1
  have hlt := lx_n_lt (Nat.le_of_lt hpn) (show lx_k T n p ≠ 0 by omega)
  refine st_coin hS hpn hst (fun y => absurd (lx_W_u y hW) (by decide)) (fun y => absurd (lx_W_u y hW) (by decide)) (fun w2 s2 a2 => ?_)
  refine om_asks (wd := wd_coin) rfl (wd_ok (12, wd_coin) (by decide)) (s2.2.1 (12, wd_coin) (by decide)) s2.1 (fun _ w3 g1 g2 => bk_X12_statementTold_67 ?_) (fun y => absurd hW y)
  exact q w3 (s2.lex g1 (g2.wk (by decide) (by decide)) (by omega)) (a2.tr (g2.wk (by decide) (by decide)))
theorem oX_coin1 (hW : lx_W T n p z wd_coin) (hst : ¬ st = 40) (hN : ¬ lx_no T n (lx_n T n p) (lx_z T n p) 0 99) : oX T n p z st L R rows mix co K (lx_nf T n (lx_n T n p) (lx_z T n p)).1 (lx_nf T n (lx_n T n p) (lx_z T n p)).2 := by
  refine ⟨lx_nf_b.1, lx_nf_b.2, ?_⟩
  intro d Q w hS q
  refine st_coinN hW hst hS (fun w2 s2 a2 => om_number (by decide) (by decide) s2.1 (fun y => absurd y hN) (fun _ w3 r g1 g2 => bk_X12_statementTold_79 ⟨v56, ?_⟩))
  exact st_endX (((a2.ow (by decide) (by decide)).tr (g2.ow (by decide) (by decide))).s13 (by decide) (by decide) (by decide)) (show mX (hb_sI w3 12 13 0 _) _ _ from g1) lx_nf_b.1 lx_nf_b.2 q
theorem st_coin2 (hW : lx_W T n p z wd_coin) (hst : st < 40) (hN : lx_no T n (lx_n T n p) (lx_z T n p) 0 99) (hS : mSt w T n p z st L R rows mix co K) (q1 : lx_s T n (lx_n T n (lx_n T n p)) 59 → ∀ w2, ho_ag kO jO w w2 → mSt w2 T n (lx_n T n (lx_n T n (lx_n T n p))) false (st + 1) L R rows mix (lx_v T (lx_n T n p) (lx_E T n (lx_n T n p) - lx_n T n p)) K → oR d Q w2) (q0 : ¬ lx_s T n (lx_n T n (lx_n T n p)) 59 → ∀ w2, ho_ag kO jO w w2 → mX w2 1 (lx_n T n (lx_n T n p)) → oR d Q w2) : oR d Q w := by
  refine st_coinN hW (by omega) hS (fun w2 s2 a2 => om_number (by decide) (by decide) s2.1 (fun _ w3 g1 g2 => bk_X12_statementTold_79 ⟨v56, ?_⟩) (fun y => absurd hN y))
  have hn2 := s2.1.le
  have hlt := lx_n_lt hn2.1 (show lx_k T n (lx_n T n p) ≠ 0 by rw [hN.2.1]; decide)
  have s3 := s2.lex g1 g2 (by omega)
  refine st_end (z := lx_z T n (lx_n T n p)) (((a2.ow (by decide) (by decide)).tr (g2.ow (by decide) (by decide))).s13 (by decide) (by decide) (by decide)) hst ?_ q1 q0
  have hag : hm_ag [] [13] w3 (hb_sI w3 12 13 0 (upd (hb_aI w3 12 13 0) (5 : Int32).toNatClampNeg (nI (lx_v T (lx_n T n p) (lx_E T n (lx_n T n p) - lx_n T n p))))) := hm_ag.rf.sI (by decide)
  obtain ⟨h1, h2, ⟨h3, h4, h5, h6, h7, h8, h9, h10⟩, h11, h12, h13⟩ := s3
  refine ⟨h1.ag hag (by decide) (by decide) (by decide) (by decide) (by decide) (by decide), h2.ag hag (by decide), ⟨h3, h4, h5, ?_, ?_, ?_, h9, h10⟩, h11, h12, h13⟩
  · rw [sI_s]; exact (pk_un (by decide)).trans h6
  · rw [sI_s]; exact (pk_un (by decide)).trans h7
  · rw [sI_s]; exact pk_us
theorem oG_coin (hW : lx_W T n p z wd_coin) (hst : st < 40) (hN : lx_no T n (lx_n T n p) (lx_z T n p) 0 99) (hs : lx_s T n (lx_n T n (lx_n T n p)) 59) : oG T n p z st L R rows mix co K (lx_n T n (lx_n T n (lx_n T n p))) false rows mix (lx_v T (lx_n T n p) (lx_E T n (lx_n T n p) - lx_n T n p)) K := fun d Q w hS q => st_coin2 hW hst hN hS (fun _ => q) (fun y => absurd hs y)
theorem oX_coin2 (hW : lx_W T n p z wd_coin) (hst : st < 40) (hN : lx_no T n (lx_n T n p) (lx_z T n p) 0 99) (hs : ¬ lx_s T n (lx_n T n (lx_n T n p)) 59) : oX T n p z st L R rows mix co K 1 (lx_n T n (lx_n T n p)) := ⟨by decide, by decide, fun d Q w hS q => st_coin2 hW hst hN hS (fun y => absurd y hs) (fun _ => q)⟩
end HMS
