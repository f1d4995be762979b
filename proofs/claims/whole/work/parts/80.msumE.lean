/-! ===== the model's sums: a part is asked ===== -/
/-- behind qPartTold and qGoesOn: the loop of qSums -/
def pK30 (d : Nat) (x1 : Int32) (Q : Option hb_V → hb_W → Prop) : Option hb_V → hb_W → Prop := fun rv w1 => hb_R yX12_qSums cX12_qSums 3 none (d + 6) 30 [some (hb_r 12 0 0), some (hb_i x1), some (hb_i 1)] (rv.toList ++ []) w1 Q
def pK41 (d : Nat) (x1 : Int32) (Q : Option hb_V → hb_W → Prop) : Option hb_V → hb_W → Prop := fun rv w1 => hb_R yX12_qSums cX12_qSums 3 none (d + 6) 41 [some (hb_r 12 0 0), some (hb_i x1), some (hb_i 1)] (rv.toList ++ []) w1 Q
/-- a part is asked at the cursor: the model goes on to Q -/
def pE (d : Nat) (x1 : Int32) (Q : Option hb_V → hb_W → Prop) (w0 : hb_W) (T : Nat → Nat) (n tk b s p : Nat) (z : Bool) (Wt Cd : List Nat) : Prop := ∀ w, hm_ag kS jS w0 w → mU w T n tk b p z (opn Wt) Wt Cd → Cd.length + Wt.length + s ≤ p → hb_R yX12_qPartTold cX12_qPartTold 6 none (d + 5) 2 [some (hb_r 12 0 0), some (hb_i 1), none, none, none, none] [] w (pK30 d x1 Q)
/-- behind a part -/
def pA (d : Nat) (x1 : Int32) (Q : Option hb_V → hb_W → Prop) (w0 : hb_W) (T : Nat → Nat) (n tk b s p : Nat) (z : Bool) (Wt Cd : List Nat) : Prop := ∀ w, hm_ag kS jS w0 w → mU w T n tk b p z (opn Wt) Wt Cd → Cd.length + Wt.length + s ≤ p → hb_O yX12_qGoesOn cX12_qGoesOn 2 (some .boolean) (d + 5) [hb_r 12 0 0] w (pK41 d x1 Q)
/-- how much code there is, bounded -/
def cz (w : hb_W) : Prop := ∃ m, m ≤ 1650 ∧ hb_fI w 12 80 0 = nI m
theorem cz.ag {K J : List Nat} {w w2 : hb_W} (h : cz w) (ha : hm_ag K J w w2) (hk : ¬ 80 ∈ K) : cz w2 := by
  obtain ⟨m, h1, h2⟩ := h
  exact ⟨m, h1, by rw [ha.I 80 hk]; exact h2⟩
theorem mU.cz {w : hb_W} {T : Nat → Nat} {n tk b p : Nat} {z : Bool} {o : Nat} {Wt Cd : List Nat} (h : mU w T n tk b p z o Wt Cd) (hl : Cd.length ≤ 1600) : cz w := ⟨Cd.length, by omega, h.2.2.2.2.2.2.2.1⟩
def mXc (w : hb_W) (k pl : Nat) : Prop := mX w k pl ∧ cz w
def pX (Q : Option hb_V → hb_W → Prop) (w0 : hb_W) (k pl : Nat) : Prop := ∀ w, hm_ag kS jS w0 w → mXc w k pl → Q none w
section HPE
variable {d : Nat} {x1 : Int32} {Q : Option hb_V → hb_W → Prop} {w0 : hb_W} {T : Nat → Nat} {n tk b s p : Nat} {z : Bool} {Wt Cd : List Nat}
theorem pX.s15 {w : hb_W} {k pl : Nat} (h : pX Q w0 k pl) (ha : hm_ag kS jS w0 w) (hx : mXc w k pl) (hk : 0 < k) (hk2 : k < 10) (x2 : Int32) : hb_R yX12_qSums cX12_qSums 3 none (d + 6) 15 [some (hb_r 12 0 0), some (hb_i x1), some (hb_i x2)] [] w Q := by
  have hb := hx.1.ne hk hk2
  have e53 : hb_R yX12_qSums cX12_qSums 3 none (d + 6) 53 [some (hb_r 12 0 0), some (hb_i x1), some (hb_i x2)] [] w Q := bk_X12_qSums_53 ⟨fun _ => h _ (ha.pI (by decide)) hx, fun y => absurd y hb⟩
  exact bk_X12_qSums_15 ⟨fun _ => e53, fun _ => ⟨fun _ => e53, fun y => absurd y hb⟩⟩
theorem pX.k30 {w : hb_W} {k pl : Nat} (h : pX Q w0 k pl) (ha : hm_ag kS jS w0 w) (hx : mXc w k pl) (hk : 0 < k) (hk2 : k < 10) : pK30 d x1 Q none w := bk_X12_qSums_30 ⟨fun _ => h.s15 ha hx hk hk2 0, fun y => absurd y (hx.1.ne hk hk2)⟩
theorem pX.k41 {w : hb_W} {k pl : Nat} (h : pX Q w0 k pl) (ha : hm_ag kS jS w0 w) (hx : mXc w k pl) (hk : 0 < k) (hk2 : k < 10) : pK41 d x1 Q (some (hb_i 0)) w := bk_X12_qSums_41 ⟨fun _ => h.s15 ha hx hk hk2 0, fun y => absurd rfl y⟩
theorem pX.e2 {w : hb_W} {k pl : Nat} (h : pX Q w0 k pl) (ha : hm_ag kS jS w0 w) (hx : mXc w k pl) (hk : 0 < k) (hk2 : k < 10) (y1 y2 y3 y4 : Option hb_V) : hb_R yX12_qPartTold cX12_qPartTold 6 none (d + 5) 2 [some (hb_r 12 0 0), some (hb_i 1), y1, y2, y3, y4] [] w (pK30 d x1 Q) := by
  have hb := hx.1.ne hk hk2
  refine hx_at 2 (hx_at 3 (hx_at 4 (hx_at 5 ?_)))
  exact bk_X12_qPartTold_2 ⟨fun y => absurd y (by decide), fun _ => ⟨fun _ => ⟨fun y => absurd y hb, fun _ => h.k30 ha hx hk hk2⟩, fun y => absurd y hb⟩⟩
/-- the part is here: a word that stands for something, or a number -/
theorem pE_end {w : hb_W} {p2 c : Nat} {z2 : Bool} {x2 : Int32} (ha : hm_ag kS jS w0 w) (hS : mU w T n tk b p2 z2 (opn Wt) Wt Cd) (hl : Cd.length + Wt.length + s ≤ p) (hp : p < p2) (q : pA d x1 Q w0 T n tk b s p2 z2 (pnW b Wt) (Cd ++ [c] ++ pnC b Wt)) : hb_O yX12_qCode cX12_qCode 2 none (d + 4) [hb_r 12 0 0, hb_i (nI c)] w (fun rv w1 => hb_R yX12_qPartTold cX12_qPartTold 6 none (d + 5) 240 [some (hb_r 12 0 0), some (hb_i 0), some (hb_i x2), none, none, none] (rv.toList ++ []) w1 (pK30 d x1 Q)) := by
  have hn := hS.1.le
  have hpl := pn_len b Wt
  refine om_qCode hS (by omega) (fun w2 g1 g2 => bk_X12_qPartTold_240 ?_)
  refine om_endsPart g1 (by rw [List.length_append, List.length_singleton]; omega) (fun w3 k1 k2 => bk_X12_qPartTold_244 ?_)
  refine bk_X12_qSums_30 ⟨fun y => absurd k1.1.2.2.1 y, fun _ => ?_⟩
  exact q w3 ((ha.tr (g2.wk (by decide) (by decide))).tr (k2.wk (by decide) (by decide))) k1 (by rw [List.length_append, List.length_append, List.length_singleton]; omega)
/-- the way to what the byte here decides -/
theorem pE_head {w : hb_W} (htk : tk < 3) (hS : mU w T n tk b p z (opn Wt) Wt Cd) (q : ∀ (w2 : hb_W) (x3 : Int32), mU w2 T n tk b p z (opn Wt) Wt Cd → hb_fI w2 12 2 0 = nI p → hm_ag [2] [] w w2 → ((∃ k, 7 ≤ k ∧ k < 9 ∧ lx_W T n p z (wq k) ∧ alw tk k ∧ x3 = nI k) ∨ ((∀ k, 7 ≤ k → k < 9 → ¬ (lx_W T n p z (wq k) ∧ alw tk k)) ∧ x3 = -1)) → hb_R yX12_qPartTold cX12_qPartTold 6 none (d + 5) 26 [some (hb_r 12 0 0), some (hb_i 1), some (hb_i (if p < n then nI (T p) else -1)), none, none, none] [hb_i x3] w2 (pK30 d x1 Q)) : hb_R yX12_qPartTold cX12_qPartTold 6 none (d + 5) 2 [some (hb_r 12 0 0), some (hb_i 1), none, none, none, none] [] w (pK30 d x1 Q) := by
  refine bk_X12_qPartTold_2 ⟨fun y => absurd y (by decide), fun _ => ⟨fun y => absurd hS.1.2.2.1 y, fun _ => ?_⟩⟩
  refine om_look hS.1 (fun w2 g1 g2 g3 => bk_X12_qPartTold_17 ?_)
  have hS2 := hS.lex g1 g3 (by decide) (by decide) (by decide) (by decide) (by decide)
  refine om_qWordOf (a := 7) (c := 9) htk (by decide) hS2 (fun k k1 k2 k3 k4 w3 l1 l2 l3 => ?_) (fun hN w3 l1 l2 l3 => ?_) (by decide)
  · exact q w3 _ l1 l2 (g3.tr l3) (Or.inl ⟨k, k1, k2, k3, k4, rfl⟩)
  · exact q w3 _ l1 l2 (g3.tr l3) (Or.inr ⟨hN, rfl⟩)
theorem sg40 : lx_sg 40 := by unfold lx_sg; decide
theorem lx_sW {c : Nat} {wd : List Nat} (hc : lx_sg c) (hs : lx_s T n p c) (hW : lx_W T n p z wd) : False := by
  have h1 := lx_s3 hc hs
  have h2 := hW.2.1
  omega
theorem pE_round (htk : tk < 3) (ho : opn Wt < 6) (hs : lx_s T n p 40) (q : pE d x1 Q w0 T n tk b s (lx_n T n p) false (20 :: Wt) Cd) : pE d x1 Q w0 T n tk b s p z Wt Cd := by
  intro w ha hS hl
  have hn := hS.1.le
  have hpn : p < n := hs.1
  refine pE_head htk hS (fun w2 x3 g1 g2 g3 g4 => ?_)
  rw [if_pos hs.1, hs.2]
  refine bk_X12_qPartTold_26 ⟨fun y => absurd rfl y, fun _ => ?_⟩
  rw [g2]
  refine om_qOpens (x := 20) (by decide) (by omega) (by omega) g1 (fun _ w3 k1 k2 => bk_X12_qPartTold_43 ?_) (fun y => by omega)
  have e2 : hb_fI w3 12 2 0 + 1 = nI (p + 1) := by rw [k2.I 2, g2, nI_1]
  rw [e2]
  have hD := mD_sign sg40 k1.1 hs
  have hlt := lx_n_lt hn.1 (by rw [lx_s3 sg40 hs]; decide)
  refine hx_at 2 (hx_at 3 (q _ (((ha.tr (g3.wk (by decide) (by decide))).tr (k2.wk (by decide) (by decide))).pI (by decide)) ?_ ?_))
  · rw [opn_in (by decide)]
    exact k1.lex hD (hm_ag.rf.pI (K := [2]) (by decide)) (by decide) (by decide) (by decide) (by decide) (by decide)
  · simp only [List.length_cons]; omega
theorem pE_roundX (htk : tk < 3) (ho : opn Wt = 6) (hs : lx_s T n p 40) (q : pX Q w0 4 p) : pE d x1 Q w0 T n tk b s p z Wt Cd := by
  intro w ha hS hl
  have hn := hS.1.le
  have hpn : p < n := hs.1
  refine pE_head htk hS (fun w2 x3 g1 g2 g3 g4 => ?_)
  rw [if_pos hs.1, hs.2]
  refine bk_X12_qPartTold_26 ⟨fun y => absurd rfl y, fun _ => ?_⟩
  rw [g2]
  refine om_qOpens (x := 20) (by decide) (by omega) (by omega) g1 (fun y => by omega) (fun _ w3 k1 k2 => bk_X12_qPartTold_43 ?_)
  have hz3 : cz w3 := (g1.cz (by omega)).ag k2 (by decide)
  exact q.e2 (((ha.tr (g3.wk (by decide) (by decide))).tr (k2.wk (by decide) (by decide))).pI (by decide)) (show mXc (hb_pI w3 12 2 0 (hb_fI w3 12 2 0 + 1)) 4 p from ⟨k1, hz3⟩) (by decide) (by decide) _ _ _ _
/-- min and max: up to the bracket behind them -/
theorem pE_pair0 {w w1 : hb_W} {p1 : Nat} {z1 : Bool} {m : Bool} {x2 x3 : Int32} (ha : hm_ag kS jS w0 w) (hS : mU w T n tk b p1 z1 (opn Wt) Wt Cd) (hl : Cd.length + Wt.length + s + 1 ≤ p1) (ho : opn Wt ≤ 6)
    (qN : ¬ lx_s T n p1 40 → pX Q w0 1 p1) (qX : lx_s T n p1 40 → opn Wt = 6 → pX Q w0 4 p1) (qG : lx_s T n p1 40 → opn Wt < 6 → pE d x1 Q w0 T n tk b s (lx_n T n p1) false ((if m = true then 21 else 22) :: Wt) Cd) : hb_R yX12_qPartTold cX12_qPartTold 6 none (d + 5) 101 [some (hb_r 12 0 0), some (hb_i 1), some (hb_i x2), some (hb_i x3), some (hb_i (if m = true then 1 else 0)), none] [] w (pK30 d x1 Q) := by
  have hn := hS.1.le
  refine bk_X12_qPartTold_101 (om_look hS.1 (fun w2 g1 g2 g3 => bk_X12_qPartTold_105 ?_))
  have hS2 := hS.lex g1 g3 (by decide) (by decide) (by decide) (by decide) (by decide)
  have a2 : hm_ag kS jS w0 w2 := ha.tr (g3.wk (by decide) (by decide))
  by_cases hs : lx_s T n p1 40
  · rw [if_pos hs.1, hs.2, g2]
    refine ⟨fun y => absurd rfl y, fun _ => ⟨fun y => absurd y (hx_ne (by omega)), fun _ => ?_⟩⟩
    have go : ∀ x, x = (if m = true then 21 else 22) → hb_O yX12_qOpens cX12_qOpens 3 none (d + 4) [hb_r 12 0 0, hb_i (nI x), hb_i (nI p1)] w2 (fun rv w1 => hb_R yX12_qPartTold cX12_qPartTold 6 none (d + 5) 144 [some (hb_r 12 0 0), some (hb_i 1), some (hb_i x2), some (hb_i x3), some (hb_i (if m = true then 1 else 0)), some (hb_i (nI p1))] (rv.toList ++ []) w1 (pK30 d x1 Q)) := by
      intro x hx
      have hx1 : x = 21 ∨ x = 22 := by rw [hx]; cases m <;> simp
      refine om_qOpens (x := x) (by omega) (by omega) ho hS2 (fun h6 w3 k1 k2 => bk_X12_qPartTold_144 ?_) (fun h6 w3 k1 k2 => bk_X12_qPartTold_144 ?_)
      · have a3 := a2.tr (k2.wk (by decide) (by decide))
        refine om_asksSign sg40 k1.1 (fun _ w4 l1 l2 => bk_X12_qPartTold_150 ?_) (fun y => absurd hs y)
        have hlt := lx_n_lt hn.1 (by rw [lx_s3 sg40 hs]; decide)
        refine hx_at 2 (hx_at 3 (hx_at 4 (hx_at 5 (qG hs h6 w4 (a3.tr (l2.wk (by decide) (by decide))) ?_ ?_))))
        · have := k1.lex l1 l2 (by decide) (by decide) (by decide) (by decide) (by decide)
          rw [hx] at this
          rw [opn_in (by cases m <;> simp)]
          exact this
        · simp only [List.length_cons]; omega
      · have a3 := a2.tr (k2.wk (by decide) (by decide))
        refine om_asksSignX (k1.ne (by decide) (by decide)) (bk_X12_qPartTold_150 ?_)
        exact (qX hs h6).e2 a3 ⟨k1, (hS2.cz (by omega)).ag k2 (by decide)⟩ (by decide) (by decide) _ _ _ _
    cases m with
    | true => exact ⟨fun y => absurd y (by decide), fun _ => go 21 rfl⟩
    | false => exact ⟨fun _ => go 22 rfl, fun y => absurd rfl y⟩
  · have hne : ¬ (if p1 < n then nI (T p1) else -1) = (40 : Int32) := by
      by_cases y : p1 < n
      · rw [if_pos y, show (40 : Int32) = nI 40 from rfl, nI_eq (by have := (g1.1.2 p1 y).2; omega) (by decide)]
        exact fun u => hs ⟨y, u⟩
      · rw [if_neg y]; decide
    refine ⟨fun _ => ⟨fun _ => bk_X12_qPartTold_144 ?_, fun y => absurd rfl y⟩, fun y => absurd y hne⟩
    refine om_asksSign sg40 g1 (fun y => absurd y hs) (fun _ w4 l1 l2 => bk_X12_qPartTold_150 ?_)
    exact (qN hs).e2 (a2.tr (l2.wk (by decide) (by decide))) ⟨l1, (hS2.cz (by omega)).ag l2 (by decide)⟩ (by decide) (by decide) _ _ _ _
theorem ne40 (hT : ∀ k, k < n → T k < 256) (hs : ¬ lx_s T n p 40) : ¬ (if p < n then nI (T p) else -1) = (40 : Int32) := by
  by_cases y : p < n
  · rw [if_pos y, show (40 : Int32) = nI 40 from rfl, nI_eq (by have := hT p y; omega) (by decide)]
    exact fun u => hs ⟨y, u⟩
  · rw [if_neg y]; decide
theorem pE_pair {m : Bool} (htk : tk < 3) (ho : opn Wt ≤ 6) (hW : lx_W T n p z (if m = true then wd_min else wd_max))
    (qN : ¬ lx_s T n (lx_n T n p) 40 → pX Q w0 1 (lx_n T n p)) (qX : lx_s T n (lx_n T n p) 40 → opn Wt = 6 → pX Q w0 4 (lx_n T n p)) (qG : lx_s T n (lx_n T n p) 40 → opn Wt < 6 → pE d x1 Q w0 T n tk b s (lx_n T n (lx_n T n p)) false ((if m = true then 21 else 22) :: Wt) Cd) : pE d x1 Q w0 T n tk b s p z Wt Cd := by
  intro w ha hS hl
  have hn := hS.1.le
  have hk1 : lx_k T n p = 1 := hW.2.1
  have hlt := lx_n_lt hn.1 (show lx_k T n p ≠ 0 by omega)
  refine pE_head htk hS (fun w2 x3 g1 g2 g3 g4 => ?_)
  have hT : ∀ k, k < n → T k < 256 := fun k hk => (g1.1.1.2 k hk).2
  have hs : ¬ lx_s T n p 40 := fun y => lx_sW sg40 y hW
  have a2 : hm_ag kS jS w0 w2 := ha.tr (g3.wk (by decide) (by decide))
  refine bk_X12_qPartTold_26 ⟨fun _ => ?_, fun y => absurd y (ne40 hT hs)⟩
  cases m with
  | true =>
    have hW' : lx_W T n p z wd_min := hW
    refine om_hereV (wd := wd_min) (by decide) rfl g1 (fun _ w3 k1 k2 k3 => bk_X12_qPartTold_64 ⟨fun _ => ?_, fun y => absurd y (by decide)⟩) (fun y => absurd hW' y)
    refine om_takes rfl (wd_ok (43, wd_min) (by decide)) (k1.2.1 (43, wd_min) (by decide)) k1.1 (fun _ w4 l1 l2 => bk_X12_qPartTold_86 ⟨fun _ => ?_, fun y => absurd y (by decide)⟩) (fun y => absurd hW' y)
    exact pE_pair0 (w1 := w4) (m := true) ((a2.tr (k3.wk (by decide) (by decide))).tr (l2.wk (by decide) (by decide))) (k1.lex l1 l2 (by decide) (by decide) (by decide) (by decide) (by decide)) (by omega) ho qN qX qG
  | false =>
    have hW' : lx_W T n p z wd_max := hW
    have hnm : ¬ lx_W T n p z wd_min := fun y => absurd (lx_W_u y hW') (by decide)
    refine om_hereV (wd := wd_min) (by decide) rfl g1 (fun y => absurd y hnm) (fun _ w3 k1 k2 k3 => bk_X12_qPartTold_64 ⟨fun y => absurd rfl y, fun _ => ?_⟩)
    refine om_hereV (wd := wd_max) (by decide) rfl k1 (fun _ w4 l1 l2 l3 => bk_X12_qPartTold_75 ⟨fun y => absurd y (by decide), fun _ => ?_⟩) (fun y => absurd hW' y)
    refine om_takes rfl (wd_ok (43, wd_min) (by decide)) (l1.2.1 (43, wd_min) (by decide)) l1.1 (fun y => absurd y hnm) (fun _ w5 m1 m2 m3 => bk_X12_qPartTold_86 ⟨fun y => absurd rfl y, fun _ => ?_⟩)
    have hS5 := l1.lex m1 m3 (by decide) (by decide) (by decide) (by decide) (by decide)
    refine om_asksV (by decide) rfl hW' hS5 (fun w6 r1 r2 => ?_)
    exact pE_pair0 (w1 := w6) (m := false) ((((a2.tr (k3.wk (by decide) (by decide))).tr (l3.wk (by decide) (by decide))).tr (m3.wk (by decide) (by decide))).tr (r2.wk (by decide) (by decide))) r1 (by omega) ho qN qX qG
/-- mark, at: a part behind them -/
theorem pE_of {k : Nat} (htk : tk < 3) (ho : opn Wt ≤ 6) (hk : k < 2) (hW : lx_W T n p z (wq (7 + k))) (hA : alw tk (7 + k)) (qX : opn Wt = 6 → pX Q w0 4 p) (qG : opn Wt < 6 → pE d x1 Q w0 T n tk b s (lx_n T n p) (lx_z T n p) ((60 + k) :: Wt) Cd) : pE d x1 Q w0 T n tk b s p z Wt Cd := by
  intro w ha hS hl
  have hn := hS.1.le
  have hk1 : lx_k T n p = 1 := hW.2.1
  have hpn : p < n := (lx_k_1.mp hk1).1
  have hlt := lx_n_lt hn.1 (show lx_k T n p ≠ 0 by omega)
  refine pE_head htk hS (fun w2 x3 g1 g2 g3 g4 => ?_)
  have hT : ∀ k, k < n → T k < 256 := fun k hk => (g1.1.1.2 k hk).2
  have hs : ¬ lx_s T n p 40 := fun y => lx_sW sg40 y hW
  have a2 : hm_ag kS jS w0 w2 := ha.tr (g3.wk (by decide) (by decide))
  have hx3 : x3 = nI (7 + k) := by
    rcases g4 with ⟨j, j1, j2, j3, j4, j5⟩ | ⟨hN, _⟩
    · have := wq_inj j j2 (7 + k) (by omega) (lx_W_u j3 hW)
      rw [j5, this]
    · exact absurd ⟨hW, hA⟩ (hN (7 + k) (by omega) (by omega))
  subst hx3
  have hwk : wq (7 + k) = wd_mark ∨ wq (7 + k) = wd_at := by
    have : k = 0 ∨ k = 1 := by omega
    rcases this with rfl | rfl
    · exact Or.inl rfl
    · exact Or.inr rfl
  have nm : ¬ lx_W T n p z wd_min := fun y => by
    have := lx_W_u y hW
    rcases hwk with e | e <;> rw [e] at this <;> exact absurd this (by decide)
  have nx : ¬ lx_W T n p z wd_max := fun y => by
    have := lx_W_u y hW
    rcases hwk with e | e <;> rw [e] at this <;> exact absurd this (by decide)
  refine bk_X12_qPartTold_26 ⟨fun _ => ?_, fun y => absurd y (ne40 hT hs)⟩
  refine om_hereV (wd := wd_min) (by decide) rfl g1 (fun y => absurd y nm) (fun _ w3 k1 k2 k3 => bk_X12_qPartTold_64 ⟨fun y => absurd rfl y, fun _ => ?_⟩)
  refine om_hereV (wd := wd_max) (by decide) rfl k1 (fun y => absurd y nx) (fun _ w4 l1 l2 l3 => bk_X12_qPartTold_75 ⟨fun _ => ⟨fun y => absurd y (hx_ne (by omega)), fun _ => ?_⟩, fun y => absurd rfl y⟩)
  have e60 : (60 : Int32) + nI (7 + k) - 7 = nI (60 + k) := by
    rw [show (60 : Int32) = nI 60 from rfl, nI_add, show (7 : Int32) = nI 7 from rfl, pk_sub (by omega)]
    congr 1
    omega
  have a4 : hm_ag kS jS w0 w4 := (a2.tr (k3.wk (by decide) (by decide))).tr (l3.wk (by decide) (by decide))
  rw [e60, l2]
  refine om_qOpens (x := 60 + k) (by omega) (by omega) ho l1 (fun h6 w5 m1 m2 => bk_X12_qPartTold_173 ?_) (fun h6 w5 m1 m2 => bk_X12_qPartTold_173 ?_)
  · refine om_qAsksWord (k := 7 + k) (by omega) hW m1 (fun w6 r1 r2 => bk_X12_qPartTold_178 ?_)
    refine hx_at 2 (hx_at 3 (qG h6 w6 ((a4.tr (m2.wk (by decide) (by decide))).tr (r2.wk (by decide) (by decide))) ?_ ?_))
    · rw [opn_in (by omega)]; exact r1
    · simp only [List.length_cons]; omega
  · refine om_qAsksWordX (m1.ne (by decide) (by decide)) (bk_X12_qPartTold_178 ?_)
    exact (qX h6).e2 (a4.tr (m2.wk (by decide) (by decide))) ⟨m1, (l1.cz (by omega)).ag m2 (by decide)⟩ (by decide) (by decide) _ _ _ _
/-- none of these: up to the name or the number -/
theorem pE_leaf (htk : tk < 3) (hs : ¬ lx_s T n p 40) (nm : ¬ lx_W T n p z wd_min) (nx : ¬ lx_W T n p z wd_max) (no : ∀ k, 7 ≤ k → k < 9 → ¬ (lx_W T n p z (wq k) ∧ alw tk k)) {w : hb_W} (ha : hm_ag kS jS w0 w) (hS : mU w T n tk b p z (opn Wt) Wt Cd)
    (q : ∀ w2, hm_ag kS jS w0 w2 → mU w2 T n tk b p z (opn Wt) Wt Cd → hb_O yX12_qWordOf cX12_qWordOf 4 (some .int) (d + 4) [hb_r 12 0 0, hb_i 0, hb_i 7] w2 (fun rv w1 => hb_R yX12_qPartTold cX12_qPartTold 6 none (d + 5) 201 [some (hb_r 12 0 0), some (hb_i 0), none, none, none, none] (rv.toList ++ []) w1 (pK30 d x1 Q))) : hb_R yX12_qPartTold cX12_qPartTold 6 none (d + 5) 2 [some (hb_r 12 0 0), some (hb_i 1), none, none, none, none] [] w (pK30 d x1 Q) := by
  refine pE_head htk hS (fun w2 x3 g1 g2 g3 g4 => ?_)
  have hT : ∀ k, k < n → T k < 256 := fun k hk => (g1.1.1.2 k hk).2
  have a2 : hm_ag kS jS w0 w2 := ha.tr (g3.wk (by decide) (by decide))
  have hx3 : x3 = -1 := by
    rcases g4 with ⟨j, j1, j2, j3, j4, j5⟩ | ⟨_, h⟩
    · exact absurd ⟨j3, j4⟩ (no j j1 j2)
    · exact h
  subst hx3
  refine bk_X12_qPartTold_26 ⟨fun _ => ?_, fun y => absurd y (ne40 hT hs)⟩
  refine om_hereV (wd := wd_min) (by decide) rfl g1 (fun y => absurd y nm) (fun _ w3 k1 k2 k3 => bk_X12_qPartTold_64 ⟨fun y => absurd rfl y, fun _ => ?_⟩)
  refine om_hereV (wd := wd_max) (by decide) rfl k1 (fun y => absurd y nx) (fun _ w4 l1 l2 l3 => bk_X12_qPartTold_75 ⟨fun _ => ⟨fun _ => ?_, fun y => absurd rfl y⟩, fun y => absurd rfl y⟩)
  have a4 : hm_ag kS jS w0 w4 := (a2.tr (k3.wk (by decide) (by decide))).tr (l3.wk (by decide) (by decide))
  refine hx_at 2 (hx_at 3 (bk_X12_qPartTold_2 ⟨fun _ => ⟨fun _ => q w4 a4 l1, fun y => absurd l1.1.2.2.1 y⟩, fun y => absurd rfl y⟩))
theorem pE_name {k : Nat} (htk : tk < 3) (hk : k < 7) (hW : lx_W T n p z (wq k)) (hA : alw tk k) (q : pA d x1 Q w0 T n tk b s (lx_n T n p) (lx_z T n p) (pnW b Wt) (Cd ++ [40 + k] ++ pnC b Wt)) : pE d x1 Q w0 T n tk b s p z Wt Cd := by
  intro w ha hS hl
  have hn := hS.1.le
  have hk1 : lx_k T n p = 1 := hW.2.1
  have hlt := lx_n_lt hn.1 (show lx_k T n p ≠ 0 by omega)
  have hd : ∀ j, j < 9 → lx_W T n p z (wq j) → j = k := fun j hj y => wq_inj j hj k (by omega) (lx_W_u y hW)
  have hmm : ∀ k, k < 7 → ¬ wd_min = wq k ∧ ¬ wd_max = wq k := by decide
  refine pE_leaf htk (fun y => lx_sW sg40 y hW) (fun y => (hmm k hk).1 (lx_W_u y hW)) (fun y => (hmm k hk).2 (lx_W_u y hW)) (fun j j1 j2 y => by have := hd j j2 y.1; omega) ha hS (fun w2 g1 g2 => ?_)
  refine om_qWordOf (a := 0) (c := 7) htk (by decide) g2 (fun j j1 j2 j3 j4 w3 l1 l2 l3 => ?_) (fun hN => absurd ⟨hW, hA⟩ (hN k (by omega) hk)) (by decide)
  have := hd j (by omega) j3
  subst this
  refine bk_X12_qPartTold_201 ⟨fun y => absurd y (hx_ne (by omega)), fun _ => ?_⟩
  refine om_qAsksWord (by omega) hW l1 (fun w4 m1 m2 => bk_X12_qPartTold_212 ⟨fun y => absurd y (hx_ne (by omega)), fun _ => ?_⟩)
  rw [show (40 : Int32) + nI j = nI (40 + j) from nI_add 40 j]
  exact pE_end ((g1.tr (l3.wk (by decide) (by decide))).tr (m2.wk (by decide) (by decide))) m1 hl hlt q
theorem pE_num (htk : tk < 3) (hN : lx_no T n p z 0 9999) (q : pA d x1 Q w0 T n tk b s (lx_n T n p) (lx_z T n p) (pnW b Wt) (Cd ++ [1000 + lx_v T p (lx_E T n p - p)] ++ pnC b Wt)) : pE d x1 Q w0 T n tk b s p z Wt Cd := by
  intro w ha hS hl
  have hn := hS.1.le
  have hk2 : lx_k T n p = 2 := hN.2.1
  have hlt := lx_n_lt hn.1 (show lx_k T n p ≠ 0 by omega)
  have nw : ∀ wd, ¬ lx_W T n p z wd := fun wd y => by have := y.2.1; omega
  refine pE_leaf htk (fun y => by have := lx_s3 sg40 y; omega) (nw _) (nw _) (fun j j1 j2 y => nw _ y.1) ha hS (fun w2 g1 g2 => ?_)
  refine om_qWordOf (a := 0) (c := 7) htk (by decide) g2 (fun j j1 j2 j3 => absurd j3 (nw _)) (fun _ w3 l1 l2 l3 => bk_X12_qPartTold_201 ⟨fun _ => bk_X12_qPartTold_212 ⟨fun _ => ?_, fun y => absurd rfl y⟩, fun y => absurd rfl y⟩) (by decide)
  refine om_number (lo := 0) (hi := 9999) (by decide) (by decide) l1.1 (fun _ w4 m1 m2 => bk_X12_qPartTold_236 ?_) (fun y => absurd hN y)
  rw [show (1000 : Int32) + nI (lx_v T p (lx_E T n p - p)) = nI (1000 + lx_v T p (lx_E T n p - p)) from nI_add 1000 _]
  exact pE_end ((g1.tr (l3.wk (by decide) (by decide))).tr (m2.wk (by decide) (by decide))) (l1.lex m1 m2 (by decide) (by decide) (by decide) (by decide) (by decide)) hl hlt q
theorem pE_none (htk : tk < 3) (hs : ¬ lx_s T n p 40) (nm : ¬ lx_W T n p z wd_min) (nx : ¬ lx_W T n p z wd_max) (no : ∀ k, k < 9 → ¬ (lx_W T n p z (wq k) ∧ alw tk k)) (hN : ¬ lx_no T n p z 0 9999) (q : pX Q w0 (lx_nf T n p z).1 (lx_nf T n p z).2) : pE d x1 Q w0 T n tk b s p z Wt Cd := by
  intro w ha hS hl
  have hn := hS.1.le
  have hf : 0 < (lx_nf T n p z).1 ∧ (lx_nf T n p z).1 < 10 := by
    unfold lx_nf
    repeat' split
    all_goals simp
  refine pE_leaf htk hs nm nx (fun j j1 j2 => no j j2) ha hS (fun w2 g1 g2 => ?_)
  refine om_qWordOf (a := 0) (c := 7) htk (by decide) g2 (fun j j1 j2 j3 j4 => absurd ⟨j3, j4⟩ (no j (by omega))) (fun _ w3 l1 l2 l3 => bk_X12_qPartTold_201 ⟨fun _ => bk_X12_qPartTold_212 ⟨fun _ => ?_, fun y => absurd rfl y⟩, fun y => absurd rfl y⟩) (by decide)
  refine om_number (lo := 0) (hi := 9999) (by decide) (by decide) l1.1 (fun y => absurd y hN) (fun _ w4 r m1 m2 => bk_X12_qPartTold_236 ?_)
  have e80 : hb_fI w4 12 80 0 = nI Cd.length := by rw [m2.I 80]; exact l1.2.2.2.2.2.2.2.1
  refine om_qCodeX e80 (by omega) (fun w5 r1 r2 => bk_X12_qPartTold_240 ?_)
  have hx5 : mX w5 (lx_nf T n p z).1 (lx_nf T n p z).2 := ⟨by rw [r1.I 5]; exact m1.1, by rw [r1.I 6]; exact m1.2⟩
  refine bk_X12_qEndsPart_0 ⟨fun _ => bk_X12_qPartTold_244 ?_, fun y => absurd y (hx5.ne hf.1 hf.2)⟩
  exact q.k30 ((((g1.tr (l3.wk (by decide) (by decide))).tr (m2.wk (by decide) (by decide))).tr (r1.wk (by decide) (by decide)))) ⟨hx5, ⟨Cd.length + 1, by omega, r2⟩⟩ hf.1 hf.2
end HPE
