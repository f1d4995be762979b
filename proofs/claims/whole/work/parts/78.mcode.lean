/-! ===== the model's codes, waits, words ===== -/
def wd_book : List Nat := [98, 111, 111, 107]
def wd_lines : List Nat := [108, 105, 110, 101, 115]
def wd_rows : List Nat := [114, 111, 119, 115]
def wd_hoods : List Nat := [104, 111, 111, 100, 115]
def wd_from : List Nat := [102, 114, 111, 109]
def wd_step : List Nat := [115, 116, 101, 112]
def wd_gives : List Nat := [103, 105, 118, 101, 115]
def wd_gate : List Nat := [103, 97, 116, 101]
def wd_mix : List Nat := [109, 105, 120]
def wd_coin : List Nat := [99, 111, 105, 110]
def wd_first : List Nat := [102, 105, 114, 115, 116]
def wd_last : List Nat := [108, 97, 115, 116]
def wd_often : List Nat := [111, 102, 116, 101, 110]
def wd_total : List Nat := [116, 111, 116, 97, 108]
def wd_most : List Nat := [109, 111, 115, 116]
def wd_least : List Nat := [108, 101, 97, 115, 116]
def wd_not : List Nat := [110, 111, 116]
def wd_and : List Nat := [97, 110, 100]
def wd_or : List Nat := [111, 114]
def wd_all : List Nat := [97, 108, 108]
def wd_min : List Nat := [109, 105, 110]
def wd_max : List Nat := [109, 97, 120]
def wd_hood : List Nat := [104, 111, 111, 100]
def wd_turn : List Nat := [116, 117, 114, 110]
def wd_line : List Nat := [108, 105, 110, 101]
def wd_times : List Nat := [116, 105, 109, 101, 115]
def wd_told : List Nat := [116, 111, 108, 100]
def wd_gifts : List Nat := [103, 105, 102, 116, 115]
def wd_mark : List Nat := [109, 97, 114, 107]
def wd_at : List Nat := [97, 116]
def wd_voc : List (Nat × List Nat) := [(3, wd_book), (4, wd_lines), (5, wd_rows), (6, wd_hoods), (7, wd_from), (8, wd_step), (9, wd_gives), (10, wd_gate), (11, wd_mix), (12, wd_coin), (33, wd_first), (34, wd_last), (35, wd_often), (36, wd_total), (37, wd_most), (38, wd_least), (39, wd_not), (40, wd_and), (41, wd_or), (42, wd_all), (43, wd_min), (44, wd_max), (45, wd_hood), (46, wd_turn), (47, wd_line), (48, wd_coin), (49, wd_times), (50, wd_told), (51, wd_gifts), (52, wd_mark), (53, wd_at)]
theorem wd_ok : ∀ q ∈ wd_voc, lx_ok q.2 := by unfold lx_ok; decide +kernel
def mVoc (w : hb_W) : Prop := ∀ q ∈ wd_voc, mWd w q.1 q.2
theorem mVoc.ag {K J : List Nat} {w w2 : hb_W} (h : mVoc w) (ha : hm_ag K J w w2) (hJ : ∀ q ∈ wd_voc, ¬ q.1 ∈ J) : mVoc w2 := fun q hq i hi => by rw [ha.A q.1 (hJ q hq)]; exact h q hq i hi
theorem mVoc.agc {Pp : Nat → Nat → Prop} {w w2 : hb_W} (h : mVoc w) (ha : hw_ag Pp w w2) (hn : ¬ Pp 12 0) : mVoc w2 := fun q hq i hi => by rw [ha.2.2.2.1 12 q.1 0 hn]; exact h q hq i hi
def wq : Nat → List Nat := fun k => [wd_hood, wd_turn, wd_line, wd_coin, wd_times, wd_told, wd_gifts, wd_mark, wd_at].getD k []
theorem lx_W_u {T : Nat → Nat} {n p : Nat} {z : Bool} {a b : List Nat} (ha : lx_W T n p z a) (hb : lx_W T n p z b) : a = b := by
  obtain ⟨_, _, a3, a4⟩ := ha
  obtain ⟨_, _, b3, b4⟩ := hb
  have hl : a.length = b.length := by omega
  refine List.ext_getElem hl fun i h1 h2 => ?_
  have e1 := a4 i h1
  have e2 := b4 i h2
  unfold lx_w at e1 e2
  rw [List.getD_eq_getElem?_getD, List.getElem?_eq_getElem h1] at e1
  rw [List.getD_eq_getElem?_getD, List.getElem?_eq_getElem h2] at e2
  exact e1.symm.trans e2
theorem wq_inj : ∀ i, i < 9 → ∀ j, j < 9 → wq i = wq j → i = j := by decide
def alw (tk k : Nat) : Prop := (tk = 0 ∧ k < 2) ∨ (tk = 1 ∧ (k = 0 ∨ k = 2 ∨ k = 3)) ∨ (tk = 2 ∧ (k = 0 ∨ 2 < k))
/-- how many are open: not, brackets, what has a part behind it -/
def opn : List Nat → Nat
  | [] => 0
  | x :: l => opn l + if 12 ≤ x then 1 else 0
def stW (f : Nat → Int32) : List Nat → Prop
  | [] => True
  | v :: s => f s.length = nI v ∧ stW f s
theorem stW_upd {f : Nat → Int32} {x : Int32} : ∀ {s : List Nat} {n : Nat}, stW f s → s.length ≤ n → stW (upd f n x) s
  | [], _, _, _ => trivial
  | v :: s, n, h, hn => by
    simp only [List.length_cons] at hn
    refine ⟨?_, stW_upd h.2 (by omega)⟩
    rw [pk_un (by omega)]
    exact h.1
theorem stW_push {f : Nat → Int32} {v : Nat} {s : List Nat} (h : stW f s) : stW (upd f s.length (nI v)) (v :: s) := ⟨pk_us, stW_upd h (Nat.le_refl _)⟩
theorem stW_tail {f : Nat → Int32} : ∀ {V s : List Nat}, stW f (V ++ s) → stW f s
  | [], _, h => h
  | _ :: V, _, h => stW_tail (V := V) h.2
def mCd (w : hb_W) (Cd : List Nat) : Prop := hb_fI w 12 80 0 = nI Cd.length ∧ ∀ k c, Cd[k]? = some c → hb_aI w 12 54 0 k = nI c
def mWt (w : hb_W) (Wt : List Nat) : Prop := hb_fI w 12 82 0 = nI Wt.length ∧ stW (hb_aI w 12 55 0) Wt ∧ ∀ x ∈ Wt, x < 100
/-- the model reads a sum -/
def mU (w : hb_W) (T : Nat → Nat) (n tk b p : Nat) (z : Bool) (o : Nat) (Wt Cd : List Nat) : Prop := mD w T n p z ∧ mVoc w ∧ hb_fI w 12 31 0 = nI tk ∧ hb_fI w 12 83 0 = nI o ∧ hb_fI w 12 84 0 = nI b ∧ b ≤ Wt.length ∧ mWt w Wt ∧ mCd w Cd
abbrev kS : List Nat := [2, 4, 5, 6, 10, 80, 82, 83, 84]
abbrev jS : List Nat := [54, 55]
theorem mU.lex {K : List Nat} {w w2 : hb_W} {T : Nat → Nat} {n tk b p p2 : Nat} {z z2 : Bool} {o : Nat} {Wt Cd : List Nat} (h : mU w T n tk b p z o Wt Cd) (hD : mD w2 T n p2 z2) (ha : hm_ag K [] w w2) (k31 : ¬ 31 ∈ K) (k80 : ¬ 80 ∈ K) (k82 : ¬ 82 ∈ K) (k83 : ¬ 83 ∈ K) (k84 : ¬ 84 ∈ K) : mU w2 T n tk b p2 z2 o Wt Cd := by
  obtain ⟨h1, h2, h3, h4, h5, h6, ⟨h7, h8, h9⟩, h10, h11⟩ := h
  refine ⟨hD, h2.ag ha (fun q _ => by simp), by rw [ha.I 31 k31]; exact h3, by rw [ha.I 83 k83]; exact h4, by rw [ha.I 84 k84]; exact h5, h6, ⟨by rw [ha.I 82 k82]; exact h7, by rw [ha.A 55 (by simp)]; exact h8, h9⟩, by rw [ha.I 80 k80]; exact h10, ?_⟩
  rw [ha.A 54 (by simp)]
  exact h11
theorem ltle32 (a b : Int32) : a ≤ b ↔ ¬ b < a := by rw [Int32.le_iff_toInt_le, Int32.lt_iff_toInt_lt]; omega
theorem mCd_app {w : hb_W} {Cd : List Nat} {c : Nat} (h : mCd w Cd) : ∀ k x, (Cd ++ [c])[k]? = some x → upd (hb_aI w 12 54 0) Cd.length (nI c) k = nI x := by
  intro k x hk
  by_cases e : k < Cd.length
  · rw [List.getElem?_append_left e] at hk
    rw [pk_un (by omega)]
    exact h.2 k x hk
  · rw [List.getElem?_append_right (by omega)] at hk
    cases h2 : k - Cd.length with
    | zero =>
      rw [h2] at hk
      cases hk
      rw [show k = Cd.length by omega, pk_us]
    | succ m =>
      rw [h2] at hk
      simp at hk
section HMC
variable {d : Nat} {w : hb_W} {Q : Option hb_V → hb_W → Prop} {T : Nat → Nat} {n tk b p o : Nat} {z : Bool} {Wt Cd : List Nat}
theorem om_qCode {c : Nat} (h : mU w T n tk b p z o Wt Cd) (hl : Cd.length < 1700) (q : ∀ w2, mU w2 T n tk b p z o Wt (Cd ++ [c]) → hm_ag [80] [54] w w2 → Q none w2) : hb_O yX12_qCode cX12_qCode 2 none d [hb_r 12 0 0, hb_i (nI c)] w Q := by
  obtain ⟨h1, h2, h3, h4, h5, h6, h7, h8⟩ := h
  refine bk_X12_qCode_0 ?_
  rw [h8.1, nI_clamp (by omega), nI_1]
  have ha : hm_ag [80] [54] w (hb_pI (hb_sI w 12 54 0 (upd (hb_aI w 12 54 0) Cd.length (nI c))) 12 80 0 (nI (Cd.length + 1))) := (hm_ag.rf.sI (by decide)).pI (by decide)
  refine ⟨vp_in_nI hl (by decide), q _ ⟨h1.ag ha (by decide) (by decide) (by decide) (by decide) (by decide) (by decide), h2.ag ha (by decide), h3, h4, h5, h6, h7, ?_, mCd_app h8⟩ ha⟩
  rw [List.length_append]; rfl
/-- a code when the reading has failed -/
theorem om_qCodeX {m : Nat} {x : Int32} (h : hb_fI w 12 80 0 = nI m) (hl : m < 1700) (q : ∀ w2, hm_ag [80] [54] w w2 → hb_fI w2 12 80 0 = nI (m + 1) → Q none w2) : hb_O yX12_qCode cX12_qCode 2 none d [hb_r 12 0 0, hb_i x] w Q := by
  refine bk_X12_qCode_0 ?_
  rw [h, nI_1]
  exact ⟨vp_in_nI hl (by decide), q _ ((hm_ag.rf.sI (by decide)).pI (by decide)) rfl⟩
theorem om_qDrops {x : Nat} (h : mU w T n tk b p z o (x :: Wt) Cd) (hb : b ≤ Wt.length) (hl : Cd.length + Wt.length < 1600) (q : ∀ w2, mU w2 T n tk b p z o Wt (Cd ++ [x]) → hm_ag [80, 82] [54] w w2 → Q none w2) : hb_O yX12_qDrops cX12_qDrops 1 none (d + 1) [hb_r 12 0 0] w Q := by
  obtain ⟨h1, h2, h3, h4, h5, h6, ⟨h7, h8, h9⟩, h10⟩ := h
  have e : nI (x :: Wt).length - 1 = nI Wt.length := nI_pred Wt.length
  refine bk_X12_qDrops_0 ?_
  rw [h7, e, nI_clamp (by omega), h8.1]
  refine ⟨vp_in_nI (by omega) (by decide), ?_⟩
  have ha : hm_ag [80, 82] [54] w (hb_pI w 12 82 0 (nI Wt.length)) := hm_ag.rf.pI (by decide)
  refine om_qCode (w := hb_pI w 12 82 0 (nI Wt.length)) (T := T) (n := n) (tk := tk) (b := b) (p := p) (z := z) (o := o) (Wt := Wt) (Cd := Cd) ⟨h1.ag ha (by decide) (by decide) (by decide) (by decide) (by decide) (by decide), h2.ag ha (by decide), h3, h4, h5, hb, ⟨rfl, h8.2, fun y hy => h9 y (List.mem_cons_of_mem _ hy)⟩, h10⟩ (by omega) (fun w2 g1 g2 => bk_X12_qDrops_23 (q w2 g1 (ha.tr (g2.wk (by decide) (fun x hx => hx)))))
theorem om_qIsOn {c : Nat} (hc : c < 100) (h : mU w T n tk b p z o Wt Cd) (hl : Wt.length ≤ 1600) (q1 : Wt.head? = some c → Q (some (hb_i 1)) w) (q0 : ¬ Wt.head? = some c → Q (some (hb_i 0)) w) : hb_O yX12_qIsOn cX12_qIsOn 2 (some .boolean) d [hb_r 12 0 0, hb_i (nI c)] w Q := by
  obtain ⟨h1, h2, h3, h4, h5, h6, ⟨h7, h8, h9⟩, h10⟩ := h
  refine bk_X12_qIsOn_0 ?_
  rw [h7]
  cases Wt with
  | nil => exact ⟨fun _ => q0 (by simp), fun y => absurd (show nI 0 ≤ 0 by decide) y⟩
  | cons x Wt =>
    have e : nI (x :: Wt).length - 1 = nI Wt.length := nI_pred Wt.length
    simp only [List.length_cons] at hl
    have hx := h9 x List.mem_cons_self
    refine ⟨fun y => absurd y (show ¬ nI (Wt.length + 1) ≤ nI 0 from nI_ge (by omega) (by omega)), fun _ => ?_⟩
    rw [e, nI_clamp (by omega), h8.1, nI_eq (by omega) (by omega)]
    exact ⟨vp_in_nI (by omega) (by decide), fun y => q0 (by simp; exact y), fun y => q1 (by simp; exact y)⟩
theorem om_qIsBracket {x : Nat} (hx : x < 100) (q1 : 20 ≤ x ∧ x ≤ 24 → Q (some (hb_i 1)) w) (q0 : ¬ (20 ≤ x ∧ x ≤ 24) → Q (some (hb_i 0)) w) : hb_O yX12_qIsBracket cX12_qIsBracket 1 (some .boolean) d [hb_i (nI x)] w Q := by
  refine bk_X12_qIsBracket_0 ?_
  rw [show (20 : Int32) = nI 20 from rfl, show (24 : Int32) = nI 24 from rfl, nI_ltI (by omega) (by decide), nI_ltI (by decide) (by omega)]
  exact ⟨fun y => q0 (by omega), fun y => ⟨fun y2 => q0 (by omega), fun y2 => q1 (by omega)⟩⟩
/-- the bracket that is open last in the sum at hand -/
def brk (b : Nat) : List Nat → Option Nat
  | [] => none
  | x :: W => if b ≤ W.length then (if 20 ≤ x ∧ x ≤ 24 then some x else brk b W) else none
theorem om_qBracket (h : mU w T n tk b p z o Wt Cd) (hl : Wt.length ≤ 1600) (q1 : ∀ x, x < 100 → brk b Wt = some x → Q (some (hb_i (nI x))) w) (q0 : brk b Wt = none → Q (some (hb_i (-1))) w) : hb_O yX12_qBracket cX12_qBracket 2 (some .int) (d + 1) [hb_r 12 0 0] w Q := by
  obtain ⟨h1, h2, h3, h4, h5, h6, ⟨h7, h8, h9⟩, h10⟩ := h
  have em : nI 0 - 1 = (-1 : Int32) := by decide
  have loop : ∀ (U : List Nat), U.length ≤ 1600 → stW (hb_aI w 12 55 0) U → (∀ x ∈ U, x < 100) → (brk b Wt = brk b U) → hb_R yX12_qBracket cX12_qBracket 2 (some .int) (d + 1) 7 [some (hb_r 12 0 0), some (hb_i (nI U.length - 1))] [] w Q := by
    intro U
    induction U with
    | nil =>
      intro _ _ _ e
      rw [show nI ([] : List Nat).length - 1 = (-1 : Int32) from em]
      have hn : (-1 : Int32) < hb_fI w 12 84 0 := by
        rw [h5, Int32.lt_iff_toInt_lt, nI_toInt (by omega)]
        have : (-1 : Int32).toInt = -1 := by decide
        omega
      exact bk_X12_qBracket_7 ⟨fun _ => ⟨fun _ => q0 e, fun y => absurd hn y⟩, fun y => absurd hn y⟩
    | cons x U ih =>
      intro hU hs hx e
      simp only [List.length_cons] at hU
      rw [show nI (x :: U).length - 1 = nI U.length from nI_pred U.length]
      have hxx := hx x List.mem_cons_self
      have eb : brk b (x :: U) = if b ≤ U.length then (if 20 ≤ x ∧ x ≤ 24 then some x else brk b U) else none := rfl
      rw [eb] at e
      refine bk_X12_qBracket_7 ?_
      rw [h5, nI_ltI (by omega) (by omega), nI_clamp (by omega), hs.1]
      refine ⟨fun y => ⟨fun _ => ?_, fun y2 => absurd y y2⟩, fun y => ⟨vp_in_nI (by omega) (by decide), ?_⟩⟩
      · rw [if_neg (by omega)] at e
        exact q0 e
      · rw [if_pos (by omega)] at e
        refine om_qIsBracket hxx (fun u => ?_) (fun u => ?_)
        · rw [if_pos u] at e
          refine bk_X12_qBracket_24 ⟨fun _ => ?_, fun v => absurd v (by decide)⟩
          rw [h5, nI_ltI (by omega) (by omega), nI_clamp (by omega), hs.1]
          exact ⟨fun v => absurd v y, fun _ => ⟨vp_in_nI (by omega) (by decide), q1 x hxx e⟩⟩
        · rw [if_neg u] at e
          refine bk_X12_qBracket_24 ⟨fun v => absurd rfl v, fun _ => ?_⟩
          have := ih (by omega) hs.2 (fun v hv => hx v (List.mem_cons_of_mem _ hv)) e
          rw [show nI U.length + (-1 : Int32) = nI U.length - 1 from (Int32.sub_eq_add_neg _ _).symm]
          exact this
  refine bk_X12_qBracket_0 ?_
  rw [h7]
  exact loop Wt hl h8 h9 rfl
theorem om_dropsTo {x : Nat} : ∀ {V : List Nat} {w : hb_W} {Cd : List Nat} {Q : Option hb_V → hb_W → Prop}, mU w T n tk b p z o (V ++ x :: Wt) Cd → (∀ y ∈ V, ¬ (20 ≤ y ∧ y ≤ 24)) → 20 ≤ x ∧ x ≤ 24 → b ≤ Wt.length → Cd.length + V.length + Wt.length < 1600 → (∀ w2, mU w2 T n tk b p z o (x :: Wt) (Cd ++ V) → hm_ag [80, 82] [54] w w2 → Q none w2) → hb_O yX12_qDropsToBracket cX12_qDropsToBracket 1 none (d + 2) [hb_r 12 0 0] w Q
  | [], w, Cd, Q, h, hV, hx, hb, hl, q => by
    have hS := h
    obtain ⟨h1, h2, h3, h4, h5, h6, ⟨h7, h8, h9⟩, h10⟩ := h
    have e7 : hb_fI w 12 82 0 = nI (Wt.length + 1) := h7
    have e8 : hb_aI w 12 55 0 Wt.length = nI x := h8.1
    simp only [List.length_nil] at hl
    refine bk_X12_qDropsToBracket_0 ?_
    rw [e7, h5, nI_leI (by omega) (by omega), nI_pred, nI_clamp (by omega), e8]
    refine ⟨fun y => by omega, fun _ => ⟨vp_in_nI (by omega) (by decide), ?_⟩⟩
    refine om_qIsBracket (by omega) (fun _ => bk_X12_qDropsToBracket_25 ⟨fun _ => q w (by rw [List.append_nil]; exact hS) hm_ag.rf, fun v => absurd v (by decide)⟩) (fun u => absurd hx u)
  | y :: V, w, Cd, Q, h, hV, hx, hb, hl, q => by
    have hS := h
    obtain ⟨h1, h2, h3, h4, h5, h6, ⟨h7, h8, h9⟩, h10⟩ := h
    have hlen : (y :: V ++ x :: Wt).length = (V ++ x :: Wt).length + 1 := rfl
    have hl2 : (V ++ x :: Wt).length = V.length + (Wt.length + 1) := by rw [List.length_append, List.length_cons]
    simp only [List.length_cons] at hl
    have e8 : hb_aI w 12 55 0 (V ++ x :: Wt).length = nI y := h8.1
    have hy := hV y List.mem_cons_self
    refine bk_X12_qDropsToBracket_0 ?_
    rw [h7, hlen, h5, nI_leI (by omega) (by omega), nI_pred, nI_clamp (by omega), e8]
    refine ⟨fun u => by omega, fun _ => ⟨vp_in_nI (by omega) (by decide), ?_⟩⟩
    refine om_qIsBracket (h9 y List.mem_cons_self) (fun u => absurd u hy) (fun _ => bk_X12_qDropsToBracket_25 ⟨fun v => absurd rfl v, fun _ => ?_⟩)
    refine om_qDrops (x := y) (Wt := V ++ x :: Wt) hS (by omega) (by omega) (fun w2 g1 g2 => bk_X12_qDropsToBracket_32 ?_)
    refine om_dropsTo (V := V) g1 (fun u hu => hV u (List.mem_cons_of_mem _ hu)) hx hb (by rw [List.length_append, List.length_singleton]; omega) (fun w3 k1 k2 => q w3 ?_ (g2.tr k2))
    rw [List.append_assoc] at k1
    exact k1
/-- a part has ended: what waits for it is told -/
def pnW (b : Nat) : List Nat → List Nat
  | [] => []
  | x :: W => if b ≤ W.length ∧ 60 ≤ x then pnW b W else x :: W
def pnC (b : Nat) : List Nat → List Nat
  | [] => []
  | x :: W => if b ≤ W.length ∧ 60 ≤ x then x :: pnC b W else []
theorem om_endsPart : ∀ {Wt : List Nat} {w : hb_W} {Cd : List Nat} {Q : Option hb_V → hb_W → Prop}, mU w T n tk b p z (opn Wt) Wt Cd → Cd.length + Wt.length ≤ 1600 → (∀ w2, mU w2 T n tk b p z (opn (pnW b Wt)) (pnW b Wt) (Cd ++ pnC b Wt) → hm_ag [80, 82, 83] [54] w w2 → Q none w2) → hb_O yX12_qEndsPart cX12_qEndsPart 1 none (d + 2) [hb_r 12 0 0] w Q
  | [], w, Cd, Q, h, hl, q => by
    have hS := h
    obtain ⟨h1, h2, h3, h4, h5, h6, ⟨h7, h8, h9⟩, h10⟩ := h
    refine bk_X12_qEndsPart_0 ⟨fun y => absurd h1.2.2.1 y, fun _ => ?_⟩
    rw [h7, h5]
    simp only [List.length_nil] at h6
    refine ⟨fun _ => q w ?_ hm_ag.rf, fun y => absurd (nI_le (by simp) (by omega)) y⟩
    have : Cd ++ pnC b [] = Cd := List.append_nil Cd
    rw [this]
    exact hS
  | x :: Wt, w, Cd, Q, h, hl, q => by
    have hS := h
    obtain ⟨h1, h2, h3, h4, h5, h6, ⟨h7, h8, h9⟩, h10⟩ := h
    simp only [List.length_cons] at hl h6
    have hx := h9 x List.mem_cons_self
    have e7 : hb_fI w 12 82 0 = nI (Wt.length + 1) := h7
    have e8 : hb_aI w 12 55 0 Wt.length = nI x := h8.1
    have eW : pnW b (x :: Wt) = if b ≤ Wt.length ∧ 60 ≤ x then pnW b Wt else x :: Wt := rfl
    have eC : pnC b (x :: Wt) = if b ≤ Wt.length ∧ 60 ≤ x then x :: pnC b Wt else [] := rfl
    have stay : ¬ (b ≤ Wt.length ∧ 60 ≤ x) → Q none w := fun y => by
      refine q w ?_ hm_ag.rf
      rw [eW, eC, if_neg y, if_neg y, List.append_nil]
      exact hS
    refine bk_X12_qEndsPart_0 ⟨fun y => absurd h1.2.2.1 y, fun _ => ?_⟩
    rw [e7, h5, nI_leI (by omega) (by omega), nI_pred, nI_clamp (by omega), e8, show (60 : Int32) = nI 60 from rfl, nI_ltI (by omega) (by decide)]
    refine ⟨fun y => stay (by omega), fun y => ⟨vp_in_nI (by omega) (by decide), fun y2 => stay (by omega), fun y2 => ?_⟩⟩
    have eo : opn (x :: Wt) = opn Wt + 1 := by
      show opn Wt + (if 12 ≤ x then 1 else 0) = _
      rw [if_pos (by omega)]
    have e83 : hb_fI w 12 83 0 - 1 = nI (opn Wt) := by rw [h4, eo, nI_pred]
    rw [e83]
    have ha : hm_ag [80, 82, 83] [54] w (hb_pI w 12 83 0 (nI (opn Wt))) := hm_ag.rf.pI (by decide)
    refine om_qDrops (w := hb_pI w 12 83 0 (nI (opn Wt))) (o := opn Wt) (x := x) (Wt := Wt) ⟨h1.ag ha (by decide) (by decide) (by decide) (by decide) (by decide) (by decide), h2.ag ha (by decide), h3, rfl, h5, by simp only [List.length_cons]; omega, ⟨h7, h8, h9⟩, h10⟩ (by omega) (by omega) (fun w2 g1 g2 => bk_X12_qEndsPart_48 ?_)
    refine om_endsPart (Wt := Wt) g1 (by rw [List.length_append, List.length_singleton]; omega) (fun w3 k1 k2 => q w3 ?_ ((ha.tr (g2.wk (by decide) (fun x hx => hx))).tr k2))
    rw [eW, eC, if_pos ⟨by omega, by omega⟩, if_pos ⟨by omega, by omega⟩]
    rw [List.append_assoc] at k1
    exact k1
end HMC
