/-! ===== the model: tests ===== -/
section HMT
variable {d : Nat} {Q : Option hb_V → hb_W → Prop} {w : hb_W} {T : Nat → Nat} {n tk x s p p1 : Nat} {z z1 : Bool} {W Cd D : List Nat}
theorem mU_base (h : mU w T n tk x p z (opn W) W Cd) : mU (hb_pI w 12 84 0 (nI W.length)) T n tk W.length p z (opn W) W Cd := by
  obtain ⟨h1, h2, h3, h4, h5, h6, h7, h8⟩ := h
  have hag : hm_ag [84] [] w (hb_pI w 12 84 0 (nI W.length)) := hm_ag.rf.pI (by decide)
  exact ⟨h1.ag hag (by decide) (by decide) (by decide) (by decide) (by decide) (by decide), h2.ag hag (by decide), h3, h4, rfl, Nat.le_refl _, h7, h8⟩
theorem qs_in (h : mU w T n tk x p z (opn W) W Cd) (hl : Cd.length + W.length + s ≤ p) (q : pE d (nI x) Q w T n tk W.length s p z W Cd) : hb_O yX12_qSums cX12_qSums 3 none (d + 6) [hb_r 12 0 0] w Q := by
  have h5 := h.2.2.2.2.1
  have h7 := h.2.2.2.2.2.2.1.1
  refine bk_X12_qSums_0 ?_
  rw [h5, h7]
  have hS := mU_base h
  exact bk_X12_qSums_15 ⟨fun y => absurd y (by decide), fun _ => ⟨fun y => absurd hS.1.2.2.1 y, fun _ => bk_X12_qPartTold_0 (q _ (hm_ag.rf.pI (by decide)) hS hl)⟩⟩
theorem om_qSums (h : mU w T n tk x p z (opn W) W Cd) (hd : hdS W) (hl : Cd.length + W.length + s ≤ p) (hG : gS T n tk p z (opn W) D p1 z1) (hno : noOp T n p1) (q : ∀ w2, hm_ag kS jS w w2 → mU w2 T n tk x p1 z1 (opn W) W (Cd ++ D) → (Cd ++ D).length + W.length + s ≤ p1 → Q none w2) : hb_O yX12_qSums cX12_qSums 3 none (d + 6) [hb_r 12 0 0] w Q := by
  refine qs_in h hl (hG d (nI x) Q w W.length s W Cd rfl hd (fun V Cd' hV e => ?_))
  refine pA_done h.2.2.2.2.2.1 rfl (fun y hy => by have := hV y hy; omega) rfl hno ?_
  rw [e]
  exact q
theorem om_qSumsX {k pl : Nat} (h : mU w T n tk x p z (opn W) W Cd) (hd : hdS W) (hl : Cd.length + W.length + s ≤ p) (hG : fS T n tk p z (opn W) k pl) (q : ∀ w2, hm_ag kS jS w w2 → mXc w2 k pl → Q none w2) : hb_O yX12_qSums cX12_qSums 3 none (d + 6) [hb_r 12 0 0] w Q := qs_in h hl (hG d (nI x) Q w W.length s W Cd rfl hd q)
end HMT
/-- nots behind a fact -/
def nnW : List Nat → List Nat
  | [] => []
  | x :: W => if x = 12 then nnW W else x :: W
def nnC : List Nat → List Nat
  | [] => []
  | x :: W => if x = 12 then x :: nnC W else []
theorem nn_len : ∀ W : List Nat, (nnC W).length + (nnW W).length = W.length
  | [] => rfl
  | x :: W => by
    have eW : nnW (x :: W) = if x = 12 then nnW W else x :: W := rfl
    have eC : nnC (x :: W) = if x = 12 then x :: nnC W else [] := rfl
    rw [eW, eC]
    by_cases e : x = 12
    · rw [if_pos e, if_pos e]
      have := nn_len W
      simp only [List.length_cons]
      omega
    · rw [if_neg e, if_neg e]
      simp
theorem nn_id {W : List Nat} (h : ¬ W.head? = some 12) : nnW W = W ∧ nnC W = [] := by
  cases W with
  | nil => exact ⟨rfl, rfl⟩
  | cons x W =>
    have eW : nnW (x :: W) = if x = 12 then nnW W else x :: W := rfl
    have eC : nnC (x :: W) = if x = 12 then x :: nnC W else [] := rfl
    have hx : ¬ x = 12 := fun e => h (by rw [e]; rfl)
    rw [eW, eC, if_neg hx, if_neg hx]
    exact ⟨rfl, rfl⟩
section HMN
variable {d : Nat} {T : Nat → Nat} {n tk p : Nat} {z : Bool}
theorem om_dropsNots : ∀ {Wt : List Nat} {w : hb_W} {Cd : List Nat} {Q : Option hb_V → hb_W → Prop}, mU w T n tk 0 p z (opn Wt) Wt Cd → Cd.length + Wt.length ≤ 1600 → (∀ w2, mU w2 T n tk 0 p z (opn (nnW Wt)) (nnW Wt) (Cd ++ nnC Wt) → hm_ag [80, 82, 83] [54] w w2 → Q none w2) → hb_O yX12_qDropsNots cX12_qDropsNots 1 none (d + 2) [hb_r 12 0 0] w Q
  | [], w, Cd, Q, h, hl, q => by
    refine bk_X12_qDropsNots_0 ⟨fun y => absurd h.1.2.2.1 y, fun _ => om_qIsOn (c := 12) (by decide) h (by simp) (fun y => by cases y) (fun _ => bk_X12_qDropsNots_13 ⟨fun _ => q w ?_ hm_ag.rf, fun y => absurd rfl y⟩)⟩
    have : Cd ++ nnC [] = Cd := List.append_nil Cd
    rw [this]
    exact h
  | x :: Wt, w, Cd, Q, h, hl, q => by
    have hS := h
    obtain ⟨h1, h2, h3, h4, h5, h6, ⟨h7, h8, h9⟩, h10⟩ := h
    simp only [List.length_cons] at hl h6
    have eW : nnW (x :: Wt) = if x = 12 then nnW Wt else x :: Wt := rfl
    have eC : nnC (x :: Wt) = if x = 12 then x :: nnC Wt else [] := rfl
    refine bk_X12_qDropsNots_0 ⟨fun y => absurd h1.2.2.1 y, fun _ => om_qIsOn (c := 12) (by decide) hS (by simp only [List.length_cons]; omega) (fun y => bk_X12_qDropsNots_13 ⟨fun u => absurd u (by decide), fun _ => ?_⟩) (fun y => bk_X12_qDropsNots_13 ⟨fun _ => q w ?_ hm_ag.rf, fun u => absurd rfl u⟩)⟩
    · have hx : x = 12 := by simpa using y
      have eo : opn (x :: Wt) = opn Wt + 1 := opn_in (by omega)
      have e83 : hb_fI w 12 83 0 - 1 = nI (opn Wt) := by rw [h4, eo, nI_pred]
      rw [e83]
      have ha : hm_ag [80, 82, 83] [54] w (hb_pI w 12 83 0 (nI (opn Wt))) := hm_ag.rf.pI (by decide)
      refine om_qDrops (w := hb_pI w 12 83 0 (nI (opn Wt))) (o := opn Wt) (x := x) (Wt := Wt) ⟨h1.ag ha (by decide) (by decide) (by decide) (by decide) (by decide) (by decide), h2.ag ha (by decide), h3, rfl, h5, by simp only [List.length_cons]; omega, ⟨h7, h8, h9⟩, h10⟩ (by omega) (by omega) (fun w2 g1 g2 => bk_X12_qDropsNots_30 ?_)
      refine om_dropsNots (Wt := Wt) g1 (by rw [List.length_append, List.length_singleton]; omega) (fun w3 k1 k2 => q w3 ?_ ((ha.tr (g2.wk (by decide) (fun x hx => hx))).tr k2))
      rw [eW, eC, if_pos hx, if_pos hx]
      rw [List.append_assoc] at k1
      exact k1
    · have hx : ¬ x = 12 := fun e => y (by rw [e]; rfl)
      rw [eW, eC, if_neg hx, if_neg hx, List.append_nil]
      exact hS
/-- a square bracket waits -/
theorem om_hasSquare {w : hb_W} {Wt Cd : List Nat} {o : Nat} {Q : Option hb_V → hb_W → Prop} (h : mU w T n tk 0 p z o Wt Cd) (hl : Wt.length ≤ 1600) (q1 : 25 ∈ Wt → Q (some (hb_i 1)) w) (q0 : ¬ 25 ∈ Wt → Q (some (hb_i 0)) w) : hb_O yX12_qHasSquare cX12_qHasSquare 2 (some .boolean) d [hb_r 12 0 0] w Q := by
  obtain ⟨h7, h8, h9⟩ := h.2.2.2.2.2.2.1
  have rd : ∀ {S : List Nat}, stW (hb_aI w 12 55 0) S → ∀ i, i < S.length → hb_aI w 12 55 0 i = nI (S.getD (S.length - 1 - i) 0) := by
    intro S
    induction S with
    | nil => intro _ i hi; simp at hi
    | cons v S ih =>
      intro hS i hi
      simp only [List.length_cons] at hi
      by_cases e : i = S.length
      · subst e
        have : (v :: S).length - 1 - S.length = 0 := by simp
        rw [this]
        exact hS.1
      · have e2 : (v :: S).length - 1 - i = (S.length - 1 - i) + 1 := by simp only [List.length_cons]; omega
        rw [e2, List.getD_cons_succ]
        exact ih hS.2 i (by omega)
  have loop : ∀ (m i : Nat), i + m = Wt.length → (∀ j, j < i → ¬ Wt.getD (Wt.length - 1 - j) 0 = 25) → hb_R yX12_qHasSquare cX12_qHasSquare 2 (some .boolean) d 2 [some (hb_r 12 0 0), some (hb_i (nI i))] [] w Q := by
    intro m
    induction m with
    | zero =>
      intro i hi hj
      refine bk_X12_qHasSquare_2 ?_
      rw [h7]
      refine ⟨fun _ => q0 (fun u => ?_), fun y => absurd (nI_le (by omega) (by omega)) y⟩
      obtain ⟨k, hk, e⟩ := List.getElem_of_mem u
      refine hj (Wt.length - 1 - k) (by omega) ?_
      have : Wt.length - 1 - (Wt.length - 1 - k) = k := by omega
      rw [this, List.getD_eq_getElem?_getD, List.getElem?_eq_getElem hk, e]
      rfl
    | succ m ih =>
      intro i hi hj
      refine bk_X12_qHasSquare_2 ?_
      have hlt : Wt.length - 1 - i < Wt.length := by omega
      have hm : Wt.getD (Wt.length - 1 - i) 0 ∈ Wt := by
        rw [List.getD_eq_getElem?_getD, List.getElem?_eq_getElem hlt]
        exact List.getElem_mem hlt
      have h100 := h9 _ hm
      rw [h7, nI_leI (by omega) (by omega), nI_clamp (by omega), rd h8 i (by omega), nI_1, show (25 : Int32) = nI 25 from rfl, nI_eq (by omega) (by decide)]
      refine ⟨fun y => absurd y (by omega), fun _ => ⟨vp_in_nI (by omega) (by decide), fun y => ih (i + 1) (by omega) (fun j hj' => ?_), fun y => q1 (by rw [← y]; exact hm)⟩⟩
      by_cases e : j = i
      · rw [e]; exact y
      · exact hj j (by omega)
  exact bk_X12_qHasSquare_0 (loop Wt.length 0 (by omega) (fun j hj => by omega))
end HMN
