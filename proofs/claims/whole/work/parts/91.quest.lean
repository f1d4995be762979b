/-! ===== questions: what class and model make of a text ===== -/
def wk : Nat → List Nat := fun k => [wd_first, wd_last, wd_often, wd_total, wd_most, wd_least].getD k []
def rq (d : Nat) (Q : Option hb_V → hb_W → Prop) : Option hb_V → hb_W → Prop := fun rv w1 => hb_R yX12_ask cX12_ask 3 (some .long) (d + 9) 78 [some (hb_r 12 0 0), none, none] (rv.toList ++ []) w1 Q
def rqT (d k : Nat) (Q : Option hb_V → hb_W → Prop) (w : hb_W) : Prop := hb_R yX12_ask cX12_ask 3 (some .long) (d + 9) 133 [some (hb_r 12 0 0), some (hb_i (nI k)), none] [] w Q
def rqE (d : Nat) (Q : Option hb_V → hb_W → Prop) (w : hb_W) : Prop := hb_O yX12_qKind cX12_qKind 2 (some .int) (d + 8) [hb_r 12 0 0] w (rq d Q)
def gQ (T : Nat → Nat) (n k : Nat) (C : List Nat) : Prop := ∀ (d : Nat) (Q : Option hb_V → hb_W → Prop) (w : hb_W), mU w T n 2 0 (lx_S T n 0) false 0 [] [] → (∀ w2, hm_ag kS jS w w2 → hb_fI w2 12 5 0 = 0 → hb_fI w2 12 6 0 = -1 → mQ w2 C → rqT d k Q w2) → rqE d Q w
def fQ (T : Nat → Nat) (n k pl : Nat) : Prop := ∀ (d : Nat) (Q : Option hb_V → hb_W → Prop) (w : hb_W), mU w T n 2 0 (lx_S T n 0) false 0 [] [] → (∀ j w2, hm_ag kS jS w w2 → mX w2 k pl → rqT d j Q w2) → rqE d Q w
section HQU
variable {d : Nat} {Q : Option hb_V → hb_W → Prop} {w : hb_W} {T : Nat → Nat} {n tk b p o : Nat} {z : Bool} {Wt Cd : List Nat}
theorem om_takesV {j : Nat} {wd : List Nat} (hq : (j, wd) ∈ wd_voc) (hs : hb_sh 12 j = some (.inr (2, wd.length))) (h : mU w T n tk b p z o Wt Cd) (q1 : lx_W T n p z wd → ∀ w2, mU w2 T n tk b (lx_n T n p) (lx_z T n p) o Wt Cd → hm_ag [2, 4] [] w w2 → Q (some (hb_i 1)) w2) (q0 : ¬ lx_W T n p z wd → ∀ w2, mU w2 T n tk b p z o Wt Cd → hb_fI w2 12 2 0 = nI p → hm_ag [2, 4] [] w w2 → Q (some (hb_i 0)) w2) : hb_O yX12_takes cX12_takes 2 (some .boolean) (d + 2) [hb_r 12 0 0, hb_r 12 0 j] w Q := om_takes hs (wd_ok _ hq) (h.2.1 _ hq) h.1 (fun y w2 g1 g2 => q1 y w2 (h.lex g1 g2 (by decide) (by decide) (by decide) (by decide) (by decide)) g2) (fun y w2 g1 g2 g3 => q0 y w2 (h.lex g1 g3 (by decide) (by decide) (by decide) (by decide) (by decide)) g2 g3)
theorem om_qKind (h : mU w T n tk b p z o Wt Cd) (q1 : ∀ k, k < 6 → lx_W T n p z (wk k) → ∀ w2, mU w2 T n tk b (lx_n T n p) (lx_z T n p) o Wt Cd → hm_ag [2, 4, 5, 6] [] w w2 → Q (some (hb_i (nI k))) w2) (q0 : (∀ k, k < 6 → ¬ lx_W T n p z (wk k)) → ∀ w2, mX w2 1 p → hm_ag [2, 4, 5, 6] [] w w2 → Q (some (hb_i (nI 5))) w2) : hb_O yX12_qKind cX12_qKind 2 (some .int) (d + 4) [hb_r 12 0 0] w Q := by
  have up : ∀ {w1 w2 : hb_W}, hm_ag [2, 4] [] w1 w2 → hm_ag [2, 4, 5, 6] [] w1 w2 := fun h => h.wk (by decide) (by decide)
  refine bk_X12_qKind_0 (om_takesV (wd := wd_first) (by decide) rfl h (fun y w2 g1 g2 => bk_X12_qKind_8 ⟨fun u => absurd u (by decide), fun _ => ⟨fun _ => bk_X12_qKind_90 (q1 0 (by decide) y w2 g1 (up g2)), fun u => absurd u (by decide)⟩⟩) (fun n0 w1 f1 f2 f3 => bk_X12_qKind_8 ⟨fun _ => ?_, fun u => absurd rfl u⟩))
  refine om_takesV (wd := wd_last) (by decide) rfl f1 (fun y w2 g1 g2 => bk_X12_qKind_23 ⟨fun u => absurd u (by decide), fun _ => ⟨fun _ => bk_X12_qKind_90 (q1 1 (by decide) y w2 g1 (up (f3.tr g2))), fun u => absurd u (by decide)⟩⟩) (fun n1 w2 g1 g2 g3 => bk_X12_qKind_23 ⟨fun _ => ?_, fun u => absurd rfl u⟩)
  have a2 := f3.tr g3
  refine om_takesV (wd := wd_often) (by decide) rfl g1 (fun y w3 k1 k2 => bk_X12_qKind_38 ⟨fun u => absurd u (by decide), fun _ => ⟨fun _ => bk_X12_qKind_90 (q1 2 (by decide) y w3 k1 (up (a2.tr k2))), fun u => absurd u (by decide)⟩⟩) (fun n2 w3 k1 k2 k3 => bk_X12_qKind_38 ⟨fun _ => ?_, fun u => absurd rfl u⟩)
  have a3 := a2.tr k3
  refine om_takesV (wd := wd_total) (by decide) rfl k1 (fun y w4 l1 l2 => bk_X12_qKind_53 ⟨fun u => absurd u (by decide), fun _ => ⟨fun _ => bk_X12_qKind_90 (q1 3 (by decide) y w4 l1 (up (a3.tr l2))), fun u => absurd u (by decide)⟩⟩) (fun n3 w4 l1 l2 l3 => bk_X12_qKind_53 ⟨fun _ => ?_, fun u => absurd rfl u⟩)
  have a4 := a3.tr l3
  refine om_takesV (wd := wd_most) (by decide) rfl l1 (fun y w5 m1 m2 => bk_X12_qKind_68 ⟨fun u => absurd u (by decide), fun _ => ⟨fun _ => bk_X12_qKind_90 (q1 4 (by decide) y w5 m1 (up (a4.tr m2))), fun u => absurd u (by decide)⟩⟩) (fun n4 w5 m1 m2 m3 => bk_X12_qKind_68 ⟨fun _ => ⟨fun u => absurd rfl u, fun _ => ?_⟩, fun u => absurd rfl u⟩)
  have a5 := up (a4.tr m3)
  refine om_asks (wd := wd_least) rfl (wd_ok (38, wd_least) (by decide)) (m1.2.1 (38, wd_least) (by decide)) m1.1 (fun y w6 r1 r2 => bk_X12_qKind_90 (q1 5 (by decide) y w6 (m1.lex r1 r2 (by decide) (by decide) (by decide) (by decide) (by decide)) (a5.tr r2))) (fun n5 w6 r1 r2 => bk_X12_qKind_90 (q0 (fun k hk y => ?_) w6 r1 (a5.tr r2)))
  have : k = 0 ∨ k = 1 ∨ k = 2 ∨ k = 3 ∨ k = 4 ∨ k = 5 := by omega
  rcases this with rfl | rfl | rfl | rfl | rfl | rfl
  · exact n0 y
  · exact n1 y
  · exact n2 y
  · exact n3 y
  · exact n4 y
  · exact n5 y
end HQU
section HQV
variable {T : Nat → Nat} {n k p1 : Nat} {z1 : Bool} {D : List Nat}
theorem wk_inj : ∀ i, i < 6 → ∀ j, j < 6 → wk i = wk j → i = j := by decide
theorem fQ_kind (h : ∀ k, k < 6 → ¬ lx_W T n (lx_S T n 0) false (wk k)) : fQ T n 1 (lx_S T n 0) := by
  intro d Q w hS q
  refine om_qKind hS (fun k hk hW => absurd hW (h k hk)) (fun _ w2 g1 g2 => ?_)
  have a2 : hm_ag kS jS w w2 := g2.wk (by decide) (by decide)
  have h5 := g1.ne (by decide) (by decide)
  exact bk_X12_ask_78 ⟨fun _ => ⟨fun _ => bk_X12_ask_109 ⟨fun _ => q 5 w2 a2 g1, fun y => absurd y h5⟩, fun y => absurd y h5⟩, fun y => absurd y h5⟩
/-- behind the reading: the end of the text -/
theorem rq_end {d : Nat} {Q : Option hb_V → hb_W → Prop} {w w2 : hb_W} {p1 : Nat} (ha : hm_ag kS jS w w2) (hS : mU w2 T n 2 0 p1 z1 0 [] D) (hl : D.length ≤ p1) (qG : ¬ p1 < n → ∀ w3, hm_ag kS jS w w3 → hb_fI w3 12 5 0 = 0 → hb_fI w3 12 6 0 = -1 → mQ w3 D → rqT d k Q w3) (qX : p1 < n → ∀ w3, hm_ag kS jS w w3 → mX w3 1 p1 → rqT d k Q w3) : hb_R yX12_ask cX12_ask 3 (some .long) (d + 9) 109 [some (hb_r 12 0 0), some (hb_i (nI k)), none] [] w2 Q := by
  have hn := hS.1.le
  refine bk_X12_ask_109 ⟨fun y => absurd hS.1.2.2.1 y, fun _ => om_look hS.1 (fun w3 g1 g2 g3 => ?_)⟩
  have a3 : hm_ag kS jS w w3 := ha.tr (g3.wk (by decide) (by decide))
  have hS3 := mU_sign hS g1 g3
  by_cases e : p1 < n
  · rw [if_pos e]
    refine bk_X12_ask_120 ⟨fun y => absurd y (hx_ne (by have := (g1.1.2 p1 e).2; omega)), fun _ => ?_⟩
    rw [g2]
    exact om_fail (k := 1) g1.2.2.1 (fun w4 k1 k2 => qX e w4 (a3.tr (k2.wk (by decide) (by decide))) k1)
  · rw [if_neg e]
    refine bk_X12_ask_120 ⟨fun _ => qG e w3 a3 g1.2.2.1 g1.2.2.2.1 ?_, fun y => absurd rfl y⟩
    exact ⟨hS3.2.2.2.2.2.2.2.1, by omega, hS3.2.2.2.2.2.2.2.2⟩
theorem rq_bad {d : Nat} {Q : Option hb_V → hb_W → Prop} {w2 : hb_W} {kf pl : Nat} (hx : mX w2 kf pl) (hk : 0 < kf) (hk2 : kf < 10) (q : rqT d k Q w2) : hb_R yX12_ask cX12_ask 3 (some .long) (d + 9) 109 [some (hb_r 12 0 0), some (hb_i (nI k)), none] [] w2 Q := bk_X12_ask_109 ⟨fun _ => q, fun y => absurd y (hx.ne hk hk2)⟩
theorem hdT_nil : hdT [] := ⟨⟨fun c hc => (by simp at hc), by simp, by simp⟩, by simp⟩
theorem q_test (hk : k < 3) (hW : lx_W T n (lx_S T n 0) false (wk k)) (h : gT T n 2 (lx_n T n (lx_S T n 0)) (lx_z T n (lx_S T n 0)) 0 D p1 z1) (na : ¬ lx_W T n p1 z1 wd_and) (no : ¬ lx_W T n p1 z1 wd_or) : (¬ p1 < n → gQ T n k D) ∧ (p1 < n → fQ T n 1 p1) := by
  have go : ∀ (d : Nat) (Q : Option hb_V → hb_W → Prop) (w : hb_W), mU w T n 2 0 (lx_S T n 0) false 0 [] [] → (¬ p1 < n → ∀ w3, hm_ag kS jS w w3 → hb_fI w3 12 5 0 = 0 → hb_fI w3 12 6 0 = -1 → mQ w3 D → rqT d k Q w3) → (p1 < n → ∀ w3, hm_ag kS jS w w3 → mX w3 1 p1 → rqT d k Q w3) → rqE d Q w := by
    intro d Q w hS qG qX
    refine om_qKind hS (fun j hj hWj w2 g1 g2 => ?_) (fun hno => absurd hW (hno k (by omega)))
    have : j = k := wk_inj j hj k (by omega) (lx_W_u hWj hW)
    subst this
    refine bk_X12_ask_78 ⟨fun y => absurd g1.1.2.2.1 y, fun _ => ⟨fun y => absurd y (nI_ge (b := 3) (by omega) (by decide)), fun _ => bk_X12_qTest_0 ?_⟩⟩
    refine h d _ w2 0 [] [] rfl hdT_nil (fun V Cd' hV e => ?_) w2 hm_ag.rf g1 (Nat.zero_le _)
    rw [List.append_nil]
    refine tA_done (fun y hy => by have := hV y hy; omega) na no (fun w3 l1 l2 l3 => bk_X12_ask_95 ?_)
    rw [e, List.nil_append] at l2 l3
    exact rq_end ((g2.wk (by decide) (by decide)).tr l1) l2 l3 qG qX
  exact ⟨fun y d Q w hS q => go d Q w hS (fun _ => q) (fun u => absurd u y), fun y d Q w hS q => go d Q w hS (fun u => absurd y u) (fun _ => q k)⟩
theorem q_testX {kf pl : Nat} (hk : k < 3) (hW : lx_W T n (lx_S T n 0) false (wk k)) (hkf : 0 < kf) (hkf2 : kf < 10) (h : fT T n 2 (lx_n T n (lx_S T n 0)) (lx_z T n (lx_S T n 0)) 0 kf pl) : fQ T n kf pl := by
  intro d Q w hS q
  refine om_qKind hS (fun j hj hWj w2 g1 g2 => ?_) (fun hno => absurd hW (hno k (by omega)))
  have : j = k := wk_inj j hj k (by omega) (lx_W_u hWj hW)
  subst this
  refine bk_X12_ask_78 ⟨fun y => absurd g1.1.2.2.1 y, fun _ => ⟨fun y => absurd y (nI_ge (b := 3) (by omega) (by decide)), fun _ => bk_X12_qTest_0 ?_⟩⟩
  exact h d _ w2 0 [] [] rfl hdT_nil (fun w3 l1 l2 => bk_X12_ask_95 (rq_bad l2 hkf hkf2 (q j w3 ((g2.wk (by decide) (by decide)).tr l1) l2))) w2 hm_ag.rf g1 (Nat.zero_le _)
theorem q_sum (hk : 3 ≤ k) (hk6 : k < 6) (hW : lx_W T n (lx_S T n 0) false (wk k)) (h : gS T n 2 (lx_n T n (lx_S T n 0)) (lx_z T n (lx_S T n 0)) 0 D p1 z1) (hno : noOp T n p1) : (¬ p1 < n → gQ T n k D) ∧ (p1 < n → fQ T n 1 p1) := by
  have go : ∀ (d : Nat) (Q : Option hb_V → hb_W → Prop) (w : hb_W), mU w T n 2 0 (lx_S T n 0) false 0 [] [] → (¬ p1 < n → ∀ w3, hm_ag kS jS w w3 → hb_fI w3 12 5 0 = 0 → hb_fI w3 12 6 0 = -1 → mQ w3 D → rqT d k Q w3) → (p1 < n → ∀ w3, hm_ag kS jS w w3 → mX w3 1 p1 → rqT d k Q w3) → rqE d Q w := by
    intro d Q w hS qG qX
    refine om_qKind hS (fun j hj hWj w2 g1 g2 => ?_) (fun hno => absurd hW (hno k (by omega)))
    have : j = k := wk_inj j hj k (by omega) (lx_W_u hWj hW)
    subst this
    refine bk_X12_ask_78 ⟨fun y => absurd g1.1.2.2.1 y, fun _ => ⟨fun _ => ⟨fun y => absurd g1.1.2.2.1 y, fun _ => ?_⟩, fun y => absurd (nI_le hk (by omega)) y⟩⟩
    refine om_qSums (W := []) (s := 0) g1 hdT_nil.1.1 (Nat.zero_le _) h hno (fun w3 l1 l2 l3 => ?_)
    rw [List.nil_append] at l2 l3
    exact rq_end ((g2.wk (by decide) (by decide)).tr l1) l2 l3 qG qX
  exact ⟨fun y d Q w hS q => go d Q w hS (fun _ => q) (fun u => absurd u y), fun y d Q w hS q => go d Q w hS (fun u => absurd y u) (fun _ => q k)⟩
theorem q_sumX {kf pl : Nat} (hk : 3 ≤ k) (hk6 : k < 6) (hW : lx_W T n (lx_S T n 0) false (wk k)) (hkf : 0 < kf) (hkf2 : kf < 10) (h : fS T n 2 (lx_n T n (lx_S T n 0)) (lx_z T n (lx_S T n 0)) 0 kf pl) : fQ T n kf pl := by
  intro d Q w hS q
  refine om_qKind hS (fun j hj hWj w2 g1 g2 => ?_) (fun hno => absurd hW (hno k (by omega)))
  have : j = k := wk_inj j hj k (by omega) (lx_W_u hWj hW)
  subst this
  refine bk_X12_ask_78 ⟨fun y => absurd g1.1.2.2.1 y, fun _ => ⟨fun _ => ⟨fun y => absurd g1.1.2.2.1 y, fun _ => ?_⟩, fun y => absurd (nI_le hk (by omega)) y⟩⟩
  exact om_qSumsX (W := []) (s := 0) g1 hdT_nil.1.1 (Nat.zero_le _) h (fun w3 l1 l2 => rq_bad l2.1 hkf hkf2 (q j w3 ((g2.wk (by decide) (by decide)).tr l1) l2.1))
end HQV
