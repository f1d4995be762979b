/-! ===== the model reads a part ===== -/
theorem pn_len (b : Nat) : ∀ Wt : List Nat, (pnC b Wt).length + (pnW b Wt).length = Wt.length
  | [] => rfl
  | x :: W => by
    have eW : pnW b (x :: W) = if b ≤ W.length ∧ 60 ≤ x then pnW b W else x :: W := rfl
    have eC : pnC b (x :: W) = if b ≤ W.length ∧ 60 ≤ x then x :: pnC b W else [] := rfl
    rw [eW, eC]
    by_cases h : b ≤ W.length ∧ 60 ≤ x
    · rw [if_pos h, if_pos h]
      have := pn_len b W
      simp only [List.length_cons]
      omega
    · rw [if_neg h, if_neg h]
      simp
theorem opn_op {x : Nat} {W : List Nat} (h : x < 12) : opn (x :: W) = opn W := by
  show opn W + (if 12 ≤ x then 1 else 0) = _
  rw [if_neg (by omega)]
  rfl
theorem opn_in {x : Nat} {W : List Nat} (h : 12 ≤ x) : opn (x :: W) = opn W + 1 := by
  show opn W + (if 12 ≤ x then 1 else 0) = _
  rw [if_pos h]
theorem opn_ops {W : List Nat} : ∀ {V : List Nat}, (∀ y ∈ V, y < 12) → opn (V ++ W) = opn W
  | [], _ => rfl
  | y :: V, h => by
    show opn (y :: (V ++ W)) = _
    rw [opn_op (h y List.mem_cons_self), opn_ops (fun u hu => h u (List.mem_cons_of_mem _ hu))]
theorem mD_sign {w : hb_W} {T : Nat → Nat} {n p c : Nat} {z : Bool} (hc : lx_sg c) (h : mD w T n p z) (hs : lx_s T n p c) : mD (hb_pI w 12 2 0 (nI (p + 1))) T n (lx_n T n p) false := by
  obtain ⟨hp, hn, hbl⟩ := h.le
  have k3 := lx_s3 hc hs
  refine ⟨h.1, h.2.1, h.2.2.1, h.2.2.2.1, ⟨p + 1, rfl, by have := hs.1; omega, ?_⟩, ?_⟩
  · unfold lx_n
    rw [lx_E_3 k3]
  · exact mE_sign hp hn (by omega) h.2.2.2.2.2
section HMP
variable {d : Nat} {w : hb_W} {Q : Option hb_V → hb_W → Prop} {T : Nat → Nat} {n tk b p o : Nat} {z : Bool} {Wt Cd : List Nat}
theorem om_hereV {j : Nat} {wd : List Nat} (hq : (j, wd) ∈ wd_voc) (hs : hb_sh 12 j = some (.inr (2, wd.length))) (h : mU w T n tk b p z o Wt Cd) (q1 : lx_W T n p z wd → ∀ w2, mU w2 T n tk b p z o Wt Cd → hb_fI w2 12 2 0 = nI p → hm_ag [2] [] w w2 → Q (some (hb_i 1)) w2) (q0 : ¬ lx_W T n p z wd → ∀ w2, mU w2 T n tk b p z o Wt Cd → hb_fI w2 12 2 0 = nI p → hm_ag [2] [] w w2 → Q (some (hb_i 0)) w2) : hb_O yX12_isHere cX12_isHere 4 (some .boolean) (d + 1) [hb_r 12 0 0, hb_r 12 0 j] w Q := om_isHere hs (wd_ok _ hq) (h.2.1 _ hq) h.1 (fun y w2 g1 g2 g3 => q1 y w2 (h.lex g1 g3 (by decide) (by decide) (by decide) (by decide) (by decide)) g2 g3) (fun y w2 g1 g2 g3 => q0 y w2 (h.lex g1 g3 (by decide) (by decide) (by decide) (by decide) (by decide)) g2 g3)
theorem om_qWordHere (h : mU w T n tk b p z o Wt Cd) (q1 : ∀ k, k < 9 → lx_W T n p z (wq k) → ∀ w2, mU w2 T n tk b p z o Wt Cd → hb_fI w2 12 2 0 = nI p → hm_ag [2] [] w w2 → Q (some (hb_i (nI k))) w2) (q0 : (∀ k, k < 9 → ¬ lx_W T n p z (wq k)) → ∀ w2, mU w2 T n tk b p z o Wt Cd → hb_fI w2 12 2 0 = nI p → hm_ag [2] [] w w2 → Q (some (hb_i (-1))) w2) : hb_O yX12_qWordHere cX12_qWordHere 1 (some .int) (d + 2) [hb_r 12 0 0] w Q := by
  refine bk_X12_qWordHere_0 (om_hereV (wd := wq 0) (by decide) rfl h (fun y w2 g1 g2 g3 => bk_X12_qWordHere_8 ⟨fun u => absurd u (by decide), fun _ => q1 0 (by decide) y w2 g1 g2 g3⟩) (fun n0 w2 g1 g2 g3 => bk_X12_qWordHere_8 ⟨fun _ => ?_, fun u => absurd rfl u⟩))
  refine om_hereV (wd := wq 1) (by decide) rfl g1 (fun y w3 k1 k2 k3 => bk_X12_qWordHere_21 ⟨fun u => absurd u (by decide), fun _ => q1 1 (by decide) y w3 k1 k2 (g3.tr k3)⟩) (fun n1 w3 k1 k2 k3 => bk_X12_qWordHere_21 ⟨fun _ => ?_, fun u => absurd rfl u⟩)
  have a3 := g3.tr k3
  refine om_hereV (wd := wq 2) (by decide) rfl k1 (fun y w4 l1 l2 l3 => bk_X12_qWordHere_34 ⟨fun u => absurd u (by decide), fun _ => q1 2 (by decide) y w4 l1 l2 (a3.tr l3)⟩) (fun n2 w4 l1 l2 l3 => bk_X12_qWordHere_34 ⟨fun _ => ?_, fun u => absurd rfl u⟩)
  have a4 := a3.tr l3
  refine om_hereV (wd := wq 3) (by decide) rfl l1 (fun y w5 m1 m2 m3 => bk_X12_qWordHere_47 ⟨fun u => absurd u (by decide), fun _ => q1 3 (by decide) y w5 m1 m2 (a4.tr m3)⟩) (fun n3 w5 m1 m2 m3 => bk_X12_qWordHere_47 ⟨fun _ => ?_, fun u => absurd rfl u⟩)
  have a5 := a4.tr m3
  refine om_hereV (wd := wq 4) (by decide) rfl m1 (fun y w6 r1 r2 r3 => bk_X12_qWordHere_60 ⟨fun u => absurd u (by decide), fun _ => q1 4 (by decide) y w6 r1 r2 (a5.tr r3)⟩) (fun n4 w6 r1 r2 r3 => bk_X12_qWordHere_60 ⟨fun _ => ?_, fun u => absurd rfl u⟩)
  have a6 := a5.tr r3
  refine om_hereV (wd := wq 5) (by decide) rfl r1 (fun y w7 s1 s2 s3 => bk_X12_qWordHere_73 ⟨fun u => absurd u (by decide), fun _ => q1 5 (by decide) y w7 s1 s2 (a6.tr s3)⟩) (fun n5 w7 s1 s2 s3 => bk_X12_qWordHere_73 ⟨fun _ => ?_, fun u => absurd rfl u⟩)
  have a7 := a6.tr s3
  refine om_hereV (wd := wq 6) (by decide) rfl s1 (fun y w8 t1 t2 t3 => bk_X12_qWordHere_86 ⟨fun u => absurd u (by decide), fun _ => q1 6 (by decide) y w8 t1 t2 (a7.tr t3)⟩) (fun n6 w8 t1 t2 t3 => bk_X12_qWordHere_86 ⟨fun _ => ?_, fun u => absurd rfl u⟩)
  have a8 := a7.tr t3
  refine om_hereV (wd := wq 7) (by decide) rfl t1 (fun y w9 u1 u2 u3 => bk_X12_qWordHere_100 ⟨fun u => absurd u (by decide), fun _ => q1 7 (by decide) y w9 u1 u2 (a8.tr u3)⟩) (fun n7 w9 u1 u2 u3 => bk_X12_qWordHere_100 ⟨fun _ => ?_, fun u => absurd rfl u⟩)
  have a9 := a8.tr u3
  refine om_hereV (wd := wq 8) (by decide) rfl u1 (fun y wA v1 v2 v3 => bk_X12_qWordHere_114 ⟨fun u => absurd u (by decide), fun _ => q1 8 (by decide) y wA v1 v2 (a9.tr v3)⟩) (fun n8 wA v1 v2 v3 => bk_X12_qWordHere_114 ⟨fun _ => q0 (fun k hk => ?_) wA v1 v2 (a9.tr v3), fun u => absurd rfl u⟩)
  have : k = 0 ∨ k = 1 ∨ k = 2 ∨ k = 3 ∨ k = 4 ∨ k = 5 ∨ k = 6 ∨ k = 7 ∨ k = 8 := by omega
  rcases this with rfl | rfl | rfl | rfl | rfl | rfl | rfl | rfl | rfl
  · exact n0
  · exact n1
  · exact n2
  · exact n3
  · exact n4
  · exact n5
  · exact n6
  · exact n7
  · exact n8
theorem om_isAllowed {k : Nat} (htk : tk < 3) (hk : k < 9) (h31 : hb_fI w 12 31 0 = nI tk) (q1 : alw tk k → Q (some (hb_i 1)) w) (q0 : ¬ alw tk k → Q (some (hb_i 0)) w) : hb_O yX12_isAllowed cX12_isAllowed 2 (some .boolean) d [hb_r 12 0 0, hb_i (nI k)] w Q := by
  unfold alw at q1 q0
  refine bk_X12_isAllowed_0 ?_
  rw [h31, show (0 : Int32) = nI 0 from rfl, show (1 : Int32) = nI 1 from rfl, show (2 : Int32) = nI 2 from rfl, show (3 : Int32) = nI 3 from rfl, nI_eq (by omega) (by decide), nI_eq (by omega) (by decide), nI_eq (by omega) (by decide), nI_leI (by omega) (by decide), nI_eq (by omega) (by decide), nI_eq (by omega) (by decide), nI_leI (by decide) (by omega)]
  refine ⟨fun y => ⟨fun y1 => ⟨fun y2 => q1 (by omega), fun y2 => ⟨fun y3 => q0 (by omega), fun y3 => q1 (by omega)⟩⟩, fun y1 => ⟨fun y2 => q1 (by omega), fun y2 => ⟨fun y3 => q1 (by omega), fun y3 => ⟨fun y4 => q0 (by omega), fun y4 => q1 (by omega)⟩⟩⟩⟩, fun y => ⟨fun y1 => q0 (by omega), fun y1 => q1 (by omega)⟩⟩
theorem om_qWordOf {a c : Nat} (htk : tk < 3) (hc : c ≤ 9) (h : mU w T n tk b p z o Wt Cd) (q1 : ∀ k, a ≤ k → k < c → lx_W T n p z (wq k) → alw tk k → ∀ w2, mU w2 T n tk b p z o Wt Cd → hb_fI w2 12 2 0 = nI p → hm_ag [2] [] w w2 → Q (some (hb_i (nI k))) w2) (q0 : (∀ k, a ≤ k → k < c → ¬ (lx_W T n p z (wq k) ∧ alw tk k)) → ∀ w2, mU w2 T n tk b p z o Wt Cd → hb_fI w2 12 2 0 = nI p → hm_ag [2] [] w w2 → Q (some (hb_i (-1))) w2) (ha : a ≤ 9) : hb_O yX12_qWordOf cX12_qWordOf 4 (some .int) (d + 3) [hb_r 12 0 0, hb_i (nI a), hb_i (nI c)] w Q := by
  refine bk_X12_qWordOf_0 (om_qWordHere h (fun k hk hW w2 g1 g2 g3 => bk_X12_qWordOf_4 ?_) (fun hN w2 g1 g2 g3 => bk_X12_qWordOf_4 ⟨fun _ => q0 (fun k k1 k2 y => hN k (by omega) y.1) w2 g1 g2 g3, fun y => ?_⟩))
  · have uniq : ∀ j, j < 9 → lx_W T n p z (wq j) → j = k := fun j hj y => wq_inj j hj k hk (lx_W_u y hW)
    rw [nI_ltI (by omega) (by omega), nI_leI (by omega) (by omega)]
    refine ⟨fun y => q0 (fun j j1 j2 u => by have := uniq j (by omega) u.1; omega) w2 g1 g2 g3, fun y => ⟨fun y2 => q0 (fun j j1 j2 u => by have := uniq j (by omega) u.1; omega) w2 g1 g2 g3, fun y2 => ?_⟩⟩
    refine om_isAllowed htk hk g1.2.2.1 (fun u => bk_X12_qWordOf_20 ⟨fun v => absurd v (by decide), fun _ => q1 k (by omega) (by omega) hW u w2 g1 g2 g3⟩) (fun u => bk_X12_qWordOf_20 ⟨fun _ => q0 (fun j j1 j2 v => ?_) w2 g1 g2 g3, fun v => absurd rfl v⟩)
    have := uniq j (by omega) v.1
    subst this
    exact u v.2
  · exfalso
    apply y
    rw [Int32.lt_iff_toInt_lt, nI_toInt (by omega)]
    have : (-1 : Int32).toInt = -1 := by decide
    omega
theorem om_asksV {j : Nat} {wd : List Nat} (hq : (j, wd) ∈ wd_voc) (hs : hb_sh 12 j = some (.inr (2, wd.length))) (hW : lx_W T n p z wd) (h : mU w T n tk b p z o Wt Cd) (q : ∀ w2, mU w2 T n tk b (lx_n T n p) (lx_z T n p) o Wt Cd → hm_ag [2, 4, 5, 6] [] w w2 → Q none w2) : hb_O yX12_asks cX12_asks 2 none (d + 3) [hb_r 12 0 0, hb_r 12 0 j] w Q := om_asks hs (wd_ok _ hq) (h.2.1 _ hq) h.1 (fun y w2 g1 g2 => q w2 (h.lex g1 g2 (by decide) (by decide) (by decide) (by decide) (by decide)) g2) (fun y => absurd hW y)
theorem om_qAsksWord {k : Nat} (hk : k < 9) (hW : lx_W T n p z (wq k)) (h : mU w T n tk b p z o Wt Cd) (q : ∀ w2, mU w2 T n tk b (lx_n T n p) (lx_z T n p) o Wt Cd → hm_ag [2, 4, 5, 6] [] w w2 → Q none w2) : hb_O yX12_qAsksWord cX12_qAsksWord 2 none (d + 4) [hb_r 12 0 0, hb_i (nI k)] w Q := by
  have : k = 0 ∨ k = 1 ∨ k = 2 ∨ k = 3 ∨ k = 4 ∨ k = 5 ∨ k = 6 ∨ k = 7 ∨ k = 8 := by omega
  have N : ∀ {A : Prop} {a c : Int32}, ¬ a = c → a = c → A := fun h y => absurd y h
  rcases this with rfl | rfl | rfl | rfl | rfl | rfl | rfl | rfl | rfl
  · exact bk_X12_qAsksWord_0 ⟨fun _ => om_asksV (by decide) rfl hW h (fun w2 g1 g2 => bk_X12_qAsksWord_56 (bk_X12_qAsksWord_144 (q w2 g1 g2))), N (by decide), N (by decide), N (by decide), N (by decide), N (by decide), N (by decide), N (by decide), fun y => absurd rfl y⟩
  · exact bk_X12_qAsksWord_0 ⟨N (by decide), fun _ => om_asksV (by decide) rfl hW h (fun w2 g1 g2 => bk_X12_qAsksWord_67 (bk_X12_qAsksWord_144 (q w2 g1 g2))), N (by decide), N (by decide), N (by decide), N (by decide), N (by decide), N (by decide), fun _ y => absurd rfl y⟩
  · exact bk_X12_qAsksWord_0 ⟨N (by decide), N (by decide), fun _ => om_asksV (by decide) rfl hW h (fun w2 g1 g2 => bk_X12_qAsksWord_78 (bk_X12_qAsksWord_144 (q w2 g1 g2))), N (by decide), N (by decide), N (by decide), N (by decide), N (by decide), fun _ _ y => absurd rfl y⟩
  · exact bk_X12_qAsksWord_0 ⟨N (by decide), N (by decide), N (by decide), fun _ => om_asksV (by decide) rfl hW h (fun w2 g1 g2 => bk_X12_qAsksWord_89 (bk_X12_qAsksWord_144 (q w2 g1 g2))), N (by decide), N (by decide), N (by decide), N (by decide), fun _ _ _ y => absurd rfl y⟩
  · exact bk_X12_qAsksWord_0 ⟨N (by decide), N (by decide), N (by decide), N (by decide), fun _ => om_asksV (by decide) rfl hW h (fun w2 g1 g2 => bk_X12_qAsksWord_100 (bk_X12_qAsksWord_144 (q w2 g1 g2))), N (by decide), N (by decide), N (by decide), fun _ _ _ _ y => absurd rfl y⟩
  · exact bk_X12_qAsksWord_0 ⟨N (by decide), N (by decide), N (by decide), N (by decide), N (by decide), fun _ => om_asksV (by decide) rfl hW h (fun w2 g1 g2 => bk_X12_qAsksWord_111 (bk_X12_qAsksWord_144 (q w2 g1 g2))), N (by decide), N (by decide), fun _ _ _ _ _ y => absurd rfl y⟩
  · exact bk_X12_qAsksWord_0 ⟨N (by decide), N (by decide), N (by decide), N (by decide), N (by decide), N (by decide), fun _ => om_asksV (by decide) rfl hW h (fun w2 g1 g2 => bk_X12_qAsksWord_122 (bk_X12_qAsksWord_144 (q w2 g1 g2))), N (by decide), fun _ _ _ _ _ _ y => absurd rfl y⟩
  · exact bk_X12_qAsksWord_0 ⟨N (by decide), N (by decide), N (by decide), N (by decide), N (by decide), N (by decide), N (by decide), fun _ => om_asksV (by decide) rfl hW h (fun w2 g1 g2 => bk_X12_qAsksWord_133 (bk_X12_qAsksWord_144 (q w2 g1 g2))), fun _ _ _ _ _ _ _ y => absurd rfl y⟩
  · exact bk_X12_qAsksWord_0 ⟨N (by decide), N (by decide), N (by decide), N (by decide), N (by decide), N (by decide), N (by decide), N (by decide), fun _ _ _ _ _ _ _ _ => om_asksV (by decide) rfl hW h (fun w2 g1 g2 => bk_X12_qAsksWord_144 (q w2 g1 g2))⟩
theorem om_qAsksWordX {k : Int32} (h : ¬ hb_fI w 12 5 0 = 0) (q : Q none w) : hb_O yX12_qAsksWord cX12_qAsksWord 2 none (d + 2) [hb_r 12 0 0, hb_i k] w Q := bk_X12_qAsksWord_0 ⟨fun _ => om_asksX rfl h (bk_X12_qAsksWord_56 (bk_X12_qAsksWord_144 q)), fun _ => om_asksX rfl h (bk_X12_qAsksWord_67 (bk_X12_qAsksWord_144 q)), fun _ => om_asksX rfl h (bk_X12_qAsksWord_78 (bk_X12_qAsksWord_144 q)), fun _ => om_asksX rfl h (bk_X12_qAsksWord_89 (bk_X12_qAsksWord_144 q)), fun _ => om_asksX rfl h (bk_X12_qAsksWord_100 (bk_X12_qAsksWord_144 q)), fun _ => om_asksX rfl h (bk_X12_qAsksWord_111 (bk_X12_qAsksWord_144 q)), fun _ => om_asksX rfl h (bk_X12_qAsksWord_122 (bk_X12_qAsksWord_144 q)), fun _ => om_asksX rfl h (bk_X12_qAsksWord_133 (bk_X12_qAsksWord_144 q)), fun _ _ _ _ _ _ _ _ => om_asksX rfl h (bk_X12_qAsksWord_144 q)⟩
theorem om_qOpens {x pl : Nat} (hx : x < 100) (hl : Wt.length < 1600) (ho : o ≤ 6) (h : mU w T n tk b p z o Wt Cd) (q1 : o < 6 → ∀ w2, mU w2 T n tk b p z (o + 1) (x :: Wt) Cd → hm_ag [82, 83] [55] w w2 → Q none w2) (q0 : o = 6 → ∀ w2, mX w2 4 pl → hm_ag [5, 6] [] w w2 → Q none w2) : hb_O yX12_qOpens cX12_qOpens 3 none (d + 1) [hb_r 12 0 0, hb_i (nI x), hb_i (nI pl)] w Q := by
  obtain ⟨h1, h2, h3, h4, h5, h6, ⟨h7, h8, h9⟩, h10⟩ := h
  refine bk_X12_qOpens_0 ⟨fun _ => ?_, fun y => absurd h1.2.2.1 y⟩
  rw [h4, h7, show (6 : Int32) = nI 6 from rfl, nI_eq (by omega) (by decide), nI_clamp (by omega), nI_1, nI_1]
  refine ⟨fun y => ⟨vp_in_nI (by omega) (by decide), ?_⟩, fun y => om_fail (k := 4) h1.2.2.1 (fun w2 g1 g2 => bk_X12_qOpens_23 (q0 y w2 g1 g2))⟩
  have ha : hm_ag [82, 83] [55] w (hb_pI (hb_sI (hb_pI w 12 83 0 (nI (o + 1))) 12 55 0 (upd (hb_aI w 12 55 0) Wt.length (nI x))) 12 82 0 (nI (Wt.length + 1))) := ((hm_ag.rf.pI (by decide)).sI (by decide)).pI (by decide)
  refine q1 (by omega) _ ⟨h1.ag ha (by decide) (by decide) (by decide) (by decide) (by decide) (by decide), h2.ag ha (by decide), h3, rfl, h5, by simp only [List.length_cons]; omega, ⟨rfl, stW_push h8, fun y hy => ?_⟩, h10⟩ ha
  rcases List.mem_cons.mp hy with u | u
  · rw [u]; exact hx
  · exact h9 y u
end HMP
