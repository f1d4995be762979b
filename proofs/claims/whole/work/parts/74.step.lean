/-! ===== the class's Reader ===== -/
section HST
variable {d : Nat} {w : hb_W} {Q : Option hb_V → hb_W → Prop}
set_option maxHeartbeats 2000000 in
theorem ok_step0 {T : Nat → Nat} {n κ e0 : Nat} (h : cTx w T n) (h1 : hb_fI w 3 1 0 = nI κ) (hκ : κ ≤ 4) (h5 : hb_fI w 3 5 0 = nI e0) (he : e0 ≤ n) (hm : κ = 1 ∨ κ = 2 → ¬ lx_k T n e0 = κ)
    (q : ∀ w2, rD w2 T n (lx_S T n e0) (decide (lx_S T n e0 = e0 ∧ (κ = 1 ∨ κ = 2))) → hb_fI w2 3 6 0 = hb_fI w 3 6 0 → hb_fI w2 3 7 0 = hb_fI w 3 7 0 → hw_ag (fun t _ => t = 3) w w2 → w2.2.2.1 = w.2.2.1 → Q none w2) : hb_O yX7_step cX7_step 4 none (d + 1) [hb_r 3 0 0] w Q := by
  have hn := h.2.1
  have hT : ∀ k, k < n → T k < 256 := fun k hk => (h.2.2 k hk).2
  have p3 : (fun t (_ : Nat) => t = 3) 3 0 := rfl
  obtain ⟨s1, s2, s3, s4⟩ := lx_S_sp (T := T) he
  generalize hp : lx_S T n e0 = p at *
  have hkl := lx_k_le T n p
  have hE := lx_E_le (T := T) s2
  -- at the end: the word
  have fin : ∀ (w' : hb_W) (x1 x2 x3 : Int32), hb_fI w' 3 1 0 = nI (if decide (p = e0 ∧ (κ = 1 ∨ κ = 2)) = true ∧ (lx_k T n p = 1 ∨ lx_k T n p = 2) then 4 else lx_k T n p) → hb_fI w' 3 2 0 = nI (lx_h T p (lx_E T n p - p)) → (lx_k T n p = 2 → hb_fI w' 3 3 0 = nI (lx_v T p (lx_E T n p - p))) → hb_fI w' 3 4 0 = nI p → hb_fI w' 3 5 0 = nI (lx_E T n p) → hb_fI w' 3 6 0 = hb_fI w 3 6 0 → hb_fI w' 3 7 0 = hb_fI w 3 7 0 → hw_ag (fun t _ => t = 3) w w' → w'.2.2.1 = w.2.2.1 → hb_R yX7_step cX7_step 4 none (d + 1) 264 [some (hb_r 3 0 0), some (hb_i x1), some (hb_i x2), some (hb_i x3)] [] w' Q := by
    intro w' x1 x2 x3 g1 g2 g3 g4 g5 g6 g7 g8 g9
    have e5 : nI (lx_E T n p) - nI p = nI (lx_E T n p - p) := pk_sub hE.1
    have b1 : (if decide (p = e0 ∧ (κ = 1 ∨ κ = 2)) = true ∧ (lx_k T n p = 1 ∨ lx_k T n p = 2) then 4 else lx_k T n p) < 10 := by split <;> omega
    refine bk_X7_step_264 ?_
    rw [g1, g4, g5, e5, show (1 : Int32) = nI 1 from rfl, nI_eq (by omega) (by decide), show (5 : Int32) = nI 5 from rfl, nI_leI (by omega) (by decide)]
    have wipe : ¬ (decide (p = e0 ∧ (κ = 1 ∨ κ = 2)) = false ∧ lx_k T n p = 1 ∧ lx_E T n p ≤ p + 5) → hb_R yX7_step cX7_step 4 none (d + 1) 285 [some (hb_r 3 0 0), some (hb_i x1), some (hb_i x2), some (hb_i x3)] [] w' Q := fun z => by
      refine bk_X7_step_285 (bk_X7_step_290 (q _ ⟨s2, g1, ?_, g3, g4, g5, s4⟩ g6 g7 (g8.pI p3) g9))
      rw [if_neg z]; rfl
    refine ⟨fun z => wipe ?_, fun z => ⟨fun z2 => bk_X7_step_290 (q _ ⟨s2, g1, ?_, g3, g4, g5, s4⟩ g6 g7 g8 g9), fun z2 => wipe (fun y => z2 (by omega))⟩⟩
    · rintro ⟨y1, y2, y3⟩
      rw [if_neg (fun x => by rw [y1] at x; exact absurd x.1 (by decide))] at z
      exact z y2
    · have hz : ¬ (decide (p = e0 ∧ (κ = 1 ∨ κ = 2)) = true ∧ (lx_k T n p = 1 ∨ lx_k T n p = 2)) := fun y => by rw [if_pos y] at z; omega
      rw [if_neg hz] at z
      have hdf : decide (p = e0 ∧ (κ = 1 ∨ κ = 2)) = false := by
        cases hd : decide (p = e0 ∧ (κ = 1 ∨ κ = 2)) with
        | false => rfl
        | true => exact absurd ⟨hd, Or.inl z⟩ hz
      rw [if_pos ⟨hdf, z, by omega⟩]
      exact g2
  -- the token has ended: is it glued?
  have out : ∀ (w' : hb_W), hb_fI w' 3 1 0 = nI (lx_k T n p) → hb_fI w' 3 2 0 = nI (lx_h T p (lx_E T n p - p)) → (lx_k T n p = 2 → hb_fI w' 3 3 0 = nI (lx_v T p (lx_E T n p - p))) → hb_fI w' 3 4 0 = nI p → hb_fI w' 3 5 0 = nI (lx_E T n p) → hb_fI w' 3 6 0 = hb_fI w 3 6 0 → hb_fI w' 3 7 0 = hb_fI w 3 7 0 → hw_ag (fun t _ => t = 3) w w' → w'.2.2.1 = w.2.2.1 → ∀ x3, x3 = nI (if lx_k T n p = 1 ∨ lx_k T n p = 2 then 1 else 0) →
      ((¬ (hb_fI w' 3 4 0) = nI e0) → hb_R yX7_step cX7_step 4 none (d + 1) 264 [some (hb_r 3 0 0), some (hb_i (nI κ)), some (hb_i (nI e0)), some (hb_i x3)] [] w' Q) ∧ (((hb_fI w' 3 4 0) = nI e0) → ((x3 = 0) → hb_R yX7_step cX7_step 4 none (d + 1) 264 [some (hb_r 3 0 0), some (hb_i (nI κ)), some (hb_i (nI e0)), some (hb_i x3)] [] w' Q) ∧ ((¬ x3 = 0) → ((nI κ = (hb_fI w' 3 1 0)) → hb_R yX7_step cX7_step 4 none (d + 1) 264 [some (hb_r 3 0 0), some (hb_i (nI κ)), some (hb_i (nI e0)), some (hb_i x3)] [] w' Q) ∧ ((¬ nI κ = (hb_fI w' 3 1 0)) → ((nI κ = (1 : Int32)) → hb_R yX7_step cX7_step 4 none (d + 1) 264 [some (hb_r 3 0 0), some (hb_i (nI κ)), some (hb_i (nI e0)), some (hb_i x3)] [] (hb_pI w' 3 1 0 (4 : Int32)) Q) ∧ ((¬ nI κ = (1 : Int32)) → ((¬ nI κ = (2 : Int32)) → hb_R yX7_step cX7_step 4 none (d + 1) 264 [some (hb_r 3 0 0), some (hb_i (nI κ)), some (hb_i (nI e0)), some (hb_i x3)] [] w' Q) ∧ ((nI κ = (2 : Int32)) → hb_R yX7_step cX7_step 4 none (d + 1) 264 [some (hb_r 3 0 0), some (hb_i (nI κ)), some (hb_i (nI e0)), some (hb_i x3)] [] (hb_pI w' 3 1 0 (4 : Int32)) Q))))) := by
    intro w' g1 g2 g3 g4 g5 g6 g7 g8 g9 x3 hx3
    subst hx3
    have plain : ¬ (decide (p = e0 ∧ (κ = 1 ∨ κ = 2)) = true ∧ (lx_k T n p = 1 ∨ lx_k T n p = 2)) → hb_R yX7_step cX7_step 4 none (d + 1) 264 [some (hb_r 3 0 0), some (hb_i (nI κ)), some (hb_i (nI e0)), some (hb_i (nI (if lx_k T n p = 1 ∨ lx_k T n p = 2 then 1 else 0)))] [] w' Q := fun z => fin w' _ _ _ (by rw [if_neg z]; exact g1) g2 g3 g4 g5 g6 g7 g8 g9
    have glue : (decide (p = e0 ∧ (κ = 1 ∨ κ = 2)) = true ∧ (lx_k T n p = 1 ∨ lx_k T n p = 2)) → hb_R yX7_step cX7_step 4 none (d + 1) 264 [some (hb_r 3 0 0), some (hb_i (nI κ)), some (hb_i (nI e0)), some (hb_i (nI (if lx_k T n p = 1 ∨ lx_k T n p = 2 then 1 else 0)))] [] (hb_pI w' 3 1 0 (4 : Int32)) Q := fun z => fin _ _ _ _ (by rw [if_pos z]; rfl) g2 g3 g4 g5 g6 g7 (g8.pI p3) g9
    rw [g4, nI_eq (by omega) (by omega), g1, nI_eq (by omega) (by omega), show (1 : Int32) = nI 1 from rfl, nI_eq (by omega) (by decide), show (2 : Int32) = nI 2 from rfl, nI_eq (by omega) (by decide)]
    refine ⟨fun z => plain (fun y => z (of_decide_eq_true y.1).1), fun z => ⟨fun z2 => plain (fun y => ?_), fun z2 => ⟨fun z3 => plain (fun y => ?_), fun z3 => ⟨fun z4 => glue ⟨?_, ?_⟩, fun z4 => ⟨fun z5 => plain (fun y => ?_), fun z5 => glue ⟨?_, ?_⟩⟩⟩⟩⟩⟩
    · rw [if_pos y.2] at z2
      exact absurd z2 (by decide)
    · have hk := (of_decide_eq_true y.1).2
      have := hm hk
      rw [← z] at this
      exact this z3.symm
    · simp [z, z4]
    · by_cases y : lx_k T n p = 1 ∨ lx_k T n p = 2
      · exact y
      · rw [if_neg y] at z2; exact absurd rfl z2
    · have := (of_decide_eq_true y.1).2
      omega
    · simp [z, z5]
    · by_cases y : lx_k T n p = 1 ∨ lx_k T n p = 2
      · exact y
      · rw [if_neg y] at z2; exact absurd rfl z2
  -- along the token
  have tok : ∀ (m k : Nat), k + m = lx_E T n p → p ≤ k → ∀ (w' : hb_W), hb_fI w' 3 1 0 = nI (lx_k T n p) → hb_fI w' 3 2 0 = nI (lx_h T p (k - p)) → (lx_k T n p = 2 → hb_fI w' 3 3 0 = nI (lx_v T p (k - p))) → hb_fI w' 3 4 0 = nI p → hb_fI w' 3 5 0 = nI k → hb_fI w' 3 6 0 = hb_fI w 3 6 0 → hb_fI w' 3 7 0 = hb_fI w 3 7 0 → hw_ag (fun t _ => t = 3) w w' → w'.2.2.1 = w.2.2.1 → hb_R yX7_step cX7_step 4 none (d + 1) 117 [some (hb_r 3 0 0), some (hb_i (nI κ)), some (hb_i (nI e0)), some (hb_i (nI (if lx_k T n p = 1 ∨ lx_k T n p = 2 then 1 else 0)))] [] w' Q := by
    intro m
    induction m with
    | zero =>
      intro k hk hpk w' g1 g2 g3 g4 g5 g6 g7 g8 g9
      rw [Nat.add_zero] at hk
      subst hk
      have o := out w' g1 g2 g3 g4 g5 g6 g7 g8 g9 _ rfl
      have e1 : hb_fI w' 1 1 0 = nI n := (g8.1 1 1 0 (by decide)).trans h.1
      refine bk_X7_step_117 ⟨fun _ => o, fun z => ⟨fun z2 => ?_, fun z2 => ⟨fun z3 => ⟨o.1, fun y => ⟨(o.2 y).1, (o.2 y).2⟩⟩, fun z3 => ?_⟩⟩⟩
      · exfalso
        rw [g5, g4, nI_eq (by omega) (by omega)] at z2
        rw [e1, g5, nI_leI (by omega) (by omega)] at z
        by_cases y0 : lx_k T n p = 0
        · rw [lx_k_0] at y0; omega
        · by_cases y3 : lx_k T n p = 3
          · rw [lx_E_3 y3] at z2; omega
          · have := (lx_E_long (T := T) s2 (by omega)).1
            omega
      · rw [g5]
        refine ok_atX (h.ag g8 (by decide)) hE.2 (bk_X7_step_157 ?_)
        refine ok_kindOf hT (bk_X7_step_160 ⟨fun _ => o, fun z4 => ?_⟩)
        exfalso
        rw [g1, nI_eq (by have := lx_k_le T n (lx_E T n p); omega) (by omega)] at z4
        have hl : lx_k T n p = 1 ∨ lx_k T n p = 2 := by
          by_cases y : lx_k T n p = 1 ∨ lx_k T n p = 2
          · exact y
          · rw [if_neg y] at z3; exact absurd rfl z3
        exact (lx_E_long (T := T) s2 hl).2.2.2 z4
    | succ m ih =>
      intro k hk hpk w' g1 g2 g3 g4 g5 g6 g7 g8 g9
      have e1 : hb_fI w' 1 1 0 = nI n := (g8.1 1 1 0 (by decide)).trans h.1
      have hkn : k < n := by omega
      have hTk := hT k hkn
      have goon : hb_O yX10_at cX10_at 2 (some .int) d [hb_r 1 0 0, hb_i (nI k)] w' (fun rv w1 => hb_R yX7_step cX7_step 4 none (d + 1) 186 [some (hb_r 3 0 0), some (hb_i (nI κ)), some (hb_i (nI e0)), some (hb_i (nI (if lx_k T n p = 1 ∨ lx_k T n p = 2 then 1 else 0)))] (rv.toList ++ [hb_i ((hb_fI w' 3 2 0) * (32 : Int32)), hb_r 3 0 0]) w1 Q) := by
        refine ok_atX (h.ag g8 (by decide)) (by omega) (bk_X7_step_186 ?_)
        rw [if_pos hkn, g2, show nI (lx_h T p (k - p)) * (32 : Int32) = nI (lx_h T p (k - p) * 32) from pk_mul _ 32, nI_add]
        have e5' : hb_fI (hb_pI w' 3 2 0 (nI (lx_h T p (k - p) * 32 + T k))) 3 5 0 = nI k := g5
        rw [g5]
        refine ok_atX ((h.ag g8 (by decide)).ag (hw_ag.rf.pI (P := fun t _ => t = 3) rfl) (by decide)) (by omega) (bk_X7_step_209 ?_)
        rw [if_pos hkn]
        have e5'' : hb_fI (hb_pI w' 3 2 0 (nI (lx_h T p (k - p) * 32 + T k))) 3 5 0 + 1 = nI (k + 1) := by rw [e5', nI_1]
        rw [e5'']
        have hk1 : k + 1 - p = (k - p) + 1 := by omega
        have hkp : p + (k - p) = k := by omega
        refine ih (k + 1) (by omega) (by omega) _ g1 ?_ (fun z => ?_) g4 rfl g6 g7 (((g8.pI p3).pI p3).pI p3) g9
        · show nI (lx_h T p (k - p) * 32 + T k) = nI (lx_h T p (k + 1 - p))
          rw [hk1]
          show _ = nI (lx_h T p (k - p) * 32 + T (p + (k - p)))
          rw [hkp]
        · show hb_fI w' 3 3 0 * (10 : Int32) + (nI (T k) - (48 : Int32)) = nI (lx_v T p (k + 1 - p))
          have h2k : lx_k T n k = 2 := by
            rw [← z]
            exact (lx_E_long (T := T) s2 (Or.inr z)).2.2.1 k hpk (by omega)
          have := (lx_k_2.mp h2k).2
          rw [g3 z, show (48 : Int32) = nI 48 from rfl, pk_sub this.1, show nI (lx_v T p (k - p)) * (10 : Int32) = nI (lx_v T p (k - p) * 10) from pk_mul _ 10, nI_add, hk1]
          show _ = nI (lx_v T p (k - p) * 10 + (T (p + (k - p)) - 48))
          rw [hkp]
      have hlong : k ≠ p → lx_k T n p = 1 ∨ lx_k T n p = 2 := fun z => by
        by_cases y0 : lx_k T n p = 0
        · rw [lx_E_0 y0] at hk; omega
        · by_cases y3 : lx_k T n p = 3
          · rw [lx_E_3 y3] at hk; omega
          · omega
      refine bk_X7_step_117 ⟨fun z => absurd z (by rw [e1, g5]; exact nI_ge hkn (by omega)), fun _ => ?_⟩
      have goon' := goon
      rw [← g5] at goon'
      refine ⟨fun _ => goon', fun z2 => ?_⟩
      rw [g5, g4, nI_eq (by omega) (by omega)] at z2
      have hl := hlong z2
      refine ⟨fun z3 => ?_, fun _ => ?_⟩
      · rw [if_pos hl] at z3
        exact absurd z3 (by decide)
      · rw [g5]
        refine ok_atX (h.ag g8 (by decide)) (by omega) (bk_X7_step_157 ?_)
        refine ok_kindOf hT (bk_X7_step_160 ⟨fun z4 => ?_, fun _ => ?_⟩)
        · exfalso
          apply z4
          rw [g1, (lx_E_long (T := T) s2 hl).2.2.1 k hpk (by omega)]
        · exact goon'
  -- what stands here
  have here : ∀ (w' : hb_W), hb_fI w' 3 4 0 = nI p → hb_fI w' 3 6 0 = hb_fI w 3 6 0 → hb_fI w' 3 7 0 = hb_fI w 3 7 0 → hw_ag (fun t _ => t = 3) w w' → w'.2.2.1 = w.2.2.1 → hb_O yX10_at cX10_at 2 (some .int) d [hb_r 1 0 0, hb_i (hb_fI w' 3 4 0)] w' (fun rv w1 => hb_R yX7_step cX7_step 4 none (d + 1) 71 [some (hb_r 3 0 0), some (hb_i (nI κ)), some (hb_i (nI e0)), none] (rv.toList ++ [hb_r 3 0 0]) w1 Q) := by
    intro w' g4 g6 g7 g8 g9
    rw [g4]
    refine ok_atX (h.ag g8 (by decide)) s2 (bk_X7_step_71 ?_)
    refine ok_kindOf hT (bk_X7_step_74 ?_)
    have go : hb_R yX7_step cX7_step 4 none (d + 1) 117 [some (hb_r 3 0 0), some (hb_i (nI κ)), some (hb_i (nI e0)), some (hb_i (nI (if lx_k T n p = 1 ∨ lx_k T n p = 2 then 1 else 0)))] [] (hb_pI (hb_pI (hb_pI (hb_pI w' 3 1 0 (nI (lx_k T n p))) 3 5 0 (hb_fI w' 3 4 0)) 3 2 0 0) 3 3 0 0) Q := by
      refine tok (lx_E T n p - p) p (by omega) (Nat.le_refl p) _ rfl ?_ (fun _ => ?_) g4 g4 g6 g7 ((((g8.pI p3).pI p3).pI p3).pI p3) g9
      · rw [Nat.sub_self]; rfl
      · rw [Nat.sub_self]; rfl
    rw [show (1 : Int32) = nI 1 from rfl, show (2 : Int32) = nI 2 from rfl, nI_eq (by omega) (by decide), nI_eq (by omega) (by decide)]
    refine ⟨fun z => ?_, fun z => ⟨fun z2 => ?_, fun z2 => ?_⟩⟩
    · rw [if_pos (Or.inl z)] at go; exact go
    · rw [if_neg (by omega)] at go; exact go
    · rw [if_pos (Or.inr z2)] at go; exact go
  -- blanks
  have skip : ∀ (m k : Nat), k + m = p → e0 ≤ k → ∀ (w' : hb_W), hb_fI w' 3 4 0 = nI k → hb_fI w' 3 6 0 = hb_fI w 3 6 0 → hb_fI w' 3 7 0 = hb_fI w 3 7 0 → hw_ag (fun t _ => t = 3) w w' → w'.2.2.1 = w.2.2.1 → hb_R yX7_step cX7_step 4 none (d + 1) 15 [some (hb_r 3 0 0), some (hb_i (nI κ)), some (hb_i (nI e0)), none] [] w' Q := by
    intro m
    induction m with
    | zero =>
      intro k hk hke w' g4 g6 g7 g8 g9
      rw [Nat.add_zero] at hk
      subst hk
      have e1 : hb_fI w' 1 1 0 = nI n := (g8.1 1 1 0 (by decide)).trans h.1
      refine bk_X7_step_15 ⟨fun _ => here w' g4 g6 g7 g8 g9, fun z => ?_⟩
      rw [e1, g4, nI_leI (by omega) (by omega)] at z
      have hkn : k < n := by omega
      have hTk := hT k hkn
      rw [g4]
      refine ok_atX (h.ag g8 (by decide)) s2 (bk_X7_step_40 ?_)
      rw [if_pos hkn]
      refine bk_X7_isBlank_0 ⟨fun y => ?_, fun y => ⟨fun y2 => bk_X7_step_43 ⟨fun _ => here w' g4 g6 g7 g8 g9, fun x => absurd rfl x⟩, fun y2 => ?_⟩⟩
      · rw [show (10 : Int32) = nI 10 from rfl, nI_eq (by omega) (by decide)] at y
        exact absurd ⟨hkn, Or.inl y⟩ s4
      · rw [show (32 : Int32) = nI 32 from rfl, nI_eq (by omega) (by decide)] at y2
        exact absurd ⟨hkn, Or.inr y2⟩ s4
    | succ m ih =>
      intro k hk hke w' g4 g6 g7 g8 g9
      have e1 : hb_fI w' 1 1 0 = nI n := (g8.1 1 1 0 (by decide)).trans h.1
      have hkn : k < n := by omega
      have hTk := hT k hkn
      have hb := s3 k hke (by omega)
      have nxt : hb_R yX7_step cX7_step 4 none (d + 1) 15 [some (hb_r 3 0 0), some (hb_i (nI κ)), some (hb_i (nI e0)), none] [] (hb_pI w' 3 4 0 ((hb_fI w' 3 4 0) + (1 : Int32))) Q := by
        rw [g4, nI_1]
        exact ih (k + 1) (by omega) (by omega) _ rfl g6 g7 (g8.pI p3) g9
      refine bk_X7_step_15 ⟨fun z => absurd z (by rw [e1, g4]; exact nI_ge hkn (by omega)), fun z => ?_⟩
      rw [g4]
      refine ok_atX (h.ag g8 (by decide)) (by omega) (bk_X7_step_40 ?_)
      rw [if_pos hkn]
      refine bk_X7_isBlank_0 ⟨fun y => bk_X7_step_43 ⟨fun x => absurd x (by decide), fun _ => nxt⟩, fun y => ⟨fun y2 => ?_, fun y2 => bk_X7_step_43 ⟨fun x => absurd x (by decide), fun _ => nxt⟩⟩⟩
      exfalso
      rcases hb with z | z
      · exact y (by rw [z]; rfl)
      · exact y2 (by rw [z]; rfl)
  refine bk_X7_step_0 ?_
  rw [h1, h5]
  exact skip (p - e0) e0 (by omega) (Nat.le_refl e0) _ rfl rfl rfl (hw_ag.rf.pI (P := fun t _ => t = 3) rfl) rfl
/-- to the next token, and what stands -/
theorem ok_step {T : Nat → Nat} {n p : Nat} {z : Bool} (h : cTx w T n) (hD : rD w T n p z) (hk : lx_k T n p ≠ 0) (hz : z = true → lx_k T n p = 3) (q : ∀ w2, rD w2 T n (lx_n T n p) (lx_z T n p) → hb_fI w2 3 6 0 = hb_fI w 3 6 0 → hb_fI w2 3 7 0 = hb_fI w 3 7 0 → hw_ag (fun t _ => t = 3) w w2 → w2.2.2.1 = w.2.2.1 → Q none w2) : hb_O yX7_step cX7_step 4 none (d + 1) [hb_r 3 0 0] w Q := by
  obtain ⟨d0, d1, d2, d3, d4, d5, d6⟩ := hD
  have hkl := lx_k_le T n p
  have hng : ¬ (z = true ∧ (lx_k T n p = 1 ∨ lx_k T n p = 2)) := fun y => by have := hz y.1; omega
  rw [if_neg hng] at d1
  refine ok_step0 h d1 (by omega) d5 (lx_E_le d0).2 (fun y => ?_) (fun w2 g1 g2 g3 g4 g5 => q w2 ?_ g2 g3 g4 g5)
  · exact (lx_E_long d0 y).2.2.2
  · have e : lx_z T n p = decide (lx_S T n (lx_E T n p) = lx_E T n p ∧ (lx_k T n p = 1 ∨ lx_k T n p = 2)) := by
      unfold lx_z lx_n
      apply decide_eq_decide.mpr
      constructor
      · intro y; exact ⟨y.1, by omega⟩
      · intro y; exact ⟨y.1, by omega⟩
    rw [e]
    exact g1
end HST
