/-! ===== the model's nights: the whole text ===== -/
def cp_ok (f g : Nat → Int32) (m i : Nat) : Prop := (∀ j, j < m → g j = f j) ∧ ∀ j, j < i → g (m + j) = f j
theorem cp_ok.step {f g : Nat → Int32} {m i : Nat} (h : cp_ok f g m i) (hi : i < m) : cp_ok f (upd g (m + i) (g i)) m (i + 1) := by
  refine ⟨fun j hj => (pk_un (by omega)).trans (h.1 j hj), fun j hj => ?_⟩
  by_cases e : j = i
  · subst e
    rw [pk_us]
    exact h.1 j hi
  · rw [pk_un (by omega)]
    exact h.2 j (by omega)
theorem cp_ok.z {f : Nat → Int32} {m : Nat} : cp_ok f f m 0 := ⟨fun _ _ => rfl, fun j hj => absurd hj (by omega)⟩
section HSD
variable {d : Nat} {Q : Option hb_V → hb_W → Prop} {w : hb_W}
theorem sd163 {c0 : Int32} (h0 : hb_aI w 12 18 0 0 = c0) (h1 : hb_aI w 12 18 0 1 = 0) (q : ∀ w2, hm_ag [55] [18] w w2 → hb_aI w2 12 18 0 0 = c0 → hb_aI w2 12 18 0 1 = 0 → (∀ l, l < 9 → hb_aI w2 12 18 0 (2 + l) = -1) → hb_fI w2 12 55 0 = 0 → Q none w2) : hb_R yX12_stands cX12_stands 2 none d 163 [some (hb_r 12 0 0), some (hb_i (nI 0))] [] w Q := by
  have loop : ∀ (m i : Nat), i + m = 9 → ∀ w', hm_ag [55] [18] w w' → hb_aI w' 12 18 0 0 = c0 → hb_aI w' 12 18 0 1 = 0 → (∀ l, l < i → hb_aI w' 12 18 0 (2 + l) = -1) → hb_R yX12_stands cX12_stands 2 none d 163 [some (hb_r 12 0 0), some (hb_i (nI i))] [] w' Q := by
    intro m
    induction m with
    | zero =>
      intro i hi w' ha e0 e1 hc
      obtain rfl : i = 9 := by omega
      exact bk_X12_stands_163 ⟨fun _ => q _ (ha.pI (by decide)) e0 e1 hc rfl, fun y => absurd (nI_le (Nat.le_refl 9) (by decide)) y⟩
    | succ m ih =>
      intro i hi w' ha e0 e1 hc
      have e : (2 : Int32) + nI i = nI (2 + i) := nI_add 2 i
      refine bk_X12_stands_163 ⟨fun y => absurd y (nI_ge (b := 9) (by omega) (by decide)), fun _ => ?_⟩
      rw [e, nI_clamp (by omega), nI_1]
      refine ⟨vp_in_nI (by omega) (by decide), ih (i + 1) (by omega) _ (ha.sI (by decide)) ?_ ?_ (fun l hl => ?_)⟩
      · rw [oa_s]; exact (pk_un (by omega)).trans e0
      · rw [oa_s]; exact (pk_un (by omega)).trans e1
      · rw [oa_s]
        by_cases u : l = i
        · subst u; exact pk_us
        · exact (pk_un (by omega)).trans (hc l (by omega))
  exact loop 9 0 rfl w hm_ag.rf h0 h1 (fun l hl => absurd hl (by omega))
theorem sd112 {N : Nat} (hN : N ≤ 1600) (h28 : hb_fI w 12 28 0 = nI N) (q : ∀ w2, hm_ag [] [17, 18] w w2 → cp_ok (hb_aI w 12 17 0) (hb_aI w2 12 17 0) 1600 N → hb_aI w2 12 18 0 0 = hb_aI w 12 13 0 5 → hb_aI w2 12 18 0 1 = 0 → hb_R yX12_stands cX12_stands 2 none d 163 [some (hb_r 12 0 0), some (hb_i (nI 0))] [] w2 Q) : hb_R yX12_stands cX12_stands 2 none d 112 [some (hb_r 12 0 0), some (hb_i (nI 0))] [] w Q := by
  have loop : ∀ (m i : Nat), i + m = N → ∀ w', hm_ag [] [17] w w' → cp_ok (hb_aI w 12 17 0) (hb_aI w' 12 17 0) 1600 i → hb_R yX12_stands cX12_stands 2 none d 112 [some (hb_r 12 0 0), some (hb_i (nI i))] [] w' Q := by
    intro m
    induction m with
    | zero =>
      intro i hi w' ha hc
      obtain rfl : i = N := by omega
      have e28 : hb_fI w' 12 28 0 = nI i := by rw [ha.I 28]; exact h28
      refine bk_X12_stands_112 ?_
      rw [e28]
      refine ⟨fun _ => q _ (((ha.wk (by decide) (by decide)).sI (by decide)).sI (by decide)) ?_ ?_ ?_, fun y => absurd (nI_le (Nat.le_refl i) (by omega)) y⟩
      · rw [oa_n _ 18 _ (by decide), oa_n _ 18 _ (by decide)]; exact hc
      · rw [oa_s]
        refine (pk_un (by decide)).trans (pk_us.trans ?_)
        rw [ha.A 13]
        rfl
      · rw [oa_s]; exact pk_us
    | succ m ih =>
      intro i hi w' ha hc
      have e28 : hb_fI w' 12 28 0 = nI N := by rw [ha.I 28]; exact h28
      have e : (1600 : Int32) + nI i = nI (1600 + i) := nI_add 1600 i
      refine bk_X12_stands_112 ?_
      rw [e28, nI_leI (by omega) (by omega)]
      refine ⟨fun y => absurd y (by omega), fun _ => ?_⟩
      rw [e, nI_clamp (by omega), nI_clamp (by omega), nI_1]
      exact ⟨vp_in_nI (by omega) (by decide), vp_in_nI (by omega) (by decide), ih (i + 1) (by omega) _ (ha.sI (by decide)) (by rw [oa_s]; exact hc.step (by omega))⟩
  exact loop N 0 (by omega) w hm_ag.rf cp_ok.z
theorem sd68 (q : ∀ w2, hm_ag [] [15, 16] w w2 → cp_ok (hb_aI w 12 15 0) (hb_aI w2 12 15 0) 21 21 → cp_ok (hb_aI w 12 16 0) (hb_aI w2 12 16 0) 21 21 → hb_R yX12_stands cX12_stands 2 none d 112 [some (hb_r 12 0 0), some (hb_i (nI 0))] [] w2 Q) : hb_R yX12_stands cX12_stands 2 none d 68 [some (hb_r 12 0 0), some (hb_i (nI 0))] [] w Q := by
  have loop : ∀ (m i : Nat), i + m = 21 → ∀ w', hm_ag [] [15, 16] w w' → cp_ok (hb_aI w 12 15 0) (hb_aI w' 12 15 0) 21 i → cp_ok (hb_aI w 12 16 0) (hb_aI w' 12 16 0) 21 i → hb_R yX12_stands cX12_stands 2 none d 68 [some (hb_r 12 0 0), some (hb_i (nI i))] [] w' Q := by
    intro m
    induction m with
    | zero =>
      intro i hi w' ha h15 h16
      obtain rfl : i = 21 := by omega
      exact bk_X12_stands_68 ⟨fun _ => q w' ha h15 h16, fun y => absurd (nI_le (Nat.le_refl 21) (by decide)) y⟩
    | succ m ih =>
      intro i hi w' ha h15 h16
      have e : (21 : Int32) + nI i = nI (21 + i) := nI_add 21 i
      refine bk_X12_stands_68 ⟨fun y => absurd y (nI_ge (b := 21) (by omega) (by decide)), fun _ => ?_⟩
      rw [e, nI_clamp (by omega), nI_clamp (by omega), nI_1]
      have v1 : vp_in (nI i) 42 := vp_in_nI (by omega) (by decide)
      have v2 : vp_in (nI (21 + i)) 42 := vp_in_nI (by omega) (by decide)
      exact ⟨v1, v2, v1, v2, ih (i + 1) (by omega) _ ((ha.sI (by decide)).sI (by decide)) (by rw [oa_n _ 16 _ (by decide), oa_s]; exact h15.step (by omega)) (by rw [oa_s]; exact h16.step (by omega))⟩
  exact loop 21 0 rfl w hm_ag.rf cp_ok.z cp_ok.z
theorem sd39 (q : ∀ w2, hm_ag [] [14] w w2 → cp_ok (hb_aI w 12 14 0) (hb_aI w2 12 14 0) 80 80 → hb_R yX12_stands cX12_stands 2 none d 68 [some (hb_r 12 0 0), some (hb_i (nI 0))] [] w2 Q) : hb_R yX12_stands cX12_stands 2 none d 39 [some (hb_r 12 0 0), some (hb_i (nI 0))] [] w Q := by
  have loop : ∀ (m i : Nat), i + m = 80 → ∀ w', hm_ag [] [14] w w' → cp_ok (hb_aI w 12 14 0) (hb_aI w' 12 14 0) 80 i → hb_R yX12_stands cX12_stands 2 none d 39 [some (hb_r 12 0 0), some (hb_i (nI i))] [] w' Q := by
    intro m
    induction m with
    | zero =>
      intro i hi w' ha hc
      obtain rfl : i = 80 := by omega
      exact bk_X12_stands_39 ⟨fun _ => q w' ha hc, fun y => absurd (nI_le (Nat.le_refl 80) (by decide)) y⟩
    | succ m ih =>
      intro i hi w' ha hc
      have e : (80 : Int32) + nI i = nI (80 + i) := nI_add 80 i
      refine bk_X12_stands_39 ⟨fun y => absurd y (nI_ge (b := 80) (by omega) (by decide)), fun _ => ?_⟩
      rw [e, nI_clamp (by omega), nI_clamp (by omega), nI_1]
      exact ⟨vp_in_nI (by omega) (by decide), vp_in_nI (by omega) (by decide), ih (i + 1) (by omega) _ (ha.sI (by decide)) (by rw [oa_s]; exact hc.step (by omega))⟩
  exact loop 80 0 rfl w hm_ag.rf cp_ok.z
end HSD
