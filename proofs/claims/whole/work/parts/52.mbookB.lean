/-! ===== the model's book: a pass more ===== -/
def mT (w : hb_W) (L : Nat) (ps : List (Nat × Nat)) : Prop := hb_fI w 12 40 0 = nI ps.length ∧ (∀ h, h < 64 → hb_aI w 12 21 0 h = nI (sp_T ps h)) ∧ (∀ q, q < 100 → hb_aI w 12 30 0 q = nI (sp_G ps q)) ∧ (∀ k, k < L → hb_aI w 12 28 0 k = nI (sp_B L ps k)) ∧ bS_often (hb_aI w 12 25 0) (hb_aI w 12 24 0) L (sp_of L (ps.map Prod.fst))
def mS (f : Nat → Int32) (L : Nat) (mk : Nat → Nat → Nat) (T : Nat → Nat) : Prop := ∀ l, l < L → ∃ v, sp_sg mk (fun h => 0 < T h) l v ∧ v ≤ 1000 ∧ f l = (if v = 1000 then -1 else nI v)
def mB (w : hb_W) (L R : Nat) (mk : Nat → Nat → Nat) (ps : List (Nat × Nat)) : Prop := cN L R ps ∧ hb_fI w 12 39 0 = nI L ∧ hb_aI w 12 13 0 3 = nI R ∧ mT w L ps ∧ bS_least (hb_fI w 12 44 0) (hb_aI w 12 23 0) L (sS0 mk (sp_T ps)) ∧ sp_run (sS1 mk (sp_T ps)) (hb_fI w 12 45 0) ∧ (∀ r k, r < R → k < L → hb_aI w 12 26 0 (9 * r + k) = nI (sp_cr L mk (sp_T ps) r k)) ∧ bS_bits (hb_aI w 12 27 0) L mk (sp_T ps) ∧ mS (hb_aI w 12 29 0) L mk (sp_T ps)
section HMB
variable {d : Nat} {w : hb_W} {Q : Option hb_V → hb_W → Prop}
theorem om_crosses {L R h q : Nat} {x3 : Int32} {mk : Nat → Nat → Nat} {F : Nat → Nat → Nat} (hL0 : 1 ≤ L) (hL : L ≤ 9) (hR : R ≤ 3) (hh : h < 64) (hl : hb_fI w 12 39 0 = nI L) (hr : hb_aI w 12 13 0 3 = nI R) (hmk : hm_mk w mk) (hF : ∀ r k, r < R → k < L → hb_aI w 12 26 0 (9 * r + k) = nI (F r k))
    (qq : ∀ f, (∀ r k, r < R → k < L → f (9 * r + k) = nI (F r k + if mk h (2 + r) % L = k then 1 else 0)) → hb_R yX12_bookTakes cX12_bookTakes 5 none (d + 1) 71 [some (hb_r 12 0 0), some (hb_i (nI h)), some (hb_i (nI q)), some (hb_i x3), some (hb_i (nI R))] [] (hb_sI w 12 26 0 f) Q) :
    hb_R yX12_bookTakes cX12_bookTakes 5 none (d + 1) 71 [some (hb_r 12 0 0), some (hb_i (nI h)), some (hb_i (nI q)), some (hb_i x3), some (hb_i (nI 0))] [] w Q := by
  have key : ∀ (n i : Nat), i + n = R → ∀ f, (∀ r k, r < R → k < L → f (9 * r + k) = nI (F r k + if r < i ∧ mk h (2 + r) % L = k then 1 else 0)) → hb_R yX12_bookTakes cX12_bookTakes 5 none (d + 1) 71 [some (hb_r 12 0 0), some (hb_i (nI h)), some (hb_i (nI q)), some (hb_i x3), some (hb_i (nI i))] [] (hb_sI w 12 26 0 f) Q := by
    intro n
    induction n with
    | zero =>
      intro i hi f hf
      rw [Nat.add_zero] at hi
      subst hi
      refine qq f fun r k h1 h2 => ?_
      rw [hf r k h1 h2]
      by_cases e : mk h (2 + r) % L = k
      · rw [if_pos ⟨h1, e⟩, if_pos e]
      · rw [if_neg (fun z => e z.2), if_neg e]
    | succ n ih =>
      intro i hi f hf
      have hmod : mk h (2 + i) % L < L := Nat.mod_lt _ (by omega)
      refine bk_X12_bookTakes_71 ⟨fun c => absurd (show nI R ≤ nI i by rw [← hr]; exact c) (nI_ge (by omega) (by omega)), fun _ => ?_⟩
      rw [show (2 : Int32) + nI i = nI (2 + i) from nI_add 2 i, show (9 : Int32) * nI i = nI (9 * i) from pk_mul 9 i]
      refine om_marked hh (by omega) hmk fun hb => ?_
      have e0 : nI (9 * i) + (nI (mk h (2 + i)) - nI (mk h (2 + i)) / hb_fI w 12 39 0 * hb_fI w 12 39 0) = nI (9 * i + mk h (2 + i) % L) := by
        rw [hl, pk_rem (by omega) (by omega) (by omega), nI_add]
      refine bk_X12_bookTakes_100 ?_
      show ¬ hb_fI w 12 39 0 = 0 ∧ vp_in (nI (9 * i) + (nI (mk h (2 + i)) - nI (mk h (2 + i)) / hb_fI w 12 39 0 * hb_fI w 12 39 0)) 27 ∧ vp_in (nI (9 * i) + (nI (mk h (2 + i)) - nI (mk h (2 + i)) / hb_fI w 12 39 0 * hb_fI w 12 39 0)) 27 ∧ hb_R yX12_bookTakes cX12_bookTakes 5 none (d + 1) 71 [some (hb_r 12 0 0), some (hb_i (nI h)), some (hb_i (nI q)), some (hb_i x3), some (hb_i (nI i + 1))] [] (hb_sI (hb_sI w 12 26 0 f) 12 26 0 (upd (hb_aI (hb_sI w 12 26 0 f) 12 26 0) (nI (9 * i) + (nI (mk h (2 + i)) - nI (mk h (2 + i)) / hb_fI w 12 39 0 * hb_fI w 12 39 0)).toNatClampNeg (hb_aI (hb_sI w 12 26 0 f) 12 26 0 (nI (9 * i) + (nI (mk h (2 + i)) - nI (mk h (2 + i)) / hb_fI w 12 39 0 * hb_fI w 12 39 0)).toNatClampNeg + 1))) Q
      rw [e0, nI_clamp (by omega), hw_aIs, hw_sI2, nI_1, hl]
      refine ⟨nI_ne0 (by omega) (by omega), vp_in_nI (by omega) (by decide), vp_in_nI (by omega) (by decide), ?_⟩
      refine ih (i + 1) (by omega) _ fun r k h1 h2 => ?_
      unfold upd
      by_cases e : 9 * r + k = 9 * i + mk h (2 + i) % L
      · have e1 : r = i := by omega
        subst e1
        have e2 : mk h (2 + r) % L = k := by omega
        rw [if_pos e, hf r _ h1 hmod, if_neg (by omega), if_pos (by omega), Nat.add_zero, nI_1, e2]
      · rw [if_neg e, hf r k h1 h2]
        by_cases e3 : r < i ∧ mk h (2 + r) % L = k
        · rw [if_pos e3, if_pos (by omega)]
        · rw [if_neg e3, if_neg]
          intro z
          apply e3
          refine ⟨?_, z.2⟩
          rcases Nat.lt_or_ge r i with y | y
          · exact y
          · exfalso
            have : r = i := by omega
            subst this
            apply e
            rw [z.2]
  have := key R 0 (by omega) (hb_aI w 12 26 0) (fun r k h1 h2 => by rw [if_neg (by omega), Nat.add_zero]; exact hF r k h1 h2)
  rw [hw_sI0] at this
  exact this
theorem om_signs {L h q : Nat} {x3 : Int32} {mk : Nat → Nat → Nat} {T T2 : Nat → Nat} (hL : L ≤ 9) (hh : h < 64) (hl : hb_fI w 12 39 0 = nI L) (hmk : hm_mk w mk) (hS : mS (hb_aI w 12 29 0) L mk T) (hT : ∀ x, 0 < T2 x ↔ 0 < T x ∨ x = h)
    (qq : ∀ f, mS f L mk T2 → Q none (hb_sI w 12 29 0 f)) :
    hb_R yX12_bookTakes cX12_bookTakes 5 none (d + 1) 179 [some (hb_r 12 0 0), some (hb_i (nI h)), some (hb_i (nI q)), some (hb_i x3), some (hb_i (nI 0))] [] w Q := by
  have key : ∀ (n i : Nat), i + n = L → ∀ f, (∀ l, l < L → ∃ v, (if l < i then sp_sg mk (fun h => 0 < T2 h) l v else sp_sg mk (fun h => 0 < T h) l v) ∧ v ≤ 1000 ∧ f l = (if v = 1000 then -1 else nI v)) → hb_R yX12_bookTakes cX12_bookTakes 5 none (d + 1) 179 [some (hb_r 12 0 0), some (hb_i (nI h)), some (hb_i (nI q)), some (hb_i x3), some (hb_i (nI i))] [] (hb_sI w 12 29 0 f) Q := by
    intro n
    induction n with
    | zero =>
      intro i hi f hf
      rw [Nat.add_zero] at hi
      subst hi
      refine bk_X12_bookTakes_179 ⟨fun _ => qq f fun l hl2 => ?_, fun c => absurd (show hb_fI w 12 39 0 ≤ nI i by rw [hl]; exact nI_le (Nat.le_refl _) (by omega)) c⟩
      obtain ⟨v, v1, v2⟩ := hf l hl2
      rw [if_pos hl2] at v1
      exact ⟨v, v1, v2⟩
    | succ n ih =>
      intro i hi f hf
      obtain ⟨v, v1, v2, v3⟩ := hf i (by omega)
      rw [if_neg (Nat.lt_irrefl i)] at v1
      obtain ⟨e, hb⟩ := hmk h i hh (by omega)
      have hnew := sp_sg_add hh hb v1 hT
      -- the new row of signs, however it is written
      have go : ∀ f2 : Nat → Int32, (∀ l, l ≠ i → f2 l = f l) → f2 i = nI (min v (mk h i)) → hb_R yX12_bookTakes cX12_bookTakes 5 none (d + 1) 179 [some (hb_r 12 0 0), some (hb_i (nI h)), some (hb_i (nI q)), some (hb_i x3), some (hb_i (nI i + 1))] [] (hb_sI w 12 29 0 f2) Q := by
        intro f2 g1 g2
        rw [nI_1]
        refine ih (i + 1) (by omega) f2 fun l hl2 => ?_
        by_cases el : l = i
        · subst el
          exact ⟨min v (mk h l), by rw [if_pos (by omega)]; exact hnew, by omega, by rw [g2, if_neg (by omega)]⟩
        · obtain ⟨u, u1, u2, u3⟩ := hf l hl2
          refine ⟨u, ?_, u2, by rw [g1 l el]; exact u3⟩
          by_cases z : l < i
          · rw [if_pos z] at u1
            rw [if_pos (by omega)]
            exact u1
          · rw [if_neg z] at u1
            rw [if_neg (by omega)]
            exact u1
      have put : ∀ {xx : Nat}, hb_R yX12_bookTakes cX12_bookTakes 5 none (d + 1) 229 [some (hb_r 12 0 0), some (hb_i (nI h)), some (hb_i (nI q)), some (hb_i x3), some (hb_i (nI i))] [hb_i (nI (mk h i)), hb_i (nI i), hb_r 12 0 29] (hb_sI w 12 29 0 f) Q ∨ True := fun {_} => Or.inr trivial
      refine bk_X12_bookTakes_179 ⟨fun c => absurd (show nI L ≤ nI i by rw [← hl]; exact c) (nI_ge (by omega) (by omega)), fun _ => ⟨vp_in_nI (by omega) (by decide), fun c => ?_, fun c => ?_⟩⟩
      · rw [nI_clamp (by omega), hw_aIs, v3] at c
        have hv : v = 1000 := by
          rcases Decidable.em (v = 1000) with z | z
          · exact z
          · exfalso
            rw [if_neg z] at c
            have := congrArg Int32.toInt c
            rw [nI_toInt (by omega)] at this
            have e2 : (-1 : Int32).toInt = -1 := by decide
            omega
        refine om_marked (w := hb_sI w 12 29 0 f) hh (by omega) hmk fun _ => ?_
        refine bk_X12_bookTakes_229 ⟨vp_in_nI (by omega) (by decide), ?_⟩
        rw [hw_aIs, hw_sI2, nI_clamp (by omega)]
        exact go _ (fun l hl2 => pk_un hl2) (by rw [pk_us, show min v (mk h i) = mk h i by omega])
      · rw [nI_clamp (by omega), hw_aIs, v3] at c
        have hv : v ≠ 1000 := fun z => c (by rw [if_pos z])
        rw [if_neg hv] at v3
        refine om_marked (w := hb_sI w 12 29 0 f) hh (by omega) hmk fun _ => ?_
        refine bk_X12_bookTakes_206 ⟨vp_in_nI (by omega) (by decide), fun c2 => ?_, fun c2 => ?_⟩
        · rw [nI_clamp (by omega), hw_aIs, v3, nI_leI (by omega) (by omega)] at c2
          exact go f (fun _ _ => rfl) (by rw [v3, show min v (mk h i) = v by omega])
        · rw [nI_clamp (by omega), hw_aIs, v3, nI_leI (by omega) (by omega)] at c2
          refine om_marked (w := hb_sI w 12 29 0 f) hh (by omega) hmk fun _ => ?_
          refine bk_X12_bookTakes_229 ⟨vp_in_nI (by omega) (by decide), ?_⟩
          rw [hw_aIs, hw_sI2, nI_clamp (by omega)]
          exact go _ (fun l hl2 => pk_un hl2) (by rw [pk_us, show min v (mk h i) = mk h i by omega])
  have := key L 0 (by omega) (hb_aI w 12 29 0) (fun l hl2 => by
    obtain ⟨v, v1, v2⟩ := hS l hl2
    exact ⟨v, by rw [if_neg (Nat.not_lt_zero l)]; exact v1, v2⟩)
  rw [hw_sI0] at this
  exact this
set_option maxHeartbeats 4000000 in
theorem om_bookTakes {L R h q : Nat} {mk : Nat → Nat → Nat} {ps : List (Nat × Nat)} (hh : h < 64) (hq : q < 100) (hn : ps.length ≤ 400) (hmk : hm_mk w mk) (hB : mB w L R mk ps)
    (qq : ∀ w2, mB w2 L R mk (ps ++ [(h, q)]) → hm_ag [40, 44, 45] [21, 23, 24, 25, 26, 27, 28, 29, 30] w w2 → Q none w2) : hb_O yX12_bookTakes cX12_bookTakes 5 none (d + 1) [hb_r 12 0 0, hb_i (nI h), hb_i (nI q)] w Q := by
  obtain ⟨⟨n1, n2, n3, n4, n5, n6⟩, hl, hr, ⟨t1, t3, t5, t6, t7⟩, m0, m1, m2, m3, m4⟩ := hB
  have hTle := sp_T_le ps h
  have hPA := sp_P_app ps h q
  have hbin : q * L / 100 < L := by
    have : q * L < 100 * L := Nat.mul_lt_mul_of_pos_right hq (by omega)
    exact Nat.div_lt_of_lt_mul this
  have e8 : (8 : Int32) * nI L = nI (8 * L) := pk_mul 8 L
  have hbt : ∀ l, mk h l % (8 * L) < 8 * L := fun l => Nat.mod_lt _ (by omega)
  have eb : nI q * nI L / 100 = nI (q * L / 100) := by
    rw [pk_mul, show (100 : Int32) = nI 100 from rfl, pk_div (by
      have : q * L ≤ 100 * 9 := Nat.mul_le_mul (by omega) n2
      omega) (by decide) (by decide)]
  refine bk_X12_bookTakes_0 ⟨vp_in_nI hh (by decide), vp_in_nI hh (by decide), vp_in_nI hq (by decide), vp_in_nI hq (by decide), ?_⟩
  rw [nI_clamp (by omega), nI_clamp (by omega)]
  refine om_marked (l := 0) hh (by decide) hmk fun b0 => ?_
  refine bk_X12_bookTakes_37 ?_
  refine om_leastTakes n1 n2 b0 hl m0 (fun c f hm0 => ?_)
  refine bk_X12_bookTakes_40 ?_
  refine om_marked (l := 1) hh (by decide) hmk fun b1 => ?_
  refine bk_X12_bookTakes_46 (om_noughts b1 ?_)
  -- what follows the run, whichever world
  have go : ∀ (v : Int32) (W : hb_W), W = hb_pI (hb_pI (hb_sI (hb_sI (hb_sI (hb_pI w 12 40 0 (hb_fI w 12 40 0 + 1)) 12 21 0 (upd (hb_aI w 12 21 0) h (hb_aI w 12 21 0 h + 1))) 12 30 0 (upd (hb_aI w 12 30 0) q (hb_aI w 12 30 0 q + 1))) 12 23 0 f) 12 44 0 c) 12 45 0 v → v = (if hb_fI w 12 45 0 < nI (sp_nz (mk h 1)) then nI (sp_nz (mk h 1)) else hb_fI w 12 45 0) → hb_O yX12_oftenTakes cX12_oftenTakes 3 none d [hb_r 12 0 0, hb_i (nI h)] W (fun rv w1 => hb_R yX12_bookTakes cX12_bookTakes 5 none (d + 1) 68 [some (hb_r 12 0 0), some (hb_i (nI h)), some (hb_i (nI q)), some (hb_i (nI (sp_nz (mk h 1)))), none] (rv.toList ++ []) w1 Q) := by
    intro v W hW hv
    subst hW
    refine om_oftenTakes n2 hh hl t7 (fun k _ => ?_) (fun f1 f2 ho => ?_)
    · have := sp_of_le L (ps.map Prod.fst) (fun _ => (0, 0)) 0 (fun _ => Nat.le_refl 0) k
      rw [List.length_map] at this
      show ((sp_of L (ps.map Prod.fst)) k).2 + 1 < 1000000
      unfold sp_of
      omega
    refine bk_X12_bookTakes_68 ?_
    refine om_crosses n1 n2 n4 hh hl hr hmk m2 (fun f7 hf7 => ?_)
    refine bk_X12_bookTakes_71 ⟨fun _ => ?_, fun c => absurd (show hb_aI w 12 13 0 3 ≤ nI R by rw [hr]; exact nI_le (Nat.le_refl _) (by omega)) c⟩
    refine om_marked (l := 5) hh (by decide) hmk fun b5 => ?_
    have er5 : nI (mk h 5) - nI (mk h 5) / ((8 : Int32) * nI L) * ((8 : Int32) * nI L) = nI (mk h 5 % (8 * L)) := by rw [e8, pk_rem (by omega) (by omega) (by omega)]
    have hb5 := hbt 5
    have b127 : ∀ {x3 x4 : Int32} (W : hb_W), hb_fI W 12 39 0 = nI L → hb_O yX12_marked cX12_marked 3 (some .int) d [hb_r 12 0 0, hb_i (nI h), hb_i (6 : Int32)] (hb_sI W 12 27 0 (upd (hb_aI W 12 27 0) (mk h 5 % (8 * L)) (vp_nar .boolean (1 : Int32)))) (fun rv w1 => hb_R yX12_bookTakes cX12_bookTakes 5 none (d + 1) 148 [some (hb_r 12 0 0), some (hb_i (nI h)), some (hb_i (nI q)), some (hb_i x3), some (hb_i x4)] (rv.toList ++ [hb_r 12 0 27]) w1 Q) → hb_R yX12_bookTakes cX12_bookTakes 5 none (d + 1) 127 [some (hb_r 12 0 0), some (hb_i (nI h)), some (hb_i (nI q)), some (hb_i x3), some (hb_i x4)] [hb_i (nI (mk h 5)), hb_r 12 0 27] W Q := fun {x3 x4} W eW z => by
      refine bk_X12_bookTakes_127 ?_
      rw [eW, er5, nI_clamp (by omega)]
      exact ⟨by rw [e8]; exact nI_ne0 (by omega) (by omega), vp_in_nI (by omega) (by decide), z⟩
    refine b127 _ hl ?_
    refine om_marked (l := 6) hh (by decide) hmk fun b6 => ?_
    have er6 : nI (mk h 6) - nI (mk h 6) / ((8 : Int32) * nI L) * ((8 : Int32) * nI L) = nI (mk h 6 % (8 * L)) := by rw [e8, pk_rem (by omega) (by omega) (by omega)]
    have hb6 := hbt 6
    have b148 : ∀ {x3 x4 : Int32} (W : hb_W), hb_fI W 12 39 0 = nI L → hb_R yX12_bookTakes cX12_bookTakes 5 none (d + 1) 179 [some (hb_r 12 0 0), some (hb_i (nI h)), some (hb_i (nI q)), some (hb_i x3), some (hb_i (0 : Int32))] [] (hb_sI (hb_sI W 12 27 0 (upd (hb_aI W 12 27 0) (mk h 6 % (8 * L)) (vp_nar .boolean (1 : Int32)))) 12 28 0 (upd (hb_aI W 12 28 0) (q * L / 100) ((hb_aI W 12 28 0 (q * L / 100)) + (1 : Int32)))) Q → hb_R yX12_bookTakes cX12_bookTakes 5 none (d + 1) 148 [some (hb_r 12 0 0), some (hb_i (nI h)), some (hb_i (nI q)), some (hb_i x3), some (hb_i x4)] [hb_i (nI (mk h 6)), hb_r 12 0 27] W Q := fun {x3 x4} W eW z => by
      refine bk_X12_bookTakes_148 ?_
      rw [eW, er6, nI_clamp (by omega), eb, nI_clamp (by omega)]
      exact ⟨by rw [e8]; exact nI_ne0 (by omega) (by omega), vp_in_nI (by omega) (by decide), vp_in_nI (by omega) (by decide), vp_in_nI (by omega) (by decide), z⟩
    refine b148 _ hl ?_
    refine om_signs (T2 := sp_T (ps ++ [(h, q)])) n2 hh hl hmk m4 hPA (fun f10 hf10 => ?_)
    refine qq _ ⟨⟨n1, n2, n3, n4, by rw [List.length_append, List.length_singleton]; omega, fun p hp => ?_⟩, hl, hr, ⟨?_, ?_, ?_, ?_, ?_⟩, ?_, ?_, ?_, ?_, hf10⟩ ?_
    · rcases List.mem_append.mp hp with z | z
      · exact n6 p z
      · rw [List.mem_singleton.mp z]; exact ⟨hh, hq⟩
    · show hb_fI w 12 40 0 + 1 = _
      rw [t1, nI_1, List.length_append]
      rfl
    · intro x hx
      show upd (hb_aI w 12 21 0) h (hb_aI w 12 21 0 h + 1) x = _
      rw [sp_T_app]
      unfold upd
      by_cases e : x = h
      · subst e
        rw [if_pos rfl, if_pos rfl, t3 x hx, nI_1]
      · rw [if_neg e, if_neg e]; exact t3 x hx
    · intro x hx
      show upd (hb_aI w 12 30 0) q (hb_aI w 12 30 0 q + 1) x = _
      rw [sp_G_app]
      unfold upd
      by_cases e : x = q
      · subst e
        rw [if_pos rfl, if_pos rfl, t5 x hx, nI_1]
      · rw [if_neg e, if_neg e]; exact t5 x hx
    · intro x hx
      show upd (hb_aI w 12 28 0) (q * L / 100) (hb_aI w 12 28 0 (q * L / 100) + 1) x = _
      rw [sp_B_app]
      unfold upd
      by_cases e : x = q * L / 100
      · subst e
        rw [if_pos rfl, if_pos rfl, t6 _ hx, nI_1]
      · rw [if_neg e, if_neg e]; exact t6 x hx
    · rw [List.map_append, List.map_singleton, sp_of_app]
      exact ho
    · obtain ⟨l, l1, l2, l3, l4⟩ := hm0
      refine ⟨l, l1, l2, sp_least_congr l3 fun m => ?_, l4⟩
      constructor
      · rintro (⟨x, x1, x2, x3⟩ | z)
        · exact ⟨x, x1, (hPA x).mpr (Or.inl x2), x3⟩
        · exact ⟨h, hh, (hPA h).mpr (Or.inr rfl), z⟩
      · rintro ⟨x, x1, x2, x3⟩
        rcases (hPA x).mp x2 with z | z
        · exact Or.inl ⟨x, x1, z, x3⟩
        · subst z; exact Or.inr x3
    · show sp_run _ v
      have hrun := sp_run_add (m := mk h 1) m1
      have e : sS1 mk (sp_T (ps ++ [(h, q)])) = (fun x => sS1 mk (sp_T ps) x ∨ x = mk h 1) := by
        funext m
        apply propext
        constructor
        · rintro ⟨x, x1, x2, x3⟩
          rcases (hPA x).mp x2 with z | z
          · exact Or.inl ⟨x, x1, z, x3⟩
          · subst z; exact Or.inr x3
        · rintro (⟨x, x1, x2, x3⟩ | z)
          · exact ⟨x, x1, (hPA x).mpr (Or.inl x2), x3⟩
          · exact ⟨h, hh, (hPA h).mpr (Or.inr rfl), z⟩
      rw [e, hv]
      exact hrun
    · intro r k hr1 hk1
      show f7 (9 * r + k) = _
      rw [hf7 r k hr1 hk1, sp_T_fun, sp_cr_add hh]
    · exact bS_bits_add hh m3 hPA
    · exact ((((((((((((hm_ag.rf.pI (by decide)).sI (by decide)).sI (by decide)).sI (by decide)).pI (by decide)).pI (by decide)).sI (by decide)).sI (by decide)).sI (by decide)).sI (by decide)).sI (by decide)).sI (by decide)).sI (by decide)
  refine bk_X12_bookTakes_49 ⟨fun c2 => ?_, fun c2 => ?_⟩
  · refine go (hb_fI w 12 45 0) _ ?_ ?_
    · exact (hw_pI0 (hb_pI (hb_sI (hb_sI (hb_sI (hb_pI w 12 40 0 (hb_fI w 12 40 0 + 1)) 12 21 0 (upd (hb_aI w 12 21 0) h (hb_aI w 12 21 0 h + 1))) 12 30 0 (upd (hb_aI w 12 30 0) q (hb_aI w 12 30 0 q + 1))) 12 23 0 f) 12 44 0 c) 12 45 0).symm
    · rw [if_neg]
      intro z
      rw [Int32.lt_iff_toInt_lt] at z
      have c3 : nI (sp_nz (mk h 1)) ≤ hb_fI w 12 45 0 := c2
      rw [Int32.le_iff_toInt_le] at c3
      omega
  · refine go _ _ rfl ?_
    rw [if_pos]
    have c3 : ¬ nI (sp_nz (mk h 1)) ≤ hb_fI w 12 45 0 := c2
    rw [Int32.lt_iff_toInt_lt]
    rw [Int32.le_iff_toInt_le] at c3
    omega
end HMB
