/-! ===== the class's Book: add ===== -/
section HWE
variable {d : Nat} {w : hb_W} {Q : Option hb_V → hb_W → Prop}
/-- the signs, line by line -/
theorem ok_add_signs {g L h q : Nat} {mk : Nat → Nat → Nat} {T T2 : Nat → Nat} (hg : g < 4) (hL : L ≤ 9) (hh : h < 64) (hl : hb_fI w 9 0 g = nI L) (hmi : hb_fR w 9 2 g < 2) (hmk : hw_mk w (hb_fR w 9 2 g) mk) (hS : cM4 w g L mk T) (hT : ∀ x, 0 < T2 x ↔ 0 < T x ∨ x = h)
    (qq : ∀ f, (∀ l, l < L → ∃ v, sp_sg mk (fun h => 0 < T2 h) l v ∧ f l = nI v ∧ v ≤ 1000) → Q none (hb_sI w 9 10 g f)) : hb_R yX0_add cX0_add 4 none (d + 1) 122 [some (hb_r 9 g 0), some (hb_i (nI h)), some (hb_i (nI q)), some (hb_i (nI 0))] [] w Q := by
  have key : ∀ (n i : Nat), i + n = L → ∀ f, (∀ l, l < L → ∃ v, (if l < i then sp_sg mk (fun h => 0 < T2 h) l v else sp_sg mk (fun h => 0 < T h) l v) ∧ f l = nI v ∧ v ≤ 1000) → hb_R yX0_add cX0_add 4 none (d + 1) 122 [some (hb_r 9 g 0), some (hb_i (nI h)), some (hb_i (nI q)), some (hb_i (nI i))] [] (hb_sI w 9 10 g f) Q := by
    intro n
    induction n with
    | zero =>
      intro i hi f hf
      rw [Nat.add_zero] at hi
      subst hi
      refine bk_X0_add_122 hg ⟨fun _ => qq f fun l hl2 => ?_, fun c => absurd (show hb_fI w 9 0 g ≤ nI i by rw [hl]; exact nI_le (Nat.le_refl _) (by omega)) c⟩
      obtain ⟨v, v1, v2⟩ := hf l hl2
      rw [if_pos hl2] at v1
      exact ⟨v, v1, v2⟩
    | succ n ih =>
      intro i hi f hf
      obtain ⟨v, v1, v2, v3⟩ := hf i (by omega)
      rw [if_neg (Nat.lt_irrefl i)] at v1
      obtain ⟨e, hb⟩ := hmk h i hh (by omega)
      refine bk_X0_add_122 hg ⟨fun c => absurd (show nI L ≤ nI i by rw [← hl]; exact c) (nI_ge (by omega) (by omega)), fun _ => ⟨vp_in_nI (by omega) (by decide), hmi, ?_⟩⟩
      refine ok_of (w := hb_sI w 9 10 g f) hmi hh (by omega) ?_
      refine bk_X0_add_150 (gs0 := g) hg hg ⟨vp_in_nI (by omega) (by decide), ?_⟩
      rw [hw_aIs, hw_sI2, nI_clamp (by omega), nI_1]
      refine ih (i + 1) (by omega) _ fun l hl2 => ?_
      by_cases el : l = i
      · subst el
        refine ⟨min v (mk h l), ?_, ?_, by omega⟩
        · rw [if_pos (by omega)]
          exact sp_sg_add hh hb v1 hT
        · show upd f l _ l = _
          rw [pk_us]
          show (if hb_aI w 5 1 (hb_fR w 9 2 g) (h * 9 + l) < f l then hb_aI w 5 1 (hb_fR w 9 2 g) (h * 9 + l) else f l) = _
          rw [e, v2]
          by_cases z : mk h l < v
          · rw [if_pos (nI_lt z (by omega)), Nat.min_eq_right (by omega)]
          · rw [if_neg (nI_nlt (by omega) (by omega)), Nat.min_eq_left (by omega)]
      · obtain ⟨u, u1, u2⟩ := hf l hl2
        refine ⟨u, ?_, ?_⟩
        · by_cases z : l < i
          · rw [if_pos z] at u1
            rw [if_pos (by omega)]
            exact u1
          · rw [if_neg z] at u1
            rw [if_neg (by omega)]
            exact u1
        · rw [pk_un el]
          exact u2
  have := key L 0 (by omega) (hb_aI w 9 10 g) (fun l hl2 => by
    obtain ⟨v, v1, v2⟩ := hS l hl2
    exact ⟨v, by rw [if_neg (Nat.not_lt_zero l)]; exact v1, v2⟩)
  rw [hw_sI0] at this
  exact this
set_option maxHeartbeats 4000000 in
theorem ok_add {g L R h q : Nat} {mk : Nat → Nat → Nat} {ps : List (Nat × Nat)} (hg : g < 4) (hh : h < 64) (hq : q < 100) (hn : ps.length ≤ 400) (hmi : hb_fR w 9 2 g < 2) (hmk : hw_mk w (hb_fR w 9 2 g) mk) (hB : cB w g L R mk ps)
    (qq : ∀ w2, cB w2 g L R mk (ps ++ [(h, q)]) → hw_ag (fun t g2 => t = 9 ∧ g2 = g) w w2 → w2.2.2.1 = w.2.2.1 → Q none w2) : hb_O yX0_add cX0_add 4 none (d + 4) [hb_r 9 g 0, hb_i (nI h), hb_i (nI q)] w Q := by
  obtain ⟨⟨n1, n2, n3, n4, n5, n6⟩, hl, hr, ⟨t1, t2, t3, t4, t5, t6, t7⟩, m0, m1, m2, m3, m4⟩ := hB
  have hTle := sp_T_le ps h
  have hPA := sp_P_app ps h q
  have hbin : q * L / 100 < L := by
    have : q * L < 100 * L := Nat.mul_lt_mul_of_pos_right hq (by omega)
    exact Nat.div_lt_of_lt_mul this
  -- what follows the counting
  have go : ∀ v : Int32, v = nI (sp_U (sp_T (ps ++ [(h, q)]))) → hb_O yX0_addOften cX0_addOften 4 none (d + 3) [hb_r 9 g 0, hb_i (nI h)] (hb_sI (hb_sI (hb_sI (hb_sI (hb_pI (hb_pI w 9 4 g v) 9 3 g (hb_fI w 9 3 g + 1)) 9 1 g (upd (hb_aI w 9 1 g) h (hb_aI w 9 1 g h + 1))) 9 2 g (upd (hb_aI w 9 2 g) h (hb_aI w 9 2 g h + nI q))) 9 3 g (upd (hb_aI w 9 3 g) q (hb_aI w 9 3 g q + 1))) 9 9 g (upd (hb_aI w 9 9 g) (q * L / 100) (hb_aI w 9 9 g (q * L / 100) + 1)))
      (fun rv w1 => hb_R yX0_add cX0_add 4 none (d + 3 + 1) 100 [some (hb_r 9 g 0), some (hb_i (nI h)), some (hb_i (nI q)), none] (rv.toList ++ []) w1 Q) := by
    intro v hv
    refine ok_addOften hg n2 hh hl t7 (fun k _ => ?_) (fun f1 f2 ho => ?_)
    · have := sp_of_le L (ps.map Prod.fst) (fun _ => (0, 0)) 0 (fun _ => Nat.le_refl 0) k
      rw [List.length_map] at this
      show ((sp_of L (ps.map Prod.fst)) k).2 + 1 < 1000000
      unfold sp_of
      omega
    refine bk_X0_add_100 hg ?_
    refine bk_X0_add_102 hg ⟨fun c => absurd c (by decide), fun _ => ?_⟩
    refine ok_addMarks0 (c0 := 1) hg n1 n2 hh hl hmi hmk m0 (fun c f hm0 => ?_)
    refine bk_X0_add_114 hg ?_
    refine bk_X0_add_102 hg ⟨fun c => absurd c (by decide), fun _ => ?_⟩
    refine ok_addMarks1 (c0 := 1) hg hh hmi hmk ?_
    refine bk_X0_add_114 hg ?_
    refine bk_X0_add_102 hg ⟨fun c => absurd c (by decide), fun _ => ?_⟩
    refine ok_addMarks2 (c0 := 1) hg n1 n2 n4 hh hl hr hmi hmk m2 (fun f7 hf7 => ?_)
    refine bk_X0_add_114 hg ?_
    refine bk_X0_add_102 hg ⟨fun c => absurd c (by decide), fun _ => ?_⟩
    refine ok_addMarks3 (c0 := 1) hg n1 n2 hh hl hmi hmk ?_
    refine bk_X0_add_114 hg ?_
    refine bk_X0_add_102 hg ⟨fun _ => ?_, fun c => absurd (by decide) c⟩
    refine ok_add_signs (T2 := sp_T (ps ++ [(h, q)])) hg n2 hh hl hmi hmk m4 hPA (fun f10 hf10 => ?_)
    refine qq _ ⟨⟨n1, n2, n3, n4, by rw [List.length_append, List.length_singleton]; omega, fun p hp => ?_⟩, hl, hr, ⟨?_, ?_, ?_, ?_, ?_, ?_, ?_⟩, ?_, ?_, ?_, ?_, ?_⟩ ?_ rfl
    · rcases List.mem_append.mp hp with z | z
      · exact n6 p z
      · rw [List.mem_singleton.mp z]; exact ⟨hh, hq⟩
    · show hb_u3 _ 9 3 g (hb_fI w 9 3 g + 1) 9 3 g = _
      rw [hb_u3_s, t1, nI_1, List.length_append]
      rfl
    · show hb_u3 w.1 9 4 g v 9 4 g = _
      rw [hb_u3_s]
      exact hv
    · intro x hx
      show hb_u3 w.2.2.2.1 9 1 g (upd (hb_aI w 9 1 g) h (hb_aI w 9 1 g h + 1)) 9 1 g x = _
      rw [hb_u3_s, sp_T_app]
      unfold upd
      by_cases e : x = h
      · subst e
        rw [if_pos rfl, if_pos rfl, t3 x hx, nI_1]
      · rw [if_neg e, if_neg e]; exact t3 x hx
    · intro x hx
      show hb_u3 _ 9 2 g (upd (hb_aI w 9 2 g) h (hb_aI w 9 2 g h + nI q)) 9 2 g x = _
      rw [hb_u3_s, sp_V_app]
      unfold upd
      by_cases e : x = h
      · subst e
        rw [if_pos rfl, if_pos rfl, t4 x hx, nI_add]
      · rw [if_neg e, if_neg e]; exact t4 x hx
    · intro x hx
      show hb_u3 _ 9 3 g (upd (hb_aI w 9 3 g) q (hb_aI w 9 3 g q + 1)) 9 3 g x = _
      rw [hb_u3_s, sp_G_app]
      unfold upd
      by_cases e : x = q
      · subst e
        rw [if_pos rfl, if_pos rfl, t5 x hx, nI_1]
      · rw [if_neg e, if_neg e]; exact t5 x hx
    · intro x hx
      show hb_u3 _ 9 9 g (upd (hb_aI w 9 9 g) (q * L / 100) (hb_aI w 9 9 g (q * L / 100) + 1)) 9 9 g x = _
      rw [hb_u3_s, sp_B_app]
      unfold upd
      by_cases e : x = q * L / 100
      · subst e
        rw [if_pos rfl, if_pos rfl, t6 _ hx, nI_1]
      · rw [if_neg e, if_neg e]; exact t6 x hx
    · rw [List.map_append, List.map_singleton, sp_of_app]
      intro k hk
      show hb_u3 _ 9 6 g f2 9 6 g k = _ ∧ _ ∧ (_ → hb_u3 _ 9 5 g f1 9 5 g k = _ ∧ _)
      rw [hb_u3_s, hb_u3_s]
      exact ho k hk
    · show bS_least (hb_u3 _ 9 8 g c 9 8 g) (hb_u3 _ 9 4 g f 9 4 g) L _
      rw [hb_u3_s, hb_u3_s]
      obtain ⟨l, l1, l2, l3, l4⟩ := hm0
      refine ⟨l, l1, l2, sp_least_congr l3 fun m => ?_, l4⟩
      constructor
      · rintro (⟨x, x1, x2, x3⟩ | z)
        · exact ⟨x, x1, (hPA x).mpr (Or.inl x2), x3⟩
        · exact ⟨h, hh, (hPA h).mpr (Or.inr rfl), z⟩
      · rintro ⟨x, x1, x2, x3⟩
        rcases (hPA x).mp x2 with z | z
        · exact Or.inl ⟨x, x1, z, x3⟩
        · subst z; exact Or.inr x3
    · show sp_run _ (hb_u3 _ 9 10 g (if hb_fI w 9 10 g < nI (sp_nz (mk h 1)) then nI (sp_nz (mk h 1)) else hb_fI w 9 10 g) 9 10 g)
      rw [hb_u3_s]
      have hrun := sp_run_add (m := mk h 1) m1
      have e : (fun m => ∃ h_1, h_1 < 64 ∧ 0 < sp_T (ps ++ [(h, q)]) h_1 ∧ m = mk h_1 1) = (fun x => (∃ h, h < 64 ∧ 0 < sp_T ps h ∧ x = mk h 1) ∨ x = mk h 1) := by
        funext m
        apply propext
        constructor
        · rintro ⟨x, x1, x2, x3⟩
          rcases (hPA x).mp x2 with z | z
          · exact Or.inl ⟨x, x1, z, x3⟩
          · subst z; exact Or.inr x3
        · rintro (⟨x, x1, x2, x3⟩ | z)
          · exact ⟨x, x1, (hPA x).mpr (Or.inl x2), x3⟩
          · exact ⟨h, hh, (hPA h).mpr (Or.inr rfl), z⟩
      rw [e]
      exact hrun
    · intro r k hr1 hk1
      show hb_u3 _ 9 7 g f7 9 7 g (r * 9 + k) = _
      rw [hb_u3_s, hf7 r k hr1 hk1, sp_T_fun, sp_cr_add hh]
    · show bS_bits (hb_u3 _ 9 8 g (upd (upd (hb_aI w 9 8 g) (mk h 5 % (8 * L)) 1) (mk h 6 % (8 * L)) 1) 9 8 g) L mk _
      rw [hb_u3_s]
      exact bS_bits_add hh m3 hPA
    · intro l hl2
      show ∃ v, _ ∧ hb_u3 _ 9 10 g f10 9 10 g l = _ ∧ _
      rw [hb_u3_s]
      exact hf10 l hl2
    · have hp : (fun t g2 => t = 9 ∧ g2 = g) 9 g := ⟨rfl, rfl⟩
      exact ((((((((((((hw_ag.rf.pI hp).pI hp).sI hp).sI hp).sI hp).sI hp).sI hp).sI hp).pI hp).sI hp).pI hp).sI hp).sI hp |>.sI hp
  refine bk_X0_add_0 hg (ok_isHood_y hh ?_)
  have v1 : vp_in (nI h) 64 := vp_in_nI hh (by decide)
  have v2 : vp_in (nI q) 100 := vp_in_nI hq (by decide)
  have eb : nI q * hb_fI w 9 0 g / 100 = nI (q * L / 100) := by
    rw [hl, pk_mul, show (100 : Int32) = nI 100 from rfl, pk_div (by
      have : q * L ≤ 100 * 9 := Nat.mul_le_mul (by omega) n2
      omega) (by decide) (by decide)]
  have v3 : vp_in (nI q * hb_fI w 9 0 g / 100) 9 := by rw [eb]; exact vp_in_nI (by omega) (by decide)
  refine bk_X0_add_4 hg ⟨fun c => absurd c (by decide), fun _ => ⟨fun c => absurd c (nI_pos (by omega)), fun _ => ⟨fun _ => ⟨v1, fun c => ⟨v1, v1, v1, v1, v2, v2, v3, v3, ?_⟩, fun c => ⟨v1, v1, v1, v1, v2, v2, v3, v3, ?_⟩⟩, fun c => absurd (nI_lt hq (by decide)) c⟩⟩⟩
  · rw [nI_clamp (by omega)] at c ⊢
    rw [nI_clamp (by omega), eb, nI_clamp (by omega)]
    rw [t3 h hh, show (0 : Int32) = nI 0 from rfl, nI_eq (by omega) (by omega)] at c
    have := go (hb_fI w 9 4 g) (by rw [t2, sp_U_app ps hh, if_neg c]; rfl)
    rw [hw_pI0] at this
    exact this
  · rw [nI_clamp (by omega)] at c ⊢
    rw [nI_clamp (by omega), eb, nI_clamp (by omega)]
    rw [t3 h hh, show (0 : Int32) = nI 0 from rfl, nI_eq (by omega) (by omega)] at c
    exact go (hb_fI w 9 4 g + 1) (by rw [t2, sp_U_app ps hh, if_pos c, nI_1])
end HWE
