/-! ===== the class's Book: addMarks by kinds ===== -/
section HWD
variable {d : Nat} {w : hb_W} {Q : Option hb_V → hb_W → Prop}
theorem ok_addMarks0 {g L h c0 : Nat} {mk : Nat → Nat → Nat} {S : Nat → Prop} (hg : g < 4) (hL0 : 1 ≤ L) (hL : L ≤ 9) (hh : h < 64) (hl : hb_fI w 9 0 g = nI L) (hmi : hb_fR w 9 2 g < 2) (hmk : hw_mk w (hb_fR w 9 2 g) mk) (hS : bS_least (hb_fI w 9 8 g) (hb_aI w 9 4 g) L S)
    (q : ∀ c f, bS_least c f L (fun x => S x ∨ x = mk h 0) → Q none (hb_sI (hb_pI w 9 8 g c) 9 4 g f)) : hb_O yX0_addMarks cX0_addMarks 5 none (d + 2) [hb_r 9 g 0, hb_i (nI h), hb_i (nI c0), hb_i (nI 0)] w Q := by
  refine bk_X0_addMarks_0 hg ⟨fun _ => ⟨hmi, ?_⟩, fun c => absurd c (by decide), fun c => absurd c (by decide), fun c => absurd c (by decide), fun c => absurd rfl c⟩
  obtain ⟨e, hb⟩ := hmk h 0 hh (by decide)
  refine ok_of (l := 0) hmi hh (by decide) ?_
  rw [e]
  refine bk_X0_addMarks_42 (gs0 := g) hg hg ?_
  exact ok_addLeast hg hL0 hL hb hl hS (fun c f z => bk_X0_addMarks_45 hg (q c f z))
theorem ok_addMarks1 {g h c0 : Nat} {mk : Nat → Nat → Nat} (hg : g < 4) (hh : h < 64) (hmi : hb_fR w 9 2 g < 2) (hmk : hw_mk w (hb_fR w 9 2 g) mk)
    (q : Q none (hb_pI w 9 10 g (if hb_fI w 9 10 g < nI (sp_nz (mk h 1)) then nI (sp_nz (mk h 1)) else hb_fI w 9 10 g))) : hb_O yX0_addMarks cX0_addMarks 5 none (d + 2) [hb_r 9 g 0, hb_i (nI h), hb_i (nI c0), hb_i (nI 1)] w Q := by
  refine bk_X0_addMarks_0 hg ⟨fun c => absurd c (by decide), fun _ => ⟨hmi, ?_⟩, fun c => absurd c (by decide), fun c => absurd c (by decide), fun _ c => absurd rfl c⟩
  obtain ⟨e, hb⟩ := hmk h 1 hh (by decide)
  refine ok_of (l := 1) hmi hh (by decide) ?_
  rw [e]
  refine bk_X0_addMarks_62 (gs0 := g) hg hg ?_
  exact ok_noughts hb (bk_X0_addMarks_65 (gs0 := g) hg hg q)
theorem ok_addMarks2 {g L R h c0 : Nat} {mk : Nat → Nat → Nat} {F : Nat → Nat → Nat} (hg : g < 4) (hL0 : 1 ≤ L) (hL : L ≤ 9) (hR : R ≤ 3) (hh : h < 64) (hl : hb_fI w 9 0 g = nI L) (hr : hb_fI w 9 1 g = nI R) (hmi : hb_fR w 9 2 g < 2) (hmk : hw_mk w (hb_fR w 9 2 g) mk) (hF : ∀ r k, r < R → k < L → hb_aI w 9 7 g (r * 9 + k) = nI (F r k))
    (q : ∀ f, (∀ r k, r < R → k < L → f (r * 9 + k) = nI (F r k + if mk h (2 + r) % L = k then c0 else 0)) → Q none (hb_sI w 9 7 g f)) : hb_O yX0_addMarks cX0_addMarks 5 none (d + 3) [hb_r 9 g 0, hb_i (nI h), hb_i (nI c0), hb_i (nI 2)] w Q := by
  refine bk_X0_addMarks_0 hg ⟨fun c => absurd c (by decide), fun c => absurd c (by decide), fun _ => ?_, fun c => absurd c (by decide), fun _ _ c => absurd rfl c⟩
  have key : ∀ (n i : Nat), i + n = R → ∀ f, (∀ r k, r < R → k < L → f (r * 9 + k) = nI (F r k + if r < i ∧ mk h (2 + r) % L = k then c0 else 0)) → hb_R yX0_addMarks cX0_addMarks 5 none (d + 2 + 1) 77 [some (hb_r 9 g 0), some (hb_i (nI h)), some (hb_i (nI c0)), some (hb_i (nI 2)), some (hb_i (nI i))] [] (hb_sI w 9 7 g f) Q := by
    intro n
    induction n with
    | zero =>
      intro i hi f hf
      rw [Nat.add_zero] at hi
      subst hi
      refine bk_X0_addMarks_77 hg ⟨fun _ => q f fun r k h1 h2 => ?_, fun c => absurd (show hb_fI w 9 1 g ≤ nI i by rw [hr]; exact nI_le (Nat.le_refl _) (by omega)) c⟩
      rw [hf r k h1 h2]
      simp only [h1, true_and]
    | succ n ih =>
      intro i hi f hf
      refine bk_X0_addMarks_77 hg ⟨fun c => absurd (show nI R ≤ nI i by rw [← hr]; exact c) (nI_ge (by omega) (by omega)), fun _ => ?_⟩
      have hmod : mk h (2 + i) % L < L := Nat.mod_lt _ (by omega)
      refine ok_crossing (w := hb_sI w 9 7 g f) hg hL0 hL (by omega) hh hl hmi hmk ?_
      refine bk_X0_addMarks_97 (gs0 := g) hg hg ⟨vp_in_nI (by omega) (by decide), vp_in_nI (by omega) (by decide), ?_⟩
      rw [hw_aIs, hw_sI2, nI_clamp (by omega), nI_1]
      refine ih (i + 1) (by omega) _ fun r k h1 h2 => ?_
      unfold upd
      by_cases e : r * 9 + k = i * 9 + mk h (2 + i) % L
      · have er : r = i := by omega
        subst er
        have ek : k = mk h (2 + r) % L := by omega
        rw [if_pos e, ← e, hf r k h1 h2, nI_add, if_neg (by omega), if_pos ⟨by omega, ek.symm⟩]
        rfl
      · rw [if_neg e, hf r k h1 h2]
        congr 2
        by_cases e2 : r < i ∧ mk h (2 + r) % L = k
        · rw [if_pos e2, if_pos ⟨by omega, e2.2⟩]
        · rw [if_neg e2, if_neg]
          intro e3
          by_cases e4 : r = i
          · subst e4
            exact e (by rw [e3.2])
          · exact e2 ⟨by omega, e3.2⟩
  have := key R 0 (by omega) (hb_aI w 9 7 g) (fun r k h1 h2 => by rw [hF r k h1 h2, if_neg (by omega)]; rfl)
  rw [hw_sI0] at this
  exact this
theorem ok_addMarks3 {g L h c0 : Nat} {mk : Nat → Nat → Nat} (hg : g < 4) (hL0 : 1 ≤ L) (hL : L ≤ 9) (hh : h < 64) (hl : hb_fI w 9 0 g = nI L) (hmi : hb_fR w 9 2 g < 2) (hmk : hw_mk w (hb_fR w 9 2 g) mk)
    (q : Q none (hb_sI w 9 8 g (upd (upd (hb_aI w 9 8 g) (mk h 5 % (8 * L)) 1) (mk h 6 % (8 * L)) 1))) : hb_O yX0_addMarks cX0_addMarks 5 none (d + 3) [hb_r 9 g 0, hb_i (nI h), hb_i (nI c0), hb_i (nI 3)] w Q := by
  have h5 : mk h 5 % (8 * L) < 8 * L := Nat.mod_lt _ (by omega)
  have h6 : mk h 6 % (8 * L) < 8 * L := Nat.mod_lt _ (by omega)
  refine bk_X0_addMarks_0 hg ⟨fun c => absurd c (by decide), fun c => absurd c (by decide), fun c => absurd c (by decide), fun _ => ?_, fun _ _ _ c => absurd rfl c⟩
  refine ok_bitPlace (l := 5) hg hL0 hL (by decide) hh hl hmi hmk ?_
  refine bk_X0_addMarks_121 (gs0 := g) hg hg ⟨vp_in_nI (by omega) (by decide), ?_⟩
  rw [nI_clamp (by omega)]
  refine ok_bitPlace (l := 6) hg hL0 hL (by decide) hh hl hmi hmk ?_
  refine bk_X0_addMarks_134 (gs0 := g) hg hg ⟨vp_in_nI (by omega) (by decide), ?_⟩
  rw [hw_aIs, hw_sI2, nI_clamp (by omega)]
  exact q
theorem ok_wipeMarks {g : Nat} (hg : g < 4) (q : Q none (hb_sI (hb_sI (hb_sI (hb_pI (hb_pI w 9 8 g 0) 9 10 g (-1)) 9 7 g (hw_fill 27 0 (hb_aI w 9 7 g))) 9 8 g (hw_fill 72 0 (hb_aI w 9 8 g))) 9 10 g (hw_fill 9 1000 (hb_aI w 9 10 g)))) : hb_O yX0_wipeMarks cX0_wipeMarks 1 none (d + 1) [hb_r 9 g 0] w Q := by
  refine bk_X0_wipeMarks_0 hg ?_
  refine ok_fill (n := 27) rfl hg (by decide) ?_
  refine bk_X0_wipeMarks_18 hg ?_
  refine ok_fill (n := 72) rfl hg (by decide) ?_
  refine bk_X0_wipeMarks_26 hg ?_
  refine ok_fill (n := 9) rfl hg (by decide) ?_
  exact bk_X0_wipeMarks_36 hg q
end HWD
