/-! ===== the class's Book: begin, copy ===== -/
theorem hw_clip {a n : Nat} (h1 : 1 ≤ a) (h2 : a ≤ n) (hn : n < 1000) : (if (1 : Int32) < (if nI a < nI n then nI a else nI n) then (if nI a < nI n then nI a else nI n) else (1 : Int32)) = nI a := by
  have e : (if nI a < nI n then nI a else nI n) = nI a := by
    by_cases h : a < n
    · rw [if_pos (nI_lt h (by omega))]
    · rw [if_neg (nI_nlt (by omega) (by omega)), show a = n by omega]
  rw [e]
  show (if nI 1 < nI a then nI a else nI 1) = nI a
  by_cases h : 1 < a
  · rw [if_pos (show nI 1 < nI a from nI_lt h (by omega))]
  · rw [if_neg (show ¬ nI 1 < nI a from nI_nlt (by omega) (by omega)), show a = 1 by omega]
theorem hw_cpy {f g : Nat → Int32} {n : Nat} {k : Nat} (h : k < n) : va_cpy f g 0 0 n k = f k := by
  rw [pk_cpy_in (Nat.zero_le k) (by omega)]
  congr 1
  omega
section HWF
variable {d : Nat} {w : hb_W} {Q : Option hb_V → hb_W → Prop}
set_option maxHeartbeats 4000000 in
theorem ok_begin {g L R : Nat} (hg : g < 4) (hL0 : 1 ≤ L) (hL : L ≤ 9) (hR0 : 1 ≤ R) (hR : R ≤ 3)
    (qq : ∀ w2, (∀ mk, cB w2 g L R mk []) → hw_ag (fun t g2 => t = 9 ∧ g2 = g) w w2 → w2.2.2.1 = w.2.2.1 → Q none w2) : hb_O yX0_begin cX0_begin 3 none (d + 2) [hb_r 9 g 0, hb_i (nI L), hb_i (nI R)] w Q := by
  refine bk_X0_begin_0 hg ?_
  have eL := hw_clip hL0 hL (by decide)
  have eR := hw_clip hR0 hR (by decide)
  rw [show (9 : Int32) = nI 9 from rfl, show (3 : Int32) = nI 3 from rfl, eL, eR]
  refine ok_fill (n := 64) rfl hg (by decide) ?_
  refine bk_X0_begin_45 hg ?_
  refine ok_fill (n := 64) rfl hg (by decide) ?_
  refine bk_X0_begin_53 hg ?_
  refine ok_fill (n := 100) rfl hg (by decide) ?_
  refine bk_X0_begin_61 hg ?_
  refine ok_fill (n := 9) rfl hg (by decide) ?_
  refine bk_X0_begin_69 hg ?_
  refine ok_fill (n := 9) rfl hg (by decide) ?_
  refine bk_X0_begin_77 hg ?_
  refine ok_wipeMarks hg ?_
  refine bk_X0_begin_81 hg ?_
  have fl : ∀ {n k : Nat} {x : Int32} {f : Nat → Int32}, k < n → hw_fill n x f k = x := fun h => by unfold hw_fill; rw [if_pos h]
  have hT0 : ∀ h, sp_T [] h = 0 := fun h => rfl
  refine qq _ (fun mk => ⟨⟨hL0, hL, hR0, hR, by decide, fun p hp => by cases hp⟩, ?_, ?_, ⟨?_, ?_, ?_, ?_, ?_, ?_, ?_⟩, ?_, ?_, ?_, ?_, ?_⟩) ?_ rfl
  · show hb_u3 w.1 9 0 g (nI L) 9 0 g = nI L
    rw [hb_u3_s]
  · show hb_u3 _ 9 1 g (nI R) 9 1 g = nI R
    rw [hb_u3_s]
  · show hb_u3 _ 9 3 g 0 9 3 g = nI 0
    rw [hb_u3_s]
    rfl
  · show hb_u3 _ 9 4 g 0 9 4 g = _
    rw [hb_u3_s]
    have : sp_U (sp_T []) = 0 := by
      unfold sp_U
      rw [sp_sum_congr (g := fun _ => 0) (fun k _ => by rw [hT0]; rfl), sp_sum_zero]
    rw [this]
    rfl
  · intro h hh
    show hb_u3 _ 9 1 g (hw_fill 64 0 _) 9 1 g h = _
    rw [hb_u3_s, fl hh]
    rfl
  · intro h hh
    show hb_u3 _ 9 2 g (hw_fill 64 0 _) 9 2 g h = _
    rw [hb_u3_s, fl hh]
    rfl
  · intro h hh
    show hb_u3 _ 9 3 g (hw_fill 100 0 _) 9 3 g h = _
    rw [hb_u3_s, fl hh]
    rfl
  · intro k hk
    show hb_u3 _ 9 9 g (hw_fill 9 0 _) 9 9 g k = _
    rw [hb_u3_s, fl (by omega)]
    rfl
  · intro k hk
    show hb_u3 _ 9 6 g (hw_fill 9 0 _) 9 6 g k = nI 0 ∧ 0 < 1000000 ∧ (0 < 0 → _)
    rw [hb_u3_s, fl (by omega)]
    exact ⟨rfl, by decide, fun z => absurd z (Nat.lt_irrefl 0)⟩
  · show bS_least (hb_u3 _ 9 8 g 0 9 8 g) _ L _
    rw [hb_u3_s]
    refine ⟨[], rfl, fun k hk => absurd hk (Nat.not_lt_zero k), sp_least_congr (sp_least_nil L) fun m => ?_, fun m hm => by cases hm⟩
    constructor
    · intro z; exact False.elim z
    · rintro ⟨h, _, z, _⟩
      rw [hT0] at z
      exact absurd z (Nat.lt_irrefl 0)
  · show sp_run _ (hb_u3 _ 9 10 g (-1) 9 10 g)
    rw [hb_u3_s]
    refine Or.inl ⟨rfl, ?_⟩
    rintro m ⟨h, _, z, _⟩
    rw [hT0] at z
    exact absurd z (Nat.lt_irrefl 0)
  · intro r k hr hk
    show hb_u3 _ 9 7 g (hw_fill 27 0 _) 9 7 g (r * 9 + k) = _
    rw [hb_u3_s, fl (by omega)]
    have : sp_cr L mk (sp_T []) r k = 0 := by
      unfold sp_cr
      rw [sp_sum_congr (g := fun _ => 0) (fun x _ => by rw [hT0]; split <;> rfl), sp_sum_zero]
    rw [this]
    rfl
  · intro k hk
    show _ ∨ (_ ∧ hb_u3 _ 9 8 g (hw_fill 72 0 _) 9 8 g k = 0)
    rw [hb_u3_s, fl (by omega)]
    refine Or.inr ⟨?_, rfl⟩
    rintro ⟨h, _, z, _⟩
    rw [hT0] at z
    exact absurd z (Nat.lt_irrefl 0)
  · intro l hl
    show ∃ v, _ ∧ hb_u3 _ 9 10 g (hw_fill 9 1000 _) 9 10 g l = _ ∧ _
    rw [hb_u3_s, fl (by omega)]
    refine ⟨1000, Or.inl ⟨rfl, fun h _ z => ?_⟩, rfl, Nat.le_refl _⟩
    exact absurd (show 0 < 0 from z) (Nat.lt_irrefl 0)
  · have hp : (fun t g2 => t = 9 ∧ g2 = g) 9 g := ⟨rfl, rfl⟩
    exact ((((((((((((((hw_ag.rf.pI hp).pI hp).pI hp).pI hp).sI hp).sI hp).sI hp).sI hp).sI hp).pI hp).pI hp).sI hp).sI hp).sI hp)
set_option maxHeartbeats 4000000 in
theorem ok_copy {g g1 L R : Nat} {mk : Nat → Nat → Nat} {ps : List (Nat × Nat)} (hg : g < 4) (hg1 : g1 < 4) (hB : cB w g1 L R mk ps)
    (qq : ∀ w2, cB w2 g L R mk ps → hw_ag (fun t g2 => t = 9 ∧ g2 = g) w w2 → w2.2.2.1 = w.2.2.1 → Q none w2) : hb_O yX0_copy cX0_copy 2 none (d + 1) [hb_r 9 g 0, hb_r 9 g1 0] w Q := by
  obtain ⟨nn, hl, hr, ⟨t1, t2, t3, t4, t5, t6, t7⟩, m0, m1, m2, m3, m4⟩ := hB
  obtain ⟨n1, n2, n3, n4, n5, n6⟩ := id nn
  refine bk_X0_copy_0 hg hg1 (qq _ ⟨nn, ?_, ?_, ⟨?_, ?_, ?_, ?_, ?_, ?_, ?_⟩, ?_, ?_, ?_, ?_, ?_⟩ ?_ rfl)
  · show hb_u3 w.1 9 0 g (hb_fI w 9 0 g1) 9 0 g = nI L
    rw [hb_u3_s]; exact hl
  · show hb_u3 _ 9 1 g (hb_fI w 9 1 g1) 9 1 g = nI R
    rw [hb_u3_s]; exact hr
  · show hb_u3 _ 9 3 g (hb_fI w 9 3 g1) 9 3 g = _
    rw [hb_u3_s]; exact t1
  · show hb_u3 _ 9 4 g (hb_fI w 9 4 g1) 9 4 g = _
    rw [hb_u3_s]; exact t2
  · intro h hh
    show hb_u3 _ 9 1 g (va_cpy (hb_aI w 9 1 g1) _ 0 0 64) 9 1 g h = _
    rw [hb_u3_s, hw_cpy hh]; exact t3 h hh
  · intro h hh
    show hb_u3 _ 9 2 g (va_cpy (hb_aI w 9 2 g1) _ 0 0 64) 9 2 g h = _
    rw [hb_u3_s, hw_cpy hh]; exact t4 h hh
  · intro h hh
    show hb_u3 _ 9 3 g (va_cpy (hb_aI w 9 3 g1) _ 0 0 100) 9 3 g h = _
    rw [hb_u3_s, hw_cpy hh]; exact t5 h hh
  · intro k hk
    show hb_u3 _ 9 9 g (va_cpy (hb_aI w 9 9 g1) _ 0 0 9) 9 9 g k = _
    rw [hb_u3_s, hw_cpy (by omega)]; exact t6 k hk
  · intro k hk
    show hb_u3 _ 9 6 g (va_cpy (hb_aI w 9 6 g1) _ 0 0 9) 9 6 g k = _ ∧ _ ∧ (_ → hb_u3 _ 9 5 g (va_cpy (hb_aI w 9 5 g1) _ 0 0 9) 9 5 g k = _ ∧ _)
    rw [hb_u3_s, hb_u3_s, hw_cpy (by omega), hw_cpy (by omega)]; exact t7 k hk
  · show bS_least (hb_u3 _ 9 8 g (hb_fI w 9 8 g1) 9 8 g) (hb_u3 _ 9 4 g (va_cpy (hb_aI w 9 4 g1) _ 0 0 9) 9 4 g) L _
    rw [hb_u3_s, hb_u3_s]
    obtain ⟨l, l1, l2, l3, l4⟩ := m0
    exact ⟨l, l1, fun k hk => by rw [hw_cpy (by have := l3.2.2.1; omega)]; exact l2 k hk, l3, l4⟩
  · show sp_run _ (hb_u3 _ 9 10 g (hb_fI w 9 10 g1) 9 10 g)
    rw [hb_u3_s]; exact m1
  · intro r k h1 h2
    show hb_u3 _ 9 7 g (va_cpy (hb_aI w 9 7 g1) _ 0 0 27) 9 7 g (r * 9 + k) = _
    rw [hb_u3_s, hw_cpy (by omega)]; exact m2 r k h1 h2
  · intro k hk
    show (_ ∧ hb_u3 _ 9 8 g (va_cpy (hb_aI w 9 8 g1) _ 0 0 72) 9 8 g k = 1) ∨ (_ ∧ hb_u3 _ 9 8 g (va_cpy (hb_aI w 9 8 g1) _ 0 0 72) 9 8 g k = 0)
    rw [hb_u3_s, hw_cpy (by omega)]; exact m3 k hk
  · intro l hl2
    show ∃ v, _ ∧ hb_u3 _ 9 10 g (va_cpy (hb_aI w 9 10 g1) _ 0 0 9) 9 10 g l = _ ∧ _
    rw [hb_u3_s, hw_cpy (by omega)]; exact m4 l hl2
  · have hp : (fun t g2 => t = 9 ∧ g2 = g) 9 g := ⟨rfl, rfl⟩
    exact (((((((((((((((hw_ag.rf.pI hp).pI hp).pI hp).pI hp).pI hp).pI hp).sI hp).sI hp).sI hp).sI hp).sI hp).sI hp).sI hp).sI hp).sI hp).sI hp
end HWF
