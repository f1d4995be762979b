/-! ===== the class's Book: marks, places, often ===== -/
def hw_mk (w : hb_W) (mi : Nat) (mk : Nat → Nat → Nat) : Prop := ∀ h l, h < 64 → l < 9 → hb_aI w 5 1 mi (h * 9 + l) = nI (mk h l) ∧ mk h l < 1000
theorem hw_nzA : ∀ m, m < 1000 → (∀ i, i < 10 → ((((nI m >>> (nI i &&& 31)) &&& 1) = 0) ↔ i < sp_nz m) ∨ sp_nz m < i) := by decide +kernel
def bS_often (num hood : Nat → Int32) (L : Nat) (s : Nat → Nat × Nat) : Prop := ∀ k, k < L → num k = nI (s k).2 ∧ (s k).2 < 1000000 ∧ (0 < (s k).2 → hood k = nI (s k).1 ∧ (s k).1 < 64)
theorem hw_fd_some {p : Nat → Bool} {L k : Nat} (hk : k < L) (hp : p k = true) (hn : ∀ j, j < k → p j = false) : (List.range L).find? p = some k := List.find?_range_eq_some.mpr ⟨hp, List.mem_range.mpr hk, fun j hj => by rw [hn j hj]; rfl⟩
theorem hw_fd_none {p : Nat → Bool} {L : Nat} (hn : ∀ j, j < L → p j = false) : (List.range L).find? p = none := List.find?_range_eq_none.mpr fun j hj => by rw [hn j hj]; rfl
section HWC
variable {d : Nat} {w : hb_W} {Q : Option hb_V → hb_W → Prop}
theorem ok_noughts {m : Nat} (hm : m < 1000) (q : Q (some (hb_i (nI (sp_nz m)))) w) : hb_O yX0_noughtsAtEnd cX0_noughtsAtEnd 2 (some .int) d [hb_i (nI m)] w Q := by
  have hz := sp_nz_le m
  have key : ∀ (n i : Nat), i + n = sp_nz m → hb_R yX0_noughtsAtEnd cX0_noughtsAtEnd 2 (some .int) d 2 [some (hb_i (nI m)), some (hb_i (nI i))] [] w Q := by
    intro n
    induction n with
    | zero =>
      intro i hi
      rw [Nat.add_zero] at hi
      subst hi
      refine bk_X0_noughtsAtEnd_2 ⟨fun _ => q, fun c => ⟨fun _ => q, fun c2 => ?_⟩⟩
      rw [show (10 : Int32) = nI 10 from rfl, nI_leI (by omega) (by omega)] at c
      rcases hw_nzA m hm (sp_nz m) (by omega) with z | z
      · exact absurd (z.mp c2) (Nat.lt_irrefl _)
      · exact absurd z (Nat.lt_irrefl _)
    | succ n ih =>
      intro i hi
      refine bk_X0_noughtsAtEnd_2 ⟨fun c => ?_, fun c => ⟨fun c2 => ?_, fun c2 => ?_⟩⟩
      · rw [show (10 : Int32) = nI 10 from rfl, nI_leI (by omega) (by omega)] at c
        omega
      · rcases hw_nzA m hm i (by omega) with z | z
        · exact absurd (z.mpr (by omega)) c2
        · omega
      · rw [nI_1]
        exact ih (i + 1) (by omega)
  exact bk_X0_noughtsAtEnd_0 (key (sp_nz m) 0 (by omega))
theorem ok_crossing {g L r h : Nat} {mk : Nat → Nat → Nat} (hg : g < 4) (hL0 : 1 ≤ L) (hL : L ≤ 9) (hr : r < 3) (hh : h < 64) (hl : hb_fI w 9 0 g = nI L) (hmi : hb_fR w 9 2 g < 2) (hmk : hw_mk w (hb_fR w 9 2 g) mk) (q : Q (some (hb_i (nI (r * 9 + mk h (2 + r) % L)))) w) : hb_O yX0_crossing cX0_crossing 3 (some .int) (d + 1) [hb_r 9 g 0, hb_i (nI r), hb_i (nI h)] w Q := by
  refine bk_X0_crossing_0 hg ⟨hmi, ?_⟩
  rw [show (2 : Int32) + nI r = nI (2 + r) from nI_add 2 r]
  obtain ⟨e, hb⟩ := hmk h (2 + r) hh (by omega)
  refine ok_of hmi hh (by omega) ?_
  refine bk_X0_crossing_15 hg ⟨by rw [hl]; exact nI_ne0 (by omega) (by omega), ?_⟩
  rw [e, hl, pk_rem (by omega) (by omega) (by omega), show nI r * 9 = nI (r * 9) from pk_mul r 9, nI_add]
  exact q
theorem ok_bitPlace {g L l h : Nat} {mk : Nat → Nat → Nat} (hg : g < 4) (hL0 : 1 ≤ L) (hL : L ≤ 9) (hll : l < 9) (hh : h < 64) (hl : hb_fI w 9 0 g = nI L) (hmi : hb_fR w 9 2 g < 2) (hmk : hw_mk w (hb_fR w 9 2 g) mk) (q : Q (some (hb_i (nI (mk h l % (8 * L))))) w) : hb_O yX0_bitPlace cX0_bitPlace 3 (some .int) (d + 1) [hb_r 9 g 0, hb_i (nI h), hb_i (nI l)] w Q := by
  refine bk_X0_bitPlace_0 hg ⟨hmi, ?_⟩
  obtain ⟨e, hb⟩ := hmk h l hh hll
  refine ok_of hmi hh hll ?_
  have e8 : (8 : Int32) * hb_fI w 9 0 g = nI (8 * L) := by rw [hl]; exact pk_mul 8 L
  refine bk_X0_bitPlace_9 hg ⟨by rw [e8]; exact nI_ne0 (by omega) (by omega), ?_⟩
  rw [e, e8, pk_rem (by omega) (by omega) (by omega)]
  exact q
theorem ok_oftenPlace {g L h : Nat} {s : Nat → Nat × Nat} (hg : g < 4) (hL : L ≤ 9) (hh : h < 64) (hl : hb_fI w 9 0 g = nI L) (hs : bS_often (hb_aI w 9 6 g) (hb_aI w 9 5 g) L s)
    (q1 : ∀ k, k < L → (List.range L).find? (fun k => decide (0 < (s k).2 ∧ (s k).1 = h)) = some k → Q (some (hb_i (nI k))) w) (q0 : (List.range L).find? (fun k => decide (0 < (s k).2 ∧ (s k).1 = h)) = none → Q (some (hb_i (-1))) w) : hb_O yX0_oftenPlace cX0_oftenPlace 3 (some .int) d [hb_r 9 g 0, hb_i (nI h)] w Q := by
  have key : ∀ (n i : Nat), i + n = L → (∀ j, j < i → decide (0 < (s j).2 ∧ (s j).1 = h) = false) → hb_R yX0_oftenPlace cX0_oftenPlace 3 (some .int) d 2 [some (hb_r 9 g 0), some (hb_i (nI h)), some (hb_i (nI i))] [] w Q := by
    intro n
    induction n with
    | zero =>
      intro i hi hn
      rw [Nat.add_zero] at hi
      subst hi
      exact bk_X0_oftenPlace_2 hg ⟨fun _ => q0 (hw_fd_none hn), fun c => absurd (by rw [hl]; exact nI_le (Nat.le_refl _) (by omega)) c⟩
    | succ n ih =>
      intro i hi hn
      obtain ⟨s1, s2, s3⟩ := hs i (by omega)
      have next : decide (0 < (s i).2 ∧ (s i).1 = h) = false → hb_R yX0_oftenPlace cX0_oftenPlace 3 (some .int) d 2 [some (hb_r 9 g 0), some (hb_i (nI h)), some (hb_i (nI i + 1))] [] w Q := by
        intro z
        rw [nI_1]
        refine ih (i + 1) (by omega) fun j hj => ?_
        rcases Nat.lt_or_ge j i with y | y
        · exact hn j y
        · have : j = i := by omega
          rw [this]; exact z
      refine bk_X0_oftenPlace_2 hg ⟨fun c => absurd c (by rw [hl]; exact nI_ge (by omega) (by omega)), fun _ => ⟨vp_in_nI (by omega) (by decide), fun c => ?_, fun c => ⟨vp_in_nI (by omega) (by decide), fun c2 => ?_, fun c2 => ?_⟩⟩⟩
      · rw [nI_clamp (by omega), s1, show (0 : Int32) = nI 0 from rfl, nI_leI (by omega) (by omega)] at c
        exact next (by simp; omega)
      · rw [nI_clamp (by omega), s1, show (0 : Int32) = nI 0 from rfl, nI_leI (by omega) (by omega)] at c
        obtain ⟨s4, s5⟩ := s3 (by omega)
        rw [nI_clamp (by omega), s4, nI_eq (by omega) (by omega)] at c2
        exact next (by simp; intro _; exact c2)
      · rw [nI_clamp (by omega), s1, show (0 : Int32) = nI 0 from rfl, nI_leI (by omega) (by omega)] at c
        obtain ⟨s4, s5⟩ := s3 (by omega)
        rw [nI_clamp (by omega), s4, nI_eq (by omega) (by omega)] at c2
        exact q1 i (by omega) (hw_fd_some (by omega) (by simp; exact ⟨by omega, c2⟩) hn)
  exact bk_X0_oftenPlace_0 hg (key L 0 (by omega) (fun j hj => absurd hj (Nat.not_lt_zero j)))
theorem ok_addOften {g L h : Nat} {s : Nat → Nat × Nat} (hg : g < 4) (hL : L ≤ 9) (hh : h < 64) (hl : hb_fI w 9 0 g = nI L) (hs : bS_often (hb_aI w 9 6 g) (hb_aI w 9 5 g) L s) (hb : ∀ k, k < L → (s k).2 + 1 < 1000000)
    (q : ∀ f1 f2, bS_often f2 f1 L (sp_of1 L s h) → Q none (hb_sI (hb_sI w 9 5 g f1) 9 6 g f2)) : hb_O yX0_addOften cX0_addOften 4 none (d + 1) [hb_r 9 g 0, hb_i (nI h)] w Q := by
  refine bk_X0_addOften_0 hg ?_
  have q5 : ∀ f2, bS_often f2 (hb_aI w 9 5 g) L (sp_of1 L s h) → Q none (hb_sI w 9 6 g f2) := fun f2 z => by
    have := q _ f2 z
    rw [hw_sI0] at this
    exact this
  refine ok_oftenPlace hg hL hh hl hs (fun k hk hf => ?_) (fun hf => ?_)
  · refine bk_X0_addOften_5 hg ⟨fun c => ?_, fun _ => ⟨vp_in_nI (by omega) (by decide), vp_in_nI (by omega) (by decide), ?_⟩⟩
    · exfalso
      have e1 := congrArg Int32.toInt c
      rw [nI_toInt (by omega)] at e1
      have e2 : (-1 : Int32).toInt = -1 := by decide
      omega
    · rw [nI_clamp (by omega)]
      refine q5 _ ?_
      unfold sp_of1
      rw [hf]
      intro j hj
      obtain ⟨s1, s2, s3⟩ := hs j hj
      have hbj := hb j hj
      dsimp only
      unfold upd
      by_cases e : j = k
      · subst e
        rw [if_pos rfl, if_pos rfl, s1, nI_1]
        have hp := (List.find?_range_eq_some.mp hf).1
        simp only [decide_eq_true_eq] at hp
        exact ⟨rfl, hbj, fun _ => s3 hp.1⟩
      · rw [if_neg e, if_neg e]
        exact ⟨s1, s2, s3⟩
  · refine bk_X0_addOften_5 hg ⟨fun _ => ?_, fun c => absurd rfl c⟩
    -- nobody's place: the first empty one, or all less
    have less : (∀ j, j < L → decide ((s j).2 = 0) = false) → ∀ (n i : Nat), i + n = L → hb_R yX0_addOften cX0_addOften 4 none (d + 1) 64 [some (hb_r 9 g 0), some (hb_i (nI h)), some (hb_i (-1)), some (hb_i (nI i))] [] (hb_sI w 9 6 g (fun j => if j < i then hb_aI w 9 6 g j - 1 else hb_aI w 9 6 g j)) Q := by
      intro hne n
      induction n with
      | zero =>
        intro i hi
        rw [Nat.add_zero] at hi
        subst hi
        refine bk_X0_addOften_64 hg ⟨fun _ => q5 _ ?_, fun c => absurd (show hb_fI w 9 0 g ≤ nI i by rw [hl]; exact nI_le (Nat.le_refl _) (by omega)) c⟩
        unfold sp_of1
        rw [hf, hw_fd_none hne]
        intro j hj
        obtain ⟨s1, s2, s3⟩ := hs j hj
        have hz := hne j hj
        simp only [decide_eq_false_iff_not] at hz
        dsimp only
        rw [if_pos hj, if_pos hj, s1, show (1 : Int32) = nI 1 from rfl, pk_sub (by omega)]
        exact ⟨rfl, by dsimp only; omega, fun z => s3 (by dsimp only at z; omega)⟩
      | succ n ih =>
        intro i hi
        refine bk_X0_addOften_64 hg ⟨fun c => absurd (show nI L ≤ nI i by rw [← hl]; exact c) (nI_ge (by omega) (by omega)), fun _ => ⟨vp_in_nI (by omega) (by decide), vp_in_nI (by omega) (by decide), ?_⟩⟩
        rw [hw_aIs, hw_sI2, nI_clamp (by omega), nI_1]
        have e : upd (fun j => if j < i then hb_aI w 9 6 g j - 1 else hb_aI w 9 6 g j) i ((fun j => if j < i then hb_aI w 9 6 g j - 1 else hb_aI w 9 6 g j) i - 1) = fun j => if j < i + 1 then hb_aI w 9 6 g j - 1 else hb_aI w 9 6 g j := by
          funext j
          unfold upd
          by_cases e1 : j = i
          · subst e1
            simp
          · by_cases e2 : j < i
            · simp [e1, e2, Nat.lt_succ_of_lt e2]
            · have e3 : ¬ j < i + 1 := by omega
              simp [e1, e2, e3]
        rw [e]
        exact ih (i + 1) (by omega)
    have seek : ∀ (n i : Nat), i + n = L → (∀ j, j < i → decide ((s j).2 = 0) = false) → hb_R yX0_addOften cX0_addOften 4 none (d + 1) 24 [some (hb_r 9 g 0), some (hb_i (nI h)), some (hb_i (-1)), some (hb_i (nI i))] [] w Q := by
      intro n
      induction n with
      | zero =>
        intro i hi hn
        rw [Nat.add_zero] at hi
        subst hi
        refine bk_X0_addOften_24 hg ⟨fun _ => ?_, fun c => absurd (by rw [hl]; exact nI_le (Nat.le_refl _) (by omega)) c⟩
        have := less hn i 0 (by omega)
        have e : (fun j => if j < 0 then hb_aI w 9 6 g j - 1 else hb_aI w 9 6 g j) = hb_aI w 9 6 g := by
          funext j
          simp
        rw [e, hw_sI0] at this
        exact this
      | succ n ih =>
        intro i hi hn
        obtain ⟨s1, s2, s3⟩ := hs i (by omega)
        refine bk_X0_addOften_24 hg ⟨fun c => absurd c (by rw [hl]; exact nI_ge (by omega) (by omega)), fun _ => ⟨vp_in_nI (by omega) (by decide), fun c => ?_, fun c => ⟨vp_in_nI (by omega) (by decide), vp_in_nI (by omega) (by decide), ?_⟩⟩⟩
        · rw [nI_clamp (by omega), s1, show (0 : Int32) = nI 0 from rfl, nI_eq (by omega) (by omega)] at c
          rw [nI_1]
          refine ih (i + 1) (by omega) fun j hj => ?_
          rcases Nat.lt_or_ge j i with y | y
          · exact hn j y
          · have : j = i := by omega
            rw [this]; simp; exact c
        · rw [nI_clamp (by omega), s1, show (0 : Int32) = nI 0 from rfl, nI_eq (by omega) (by omega)] at c
          rw [nI_clamp (by omega)]
          refine q _ _ ?_
          unfold sp_of1
          rw [hf, hw_fd_some (k := i) (by omega) (by simp; exact c) hn]
          intro j hj
          obtain ⟨t1, t2, t3⟩ := hs j hj
          dsimp only
          unfold upd
          by_cases e : j = i
          · subst e
            rw [if_pos rfl, if_pos rfl, if_pos rfl]
            exact ⟨rfl, (show 1 < 1000000 by decide), fun _ => ⟨rfl, hh⟩⟩
          · rw [if_neg e, if_neg e, if_neg e]
            exact ⟨t1, t2, t3⟩
    exact seek L 0 (by omega) (fun j hj => absurd hj (Nat.not_lt_zero j))
end HWC
