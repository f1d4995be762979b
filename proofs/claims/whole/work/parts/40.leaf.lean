/-! ===== leaves: contracts of small methods ===== -/
theorem hw_sI2 (w : hb_W) (t j g : Nat) (f f2 : Nat → Int32) : hb_sI (hb_sI w t j g f) t j g f2 = hb_sI w t j g f2 := by
  unfold hb_sI
  have e : hb_u3 (hb_u3 w.2.2.2.1 t j g f) t j g f2 = hb_u3 w.2.2.2.1 t j g f2 := by
    funext t1 j1 g1
    by_cases h : t1 = t ∧ j1 = j ∧ g1 = g
    · obtain ⟨rfl, rfl, rfl⟩ := h
      rw [hb_u3_s, hb_u3_s]
    · rw [hb_u3_n _ _ _ _ _ h, hb_u3_n _ _ _ _ _ h, hb_u3_n _ _ _ _ _ h]
  show (_, _, _, hb_u3 (hb_u3 w.2.2.2.1 t j g f) t j g f2, _) = _
  rw [e]
theorem hw_sI0 (w : hb_W) (t j g : Nat) : hb_sI w t j g (hb_aI w t j g) = w := by
  unfold hb_sI
  have e : hb_u3 w.2.2.2.1 t j g (hb_aI w t j g) = w.2.2.2.1 := by
    funext t1 j1 g1
    by_cases h : t1 = t ∧ j1 = j ∧ g1 = g
    · obtain ⟨rfl, rfl, rfl⟩ := h
      rw [hb_u3_s]
    · rw [hb_u3_n _ _ _ _ _ h]
  rw [e]
theorem hw_aIs (w : hb_W) (t j g : Nat) (f : Nat → Int32) : hb_aI (hb_sI w t j g f) t j g = f := hb_u3_s _ t j g f
def hw_fill (n : Nat) (x : Int32) (f : Nat → Int32) : Nat → Int32 := fun k => if k < n then x else f k
theorem hw_fill_s {n : Nat} {x : Int32} {f : Nat → Int32} : upd (hw_fill n x f) n x = hw_fill (n + 1) x f := by
  funext k
  unfold upd hw_fill
  by_cases h : k = n
  · subst h
    simp
  · by_cases h2 : k < n
    · simp [h, h2, Nat.lt_succ_of_lt h2]
    · have h3 : ¬ k < n + 1 := by omega
      simp [h, h2, h3]
theorem hw_fill_0 {x : Int32} {f : Nat → Int32} : hw_fill 0 x f = f := by
  funext k
  simp [hw_fill]
section HWA
variable {d : Nat} {w : hb_W} {Q : Option hb_V → hb_W → Prop}
theorem ok_isHood (x : Int32) (q1 : ∀ h : Nat, h < 64 → x = nI h → Q (some (hb_i 1)) w) (q0 : x < 0 ∨ nI 64 ≤ x → Q (some (hb_i 0)) w) : hb_O yX11_isHood cX11_isHood 1 (some .boolean) d [hb_i x] w Q := by
  refine bk_X11_isHood_0 ⟨fun c => q0 (Or.inl c), fun c => ⟨fun c2 => q0 (Or.inr c2), fun c2 => ?_⟩⟩
  rcases pk_ix x (n := 64) (by decide) with h | h | ⟨j, h1, h2⟩
  · exact absurd h c
  · exact absurd h c2
  · exact q1 j h1 h2
theorem ok_isHood_y {h : Nat} (hh : h < 64) (q : Q (some (hb_i 1)) w) : hb_O yX11_isHood cX11_isHood 1 (some .boolean) d [hb_i (nI h)] w Q := ok_isHood _ (fun _ _ _ => q) (fun z => by
  rcases z with z | z
  · exact absurd z (nI_pos (by omega))
  · exact absurd z (nI_ge hh (by decide)))
theorem ok_isLine (x : Int32) (q1 : ∀ h : Nat, h < 9 → x = nI h → Q (some (hb_i 1)) w) (q0 : x < 0 ∨ nI 9 ≤ x → Q (some (hb_i 0)) w) : hb_O yX11_isLine cX11_isLine 1 (some .boolean) d [hb_i x] w Q := by
  refine bk_X11_isLine_0 ⟨fun c => q0 (Or.inl c), fun c => ⟨fun c2 => q0 (Or.inr c2), fun c2 => ?_⟩⟩
  rcases pk_ix x (n := 9) (by decide) with h | h | ⟨j, h1, h2⟩
  · exact absurd h c
  · exact absurd h c2
  · exact q1 j h1 h2
theorem ok_isKind (x : Int32) (q1 : ∀ h : Nat, h < 6 → x = nI h → Q (some (hb_i 1)) w) (q0 : x < 0 ∨ nI 6 ≤ x → Q (some (hb_i 0)) w) : hb_O yX11_isKind cX11_isKind 1 (some .boolean) d [hb_i x] w Q := by
  rcases pk_ix x (n := 6) (by decide) with h | h | ⟨j, h1, h2⟩
  · exact bk_X11_isKind_0 ⟨fun c => q0 (Or.inl c), fun c => absurd h c⟩
  · refine bk_X11_isKind_0 ⟨fun c => q0 (Or.inl c), fun c => ⟨fun c2 => q0 (Or.inr h), fun c2 => absurd ?_ c2⟩⟩
    rw [Int32.lt_iff_toInt_lt]
    rw [Int32.le_iff_toInt_le] at h
    have e : (nI 6).toInt = 6 := nI_toInt (by decide)
    have e5 : (5 : Int32).toInt = 5 := by decide
    omega
  · refine bk_X11_isKind_0 ⟨fun c => absurd c (by rw [h2]; exact nI_pos (by omega)), fun c => ⟨fun c2 => absurd c2 ?_, fun c2 => q1 j h1 h2⟩⟩
    rw [h2]
    exact nI_nlt (a := 5) (by omega) (by decide)
theorem ok_refuse {k : Nat} (hk : k < 6) (q : Q (some (hb_i (-1))) (hb_sI w 0 1 0 (upd (hb_aI w 0 1 0) k (hb_aI w 0 1 0 k + 1)))) : hb_O yX11_refuse cX11_refuse 2 (some .int) d [hb_r 0 0 0, hb_i (nI k)] w Q := by
  have hi : vp_in (nI k) 6 := vp_in_nI hk (by decide)
  refine bk_X11_refuse_0 ⟨hi, hi, ?_⟩
  rw [nI_clamp (by omega)]
  exact q
theorem ok_fill {t g j n : Nat} {x : Int32} (hs : hb_sh t j = some (.inr (0, n))) (hg : g < hb_ct t) (hn : n < 2 ^ 31) (q : Q none (hb_sI w t j g (hw_fill n x (hb_aI w t j g)))) : hb_O yJ7_fill_53178 cJ7_fill_53178 4 none d [hb_r t g j, hb_i x] w Q := by
  refine bk_J7_fill_53178_0 hs hg ?_
  have key : ∀ (m i : Nat), i ≤ n → n ≤ i + m → hb_R yJ7_fill_53178 cJ7_fill_53178 4 none d 5 [some (hb_r t g j), some (hb_i x), some (hb_i (nI i)), some (hb_i (Int32.ofNat n))] [] (hb_sI w t j g (hw_fill i x (hb_aI w t j g))) Q := by
    intro m
    induction m with
    | zero =>
      intro i h1 h2
      have e : i = n := by omega
      subst e
      exact bk_J7_fill_53178_5 hs hg ⟨fun _ => q, fun c => absurd (nI_le (Nat.le_refl i) hn) c⟩
    | succ m ih =>
      intro i h1 h2
      by_cases e : i = n
      · subst e
        exact bk_J7_fill_53178_5 hs hg ⟨fun _ => q, fun c => absurd (nI_le (Nat.le_refl i) hn) c⟩
      · refine bk_J7_fill_53178_5 hs hg ⟨fun c => absurd c (nI_ge (by omega) hn), fun c => ⟨vp_in_nI (by omega) hn, ?_⟩⟩
        rw [hw_aIs, hw_sI2, nI_clamp (by omega), hw_fill_s, show nI i + 1 = nI (i + 1) from nI_1 i]
        exact ih (i + 1) (by omega) (by omega)
  have := key n 0 (by omega) (by omega)
  rw [hw_fill_0, hw_sI0] at this
  exact this
theorem ok_of {g h l : Nat} (hg : g < 2) (hh : h < 64) (hl : l < 9) (q : Q (some (hb_i (hb_aI w 5 1 g (h * 9 + l)))) w) : hb_O yX5_of cX5_of 4 (some .int) d [hb_r 5 g 0, hb_i (nI h), hb_i (nI l)] w Q := by
  have e : nI h * 9 + nI l = nI (h * 9 + l) := by
    rw [show (9 : Int32) = nI 9 from rfl, pk_mul, nI_add]
  refine bk_X5_of_0 hg ⟨fun c => absurd c (nI_pos (by omega)), fun _ => ⟨fun c => absurd c (nI_ge (b := 64) (by omega) (by decide)), fun _ => ⟨fun c => absurd c (nI_pos (by omega)), fun _ => ⟨fun c => absurd c (nI_ge (b := 9) (by omega) (by decide)), fun _ => ⟨fun c => absurd c (by decide), fun _ => ?_⟩⟩⟩⟩⟩
  rw [e]
  refine ⟨vp_in_nI (by omega) (by decide), ?_⟩
  rw [nI_clamp (by omega)]
  exact q
theorem ok_at {k n : Nat} (hn : hb_fI w 1 1 0 = nI n) (hn2 : n ≤ 1600) (q : Q (some (hb_i (if k < n then hb_aI w 1 1 0 k &&& 255 else -1))) w) (hk : k < 2 ^ 31) : hb_O yX10_at cX10_at 2 (some .int) d [hb_r 1 0 0, hb_i (nI k)] w Q := by
  refine bk_X10_at_0 ⟨fun c => absurd c (nI_pos (by omega)), fun _ => ⟨fun c => ?_, fun c => ?_⟩⟩
  · rw [hn, nI_leI (by omega) hk] at c
    rw [if_neg (by omega)] at q
    exact q
  · rw [hn, nI_leI (by omega) hk] at c
    rw [if_pos (by omega)] at q
    refine ⟨vp_in_nI (by omega) (by decide), ?_⟩
    rw [nI_clamp hk]
    exact q
theorem ok_stop {k p : Int32} (q0 : ¬ hb_fI w 3 6 0 = 0 → Q (some (hb_i 0)) w) (q1 : hb_fI w 3 6 0 = 0 → Q (some (hb_i 0)) (hb_pI (hb_pI w 3 6 0 k) 3 7 0 p)) : hb_O yX7_stop cX7_stop 3 (some .boolean) d [hb_r 3 0 0, hb_i k, hb_i p] w Q := bk_X7_stop_0 ⟨q0, q1⟩
theorem ok_keepFault (q : Q none (hb_pI (hb_pI w 0 11 0 (hb_fI w 3 6 0)) 0 12 0 (hb_fI w 3 7 0))) : hb_O yX11_keepFault cX11_keepFault 1 none d [hb_r 0 0 0] w Q := bk_X11_keepFault_0 q
end HWA
