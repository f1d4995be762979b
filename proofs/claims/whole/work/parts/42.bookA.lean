/-! ===== the class's Book: its parts ===== -/
theorem hw_pI0 (w : hb_W) (t k g : Nat) : hb_pI w t k g (hb_fI w t k g) = w := by
  unfold hb_pI
  have e : hb_u3 w.1 t k g (hb_fI w t k g) = w.1 := by
    funext t1 j1 g1
    by_cases h : t1 = t ∧ j1 = k ∧ g1 = g
    · obtain ⟨rfl, rfl, rfl⟩ := h
      rw [hb_u3_s]
    · rw [hb_u3_n _ _ _ _ _ h]
  rw [e]
theorem hw_fIs (w : hb_W) (t k g : Nat) (v : Int32) : hb_fI (hb_pI w t k g v) t k g = v := hb_u3_s _ t k g v
def bS_least (c : Int32) (f : Nat → Int32) (L : Nat) (S : Nat → Prop) : Prop := ∃ l : List Nat, c = nI l.length ∧ (∀ k, k < l.length → f k = nI (l.getD k 0)) ∧ sp_least L S l ∧ ∀ m ∈ l, m < 1000
theorem hw_min1 {n L : Nat} (hn : n ≤ L) (hL : L < 100) : (if nI n + 1 < nI L then nI n + 1 else nI L) = nI (min (n + 1) L) := by
  rw [nI_1]
  by_cases h : n + 1 < L
  · rw [if_pos (nI_lt h (by omega)), Nat.min_eq_left (by omega)]
  · rw [if_neg (nI_nlt (by omega) (by omega)), Nat.min_eq_right (by omega)]
/-- the row with a place made free -/
def hw_shift (f : Nat → Int32) (k c : Nat) : Nat → Int32 := fun x => if k < x ∧ x ≤ c then f (x - 1) else f x
theorem hw_shift_s {f : Nat → Int32} {k c : Nat} (h : k < c) : upd (hw_shift f (k + 1) c) (k + 1) (hw_shift f (k + 1) c k) = hw_shift f k c := by
  funext x
  unfold upd hw_shift
  by_cases e : x = k + 1
  · subst e
    rw [if_pos rfl, if_neg (by omega), if_pos (by omega)]
    rfl
  · rw [if_neg e]
    by_cases h1 : k + 1 < x ∧ x ≤ c
    · rw [if_pos h1, if_pos (by omega)]
    · rw [if_neg h1, if_neg (by omega)]
theorem hw_shift_0 {f : Nat → Int32} {c : Nat} : hw_shift f c c = f := by
  funext x
  unfold hw_shift
  rw [if_neg (by omega)]
section HWB
variable {d : Nat} {w : hb_W} {Q : Option hb_V → hb_W → Prop}
theorem ok_addLeast {g L m : Nat} {S : Nat → Prop} (hg : g < 4) (hL0 : 1 ≤ L) (hL : L ≤ 9) (hm : m < 1000) (hl : hb_fI w 9 0 g = nI L) (h : bS_least (hb_fI w 9 8 g) (hb_aI w 9 4 g) L S)
    (q : ∀ c f, bS_least c f L (fun x => S x ∨ x = m) → Q none (hb_sI (hb_pI w 9 8 g c) 9 4 g f)) : hb_O yX0_addLeast cX0_addLeast 4 none (d + 1) [hb_r 9 g 0, hb_i (nI m)] w Q := by
  obtain ⟨l, h1, h2, h3, h4⟩ := h
  have hlen := h3.2.2.1
  have stay : bS_least (hb_fI w 9 8 g) (hb_aI w 9 4 g) L (fun x => S x ∨ x = m) → Q none w := fun z => by
    have := q _ _ z
    rw [hw_pI0, hw_sI0] at this
    exact this
  refine bk_X0_addLeast_0 hg ?_
  -- the place is found, with room made from there on
  have shift : ∀ (a b : List Nat), l = a ++ b → (∀ x ∈ a, x < m) → (∀ x ∈ b, m < x) → a.length < L → ∀ (n k : Nat), k = a.length + n → k ≤ min (l.length + 1) L - 1 →
      hb_R yX0_addLeast cX0_addLeast 4 none (d + 1) 77 [some (hb_r 9 g 0), some (hb_i (nI m)), some (hb_i (nI a.length)), some (hb_i (nI k))] [] (hb_sI (hb_pI w 9 8 g (nI (min (l.length + 1) L))) 9 4 g (hw_shift (hb_aI w 9 4 g) k (min (l.length + 1) L - 1))) Q := by
    intro a b hab ha hb haL n
    have hall : l.length = a.length + b.length := by rw [hab, List.length_append]
    induction n with
    | zero =>
      intro k hk hk2
      rw [Nat.add_zero] at hk
      subst hk
      refine bk_X0_addLeast_77 hg ⟨fun _ => ⟨vp_in_nI (by omega) (by decide), ?_⟩, fun c => absurd (nI_le (Nat.le_refl _) (by omega)) c⟩
      rw [hw_aIs, hw_sI2, nI_clamp (by omega)]
      refine q _ _ ⟨(a ++ m :: b).take L, ?_, ?_, sp_least_ins (hab ▸ h3) ha hb haL, ?_⟩
      · have e : ((a ++ m :: b).take L).length = min (l.length + 1) L := by
          rw [List.length_take, List.length_append, List.length_cons, hall]
          omega
        rw [e]
      · intro k hk
        have e : ((a ++ m :: b).take L).length = min (l.length + 1) L := by
          rw [List.length_take, List.length_append, List.length_cons, hall]
          omega
        rw [e] at hk
        have eg : ((a ++ m :: b).take L).getD k 0 = (a ++ m :: b).getD k 0 := by
          rw [List.getD_eq_getElem?_getD, List.getD_eq_getElem?_getD, List.getElem?_take, if_pos (by omega)]
        rw [eg]
        unfold upd
        by_cases e1 : k = a.length
        · subst e1
          rw [if_pos rfl, List.getD_eq_getElem?_getD, List.getElem?_append_right (Nat.le_refl _), Nat.sub_self]
          rfl
        · rw [if_neg e1]
          unfold hw_shift
          by_cases e2 : k < a.length
          · rw [if_neg (by omega), h2 k (by omega), hab, List.getD_eq_getElem?_getD, List.getD_eq_getElem?_getD, List.getElem?_append_left e2, List.getElem?_append_left e2]
          · rw [if_pos (by omega), h2 (k - 1) (by omega), hab, List.getD_eq_getElem?_getD, List.getD_eq_getElem?_getD, List.getElem?_append_right (by omega), List.getElem?_append_right (by omega)]
            rw [show k - a.length = (k - 1 - a.length) + 1 by omega, List.getElem?_cons_succ]
      · intro x hx
        have := List.mem_of_mem_take hx
        rcases List.mem_append.mp this with z | z
        · exact h4 x (by rw [hab]; exact List.mem_append_left _ z)
        · rcases List.mem_cons.mp z with z | z
          · rw [z]; exact hm
          · exact h4 x (by rw [hab]; exact List.mem_append_right _ z)
    | succ n ih =>
      intro k hk hk2
      have ek : k = (k - 1) + 1 := by omega
      refine bk_X0_addLeast_77 hg ⟨fun c => absurd c (nI_ge (by omega) (by omega)), fun _ => ⟨?_, vp_in_nI (by omega) (by decide), ?_⟩⟩
      · rw [ek, nI_pred]
        exact vp_in_nI (by omega) (by decide)
      · rw [hw_aIs, hw_sI2, ek, nI_pred, nI_clamp (by omega), nI_clamp (by omega), hw_shift_s (by omega), pk_m1]
        exact ih (k - 1) (by omega) (by omega)
  have find : ∀ (n i : Nat), i + n = l.length → (∀ k, k < i → l.getD k 0 < m) → hb_R yX0_addLeast cX0_addLeast 4 none (d + 1) 2 [some (hb_r 9 g 0), some (hb_i (nI m)), some (hb_i (nI i)), none] [] w Q := by
    intro n
    induction n with
    | zero =>
      intro i hi hlt
      rw [Nat.add_zero] at hi
      subst hi
      have hall : ∀ x ∈ l, x < m := by
        intro x hx
        obtain ⟨k, hk, e⟩ := List.getElem_of_mem hx
        have := hlt k hk
        rw [List.getD_eq_getElem?_getD, List.getElem?_eq_getElem hk] at this
        rw [← e]
        exact this
      refine bk_X0_addLeast_2 hg ⟨fun _ => ⟨fun c => ?_, fun c => ⟨fun _ => ?_, fun c2 => absurd (by rw [h1]; exact nI_le (Nat.le_refl _) (by omega)) c2⟩⟩, fun c => absurd (by rw [h1]; exact nI_le (Nat.le_refl _) (by omega)) c⟩
      · rw [hl, nI_leI (by omega) (by omega)] at c
        exact stay ⟨l, h1, h2, sp_least_over h3 (by omega) hall, h4⟩
      · rw [hl, nI_leI (by omega) (by omega)] at c
        have := shift l [] (by simp) hall (fun x hx => by cases hx) (by omega) 0 l.length rfl (by omega)
        rw [h1, hl, hw_min1 hlen (by omega)]
        rw [show min (l.length + 1) L - 1 = l.length by omega, hw_shift_0] at this
        have e0 : hb_sI (hb_pI w 9 8 g (nI (min (l.length + 1) L))) 9 4 g (hb_aI w 9 4 g) = hb_pI w 9 8 g (nI (min (l.length + 1) L)) := hw_sI0 (hb_pI w 9 8 g (nI (min (l.length + 1) L))) 9 4 g
        rw [e0] at this
        have e1 : nI (min (l.length + 1) L) - 1 = nI l.length := by
          rw [show min (l.length + 1) L = l.length + 1 by omega, nI_pred]
        rw [e1]
        exact this
    | succ n ih =>
      intro i hi hlt
      have hil : i < l.length := by omega
      have hei := h2 i hil
      have hmem : l.getD i 0 ∈ l := by
        rw [List.getD_eq_getElem?_getD, List.getElem?_eq_getElem hil]
        exact List.getElem_mem hil
      have h1000 := h4 _ hmem
      refine bk_X0_addLeast_2 hg ⟨fun c => absurd c (by rw [h1]; exact nI_ge hil (by omega)), fun _ => ⟨vp_in_nI (by omega) (by decide), fun c => ?_, fun c => ?_⟩⟩
      · rw [nI_clamp (by omega), hei, nI_leI (by omega) (by omega)] at c
        refine ⟨fun c2 => absurd c2 (by rw [hl]; exact nI_ge (by omega) (by omega)), fun _ => ⟨fun c2 => absurd c2 (by rw [h1]; exact nI_ge hil (by omega)), fun _ => ⟨vp_in_nI (by omega) (by decide), fun c2 => ?_, fun c2 => ?_⟩⟩⟩
        · rw [nI_clamp (by omega), hei, nI_eq (by omega) (by omega)] at c2
          have hsp : l = l.take i ++ l.drop i := (List.take_append_drop i l).symm
          have htl : (l.take i).length = i := by rw [List.length_take]; omega
          have hA : ∀ x ∈ l.take i, x < m := by
            intro x hx
            obtain ⟨k, hk, e⟩ := List.getElem_of_mem hx
            rw [htl] at hk
            have := hlt k hk
            rw [List.getD_eq_getElem?_getD, List.getElem?_eq_getElem (by omega)] at this
            rw [← e, List.getElem_take]
            exact this
          have hB : ∀ x ∈ l.drop i, m < x := by
            intro x hx
            rw [List.drop_eq_getElem_cons hil] at hx
            have hgi : l.getD i 0 = l[i] := by rw [List.getD_eq_getElem?_getD, List.getElem?_eq_getElem hil]; rfl
            rcases List.mem_cons.mp hx with z | z
            · rw [z, ← hgi]; omega
            · have hp := h3.1
              rw [hsp, List.pairwise_append, List.drop_eq_getElem_cons hil] at hp
              have := (List.pairwise_cons.mp hp.2.1).1 x z
              omega
          have := shift (l.take i) (l.drop i) hsp hA hB (by omega) (min (l.length + 1) L - 1 - i) (min (l.length + 1) L - 1) (by omega) (Nat.le_refl _)
          rw [hw_shift_0, htl] at this
          have e0 : hb_sI (hb_pI w 9 8 g (nI (min (l.length + 1) L))) 9 4 g (hb_aI w 9 4 g) = hb_pI w 9 8 g (nI (min (l.length + 1) L)) := hw_sI0 (hb_pI w 9 8 g (nI (min (l.length + 1) L))) 9 4 g
          rw [e0] at this
          rw [h1, hl, hw_min1 hlen (by omega)]
          have e1 : nI (min (l.length + 1) L) - 1 = nI (min (l.length + 1) L - 1) := by
            rw [show (1 : Int32) = nI 1 from rfl, pk_sub (by omega)]
          rw [e1]
          exact this
        · rw [nI_clamp (by omega), hei, nI_eq (by omega) (by omega)] at c2
          exact stay ⟨l, h1, h2, sp_least_same h3 (c2 ▸ hmem), h4⟩
      · rw [nI_clamp (by omega), hei, nI_leI (by omega) (by omega)] at c
        rw [nI_1]
        refine ih (i + 1) (by omega) fun k hk => ?_
        rcases Nat.lt_or_ge k i with z | z
        · exact hlt k z
        · have : k = i := by omega
          subst this
          omega
  exact find l.length 0 (by omega) (fun k hk => absurd hk (Nat.not_lt_zero k))
end HWB
