/-! ===== the class's nights: cells of a row ===== -/
theorem sI_n (w : hb_W) (t j g : Nat) (f : Nat → Int32) {j' g' : Nat} (h : ¬ j' = j) : hb_aI (hb_sI w t j g f) t j' g' = hb_aI w t j' g' := hb_u3_tk w.2.2.2.1 t j g f (fun z => h z.2)
theorem sI_row (w : hb_W) (j g1 m : Nat) (v : Int32) {j' k : Nat} (hk : k ≠ m) : hb_aI (hb_sI w 11 j g1 (upd (hb_aI w 11 j g1) m v)) 11 j' g1 k = hb_aI w 11 j' g1 k := by
  by_cases e : j' = j
  · rw [e, sI_s]
    exact pk_un hk
  · rw [sI_n _ _ _ _ _ e]
theorem cNn.row {w : hb_W} {g1 st L R co j : Nat} {rows : List rO} {mix : Option (List Nat × Nat)} {v : Int32} (h : cNn w g1 st L R rows mix co) : cNn (hb_sI w 11 j g1 (upd (hb_aI w 11 j g1) rows.length v)) g1 st L R rows mix co := by
  obtain ⟨h0, h1, h2, h3, h4, h5, h6⟩ := h
  refine ⟨h0, h1, h2, h3, h4, fun k x hk => ?_, ?_⟩
  · have hlt : k < rows.length := by
      rcases Nat.lt_or_ge k rows.length with u | u
      · exact u
      · rw [List.getElem?_eq_none u] at hk; cases hk
    have := h5 k x hk
    unfold cNr at this ⊢
    have hne : k ≠ rows.length := by omega
    rw [sI_row _ _ _ _ _ hne, sI_row _ _ _ _ _ hne, sI_row _ _ _ _ _ hne, sI_row _ _ _ _ _ hne, sI_row _ _ _ _ _ hne, sI_row _ _ _ _ _ hne]
    exact this
  · unfold cNx at h6 ⊢
    cases mix with
    | none => exact h6
    | some m => exact h6
/-- a row is complete -/
theorem cNn.more {w w2 : hb_W} {g1 st L R co : Nat} {rows : List rO} {mix : Option (List Nat × Nat)} {x : rO} (h : cNn w g1 st L R rows mix co) (hx : cNr w g1 rows.length x) (e : w2 = hb_pI w 11 4 g1 (nI (rows.length + 1))) : cNn w2 g1 st L R (rows ++ [x]) mix co := by
  obtain ⟨h0, h1, h2, h3, h4, h5, h6⟩ := h
  subst e
  refine ⟨(pI_n _ _ _ _ _ (by decide)).trans h0, (pI_n _ _ _ _ _ (by decide)).trans h1, (pI_n _ _ _ _ _ (by decide)).trans h2, (pI_n _ _ _ _ _ (by decide)).trans h3, ?_, fun k y hk => ?_, ?_⟩
  · rw [pI_s, List.length_append]
    rfl
  · by_cases e : k < rows.length
    · rw [List.getElem?_append_left e] at hk
      exact h5 k y hk
    · rw [List.getElem?_append_right (by omega)] at hk
      cases e2 : k - rows.length with
      | zero =>
        rw [e2] at hk
        cases hk
        have ek : k = rows.length := by omega
        rw [ek]
        exact hx
      | succ m =>
        rw [e2] at hk
        simp at hk
  · unfold cNx at h6 ⊢
    cases mix with
    | none => exact (pI_n _ _ _ _ _ (by decide)).trans h6
    | some m => exact ⟨(pI_n _ _ _ _ _ (by decide)).trans h6.1, (pI_n _ _ _ _ _ (by decide)).trans h6.2.1, (pI_n _ _ _ _ _ (by decide)).trans h6.2.2⟩
