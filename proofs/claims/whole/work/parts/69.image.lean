/-! ===== images ===== -/
def im_ck (a b : Int32) : Int32 := (((3 : Int32) * a) + b) - (((3 : Int32) * a) + b) / (251 : Int32) * (251 : Int32)
def im_li (f : Nat → Int32) (l : List Int32) : Prop := ∀ k x, l[k]? = some x → f k = x
theorem im_li_app {f : Nat → Int32} {l : List Int32} {x : Int32} (h : im_li f l) : im_li (upd f l.length x) (l ++ [x]) := by
  intro k y hk
  by_cases e : k < l.length
  · rw [List.getElem?_append_left e] at hk
    rw [pk_un (by omega)]
    exact h k y hk
  · rw [List.getElem?_append_right (by omega)] at hk
    cases h2 : k - l.length with
    | zero =>
      rw [h2] at hk
      cases hk
      rw [show k = l.length by omega, pk_us]
    | succ n =>
      rw [h2] at hk
      simp at hk
def im_fl (P : List (Nat × Nat × Nat)) : List Int32 := P.flatMap fun p => [nI p.1, nI p.2.1, nI p.2.2]
theorem im_fl_app (P : List (Nat × Nat × Nat)) (p : Nat × Nat × Nat) : im_fl (P ++ [p]) = im_fl P ++ [nI p.1] ++ [nI p.2.1] ++ [nI p.2.2] := by
  unfold im_fl
  simp
theorem im_fl_len (P : List (Nat × Nat × Nat)) : (im_fl P).length = 3 * P.length := by
  induction P with
  | nil => rfl
  | cons p P ih =>
    unfold im_fl at ih ⊢
    rw [List.flatMap_cons, List.length_append, ih, List.length_cons]
    simp
    omega
theorem im_fl_get : ∀ (P : List (Nat × Nat × Nat)) (k : Nat) (p : Nat × Nat × Nat), P[k]? = some p → (im_fl P)[3 * k]? = some (nI p.1) ∧ (im_fl P)[3 * k + 1]? = some (nI p.2.1) ∧ (im_fl P)[3 * k + 2]? = some (nI p.2.2)
  | [], _, _, h => by cases h
  | a :: P, 0, p, h => by
    cases h
    exact ⟨rfl, rfl, rfl⟩
  | a :: P, k + 1, p, h => by
    have := im_fl_get P k p h
    have e : ∀ j, (im_fl (a :: P))[3 * (k + 1) + j]? = (im_fl P)[3 * k + j]? := fun j => by
      show (nI a.1 :: nI a.2.1 :: nI a.2.2 :: im_fl P)[3 * (k + 1) + j]? = _
      rw [show 3 * (k + 1) + j = (3 * k + j) + 1 + 1 + 1 by omega]
      rfl
    exact ⟨by have := e 0; rw [Nat.add_zero, Nat.add_zero] at this; rw [this]; exact (im_fl_get P k p h).1, by rw [e 1]; exact (im_fl_get P k p h).2.1, by rw [e 2]; exact (im_fl_get P k p h).2.2⟩
theorem mP.fl {w : hb_W} {P : List (Nat × Nat × Nat)} (h : mP w P) {j : Nat} (hj : j < 3 * P.length) : (im_fl P)[j]? = some (hb_aI w 12 19 0 j) := by
  have hk : j / 3 < P.length := by omega
  obtain ⟨a1, a2, a3⟩ := h (j / 3) _ (List.getElem?_eq_getElem hk)
  obtain ⟨b1, b2, b3⟩ := im_fl_get P (j / 3) _ (List.getElem?_eq_getElem hk)
  have : j = 3 * (j / 3) ∨ j = 3 * (j / 3) + 1 ∨ j = 3 * (j / 3) + 2 := by omega
  rcases this with e | e | e
  · rw [e, a1]; exact b1
  · rw [e, a2]; exact b2
  · rw [e, a3]; exact b3
def im_lo (f : Nat → Int32) (l : Nat) : Int32 := if f l = -1 then 255 else f l
def im_0 (L : Nat) (r : rT) : List Int32 := [nI r.2.1, nI (r.1.length / 256), nI (r.1.length % 256)] ++ im_fl r.1 ++ (List.range L).map (im_lo r.2.2.1)
def im_all (L : Nat) (r : rT) : List Int32 := im_0 L r ++ [(im_0 L r).foldl im_ck 211]
theorem im_0_len (L : Nat) (r : rT) : (im_0 L r).length = 3 + 3 * r.1.length + L := by
  unfold im_0
  rw [List.length_append, List.length_append, im_fl_len, List.length_map, List.length_range]
  rfl
/-- images of class and model -/
def cIm (w : hb_W) (l : List Int32) : Prop := hb_fI w 10 1 0 = nI l.length ∧ l.length ≤ 1213 ∧ im_li (hb_aI w 10 1 0) l
def mIm (w : hb_W) (l : List Int32) : Prop := hb_fI w 12 90 0 = nI l.length ∧ l.length ≤ 1213 ∧ im_li (hb_aI w 12 57 0) l
theorem im_fold_app (l : List Int32) (x : Int32) : (l ++ [x]).foldl im_ck 211 = im_ck (l.foldl im_ck 211) x := by rw [List.foldl_append]; rfl
theorem im_take_s {l : List Int32} {k : Nat} {x : Int32} (h : l[k]? = some x) : l.take (k + 1) = l.take k ++ [x] := by rw [List.take_add_one, h]; rfl
section HIM
variable {d : Nat} {w : hb_W} {Q : Option hb_V → hb_W → Prop}
theorem ok_iput {l : List Int32} {x : Int32} (h : cIm w l) (hl : l.length < 1213) (q : ∀ w2, cIm w2 (l ++ [x]) → hw_ag (fun t _ => t = 10) w w2 → w2.2.2.1 = w.2.2.1 → Q none w2) : hb_O yX3_put cX3_put 2 none d [hb_r 10 0 0, hb_i x] w Q := by
  obtain ⟨h1, h2, h3⟩ := h
  refine bk_X3_put_0 ?_
  rw [h1, nI_clamp (by omega), nI_1]
  refine ⟨fun z => absurd z (nI_ge (b := 1213) hl (by decide)), fun _ => ⟨vp_in_nI hl (by decide), q _ ⟨?_, ?_, im_li_app h3⟩ ((hw_ag.rf.sI (P := fun t _ => t = 10) rfl).pI rfl) rfl⟩⟩
  · rw [List.length_append]; rfl
  · rw [List.length_append, List.length_singleton]; omega
theorem ok_iwrite {L : Nat} {r : rT} (hL : L ≤ 9) (hn : r.1.length ≤ 400) (hR : cRl w r) (q : ∀ w2, cIm w2 (im_all L r) → hw_ag (fun t _ => t = 10) w w2 → w2.2.2.1 = w.2.2.1 → Q none w2) : hb_O yX3_write cX3_write 5 none (d + 1) [hb_r 10 0 0, hb_r 7 0 0, hb_i (nI L)] w Q := by
  have p10 : ∀ {w1 w2 : hb_W}, hw_ag (fun t _ => t = 10) w w1 → hw_ag (fun t _ => t = 10) w1 w2 → hw_ag (fun t _ => t = 10) w w2 := fun a b => a.tr b
  have hRl : ∀ w', hw_ag (fun t _ => t = 10) w w' → cRl w' r := fun w' ha => hR.ag ha (by decide)
  have hlen0 := im_0_len L r
  have hfl := im_fl_len r.1
  -- the check
  have chk : ∀ (n k : Nat), k + n = (im_0 L r).length → ∀ w', cIm w' (im_0 L r) → hw_ag (fun t _ => t = 10) w w' → w'.2.2.1 = w.2.2.1 → hb_R yX3_write cX3_write 5 none (d + 1) 135 [some (hb_r 10 0 0), some (hb_r 7 0 0), some (hb_i (nI L)), some (hb_i (((im_0 L r).take k).foldl im_ck 211)), some (hb_i (nI k))] [] w' Q := by
    intro n
    induction n with
    | zero =>
      intro k hk w' g1 g2 g3
      rw [Nat.add_zero] at hk
      subst hk
      rw [List.take_length]
      refine bk_X3_write_135 ⟨fun _ => ?_, fun z => absurd (by rw [g1.1]; exact nI_le (Nat.le_refl _) (by omega)) z⟩
      exact ok_iput g1 (by omega) (fun w2 k1 k2 k3 => bk_X3_write_167 (q w2 k1 (g2.tr k2) (k3.trans g3)))
    | succ n ih =>
      intro k hk w' g1 g2 g3
      have hkl : k < (im_0 L r).length := by omega
      have hx : (im_0 L r)[k]? = some (im_0 L r)[k] := List.getElem?_eq_getElem hkl
      refine bk_X3_write_135 ⟨fun z => absurd z (by rw [g1.1]; exact nI_ge hkl (by omega)), fun _ => ⟨vp_in_nI (by omega) (by decide), ?_⟩⟩
      rw [nI_clamp (by omega), g1.2.2 k _ hx]
      refine bk_X3_checked_0 (bk_X3_write_155 ?_)
      rw [nI_1]
      have := ih (k + 1) (by omega) w' g1 g2 g3
      rw [im_take_s hx, im_fold_app] at this
      exact this
  -- the lots
  have lots : ∀ (n l : Nat), l + n = L → ∀ w', cIm w' ([nI r.2.1, nI (r.1.length / 256), nI (r.1.length % 256)] ++ im_fl r.1 ++ (List.range l).map (im_lo r.2.2.1)) → hw_ag (fun t _ => t = 10) w w' → w'.2.2.1 = w.2.2.1 → hb_R yX3_write cX3_write 5 none (d + 1) 85 [some (hb_r 10 0 0), some (hb_r 7 0 0), some (hb_i (nI L)), some (hb_i (nI l)), none] [] w' Q := by
    intro n
    induction n with
    | zero =>
      intro l hl w' g1 g2 g3
      rw [Nat.add_zero] at hl
      subst hl
      refine bk_X3_write_85 ⟨fun _ => chk (im_0 l r).length 0 (by omega) w' g1 g2 g3, fun z => absurd (nI_le (Nat.le_refl _) (by omega)) z⟩
    | succ n ih =>
      intro l hl w' g1 g2 g3
      have hlen : ([nI r.2.1, nI (r.1.length / 256), nI (r.1.length % 256)] ++ im_fl r.1 ++ (List.range l).map (im_lo r.2.2.1)).length < 1213 := by
        rw [List.length_append, List.length_append, hfl, List.length_map, List.length_range]
        show 3 + 3 * r.1.length + l < 1213
        omega
      have hlot := (hRl w' g2).2.2.2.2.2.2.1 l (by omega)
      have vl : vp_in (nI l) 9 := vp_in_nI (by omega) (by decide)
      have fin : ∀ x, x = im_lo r.2.2.1 l → hb_O yX3_put cX3_put 2 none d [hb_r 10 0 0, hb_i x] w' (fun rv w1 => hb_R yX3_write cX3_write 5 none (d + 1) 122 [some (hb_r 10 0 0), some (hb_r 7 0 0), some (hb_i (nI L)), some (hb_i (nI l)), none] (rv.toList ++ []) w1 Q) := fun x hx => by
        refine ok_iput g1 hlen (fun w2 k1 k2 k3 => bk_X3_write_122 ?_)
        rw [nI_1]
        refine ih (l + 1) (by omega) w2 ?_ (g2.tr k2) (k3.trans g3)
        rw [List.range_succ, List.map_append, List.map_singleton, ← List.append_assoc, ← hx]
        exact k1
      refine bk_X3_write_85 ⟨fun z => absurd z (nI_ge (by omega) (by omega)), fun _ => ⟨fun z => absurd z (nI_ge (b := 9) (by omega) (by decide)), fun _ => ⟨vl, ?_⟩⟩⟩
      rw [nI_clamp (by omega), hlot]
      exact ⟨fun z => ⟨vl, fin _ (by unfold im_lo; rw [if_neg z])⟩, fun z => fin _ (by unfold im_lo; rw [if_pos z])⟩
  -- the passes
  have pas : ∀ (n k : Nat), k + n = r.1.length → ∀ w', cIm w' ([nI r.2.1, nI (r.1.length / 256), nI (r.1.length % 256)] ++ im_fl (r.1.take k)) → hw_ag (fun t _ => t = 10) w w' → w'.2.2.1 = w.2.2.1 → hb_R yX3_write cX3_write 5 none (d + 1) 39 [some (hb_r 10 0 0), some (hb_r 7 0 0), some (hb_i (nI L)), some (hb_i (nI k)), none] [] w' Q := by
    intro n
    induction n with
    | zero =>
      intro k hk w' g1 g2 g3
      rw [Nat.add_zero] at hk
      subst hk
      rw [List.take_length] at g1
      refine bk_X3_write_39 ⟨fun _ => lots L 0 (by omega) w' ?_ g2 g3, fun z => absurd (by rw [(hRl w' g2).2.1]; exact nI_le (Nat.le_refl _) (by omega)) z⟩
      rw [show (List.range 0).map (im_lo r.2.2.1) = [] from rfl, List.append_nil]
      exact g1
    | succ n ih =>
      intro k hk w' g1 g2 g3
      have hkl : k < r.1.length := by omega
      have hpk : r.1[k]? = some r.1[k] := List.getElem?_eq_getElem hkl
      have htk : r.1.take (k + 1) = r.1.take k ++ [r.1[k]] := by rw [List.take_add_one, hpk]; rfl
      have hl0 : ([nI r.2.1, nI (r.1.length / 256), nI (r.1.length % 256)] ++ im_fl (r.1.take k)).length = 3 + 3 * k := by
        rw [List.length_append, im_fl_len, List.length_take, Nat.min_eq_left (by omega)]
        rfl
      have vk : vp_in (nI k) 400 := vp_in_nI (by omega) (by decide)
      obtain ⟨p1, p2, p3⟩ := (hRl w' g2).1 k _ hpk
      refine bk_X3_write_39 ⟨fun z => absurd z (by rw [(hRl w' g2).2.1]; exact nI_ge hkl (by omega)), fun _ => ⟨vk, ?_⟩⟩
      rw [nI_clamp (by omega), p1]
      refine ok_iput g1 (by omega) (fun w2 k1 k2 k3 => bk_X3_write_57 ⟨vk, ?_⟩)
      rw [nI_clamp (by omega), (((hRl w' g2).ag k2 (by decide)).1 k _ hpk).2.1]
      refine ok_iput k1 (by rw [List.length_append, hl0, List.length_singleton]; omega) (fun w3 m1 m2 m3 => bk_X3_write_67 ⟨vk, ?_⟩)
      rw [nI_clamp (by omega), ((((hRl w' g2).ag k2 (by decide)).ag m2 (by decide)).1 k _ hpk).2.2]
      refine ok_iput m1 (by rw [List.length_append, List.length_append, hl0, List.length_singleton, List.length_singleton]; omega) (fun w4 n1 n2 n3 => bk_X3_write_77 ?_)
      rw [nI_1]
      refine ih (k + 1) (by omega) w4 ?_ (((g2.tr k2).tr m2).tr n2) (n3.trans (m3.trans (k3.trans g3)))
      rw [htk, im_fl_app, ← List.append_assoc, ← List.append_assoc, ← List.append_assoc]
      exact n1
  refine bk_X3_write_0 ?_
  have c0 : cIm (hb_pI w 10 1 0 0) [] := ⟨rfl, by decide, fun k x hk => by cases hk⟩
  have a0 : hw_ag (fun t _ => t = 10) w (hb_pI w 10 1 0 0) := hw_ag.rf.pI (P := fun t _ => t = 10) rfl
  rw [hR.2.2.1]
  refine ok_iput c0 (by decide) (fun w2 k1 k2 k3 => bk_X3_write_13 ?_)
  have a2 := a0.tr k2
  rw [(hRl w2 a2).2.1, show (256 : Int32) = nI 256 from rfl, pk_div (by omega) (by decide) (by decide)]
  refine ok_iput k1 (show 1 < 1213 by decide) (fun w3 m1 m2 m3 => bk_X3_write_25 ?_)
  have a3 := a2.tr m2
  rw [(hRl w3 a3).2.1, show (256 : Int32) = nI 256 from rfl, pk_rem (by omega) (by decide) (by decide)]
  refine ok_iput m1 (show 2 < 1213 by decide) (fun w4 n1 n2 n3 => bk_X3_write_37 ?_)
  refine pas r.1.length 0 (by omega) w4 ?_ (a3.tr n2) (n3.trans (m3.trans k3))
  exact n1
theorem om_writes {l : List Int32} {x : Int32} (h : mIm w l) (hl : l.length < 1213) (q : ∀ w2, mIm w2 (l ++ [x]) → hm_ag [90] [57] w w2 → Q none w2) : hb_O yX12_writes cX12_writes 2 none d [hb_r 12 0 0, hb_i x] w Q := by
  obtain ⟨h1, h2, h3⟩ := h
  refine bk_X12_writes_0 ?_
  rw [h1, nI_clamp (by omega), nI_1]
  refine ⟨vp_in_nI hl (by decide), q _ ⟨?_, ?_, im_li_app h3⟩ ((hm_ag.rf.sI (by decide)).pI (by decide))⟩
  · rw [List.length_append]; rfl
  · rw [List.length_append, List.length_singleton]; omega
theorem om_checked {j n m : Nat} {l : List Int32} (hs : hb_sh 12 j = some (.inr (0, m))) (hm : m < 2 ^ 31) (hl : l.length ≤ m) (hli : im_li (hb_aI w 12 j 0) l) (hn : n = l.length) (q : Q (some (hb_i (l.foldl im_ck 211))) w) : hb_O yX12_checked cX12_checked 4 (some .int) d [hb_r 12 0 j, hb_i (nI n)] w Q := by
  subst hn
  have chk : ∀ (n k : Nat), k + n = l.length → hb_R yX12_checked cX12_checked 4 (some .int) d 6 [some (hb_r 12 0 j), some (hb_i (nI l.length)), some (hb_i ((l.take k).foldl im_ck 211)), some (hb_i (nI k))] [] w Q := by
    intro n
    induction n with
    | zero =>
      intro k hk
      rw [Nat.add_zero] at hk
      subst hk
      rw [List.take_length]
      exact bk_X12_checked_6 hs (by decide) ⟨fun _ => q, fun z => absurd (nI_le (Nat.le_refl _) (by omega)) z⟩
    | succ n ih =>
      intro k hk
      have hkl : k < l.length := by omega
      have hx : l[k]? = some l[k] := List.getElem?_eq_getElem hkl
      refine bk_X12_checked_6 hs (by decide) ⟨fun z => absurd z (nI_ge hkl (by omega)), fun _ => ⟨vp_in_nI (by omega) hm, ?_⟩⟩
      rw [nI_clamp (by omega), hli k _ hx, nI_1]
      have := ih (k + 1) (by omega)
      rw [im_take_s hx, im_fold_app] at this
      exact this
  exact bk_X12_checked_0 hs (by decide) (chk l.length 0 (by omega))
theorem om_image {L : Nat} {r : rT} (hL : L ≤ 9) (hn : r.1.length ≤ 400) (hb2 : hb_aI w 12 13 0 2 = nI L) (hR : mRl w r) (q : ∀ w2, mIm w2 (im_all L r) → hm_ag [90] [57] w w2 → Q (some (hb_i (nI (im_all L r).length))) w2) : hb_O yX12_image cX12_image 2 (some .int) (d + 1) [hb_r 12 0 0] w Q := by
  have hRl : ∀ w', hm_ag [90] [57] w w' → mRl w' r := fun w' ha => hR.ag ha (by decide) (by decide) (by decide) (by decide) (by decide) (by decide)
  have hlen0 := im_0_len L r
  have hfl := im_fl_len r.1
  have lots : ∀ (n l : Nat), l + n = L → ∀ w', mIm w' ([nI r.2.1, nI (r.1.length / 256), nI (r.1.length % 256)] ++ im_fl r.1 ++ (List.range l).map (im_lo r.2.2.1)) → hm_ag [90] [57] w w' → hb_R yX12_image cX12_image 2 (some .int) (d + 1) 75 [some (hb_r 12 0 0), some (hb_i (nI l))] [] w' Q := by
    intro n
    induction n with
    | zero =>
      intro l hl w' g1 g2
      rw [Nat.add_zero] at hl
      subst hl
      have e2 : hb_aI w' 12 13 0 (2 : Int32).toNatClampNeg = nI l := by
        show hb_aI w' 12 13 0 2 = nI l
        rw [g2.A 13]; exact hb2
      refine bk_X12_image_75 ⟨fun _ => ?_, fun z => absurd (by rw [e2]; exact nI_le (Nat.le_refl _) (by omega)) z⟩
      have g1' : mIm w' (im_0 l r) := g1
      rw [g1'.1]
      refine om_checked (m := 1213) rfl (by decide) g1'.2.1 g1'.2.2 rfl (bk_X12_image_133 ?_)
      refine om_writes g1' (by omega) (fun w2 k1 k2 => bk_X12_image_136 ?_)
      have : hb_fI w2 12 90 0 = nI (im_all l r).length := k1.1
      rw [this]
      exact q w2 k1 (g2.tr k2)
    | succ n ih =>
      intro l hl w' g1 g2
      have hlen : ([nI r.2.1, nI (r.1.length / 256), nI (r.1.length % 256)] ++ im_fl r.1 ++ (List.range l).map (im_lo r.2.2.1)).length < 1213 := by
        rw [List.length_append, List.length_append, hfl, List.length_map, List.length_range]
        show 3 + 3 * r.1.length + l < 1213
        omega
      have hlot := (hRl w' g2).2.2.2.2.2.2.1 l (by omega)
      have vl : vp_in (nI (2 + l)) 11 := vp_in_nI (by omega) (by decide)
      have e2 : hb_aI w' 12 13 0 (2 : Int32).toNatClampNeg = nI L := by
        show hb_aI w' 12 13 0 2 = nI L
        rw [g2.A 13]; exact hb2
      have e2l : (2 : Int32) + nI l = nI (2 + l) := nI_add 2 l
      have fin : ∀ x, x = im_lo r.2.2.1 l → hb_O yX12_writes cX12_writes 2 none d [hb_r 12 0 0, hb_i x] w' (fun rv w1 => hb_R yX12_image cX12_image 2 (some .int) (d + 1) 115 [some (hb_r 12 0 0), some (hb_i (nI l))] (rv.toList ++ []) w1 Q) := fun x hx => by
        refine om_writes g1 hlen (fun w2 k1 k2 => bk_X12_image_115 ?_)
        rw [nI_1]
        refine ih (l + 1) (by omega) w2 ?_ (g2.tr k2)
        rw [List.range_succ, List.map_append, List.map_singleton, ← List.append_assoc, ← hx]
        exact k1
      refine bk_X12_image_75 ⟨fun z => absurd z (by rw [e2]; exact nI_ge (by omega) (by omega)), fun _ => ?_⟩
      rw [e2l, nI_clamp (by omega), hlot]
      exact ⟨vl, fun z => ⟨vl, fin _ (by unfold im_lo; rw [if_neg z])⟩, fun z => fin _ (by unfold im_lo; rw [if_pos z])⟩
  have pas : ∀ (n k : Nat), k + n = 3 * r.1.length → ∀ w', mIm w' ([nI r.2.1, nI (r.1.length / 256), nI (r.1.length % 256)] ++ (im_fl r.1).take k) → hm_ag [90] [57] w w' → hb_R yX12_image cX12_image 2 (some .int) (d + 1) 45 [some (hb_r 12 0 0), some (hb_i (nI k))] [] w' Q := by
    intro n
    induction n with
    | zero =>
      intro k hk w' g1 g2
      rw [Nat.add_zero] at hk
      subst hk
      have e1 : (3 : Int32) * hb_aI w' 12 18 0 (1 : Int32).toNatClampNeg = nI (3 * r.1.length) := by
        show (3 : Int32) * hb_aI w' 12 18 0 1 = _
        rw [(hRl w' g2).2.1]; exact pk_mul 3 _
      rw [← hfl, List.take_length] at g1
      refine bk_X12_image_45 ⟨fun _ => lots L 0 (by omega) w' ?_ g2, fun z => absurd (by rw [e1]; exact nI_le (Nat.le_refl _) (by omega)) z⟩
      rw [show (List.range 0).map (im_lo r.2.2.1) = [] from rfl, List.append_nil]
      exact g1
    | succ n ih =>
      intro k hk w' g1 g2
      have e1 : (3 : Int32) * hb_aI w' 12 18 0 (1 : Int32).toNatClampNeg = nI (3 * r.1.length) := by
        show (3 : Int32) * hb_aI w' 12 18 0 1 = _
        rw [(hRl w' g2).2.1]; exact pk_mul 3 _
      have hx := (hRl w' g2).1.fl (j := k) (by omega)
      refine bk_X12_image_45 ⟨fun z => absurd z (by rw [e1]; exact nI_ge (by omega) (by omega)), fun _ => ⟨vp_in_nI (by omega) (by decide), ?_⟩⟩
      rw [nI_clamp (by omega)]
      refine om_writes g1 (by rw [List.length_append, List.length_take, hfl]; show 3 + min k (3 * r.1.length) < 1213; omega) (fun w2 k1 k2 => bk_X12_image_67 ?_)
      rw [nI_1]
      refine ih (k + 1) (by omega) w2 ?_ (g2.tr k2)
      rw [im_take_s hx, ← List.append_assoc]
      exact k1
  refine bk_X12_image_0 ?_
  have c0 : mIm (hb_pI w 12 90 0 0) [] := ⟨rfl, by decide, fun k x hk => by cases hk⟩
  have a0 : hm_ag [90] [57] w (hb_pI w 12 90 0 0) := hm_ag.rf.pI (by decide)
  have e0 : hb_aI w 12 18 0 (0 : Int32).toNatClampNeg = nI r.2.1 := hR.2.2.1
  rw [e0]
  refine om_writes c0 (by decide) (fun w2 k1 k2 => bk_X12_image_15 ?_)
  have a2 := a0.tr k2
  have e1 : hb_aI w2 12 18 0 (1 : Int32).toNatClampNeg = nI r.1.length := (hRl w2 a2).2.1
  rw [e1, show (256 : Int32) = nI 256 from rfl, pk_div (by omega) (by decide) (by decide)]
  refine om_writes k1 (show 1 < 1213 by decide) (fun w3 m1 m2 => bk_X12_image_29 ?_)
  have a3 := a2.tr m2
  have e1' : hb_aI w3 12 18 0 (1 : Int32).toNatClampNeg = nI r.1.length := (hRl w3 a3).2.1
  rw [e1', show (256 : Int32) = nI 256 from rfl, pk_rem (by omega) (by decide) (by decide)]
  refine om_writes m1 (show 2 < 1213 by decide) (fun w4 n1 n2 => bk_X12_image_43 ?_)
  refine pas (3 * r.1.length) 0 (by omega) w4 ?_ (a3.tr n2)
  rw [List.take_zero, List.append_nil]
  exact n1
end HIM
