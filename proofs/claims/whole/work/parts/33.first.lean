def hd_ord : List hb_Id := [(0, 0, 0), (1, 0, 0), (1, 0, 1), (2, 0, 0), (2, 0, 1), (4, 0, 0), (3, 0, 0), (5, 0, 0), (5, 0, 1), (6, 0, 0), (6, 0, 1), (7, 0, 0), (7, 0, 1), (7, 0, 2), (7, 0, 3), (7, 0, 4), (7, 0, 5), (7, 0, 6), (7, 0, 7), (8, 0, 0), (5, 1, 0), (5, 1, 1), (9, 0, 0), (9, 0, 1), (9, 0, 2), (9, 0, 3), (9, 0, 4), (9, 0, 5), (9, 0, 6), (9, 0, 7), (9, 0, 8), (9, 0, 9), (9, 0, 10), (9, 1, 0), (9, 1, 1), (9, 1, 2), (9, 1, 3), (9, 1, 4), (9, 1, 5), (9, 1, 6), (9, 1, 7), (9, 1, 8), (9, 1, 9), (9, 1, 10), (9, 2, 0), (9, 2, 1), (9, 2, 2), (9, 2, 3), (9, 2, 4), (9, 2, 5), (9, 2, 6), (9, 2, 7), (9, 2, 8), (9, 2, 9), (9, 2, 10), (9, 3, 0), (9, 3, 1), (9, 3, 2), (9, 3, 3), (9, 3, 4), (9, 3, 5), (9, 3, 6), (9, 3, 7), (9, 3, 8), (9, 3, 9), (9, 3, 10), (10, 0, 0), (10, 0, 1), (0, 0, 1), (11, 0, 0), (11, 0, 1), (11, 0, 2), (11, 0, 3), (11, 0, 4), (11, 0, 5), (11, 0, 6), (2, 1, 0), (2, 1, 1), (11, 1, 0), (11, 1, 1), (11, 1, 2), (11, 1, 3), (11, 1, 4), (11, 1, 5), (11, 1, 6), (2, 2, 0), (2, 2, 1), (12, 0, 0), (12, 0, 1), (12, 0, 2), (12, 0, 3), (12, 0, 4), (12, 0, 5), (12, 0, 6), (12, 0, 7), (12, 0, 8), (12, 0, 9), (12, 0, 10), (12, 0, 11), (12, 0, 12), (12, 0, 13), (12, 0, 14), (12, 0, 15), (12, 0, 16), (12, 0, 17), (12, 0, 18), (12, 0, 19), (12, 0, 20), (12, 0, 21), (12, 0, 22), (12, 0, 23), (12, 0, 24), (12, 0, 25), (12, 0, 26), (12, 0, 27), (12, 0, 28), (12, 0, 29), (12, 0, 30), (12, 0, 31), (12, 0, 32), (12, 0, 33), (12, 0, 34), (12, 0, 35), (12, 0, 36), (12, 0, 37), (12, 0, 38), (12, 0, 39), (12, 0, 40), (12, 0, 41), (12, 0, 42), (12, 0, 43), (12, 0, 44), (12, 0, 45), (12, 0, 46), (12, 0, 47), (12, 0, 48), (12, 0, 49), (12, 0, 50), (12, 0, 51), (12, 0, 52), (12, 0, 53), (12, 0, 54), (12, 0, 55), (12, 0, 56), (12, 0, 57)]
def hd_ix (q : hb_Id) : Nat := hd_ord.idxOf q
def hd_iT : List (Nat × Nat × Int32) := [(0, 12, -1), (3, 7, -1), (4, 2, 2), (7, 6, 1), (8, 9, -1), (8, 10, -1), (9, 0, 1), (9, 1, 1), (9, 10, -1), (12, 8, -1)]
def hd_aT : List (Nat × Nat × List Int32) := [(7, 4, [-1, -1, -1, -1, -1, -1, -1, -1, -1]), (12, 3, [98, 111, 111, 107]), (12, 4, [108, 105, 110, 101, 115]), (12, 5, [114, 111, 119, 115]), (12, 6, [104, 111, 111, 100, 115]), (12, 7, [102, 114, 111, 109]), (12, 8, [115, 116, 101, 112]), (12, 9, [103, 105, 118, 101, 115]), (12, 10, [103, 97, 116, 101]), (12, 11, [109, 105, 120]), (12, 12, [99, 111, 105, 110]), (12, 33, [102, 105, 114, 115, 116]), (12, 34, [108, 97, 115, 116]), (12, 35, [111, 102, 116, 101, 110]), (12, 36, [116, 111, 116, 97, 108]), (12, 37, [109, 111, 115, 116]), (12, 38, [108, 101, 97, 115, 116]), (12, 39, [110, 111, 116]), (12, 40, [97, 110, 100]), (12, 41, [111, 114]), (12, 42, [97, 108, 108]), (12, 43, [109, 105, 110]), (12, 44, [109, 97, 120]), (12, 45, [104, 111, 111, 100]), (12, 46, [116, 117, 114, 110]), (12, 47, [108, 105, 110, 101]), (12, 48, [99, 111, 105, 110]), (12, 49, [116, 105, 109, 101, 115]), (12, 50, [116, 111, 108, 100]), (12, 51, [103, 105, 102, 116, 115]), (12, 52, [109, 97, 114, 107]), (12, 53, [97, 116]), (12, 18, [0, 0, -1, -1, -1, -1, -1, -1, -1, -1, -1])]
/-- the world as the two makers leave it -/
def hd_w : hb_W := (fun t k _ => ((hd_iT.find? fun x => x.1 == t && x.2.1 == k).map fun x => x.2.2).getD 0, fun t k _ => if t = 12 ∧ k = 57 then 1 else 0, fun t k _ => if t = 0 ∧ k = 9 then 1 else 0, fun t j _ i => (((hd_aT.find? fun x => x.1 == t && x.2.1 == j).map fun x => x.2.2).getD []).getD i 0, fun _ _ _ _ => 0)
def hd_same (v u : hb_V) : Bool := match v, u with
  | .inl x, .inl b => x == b
  | .inr (.inl x), .inr (.inl b) => x == b
  | .inr (.inr (some q)), .inr (.inr (some r)) => q.1 == hd_ix r
  | .inr (.inr none), .inr (.inr none) => true
  | _, _ => false
def hd_cell (L : List hc_A) (q : hb_Id) : Bool := match hb_sh q.1 q.2.2, L[hd_ix q]? with
  | some (.inl ci), some (.inr (ci2, fs)) => ci == ci2 && (fs.length == hb_nf ci && (List.range (hb_nf ci)).all fun k => match fs[k]? with
    | some v => hd_same v (hb_fd hd_w q.1 k q.2.1)
    | none => false)
  | some (.inr (ty, n)), some (.inl (ty2, n2, us)) => ty == ty2 && (n == n2 && (decide (ty = 4) || (List.range n).all fun i => hc_fn us i == hb_aI hd_w q.1 q.2.2 q.2.1 i))
  | _, _ => false
def hd_chk (L : List hc_A) : Bool := hb_ids.all (hd_cell L)
set_option maxRecDepth 100000 in
theorem hd_chk_ok : hd_chk hd_L85 = true := by decide +kernel
theorem hd_ix_inj : ∀ q ∈ hb_ids, ∀ r ∈ hb_ids, hd_ix q = hd_ix r → q = r := by decide +kernel
def hd_ad (b base : Nat) (q : hb_Id) : Nat := if q.1 = 13 then b else base + hd_ix q
theorem hd_ids13 : ∀ q ∈ hb_ids, ¬ q.1 = 13 := by decide +kernel
theorem hd_D (cA : Nat → ClassId) (b : Nat) (Hb : Heap) (w : hb_W) : va_D (fun q => Hb.size ≤ q) (hb_ws cA (hd_ad b Hb.size) w) := by
  have key : ∀ (k : Nat) (x : Nat × va_E), (hb_ws cA (hd_ad b Hb.size) w)[k]? = some x → ∃ q, hb_ids[k]? = some q ∧ x.1 = Hb.size + hd_ix q := by
    intro k x hk
    unfold hb_ws at hk
    rw [List.getElem?_map] at hk
    obtain ⟨q, h1, h2⟩ := Option.map_eq_some_iff.mp hk
    refine ⟨q, h1, ?_⟩
    rw [← h2]
    show hd_ad b Hb.size q = _
    unfold hd_ad
    rw [if_neg (hd_ids13 q (List.mem_of_getElem? h1))]
  refine ⟨fun i j x z hi hj e => ?_, fun k x hk => ?_⟩
  · obtain ⟨q, h1, h2⟩ := key i x hi
    obtain ⟨r, h3, h4⟩ := key j z hj
    have e2 : hd_ix q = hd_ix r := by omega
    have e3 := hd_ix_inj q (List.mem_of_getElem? h1) r (List.mem_of_getElem? h3) e2
    subst e3
    exact (List.getElem?_inj (List.getElem?_eq_some_iff.mp h1).1 hb_ids_nd).mp (h1.trans h3.symm)
  · obtain ⟨q, h1, h2⟩ := key k x hk
    show Hb.size ≤ x.1
    omega
theorem hd_arrV {cA : ClassId} {n : Nat} {f g : Nat → Value} (h : ∀ i, i < n → f i = g i) : arrV cA n f = arrV cA n g := by
  have e1 : (arrV cA n f).slots = (arrV cA n g).slots := by
    refine Array.ext (by rw [arrV_size, arrV_size]) fun i h1 h2 => ?_
    rw [arrV_size] at h1
    have q1 := arrV_read cA f h1
    have q2 := arrV_read cA g h1
    rw [Array.getElem?_eq_getElem (by rw [arrV_size]; exact h1)] at q1 q2
    rw [Option.some.inj q1, Option.some.inj q2, h i h1]
  exact congrArg (fun z => ({ cls := cA, slots := z, vm := .none } : Cell)) e1
theorem hd_same_ok {b base : Nat} {v u : hb_V} (h : hd_same v u = true) (hu : ∀ q, u = .inr (.inr (some q)) → ¬ q.1 = 13) : hb_cv (hc_ad base) v = hb_cv (hd_ad b base) u := by
  unfold hd_same at h
  split at h
  · rw [eq_of_beq h]; rfl
  · rw [eq_of_beq h]; rfl
  · rename_i q r
    have e := eq_of_beq h
    show Value.ref (base + q.1) = Value.ref (hd_ad b base r)
    unfold hd_ad
    rw [if_neg (hu r rfl), e]
  · rfl
  · cases h
theorem hd_lk13 : (hb_lkT.all fun row => row.all fun x => match x with
    | none => true
    | some (t, _, _) => decide (¬ t = 13)) = true := by decide +kernel
theorem hd_fd13 (w : hb_W) (t k g : Nat) (q : hb_Id) (h : hb_fd w t k g = .inr (.inr (some q))) : ¬ q.1 = 13 := by
  unfold hb_fd at h
  split at h
  · cases h
  · rename_i t1 j1 md hl
    split at h
    · cases h
    · cases h
      unfold hb_lk at hl
      rw [List.getD_eq_getElem?_getD] at hl
      cases hr : (hb_lkT.getD t [])[k]? with
      | none => rw [hr] at hl; cases hl
      | some x =>
        rw [hr] at hl
        have hx : x = some (t1, j1, md) := hl
        rw [List.getD_eq_getElem?_getD] at hr
        cases hr2 : hb_lkT[t]? with
        | none => rw [hr2] at hr; simp at hr
        | some row =>
          rw [hr2] at hr
          have k1 := List.all_eq_true.mp hd_lk13 row (List.mem_of_getElem? hr2)
          have k2 := List.all_eq_true.mp k1 x (List.mem_of_getElem? hr)
          rw [hx] at k2
          simpa using k2
/-- what the makers leave is the first world -/
theorem hd_first {D : va_G} {cA : Nat → ClassId} {Hb H : Heap} {locs : List Loc} (b : Nat) (h : hc_H D cA Hb hd_L85 H locs) : hb_H D cA (hd_ad b Hb.size) Hb hd_w H locs := by
  refine ⟨fun k x hk => ?_, h.2.2⟩
  unfold hb_ws at hk
  rw [List.getElem?_map] at hk
  obtain ⟨q, h1, h2⟩ := Option.map_eq_some_iff.mp hk
  have hm := List.mem_of_getElem? h1
  have hc := List.all_eq_true.mp hd_chk_ok q hm
  rw [← h2]
  have ead : hd_ad b Hb.size q = Hb.size + hd_ix q := by
    unfold hd_ad
    rw [if_neg (hd_ids13 q hm)]
  unfold hd_cell at hc
  split at hc
  · rename_i ci ci2 fs hs hL
    simp only [Bool.and_eq_true] at hc
    obtain ⟨c1, c2, c3⟩ := hc
    have e1 : ci = ci2 := eq_of_beq c1
    subst e1
    have e2 : fs.length = hb_nf ci := eq_of_beq c2
    have ha := h.2.1 (hd_ix q) _ (hc_ws_at cA Hb.size hL)
    have e3 : fs.map (hb_cv (hc_ad Hb.size)) = (List.range (hb_nf ci)).map fun k => hb_cv (hd_ad b Hb.size) (hb_fd hd_w q.1 k q.2.1) := by
      refine List.ext_getElem? fun i => ?_
      rw [List.getElem?_map, List.getElem?_map]
      by_cases hi : i < hb_nf ci
      · rw [List.getElem?_range hi]
        have k1 := List.all_eq_true.mp c3 i (List.mem_range.mpr hi)
        cases hf : fs[i]? with
        | none => rw [hf] at k1; cases k1
        | some v =>
          rw [hf] at k1
          simp only [Option.map_some]
          rw [hd_same_ok (b := b) k1 (fun r hr => hd_fd13 _ _ _ _ r hr)]
      · rw [List.getElem?_eq_none (by omega), List.getElem?_eq_none (by simp; omega)]
        rfl
    have e4 : hb_e cA (hd_ad b Hb.size) hd_w q = .inr (ci, fs.map (hb_cv (hc_ad Hb.size))) := by
      unfold hb_e
      rw [hs, e3]
    rw [ead, e4]
    exact ha
  · rename_i ty n ty2 n2 us hs hL
    simp only [Bool.and_eq_true, Bool.or_eq_true, decide_eq_true_eq] at hc
    obtain ⟨c1, c2, c3⟩ := hc
    have e1 : ty = ty2 := eq_of_beq c1
    have e2 : n = n2 := eq_of_beq c2
    subst e1; subst e2
    have ha := h.2.1 (hd_ix q) _ (hc_ws_at cA Hb.size hL)
    rw [ead]
    unfold hb_e
    rw [hs]
    by_cases h4 : ty = 4
    · subst h4
      exact ha
    · have hall := c3.resolve_left h4
      show H[Hb.size + hd_ix q]? = some (vp_cell (cA ty) (n, if ty = 4 then _ else _))
      rw [if_neg h4]
      have ha2 : H[Hb.size + hd_ix q]? = some (vp_cell (cA ty) (hc_va ty n us)) := ha
      rw [ha2]
      unfold hc_va
      rw [if_neg h4, vp_cell_i, vp_cell_i]
      congr 1
      exact hd_arrV fun i hi => by rw [eq_of_beq (List.all_eq_true.mp hall i (List.mem_range.mpr hi))]
  · cases hc

