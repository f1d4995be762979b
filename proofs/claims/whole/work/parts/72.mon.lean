/-! ===== the model: an image that comes by the tape ===== -/
def vLt (L : Nat) (r : rT) : Prop := (∀ l, L ≤ l → l < 9 → r.2.2.1 l = -1) ∧ ∀ j, j < r.2.2.2.2.1 → ∀ l, L ≤ l → l < 9 → r.2.2.2.2.2.2.2.2 ((r.2.2.2.2.2.1 + 20 - j) % 20) l = -1
theorem ry_dr_hi {n : Nat} {x : Int32} {s : Nat} {f : Nat → Int32} {l : Nat} : ∀ m, m ≤ l → (ry_dr n x m s f).2 l = f l
  | 0, _ => rfl
  | m + 1, h => by
    show (if ry_sd (ry_dr n x m s f).1 / 64 % n = 0 then upd (ry_dr n x m s f).2 m x else (ry_dr n x m s f).2) l = f l
    have ih := ry_dr_hi (n := n) (x := x) (s := s) (f := f) (l := l) m (by omega)
    split
    · rw [pk_un (by omega)]; exact ih
    · exact ih
theorem vLt.add {L h q t : Nat} {r : rT} (hv : vLt L r) : vLt L (rt_add L h q t r) := ⟨fun l h1 h2 => by
  show (ry_dr (r.1.length + 1) (nI h) L r.2.2.2.1 r.2.2.1).2 l = -1
  rw [ry_dr_hi L h1]; exact hv.1 l h1 h2, hv.2⟩
theorem vLt.rem {L : Nat} {r : rT} (hv : vLt L r) (hn : r.2.2.2.2.2.1 < 20) (ha : r.2.2.2.2.1 ≤ 20) : vLt L (rt_rem r) := by
  obtain ⟨P, c, f, s, a, nw, oc, oco, ol⟩ := r
  obtain ⟨h1, h2⟩ := hv
  dsimp only at h1 h2 hn ha
  refine ⟨h1, fun j hj l k1 k2 => ?_⟩
  have hj' : j < min (a + 1) 20 := hj
  show (if ((nw + 1) % 20 + 20 - j) % 20 = (nw + 1) % 20 then f else ol (((nw + 1) % 20 + 20 - j) % 20)) l = -1
  cases j with
  | zero => rw [if_pos (by omega)]; exact h1 l k1 k2
  | succ j =>
    rw [if_neg (by omega), show ((nw + 1) % 20 + 20 - (j + 1)) % 20 = (nw + 20 - j) % 20 by omega]
    exact h2 j (by omega) l k1 k2
theorem vLt.back {L : Nat} {r : rT} (hv : vLt L r) (hn : r.2.2.2.2.2.1 < 20) (ha : 0 < r.2.2.2.2.1) (ha2 : r.2.2.2.2.1 ≤ 20) : vLt L (rt_back r) := by
  obtain ⟨P, c, f, s, a, nw, oc, oco, ol⟩ := r
  obtain ⟨h1, h2⟩ := hv
  dsimp only at h1 h2 hn ha ha2
  refine ⟨fun l k1 k2 => ?_, fun j hj l k1 k2 => ?_⟩
  · have := h2 0 ha l k1 k2
    rw [show (nw + 20 - 0) % 20 = nw by omega] at this
    exact this
  · have hj' : j < a - 1 := hj
    show ol (((nw + 19) % 20 + 20 - j) % 20) l = -1
    rw [show ((nw + 19) % 20 + 20 - j) % 20 = (nw + 20 - (j + 1)) % 20 by omega]
    exact h2 (j + 1) (by omega) l k1 k2
theorem vLt.new {L : Nat} {r : rT} {P : List (Nat × Nat × Nat)} {c : Nat} {f : Nat → Int32} (hf : ∀ l, L ≤ l → l < 9 → f l = -1) : vLt L (rt_new P c f r) := ⟨hf, fun j hj => absurd hj (Nat.not_lt_zero j)⟩
theorem vLt.row {L : Nat} {x : wT} {r : rT} (hv : vLt L r) : ∀ j, vLt L (rt_row L x j r)
  | 0 => hv
  | j + 1 => (vLt.row hv j).add
theorem vLt.rows {L : Nat} : ∀ {l : List wT} {r : rT}, vLt L r → vLt L (rt_rows L l r)
  | [], _, hv => hv
  | x :: l, _, hv => vLt.rows (l := l) (hv.row x.1)
section HMO
variable {d : Nat} {w : hb_W} {Q : Option hb_V → hb_W → Prop}
theorem om_isLotTold {T : Nat → Nat} {n m l : Nat} (h : mTx w T n) (hm : m ≤ 400) (hn : 3 + 3 * m + l < n) (q1 : on_l T m l → Q (some (hb_i 1)) w) (q0 : ¬ on_l T m l → Q (some (hb_i 0)) w) : hb_O yX12_isLotTold cX12_isLotTold 4 (some .boolean) d [hb_r 12 0 0, hb_i (nI (T (3 + 3 * m + l))), hb_i (nI m)] w Q := by
  have hn2 := h.1
  have hb := (h.2 _ hn).2
  unfold on_l at q1 q0
  have loop : ¬ m = 0 → ∀ (j k : Nat), k + j = m → (∀ i, i < k → ¬ T (3 + 3 * i) = T (3 + 3 * m + l)) → hb_R yX12_isLotTold cX12_isLotTold 4 (some .boolean) d 19 [some (hb_r 12 0 0), some (hb_i (nI (T (3 + 3 * m + l)))), some (hb_i (nI m)), some (hb_i (nI k))] [] w Q := by
    intro hm0 j
    rw [if_neg hm0] at q1 q0
    induction j with
    | zero =>
      intro k hk hp
      rw [Nat.add_zero] at hk
      subst hk
      exact bk_X12_isLotTold_19 ⟨fun _ => q0 (fun ⟨i, i1, i2⟩ => hp i i1 i2), fun z => absurd (nI_le (Nat.le_refl _) (by omega)) z⟩
    | succ j ih =>
      intro k hk hp
      have e3 : (3 : Int32) + (3 : Int32) * nI k = nI (3 + 3 * k) := by rw [show (3 : Int32) = nI 3 from rfl, pk_mul, nI_add]
      obtain ⟨t1, t2⟩ := h.2 (3 + 3 * k) (by omega)
      refine bk_X12_isLotTold_19 ⟨fun z => absurd z (nI_ge (by omega) (by omega)), fun _ => ?_⟩
      rw [e3, nI_clamp (by omega), t1, nI_eq (by omega) (by omega), nI_1]
      refine ⟨vp_in_nI (by omega) (by decide), fun z => ih (k + 1) (by omega) (fun i hi => ?_), fun z => q1 ⟨k, by omega, z⟩⟩
      by_cases e : i = k
      · subst e; exact z
      · exact hp i (by omega)
  refine bk_X12_isLotTold_0 ?_
  rw [show (0 : Int32) = nI 0 from rfl, nI_eq (by omega) (by decide), show (255 : Int32) = nI 255 from rfl, nI_eq (by omega) (by decide)]
  refine ⟨fun z => loop z m 0 (by omega) (fun i hi => absurd hi (Nat.not_lt_zero i)), fun z => ?_⟩
  rw [if_pos z] at q1 q0
  exact ⟨fun z2 => q0 z2, fun z2 => q1 z2⟩
theorem om_isImage {T : Nat → Nat} {n L : Nat} (h : mTx w T n) (hL : L ≤ 9) (h30 : hb_fI w 12 30 0 = 1) (hb2 : hb_aI w 12 13 0 2 = nI L) (q1 : on_ok T n L → Q (some (hb_i 1)) w) (q0 : ¬ on_ok T n L → Q (some (hb_i 0)) w) : hb_O yX12_isImage cX12_isImage 5 (some .boolean) (d + 1) [hb_r 12 0 0, hb_i (nI n)] w Q := by
  have hn2 := h.1
  refine bk_X12_isImage_0 ⟨fun z => absurd z (by rw [h30]; decide), fun _ => ?_⟩
  rw [show (4 : Int32) = nI 4 from rfl, nI_ltI (by omega) (by decide)]
  refine ⟨fun z => q0 (fun y => by have := y.1; omega), fun z => ?_⟩
  have e1 : nI n - (1 : Int32) = nI (n - 1) := by rw [show (1 : Int32) = nI 1 from rfl, pk_sub (by omega)]
  rw [e1]
  refine ⟨vp_in_nI (by omega) (by decide), ?_⟩
  refine om_checked (j := 1) (m := 1600) (l := (List.range (n - 1)).map fun k => nI (T k)) rfl (by decide) (by rw [List.length_map, List.length_range]; omega) (fun k x hk => ?_) (by rw [List.length_map, List.length_range]) ?_
  · have hkl : k < n - 1 := by
      have := (List.getElem?_eq_some_iff.mp hk).1
      rw [List.length_map, List.length_range] at this
      exact this
    rw [List.getElem?_map, List.getElem?_range hkl] at hk
    rw [(h.2 k (by omega)).1]
    exact Option.some.inj hk
  rw [on_fold, nI_clamp (by omega), (h.2 (n - 1) (by omega)).1]
  obtain ⟨t00, t01⟩ := h.2 0 (by omega)
  obtain ⟨t10, t11⟩ := h.2 1 (by omega)
  obtain ⟨t20, t21⟩ := h.2 2 (by omega)
  refine bk_X12_isImage_30 ⟨fun z2 => q0 (fun y => z2 y.2.2.2.2.1.symm), fun z2 => ?_⟩
  have c0 : hb_aI w 12 1 0 (0 : Int32).toNatClampNeg = nI (T 0) := t00
  have c1 : hb_aI w 12 1 0 (1 : Int32).toNatClampNeg = nI (T 1) := t10
  have c2 : hb_aI w 12 1 0 (2 : Int32).toNatClampNeg = nI (T 2) := t20
  have c3 : hb_aI w 12 13 0 (2 : Int32).toNatClampNeg = nI L := hb2
  have em : (256 : Int32) * nI (T 1) + nI (T 2) = nI (on_m T) := by
    rw [show (256 : Int32) = nI 256 from rfl, pk_mul, nI_add]
    unfold on_m
    rw [Nat.mul_comm]
  have e3 : (3 : Int32) + (3 : Int32) * nI (on_m T) = nI (3 + 3 * on_m T) := by rw [show (3 : Int32) = nI 3 from rfl, pk_mul, nI_add]
  have hmb : on_m T < 100000 := by unfold on_m; omega
  rw [c0, c1, c2, c3, em, e3, nI_add, nI_1, show (99 : Int32) = nI 99 from rfl, nI_leI (by omega) (by decide), show (400 : Int32) = nI 400 from rfl, nI_ltI (by decide) (by omega), nI_eq (by omega) (by omega)]
  refine ⟨fun z3 => ⟨fun z4 => q0 (fun y => by have := y.2.2.1; omega), fun z4 => ⟨fun z5 => ?_, fun z5 => q0 (fun y => z5 (by have := y.2.2.2.1; omega))⟩⟩, fun z3 => q0 (fun y => by have := y.2.1; omega)⟩
  -- the lots
  have lots : (∀ k, k < on_m T → on_p T k) → ∀ (j l : Nat), l + j = L → (∀ i, i < l → on_l T (on_m T) i) → hb_R yX12_isImage cX12_isImage 5 (some .boolean) (d + 1) 152 [some (hb_r 12 0 0), some (hb_i (nI n)), some (hb_i (nI (on_m T))), some (hb_i (nI (3 + 3 * on_m T))), some (hb_i (nI (3 + 3 * on_m T + l)))] [] w Q := by
    intro hpas j
    induction j with
    | zero =>
      intro l hl hp
      rw [Nat.add_zero] at hl
      subst hl
      refine bk_X12_isImage_152 ?_
      rw [e1, nI_leI (by omega) (by omega)]
      exact ⟨fun _ => q1 ⟨by omega, by omega, by omega, by omega, z2.symm, hpas, hp⟩, fun z => absurd (by omega) z⟩
    | succ j ih =>
      intro l hl hp
      refine bk_X12_isImage_152 ?_
      rw [e1, nI_leI (by omega) (by omega), nI_clamp (by omega), (h.2 (3 + 3 * on_m T + l) (by omega)).1]
      refine ⟨fun z => absurd z (by omega), fun _ => ⟨vp_in_nI (by omega) (by decide), ?_⟩⟩
      refine om_isLotTold h (by omega) (by omega) (fun y => bk_X12_isImage_172 ⟨fun _ => ?_, fun z => absurd z (by decide)⟩) (fun y => bk_X12_isImage_172 ⟨fun z => absurd rfl z, fun _ => q0 (fun x => y (x.2.2.2.2.2.2 l (by omega)))⟩)
      rw [nI_1]
      refine ih (l + 1) (by omega) (fun i hi => ?_)
      by_cases e : i = l
      · subst e; exact y
      · exact hp i (by omega)
  have pas : ∀ (j k : Nat), k + j = on_m T → (∀ i, i < k → on_p T i) → hb_R yX12_isImage cX12_isImage 5 (some .boolean) (d + 1) 96 [some (hb_r 12 0 0), some (hb_i (nI n)), some (hb_i (nI (on_m T))), some (hb_i (nI (3 + 3 * on_m T))), some (hb_i (nI (3 + 3 * k)))] [] w Q := by
    intro j
    induction j with
    | zero =>
      intro k hk hp
      rw [Nat.add_zero] at hk
      subst hk
      exact bk_X12_isImage_96 ⟨fun _ => lots hp L 0 (by omega) (fun i hi => absurd hi (Nat.not_lt_zero i)), fun z => absurd (nI_le (Nat.le_refl _) (by omega)) z⟩
    | succ j ih =>
      intro k hk hp
      have e5 : nI (3 + 3 * k) + (2 : Int32) = nI (3 + 3 * k + 2) := nI_add _ 2
      have e6 : nI (3 + 3 * k) + (3 : Int32) = nI (3 + 3 * (k + 1)) := by rw [show (3 : Int32) = nI 3 from rfl, nI_add]; congr 1
      obtain ⟨a0, b0⟩ := h.2 (3 + 3 * k) (by omega)
      obtain ⟨a1, b1⟩ := h.2 (3 + 3 * k + 1) (by omega)
      obtain ⟨a2, b2⟩ := h.2 (3 + 3 * k + 2) (by omega)
      refine bk_X12_isImage_96 ⟨fun z => absurd z (nI_ge (by omega) (by omega)), fun _ => ?_⟩
      rw [nI_1, e5, e6, nI_clamp (by omega), nI_clamp (by omega), nI_clamp (by omega), a0, a1, a2, show (64 : Int32) = nI 64 from rfl, nI_leI (by decide) (by omega), show (99 : Int32) = nI 99 from rfl, nI_ltI (by decide) (by omega), show (1 : Int32) = nI 1 from rfl, nI_leI (by omega) (by decide)]
      refine ⟨vp_in_nI (by omega) (by decide), fun z => q0 (fun y => by have := (y.2.2.2.2.2.1 k (by omega)).1; omega), fun z => ⟨vp_in_nI (by omega) (by decide), fun y2 => q0 (fun y => by have := (y.2.2.2.2.2.1 k (by omega)).2.1; omega), fun y2 => ⟨vp_in_nI (by omega) (by decide), fun y3 => ih (k + 1) (by omega) (fun i hi => ?_), fun y3 => q0 (fun y => by have := (y.2.2.2.2.2.1 k (by omega)).2.2; omega)⟩⟩⟩
      by_cases e : i = k
      · subst e; exact ⟨by omega, by omega, by omega⟩
      · exact hp i (by omega)
  exact pas (on_m T) 0 (by omega) (fun i hi => absurd hi (Nat.not_lt_zero i))
theorem om_on {T : Nat → Nat} {n L : Nat} {r : rT} (h1 : hb_fI w 12 1 0 = nI n) (h : mTx w T n) (hL : L ≤ 9) (h30 : hb_fI w 12 30 0 = 1) (hb2 : hb_aI w 12 13 0 2 = nI L) (hR : mRl w r) (hf : ∀ l, L ≤ l → l < 9 → r.2.2.1 l = -1)
    (q1 : on_ok T n L → ∀ w2, mRl w2 (rt_new (on_P T) (T 0) (on_f T L) r) → hb_fI w2 12 1 0 = 0 → hm_ag [1, 55] [18, 19] w w2 → Q (some (hb_i 1)) w2) (q0 : ¬ on_ok T n L → Q (some (hb_i 0)) (hb_sI (hb_pI w 12 1 0 0) 12 2 0 (upd (hb_aI w 12 2 0) 5 (hb_aI w 12 2 0 5 + 1)))) : hb_O yX12_on cX12_on 3 (some .boolean) (d + 2) [hb_r 12 0 0] w Q := by
  refine bk_X12_on_0 ?_
  have a1 : hm_ag [1, 55] [18, 19] w (hb_pI w 12 1 0 0) := hm_ag.rf.pI (by decide)
  rw [h1]
  refine om_isImage (h.ag a1 (by decide)) hL h30 hb2 (fun hok => bk_X12_on_15 ⟨fun _ => ?_, fun z => absurd z (by decide)⟩) (fun hok => bk_X12_on_15 ⟨fun z => absurd rfl z, fun _ => q0 hok⟩)
  have hok2 := hok
  obtain ⟨k1, k2, k3, k4, k5, k6, k7⟩ := hok
  have hn2 := h.1
  obtain ⟨t00, t01⟩ := h.2 0 (by omega)
  obtain ⟨t10, t11⟩ := h.2 1 (by omega)
  obtain ⟨t20, t21⟩ := h.2 2 (by omega)
  have c0 : hb_aI (hb_pI w 12 1 0 0) 12 1 0 (0 : Int32).toNatClampNeg = nI (T 0) := t00
  have c1 : hb_aI (hb_pI w 12 1 0 0) 12 1 0 (1 : Int32).toNatClampNeg = nI (T 1) := t10
  have c2 : hb_aI (hb_pI w 12 1 0 0) 12 1 0 (2 : Int32).toNatClampNeg = nI (T 2) := t20
  have em : (256 : Int32) * nI (T 1) + nI (T 2) = nI (on_m T) := by
    rw [show (256 : Int32) = nI 256 from rfl, pk_mul, nI_add]
    unfold on_m
    rw [Nat.mul_comm]
  rw [c0, c1, c2, em]
  -- the lots
  have lots : ∀ (j l : Nat), l + j = L → ∀ w', mP w' (on_P T) → hb_aI w' 12 18 0 1 = nI (on_m T) → hb_aI w' 12 18 0 0 = nI (T 0) → (∀ i, i < 9 → hb_aI w' 12 18 0 (2 + i) = if i < l then on_f T L i else r.2.2.1 i) → hm_ag [1] [18, 19] w w' → hb_fI w' 12 1 0 = 0 → hb_R yX12_on cX12_on 3 (some .boolean) (d + 1 + 1) 101 [some (hb_r 12 0 0), some (hb_i (nI n)), some (hb_i (nI l))] [] w' Q := by
    intro j
    induction j with
    | zero =>
      intro l hl w' g1 g2 g3 g4 g5 g6
      rw [Nat.add_zero] at hl
      subst hl
      have e2 : hb_aI w' 12 13 0 (2 : Int32).toNatClampNeg = nI l := by
        show hb_aI w' 12 13 0 2 = nI l
        rw [g5.A 13]; exact hb2
      refine bk_X12_on_101 ⟨fun _ => q1 hok2 _ ⟨g1, ?_, g3, ?_, rfl, ?_, fun i hi => ?_, ?_⟩ g6 ((g5.wk (by decide) (fun x hx => hx)).pI (by decide)), fun z => absurd (by rw [e2]; exact nI_le (Nat.le_refl _) (by omega)) z⟩
      · show hb_aI w' 12 18 0 1 = nI (on_P T).length
        rw [on_P_len]; exact g2
      · show hb_fL w' 12 57 0 = _
        rw [g5.FL 57]; exact hR.2.2.2.1
      · show hb_fI w' 12 56 0 = _
        rw [g5.I 56]; exact hR.2.2.2.2.2.1
      · show hb_aI w' 12 18 0 (2 + i) = on_f T l i
        rw [g4 i hi]
        by_cases e : i < l
        · rw [if_pos e]
        · rw [if_neg e, hf i (by omega) hi]; unfold on_f; rw [if_neg e]
      · have e32 : hb_aI (hb_pI w' 12 55 0 0) 12 32 0 = hb_aI w 12 32 0 := g5.A 32
        rw [e32]; exact hR.2.2.2.2.2.2.2
    | succ j ih =>
      intro l hl w' g1 g2 g3 g4 g5 g6
      have e2 : hb_aI w' 12 13 0 (2 : Int32).toNatClampNeg = nI L := by
        show hb_aI w' 12 13 0 2 = nI L
        rw [g5.A 13]; exact hb2
      have e1 : hb_aI w' 12 18 0 (1 : Int32).toNatClampNeg = nI (on_m T) := g2
      have e3 : (3 : Int32) + (3 : Int32) * nI (on_m T) + nI l = nI (3 + 3 * on_m T + l) := by rw [show (3 : Int32) = nI 3 from rfl, pk_mul, nI_add, nI_add]
      have e4 : (2 : Int32) + nI l = nI (2 + l) := nI_add 2 l
      obtain ⟨t0, t1⟩ := h.2 (3 + 3 * on_m T + l) (by omega)
      have fin : ∀ x, x = on_f T L l → hb_R yX12_on cX12_on 3 (some .boolean) (d + 1 + 1) 101 [some (hb_r 12 0 0), some (hb_i (nI n)), some (hb_i (nI (l + 1)))] [] (hb_sI w' 12 18 0 (upd (hb_aI w' 12 18 0) (2 + l) x)) Q := fun x hx => by
        refine ih (l + 1) (by omega) _ g1 ?_ ?_ (fun i hi => ?_) (g5.sI (by decide)) g6
        · rw [hw_aIs, pk_un (by omega)]; exact g2
        · rw [hw_aIs, pk_un (by omega)]; exact g3
        · rw [hw_aIs]
          by_cases e : i = l
          · rw [e, pk_us, if_pos (by omega)]; exact hx
          · rw [pk_un (by omega), g4 i hi]
            by_cases e5 : i < l
            · rw [if_pos e5, if_pos (by omega)]
            · rw [if_neg e5, if_neg (by omega)]
      refine bk_X12_on_101 ⟨fun z => absurd z (by rw [e2]; exact nI_ge (by omega) (by omega)), fun _ => ?_⟩
      rw [e1, e3, e4, nI_clamp (by omega), nI_clamp (by omega), g5.A 1, t0, show (0 : Int32) = nI 0 from rfl, nI_eq (by omega) (by decide), nI_1]
      refine ⟨fun z => ⟨vp_in_nI (by omega) (by decide), vp_in_nI (by omega) (by decide), fin _ ?_⟩, fun z => ⟨vp_in_nI (by omega) (by decide), fin _ ?_⟩⟩
      · unfold on_f; rw [if_pos (by omega), if_neg z]
      · unfold on_f; rw [if_pos (by omega), if_pos z]
  have pas : ∀ (j k : Nat), k + j = 3 * on_m T → ∀ w', (∀ i, i < k → hb_aI w' 12 19 0 i = nI (T (3 + i))) → hb_aI w' 12 18 0 1 = nI (on_m T) → hb_aI w' 12 18 0 0 = nI (T 0) → (∀ i, i < 9 → hb_aI w' 12 18 0 (2 + i) = r.2.2.1 i) → hm_ag [1] [18, 19] w w' → hb_fI w' 12 1 0 = 0 → hb_R yX12_on cX12_on 3 (some .boolean) (d + 1 + 1) 67 [some (hb_r 12 0 0), some (hb_i (nI n)), some (hb_i (nI k))] [] w' Q := by
    intro j
    induction j with
    | zero =>
      intro k hk w' g1 g2 g3 g4 g5 g6
      rw [Nat.add_zero] at hk
      subst hk
      have e1 : (3 : Int32) * hb_aI w' 12 18 0 (1 : Int32).toNatClampNeg = nI (3 * on_m T) := by
        show (3 : Int32) * hb_aI w' 12 18 0 1 = _
        rw [g2]; exact pk_mul 3 _
      refine bk_X12_on_67 ⟨fun _ => lots L 0 (by omega) w' (fun i p hp => ?_) g2 g3 (fun i hi => by rw [if_neg (Nat.not_lt_zero i)]; exact g4 i hi) g5 g6, fun z => absurd (by rw [e1]; exact nI_le (Nat.le_refl _) (by omega)) z⟩
      obtain ⟨b1, b2⟩ := on_P_get hp
      rw [b2]
      refine ⟨?_, ?_, ?_⟩
      · rw [g1 _ (by omega)]
      · rw [g1 _ (by omega)]; rfl
      · rw [g1 _ (by omega)]; rfl
    | succ j ih =>
      intro k hk w' g1 g2 g3 g4 g5 g6
      have e1 : (3 : Int32) * hb_aI w' 12 18 0 (1 : Int32).toNatClampNeg = nI (3 * on_m T) := by
        show (3 : Int32) * hb_aI w' 12 18 0 1 = _
        rw [g2]; exact pk_mul 3 _
      have e3 : (3 : Int32) + nI k = nI (3 + k) := nI_add 3 k
      refine bk_X12_on_67 ⟨fun z => absurd z (by rw [e1]; exact nI_ge (by omega) (by omega)), fun _ => ?_⟩
      rw [e3, nI_clamp (by omega), nI_clamp (by omega), g5.A 1, (h.2 (3 + k) (by omega)).1, nI_1]
      refine ⟨vp_in_nI (by omega) (by decide), vp_in_nI (by omega) (by decide), ih (k + 1) (by omega) _ (fun i hi => ?_) g2 g3 g4 (g5.sI (by decide)) g6⟩
      rw [hw_aIs]
      by_cases e : i = k
      · rw [e, pk_us]
      · rw [pk_un e]; exact g1 i (by omega)
  exact pas (3 * on_m T) 0 (by omega) _ (fun i hi => absurd hi (Nat.not_lt_zero i)) rfl rfl (fun i hi => by
    show upd (upd (hb_aI w 12 18 0) 0 (nI (T 0))) 1 (nI (on_m T)) (2 + i) = _
    rw [pk_un (by omega), pk_un (by omega)]
    exact hR.2.2.2.2.2.2.1 i hi) (((hm_ag.rf.pI (by decide)).sI (by decide)).sI (by decide)) rfl
end HMO
