/-! ===== the model's roll; rows of hoods in both ===== -/
def mRl (w : hb_W) (r : rT) : Prop := mP w r.1 ∧ hb_aI w 12 18 0 1 = nI r.1.length ∧ hb_aI w 12 18 0 0 = nI r.2.1 ∧ hb_fL w 12 57 0 = lN r.2.2.2.1 ∧ hb_fI w 12 55 0 = nI r.2.2.2.2.1 ∧ hb_fI w 12 56 0 = nI r.2.2.2.2.2.1 ∧ (∀ l, l < 9 → hb_aI w 12 18 0 (2 + l) = r.2.2.1 l) ∧ ∀ i, i < 20 → hb_aI w 12 32 0 (11 * i + 1) = nI (r.2.2.2.2.2.2.1 i) ∧ hb_aI w 12 32 0 (11 * i) = nI (r.2.2.2.2.2.2.2.1 i) ∧ ∀ l, l < 9 → hb_aI w 12 32 0 (11 * i + (2 + l)) = r.2.2.2.2.2.2.2.2 i l
theorem hm_ag.FL {K J : List Nat} {w w2 : hb_W} (h : hm_ag K J w w2) (k : Nat) (hk : ¬ k ∈ K := by decide) : hb_fL w2 12 k 0 = hb_fL w 12 k 0 := h.2.1 12 k 0 (fun z => hk z.2)
theorem mRl.ag {K J : List Nat} {w w2 : hb_W} {r : rT} (h : mRl w r) (ha : hm_ag K J w w2) (k55 : ¬ 55 ∈ K) (k56 : ¬ 56 ∈ K) (k57 : ¬ 57 ∈ K) (j18 : ¬ 18 ∈ J) (j19 : ¬ 19 ∈ J) (j32 : ¬ 32 ∈ J) : mRl w2 r := by
  unfold mRl mP at h ⊢
  rw [ha.A 18 j18, ha.A 19 j19, ha.A 32 j32, ha.I 55 k55, ha.I 56 k56, ha.FL 57 k57]
  exact h
theorem mRl.agc {Pp : Nat → Nat → Prop} {w w2 : hb_W} {r : rT} (h : mRl w r) (ha : hw_ag Pp w w2) (hn : ¬ Pp 12 0) : mRl w2 r := by
  unfold mRl mP at h ⊢
  rw [ha.2.2.2.1 12 18 0 hn, ha.2.2.2.1 12 19 0 hn, ha.2.2.2.1 12 32 0 hn, ha.1 12 55 0 hn, ha.1 12 56 0 hn, ha.2.1 12 57 0 hn]
  exact h
theorem mP.app {w w2 : hb_W} {P : List (Nat × Nat × Nat)} {h q t : Nat} (hP : mP w P) (e : hb_aI w2 12 19 0 = upd (upd (upd (hb_aI w 12 19 0) (3 * P.length) (nI h)) (3 * P.length + 1) (nI q)) (3 * P.length + 2) (nI t)) : mP w2 (P ++ [(h, q, t)]) := by
  intro k p hk
  rw [e]
  by_cases e : k < P.length
  · rw [List.getElem?_append_left e] at hk
    rw [pk_un (by omega), pk_un (by omega), pk_un (by omega), pk_un (by omega), pk_un (by omega), pk_un (by omega), pk_un (by omega), pk_un (by omega), pk_un (by omega)]
    exact hP k p hk
  · rw [List.getElem?_append_right (by omega)] at hk
    have : k - P.length = 0 := by
      rcases Nat.eq_zero_or_pos (k - P.length) with z | z
      · exact z
      · rw [List.getElem?_eq_none (by simp; omega)] at hk
        cases hk
    rw [this] at hk
    have ek : k = P.length := by omega
    cases hk
    rw [ek]
    refine ⟨?_, ?_, ?_⟩
    · rw [pk_un (by omega), pk_un (by omega), pk_us]
    · rw [pk_un (by omega), pk_us]
    · rw [pk_us]
/-- what a sum gives -/
def ry_gf (v : Int) : Nat := if v < 0 then 0 else if 99 < v then 99 else v.toNat
theorem ry_gf_lt (v : Int) : ry_gf v < 100 := by
  unfold ry_gf
  split
  · decide
  · split
    · decide
    · omega
/-- rows: how many, from, step, gate, gives -/
abbrev wT : Type := Nat × Nat × Nat × Nat × List Nat
def ry_h (x : wT) (j : Nat) : Nat := (x.2.1 + j * x.2.2.1) % 64
def ry_q (x : wT) (j : Nat) : Nat := ry_gf (sp_ev x.2.2.2.2 (sp_pt (ry_h x j) j 0 0) sp_fo0)
def rt_row (L : Nat) (x : wT) : Nat → rT → rT
  | 0, r => r
  | j + 1, r => rt_add L (ry_h x j) (ry_q x j) x.2.2.2.1 (rt_row L x j r)
def rt_rows (L : Nat) : List wT → rT → rT
  | [], r => r
  | x :: l, r => rt_rows L l (rt_row L x x.1 r)
def vRow (x : wT) : Prop := 1 ≤ x.1 ∧ x.1 ≤ 99 ∧ x.2.1 < 64 ∧ x.2.2.1 < 64 ∧ x.2.2.2.1 < 2 ∧ sp_okGive x.2.2.2.2
def cRow (w : hb_W) (g k : Nat) (x : wT) : Prop := hb_aI w 11 1 g k = nI x.1 ∧ hb_aI w 11 2 g k = nI x.2.1 ∧ hb_aI w 11 3 g k = nI x.2.2.1 ∧ hb_aI w 11 4 g k = nI x.2.2.2.1 ∧ ∃ a, hb_aI w 11 5 g k = nI a ∧ hb_aI w 11 6 g k = nI (a + x.2.2.2.2.length) ∧ cC w (g + 1) a x.2.2.2.2
def mRow (w : hb_W) (k : Nat) (x : wT) : Prop := hb_aI w 12 14 0 (80 + 4 * k) = nI x.1 ∧ hb_aI w 12 14 0 (80 + 4 * k + 1) = nI x.2.1 ∧ hb_aI w 12 14 0 (80 + 4 * k + 2) = nI x.2.2.1 ∧ hb_aI w 12 14 0 (80 + 4 * k + 3) = nI x.2.2.2.1 ∧ mC w k x.2.2.2.2
theorem rt_row_len {L : Nat} {x : wT} {r : rT} : ∀ j, (rt_row L x j r).1.length = r.1.length + j
  | 0 => rfl
  | j + 1 => by
    show ((rt_row L x j r).1 ++ [_]).length = _
    rw [List.length_append, rt_row_len j]
    rfl
theorem rt_row_v {L : Nat} {x : wT} {r : rT} (hv : vRl r) (hx : vRow x) : ∀ j, r.1.length + j ≤ 400 → vRl (rt_row L x j r)
  | 0, _ => hv
  | j + 1, h => (rt_row_v hv hx j (by omega)).add (Nat.mod_lt _ (by decide)) (ry_gf_lt _) hx.2.2.2.2.1 (by rw [rt_row_len]; omega)
def ry_sum (l : List wT) : Nat := (l.map fun x => x.1).sum
theorem rt_rows_v {L : Nat} : ∀ {l : List wT} {r : rT}, vRl r → (∀ x ∈ l, vRow x) → r.1.length + ry_sum l ≤ 400 → vRl (rt_rows L l r) ∧ (rt_rows L l r).1.length = r.1.length + ry_sum l
  | [], r, hv, _, _ => ⟨hv, rfl⟩
  | x :: l, r, hv, hx, hs => by
    have e : ry_sum (x :: l) = x.1 + ry_sum l := by unfold ry_sum; rw [List.map_cons, List.sum_cons]
    rw [e] at hs ⊢
    have h1 := rt_row_v (L := L) hv (hx x List.mem_cons_self) x.1 (by omega)
    have h2 := rt_row_len (L := L) (x := x) (r := r) x.1
    have h3 := rt_rows_v (L := L) h1 (fun y hy => hx y (List.mem_cons_of_mem _ hy)) (by rw [h2]; omega)
    refine ⟨h3.1, ?_⟩
    show (rt_rows L l (rt_row L x x.1 r)).1.length = _
    rw [h3.2, h2]
    omega
section HMR
variable {d : Nat} {w : hb_W} {Q : Option hb_V → hb_W → Prop}
theorem om_wouldGo {P : List (Nat × Nat × Nat)} {h q t : Nat} (hn : hb_aI w 12 18 0 1 = nI P.length) (hl : P.length ≤ 400) (hP : mP w P) (qq : ∀ w2, mP w2 (P ++ [(h, q, t)]) → hb_aI w2 12 18 0 = upd (hb_aI w 12 18 0) 1 (nI (P.length + 1)) → hm_ag [] [18, 19] w w2 → Q none w2) : hb_O yX12_wouldGo cX12_wouldGo 5 none d [hb_r 12 0 0, hb_i (nI h), hb_i (nI q), hb_i (nI t)] w Q := by
  have e1 : hb_aI w 12 18 0 (1 : Int32).toNatClampNeg = nI P.length := hn
  have e3 : (3 : Int32) * nI P.length = nI (3 * P.length) := pk_mul 3 _
  have e4 : nI (3 * P.length) + (2 : Int32) = nI (3 * P.length + 2) := nI_add _ 2
  refine bk_X12_wouldGo_0 ?_
  rw [e1, e3, e4, nI_1, nI_1, nI_clamp (by omega), nI_clamp (by omega), nI_clamp (by omega)]
  refine ⟨vp_in_nI (by omega) (by decide), vp_in_nI (by omega) (by decide), vp_in_nI (by omega) (by decide), qq _ (hP.app rfl) rfl ?_⟩
  exact (((hm_ag.rf.sI (by decide)).sI (by decide)).sI (by decide)).sI (by decide)
theorem om_drawOf {s n : Nat} (hs : s < 2 ^ 31) (h6 : hb_fL w 12 57 0 = lN s) (hn0 : 0 < n) (hn : n < 1000) (q : Q (some (hb_i (nI (ry_sd s / 64 % n)))) (hb_pL w 12 57 0 (lN (ry_sd s)))) : hb_O yX12_drawOf cX12_drawOf 2 (some .int) d [hb_r 12 0 0, hb_i (nI n)] w Q := by
  have hl := ry_sd_lt s
  refine bk_X12_drawOf_0 ?_
  rw [h6, ry_m hs, nI_l (by omega), show (64 : Int64) = lN 64 from rfl, pk_lDiv (by omega) (by decide) (by decide), pk_lRem (by omega) hn0 (by omega), lN_i]
  refine ⟨fun z => ?_, q⟩
  have : lN n = lN 0 := z
  rw [lN_eq (by omega) (by decide)] at this
  omega
theorem om_goes {L h q t : Nat} {r : rT} (hL : L ≤ 9) (hn : r.1.length < 400) (hs : r.2.2.2.1 < 2 ^ 31) (hb : hb_aI w 12 13 0 2 = nI L) (hR : mRl w r) (qq : ∀ w2, mRl w2 (rt_add L h q t r) → hm_ag [57] [18, 19] w w2 → Q none w2) : hb_O yX12_goes cX12_goes 5 none (d + 1) [hb_r 12 0 0, hb_i (nI h), hb_i (nI q), hb_i (nI t)] w Q := by
  obtain ⟨P, c, f, s, a, nw, oc, oco, ol⟩ := r
  obtain ⟨h1, h3, h4, h6, h7, h8, h9, h10⟩ := hR
  dsimp only at h1 h3 h4 h6 h7 h8 h9 h10 hn hs
  have loop : ∀ (n i : Nat), i + n = L → ∀ w', mP w' (P ++ [(h, q, t)]) → hb_aI w' 12 18 0 1 = nI (P.length + 1) → hb_aI w' 12 18 0 0 = nI c → hb_fL w' 12 57 0 = lN (ry_dr (P.length + 1) (nI h) i s f).1 → (∀ l, l < 9 → hb_aI w' 12 18 0 (2 + l) = (ry_dr (P.length + 1) (nI h) i s f).2 l) → hm_ag [57] [18, 19] w w' → hb_R yX12_goes cX12_goes 5 none (d + 1) 10 [some (hb_r 12 0 0), some (hb_i (nI h)), some (hb_i (nI q)), some (hb_i (nI t)), some (hb_i (nI i))] [] w' Q := by
    intro n
    induction n with
    | zero =>
      intro i hi w' g1 g2 g3 g4 g7 g9
      rw [Nat.add_zero] at hi
      subst hi
      have eb : hb_aI w' 12 13 0 (2 : Int32).toNatClampNeg = nI i := by
        show hb_aI w' 12 13 0 2 = nI i
        rw [g9.A 13]; exact hb
      refine bk_X12_goes_10 ⟨fun _ => qq w' ⟨g1, ?_, g3, g4, ?_, ?_, g7, ?_⟩ g9, fun z => absurd (by rw [eb]; exact nI_le (Nat.le_refl _) (by omega)) z⟩
      · show hb_aI w' 12 18 0 1 = nI (P ++ [(h, q, t)]).length
        rw [g2, List.length_append]
        rfl
      · rw [g9.I 55]; exact h7
      · rw [g9.I 56]; exact h8
      · rw [g9.A 32]; exact h10
    | succ n ih =>
      intro i hi w' g1 g2 g3 g4 g7 g9
      have hlt := ry_dr_lt (n := P.length + 1) (x := nI h) (f := f) hs i
      have eb : hb_aI w' 12 13 0 (2 : Int32).toNatClampNeg = nI L := by
        show hb_aI w' 12 13 0 2 = nI L
        rw [g9.A 13]; exact hb
      have e1 : hb_aI w' 12 18 0 (1 : Int32).toNatClampNeg = nI (P.length + 1) := g2
      refine bk_X12_goes_10 ⟨fun z => absurd z (by rw [eb]; exact nI_ge (by omega) (by omega)), fun _ => ?_⟩
      rw [e1]
      have hsd := ry_sd_lt (ry_dr (P.length + 1) (nI h) i s f).1
      have hmod : ry_sd (ry_dr (P.length + 1) (nI h) i s f).1 / 64 % (P.length + 1) < P.length + 1 := Nat.mod_lt _ (by omega)
      refine om_drawOf hlt g4 (by omega) (by omega) ?_
      refine bk_X12_goes_31 ?_
      have e2 : (2 : Int32) + nI i = nI (2 + i) := nI_add 2 i
      rw [show (0 : Int32) = nI 0 from rfl, nI_eq (by omega) (by decide), nI_1, e2]
      have hdr : ry_dr (P.length + 1) (nI h) (i + 1) s f = (ry_sd (ry_dr (P.length + 1) (nI h) i s f).1, if ry_sd (ry_dr (P.length + 1) (nI h) i s f).1 / 64 % (P.length + 1) = 0 then upd (ry_dr (P.length + 1) (nI h) i s f).2 i (nI h) else (ry_dr (P.length + 1) (nI h) i s f).2) := rfl
      refine ⟨fun z => ?_, fun z => ⟨vp_in_nI (by omega) (by decide), ?_⟩⟩
      · refine ih (i + 1) (by omega) _ g1 g2 g3 ?_ (fun l hl => ?_) (g9.pL (by decide))
        · rw [hdr]; rfl
        · rw [hdr, if_neg z]; exact g7 l hl
      · rw [nI_clamp (by omega)]
        refine ih (i + 1) (by omega) _ g1 ?_ ?_ ?_ (fun l hl => ?_) ((g9.pL (by decide)).sI (by decide))
        · rw [hw_aIs, pk_un (by omega)]; exact g2
        · rw [hw_aIs, pk_un (by omega)]; exact g3
        · rw [hdr]; rfl
        · rw [hdr, if_pos z, hw_aIs]
          show upd (hb_aI w' 12 18 0) (2 + i) (nI h) (2 + l) = upd _ i (nI h) l
          unfold upd
          by_cases e : l = i
          · rw [if_pos (by omega), if_pos e]
          · rw [if_neg (by omega), if_neg e]
            exact g7 l hl
  refine bk_X12_goes_0 ?_
  refine om_wouldGo h3 (by omega) h1 (fun w2 g1 g2 g3 => ?_)
  refine bk_X12_goes_7 ?_
  refine loop L 0 (by omega) w2 g1 ?_ ?_ ?_ (fun l hl => ?_) (g3.wk (fun x hx => by cases hx) (fun x hx => hx))
  · rw [g2, pk_us]
  · rw [g2, pk_un (by decide)]; exact h4
  · rw [g3.FL 57]; exact h6
  · rw [g2, pk_un (by omega)]; exact h9 l hl
theorem om_keeps {r : rT} (hn : r.2.2.2.2.2.1 < 20) (ha : r.2.2.2.2.1 ≤ 20) (hR : mRl w r) (qq : ∀ w2, mRl w2 (rt_rem r) → hm_ag [55, 56] [32] w w2 → Q none w2) : hb_O yX12_keeps cX12_keeps 2 none d [hb_r 12 0 0] w Q := by
  obtain ⟨P, c, f, s, a, nw, oc, oco, ol⟩ := r
  obtain ⟨h1, h3, h4, h6, h7, h8, h9, h10⟩ := hR
  dsimp only at h1 h3 h4 h6 h7 h8 h9 h10 hn ha
  have hm : (nw + 1) % 20 < 20 := Nat.mod_lt _ (by decide)
  have en : ((hb_fI w 12 56 0) + (1 : Int32)) - ((hb_fI w 12 56 0) + (1 : Int32)) / (20 : Int32) * (20 : Int32) = nI ((nw + 1) % 20) := by
    rw [h8, nI_1, show (20 : Int32) = nI 20 from rfl, pk_rem (by omega) (by decide) (by decide)]
  have loop : ∀ (n i : Nat), i + n = 11 → ∀ w', hm_ag [55, 56] [32] w w' → hb_fI w' 12 55 0 = nI a → hb_fI w' 12 56 0 = nI ((nw + 1) % 20) → (∀ k, hb_aI w' 12 32 0 k = if 11 * ((nw + 1) % 20) ≤ k ∧ k < 11 * ((nw + 1) % 20) + i then hb_aI w 12 18 0 (k - 11 * ((nw + 1) % 20)) else hb_aI w 12 32 0 k) → hb_R yX12_keeps cX12_keeps 2 none d 15 [some (hb_r 12 0 0), some (hb_i (nI i))] [] w' Q := by
    intro n
    induction n with
    | zero =>
      intro i hi w' g1 g2 g3 g4
      rw [Nat.add_zero] at hi
      subst hi
      have fin : ∀ w2, mP w2 P → hb_aI w2 12 18 0 = hb_aI w 12 18 0 → hb_aI w2 12 32 0 = hb_aI w' 12 32 0 → hb_fL w2 12 57 0 = hb_fL w 12 57 0 → hb_fI w2 12 56 0 = nI ((nw + 1) % 20) → hb_fI w2 12 55 0 = nI (min (a + 1) 20) → mRl w2 (rt_rem (P, c, f, s, a, nw, oc, oco, ol)) := by
        intro w2 k1 k2 k3 k4 k5 k6
        have hk : ∀ i j, i < 20 → j < 11 → hb_aI w2 12 32 0 (11 * i + j) = if i = (nw + 1) % 20 then hb_aI w 12 18 0 j else hb_aI w 12 32 0 (11 * i + j) := fun i j hi hj => by
          rw [k3, g4]
          by_cases e : i = (nw + 1) % 20
          · rw [if_pos (by omega), if_pos e, show 11 * i + j - 11 * ((nw + 1) % 20) = j by omega]
          · rw [if_neg (by omega), if_neg e]
        refine ⟨k1, by rw [k2]; exact h3, by rw [k2]; exact h4, by rw [k4]; exact h6, k6, k5, fun l hl => by rw [k2]; exact h9 l hl, fun i hi => ⟨?_, ?_, fun l hl => ?_⟩⟩
        · show hb_aI w2 12 32 0 (11 * i + 1) = nI (if i = (nw + 1) % 20 then P.length else oc i)
          rw [hk i 1 hi (by decide)]
          by_cases e : i = (nw + 1) % 20
          · rw [if_pos e, if_pos e]; exact h3
          · rw [if_neg e, if_neg e]; exact (h10 i hi).1
        · show hb_aI w2 12 32 0 (11 * i) = nI (if i = (nw + 1) % 20 then c else oco i)
          have := hk i 0 hi (by decide)
          rw [Nat.add_zero] at this
          rw [this]
          by_cases e : i = (nw + 1) % 20
          · rw [if_pos e, if_pos e]; exact h4
          · rw [if_neg e, if_neg e]; exact (h10 i hi).2.1
        · show hb_aI w2 12 32 0 (11 * i + (2 + l)) = (if i = (nw + 1) % 20 then f else ol i) l
          rw [hk i (2 + l) hi (by omega)]
          by_cases e : i = (nw + 1) % 20
          · rw [if_pos e, if_pos e]; exact h9 l hl
          · rw [if_neg e, if_neg e]; exact (h10 i hi).2.2 l hl
      have hP' : mP w' P := fun k p hk => by rw [g1.A 19]; exact h1 k p hk
      refine bk_X12_keeps_15 ⟨fun _ => ?_, fun z => absurd (nI_le (Nat.le_refl 11) (by decide)) z⟩
      rw [g2, show (20 : Int32) = nI 20 from rfl, nI_leI (by decide) (by omega), nI_1]
      refine ⟨fun z => qq w' (fin w' hP' (g1.A 18) rfl (g1.FL 57) g3 ?_) g1, fun z => qq _ (fin _ hP' (g1.A 18) rfl (g1.FL 57) g3 ?_) (g1.pI (by decide))⟩
      · rw [g2, show min (a + 1) 20 = a by omega]
      · show nI (a + 1) = nI (min (a + 1) 20)
        rw [show min (a + 1) 20 = a + 1 by omega]
    | succ n ih =>
      intro i hi w' g1 g2 g3 g4
      have e11 : (11 : Int32) * nI ((nw + 1) % 20) + nI i = nI (11 * ((nw + 1) % 20) + i) := by rw [show (11 : Int32) = nI 11 from rfl, pk_mul, nI_add]
      refine bk_X12_keeps_15 ⟨fun z => absurd z (nI_ge (b := 11) (by omega) (by decide)), fun _ => ?_⟩
      rw [g3, e11, nI_clamp (by omega), nI_clamp (by omega), nI_1]
      refine ⟨vp_in_nI (by omega) (by decide), vp_in_nI (by omega) (by decide), ?_⟩
      refine ih (i + 1) (by omega) _ (g1.sI (by decide)) g2 g3 (fun k => ?_)
      rw [hw_aIs]
      unfold upd
      by_cases e : k = 11 * ((nw + 1) % 20) + i
      · rw [if_pos e, if_pos (by omega), g1.A 18, show k - 11 * ((nw + 1) % 20) = i by omega]
      · rw [if_neg e, g4]
        by_cases e2 : 11 * ((nw + 1) % 20) ≤ k ∧ k < 11 * ((nw + 1) % 20) + i
        · rw [if_pos e2, if_pos (by omega)]
        · rw [if_neg e2, if_neg (by omega)]
  refine bk_X12_keeps_0 ?_
  rw [en]
  exact loop 11 0 (by decide) _ (hm_ag.rf.pI (by decide)) h7 rfl (fun k => by rw [if_neg (by omega)]; rfl)
/-- a row of hoods goes by, in the class -/
theorem ok_admitRow {L k g : Nat} {x : wT} {r : rT} (hg : g < 2) (h8 : hb_fR w 0 8 0 = g) (hk : k < 20) (hL : L ≤ 9) (hl : hb_fI w 11 1 g = nI L) (hx : vRow x) (hc : cRow w g k x) (hv : vRl r) (hn : r.1.length + x.1 ≤ 400) (hR : cRl w r) (qq : ∀ w2, cRl w2 (rt_row L x x.1 r) → hw_ag (fun t _ => t = 7 ∨ t = 6) w w2 → w2.2.2.1 = w.2.2.1 → Q none w2) : hb_O yX11_admitRow cX11_admitRow 5 none (d + 3) [hb_r 0 0 0, hb_i (nI k)] w Q := by
  obtain ⟨c1, c2, c3, c4, a, c5, c6, c7⟩ := hc
  obtain ⟨x1, x2, x3, x4, x5, x6⟩ := hx
  have vk : vp_in (nI k) 20 := vp_in_nI hk (by decide)
  have n11 : ¬ ((11 : Nat) = 7 ∨ (11 : Nat) = 6) := by decide
  have vg : ∀ w' : hb_W, w'.2.2.1 = w.2.2.1 → hb_fR w' 0 8 0 = g := fun w' z => by unfold hb_fR at h8 ⊢; rw [z]; exact h8
  have loop : ∀ (n j : Nat), j + n = x.1 → ∀ w', cRl w' (rt_row L x j r) → hw_ag (fun t _ => t = 7 ∨ t = 6) w w' → w'.2.2.1 = w.2.2.1 → hb_R yX11_admitRow cX11_admitRow 5 none (d + 2 + 1) 2 [some (hb_r 0 0 0), some (hb_i (nI k)), some (hb_i (nI j)), none, none] [] w' Q := by
    intro n
    induction n with
    | zero =>
      intro j hj w' g1 g2 g3
      rw [Nat.add_zero] at hj
      subst hj
      have e8 := vg w' g3
      refine bk_X11_admitRow_2 ?_
      rw [e8, nI_clamp (by omega), g2.2.2.2.1 11 1 g n11, c1]
      exact ⟨hg, hg, vk, fun _ => qq w' g1 g2 g3, fun z => absurd (nI_le (Nat.le_refl _) (by omega)) z⟩
    | succ n ih =>
      intro j hj w' g1 g2 g3
      have e8 := vg w' g3
      have hh : ry_h x j < 64 := Nat.mod_lt _ (by decide)
      have eh : nI x.2.1 + nI j * nI x.2.2.1 - (nI x.2.1 + nI j * nI x.2.2.1) / (64 : Int32) * (64 : Int32) = nI (ry_h x j) := by
        have hm : j * x.2.2.1 ≤ 99 * 64 := Nat.mul_le_mul (by omega) (by omega)
        rw [pk_mul, nI_add, show (64 : Int32) = nI 64 from rfl, pk_rem (by omega) (by decide) (by decide)]
        rfl
      refine bk_X11_admitRow_2 ?_
      rw [e8, nI_clamp (by omega), g2.2.2.2.1 11 1 g n11, g2.2.2.2.1 11 2 g n11, g2.2.2.2.1 11 3 g n11, g2.2.2.2.1 11 5 g n11, g2.2.2.2.1 11 6 g n11, c1, c2, c3, c5, c6, eh]
      refine ⟨hg, hg, vk, fun z => absurd z (nI_ge (by omega) (by omega)), fun _ => ⟨hg, hg, vk, hg, hg, vk, hg, hg, hg, vk, hg, hg, vk, ?_⟩⟩
      have p6 : (fun t (_ : Nat) => t = 7 ∨ t = 6) 6 0 := Or.inr rfl
      have p7 : ∀ t (g : Nat), t = 7 → (t = 7 ∨ t = 6) := fun t g z => Or.inl z
      refine ok_reckonC (pt := sp_pt (ry_h x j) j 0 0) (P := fun k => k = 0 ∨ k = 1) (by omega) (((c7.ag g2 (by decide)).ag (hw_ag.rf.pI (P := fun t _ => t = 6) rfl) (by decide)).ag (hw_ag.rf.pI (P := fun t _ => t = 6) rfl) (by decide)) x6 (fun k hk hP => ?_) (fun f hv2 => ?_)
      · rcases hP with z | z
        · subst z
          exact ⟨(jI_n (n := ry_h x j) (by omega)).symm, by show jB (ry_h x j : Int); unfold jB; omega⟩
        · subst z
          exact ⟨(jI_n (n := j) (by omega)).symm, by show jB (j : Int); unfold jB; omega⟩
      · have hrow := rt_row_len (L := L) (x := x) (r := r) j
        have hvr := rt_row_v (L := L) hv ⟨x1, x2, x3, x4, x5, x6⟩ j (by omega)
        have hvB1 := hv2.1
        have hvB2 := hv2.2
        have eg : (if (0 : Int32) < (if jI (sp_ev x.2.2.2.2 (sp_pt (ry_h x j) j 0 0) sp_fo0) < (99 : Int32) then jI (sp_ev x.2.2.2.2 (sp_pt (ry_h x j) j 0 0) sp_fo0) else (99 : Int32)) then (if jI (sp_ev x.2.2.2.2 (sp_pt (ry_h x j) j 0 0) sp_fo0) < (99 : Int32) then jI (sp_ev x.2.2.2.2 (sp_pt (ry_h x j) j 0 0) sp_fo0) else (99 : Int32)) else (0 : Int32)) = nI (ry_q x j) := by
          have e99 : (99 : Int32) = jI 99 := by decide
          have e0 : (0 : Int32) = jI 0 := by decide
          have b99 : jB 99 := by unfold jB; omega
          unfold ry_q
          generalize sp_ev x.2.2.2.2 (sp_pt (ry_h x j) j 0 0) sp_fo0 = v at *
          rw [← jI_n (by have := ry_gf_lt v; omega)]
          rw [e99, e0]
          unfold ry_gf
          by_cases z1 : v < 99
          · rw [if_pos ((jI_lt hv2 b99).mpr z1)]
            by_cases z2 : 0 < v
            · rw [if_pos ((jI_lt jB0 hv2).mpr z2), if_neg (by omega), if_neg (by omega), Int.toNat_of_nonneg (by omega)]
            · rw [if_neg (fun y => z2 ((jI_lt jB0 hv2).mp y))]
              by_cases z3 : v < 0
              · rw [if_pos z3]; rfl
              · rw [if_neg z3, if_neg (by omega), Int.toNat_of_nonneg (by omega), show v = 0 by omega]
          · rw [if_neg (fun y => z1 ((jI_lt hv2 b99).mp y)), if_pos ((jI_lt jB0 b99).mpr (by decide)), if_neg (by omega)]
            by_cases z3 : 99 < v
            · rw [if_pos z3]; rfl
            · rw [if_neg z3, Int.toNat_of_nonneg (by omega), show v = 99 by omega]
        refine bk_X11_admitRow_86 ?_
        have e8' : hb_fR (hb_sI (hb_pI (hb_pI w' 6 0 0 (nI (ry_h x j))) 6 1 0 (nI j)) 6 1 0 f) 0 8 0 = g := e8
        rw [e8', nI_clamp (by omega), eg]
        have e4 : hb_aI (hb_sI (hb_pI (hb_pI w' 6 0 0 (nI (ry_h x j))) 6 1 0 (nI j)) 6 1 0 f) 11 4 g k = nI x.2.2.2.1 := by
          show hb_aI w' 11 4 g k = _
          rw [g2.2.2.2.1 11 4 g n11]; exact c4
        have e1 : hb_fI (hb_sI (hb_pI (hb_pI w' 6 0 0 (nI (ry_h x j))) 6 1 0 (nI j)) 6 1 0 f) 11 1 g = nI L := by
          show hb_fI w' 11 1 g = _
          rw [g2.1 11 1 g n11]; exact hl
        have e6 : hb_fI (hb_sI (hb_pI (hb_pI w' 6 0 0 (nI (ry_h x j))) 6 1 0 (nI j)) 6 1 0 f) 6 0 0 = nI (ry_h x j) := rfl
        rw [e4, e1, e6]
        refine ⟨hg, hg, vk, hg, ?_⟩
        refine ok_admit hL (by rw [hrow]; omega) hvr.2.2.2.1 (r := rt_row L x j r) g1 (fun w3 k1 k2 k3 => ?_)
        refine bk_X11_admitRow_131 ?_
        rw [nI_1]
        refine hx_at 3 (hx_at 4 ?_)
        exact ih (j + 1) (by omega) w3 k1 ((((g2.pI p6).pI p6).sI p6).tr (k2.wk (fun t g z => Or.inl z))) (k3.trans g3)
  exact bk_X11_admitRow_0 (loop x.1 0 (by omega) w hR hw_ag.rf rfl)
theorem mC.ag {K J : List Nat} {w w2 : hb_W} {k : Nat} {C : List Nat} (h : mC w k C) (ha : hm_ag K J w w2) (h15 : ¬ 15 ∈ J) (h16 : ¬ 16 ∈ J) (h17 : ¬ 17 ∈ J) : mC w2 k C := by
  obtain ⟨a, h1, h2, h3, h4⟩ := h
  exact ⟨a, by rw [ha.A 15 h15]; exact h1, by rw [ha.A 16 h16]; exact h2, h3, fun i c hi => by rw [ha.A 17 h17]; exact h4 i c hi⟩
/-- and in the model -/
theorem om_rowGoes {L k : Nat} {x : wT} {r : rT} (hk : k < 20) (hL : L ≤ 9) (hb : hb_aI w 12 13 0 2 = nI L) (hx : vRow x) (hc : mRow w k x) (hv : vRl r) (hn : r.1.length + x.1 ≤ 400) (hR : mRl w r) (qq : ∀ w2, mRl w2 (rt_row L x x.1 r) → hm_ag [31, 34, 35, 57, 86] [18, 19, 56] w w2 → Q none w2) : hb_O yX12_rowGoes cX12_rowGoes 7 none (d + 4) [hb_r 12 0 0, hb_i (nI k)] w Q := by
  obtain ⟨c1, c2, c3, c4, c5⟩ := hc
  obtain ⟨x1, x2, x3, x4, x5, x6⟩ := hx
  have e80 : (80 : Int32) + (4 : Int32) * nI k = nI (80 + 4 * k) := by rw [show (4 : Int32) = nI 4 from rfl, pk_mul, show (80 : Int32) = nI 80 from rfl, nI_add]
  have a2 : nI (80 + 4 * k) + (2 : Int32) = nI (80 + 4 * k + 2) := nI_add _ 2
  have a3 : nI (80 + 4 * k) + (3 : Int32) = nI (80 + 4 * k + 3) := nI_add _ 3
  have loop : ∀ (n j : Nat), j + n = x.1 → ∀ w', mRl w' (rt_row L x j r) → hm_ag [31, 34, 35, 57, 86] [18, 19, 56] w w' → hb_R yX12_rowGoes cX12_rowGoes 7 none (d + 3 + 1) 9 [some (hb_r 12 0 0), some (hb_i (nI k)), some (hb_i (nI (80 + 4 * k))), some (hb_i (nI j)), none, none, none] [] w' Q := by
    intro n
    induction n with
    | zero =>
      intro j hj w' g1 g2
      rw [Nat.add_zero] at hj
      subst hj
      refine bk_X12_rowGoes_9 ?_
      rw [nI_clamp (by omega), g2.A 14, c1]
      exact ⟨vp_in_nI (by omega) (by decide), fun _ => qq w' g1 g2, fun z => absurd (nI_le (Nat.le_refl _) (by omega)) z⟩
    | succ n ih =>
      intro j hj w' g1 g2
      have hh : ry_h x j < 64 := Nat.mod_lt _ (by decide)
      have eh : nI x.2.1 + nI j * nI x.2.2.1 - (nI x.2.1 + nI j * nI x.2.2.1) / (64 : Int32) * (64 : Int32) = nI (ry_h x j) := by
        have hm : j * x.2.2.1 ≤ 99 * 64 := Nat.mul_le_mul (by omega) (by omega)
        rw [pk_mul, nI_add, show (64 : Int32) = nI 64 from rfl, pk_rem (by omega) (by decide) (by decide)]
        rfl
      refine bk_X12_rowGoes_9 ?_
      rw [nI_1, a2, nI_clamp (by omega), nI_clamp (by omega), nI_clamp (by omega), g2.A 14, c1, c2, c3, eh]
      refine ⟨vp_in_nI (by omega) (by decide), fun z => absurd z (nI_ge (by omega) (by omega)), fun _ => ⟨vp_in_nI (by omega) (by decide), vp_in_nI (by omega) (by decide), ?_⟩⟩
      refine om_codesTell (k := k) (P := fun k => k = 0 ∨ k = 1) (pt := sp_pt (ry_h x j) j 0 0) (by omega) ((c5.ag g2 (by decide) (by decide) (by decide)).ag ((hm_ag.rf (K := [34, 35]) (J := [])).pI (by decide) |>.pI (by decide)) (by decide) (by decide) (by decide)) x6 (fun i hi hP => ?_) (fun w2 hv2 hag => ?_)
      · rcases hP with z | z
        · subst z
          exact ⟨by decide, (jI_n (n := ry_h x j) (by omega)).symm, by show jB (ry_h x j : Int); unfold jB; omega⟩
        · subst z
          exact ⟨by decide, (jI_n (n := j) (by omega)).symm, by show jB (j : Int); unfold jB; omega⟩
      · have ag2 : hm_ag [31, 34, 35, 57, 86] [18, 19, 56] w w2 := ((g2.pI (by decide)).pI (by decide)).tr (hag.wk (by decide) (by decide))
        have g1' : mRl w2 (rt_row L x j r) := (g1.ag ((hm_ag.rf (K := [34, 35]) (J := [])).pI (by decide) |>.pI (by decide)) (by decide) (by decide) (by decide) (by decide) (by decide) (by decide)).ag hag (by decide) (by decide) (by decide) (by decide) (by decide) (by decide)
        have hrow := rt_row_len (L := L) (x := x) (r := r) j
        have hvr := rt_row_v (L := L) hv ⟨x1, x2, x3, x4, x5, x6⟩ j (by omega)
        have fin : ∀ (v5 : Int64), hb_O yX12_goes cX12_goes 5 none (d + 3) [hb_r 12 0 0, hb_i (nI (ry_h x j)), hb_i (nI (ry_q x j)), hb_i (nI x.2.2.2.1)] w2 (fun rv w1 => hb_R yX12_rowGoes cX12_rowGoes 7 none (d + 3 + 1) 105 [some (hb_r 12 0 0), some (hb_i (nI k)), some (hb_i (nI (80 + 4 * k))), some (hb_i (nI j)), some (hb_i (nI (ry_h x j))), some (hb_l v5), none] (rv.toList ++ []) w1 Q) := by
          intro v5
          refine om_goes hL (by rw [hrow]; omega) hvr.2.2.2.1 (by rw [ag2.A 13]; exact hb) g1' (fun w3 k1 k2 => ?_)
          refine bk_X12_rowGoes_105 ?_
          rw [nI_1]
          refine hx_at 4 (hx_at 5 ?_)
          exact ih (j + 1) (by omega) w3 k1 (ag2.tr (k2.wk (by decide) (by decide)))
        have hvB1 := hv2.1
        have hvB2 := hv2.2
        have hq : ry_q x j = ry_gf (sp_ev x.2.2.2.2 (sp_pt (ry_h x j) j 0 0) sp_fo0) := rfl
        generalize sp_ev x.2.2.2.2 (sp_pt (ry_h x j) j 0 0) sp_fo0 = v at *
        have v3 : vp_in (nI (80 + 4 * k + 3)) 160 := vp_in_nI (by omega) (by decide)
        refine bk_X12_rowGoes_61 ?_
        rw [a3, nI_clamp (by omega), ag2.A 14, c4, lg_cmp_ge, lg_cmp_le, show (0 : Int64) = jL 0 by decide, show (99 : Int64) = jL 99 by decide, jL_le (by omega) (by omega), jL_le (by omega) (by omega)]
        refine ⟨fun z => ⟨fun z2 => ⟨v3, ?_⟩, fun z2 => ⟨v3, ?_⟩⟩, fun z => ⟨v3, ?_⟩⟩
        · have e : (jL v).toInt32 = nI (ry_q x j) := by
            rw [jL_I (by omega), hq, ← jI_n (by have := ry_gf_lt v; omega)]
            unfold ry_gf
            rw [if_neg (by omega), if_neg (by omega), Int.toNat_of_nonneg z]
          rw [e]
          exact fin _
        · have e : (99 : Int32) = nI (ry_q x j) := by
            rw [hq]
            unfold ry_gf
            rw [if_neg (by omega), if_pos (by omega)]
            rfl
          have := fin (jL v)
          rw [← e] at this
          exact this
        · have e : (0 : Int32) = nI (ry_q x j) := by
            rw [hq]
            unfold ry_gf
            rw [if_pos (by omega)]
            rfl
          have := fin (jL v)
          rw [← e] at this
          exact this
  refine bk_X12_rowGoes_0 ?_
  rw [e80]
  exact loop x.1 0 (by omega) w hR hm_ag.rf
end HMR
