/-! ===== the model's book: laid anew from the passes ===== -/
def sp_bk (b : Nat) (P : List (Nat × Nat × Nat)) : List (Nat × Nat) := (P.filter (fun p => b == 2 || p.2.2 == b)).map (fun p => (p.1, p.2.1))
def sp_okP (P : List (Nat × Nat × Nat)) : Prop := ∀ p ∈ P, p.1 < 64 ∧ p.2.1 < 100 ∧ p.2.2 < 2
/-- the model's row of passes holds P -/
def mP (w : hb_W) (P : List (Nat × Nat × Nat)) : Prop := ∀ k p, P[k]? = some p → hb_aI w 12 19 0 (3 * k) = nI p.1 ∧ hb_aI w 12 19 0 (3 * k + 1) = nI p.2.1 ∧ hb_aI w 12 19 0 (3 * k + 2) = nI p.2.2
theorem sp_bk_len (b : Nat) (P : List (Nat × Nat × Nat)) : (sp_bk b P).length ≤ P.length := by
  unfold sp_bk
  rw [List.length_map]
  exact List.length_filter_le _ _
theorem sp_bk_app (b : Nat) (P : List (Nat × Nat × Nat)) (p : Nat × Nat × Nat) : sp_bk b (P ++ [p]) = if b = 2 ∨ p.2.2 = b then sp_bk b P ++ [(p.1, p.2.1)] else sp_bk b P := by
  unfold sp_bk
  rw [List.filter_append, List.map_append]
  by_cases h : b = 2 ∨ p.2.2 = b
  · rw [if_pos h]
    have : (b == 2 || p.2.2 == b) = true := by
      rcases h with h | h
      · simp [h]
      · simp [h]
    simp [this]
  · rw [if_neg h]
    have : (b == 2 || p.2.2 == b) = false := by
      have h1 : ¬ b = 2 := fun z => h (Or.inl z)
      have h2 : ¬ p.2.2 = b := fun z => h (Or.inr z)
      simp [h1, h2]
    simp [this]
theorem sp_bk_ok {b : Nat} {P : List (Nat × Nat × Nat)} (h : sp_okP P) : ∀ p ∈ sp_bk b P, p.1 < 64 ∧ p.2 < 100 := by
  intro p hp
  obtain ⟨x, x1, x2⟩ := List.mem_map.mp hp
  have := h x (List.mem_filter.mp x1).1
  rw [← x2]
  exact ⟨this.1, this.2.1⟩
theorem hx_upd {f : Nat → Int32} {i : Nat} {x : Int32} (h : ∀ k, k < i → f k = x) : ∀ k, k < i + 1 → upd f i x k = x := by
  intro k hk
  unfold upd
  by_cases e : k = i
  · rw [if_pos e]
  · rw [if_neg e]; exact h k (by omega)
theorem mB_nil {w : hb_W} {L R : Nat} (hL0 : 1 ≤ L) (hL : L ≤ 9) (hR0 : 1 ≤ R) (hR : R ≤ 3) (hl : hb_fI w 12 39 0 = nI L) (h40 : hb_fI w 12 40 0 = 0) (h44 : hb_fI w 12 44 0 = 0) (h45 : hb_fI w 12 45 0 = -1) (hr : hb_aI w 12 13 0 3 = nI R) (z21 : ∀ k, k < 64 → hb_aI w 12 21 0 k = 0) (z25 : ∀ k, k < 9 → hb_aI w 12 25 0 k = 0) (z28 : ∀ k, k < 9 → hb_aI w 12 28 0 k = 0) (z29 : ∀ k, k < 9 → hb_aI w 12 29 0 k = -1) (z26 : ∀ k, k < 27 → hb_aI w 12 26 0 k = 0) (z27 : ∀ k, k < 72 → hb_aI w 12 27 0 k = 0) (z30 : ∀ k, k < 100 → hb_aI w 12 30 0 k = 0) (mk : Nat → Nat → Nat) : mB w L R mk [] := by
  have hT0 : ∀ h, sp_T [] h = 0 := fun h => rfl
  refine ⟨⟨hL0, hL, hR0, hR, by decide, fun p hp => by cases hp⟩, hl, hr, ⟨h40, fun h hh => z21 h hh, fun h hh => z30 h hh, fun k hk => z28 k (by omega), ?_⟩, ?_, ?_, ?_, ?_, ?_⟩
  · intro k hk
    show hb_aI w 12 25 0 k = nI 0 ∧ 0 < 1000000 ∧ (0 < 0 → _)
    exact ⟨z25 k (by omega), by decide, fun z => absurd z (Nat.lt_irrefl 0)⟩
  · rw [h44]
    refine ⟨[], rfl, fun k hk => absurd hk (Nat.not_lt_zero k), sp_least_congr (sp_least_nil L) fun m => ?_, fun m hm => by cases hm⟩
    constructor
    · intro z; exact False.elim z
    · rintro ⟨h, _, z, _⟩
      rw [hT0] at z
      exact absurd z (Nat.lt_irrefl 0)
  · rw [h45]
    refine Or.inl ⟨rfl, ?_⟩
    rintro m ⟨h, _, z, _⟩
    rw [hT0] at z
    exact absurd z (Nat.lt_irrefl 0)
  · intro r k hr1 hk
    have : sp_cr L mk (sp_T []) r k = 0 := by
      unfold sp_cr
      rw [sp_sum_congr (g := fun _ => 0) (fun x _ => by rw [hT0]; split <;> rfl), sp_sum_zero]
    rw [this]
    exact z26 _ (by omega)
  · intro k hk
    refine Or.inr ⟨?_, z27 k (by omega)⟩
    rintro ⟨h, _, z, _⟩
    rw [hT0] at z
    exact absurd z (Nat.lt_irrefl 0)
  · intro l hl2
    refine ⟨1000, Or.inl ⟨rfl, fun h _ z => ?_⟩, Nat.le_refl _, by rw [if_pos rfl]; exact z29 l (by omega)⟩
    exact absurd (show 0 < 0 from z) (Nat.lt_irrefl 0)
section HMC
variable {d : Nat} {w : hb_W} {Q : Option hb_V → hb_W → Prop}
theorem om_isOf {b k : Nat} {P : List (Nat × Nat × Nat)} {p : Nat × Nat × Nat} (hb : b < 3) (hk : P[k]? = some p) (hlen : P.length ≤ 401) (ho : sp_okP P) (hP : mP w P) (q1 : (b = 2 ∨ p.2.2 = b) → Q (some (hb_i 1)) w) (q0 : ¬ (b = 2 ∨ p.2.2 = b) → Q (some (hb_i 0)) w) : hb_O yX12_isOf cX12_isOf 3 (some .boolean) d [hb_r 12 0 0, hb_i (nI k), hb_i (nI b)] w Q := by
  have hkl : k < P.length := (List.getElem?_eq_some_iff.mp hk).1
  have hpp := ho p (List.mem_of_getElem? hk)
  have e1 : (3 : Int32) * nI k + 2 = nI (3 * k + 2) := by rw [show (3 : Int32) = nI 3 from rfl, show (2 : Int32) = nI 2 from rfl, pk_mul, nI_add]
  refine bk_X12_isOf_0 ⟨fun c => q1 (Or.inl ((nI_eq (by omega) (b := 2) (by decide)).mp c)), fun c => ?_⟩
  have hb2 : ¬ b = 2 := fun z => c (by rw [z]; rfl)
  rw [e1, nI_clamp (by omega), (hP k p hk).2.2]
  refine ⟨vp_in_nI (by omega) (by decide), fun c2 => ?_, fun c2 => ?_⟩
  · rw [nI_eq (by omega) (by omega)] at c2
    exact q0 (fun z => by rcases z with z | z; exact hb2 z; exact c2 z)
  · rw [nI_eq (by omega) (by omega)] at c2
    exact q1 (Or.inr c2)
theorem om_hoodOf {k : Nat} {P : List (Nat × Nat × Nat)} {p : Nat × Nat × Nat} (hk : P[k]? = some p) (hlen : P.length ≤ 401) (hP : mP w P) (q : Q (some (hb_i (nI p.1))) w) : hb_O yX12_hoodOf cX12_hoodOf 2 (some .int) d [hb_r 12 0 0, hb_i (nI k)] w Q := by
  have hkl : k < P.length := (List.getElem?_eq_some_iff.mp hk).1
  refine bk_X12_hoodOf_0 ?_
  rw [show (3 : Int32) * nI k = nI (3 * k) from pk_mul 3 k, nI_clamp (by omega), (hP k p hk).1]
  exact ⟨vp_in_nI (by omega) (by decide), q⟩
set_option maxHeartbeats 2000000 in
theorem om_laysBook {b L R : Nat} {mk : Nat → Nat → Nat} {P : List (Nat × Nat × Nat)} (hb : b < 3) (hL0 : 1 ≤ L) (hL : L ≤ 9) (hR0 : 1 ≤ R) (hR : R ≤ 3) (hr : hb_aI w 12 13 0 3 = nI R) (hmk : hm_mk w mk) (hn : hb_aI w 12 18 0 1 = nI P.length) (hlen : P.length ≤ 401) (ho : sp_okP P) (hP : mP w P)
    (qq : ∀ w2, mB w2 L R mk (sp_bk b P) → hm_ag [39, 40, 44, 45] [21, 23, 24, 25, 26, 27, 28, 29, 30] w w2 → Q none w2) : hb_O yX12_laysBook cX12_laysBook 4 none (d + 2) [hb_r 12 0 0, hb_i (nI b), hb_i (nI L)] w Q := by
  -- the passes, one after the other
  have k6 : ∀ (n i : Nat), i + n = P.length → ∀ w', hm_ag [39, 40, 44, 45] [21, 23, 24, 25, 26, 27, 28, 29, 30] w w' → mB w' L R mk (sp_bk b (P.take i)) → hb_R yX12_laysBook cX12_laysBook 4 none (d + 1 + 1) 141 [some (hb_r 12 0 0), some (hb_i (nI b)), some (hb_i (nI L)), some (hb_i (nI i))] [] w' Q := by
    intro n
    induction n with
    | zero =>
      intro i hi w' ha hB
      rw [Nat.add_zero] at hi
      subst hi
      rw [List.take_length] at hB
      refine bk_X12_laysBook_141 ⟨fun _ => qq w' hB ha, fun c => absurd (show hb_aI w' 12 18 0 1 ≤ nI P.length by rw [ha.A 18, hn]; exact nI_le (Nat.le_refl _) (by omega)) c⟩
    | succ n ih =>
      intro i hi w' ha hB
      have hil : i < P.length := by omega
      have hpi : P[i]? = some P[i] := List.getElem?_eq_getElem hil
      have hP' : mP w' P := fun k p hk => by rw [ha.A 19]; exact hP k p hk
      have hpp := ho P[i] (List.getElem_mem hil)
      have htk : P.take (i + 1) = P.take i ++ [P[i]] := by rw [List.take_add_one, hpi]; rfl
      have hbl := sp_bk_len b (P.take i)
      rw [List.length_take] at hbl
      refine bk_X12_laysBook_141 ⟨fun c => absurd (show nI P.length ≤ nI i by rw [← hn, ← ha.A 18]; exact c) (nI_ge (by omega) (by omega)), fun _ => ?_⟩
      refine om_isOf hb hpi hlen ho hP' (fun z => ?_) (fun z => ?_)
      · refine bk_X12_laysBook_157 ⟨fun c => absurd c (by decide), fun _ => ?_⟩
        refine om_hoodOf hpi hlen hP' ?_
        refine bk_X12_laysBook_166 ?_
        rw [show (3 : Int32) * nI i + 1 = nI (3 * i + 1) by rw [show (3 : Int32) = nI 3 from rfl, pk_mul, nI_1], nI_clamp (by omega), (hP' i _ hpi).2.1]
        refine ⟨vp_in_nI (by omega) (by decide), ?_⟩
        refine om_bookTakes hpp.1 hpp.2.1 (by omega) (fun h l h1 h2 => by rw [ha.A 20]; exact hmk h l h1 h2) hB (fun w2 hB2 ha2 => ?_)
        refine bk_X12_laysBook_179 ?_
        rw [nI_1]
        refine ih (i + 1) (by omega) w2 (ha.tr (ha2.wk (by decide) (fun x hx => hx))) ?_
        rw [htk, sp_bk_app, if_pos z]
        exact hB2
      · refine bk_X12_laysBook_157 ⟨fun _ => ?_, fun c => absurd rfl c⟩
        refine bk_X12_laysBook_179 ?_
        rw [nI_1]
        refine ih (i + 1) (by omega) w' ha ?_
        rw [htk, sp_bk_app, if_neg z]
        exact hB
  -- the rows made empty
  have k5 : ∀ (n i : Nat), i + n = 100 → ∀ w', hm_ag [39, 40, 44, 45] [21, 23, 24, 25, 26, 27, 28, 29, 30] w w' → hb_fI w' 12 39 0 = nI L → hb_fI w' 12 40 0 = 0 → hb_fI w' 12 44 0 = 0 → hb_fI w' 12 45 0 = -1 → (∀ k, k < 64 → hb_aI w' 12 21 0 k = 0) → (∀ k, k < 9 → hb_aI w' 12 25 0 k = 0) → (∀ k, k < 9 → hb_aI w' 12 28 0 k = 0) → (∀ k, k < 9 → hb_aI w' 12 29 0 k = -1) → (∀ k, k < 27 → hb_aI w' 12 26 0 k = 0) → (∀ k, k < 72 → hb_aI w' 12 27 0 k = 0) → (∀ k, k < i → hb_aI w' 12 30 0 k = 0) → hb_R yX12_laysBook cX12_laysBook 4 none (d + 1 + 1) 120 [some (hb_r 12 0 0), some (hb_i (nI b)), some (hb_i (nI L)), some (hb_i (nI i))] [] w' Q := by
    intro n
    induction n with
    | zero =>
      intro i hi w' ha l0 l1 l2 l3 z1 z2 z3 z4 z5 z6 z7
      rw [Nat.add_zero] at hi
      subst hi
      refine bk_X12_laysBook_120 ⟨fun _ => k6 P.length 0 (by omega) w' ha ?_, fun c => absurd (nI_lt (a := 99) (by decide) (by decide)) c⟩
      exact mB_nil hL0 hL hR0 hR l0 l1 l2 l3 (by rw [ha.A 13]; exact hr) z1 z2 z3 z4 z5 z6 z7 mk
    | succ n ih =>
      intro i hi w' ha l0 l1 l2 l3 z1 z2 z3 z4 z5 z6 z7
      refine bk_X12_laysBook_120 ⟨fun c => absurd c (nI_nlt (b := i) (a := 99) (by omega) (by decide)), fun _ => ⟨vp_in_nI (by omega) (by decide), ?_⟩⟩
      rw [nI_1, nI_clamp (by omega)]
      exact ih (i + 1) (by omega) _ (ha.sI (by decide)) l0 l1 l2 l3 z1 z2 z3 z4 z5 z6 (hx_upd z7)
  have k4 : ∀ (n i : Nat), i + n = 72 → ∀ w', hm_ag [39, 40, 44, 45] [21, 23, 24, 25, 26, 27, 28, 29, 30] w w' → hb_fI w' 12 39 0 = nI L → hb_fI w' 12 40 0 = 0 → hb_fI w' 12 44 0 = 0 → hb_fI w' 12 45 0 = -1 → (∀ k, k < 64 → hb_aI w' 12 21 0 k = 0) → (∀ k, k < 9 → hb_aI w' 12 25 0 k = 0) → (∀ k, k < 9 → hb_aI w' 12 28 0 k = 0) → (∀ k, k < 9 → hb_aI w' 12 29 0 k = -1) → (∀ k, k < 27 → hb_aI w' 12 26 0 k = 0) → (∀ k, k < i → hb_aI w' 12 27 0 k = 0) → hb_R yX12_laysBook cX12_laysBook 4 none (d + 1 + 1) 99 [some (hb_r 12 0 0), some (hb_i (nI b)), some (hb_i (nI L)), some (hb_i (nI i))] [] w' Q := by
    intro n
    induction n with
    | zero =>
      intro i hi w' ha l0 l1 l2 l3 z1 z2 z3 z4 z5 z6
      rw [Nat.add_zero] at hi
      subst hi
      exact bk_X12_laysBook_99 ⟨fun _ => k5 100 0 (by omega) w' ha l0 l1 l2 l3 z1 z2 z3 z4 z5 z6 (fun k hk => absurd hk (Nat.not_lt_zero k)), fun c => absurd (nI_le (Nat.le_refl 72) (by decide)) c⟩
    | succ n ih =>
      intro i hi w' ha l0 l1 l2 l3 z1 z2 z3 z4 z5 z6
      refine bk_X12_laysBook_99 ⟨fun c => absurd c (nI_ge (b := 72) (by omega) (by decide)), fun _ => ⟨vp_in_nI (by omega) (by decide), ?_⟩⟩
      rw [nI_1, nI_clamp (by omega)]
      exact ih (i + 1) (by omega) _ (ha.sI (by decide)) l0 l1 l2 l3 z1 z2 z3 z4 z5 (hx_upd z6)
  have k3 : ∀ (n i : Nat), i + n = 27 → ∀ w', hm_ag [39, 40, 44, 45] [21, 23, 24, 25, 26, 27, 28, 29, 30] w w' → hb_fI w' 12 39 0 = nI L → hb_fI w' 12 40 0 = 0 → hb_fI w' 12 44 0 = 0 → hb_fI w' 12 45 0 = -1 → (∀ k, k < 64 → hb_aI w' 12 21 0 k = 0) → (∀ k, k < 9 → hb_aI w' 12 25 0 k = 0) → (∀ k, k < 9 → hb_aI w' 12 28 0 k = 0) → (∀ k, k < 9 → hb_aI w' 12 29 0 k = -1) → (∀ k, k < i → hb_aI w' 12 26 0 k = 0) → hb_R yX12_laysBook cX12_laysBook 4 none (d + 1 + 1) 78 [some (hb_r 12 0 0), some (hb_i (nI b)), some (hb_i (nI L)), some (hb_i (nI i))] [] w' Q := by
    intro n
    induction n with
    | zero =>
      intro i hi w' ha l0 l1 l2 l3 z1 z2 z3 z4 z5
      rw [Nat.add_zero] at hi
      subst hi
      exact bk_X12_laysBook_78 ⟨fun _ => k4 72 0 (by omega) w' ha l0 l1 l2 l3 z1 z2 z3 z4 z5 (fun k hk => absurd hk (Nat.not_lt_zero k)), fun c => absurd (nI_le (Nat.le_refl 27) (by decide)) c⟩
    | succ n ih =>
      intro i hi w' ha l0 l1 l2 l3 z1 z2 z3 z4 z5
      refine bk_X12_laysBook_78 ⟨fun c => absurd c (nI_ge (b := 27) (by omega) (by decide)), fun _ => ⟨vp_in_nI (by omega) (by decide), ?_⟩⟩
      rw [nI_1, nI_clamp (by omega)]
      exact ih (i + 1) (by omega) _ (ha.sI (by decide)) l0 l1 l2 l3 z1 z2 z3 z4 (hx_upd z5)
  have k2 : ∀ (n i : Nat), i + n = 9 → ∀ w', hm_ag [39, 40, 44, 45] [21, 23, 24, 25, 26, 27, 28, 29, 30] w w' → hb_fI w' 12 39 0 = nI L → hb_fI w' 12 40 0 = 0 → hb_fI w' 12 44 0 = 0 → hb_fI w' 12 45 0 = -1 → (∀ k, k < 64 → hb_aI w' 12 21 0 k = 0) → (∀ k, k < i → hb_aI w' 12 25 0 k = 0) → (∀ k, k < i → hb_aI w' 12 28 0 k = 0) → (∀ k, k < i → hb_aI w' 12 29 0 k = -1) → hb_R yX12_laysBook cX12_laysBook 4 none (d + 1 + 1) 43 [some (hb_r 12 0 0), some (hb_i (nI b)), some (hb_i (nI L)), some (hb_i (nI i))] [] w' Q := by
    intro n
    induction n with
    | zero =>
      intro i hi w' ha l0 l1 l2 l3 z1 z2 z3 z4
      rw [Nat.add_zero] at hi
      subst hi
      exact bk_X12_laysBook_43 ⟨fun _ => k3 27 0 (by omega) w' ha l0 l1 l2 l3 z1 z2 z3 z4 (fun k hk => absurd hk (Nat.not_lt_zero k)), fun c => absurd (nI_le (Nat.le_refl 9) (by decide)) c⟩
    | succ n ih =>
      intro i hi w' ha l0 l1 l2 l3 z1 z2 z3 z4
      refine bk_X12_laysBook_43 ⟨fun c => absurd c (nI_ge (b := 9) (by omega) (by decide)), fun _ => ⟨vp_in_nI (by omega) (by decide), vp_in_nI (by omega) (by decide), vp_in_nI (by omega) (by decide), ?_⟩⟩
      rw [nI_1, nI_clamp (by omega)]
      exact ih (i + 1) (by omega) _ (((ha.sI (by decide)).sI (by decide)).sI (by decide)) l0 l1 l2 l3 z1 (hx_upd z2) (hx_upd z3) (hx_upd z4)
  have k1 : ∀ (n i : Nat), i + n = 64 → ∀ w', hm_ag [39, 40, 44, 45] [21, 23, 24, 25, 26, 27, 28, 29, 30] w w' → hb_fI w' 12 39 0 = nI L → hb_fI w' 12 40 0 = 0 → hb_fI w' 12 44 0 = 0 → hb_fI w' 12 45 0 = -1 → (∀ k, k < i → hb_aI w' 12 21 0 k = 0) → hb_R yX12_laysBook cX12_laysBook 4 none (d + 1 + 1) 22 [some (hb_r 12 0 0), some (hb_i (nI b)), some (hb_i (nI L)), some (hb_i (nI i))] [] w' Q := by
    intro n
    induction n with
    | zero =>
      intro i hi w' ha l0 l1 l2 l3 z1
      rw [Nat.add_zero] at hi
      subst hi
      exact bk_X12_laysBook_22 ⟨fun _ => k2 9 0 (by omega) w' ha l0 l1 l2 l3 z1 (fun k hk => absurd hk (Nat.not_lt_zero k)) (fun k hk => absurd hk (Nat.not_lt_zero k)) (fun k hk => absurd hk (Nat.not_lt_zero k)), fun c => absurd (nI_le (Nat.le_refl 64) (by decide)) c⟩
    | succ n ih =>
      intro i hi w' ha l0 l1 l2 l3 z1
      refine bk_X12_laysBook_22 ⟨fun c => absurd c (nI_ge (b := 64) (by omega) (by decide)), fun _ => ⟨vp_in_nI (by omega) (by decide), ?_⟩⟩
      rw [nI_1, nI_clamp (by omega)]
      exact ih (i + 1) (by omega) _ (ha.sI (by decide)) l0 l1 l2 l3 (hx_upd z1)
  exact bk_X12_laysBook_0 (k1 64 0 (by omega) _ ((((hm_ag.rf.pI (by decide)).pI (by decide)).pI (by decide)).pI (by decide)) rfl rfl rfl rfl (fun k hk => absurd hk (Nat.not_lt_zero k)))
end HMC
