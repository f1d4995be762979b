/-! ===== an image that comes by the tape ===== -/
def cTx (w : hb_W) (T : Nat → Nat) (n : Nat) : Prop := hb_fI w 1 1 0 = nI n ∧ n ≤ 1600 ∧ ∀ k, k < n → hb_aI w 1 1 0 k &&& 255 = nI (T k) ∧ T k < 256
def mTx (w : hb_W) (T : Nat → Nat) (n : Nat) : Prop := n ≤ 1600 ∧ ∀ k, k < n → hb_aI w 12 1 0 k = nI (T k) ∧ T k < 256
theorem cTx.ag {Pp : Nat → Nat → Prop} {w w2 : hb_W} {T : Nat → Nat} {n : Nat} (h : cTx w T n) (ha : hw_ag Pp w w2) (hn : ¬ Pp 1 0) : cTx w2 T n := by
  unfold cTx at h ⊢
  rw [ha.1 1 1 0 hn, ha.2.2.2.1 1 1 0 hn]; exact h
theorem mTx.ag {K J : List Nat} {w w2 : hb_W} {T : Nat → Nat} {n : Nat} (h : mTx w T n) (ha : hm_ag K J w w2) (hJ : ¬ 1 ∈ J) : mTx w2 T n := by
  unfold mTx at h ⊢
  rw [ha.A 1 hJ]; exact h
def on_m (T : Nat → Nat) : Nat := T 1 * 256 + T 2
def on_ck (T : Nat → Nat) : Nat → Int32
  | 0 => 211
  | k + 1 => im_ck (on_ck T k) (nI (T k))
def on_p (T : Nat → Nat) (k : Nat) : Prop := T (3 + 3 * k) < 64 ∧ T (3 + 3 * k + 1) < 100 ∧ T (3 + 3 * k + 2) < 2
def on_l (T : Nat → Nat) (m l : Nat) : Prop := if m = 0 then T (3 + 3 * m + l) = 255 else ∃ k, k < m ∧ T (3 + 3 * k) = T (3 + 3 * m + l)
def on_ok (T : Nat → Nat) (n L : Nat) : Prop := 4 ≤ n ∧ T 0 < 100 ∧ on_m T ≤ 400 ∧ n = 4 + 3 * on_m T + L ∧ on_ck T (n - 1) = nI (T (n - 1)) ∧ (∀ k, k < on_m T → on_p T k) ∧ ∀ l, l < L → on_l T (on_m T) l
def on_P (T : Nat → Nat) : List (Nat × Nat × Nat) := (List.range (on_m T)).map fun k => (T (3 + 3 * k), T (3 + 3 * k + 1), T (3 + 3 * k + 2))
def on_f (T : Nat → Nat) (L l : Nat) : Int32 := if l < L then (if on_m T = 0 then -1 else nI (T (3 + 3 * on_m T + l))) else -1
theorem on_P_len (T : Nat → Nat) : (on_P T).length = on_m T := by unfold on_P; rw [List.length_map, List.length_range]
theorem on_P_get {T : Nat → Nat} {k : Nat} {p : Nat × Nat × Nat} (h : (on_P T)[k]? = some p) : k < on_m T ∧ p = (T (3 + 3 * k), T (3 + 3 * k + 1), T (3 + 3 * k + 2)) := by
  have hk : k < on_m T := by
    have := (List.getElem?_eq_some_iff.mp h).1
    rw [on_P_len] at this
    exact this
  unfold on_P at h
  rw [List.getElem?_map, List.getElem?_range hk] at h
  exact ⟨hk, (Option.some.inj h).symm⟩
theorem on_v {T : Nat → Nat} {n L : Nat} {r : rT} (h : on_ok T n L) (hv : vRl r) : vRl (rt_new (on_P T) (T 0) (on_f T L) r) := by
  obtain ⟨h1, h2, h3, h4, h5, h6, h7⟩ := h
  refine hv.new (by rw [on_P_len]; exact h3) (fun p hp => ?_) ⟨h2, fun l hl => ?_, fun z l hl => ?_⟩
  · obtain ⟨k, hk, e⟩ := List.getElem_of_mem hp
    have := on_P_get (T := T) (k := k) (p := p) (by rw [← e]; exact List.getElem?_eq_getElem hk)
    have h8 := h6 k this.1
    rw [this.2]
    exact h8
  · unfold on_f
    split
    · rename_i z
      split
      · exact Or.inl rfl
      · rename_i y
        have := h7 l z
        unfold on_l at this
        rw [if_neg y] at this
        obtain ⟨k, k1, k2⟩ := this
        refine Or.inr ⟨_, ?_, rfl⟩
        rw [← k2]
        exact (h6 k k1).1
    · exact Or.inl rfl
  · rw [on_P_len] at z
    unfold on_f
    rw [if_pos z]
    split <;> rfl
theorem on_fold (T : Nat → Nat) : ∀ n, ((List.range n).map fun k => nI (T k)).foldl im_ck 211 = on_ck T n
  | 0 => rfl
  | n + 1 => by
    rw [List.range_succ, List.map_append, List.map_singleton, im_fold_app, on_fold T n]
    rfl
section HON
variable {d : Nat} {w : hb_W} {Q : Option hb_V → hb_W → Prop}
theorem ok_atT {T : Nat → Nat} {n k : Nat} (h : cTx w T n) (hk : k < n) (q : T k < 256 → Q (some (hb_i (nI (T k)))) w) : hb_O yX10_at cX10_at 2 (some .int) d [hb_r 1 0 0, hb_i (nI k)] w Q := by
  obtain ⟨h1, h2, h3⟩ := h
  refine ok_at h1 h2 ?_ (by omega)
  rw [if_pos hk, (h3 k hk).1]
  exact q (h3 k hk).2
theorem ok_passesTold {T : Nat → Nat} {n : Nat} (h : cTx w T n) (hn : 4 ≤ n) (hm : on_m T ≤ 400) (q : Q (some (hb_i (nI (on_m T)))) w) : hb_O yX3_passesTold cX3_passesTold 1 (some .int) (d + 1) [hb_r 1 0 0] w Q := by
  have h2 := h.2.1
  refine bk_X3_passesTold_0 ⟨fun _ => ?_, fun z => absurd (by rw [h.1]; exact nI_le (a := 4) hn (by omega)) z⟩
  refine ok_atT (k := 1) h (by omega) (fun b1 => bk_X3_passesTold_20 ?_)
  refine ok_atT (k := 2) h (by omega) (fun b2 => bk_X3_passesTold_29 ?_)
  rw [show nI (T 1) * (256 : Int32) = nI (T 1 * 256) from pk_mul _ 256, nI_add]
  have : (if nI (T 1 * 256 + T 2) < (400 : Int32) then nI (T 1 * 256 + T 2) else (400 : Int32)) = nI (on_m T) := by
    unfold on_m at hm ⊢
    by_cases z : T 1 * 256 + T 2 < 400
    · exact if_pos (show nI (T 1 * 256 + T 2) < nI 400 from nI_lt z (by decide))
    · rw [show T 1 * 256 + T 2 = 400 by omega]
      rfl
  rw [this]
  exact q
theorem ok_goodPasses {T : Nat → Nat} {n m : Nat} (h : cTx w T n) (hm : m ≤ 400) (hn : 3 + 3 * m ≤ n) (q1 : (∀ k, k < m → on_p T k) → Q (some (hb_i 1)) w) (q0 : ¬ (∀ k, k < m → on_p T k) → Q (some (hb_i 0)) w) : hb_O yX3_hasGoodPasses cX3_hasGoodPasses 4 (some .boolean) (d + 1) [hb_r 1 0 0, hb_i (nI m)] w Q := by
  have h2 := h.2.1
  have loop : ∀ (j k : Nat), k + j = m → (∀ i, i < k → on_p T i) → hb_R yX3_hasGoodPasses cX3_hasGoodPasses 4 (some .boolean) (d + 1) 2 [some (hb_r 1 0 0), some (hb_i (nI m)), some (hb_i (nI k)), none] [] w Q := by
    intro j
    induction j with
    | zero =>
      intro k hk hp
      rw [Nat.add_zero] at hk
      subst hk
      exact bk_X3_hasGoodPasses_2 ⟨fun _ => q1 hp, fun z => absurd (nI_le (Nat.le_refl _) (by omega)) z⟩
    | succ j ih =>
      intro k hk hp
      have e3 : (3 : Int32) + (3 : Int32) * nI k = nI (3 + 3 * k) := by rw [show (3 : Int32) = nI 3 from rfl, pk_mul, nI_add]
      have e5 : nI (3 + 3 * k) + (2 : Int32) = nI (3 + 3 * k + 2) := nI_add _ 2
      refine bk_X3_hasGoodPasses_2 ⟨fun z => absurd z (nI_ge (by omega) (by omega)), fun _ => ?_⟩
      rw [e3]
      refine ok_atT h (by omega) (fun b0 => bk_X3_hasGoodPasses_18 ?_)
      rw [show (64 : Int32) = nI 64 from rfl, nI_leI (by decide) (by omega), nI_1]
      refine ⟨fun z => q0 (fun y => by have := (y k (by omega)).1; omega), fun z => ?_⟩
      refine ok_atT h (by omega) (fun b1 => bk_X3_hasGoodPasses_30 ?_)
      rw [show (100 : Int32) = nI 100 from rfl, nI_leI (by decide) (by omega), e5]
      refine ⟨fun z2 => q0 (fun y => by have := (y k (by omega)).2.1; omega), fun z2 => ?_⟩
      refine ok_atT h (by omega) (fun b2 => bk_X3_hasGoodPasses_42 ?_)
      rw [show (2 : Int32) = nI 2 from rfl, nI_ltI (by omega) (by decide), nI_1]
      refine ⟨fun z3 => hx_last (l := [_, _, _]) (ih (k + 1) (by omega) (fun i hi => ?_)), fun z3 => q0 (fun y => by have := (y k (by omega)).2.2; omega)⟩
      by_cases e : i = k
      · subst e; exact ⟨by omega, by omega, by omega⟩
      · exact hp i (by omega)
  exact bk_X3_hasGoodPasses_0 (loop m 0 (by omega) (fun i hi => absurd hi (Nat.not_lt_zero i)))
theorem ok_hasPassed {T : Nat → Nat} {n m v : Nat} (h : cTx w T n) (hm : m ≤ 400) (hn : 3 + 3 * m ≤ n) (hv : v < 256) (q1 : (∃ k, k < m ∧ T (3 + 3 * k) = v) → Q (some (hb_i 1)) w) (q0 : ¬ (∃ k, k < m ∧ T (3 + 3 * k) = v) → Q (some (hb_i 0)) w) : hb_O yX3_hasPassed cX3_hasPassed 4 (some .boolean) (d + 1) [hb_r 1 0 0, hb_i (nI m), hb_i (nI v)] w Q := by
  have h2 := h.2.1
  have loop : ∀ (j k : Nat), k + j = m → (∀ i, i < k → ¬ T (3 + 3 * i) = v) → hb_R yX3_hasPassed cX3_hasPassed 4 (some .boolean) (d + 1) 2 [some (hb_r 1 0 0), some (hb_i (nI m)), some (hb_i (nI v)), some (hb_i (nI k))] [] w Q := by
    intro j
    induction j with
    | zero =>
      intro k hk hp
      rw [Nat.add_zero] at hk
      subst hk
      exact bk_X3_hasPassed_2 ⟨fun _ => q0 (fun ⟨i, i1, i2⟩ => hp i i1 i2), fun z => absurd (nI_le (Nat.le_refl _) (by omega)) z⟩
    | succ j ih =>
      intro k hk hp
      have e3 : (3 : Int32) + (3 : Int32) * nI k = nI (3 + 3 * k) := by rw [show (3 : Int32) = nI 3 from rfl, pk_mul, nI_add]
      refine bk_X3_hasPassed_2 ⟨fun z => absurd z (nI_ge (by omega) (by omega)), fun _ => ?_⟩
      rw [e3]
      refine ok_atT h (by omega) (fun b0 => bk_X3_hasPassed_16 ?_)
      rw [nI_eq (by omega) (by omega), nI_1]
      refine ⟨fun z => ih (k + 1) (by omega) (fun i hi => ?_), fun z => q1 ⟨k, by omega, z⟩⟩
      by_cases e : i = k
      · subst e; exact z
      · exact hp i (by omega)
  exact bk_X3_hasPassed_0 (loop m 0 (by omega) (fun i hi => absurd hi (Nat.not_lt_zero i)))
theorem ok_goodLots {T : Nat → Nat} {n m L : Nat} (h : cTx w T n) (hm : m ≤ 400) (hL : L ≤ 9) (hn : 3 + 3 * m + L ≤ n) (q1 : (∀ l, l < L → on_l T m l) → Q (some (hb_i 1)) w) (q0 : ¬ (∀ l, l < L → on_l T m l) → Q (some (hb_i 0)) w) : hb_O yX3_hasGoodLots cX3_hasGoodLots 6 (some .boolean) (d + 2) [hb_r 1 0 0, hb_i (nI m), hb_i (nI L)] w Q := by
  have h2 := h.2.1
  have loop : ∀ (j k : Nat), k + j = L → (∀ i, i < k → on_l T m i) → hb_R yX3_hasGoodLots cX3_hasGoodLots 6 (some .boolean) (d + 1 + 1) 2 [some (hb_r 1 0 0), some (hb_i (nI m)), some (hb_i (nI L)), some (hb_i (nI k)), none, none] [] w Q := by
    intro j
    induction j with
    | zero =>
      intro k hk hp
      rw [Nat.add_zero] at hk
      subst hk
      exact bk_X3_hasGoodLots_2 ⟨fun _ => q1 hp, fun z => absurd (nI_le (Nat.le_refl _) (by omega)) z⟩
    | succ j ih =>
      intro k hk hp
      have e3 : (3 : Int32) + (3 : Int32) * nI m + nI k = nI (3 + 3 * m + k) := by rw [show (3 : Int32) = nI 3 from rfl, pk_mul, nI_add, nI_add]
      refine bk_X3_hasGoodLots_2 ⟨fun z => absurd z (nI_ge (by omega) (by omega)), fun _ => ?_⟩
      rw [e3]
      have good : ∀ x4, on_l T m k → hb_R yX3_hasGoodLots cX3_hasGoodLots 6 (some .boolean) (d + 1 + 1) 47 [some (hb_r 1 0 0), some (hb_i (nI m)), some (hb_i (nI L)), some (hb_i (nI k)), some (hb_i x4), none] [hb_i 1] w Q := fun x4 z => by
        refine bk_X3_hasGoodLots_47 ⟨fun _ => ?_, fun y => absurd y (by decide)⟩
        rw [nI_1]
        refine hx_at 4 (hx_at 5 (ih (k + 1) (by omega) (fun i hi => ?_)))
        by_cases e : i = k
        · subst e; exact z
        · exact hp i (by omega)
      have bad : ∀ x4, ¬ on_l T m k → hb_R yX3_hasGoodLots cX3_hasGoodLots 6 (some .boolean) (d + 1 + 1) 47 [some (hb_r 1 0 0), some (hb_i (nI m)), some (hb_i (nI L)), some (hb_i (nI k)), some (hb_i x4), none] [hb_i 0] w Q := fun x4 z => bk_X3_hasGoodLots_47 ⟨fun y => absurd rfl y, fun _ => q0 (fun y => z (y k (by omega)))⟩
      refine ok_atT h (by omega) (fun b0 => bk_X3_hasGoodLots_18 ?_)
      rw [show (0 : Int32) = nI 0 from rfl, nI_eq (by omega) (by decide), show (255 : Int32) = nI 255 from rfl, nI_eq (by omega) (by decide)]
      refine ⟨fun z => ?_, fun z => ⟨fun z2 => bad _ ?_, fun z2 => good _ ?_⟩⟩
      · refine ok_hasPassed h hm (by omega) b0 (fun y => good _ ?_) (fun y => bad _ ?_)
        · unfold on_l; rw [if_neg z]; exact y
        · unfold on_l; rw [if_neg z]; exact y
      · unfold on_l; rw [if_pos z]; exact z2
      · unfold on_l; rw [if_pos z]; exact z2
  exact bk_X3_hasGoodLots_0 (loop L 0 (by omega) (fun i hi => absurd hi (Nat.not_lt_zero i)))
theorem ok_isOn {T : Nat → Nat} {n L : Nat} (h : cTx w T n) (hL : L ≤ 9) (q1 : on_ok T n L → Q (some (hb_i 1)) w) (q0 : ¬ on_ok T n L → Q (some (hb_i 0)) w) : hb_O yX3_isOn cX3_isOn 5 (some .boolean) (d + 3) [hb_r 1 0 0, hb_i (nI L)] w Q := by
  have h2 := h.2.1
  refine bk_X3_isOn_0 ?_
  rw [h.1, show (4 : Int32) = nI 4 from rfl, nI_ltI (by omega) (by decide)]
  refine ⟨fun z => q0 (fun y => by have := y.1; omega), fun z => ?_⟩
  refine ok_atT (k := 0) h (by omega) (fun b0 => bk_X3_isOn_13 ?_)
  rw [show (100 : Int32) = nI 100 from rfl, nI_leI (by decide) (by omega)]
  refine ⟨fun z2 => q0 (fun y => by have := y.2.1; omega), fun z2 => ?_⟩
  refine ok_atT (k := 1) h (by omega) (fun b1 => bk_X3_isOn_23 ?_)
  refine ok_atT (k := 2) h (by omega) (fun b2 => bk_X3_isOn_32 ?_)
  rw [show nI (T 1) * (256 : Int32) = nI (T 1 * 256) from pk_mul _ 256, nI_add, show (400 : Int32) = nI 400 from rfl, nI_leI (by omega) (by decide)]
  refine ⟨fun z3 => ?_, fun z3 => q0 (fun y => by have := y.2.2.1; unfold on_m at this; omega)⟩
  refine ok_passesTold h (by omega) z3 (bk_X3_isOn_45 ?_)
  have hm : on_m T ≤ 400 := z3
  have e4 : (4 : Int32) + (3 : Int32) * nI (on_m T) + nI L = nI (4 + 3 * on_m T + L) := by rw [show (3 : Int32) = nI 3 from rfl, show (4 : Int32) = nI 4 from rfl, pk_mul, nI_add, nI_add]
  rw [h.1, e4, nI_eq (by omega) (by omega)]
  refine ⟨fun z4 => ?_, fun z4 => q0 (fun y => z4 y.2.2.2.1)⟩
  have e1 : nI n - (1 : Int32) = nI (n - 1) := by rw [show (1 : Int32) = nI 1 from rfl, pk_sub (by omega)]
  have loop : ∀ (j k : Nat), k + j = n - 1 → hb_R yX3_isOn cX3_isOn 5 (some .boolean) (d + 2 + 1) 69 [some (hb_r 1 0 0), some (hb_i (nI L)), some (hb_i (nI (on_m T))), some (hb_i (on_ck T k)), some (hb_i (nI k))] [] w Q := by
    intro j
    induction j with
    | zero =>
      intro k hk
      rw [Nat.add_zero] at hk
      refine bk_X3_isOn_69 ?_
      rw [h.1, e1, nI_leI (by omega) (by omega)]
      refine ⟨fun _ => ?_, fun z => absurd (by omega) z⟩
      refine ok_atT h (by omega) (fun b => bk_X3_isOn_108 ⟨fun z5 => q0 (fun y => z5 ?_), fun z5 => ?_⟩)
      · have := y.2.2.2.2.1
        rw [← hk] at this ⊢
        exact this
      refine ok_goodPasses h hm (by omega) (fun z6 => ?_) (fun z6 => ?_)
      · refine bk_X3_isOn_116 ⟨fun y => absurd y (by decide), fun _ => ?_⟩
        refine ok_goodLots h hm hL (by omega) (fun z7 => ?_) (fun z7 => ?_)
        · refine bk_X3_isOn_125 ⟨fun y => absurd y (by decide), fun _ => q1 ⟨by omega, by omega, hm, z4, ?_, z6, z7⟩⟩
          rw [← hk] at z5 ⊢
          exact z5
        · exact bk_X3_isOn_125 ⟨fun _ => q0 (fun y => z7 y.2.2.2.2.2.2), fun y => absurd rfl y⟩
      · exact bk_X3_isOn_116 ⟨fun _ => q0 (fun y => z6 y.2.2.2.2.2.1), fun y => absurd rfl y⟩
    | succ j ih =>
      intro k hk
      refine bk_X3_isOn_69 ?_
      rw [h.1, e1, nI_leI (by omega) (by omega)]
      refine ⟨fun z => absurd z (by omega), fun _ => ?_⟩
      refine ok_atT h (by omega) (fun b => bk_X3_isOn_87 (bk_X3_checked_0 (bk_X3_isOn_90 ?_)))
      rw [nI_1]
      exact ih (k + 1) (by omega)
  exact loop (n - 1) 0 (by omega)
theorem ok_load {T : Nat → Nat} {n L : Nat} {r : rT} (h : cTx w T n) (hL : L ≤ 9) (hok : on_ok T n L) (hR : cRl w r) (q : ∀ w2, cRl w2 (rt_new (on_P T) (T 0) (on_f T L) r) → hw_ag (fun t _ => t = 7) w w2 → w2.2.2.1 = w.2.2.1 → Q none w2) : hb_O yX8_load cX8_load 6 none (d + 2) [hb_r 7 0 0, hb_r 1 0 0, hb_i (nI L)] w Q := by
  obtain ⟨h1, h2, h3, h4, h5, h6, h7⟩ := hok
  have hn := h.2.1
  have p7 : (fun t (_ : Nat) => t = 7) 7 0 := rfl
  -- the lots
  have lots : ∀ (j l : Nat), l + j = L → ∀ w', cP w' (on_P T) → hb_fI w' 7 3 0 = nI (on_m T) → hb_fI w' 7 4 0 = nI (T 0) → hb_fI w' 7 6 0 = nI r.2.2.2.1 → hb_fI w' 7 7 0 = nI 0 → hb_fI w' 7 8 0 = nI r.2.2.2.2.2.1 → (∀ i, i < 9 → hb_aI w' 7 4 0 i = if i < l then on_f T L i else -1) → (∀ i, i < 20 → hb_aI w' 7 5 0 i = nI (r.2.2.2.2.2.2.1 i) ∧ hb_aI w' 7 6 0 i = nI (r.2.2.2.2.2.2.2.1 i) ∧ ∀ l, l < 9 → hb_aI w' 7 7 0 (i * 9 + l) = r.2.2.2.2.2.2.2.2 i l) → hw_ag (fun t _ => t = 7) w w' → w'.2.2.1 = w.2.2.1 → hb_R yX8_load cX8_load 6 none (d + 1 + 1) 83 [some (hb_r 7 0 0), some (hb_r 1 0 0), some (hb_i (nI L)), some (hb_i (nI (3 + 3 * on_m T))), some (hb_i (nI l)), none] [] w' Q := by
    intro j
    induction j with
    | zero =>
      intro l hl w' g1 g3 g4 g6 g7 g8 g9 g10 g11 g12
      rw [Nat.add_zero] at hl
      subst hl
      refine bk_X8_load_83 ⟨fun _ => q w' ⟨g1, ?_, g4, g6, g7, g8, fun i hi => ?_, g10⟩ g11 g12, fun z => absurd (nI_le (Nat.le_refl _) (by omega)) z⟩
      · show hb_fI w' 7 3 0 = nI (on_P T).length
        rw [on_P_len]; exact g3
      · rw [g9 i hi]
        show _ = on_f T l i
        by_cases e : i < l
        · rw [if_pos e]
        · rw [if_neg e]; unfold on_f; rw [if_neg e]
    | succ j ih =>
      intro l hl w' g1 g3 g4 g6 g7 g8 g9 g10 g11 g12
      have e3 : nI (3 + 3 * on_m T) + nI l = nI (3 + 3 * on_m T + l) := nI_add _ l
      have vl : vp_in (nI l) 9 := vp_in_nI (by omega) (by decide)
      refine bk_X8_load_83 ⟨fun z => absurd z (nI_ge (by omega) (by omega)), fun _ => ⟨fun z => absurd z (nI_ge (b := 9) (by omega) (by decide)), fun _ => ?_⟩⟩
      rw [e3]
      refine ok_atT (h.ag g11 (by decide)) (by omega) (fun b => bk_X8_load_104 ?_)
      have hlot := h7 l (by omega)
      unfold on_l at hlot
      have fin : ∀ x, x = on_f T L l → ∀ x5, hb_R yX8_load cX8_load 6 none (d + 1 + 1) 83 [some (hb_r 7 0 0), some (hb_r 1 0 0), some (hb_i (nI L)), some (hb_i (nI (3 + 3 * on_m T))), some (hb_i (nI l + 1)), some (hb_i x5)] [] (hb_sI w' 7 4 0 (upd (hb_aI w' 7 4 0) l x)) Q := fun x hx x5 => by
        rw [nI_1]
        refine hx_last (l := [_, _, _, _, _]) (ih (l + 1) (by omega) _ g1 g3 g4 g6 g7 g8 (fun i hi => ?_) g10 (g11.sI p7) g12)
        rw [hw_aIs]
        unfold upd
        by_cases e : i = l
        · rw [if_pos e, if_pos (by omega), hx, e]
        · rw [if_neg e, g9 i hi]
          by_cases e2 : i < l
          · rw [if_pos e2, if_pos (by omega)]
          · rw [if_neg e2, if_neg (by omega)]
      rw [nI_clamp (by omega), show (255 : Int32) = nI 255 from rfl, nI_eq (by omega) (by decide)]
      refine ⟨fun z => ⟨vl, fin _ ?_ _⟩, fun z => ⟨vl, fin _ ?_ _⟩⟩
      · unfold on_f
        rw [if_pos (by omega)]
        by_cases e : on_m T = 0
        · rw [if_pos e] at hlot
          exact absurd hlot z
        · rw [if_neg e]
      · unfold on_f
        rw [if_pos (by omega)]
        by_cases e : on_m T = 0
        · rw [if_pos e]
        · rw [if_neg e] at hlot
          obtain ⟨k, k1, k2⟩ := hlot
          have := (h6 k k1).1
          omega
  -- the passes
  have pas : ∀ (j k : Nat), k + j = on_m T → ∀ w', (∀ i, i < k → hb_aI w' 7 1 0 i = nI (T (3 + 3 * i)) ∧ hb_aI w' 7 2 0 i = nI (T (3 + 3 * i + 1)) ∧ hb_aI w' 7 3 0 i = nI (T (3 + 3 * i + 2))) → hb_fI w' 7 3 0 = nI (on_m T) → hb_fI w' 7 4 0 = nI (T 0) → hb_fI w' 7 6 0 = nI r.2.2.2.1 → hb_fI w' 7 7 0 = nI 0 → hb_fI w' 7 8 0 = nI r.2.2.2.2.2.1 → (∀ i, i < 9 → hb_aI w' 7 4 0 i = -1) → (∀ i, i < 20 → hb_aI w' 7 5 0 i = nI (r.2.2.2.2.2.2.1 i) ∧ hb_aI w' 7 6 0 i = nI (r.2.2.2.2.2.2.2.1 i) ∧ ∀ l, l < 9 → hb_aI w' 7 7 0 (i * 9 + l) = r.2.2.2.2.2.2.2.2 i l) → hw_ag (fun t _ => t = 7) w w' → w'.2.2.1 = w.2.2.1 → hb_R yX8_load cX8_load 6 none (d + 1 + 1) 22 [some (hb_r 7 0 0), some (hb_r 1 0 0), some (hb_i (nI L)), some (hb_i (nI (3 + 3 * k))), some (hb_i (nI k)), none] [] w' Q := by
    intro j
    induction j with
    | zero =>
      intro k hk w' g1 g3 g4 g6 g7 g8 g9 g10 g11 g12
      rw [Nat.add_zero] at hk
      subst hk
      refine bk_X8_load_22 ⟨fun _ => lots L 0 (by omega) w' (fun i p hp => ?_) g3 g4 g6 g7 g8 (fun i hi => by rw [if_neg (Nat.not_lt_zero i)]; exact g9 i hi) g10 g11 g12, fun z => absurd (by rw [g3]; exact nI_le (Nat.le_refl _) (by omega)) z⟩
      obtain ⟨a1, a2⟩ := on_P_get hp
      rw [a2]
      exact g1 i a1
    | succ j ih =>
      intro k hk w' g1 g3 g4 g6 g7 g8 g9 g10 g11 g12
      have vk : vp_in (nI k) 400 := vp_in_nI (by omega) (by decide)
      have e5 : nI (3 + 3 * k) + (2 : Int32) = nI (3 + 3 * k + 2) := nI_add _ 2
      have e6 : nI (3 + 3 * k) + (3 : Int32) = nI (3 + 3 * (k + 1)) := by rw [show (3 : Int32) = nI 3 from rfl, nI_add]; congr 1
      refine bk_X8_load_22 ⟨fun z => absurd z (by rw [g3]; exact nI_ge (by omega) (by omega)), fun _ => ?_⟩
      refine ok_atT (h.ag g11 (by decide)) (by omega) (fun b0 => bk_X8_load_42 ⟨vk, ?_⟩)
      rw [nI_clamp (by omega), nI_1]
      have a2 := g11.sI (j := 1) (g := 0) (f := upd (hb_aI w' 7 1 0) k (nI (T (3 + 3 * k)))) p7
      refine ok_atT (h.ag a2 (by decide)) (by omega) (fun b1 => bk_X8_load_56 ⟨vk, ?_⟩)
      rw [nI_clamp (by omega), e5]
      have a3 := a2.sI (j := 2) (g := 0) (f := upd (hb_aI w' 7 2 0) k (nI (T (3 + 3 * k + 1)))) p7
      refine ok_atT (h.ag a3 (by decide)) (by omega) (fun b2 => bk_X8_load_70 ⟨vk, ?_⟩)
      rw [nI_clamp (by omega), e6, nI_1]
      refine ih (k + 1) (by omega) _ (fun i hi => ?_) g3 g4 g6 g7 g8 g9 g10 (a3.sI p7) g12
      show upd (hb_aI w' 7 1 0) k (nI (T (3 + 3 * k))) i = _ ∧ upd (hb_aI w' 7 2 0) k (nI (T (3 + 3 * k + 1))) i = _ ∧ upd (hb_aI w' 7 3 0) k (nI (T (3 + 3 * k + 2))) i = _
      unfold upd
      by_cases e : i = k
      · rw [if_pos e, if_pos e, if_pos e, e]
        exact ⟨rfl, rfl, rfl⟩
      · rw [if_neg e, if_neg e, if_neg e]
        exact g1 i (by omega)
  refine bk_X8_load_0 (ok_atT (k := 0) h (by omega) (fun b0 => bk_X8_load_6 ?_))
  refine ok_restart hR (fun w2 k1 k2 k3 => bk_X8_load_9 ?_)
  obtain ⟨c1, c2, c3, c4, c5, c6, c7, c8⟩ := k1
  refine ok_passesTold (h.ag k2 (by decide)) h1 h3 (bk_X8_load_14 ?_)
  exact pas (on_m T) 0 (by omega) _ (fun i hi => absurd hi (Nat.not_lt_zero i)) rfl c3 c4 c5 c6 c7 c8 (k2.pI p7) k3
end HON
