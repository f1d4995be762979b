/-! ===== the class's Scene: reckoning ===== -/
theorem jx_xor {a b : Int32} : 0 ≤ (a ^^^ b) ↔ (a.toInt < 0 ↔ b.toInt < 0) := by
  rw [Int32.le_iff_toInt_le]
  show (0 : Int) ≤ (a ^^^ b).toBitVec.toInt ↔ (a.toBitVec.toInt < 0 ↔ b.toBitVec.toInt < 0)
  rw [Int32.toBitVec_xor]
  have e1 := BitVec.msb_eq_toInt (x := a.toBitVec ^^^ b.toBitVec)
  have e2 := BitVec.msb_eq_toInt (x := a.toBitVec)
  have e3 := BitVec.msb_eq_toInt (x := b.toBitVec)
  rw [BitVec.msb_xor, e2, e3] at e1
  generalize (a.toBitVec ^^^ b.toBitVec).toInt = z at e1 ⊢
  clear e2 e3
  generalize a.toBitVec.toInt = x at e1 ⊢
  generalize b.toBitVec.toInt = y at e1 ⊢
  have e : (z < 0) ↔ ¬ ((x < 0) ↔ (y < 0)) := by
    by_cases h1 : x < 0 <;> by_cases h2 : y < 0 <;> by_cases h3 : z < 0 <;> simp_all <;> omega
  omega
theorem jI_div {a b : Int} (ha : jB a) (hb : jB b) : jI a / jI b = jI (a.tdiv b) := Int32.toInt_inj.mp (by
  have h1 := ha.1; have h2 := ha.2
  have e : (a.tdiv b).natAbs = a.natAbs / b.natAbs := Int.natAbs_tdiv a b
  have e2 : a.natAbs / b.natAbs ≤ a.natAbs := Nat.div_le_self _ _
  rw [Int32.toInt_div, ha.I, hb.I, jI_t (by omega)]
  exact Int.bmod_eq_of_le (by omega) (by omega))
theorem jB_tdiv {a b : Int} (ha : jB a) : jB (a.tdiv b) := by
  have h1 := ha.1; have h2 := ha.2
  have e : (a.tdiv b).natAbs = a.natAbs / b.natAbs := Int.natAbs_tdiv a b
  have e2 : a.natAbs / b.natAbs ≤ a.natAbs := Nat.div_le_self _ _
  unfold jB
  omega
theorem jB_tdm {a b : Int} (ha : jB a) : jB (a.tdiv b * b) := by
  have h1 := ha.1; have h2 := ha.2
  have e : (a.tdiv b * b).natAbs = a.natAbs / b.natAbs * b.natAbs := by rw [Int.natAbs_mul, Int.natAbs_tdiv]; rfl
  have e2 : a.natAbs / b.natAbs * b.natAbs ≤ a.natAbs := Nat.div_mul_le_self _ _
  unfold jB
  omega
theorem jI_mulq {a b : Int} (ha : jB a) (hb : jB b) : jI (a.tdiv b) * jI b = jI (a.tdiv b * b) := Int32.toInt_inj.mp (by
  have h := jB_tdm (b := b) ha
  have h1 := h.1; have h2 := h.2
  rw [Int32.toInt_mul, (jB_tdiv ha).I, hb.I, h.I]
  exact Int.bmod_eq_of_le (by omega) (by omega))
theorem jI_sub {a b : Int} (ha : jB a) (hb : jB b) : jI a - jI b = jI (a - b) := Int32.toInt_inj.mp (by
  have h1 := ha.1; have h2 := ha.2; have h3 := hb.1; have h4 := hb.2
  rw [Int32.toInt_sub, ha.I, hb.I, jI_t (by omega)]
  exact Int.bmod_eq_of_le (by omega) (by omega))
theorem jI_add {a b : Int} (ha : jB a) (hb : jB b) : jI a + jI b = jI (a + b) := Int32.toInt_inj.mp (by
  have h1 := ha.1; have h2 := ha.2; have h3 := hb.1; have h4 := hb.2
  rw [Int32.toInt_add, ha.I, hb.I, jI_t (by omega)]
  exact Int.bmod_eq_of_le (by omega) (by omega))
theorem jB0 : jB 0 := by unfold jB; omega
theorem jB1 : jB 1 := by unfold jB; omega
/-- a mark: what is left over of a thousand -/
def sp_md (v : Int) : Nat := (if v.tmod 1000 < 0 then v.tmod 1000 + 1000 else v.tmod 1000).toNat
theorem sp_md_lt (v : Int) : sp_md v < 1000 := by
  have h1 := Int.tmod_lt_of_pos v (b := 1000) (by decide)
  have h2 : (v.tmod 1000).natAbs = v.natAbs % 1000 := by rw [Int.natAbs_tmod]; rfl
  have h3 := Nat.mod_lt v.natAbs (show 0 < 1000 by decide)
  unfold sp_md
  split <;> omega
/-- the pile in its row -/
def stk (f : Nat → Int32) : List Int → Prop
  | [] => True
  | v :: s => f s.length = jI v ∧ stk f s
theorem stk_upd {f : Nat → Int32} {x : Int32} : ∀ {s : List Int} {n : Nat}, stk f s → s.length ≤ n → stk (upd f n x) s
  | [], _, _, _ => trivial
  | v :: s, n, h, hn => by
    simp only [List.length_cons] at hn
    refine ⟨?_, stk_upd h.2 (by omega)⟩
    unfold upd
    rw [if_neg (by omega)]
    exact h.1
theorem stk_push {f : Nat → Int32} {v : Int} {s : List Int} (h : stk f s) : stk (upd f s.length (jI v)) (v :: s) := ⟨by unfold upd; rw [if_pos rfl], stk_upd h (Nat.le_refl _)⟩
section HRA
variable {d : Nat} {w : hb_W} {Q : Option hb_V → hb_W → Prop}
theorem ok_floorDiv {a b : Int} (ha : jB a) (hb : jB b) (h0 : ¬ b = 0) (q : Q (some (hb_i (jI (ev_div a b)))) w) : hb_O yJ9_floorDiv_7cf53 cJ9_floorDiv_7cf53 3 (some .int) d [hb_i (jI a), hb_i (jI b)] w Q := by
  unfold ev_div at q
  rw [if_neg h0] at q
  have hd := jB_tdiv (b := b) ha
  have hdm := jB_tdm (b := b) ha
  refine bk_J9_floorDiv_7cf53_0 ?_
  rw [jx_xor, ha.I, hb.I, jI_div ha hb, jI_mulq ha hb, jI_eq hdm ha]
  refine ⟨fun z => h0 ((jI_eq hb jB0).mp z), fun c => ?_, fun c => ⟨fun c2 => ?_, fun c2 => ?_⟩⟩
  · rw [if_pos (Or.inl c)] at q
    exact q
  · rw [if_pos (Or.inr c2)] at q
    exact q
  · rw [if_neg (fun z => by rcases z with z | z; exact c z; exact c2 z), ← jI_sub hd jB1] at q
    exact q
theorem ok_floorMod {a : Int} (ha : jB a) (q : Q (some (hb_i (nI (sp_md a)))) w) : hb_O yJ9_floorMod_7cf53 cJ9_floorMod_7cf53 3 (some .int) d [hb_i (jI a), hb_i 1000] w Q := by
  have hb : jB 1000 := by unfold jB; omega
  have e0 : (1000 : Int32) = jI 1000 := by decide
  have hd := jB_tdiv (b := 1000) ha
  have hdm := jB_tdm (b := 1000) ha
  have em : a - a.tdiv 1000 * 1000 = a.tmod 1000 := by have := Int.tmod_add_tdiv_mul a 1000; omega
  have hn : (a.tmod 1000).natAbs = a.natAbs % 1000 := by rw [Int.natAbs_tmod]; rfl
  have hlt := Nat.mod_lt a.natAbs (show 0 < 1000 by decide)
  have hB : jB (a.tmod 1000) := by unfold jB; omega
  have hmd := sp_md_lt a
  have sgn : (0 ≤ a → 0 ≤ a.tmod 1000) ∧ (a < 0 → a.tmod 1000 ≤ 0) := ⟨fun z => Int.tmod_nonneg _ z, fun z => by
    have := Int.tmod_nonneg (a := -a) 1000 (by omega)
    rw [Int.neg_tmod] at this
    omega⟩
  refine bk_J9_floorMod_7cf53_0 ?_
  rw [e0, jx_xor, ha.I, hb.I, jI_div ha hb, jI_mulq ha hb, jI_sub ha hdm, em, show (0 : Int32) = jI 0 by decide, jI_eq hB jB0]
  have es : sp_md a = (if a.tmod 1000 < 0 then a.tmod 1000 + 1000 else a.tmod 1000).toNat := rfl
  refine ⟨by decide, fun c => ?_, fun c => ⟨fun c2 => ?_, fun c2 => ?_⟩⟩
  · have h1 : 0 ≤ a := by
      rcases Int.lt_or_le a 0 with z | z
      · have := c.mp z; omega
      · exact z
    have h2 := sgn.1 h1
    rw [if_neg (by omega)] at es
    have e3 : nI (sp_md a) = jI (a.tmod 1000) := by rw [← jI_n (by omega), es, Int.toNat_of_nonneg h2]
    rw [e3] at q
    exact q
  · rw [if_neg (by omega)] at es
    have e3 : nI (sp_md a) = jI (a.tmod 1000) := by rw [← jI_n (by omega), es, Int.toNat_of_nonneg (by omega)]
    rw [e3] at q
    exact q
  · have h1 : a < 0 := by
      rcases Int.lt_or_le a 0 with z | z
      · exact z
      · exact absurd ⟨fun y => by omega, fun y => by omega⟩ c
    have h2 := sgn.2 h1
    rw [if_pos (by omega)] at es
    have e3 : nI (sp_md a) = jI (a.tmod 1000 + 1000) := by rw [← jI_n (by omega), es, Int.toNat_of_nonneg (by omega)]
    rw [e3, ← jI_add hB hb] at q
    exact q
theorem ok_capped {v : Int} (hv : -1000000000000 ≤ v ∧ v ≤ 1000000000000) (q : Q (some (hb_i (jI (ev_cl v)))) w) : hb_O yX9_capped cX9_capped 2 (some .int) d [hb_l (jL v)] w Q := by
  have e1 : (1000000 : Int64) = jL 1000000 := by decide
  have e2 : (-1000000 : Int64) = jL (-1000000) := by decide
  unfold ev_cl at q
  refine bk_X9_capped_0 ?_
  rw [lg_cmp_le, lg_cmp_ge, e2, e1, jL_le (by omega) (by omega), jL_le (by omega) (by omega)]
  refine ⟨fun c => ⟨fun c2 => ?_, fun c2 => ?_⟩, fun c => ?_⟩
  · rw [if_neg (by omega), if_neg (by omega)] at q
    rw [jL_I (by omega)]
    exact q
  · rw [if_neg (by omega), if_pos (by omega)] at q
    exact q
  · rw [if_pos (by omega)] at q
    exact q
theorem cO_op {c : Nat} (h2 : c ≤ 11) : cO c = jI (-20 - (c : Int)) := by
  unfold cO
  rw [if_neg (by omega), if_neg (by omega), if_neg (by omega), if_neg (by omega), if_neg (by omega)]
theorem ok_joined {c : Nat} {a b : Int} (h1 : 1 ≤ c) (h2 : c ≤ 11) (ha : jB a) (hb : jB b) (q : Q (some (hb_i (jI (ev_op c a b)))) w) : hb_O yX9_joined cX9_joined 3 (some .int) (d + 1) [hb_i (cO c), hb_i (jI a), hb_i (jI b)] w Q := by
  have ha1 := ha.1; have ha2 := ha.2; have hb1 := hb.1; have hb2 := hb.2
  have hm := jB_mul ha hb
  have hc : jB (-20 - (c : Int)) := by unfold jB; omega
  have ek : ∀ (k : Int) (m : Int32), m = jI k → -31 ≤ k → k ≤ -20 → (jI (-20 - (c : Int)) = m → (c : Int) = -20 - k) := fun k m hm k1 k2 z => by
    rw [hm] at z
    have := (jI_eq hc (by unfold jB; omega)).mp z
    omega
  rw [cO_op h2]
  unfold ev_op at q
  refine bk_X9_joined_0 ⟨fun e => ?_, fun e => ?_, fun e => ?_, fun e => ?_, fun e => ?_, fun e => ?_, fun e => ?_, fun e => ?_, fun e => ?_, fun e => ?_, fun e0 e1 e2 e3 e4 e5 e6 e7 e8 e9 => ?_⟩
  · have := ek (-30) _ (by decide) (by omega) (by omega) e
    have hk : c = 10 := by omega
    subst hk
    simp only [show ¬ (10 : Nat) = 1 by decide, show ¬ (10 : Nat) = 2 by decide, show ¬ (10 : Nat) = 3 by decide, show ¬ (10 : Nat) = 4 by decide, show ¬ (10 : Nat) = 5 by decide, show ¬ (10 : Nat) = 6 by decide, show ¬ (10 : Nat) = 7 by decide, show ¬ (10 : Nat) = 8 by decide, show ¬ (10 : Nat) = 9 by decide, if_false, if_true] at q
    refine ⟨fun c1 => ?_, fun c1 => ⟨fun c2 => ?_, fun c2 => ?_⟩⟩
    · rw [if_pos ((jI_eq ha jB0).mp c1)] at q
      exact bk_X9_joined_154 q
    · rw [if_neg (fun z => c1 ((jI_eq ha jB0).mpr z)), if_pos ((jI_eq hb jB0).mp c2)] at q
      exact bk_X9_joined_154 q
    · rw [if_neg (fun z => c1 ((jI_eq ha jB0).mpr z)), if_neg (fun z => c2 ((jI_eq hb jB0).mpr z))] at q
      exact q
  · have := ek (-29) _ (by decide) (by omega) (by omega) e
    have hk : c = 9 := by omega
    subst hk
    simp only [show ¬ (9 : Nat) = 1 by decide, show ¬ (9 : Nat) = 2 by decide, show ¬ (9 : Nat) = 3 by decide, show ¬ (9 : Nat) = 4 by decide, show ¬ (9 : Nat) = 5 by decide, show ¬ (9 : Nat) = 6 by decide, show ¬ (9 : Nat) = 7 by decide, show ¬ (9 : Nat) = 8 by decide, if_false, if_true] at q
    rw [jI_eq ha hb]
    refine ⟨fun c1 => ?_, fun c1 => ?_⟩
    · rw [if_neg c1] at q
      exact bk_X9_joined_141 q
    · rw [if_pos c1] at q
      exact bk_X9_joined_141 q
  · have := ek (-28) _ (by decide) (by omega) (by omega) e
    have hk : c = 8 := by omega
    subst hk
    simp only [show ¬ (8 : Nat) = 1 by decide, show ¬ (8 : Nat) = 2 by decide, show ¬ (8 : Nat) = 3 by decide, show ¬ (8 : Nat) = 4 by decide, show ¬ (8 : Nat) = 5 by decide, show ¬ (8 : Nat) = 6 by decide, show ¬ (8 : Nat) = 7 by decide, if_false, if_true] at q
    rw [jI_le ha hb]
    refine ⟨fun c1 => ?_, fun c1 => ?_⟩
    · rw [if_neg (by omega)] at q
      exact bk_X9_joined_130 q
    · rw [if_pos (by omega)] at q
      exact bk_X9_joined_130 q
  · have := ek (-27) _ (by decide) (by omega) (by omega) e
    have hk : c = 7 := by omega
    subst hk
    simp only [show ¬ (7 : Nat) = 1 by decide, show ¬ (7 : Nat) = 2 by decide, show ¬ (7 : Nat) = 3 by decide, show ¬ (7 : Nat) = 4 by decide, show ¬ (7 : Nat) = 5 by decide, show ¬ (7 : Nat) = 6 by decide, if_false, if_true] at q
    rw [jI_le hb ha]
    refine ⟨fun c1 => ?_, fun c1 => ?_⟩
    · rw [if_neg (by omega)] at q
      exact bk_X9_joined_119 q
    · rw [if_pos (by omega)] at q
      exact bk_X9_joined_119 q
  · have := ek (-26) _ (by decide) (by omega) (by omega) e
    have hk : c = 6 := by omega
    subst hk
    simp only [show ¬ (6 : Nat) = 1 by decide, show ¬ (6 : Nat) = 2 by decide, show ¬ (6 : Nat) = 3 by decide, show ¬ (6 : Nat) = 4 by decide, show ¬ (6 : Nat) = 5 by decide, if_false, if_true] at q
    by_cases z : a < b
    · rw [if_pos z] at q
      rw [if_pos ((jI_lt ha hb).mpr z)]
      exact q
    · rw [if_neg z] at q
      rw [if_neg (fun y => z ((jI_lt ha hb).mp y))]
      exact q
  · have := ek (-25) _ (by decide) (by omega) (by omega) e
    have hk : c = 5 := by omega
    subst hk
    simp only [show ¬ (5 : Nat) = 1 by decide, show ¬ (5 : Nat) = 2 by decide, show ¬ (5 : Nat) = 3 by decide, show ¬ (5 : Nat) = 4 by decide, if_false, if_true] at q
    by_cases z : b < a
    · rw [if_pos z] at q
      rw [if_pos ((jI_lt hb ha).mpr z)]
      exact q
    · rw [if_neg z] at q
      rw [if_neg (fun y => z ((jI_lt hb ha).mp y))]
      exact q
  · have := ek (-24) _ (by decide) (by omega) (by omega) e
    have hk : c = 4 := by omega
    subst hk
    simp only [show ¬ (4 : Nat) = 1 by decide, show ¬ (4 : Nat) = 2 by decide, show ¬ (4 : Nat) = 3 by decide, if_false, if_true] at q
    refine ⟨fun c1 => ?_, fun c1 => ?_⟩
    · exact ok_floorDiv ha hb (fun z => c1 ((jI_eq hb jB0).mpr z)) (bk_X9_joined_96 q)
    · unfold ev_div at q
      rw [if_pos ((jI_eq hb jB0).mp c1)] at q
      exact bk_X9_joined_96 q
  · have := ek (-23) _ (by decide) (by omega) (by omega) e
    have hk : c = 3 := by omega
    subst hk
    simp only [show ¬ (3 : Nat) = 1 by decide, show ¬ (3 : Nat) = 2 by decide, if_false, if_true] at q
    rw [jI_L (by omega), jI_L (by omega), jL_mul ha hb]
    exact ok_capped hm (bk_X9_joined_82 q)
  · have := ek (-22) _ (by decide) (by omega) (by omega) e
    have hk : c = 2 := by omega
    subst hk
    simp only [show ¬ (2 : Nat) = 1 by decide, if_false, if_true] at q
    rw [jI_L (by omega), jI_L (by omega), jL_sub ha hb]
    exact ok_capped (by omega) (bk_X9_joined_73 q)
  · have := ek (-21) _ (by decide) (by omega) (by omega) e
    have hk : c = 1 := by omega
    subst hk
    rw [if_pos rfl] at q
    rw [jI_L (by omega), jI_L (by omega), jL_add ha hb]
    exact ok_capped (by omega) (bk_X9_joined_64 q)
  · have no : ∀ (k : Nat) (m : Int32), m = jI (-20 - (k : Int)) → c = k → ¬ jI (-20 - (c : Int)) = m → False := fun k m hm z y => y (by rw [z, hm])
    have hk : c = 11 := by
      have n0 : c ≠ 10 := fun z => no 10 _ (by decide) z e0
      have n1 : c ≠ 9 := fun z => no 9 _ (by decide) z e1
      have n2 : c ≠ 8 := fun z => no 8 _ (by decide) z e2
      have n3 : c ≠ 7 := fun z => no 7 _ (by decide) z e3
      have n4 : c ≠ 6 := fun z => no 6 _ (by decide) z e4
      have n5 : c ≠ 5 := fun z => no 5 _ (by decide) z e5
      have n6 : c ≠ 4 := fun z => no 4 _ (by decide) z e6
      have n7 : c ≠ 3 := fun z => no 3 _ (by decide) z e7
      have n8 : c ≠ 2 := fun z => no 2 _ (by decide) z e8
      have n9 : c ≠ 1 := fun z => no 1 _ (by decide) z e9
      omega
    subst hk
    simp only [show ¬ (11 : Nat) = 1 by decide, show ¬ (11 : Nat) = 2 by decide, show ¬ (11 : Nat) = 3 by decide, show ¬ (11 : Nat) = 4 by decide, show ¬ (11 : Nat) = 5 by decide, show ¬ (11 : Nat) = 6 by decide, show ¬ (11 : Nat) = 7 by decide, show ¬ (11 : Nat) = 8 by decide, show ¬ (11 : Nat) = 9 by decide, show ¬ (11 : Nat) = 10 by decide, if_false] at q
    refine ⟨fun c1 => ?_, fun c1 => ⟨fun c2 => ?_, fun c2 => ?_⟩⟩
    · rw [if_neg (fun z => c1 ((jI_eq ha jB0).mpr z))] at q
      exact bk_X9_joined_164 q
    · rw [if_pos ((jI_eq ha jB0).mp c1), if_pos ((jI_eq hb jB0).mp c2)] at q
      exact q
    · rw [if_pos ((jI_eq ha jB0).mp c1), if_neg (fun z => c2 ((jI_eq hb jB0).mpr z))] at q
      exact bk_X9_joined_164 q
/-- what stands behind 'mark' and 'at' -/
def foM (mk : Nat → Nat → Nat) (h x y : Nat) (k : Nat) (v : Int) : Int := if k = 0 then (if 0 ≤ v ∧ v < 9 then ((mk h v.toNat : Nat) : Int) else 0) else if v = 0 then (x : Int) else if v = 1 then (y : Int) else 0
theorem ok_of2 {g h : Nat} {v : Int} {mk : Nat → Nat → Nat} (hg : g < 2) (hh : h < 64) (hv : jB v) (hm : hw_mk w g mk) (q : Q (some (hb_i (jI (if 0 ≤ v ∧ v < 9 then ((mk h v.toNat : Nat) : Int) else 0)))) w) : hb_O yX5_of cX5_of 4 (some .int) d [hb_r 5 g 0, hb_i (nI h), hb_i (jI v)] w Q := by
  by_cases c : 0 ≤ v ∧ v < 9
  · rw [if_pos c] at q
    obtain ⟨e, b⟩ := hm h v.toNat hh (by omega)
    have e2 : jI v = nI v.toNat := by rw [← jI_n (by omega), Int.toNat_of_nonneg c.1]
    rw [jI_n (by omega), ← e] at q
    rw [e2]
    exact ok_of hg hh (by omega) q
  · rw [if_neg c] at q
    have h9 : jB 9 := by unfold jB; omega
    refine bk_X5_of_0 hg ⟨fun z => absurd z (nI_pos (by omega)), fun _ => ⟨fun z => absurd z (nI_ge (b := 64) (by omega) (by decide)), fun _ => ?_⟩⟩
    rw [show (0 : Int32) = jI 0 by decide, show (9 : Int32) = jI 9 by decide, jI_lt hv jB0, jI_le h9 hv]
    refine ⟨fun _ => ⟨fun _ => q, fun z => absurd rfl z⟩, fun c1 => ⟨fun _ => ⟨fun _ => q, fun z => absurd rfl z⟩, fun c2 => absurd ⟨by omega, by omega⟩ c⟩⟩
theorem ok_single {c h x y : Nat} {v : Int} {mk : Nat → Nat → Nat} (hc : c = 60 ∨ c = 61 ∨ c = 12) (hv : jB v) (hh : c = 60 → h < 64 ∧ hb_fI w 6 0 0 = nI h ∧ hw_mk w 0 mk) (hx : c = 61 → hb_fI w 6 7 0 = nI x ∧ hb_fI w 6 8 0 = nI y ∧ x ≤ 1000 ∧ y ≤ 1000)
    (q : Q (some (hb_i (jI (if c = 12 then (if v = 0 then 1 else 0) else foM mk h x y (c - 60) v)))) w) : hb_O yX9_single cX9_single 3 (some .int) (d + 1) [hb_r 6 0 0, hb_i (cO c), hb_i (jI v)] w Q := by
  have e0 : (0 : Int32) = jI 0 := by decide
  have e1 : (1 : Int32) = jI 1 := by decide
  rcases hc with z | z | z
  · subst z
    obtain ⟨a1, a2, a3⟩ := hh rfl
    refine bk_X9_single_0 ⟨fun _ => ⟨fun c2 => absurd (show cO 60 = -11 by decide) c2, fun _ => ?_⟩, fun c2 => absurd c2 (by decide)⟩
    rw [a2]
    exact ok_of2 (by decide) a1 hv a3 (bk_X9_single_34 q)
  · subst z
    obtain ⟨a1, a2, a3, a4⟩ := hx rfl
    refine bk_X9_single_0 ⟨fun _ => ⟨fun _ => ?_, fun c2 => absurd c2 (by decide)⟩, fun c2 => absurd c2 (by decide)⟩
    have q2 : Q (some (hb_i (jI (if v = 0 then (x : Int) else if v = 1 then (y : Int) else 0)))) w := q
    rw [e0, e1, jI_eq hv jB0, jI_eq hv jB1, a1, a2]
    refine ⟨fun c1 => ⟨fun c2 => ?_, fun c2 => ?_⟩, fun c1 => ?_⟩
    · rw [if_neg c1, if_neg c2] at q2
      exact q2
    · rw [if_neg c1, if_pos c2, jI_n (by omega)] at q2
      exact q2
    · rw [if_pos c1, jI_n (by omega)] at q2
      exact q2
  · subst z
    rw [if_pos rfl] at q
    refine bk_X9_single_0 ⟨fun c2 => absurd (show cO 12 = -13 by decide) c2, fun _ => ?_⟩
    rw [e0, e1, jI_eq hv jB0]
    refine ⟨fun c1 => ?_, fun c1 => ?_⟩
    · rw [if_neg c1] at q
      exact q
    · rw [if_pos c1] at q
      exact q
theorem ok_valueOf {c : Nat} {v : Int} (hc : (1000 ≤ c ∧ c < 11000 ∧ v = ((c - 1000 : Nat) : Int)) ∨ (40 ≤ c ∧ c < 47 ∧ hb_fI w 6 (c - 40) 0 = jI v) ∨ (c = 13 ∧ v = 1)) (q : Q (some (hb_i (jI v))) w) : hb_O yX9_valueOf cX9_valueOf 2 (some .int) d [hb_r 6 0 0, hb_i (cO c)] w Q := by
  have nn : ∀ (n : Nat) (k : Int), n < 1000000 → -7 ≤ k → k < 0 → ¬ nI n = jI k := fun n k h1 h2 h3 z => by
    have := congrArg Int32.toInt z
    rw [nI_toInt (by omega), jI_t (by omega)] at this
    omega
  rcases hc with ⟨h1, h2, h3⟩ | ⟨h1, h2, h3⟩ | ⟨h1, h2⟩
  · have e : cO c = nI (c - 1000) := by unfold cO; rw [if_pos h1]
    rw [e]
    rw [h3, jI_n (by omega)] at q
    refine bk_X9_valueOf_0 ⟨fun z => absurd z (nn _ (-7) (by omega) (by omega) (by omega)), fun z => absurd z (nn _ (-6) (by omega) (by omega) (by omega)), fun z => absurd z (nn _ (-5) (by omega) (by omega) (by omega)), fun z => absurd z (nn _ (-4) (by omega) (by omega) (by omega)), fun z => absurd z (nn _ (-3) (by omega) (by omega) (by omega)), fun z => absurd z (nn _ (-2) (by omega) (by omega) (by omega)), fun z => absurd z (nn _ (-1) (by omega) (by omega) (by omega)), fun _ _ _ _ _ _ _ => q⟩
  · rw [← h3] at q
    have hk : c = 40 ∨ c = 41 ∨ c = 42 ∨ c = 43 ∨ c = 44 ∨ c = 45 ∨ c = 46 := by omega
    rcases hk with rfl | rfl | rfl | rfl | rfl | rfl | rfl
    · exact bk_X9_valueOf_0 ⟨fun z => absurd z (by decide), fun z => absurd z (by decide), fun z => absurd z (by decide), fun z => absurd z (by decide), fun z => absurd z (by decide), fun z => absurd z (by decide), fun _ => q, fun _ _ _ _ _ _ z => absurd (by decide) z⟩
    · exact bk_X9_valueOf_0 ⟨fun z => absurd z (by decide), fun z => absurd z (by decide), fun z => absurd z (by decide), fun z => absurd z (by decide), fun z => absurd z (by decide), fun _ => q, fun z => absurd z (by decide), fun _ _ _ _ _ z => absurd (by decide) z⟩
    · exact bk_X9_valueOf_0 ⟨fun z => absurd z (by decide), fun z => absurd z (by decide), fun z => absurd z (by decide), fun z => absurd z (by decide), fun _ => q, fun z => absurd z (by decide), fun z => absurd z (by decide), fun _ _ _ _ z => absurd (by decide) z⟩
    · exact bk_X9_valueOf_0 ⟨fun z => absurd z (by decide), fun z => absurd z (by decide), fun z => absurd z (by decide), fun _ => q, fun z => absurd z (by decide), fun z => absurd z (by decide), fun z => absurd z (by decide), fun _ _ _ z => absurd (by decide) z⟩
    · exact bk_X9_valueOf_0 ⟨fun z => absurd z (by decide), fun z => absurd z (by decide), fun _ => q, fun z => absurd z (by decide), fun z => absurd z (by decide), fun z => absurd z (by decide), fun z => absurd z (by decide), fun _ _ z => absurd (by decide) z⟩
    · exact bk_X9_valueOf_0 ⟨fun z => absurd z (by decide), fun _ => q, fun z => absurd z (by decide), fun z => absurd z (by decide), fun z => absurd z (by decide), fun z => absurd z (by decide), fun z => absurd z (by decide), fun _ z => absurd (by decide) z⟩
    · exact bk_X9_valueOf_0 ⟨fun _ => q, fun z => absurd z (by decide), fun z => absurd z (by decide), fun z => absurd z (by decide), fun z => absurd z (by decide), fun z => absurd z (by decide), fun z => absurd z (by decide), fun z => absurd (by decide) z⟩
  · subst h1
    subst h2
    exact bk_X9_valueOf_0 ⟨fun z => absurd z (by decide), fun z => absurd z (by decide), fun z => absurd z (by decide), fun z => absurd z (by decide), fun z => absurd z (by decide), fun z => absurd z (by decide), fun z => absurd z (by decide), fun _ _ _ _ _ _ _ => q⟩
end HRA
