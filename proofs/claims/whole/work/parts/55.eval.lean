/-! ===== sums and tests as mathematics; numbers with a sign ===== -/
def jI (v : Int) : Int32 := Int32.ofInt v
def jL (v : Int) : Int64 := Int64.ofInt v
def jB (v : Int) : Prop := -1000000 ≤ v ∧ v ≤ 1000000
theorem jI_t {v : Int} (h : -2000000000 ≤ v ∧ v ≤ 2000000000) : (jI v).toInt = v := Int32.toInt_ofInt_of_le (by omega) (by omega)
theorem jL_t {v : Int} (h : -9000000000000000000 ≤ v ∧ v ≤ 9000000000000000000) : (jL v).toInt = v := Int64.toInt_ofInt_of_le (by omega) (by omega)
theorem jB.I {v : Int} (h : jB v) : (jI v).toInt = v := jI_t ⟨by have := h.1; omega, by have := h.2; omega⟩
theorem jB.L {v : Int} (h : jB v) : (jL v).toInt = v := jL_t ⟨by have := h.1; omega, by have := h.2; omega⟩
theorem jI_n {n : Nat} (h : n < 1000000000) : jI (n : Int) = nI n := Int32.toInt_inj.mp (by rw [jI_t (by omega), nI_toInt (by omega)])
theorem jL_n {n : Nat} (h : n < 1000000000) : jL (n : Int) = lN n := Int64.toInt_inj.mp (by rw [jL_t (by omega), lN_toInt (by omega)])
theorem jI_L {v : Int} (h : -2000000000 ≤ v ∧ v ≤ 2000000000) : (jI v).toInt64 = jL v := Int64.toInt_inj.mp (by rw [Int32.toInt_toInt64, jI_t h, jL_t (by omega)])
theorem jL_I {v : Int} (h : -2000000000 ≤ v ∧ v ≤ 2000000000) : (jL v).toInt32 = jI v := Int32.toInt_inj.mp (by
  rw [Int64.toInt_toInt32, jL_t (by omega), jI_t h]
  exact Int.bmod_eq_of_le (by omega) (by omega))
theorem jI_eq {a b : Int} (ha : jB a) (hb : jB b) : jI a = jI b ↔ a = b := by
  rw [← Int32.toInt_inj, ha.I, hb.I]
theorem jI_le {a b : Int} (ha : jB a) (hb : jB b) : jI a ≤ jI b ↔ a ≤ b := by rw [Int32.le_iff_toInt_le, ha.I, hb.I]
theorem jI_lt {a b : Int} (ha : jB a) (hb : jB b) : jI a < jI b ↔ a < b := by rw [Int32.lt_iff_toInt_lt, ha.I, hb.I]
theorem jL_eq {a b : Int} (ha : -9000000000000000000 ≤ a ∧ a ≤ 9000000000000000000) (hb : -9000000000000000000 ≤ b ∧ b ≤ 9000000000000000000) : jL a = jL b ↔ a = b := by
  rw [← Int64.toInt_inj, jL_t ha, jL_t hb]
theorem jL_le {a b : Int} (ha : -9000000000000000000 ≤ a ∧ a ≤ 9000000000000000000) (hb : -9000000000000000000 ≤ b ∧ b ≤ 9000000000000000000) : jL a ≤ jL b ↔ a ≤ b := by rw [Int64.le_iff_toInt_le, jL_t ha, jL_t hb]
theorem jL_lt {a b : Int} (ha : -9000000000000000000 ≤ a ∧ a ≤ 9000000000000000000) (hb : -9000000000000000000 ≤ b ∧ b ≤ 9000000000000000000) : jL a < jL b ↔ a < b := by rw [Int64.lt_iff_toInt_lt, jL_t ha, jL_t hb]
theorem jL_add {a b : Int} (ha : jB a) (hb : jB b) : jL a + jL b = jL (a + b) := Int64.toInt_inj.mp (by
  have h1 := ha.1; have h2 := ha.2; have h3 := hb.1; have h4 := hb.2
  rw [Int64.toInt_add, ha.L, hb.L, jL_t (by omega)]
  exact Int.bmod_eq_of_le (by omega) (by omega))
theorem jL_sub {a b : Int} (ha : jB a) (hb : jB b) : jL a - jL b = jL (a - b) := Int64.toInt_inj.mp (by
  have h1 := ha.1; have h2 := ha.2; have h3 := hb.1; have h4 := hb.2
  rw [Int64.toInt_sub, ha.L, hb.L, jL_t (by omega)]
  exact Int.bmod_eq_of_le (by omega) (by omega))
theorem jB_mul {a b : Int} (ha : jB a) (hb : jB b) : -1000000000000 ≤ a * b ∧ a * b ≤ 1000000000000 := by
  have h1 := ha.1; have h2 := ha.2; have h3 := hb.1; have h4 := hb.2
  have e : (a * b).natAbs = a.natAbs * b.natAbs := Int.natAbs_mul a b
  have e2 : a.natAbs * b.natAbs ≤ 1000000 * 1000000 := Nat.mul_le_mul (by omega) (by omega)
  omega
theorem jL_mul {a b : Int} (ha : jB a) (hb : jB b) : jL a * jL b = jL (a * b) := Int64.toInt_inj.mp (by
  have h := jB_mul ha hb
  rw [Int64.toInt_mul, ha.L, hb.L, jL_t (by omega)]
  exact Int.bmod_eq_of_le (by omega) (by omega))
/-- what is done with a sum: no further than a million -/
def ev_cl (v : Int) : Int := if 1000000 < v then 1000000 else if v < -1000000 then -1000000 else v
theorem ev_cl_B (v : Int) : jB (ev_cl v) := by
  unfold ev_cl jB
  split
  · omega
  · split <;> omega
theorem ev_cl_s {v : Int} (h : jB v) : ev_cl v = v := by
  have h1 := h.1; have h2 := h.2
  unfold ev_cl
  rw [if_neg (by omega), if_neg (by omega)]
def ev_div (a b : Int) : Int := if b = 0 then 0 else if (a < 0 ↔ b < 0) ∨ a.tdiv b * b = a then a.tdiv b else a.tdiv b - 1
theorem ev_div_B {a b : Int} (ha : jB a) : jB (ev_div a b) := by
  have h1 := ha.1; have h2 := ha.2
  unfold ev_div
  split
  · unfold jB; omega
  · rename_i hb
    have e : (a.tdiv b).natAbs = a.natAbs / b.natAbs := Int.natAbs_tdiv a b
    have e2 : a.natAbs / b.natAbs ≤ a.natAbs := Nat.div_le_self _ _
    split
    · unfold jB; omega
    · rename_i hn
      have hb2 : 2 ≤ b.natAbs := by
        rcases Nat.lt_or_ge b.natAbs 2 with z | z
        · exfalso
          apply hn
          right
          have : b = 1 ∨ b = -1 := by omega
          rcases this with y | y
          · rw [y]; simp
          · rw [y]; simp
        · exact z
      have e3 : a.natAbs / b.natAbs ≤ a.natAbs / 2 := Nat.div_le_div_left hb2 (by decide)
      unfold jB
      omega
def ev_op (c : Nat) (a b : Int) : Int := if c = 1 then ev_cl (a + b) else if c = 2 then ev_cl (a - b) else if c = 3 then ev_cl (a * b) else if c = 4 then ev_div a b else if c = 5 then (if b < a then b else a) else if c = 6 then (if a < b then b else a) else if c = 7 then (if a < b then 1 else 0) else if c = 8 then (if b < a then 1 else 0) else if c = 9 then (if a = b then 1 else 0) else if c = 10 then (if a = 0 then 0 else if b = 0 then 0 else 1) else (if a = 0 then (if b = 0 then 0 else 1) else 1)
theorem ev_op_B {c : Nat} {a b : Int} (ha : jB a) (hb : jB b) : jB (ev_op c a b) := by
  have h0 : jB 0 := by unfold jB; omega
  have h1 : jB 1 := by unfold jB; omega
  unfold ev_op
  repeat' split
  all_goals first
    | exact ev_cl_B _
    | exact ev_div_B ha
    | exact ha
    | exact hb
    | exact h0
    | exact h1
theorem ev_op_b {c : Nat} {a b : Int} (hc : 7 ≤ c) : ev_op c a b = 0 ∨ ev_op c a b = 1 := by
  unfold ev_op
  rw [if_neg (by omega), if_neg (by omega), if_neg (by omega), if_neg (by omega), if_neg (by omega), if_neg (by omega)]
  repeat' split
  all_goals first
    | exact Or.inl rfl
    | exact Or.inr rfl
/-- a code at a pile of values, the newest first -/
def ev1 (pt : Nat → Int) (fo : Nat → Int → Int) (s : List Int) (c : Nat) : List Int :=
  if 1000 ≤ c then ((c - 1000 : Nat) : Int) :: s
  else if 60 ≤ c then (match s with
    | a :: s => fo (c - 60) a :: s
    | [] => [])
  else if 40 ≤ c then pt (c - 40) :: s
  else if c = 13 then 1 :: s
  else if c = 12 then (match s with
    | a :: s => (if a = 0 then 1 else 0) :: s
    | [] => [])
  else (match s with
    | b :: a :: s => ev_op c a b :: s
    | s => s)
def evR (pt : Nat → Int) (fo : Nat → Int → Int) (C : List Nat) (s : List Int) : List Int := C.foldl (ev1 pt fo) s
/-- which of the pile's values are tests, at most m at a time -/
def ty1 (m : Nat) (c : Nat) (t : List Bool) : Option (List Bool) :=
  if 1000 ≤ c then (if c < 11000 ∧ t.length < m then some (false :: t) else none)
  else if 60 ≤ c then (if c < 62 ∧ t.head? = some false then some t else none)
  else if 40 ≤ c then (if c < 47 ∧ t.length < m then some (false :: t) else none)
  else if c = 13 then (if t.length < m then some (true :: t) else none)
  else if c = 12 then (if t.head? = some true then some t else none)
  else if c = 0 ∨ 11 < c then none
  else if t.length < 2 then none
  else if t.head? = t.tail.head? ∧ t.head? = some (decide (10 ≤ c)) then some (decide (7 ≤ c) :: t.drop 2) else none
def tyR (m : Nat) : List Nat → List Bool → Option (List Bool)
  | [], t => some t
  | c :: C, t => (ty1 m c t).bind (tyR m C)
theorem ty1_cases {m c : Nat} {t t' : List Bool} (h : ty1 m c t = some t') :
    (1000 ≤ c ∧ c < 11000 ∧ t.length < m ∧ t' = false :: t) ∨ ((c = 60 ∨ c = 61) ∧ t' = t ∧ ∃ t0, t = false :: t0) ∨ (40 ≤ c ∧ c < 47 ∧ t.length < m ∧ t' = false :: t) ∨ (c = 13 ∧ t.length < m ∧ t' = true :: t) ∨ (c = 12 ∧ t' = t ∧ ∃ t0, t = true :: t0) ∨ (1 ≤ c ∧ c ≤ 11 ∧ ∃ t0, t = decide (10 ≤ c) :: decide (10 ≤ c) :: t0 ∧ t' = decide (7 ≤ c) :: t0) := by
  unfold ty1 at h
  by_cases c1 : 1000 ≤ c
  · rw [if_pos c1] at h
    by_cases c2 : c < 11000 ∧ t.length < m
    · rw [if_pos c2] at h
      cases h
      exact Or.inl ⟨c1, c2.1, c2.2, rfl⟩
    · rw [if_neg c2] at h
      cases h
  · rw [if_neg c1] at h
    by_cases c3 : 60 ≤ c
    · rw [if_pos c3] at h
      by_cases c4 : c < 62 ∧ t.head? = some false
      · rw [if_pos c4] at h
        cases h
        refine Or.inr (Or.inl ⟨by omega, rfl, ?_⟩)
        cases t with
        | nil => cases c4.2
        | cons x t0 =>
          have := c4.2
          simp at this
          exact ⟨t0, by rw [this]⟩
      · rw [if_neg c4] at h
        cases h
    · rw [if_neg c3] at h
      by_cases c5 : 40 ≤ c
      · rw [if_pos c5] at h
        by_cases c6 : c < 47 ∧ t.length < m
        · rw [if_pos c6] at h
          cases h
          exact Or.inr (Or.inr (Or.inl ⟨c5, c6.1, c6.2, rfl⟩))
        · rw [if_neg c6] at h
          cases h
      · rw [if_neg c5] at h
        by_cases c7 : c = 13
        · rw [if_pos c7] at h
          by_cases c8 : t.length < m
          · rw [if_pos c8] at h
            cases h
            exact Or.inr (Or.inr (Or.inr (Or.inl ⟨c7, c8, rfl⟩)))
          · rw [if_neg c8] at h
            cases h
        · rw [if_neg c7] at h
          by_cases c9 : c = 12
          · rw [if_pos c9] at h
            by_cases ca : t.head? = some true
            · rw [if_pos ca] at h
              cases h
              refine Or.inr (Or.inr (Or.inr (Or.inr (Or.inl ⟨c9, rfl, ?_⟩))))
              cases t with
              | nil => cases ca
              | cons x t0 =>
                simp at ca
                exact ⟨t0, by rw [ca]⟩
            · rw [if_neg ca] at h
              cases h
          · rw [if_neg c9] at h
            by_cases cb : c = 0 ∨ 11 < c
            · rw [if_pos cb] at h
              cases h
            · rw [if_neg cb] at h
              by_cases cc : t.length < 2
              · rw [if_pos cc] at h
                cases h
              · rw [if_neg cc] at h
                by_cases cd : t.head? = t.tail.head? ∧ t.head? = some (decide (10 ≤ c))
                · rw [if_pos cd] at h
                  cases h
                  refine Or.inr (Or.inr (Or.inr (Or.inr (Or.inr ⟨by omega, by omega, ?_⟩))))
                  cases t with
                  | nil => simp at cc
                  | cons y t1 =>
                    cases t1 with
                    | nil => simp at cc
                    | cons x t0 =>
                      simp only [List.head?_cons, List.tail_cons, Option.some.injEq] at cd
                      refine ⟨t0, ?_, rfl⟩
                      rw [← cd.1, cd.2]
                · rw [if_neg cd] at h
                  cases h
def tyS : List Int → List Bool → Prop
  | [], [] => True
  | v :: s, b :: t => jB v ∧ (b = true → v = 0 ∨ v = 1) ∧ tyS s t
  | _, _ => False
theorem tyS_len : ∀ {s : List Int} {t : List Bool}, tyS s t → s.length = t.length
  | [], [], _ => rfl
  | _ :: s, _ :: t, h => by
    simp only [List.length_cons]
    rw [tyS_len (s := s) (t := t) h.2.2]
  | [], _ :: _, h => False.elim h
  | _ :: _, [], h => False.elim h
theorem ty_step {m c : Nat} {s : List Int} {t t' : List Bool} {pt : Nat → Int} {fo : Nat → Int → Int} (h : ty1 m c t = some t') (hs : tyS s t) (hp : ∀ k, c = 40 + k → k < 7 → jB (pt k)) (hf : ∀ k v, c = 60 + k → k < 2 → jB (fo k v)) : tyS (ev1 pt fo s c) t' := by
  rcases ty1_cases h with ⟨c1, c2, _, e⟩ | ⟨c1, e, t0, e2⟩ | ⟨c1, c2, _, e⟩ | ⟨c1, _, e⟩ | ⟨c1, e, t0, e2⟩ | ⟨c1, c2, t0, e2, e⟩
  · subst e
    unfold ev1
    rw [if_pos c1]
    refine ⟨?_, fun z => (by cases z), hs⟩
    unfold jB
    omega
  · subst e
    subst e2
    unfold ev1
    rw [if_neg (by omega), if_pos (by omega)]
    cases s with
    | nil => exact False.elim hs
    | cons a s => exact ⟨hf _ a (by omega) (by omega), fun z => (by cases z), hs.2.2⟩
  · subst e
    unfold ev1
    rw [if_neg (by omega), if_neg (by omega), if_pos c1]
    exact ⟨hp _ (by omega) (by omega), fun z => (by cases z), hs⟩
  · subst e
    unfold ev1
    rw [if_neg (by omega), if_neg (by omega), if_neg (by omega), if_pos c1]
    exact ⟨by unfold jB; omega, fun _ => Or.inr rfl, hs⟩
  · subst e
    subst e2
    unfold ev1
    rw [if_neg (by omega), if_neg (by omega), if_neg (by omega), if_neg (by omega), if_pos c1]
    cases s with
    | nil => exact False.elim hs
    | cons a s =>
      refine ⟨?_, fun _ => ?_, hs.2.2⟩
      · unfold jB
        split <;> omega
      · split
        · exact Or.inr rfl
        · exact Or.inl rfl
  · subst e
    subst e2
    unfold ev1
    rw [if_neg (by omega), if_neg (by omega), if_neg (by omega), if_neg (by omega), if_neg (by omega)]
    cases s with
    | nil => exact False.elim hs
    | cons b s =>
      cases s with
      | nil => exact False.elim hs.2.2
      | cons a s =>
        refine ⟨ev_op_B hs.2.2.1 hs.1, fun z => ?_, hs.2.2.2.2⟩
        simp at z
        exact ev_op_b z
/-- the cell of the class for a code -/
def cO (c : Nat) : Int32 := if 1000 ≤ c then nI (c - 1000) else if 60 ≤ c then jI (-11 - ((c - 60 : Nat) : Int)) else if 40 ≤ c then jI (-1 - ((c - 40 : Nat) : Int)) else if c = 13 then 1 else if c = 12 then jI (-13) else jI (-20 - (c : Int))
theorem tyR_app (m : Nat) : ∀ (C D : List Nat) (t : List Bool), tyR m (C ++ D) t = (tyR m C t).bind (tyR m D)
  | [], D, t => rfl
  | c :: C, D, t => by
    show (ty1 m c t).bind (tyR m (C ++ D)) = ((ty1 m c t).bind (tyR m C)).bind (tyR m D)
    cases ty1 m c t with
    | none => rfl
    | some t1 => exact tyR_app m C D t1
