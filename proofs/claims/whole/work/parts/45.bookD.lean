/-! ===== the class's Book as a whole: what it holds of a list of passes ===== -/
def sp_T (ps : List (Nat × Nat)) (h : Nat) : Nat := ps.countP (fun p => p.1 == h)
def sp_G (ps : List (Nat × Nat)) (q : Nat) : Nat := ps.countP (fun p => p.2 == q)
def sp_V (ps : List (Nat × Nat)) (h : Nat) : Nat := (ps.map fun p => if p.1 = h then p.2 else 0).sum
def sp_B (L : Nat) (ps : List (Nat × Nat)) (k : Nat) : Nat := ps.countP (fun p => p.2 * L / 100 == k)
def sp_U (T : Nat → Nat) : Nat := sp_sum (fun h => if 0 < T h then 1 else 0) 64
theorem sp_T_app (ps : List (Nat × Nat)) (h q x : Nat) : sp_T (ps ++ [(h, q)]) x = if x = h then sp_T ps x + 1 else sp_T ps x := by
  unfold sp_T
  rw [List.countP_append]
  by_cases e : x = h
  · subst e
    simp
  · have e2 : ¬ h = x := fun z => e z.symm
    simp [e, e2]
theorem sp_T_fun (ps : List (Nat × Nat)) (h q : Nat) : sp_T (ps ++ [(h, q)]) = fun x => if x = h then sp_T ps x + 1 else sp_T ps x := funext fun x => sp_T_app ps h q x
theorem sp_G_app (ps : List (Nat × Nat)) (h q x : Nat) : sp_G (ps ++ [(h, q)]) x = if x = q then sp_G ps x + 1 else sp_G ps x := by
  unfold sp_G
  rw [List.countP_append]
  by_cases e : x = q
  · subst e
    simp
  · have e2 : ¬ q = x := fun z => e z.symm
    simp [e, e2]
theorem sp_V_app (ps : List (Nat × Nat)) (h q x : Nat) : sp_V (ps ++ [(h, q)]) x = if x = h then sp_V ps x + q else sp_V ps x := by
  unfold sp_V
  rw [List.map_append, List.sum_append]
  by_cases e : x = h
  · subst e
    simp
  · have e2 : ¬ h = x := fun z => e z.symm
    simp [e, e2]
theorem sp_B_app (L : Nat) (ps : List (Nat × Nat)) (h q x : Nat) : sp_B L (ps ++ [(h, q)]) x = if x = q * L / 100 then sp_B L ps x + 1 else sp_B L ps x := by
  unfold sp_B
  rw [List.countP_append]
  by_cases e : x = q * L / 100
  · subst e
    simp
  · have e2 : ¬ q * L / 100 = x := fun z => e z.symm
    simp [e, e2]
theorem sp_T_le (ps : List (Nat × Nat)) (h : Nat) : sp_T ps h ≤ ps.length := List.countP_le_length
theorem sp_P_app (ps : List (Nat × Nat)) (h q x : Nat) : 0 < sp_T (ps ++ [(h, q)]) x ↔ 0 < sp_T ps x ∨ x = h := by
  rw [sp_T_app]
  by_cases e : x = h
  · simp [e]
  · simp [e]
theorem sp_U_app (ps : List (Nat × Nat)) {h : Nat} (hh : h < 64) (q : Nat) : sp_U (sp_T (ps ++ [(h, q)])) = sp_U (sp_T ps) + if sp_T ps h = 0 then 1 else 0 := by
  unfold sp_U
  by_cases e : sp_T ps h = 0
  · rw [if_pos e, ← sp_sum_upd (fun x => if 0 < sp_T ps x then 1 else 0) 1 hh]
    refine sp_sum_congr fun x hx => ?_
    rw [sp_T_app]
    by_cases z : x = h
    · subst z
      simp [e]
    · simp [z]
  · rw [if_neg e, Nat.add_zero]
    refine sp_sum_congr fun x hx => ?_
    rw [sp_T_app]
    by_cases z : x = h
    · subst z
      have : 0 < sp_T ps x := by omega
      simp [this]
    · simp [z]
def cM0 (w : hb_W) (g L : Nat) (mk : Nat → Nat → Nat) (T : Nat → Nat) : Prop := bS_least (hb_fI w 9 8 g) (hb_aI w 9 4 g) L (fun m => ∃ h, h < 64 ∧ 0 < T h ∧ m = mk h 0)
def cM1 (w : hb_W) (g : Nat) (mk : Nat → Nat → Nat) (T : Nat → Nat) : Prop := sp_run (fun m => ∃ h, h < 64 ∧ 0 < T h ∧ m = mk h 1) (hb_fI w 9 10 g)
def cM2 (w : hb_W) (g L R : Nat) (mk : Nat → Nat → Nat) (T : Nat → Nat) : Prop := ∀ r k, r < R → k < L → hb_aI w 9 7 g (r * 9 + k) = nI (sp_cr L mk T r k)
def bS_bits (f : Nat → Int32) (L : Nat) (mk : Nat → Nat → Nat) (T : Nat → Nat) : Prop := ∀ k, k < 8 * L → (sp_bit L mk (fun h => 0 < T h) k ∧ f k = 1) ∨ (¬ sp_bit L mk (fun h => 0 < T h) k ∧ f k = 0)
def cM3 (w : hb_W) (g L : Nat) (mk : Nat → Nat → Nat) (T : Nat → Nat) : Prop := bS_bits (hb_aI w 9 8 g) L mk T
def cM4 (w : hb_W) (g L : Nat) (mk : Nat → Nat → Nat) (T : Nat → Nat) : Prop := ∀ l, l < L → ∃ v, sp_sg mk (fun h => 0 < T h) l v ∧ hb_aI w 9 10 g l = nI v ∧ v ≤ 1000
def cT (w : hb_W) (g L : Nat) (ps : List (Nat × Nat)) : Prop := hb_fI w 9 3 g = nI ps.length ∧ hb_fI w 9 4 g = nI (sp_U (sp_T ps)) ∧ (∀ h, h < 64 → hb_aI w 9 1 g h = nI (sp_T ps h)) ∧ (∀ h, h < 64 → hb_aI w 9 2 g h = nI (sp_V ps h)) ∧ (∀ q, q < 100 → hb_aI w 9 3 g q = nI (sp_G ps q)) ∧ (∀ k, k < L → hb_aI w 9 9 g k = nI (sp_B L ps k)) ∧ bS_often (hb_aI w 9 6 g) (hb_aI w 9 5 g) L (sp_of L (ps.map Prod.fst))
def cN (L R : Nat) (ps : List (Nat × Nat)) : Prop := 1 ≤ L ∧ L ≤ 9 ∧ 1 ≤ R ∧ R ≤ 3 ∧ ps.length ≤ 401 ∧ ∀ p ∈ ps, p.1 < 64 ∧ p.2 < 100
/-- book g of the class holds the passes ps, by L lines, R rows, the marks mk -/
def cB (w : hb_W) (g L R : Nat) (mk : Nat → Nat → Nat) (ps : List (Nat × Nat)) : Prop := cN L R ps ∧ hb_fI w 9 0 g = nI L ∧ hb_fI w 9 1 g = nI R ∧ cT w g L ps ∧ cM0 w g L mk (sp_T ps) ∧ cM1 w g mk (sp_T ps) ∧ cM2 w g L R mk (sp_T ps) ∧ cM3 w g L mk (sp_T ps) ∧ cM4 w g L mk (sp_T ps)
/-- two worlds agree but at P -/
def hw_ag (P : Nat → Nat → Prop) (w w2 : hb_W) : Prop := (∀ t k g, ¬ P t g → hb_fI w2 t k g = hb_fI w t k g) ∧ (∀ t k g, ¬ P t g → hb_fL w2 t k g = hb_fL w t k g) ∧ (∀ t k g, ¬ P t g → hb_fR w2 t k g = hb_fR w t k g) ∧ (∀ t k g, ¬ P t g → hb_aI w2 t k g = hb_aI w t k g) ∧ (∀ t k g, ¬ P t g → hb_aL w2 t k g = hb_aL w t k g)
theorem hw_ag.rf {P : Nat → Nat → Prop} {w : hb_W} : hw_ag P w w := ⟨fun _ _ _ _ => rfl, fun _ _ _ _ => rfl, fun _ _ _ _ => rfl, fun _ _ _ _ => rfl, fun _ _ _ _ => rfl⟩
theorem hw_ag.tr {P : Nat → Nat → Prop} {w w1 w2 : hb_W} (h : hw_ag P w w1) (h2 : hw_ag P w1 w2) : hw_ag P w w2 := ⟨fun t k g q => (h2.1 t k g q).trans (h.1 t k g q), fun t k g q => (h2.2.1 t k g q).trans (h.2.1 t k g q), fun t k g q => (h2.2.2.1 t k g q).trans (h.2.2.1 t k g q), fun t k g q => (h2.2.2.2.1 t k g q).trans (h.2.2.2.1 t k g q), fun t k g q => (h2.2.2.2.2 t k g q).trans (h.2.2.2.2 t k g q)⟩
theorem hw_ag.wk {P P2 : Nat → Nat → Prop} {w w2 : hb_W} (h : hw_ag P w w2) (hp : ∀ t g, P t g → P2 t g) : hw_ag P2 w w2 := ⟨fun t k g q => h.1 t k g (fun z => q (hp t g z)), fun t k g q => h.2.1 t k g (fun z => q (hp t g z)), fun t k g q => h.2.2.1 t k g (fun z => q (hp t g z)), fun t k g q => h.2.2.2.1 t k g (fun z => q (hp t g z)), fun t k g q => h.2.2.2.2 t k g (fun z => q (hp t g z))⟩
theorem hw_ag.pI {P : Nat → Nat → Prop} {w w1 : hb_W} {t k g : Nat} {v : Int32} (h : hw_ag P w w1) (hp : P t g) : hw_ag P w (hb_pI w1 t k g v) := h.tr ⟨fun t1 k1 g1 q => hb_u3_kg _ t k g v (fun z => q (by rw [z.1, z.2]; exact hp)), fun _ _ _ _ => rfl, fun _ _ _ _ => rfl, fun _ _ _ _ => rfl, fun _ _ _ _ => rfl⟩
theorem hw_ag.pR {P : Nat → Nat → Prop} {w w1 : hb_W} {t k g : Nat} {v : Nat} (h : hw_ag P w w1) (hp : P t g) : hw_ag P w (hb_pR w1 t k g v) := h.tr ⟨fun _ _ _ _ => rfl, fun _ _ _ _ => rfl, fun t1 k1 g1 q => hb_u3_kg _ t k g v (fun z => q (by rw [z.1, z.2]; exact hp)), fun _ _ _ _ => rfl, fun _ _ _ _ => rfl⟩
theorem hw_ag.pL {P : Nat → Nat → Prop} {w w1 : hb_W} {t k g : Nat} {v : Int64} (h : hw_ag P w w1) (hp : P t g) : hw_ag P w (hb_pL w1 t k g v) := h.tr ⟨fun _ _ _ _ => rfl, fun t1 k1 g1 q => hb_u3_kg _ t k g v (fun z => q (by rw [z.1, z.2]; exact hp)), fun _ _ _ _ => rfl, fun _ _ _ _ => rfl, fun _ _ _ _ => rfl⟩
theorem hw_ag.sI {P : Nat → Nat → Prop} {w w1 : hb_W} {t j g : Nat} {f : Nat → Int32} (h : hw_ag P w w1) (hp : P t g) : hw_ag P w (hb_sI w1 t j g f) := h.tr ⟨fun _ _ _ _ => rfl, fun _ _ _ _ => rfl, fun _ _ _ _ => rfl, fun t1 k1 g1 q => hb_u3_kg _ t j g f (fun z => q (by rw [z.1, z.2]; exact hp)), fun _ _ _ _ => rfl⟩
theorem hw_ag.sL {P : Nat → Nat → Prop} {w w1 : hb_W} {t j g : Nat} {f : Nat → Int64} (h : hw_ag P w w1) (hp : P t g) : hw_ag P w (hb_sL w1 t j g f) := h.tr ⟨fun _ _ _ _ => rfl, fun _ _ _ _ => rfl, fun _ _ _ _ => rfl, fun _ _ _ _ => rfl, fun t1 k1 g1 q => hb_u3_kg _ t j g f (fun z => q (by rw [z.1, z.2]; exact hp))⟩
theorem sp_of_le (L : Nat) : ∀ (ps : List Nat) (s : Nat → Nat × Nat) (c : Nat), (∀ k, (s k).2 ≤ c) → ∀ k, ((ps.foldl (sp_of1 L) s) k).2 ≤ c + ps.length
  | [], s, c, h, k => by simpa using h k
  | x :: ps, s, c, h, k => by
    have h1 : ∀ k, (sp_of1 L s x k).2 ≤ c + 1 := by
      intro k
      have hk := h k
      unfold sp_of1
      cases h1 : (List.range L).find? (fun k => decide (0 < (s k).2 ∧ (s k).1 = x)) with
      | some j =>
        show (if k = j then ((s k).1, (s k).2 + 1) else s k).2 ≤ c + 1
        by_cases e : k = j
        · rw [if_pos e]; show (s k).2 + 1 ≤ c + 1; omega
        · rw [if_neg e]; omega
      | none =>
        cases h2 : (List.range L).find? (fun k => decide ((s k).2 = 0)) with
        | some j =>
          show (if k = j then (x, 1) else s k).2 ≤ c + 1
          by_cases e : k = j
          · rw [if_pos e]; show 1 ≤ c + 1; omega
          · rw [if_neg e]; omega
        | none =>
          show (if k < L then ((s k).1, (s k).2 - 1) else s k).2 ≤ c + 1
          by_cases e : k < L
          · rw [if_pos e]; show (s k).2 - 1 ≤ c + 1; omega
          · rw [if_neg e]; omega
    have := sp_of_le L ps (sp_of1 L s x) (c + 1) h1 k
    rw [List.foldl_cons, List.length_cons]
    omega
theorem sp_of_app (L : Nat) (ps : List Nat) (h : Nat) : sp_of L (ps ++ [h]) = sp_of1 L (sp_of L ps) h := by
  unfold sp_of
  rw [List.foldl_append]
  rfl
theorem bS_bits_add {f : Nat → Int32} {L h : Nat} {mk : Nat → Nat → Nat} {T T2 : Nat → Nat} (hh : h < 64) (hf : bS_bits f L mk T) (hT : ∀ x, 0 < T2 x ↔ 0 < T x ∨ x = h) : bS_bits (upd (upd f (mk h 5 % (8 * L)) 1) (mk h 6 % (8 * L)) 1) L mk T2 := by
  intro k hk
  have hb : sp_bit L mk (fun h => 0 < T2 h) k ↔ sp_bit L mk (fun h => 0 < T h) k ∨ (mk h 5 % (8 * L) = k ∨ mk h 6 % (8 * L) = k) := by
    constructor
    · rintro ⟨x, h1, h2, h3⟩
      rcases (hT x).mp h2 with z | z
      · exact Or.inl ⟨x, h1, z, h3⟩
      · subst z; exact Or.inr h3
    · rintro (⟨x, h1, h2, h3⟩ | z)
      · exact ⟨x, h1, (hT x).mpr (Or.inl h2), h3⟩
      · exact ⟨h, hh, (hT h).mpr (Or.inr rfl), z⟩
  rw [hb]
  unfold upd
  by_cases e6 : k = mk h 6 % (8 * L)
  · rw [if_pos e6]
    exact Or.inl ⟨Or.inr (Or.inr e6.symm), rfl⟩
  · rw [if_neg e6]
    by_cases e5 : k = mk h 5 % (8 * L)
    · rw [if_pos e5]
      exact Or.inl ⟨Or.inr (Or.inl e5.symm), rfl⟩
    · rw [if_neg e5]
      rcases hf k hk with z | z
      · exact Or.inl ⟨Or.inl z.1, z.2⟩
      · refine Or.inr ⟨fun y => ?_, z.2⟩
        rcases y with y | y | y
        · exact z.1 y
        · exact e5 y.symm
        · exact e6 y.symm
theorem sp_sg_add {mk : Nat → Nat → Nat} {T T2 : Nat → Nat} {l v h : Nat} (hh : h < 64) (hm : mk h l < 1000) (hv : sp_sg mk (fun h => 0 < T h) l v) (hT : ∀ x, 0 < T2 x ↔ 0 < T x ∨ x = h) : sp_sg mk (fun h => 0 < T2 h) l (min v (mk h l)) := by
  rcases hv with ⟨v1, v2⟩ | ⟨⟨x, x1, x2, x3⟩, v2⟩
  · refine Or.inr ⟨⟨h, hh, (hT h).mpr (Or.inr rfl), by omega⟩, fun y y1 y2 => ?_⟩
    rcases (hT y).mp y2 with z | z
    · exact absurd z (v2 y y1)
    · rw [z]; omega
  · refine Or.inr ⟨?_, fun y y1 y2 => ?_⟩
    · by_cases z : v ≤ mk h l
      · exact ⟨x, x1, (hT x).mpr (Or.inl x2), by omega⟩
      · exact ⟨h, hh, (hT h).mpr (Or.inr rfl), by omega⟩
    · rcases (hT y).mp y2 with z | z
      · have := v2 y y1 z; omega
      · rw [z]; omega
