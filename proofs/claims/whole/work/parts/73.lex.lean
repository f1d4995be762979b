/-! ===== a text and its words, numbers, signs ===== -/
def lx_k (T : Nat → Nat) (n k : Nat) : Nat := if n ≤ k then 0 else if 97 ≤ T k ∧ T k ≤ 122 then 1 else if 48 ≤ T k ∧ T k ≤ 57 then 2 else 3
def lx_run (T : Nat → Nat) (n κ : Nat) : Nat → Nat → Nat
  | 0, k => k
  | f + 1, k => if lx_k T n k = κ then lx_run T n κ f (k + 1) else k
def lx_sk (T : Nat → Nat) (n : Nat) : Nat → Nat → Nat
  | 0, k => k
  | f + 1, k => if k < n ∧ (T k = 10 ∨ T k = 32) then lx_sk T n f (k + 1) else k
def lx_S (T : Nat → Nat) (n k : Nat) : Nat := lx_sk T n (n - k) k
def lx_E (T : Nat → Nat) (n p : Nat) : Nat := if lx_k T n p = 0 then p else if lx_k T n p = 3 then p + 1 else lx_run T n (lx_k T n p) (n - p) p
theorem lx_k_le (T : Nat → Nat) (n k : Nat) : lx_k T n k ≤ 3 := by unfold lx_k; repeat' split
                                                                   all_goals omega
theorem lx_k_0 {T : Nat → Nat} {n k : Nat} : lx_k T n k = 0 ↔ n ≤ k := by
  unfold lx_k
  constructor
  · intro h
    by_cases z : n ≤ k
    · exact z
    · rw [if_neg z] at h
      split at h
      · omega
      · split at h <;> omega
  · intro h; rw [if_pos h]
theorem lx_k_1 {T : Nat → Nat} {n k : Nat} : lx_k T n k = 1 ↔ k < n ∧ 97 ≤ T k ∧ T k ≤ 122 := by
  unfold lx_k
  constructor
  · intro h
    by_cases z : n ≤ k
    · rw [if_pos z] at h; omega
    · rw [if_neg z] at h
      by_cases y : 97 ≤ T k ∧ T k ≤ 122
      · exact ⟨by omega, y⟩
      · rw [if_neg y] at h; split at h <;> omega
  · intro h; rw [if_neg (by omega), if_pos h.2]
theorem lx_k_2 {T : Nat → Nat} {n k : Nat} : lx_k T n k = 2 ↔ k < n ∧ 48 ≤ T k ∧ T k ≤ 57 := by
  unfold lx_k
  constructor
  · intro h
    by_cases z : n ≤ k
    · rw [if_pos z] at h; omega
    · rw [if_neg z] at h
      by_cases y : 97 ≤ T k ∧ T k ≤ 122
      · rw [if_pos y] at h; omega
      · rw [if_neg y] at h
        by_cases x : 48 ≤ T k ∧ T k ≤ 57
        · exact ⟨by omega, x⟩
        · rw [if_neg x] at h; omega
  · intro h; rw [if_neg (by omega), if_neg (by omega), if_pos h.2]
theorem lx_sk_sp (T : Nat → Nat) (n : Nat) : ∀ (f k : Nat), n = k + f → k ≤ lx_sk T n f k ∧ lx_sk T n f k ≤ n ∧ (∀ i, k ≤ i → i < lx_sk T n f k → T i = 10 ∨ T i = 32) ∧ ¬ (lx_sk T n f k < n ∧ (T (lx_sk T n f k) = 10 ∨ T (lx_sk T n f k) = 32))
  | 0, k, h => by
    unfold lx_sk
    exact ⟨Nat.le_refl k, by omega, fun i h1 h2 => by omega, fun z => by omega⟩
  | f + 1, k, h => by
    unfold lx_sk
    by_cases z : k < n ∧ (T k = 10 ∨ T k = 32)
    · rw [if_pos z]
      obtain ⟨h1, h2, h3, h4⟩ := lx_sk_sp T n f (k + 1) (by omega)
      refine ⟨by omega, h2, fun i i1 i2 => ?_, h4⟩
      by_cases e : i = k
      · rw [e]; exact z.2
      · exact h3 i (by omega) i2
    · rw [if_neg z]
      exact ⟨Nat.le_refl k, by omega, fun i h1 h2 => by omega, z⟩
theorem lx_S_sp {T : Nat → Nat} {n k : Nat} (h : k ≤ n) : k ≤ lx_S T n k ∧ lx_S T n k ≤ n ∧ (∀ i, k ≤ i → i < lx_S T n k → T i = 10 ∨ T i = 32) ∧ ¬ (lx_S T n k < n ∧ (T (lx_S T n k) = 10 ∨ T (lx_S T n k) = 32)) := lx_sk_sp T n (n - k) k (by omega)
theorem lx_S_s {T : Nat → Nat} {n k : Nat} (h : k < n) (hb : T k = 10 ∨ T k = 32) : lx_S T n k = lx_S T n (k + 1) := by
  unfold lx_S
  rw [show n - k = (n - (k + 1)) + 1 by omega]
  show (if k < n ∧ (T k = 10 ∨ T k = 32) then lx_sk T n (n - (k + 1)) (k + 1) else k) = _
  rw [if_pos ⟨h, hb⟩]
theorem lx_S_n {T : Nat → Nat} {n k : Nat} (hb : ¬ (k < n ∧ (T k = 10 ∨ T k = 32))) : lx_S T n k = k := by
  unfold lx_S
  cases n - k with
  | zero => rfl
  | succ f =>
    show (if k < n ∧ (T k = 10 ∨ T k = 32) then lx_sk T n f (k + 1) else k) = _
    rw [if_neg hb]
theorem lx_run_sp (T : Nat → Nat) (n κ : Nat) (hκ : κ ≠ 0) : ∀ (f k : Nat), n = k + f → k ≤ lx_run T n κ f k ∧ lx_run T n κ f k ≤ n ∧ (∀ i, k ≤ i → i < lx_run T n κ f k → lx_k T n i = κ) ∧ ¬ lx_k T n (lx_run T n κ f k) = κ
  | 0, k, h => by
    unfold lx_run
    refine ⟨Nat.le_refl k, by omega, fun i h1 h2 => by omega, fun z => ?_⟩
    have : lx_k T n k = 0 := lx_k_0.mpr (by omega)
    omega
  | f + 1, k, h => by
    unfold lx_run
    by_cases z : lx_k T n k = κ
    · rw [if_pos z]
      obtain ⟨h1, h2, h3, h4⟩ := lx_run_sp T n κ hκ f (k + 1) (by omega)
      refine ⟨by omega, h2, fun i i1 i2 => ?_, h4⟩
      by_cases e : i = k
      · rw [e]; exact z
      · exact h3 i (by omega) i2
    · rw [if_neg z]
      exact ⟨Nat.le_refl k, by omega, fun i h1 h2 => by omega, z⟩
theorem lx_E_long {T : Nat → Nat} {n p : Nat} (hp : p ≤ n) (h : lx_k T n p = 1 ∨ lx_k T n p = 2) : p < lx_E T n p ∧ lx_E T n p ≤ n ∧ (∀ i, p ≤ i → i < lx_E T n p → lx_k T n i = lx_k T n p) ∧ ¬ lx_k T n (lx_E T n p) = lx_k T n p := by
  have e : lx_E T n p = lx_run T n (lx_k T n p) (n - p) p := by unfold lx_E; rw [if_neg (by omega), if_neg (by omega)]
  rw [e]
  obtain ⟨h1, h2, h3, h4⟩ := lx_run_sp T n (lx_k T n p) (by omega) (n - p) p (by omega)
  refine ⟨?_, h2, h3, h4⟩
  rcases Nat.lt_or_ge p (lx_run T n (lx_k T n p) (n - p) p) with z | z
  · exact z
  · exfalso
    have : lx_run T n (lx_k T n p) (n - p) p = p := by omega
    rw [this] at h4
    exact h4 rfl
theorem lx_E_3 {T : Nat → Nat} {n p : Nat} (h : lx_k T n p = 3) : lx_E T n p = p + 1 := by unfold lx_E; rw [if_neg (by omega), if_pos h]
theorem lx_E_0 {T : Nat → Nat} {n p : Nat} (h : lx_k T n p = 0) : lx_E T n p = p := by unfold lx_E; rw [if_pos h]
theorem lx_E_u {T : Nat → Nat} {n p e : Nat} (hp : p ≤ n) (h : lx_k T n p = 1 ∨ lx_k T n p = 2) (h1 : p ≤ e) (h3 : ∀ i, p ≤ i → i < e → lx_k T n i = lx_k T n p) (h4 : ¬ lx_k T n e = lx_k T n p) : lx_E T n p = e := by
  obtain ⟨g1, g2, g3, g4⟩ := lx_E_long hp h
  rcases Nat.lt_trichotomy (lx_E T n p) e with z | z | z
  · exact absurd (h3 _ (by omega) z) g4
  · exact z
  · exact absurd (g3 _ h1 z) h4
theorem lx_E_le {T : Nat → Nat} {n p : Nat} (hp : p ≤ n) : p ≤ lx_E T n p ∧ lx_E T n p ≤ n := by
  have := lx_k_le T n p
  by_cases h0 : lx_k T n p = 0
  · rw [lx_E_0 h0]; exact ⟨Nat.le_refl p, hp⟩
  · by_cases h3 : lx_k T n p = 3
    · rw [lx_E_3 h3]
      have : ¬ n ≤ p := fun z => h0 (lx_k_0.mpr z)
      omega
    · obtain ⟨a, b, _⟩ := lx_E_long (T := T) hp (by omega)
      omega
/-- the number of a word; a number -/
def lx_h (T : Nat → Nat) (p : Nat) : Nat → Nat
  | 0 => 0
  | k + 1 => lx_h T p k * 32 + T (p + k)
def lx_v (T : Nat → Nat) (p : Nat) : Nat → Nat
  | 0 => 0
  | k + 1 => lx_v T p k * 10 + (T (p + k) - 48)
def lx_w (wd : List Nat) : Nat → Nat := fun i => wd.getD i 0
theorem lx_h_inj {T U : Nat → Nat} {p q : Nat} : ∀ (m k : Nat), (∀ i, i < m → 97 ≤ T (p + i) ∧ T (p + i) ≤ 122) → (∀ i, i < k → 97 ≤ U (q + i) ∧ U (q + i) ≤ 122) → lx_h T p m = lx_h U q k → m = k ∧ ∀ i, i < m → T (p + i) = U (q + i)
  | 0, 0, _, _, _ => ⟨rfl, fun i hi => absurd hi (Nat.not_lt_zero i)⟩
  | 0, k + 1, _, hU, h => by
    have := hU k (by omega)
    have e : lx_h U q (k + 1) = lx_h U q k * 32 + U (q + k) := rfl
    have e0 : lx_h T p 0 = 0 := rfl
    omega
  | m + 1, 0, hT, _, h => by
    have := hT m (by omega)
    have e : lx_h T p (m + 1) = lx_h T p m * 32 + T (p + m) := rfl
    have e0 : lx_h U q 0 = 0 := rfl
    omega
  | m + 1, k + 1, hT, hU, h => by
    have h1 := hT m (by omega)
    have h2 := hU k (by omega)
    have e1 : lx_h T p (m + 1) = lx_h T p m * 32 + T (p + m) := rfl
    have e2 : lx_h U q (k + 1) = lx_h U q k * 32 + U (q + k) := rfl
    rw [e1, e2] at h
    have ec : T (p + m) = U (q + k) := by omega
    have eh : lx_h T p m = lx_h U q k := by omega
    obtain ⟨g1, g2⟩ := lx_h_inj m k (fun i hi => hT i (by omega)) (fun i hi => hU i (by omega)) eh
    refine ⟨by omega, fun i hi => ?_⟩
    by_cases e : i = m
    · rw [e, ec, g1]
    · exact g2 i (by omega)
/-- the word wd stands at the cursor -/
def lx_W (T : Nat → Nat) (n p : Nat) (z : Bool) (wd : List Nat) : Prop := z = false ∧ lx_k T n p = 1 ∧ lx_E T n p = p + wd.length ∧ ∀ i, i < wd.length → T (p + i) = lx_w wd i
def lx_ok (wd : List Nat) : Prop := 1 ≤ wd.length ∧ wd.length ≤ 5 ∧ ∀ i, i < wd.length → 97 ≤ lx_w wd i ∧ lx_w wd i ≤ 122
def lx_H (wd : List Nat) : Nat := lx_h (lx_w wd) 0 wd.length
/-- behind a token -/
def lx_n (T : Nat → Nat) (n p : Nat) : Nat := lx_S T n (lx_E T n p)
def lx_z (T : Nat → Nat) (n p : Nat) : Bool := decide (lx_n T n p = lx_E T n p ∧ lx_k T n p ≠ 3)
/-- the class's reader at a cursor -/
def rD (w : hb_W) (T : Nat → Nat) (n p : Nat) (z : Bool) : Prop := p ≤ n ∧ hb_fI w 3 1 0 = nI (if z = true ∧ (lx_k T n p = 1 ∨ lx_k T n p = 2) then 4 else lx_k T n p) ∧ hb_fI w 3 2 0 = (if z = false ∧ lx_k T n p = 1 ∧ lx_E T n p ≤ p + 5 then nI (lx_h T p (lx_E T n p - p)) else 0) ∧ (lx_k T n p = 2 → hb_fI w 3 3 0 = nI (lx_v T p (lx_E T n p - p))) ∧ hb_fI w 3 4 0 = nI p ∧ hb_fI w 3 5 0 = nI (lx_E T n p) ∧ ¬ (p < n ∧ (T p = 10 ∨ T p = 32))
theorem rD.W {w : hb_W} {T : Nat → Nat} {n p : Nat} {z : Bool} {wd : List Nat} (h : rD w T n p z) (hT : ∀ k, k < n → T k < 256) (hn : n ≤ 1600) (ho : lx_ok wd) : hb_fI w 3 2 0 = nI (lx_H wd) ↔ lx_W T n p z wd := by
  obtain ⟨h0, h1, h2, h3, h4, h5, h6⟩ := h
  obtain ⟨o1, o2, o3⟩ := ho
  have hb : ∀ (U : Nat → Nat) (q m : Nat), (∀ i, i < m → U (q + i) ≤ 122) → m ≤ 5 → lx_h U q m < 2 ^ 31 := fun U q m hU hm => by
    have key : ∀ m, (∀ i, i < m → U (q + i) ≤ 122) → lx_h U q m + 4 ≤ 4 * 32 ^ m := by
      intro m
      induction m with
      | zero => intro _; show 0 + 4 ≤ 4 * 1; omega
      | succ m ih =>
        intro hU
        have h1 := ih (fun i hi => hU i (by omega))
        have h2 := hU m (by omega)
        have e : lx_h U q (m + 1) = lx_h U q m * 32 + U (q + m) := rfl
        have e2 : 32 ^ (m + 1) = 32 ^ m * 32 := Nat.pow_succ 32 m
        rw [e, e2]
        omega
    have h1 := key m hU
    have h2 : 32 ^ m ≤ 32 ^ 5 := Nat.pow_le_pow_right (by decide) hm
    have h3 : (32 : Nat) ^ 5 = 33554432 := by decide
    omega
  have hH : lx_H wd < 2 ^ 31 := hb _ 0 _ (fun i hi => by rw [Nat.zero_add]; exact (o3 i hi).2) o2
  have hH0 : 0 < lx_H wd := by
    unfold lx_H
    cases hl : wd.length with
    | zero => omega
    | succ m =>
      have := (o3 m (by omega)).1
      show 0 < lx_h (lx_w wd) 0 m * 32 + lx_w wd (0 + m)
      rw [Nat.zero_add]
      omega
  rw [h2]
  by_cases c : z = false ∧ lx_k T n p = 1 ∧ lx_E T n p ≤ p + 5
  · rw [if_pos c]
    obtain ⟨g1, g2, g3, g4⟩ := lx_E_long h0 (Or.inl c.2.1)
    have hlt : ∀ i, i < lx_E T n p - p → 97 ≤ T (p + i) ∧ T (p + i) ≤ 122 := fun i hi => by
      have := g3 (p + i) (by omega) (by omega)
      rw [c.2.1] at this
      exact (lx_k_1.mp this).2
    have hh : lx_h T p (lx_E T n p - p) < 2 ^ 31 := hb _ p _ (fun i hi => (hlt i hi).2) (by omega)
    rw [nI_eq hh hH]
    constructor
    · intro e
      obtain ⟨e1, e2⟩ := lx_h_inj (U := lx_w wd) (q := 0) _ _ hlt (fun i hi => by rw [Nat.zero_add]; exact o3 i hi) e
      refine ⟨c.1, c.2.1, by omega, fun i hi => ?_⟩
      have := e2 i (by omega)
      rw [Nat.zero_add] at this
      exact this
    · rintro ⟨e1, e2, e3, e4⟩
      rw [e3, Nat.add_sub_cancel_left]
      have : ∀ m, m ≤ wd.length → lx_h T p m = lx_h (lx_w wd) 0 m := by
        intro m
        induction m with
        | zero => intro _; rfl
        | succ m ih =>
          intro hm
          show lx_h T p m * 32 + T (p + m) = lx_h (lx_w wd) 0 m * 32 + lx_w wd (0 + m)
          rw [ih (by omega), e4 m (by omega), Nat.zero_add]
      exact this _ (Nat.le_refl _)
  · rw [if_neg c]
    constructor
    · intro e
      exfalso
      have : nI 0 = nI (lx_H wd) := e
      rw [nI_eq (by decide) hH] at this
      omega
    · rintro ⟨e1, e2, e3, e4⟩
      exact absurd ⟨e1, e2, by omega⟩ c
section HLX
variable {d : Nat} {w : hb_W} {Q : Option hb_V → hb_W → Prop}
theorem ok_atX {T : Nat → Nat} {n k : Nat} (h : cTx w T n) (hk : k ≤ n) (q : Q (some (hb_i (if k < n then nI (T k) else -1))) w) : hb_O yX10_at cX10_at 2 (some .int) d [hb_r 1 0 0, hb_i (nI k)] w Q := by
  obtain ⟨h1, h2, h3⟩ := h
  refine ok_at h1 h2 ?_ (by omega)
  by_cases z : k < n
  · rw [if_pos z] at q ⊢
    rw [(h3 k z).1]; exact q
  · rw [if_neg z] at q ⊢; exact q
theorem ok_kindOf {T : Nat → Nat} {n k : Nat} (h : ∀ k, k < n → T k < 256) (q : Q (some (hb_i (nI (lx_k T n k)))) w) : hb_O yX7_kindOf cX7_kindOf 1 (some .int) d [hb_i (if k < n then nI (T k) else -1)] w Q := by
  unfold lx_k at q
  by_cases z : k < n
  · have hb := h k z
    rw [if_neg (by omega)] at q
    rw [if_pos z]
    refine bk_X7_kindOf_0 ⟨fun _ => ?_, fun y => absurd y (hx_ne (by omega))⟩
    rw [show (97 : Int32) = nI 97 from rfl, show (48 : Int32) = nI 48 from rfl, show (57 : Int32) = nI 57 from rfl, show (122 : Int32) = nI 122 from rfl, nI_ltI (by omega) (by decide), nI_ltI (by omega) (by decide), nI_ltI (by decide) (by omega), nI_ltI (by decide) (by omega)]
    refine ⟨fun y1 => ⟨fun y2 => ?_, fun y2 => ⟨fun y3 => ?_, fun y3 => ?_⟩⟩, fun y1 => ⟨fun y4 => ⟨fun y2 => ?_, fun y2 => ⟨fun y3 => ?_, fun y3 => ?_⟩⟩, fun y4 => ?_⟩⟩
    · rw [if_neg (by omega), if_neg (by omega)] at q; exact q
    · rw [if_neg (by omega), if_neg (by omega)] at q; exact q
    · rw [if_neg (by omega), if_pos (by omega)] at q; exact q
    · omega
    · rw [if_neg (by omega), if_neg (by omega)] at q; exact q
    · omega
    · rw [if_pos (by omega)] at q; exact q
  · rw [if_pos (by omega)] at q
    rw [if_neg z]
    exact bk_X7_kindOf_0 ⟨fun y => absurd rfl y, fun _ => q⟩
end HLX
