/-! ===== books as mathematics: times, least marks, runs, crossings, bits, bins, signs ===== -/
def sp_up (T : Nat → Nat) (h : Nat) : Nat → Nat := fun k => if k = h then T k + 1 else T k
/-- LEAST: the L least of the marks S, rising -/
def sp_least (L : Nat) (S : Nat → Prop) (l : List Nat) : Prop := l.Pairwise (· < ·) ∧ (∀ m ∈ l, S m) ∧ l.length ≤ L ∧ ∀ m, S m → m ∈ l ∨ (l.length = L ∧ ∀ x ∈ l, x < m)
theorem sp_least_one : ∀ (L : Nat) (S : Nat → Prop) (a b : List Nat), sp_least L S a → sp_least L S b → a = b
  | _, _, [], [], _, _ => rfl
  | L, S, [], y :: b, ha, hb => by
    rcases ha.2.2.2 y (hb.2.1 y List.mem_cons_self) with h | h
    · cases h
    · have h1 := hb.2.2.1
      have h2 : ([] : List Nat).length = L := h.1
      simp at h1 h2
      omega
  | L, S, x :: a, [], ha, hb => by
    rcases hb.2.2.2 x (ha.2.1 x List.mem_cons_self) with h | h
    · cases h
    · have h1 := ha.2.2.1
      have h2 : ([] : List Nat).length = L := h.1
      simp at h1 h2
      omega
  | L, S, x :: a, y :: b, ha, hb => by
    have pa := List.pairwise_cons.mp ha.1
    have pb := List.pairwise_cons.mp hb.1
    have hxy : x = y := by
      rcases Nat.lt_trichotomy x y with h | h | h
      · exfalso
        rcases hb.2.2.2 x (ha.2.1 x List.mem_cons_self) with q | q
        · rcases List.mem_cons.mp q with q | q
          · omega
          · have := pb.1 x q; omega
        · have := q.2 y List.mem_cons_self; omega
      · exact h
      · exfalso
        rcases ha.2.2.2 y (hb.2.1 y List.mem_cons_self) with q | q
        · rcases List.mem_cons.mp q with q | q
          · omega
          · have := pa.1 y q; omega
        · have := q.2 x List.mem_cons_self; omega
    subst hxy
    have hl1 := ha.2.2.1
    have hl2 := hb.2.2.1
    simp only [List.length_cons] at hl1 hl2
    have tail : ∀ c : List Nat, sp_least L S (x :: c) → sp_least (L - 1) (fun m => S m ∧ x < m) c := by
      intro c hc
      have pc := List.pairwise_cons.mp hc.1
      have hl := hc.2.2.1
      simp only [List.length_cons] at hl
      refine ⟨pc.2, fun m hm => ⟨hc.2.1 m (List.mem_cons_of_mem _ hm), pc.1 m hm⟩, by omega, fun m hm => ?_⟩
      rcases hc.2.2.2 m hm.1 with q | q
      · rcases List.mem_cons.mp q with q | q
        · have := hm.2; omega
        · exact Or.inl q
      · have q1 := q.1
        simp only [List.length_cons] at q1
        exact Or.inr ⟨by omega, fun z hz => q.2 z (List.mem_cons_of_mem _ hz)⟩
    rw [sp_least_one (L - 1) _ a b (tail a ha) (tail b hb)]
theorem sp_least_congr {L : Nat} {S S' : Nat → Prop} {l : List Nat} (h : sp_least L S l) (e : ∀ m, S m ↔ S' m) : sp_least L S' l := by
  have : S = S' := funext fun m => propext (e m)
  rw [← this]
  exact h
theorem sp_least_nil (L : Nat) : sp_least L (fun _ => False) [] := ⟨List.Pairwise.nil, fun m h => (by cases h), Nat.zero_le L, fun m h => False.elim h⟩
/-- one mark more: cut at the place where it belongs -/
theorem sp_least_same {L : Nat} {S : Nat → Prop} {l : List Nat} {m : Nat} (h : sp_least L S l) (hm : m ∈ l) : sp_least L (fun x => S x ∨ x = m) l := ⟨h.1, fun x hx => Or.inl (h.2.1 x hx), h.2.2.1, fun x hx => by
  rcases hx with hx | hx
  · exact h.2.2.2 x hx
  · subst hx; exact Or.inl hm⟩
theorem sp_least_over {L : Nat} {S : Nat → Prop} {l : List Nat} {m : Nat} (h : sp_least L S l) (hl : l.length = L) (hm : ∀ x ∈ l, x < m) : sp_least L (fun x => S x ∨ x = m) l := ⟨h.1, fun x hx => Or.inl (h.2.1 x hx), h.2.2.1, fun x hx => by
  rcases hx with hx | hx
  · exact h.2.2.2 x hx
  · subst hx; exact Or.inr ⟨hl, hm⟩⟩
theorem sp_least_ins {L : Nat} {S : Nat → Prop} {a b : List Nat} {m : Nat} (h : sp_least L S (a ++ b)) (ha : ∀ x ∈ a, x < m) (hb : ∀ x ∈ b, m < x) (hL : a.length < L) : sp_least L (fun x => S x ∨ x = m) ((a ++ m :: b).take L) := by
  obtain ⟨h1, h2, h3, h4⟩ := h
  have hp : (a ++ m :: b).Pairwise (· < ·) := by
    rw [List.pairwise_append] at h1 ⊢
    refine ⟨h1.1, List.pairwise_cons.mpr ⟨hb, h1.2.1⟩, fun x hx z hz => ?_⟩
    rcases List.mem_cons.mp hz with q | q
    · rw [q]; exact ha x hx
    · exact h1.2.2 x hx z q
  have hlen : (a ++ b).length = a.length + b.length := List.length_append
  refine ⟨hp.sublist (List.take_sublist _ _), fun x hx => ?_, by rw [List.length_take]; omega, fun x hx => ?_⟩
  · have := List.mem_of_mem_take hx
    rcases List.mem_append.mp this with q | q
    · exact Or.inl (h2 x (List.mem_append_left _ q))
    · rcases List.mem_cons.mp q with q | q
      · exact Or.inr q
      · exact Or.inl (h2 x (List.mem_append_right _ q))
  · have htl : (a ++ m :: b).length = a.length + b.length + 1 := by simp; omega
    by_cases hfull : a.length + b.length < L
    · rw [List.take_of_length_le (by omega)]
      left
      rcases hx with hx | hx
      · rcases h4 x hx with q | q
        · rcases List.mem_append.mp q with q | q
          · exact List.mem_append_left _ q
          · exact List.mem_append_right _ (List.mem_cons_of_mem _ q)
        · have := q.1; omega
      · rw [hx]; exact List.mem_append_right _ List.mem_cons_self
    · have hL2 : a.length + b.length = L := by omega
      have htk : ((a ++ m :: b).take L).length = L := by rw [List.length_take]; omega
      have hsplit : a ++ m :: b = (a ++ m :: b).take L ++ (a ++ m :: b).drop L := (List.take_append_drop _ _).symm
      have key : ∀ z, z ∈ a ++ m :: b → z ∈ (a ++ m :: b).take L ∨ (((a ++ m :: b).take L).length = L ∧ ∀ y ∈ (a ++ m :: b).take L, y < z) := by
        intro z hz
        rw [hsplit] at hz hp
        rcases List.mem_append.mp hz with q | q
        · exact Or.inl q
        · exact Or.inr ⟨htk, fun y hy => (List.pairwise_append.mp hp).2.2 y hy z q⟩
      rcases hx with hx | hx
      · rcases h4 x hx with q | q
        · refine key x ?_
          rcases List.mem_append.mp q with q | q
          · exact List.mem_append_left _ q
          · exact List.mem_append_right _ (List.mem_cons_of_mem _ q)
        · refine Or.inr ⟨htk, fun y hy => ?_⟩
          have hm2 := List.mem_of_mem_take hy
          rcases List.mem_append.mp hm2 with r | r
          · exact q.2 y (List.mem_append_left _ r)
          · rcases List.mem_cons.mp r with r | r
            · -- m itself: b is not empty, else a is full
              subst r
              cases b with
              | nil => simp at hL2; omega
              | cons z b =>
                have h5 := q.2 z (List.mem_append_right _ List.mem_cons_self)
                have h6 := hb z List.mem_cons_self
                omega
            · exact q.2 y (List.mem_append_right _ r)
      · rw [hx]; exact key m (List.mem_append_right _ List.mem_cons_self)
/-- noughts at the end of a number below 1000 -/
def sp_nz (m : Nat) : Nat := if m = 0 then 10 else if m % 2 = 1 then 0 else if m % 4 = 2 then 1 else if m % 8 = 4 then 2 else if m % 16 = 8 then 3 else if m % 32 = 16 then 4 else if m % 64 = 32 then 5 else if m % 128 = 64 then 6 else if m % 256 = 128 then 7 else if m % 512 = 256 then 8 else 9
/-- RUN over the marks S -/
def sp_run (S : Nat → Prop) (v : Int32) : Prop := (v = -1 ∧ ∀ m, ¬ S m) ∨ ∃ m, S m ∧ v = nI (sp_nz m) ∧ ∀ x, S x → sp_nz x ≤ sp_nz m
theorem sp_nz_le (m : Nat) : sp_nz m ≤ 10 := by
  unfold sp_nz
  repeat' split
  all_goals omega
theorem sp_run_one {S : Nat → Prop} {a b : Int32} (ha : sp_run S a) (hb : sp_run S b) : a = b := by
  rcases ha with ⟨a1, a2⟩ | ⟨m, a1, a2, a3⟩ <;> rcases hb with ⟨b1, b2⟩ | ⟨k, b1, b2, b3⟩
  · rw [a1, b1]
  · exact absurd b1 (a2 k)
  · exact absurd a1 (b2 m)
  · have := a3 k b1
    have := b3 m a1
    rw [a2, b2, show sp_nz m = sp_nz k by omega]
theorem sp_run_add {S : Nat → Prop} {a : Int32} {m : Nat} (ha : sp_run S a) : sp_run (fun x => S x ∨ x = m) (if a < nI (sp_nz m) then nI (sp_nz m) else a) := by
  have hm := sp_nz_le m
  rcases ha with ⟨a1, a2⟩ | ⟨k, a1, a2, a3⟩
  · subst a1
    rw [if_pos (by rw [Int32.lt_iff_toInt_lt, nI_toInt (by omega)]; have e : (-1 : Int32).toInt = -1 := by decide
                   omega)]
    exact Or.inr ⟨m, Or.inr rfl, rfl, fun x hx => by
      rcases hx with hx | hx
      · exact absurd hx (a2 x)
      · rw [hx]; exact Nat.le_refl _⟩
  · have hk := sp_nz_le k
    subst a2
    by_cases h : sp_nz k < sp_nz m
    · rw [if_pos (nI_lt h (by omega))]
      exact Or.inr ⟨m, Or.inr rfl, rfl, fun x hx => by
        rcases hx with hx | hx
        · have := a3 x hx; omega
        · rw [hx]; exact Nat.le_refl _⟩
    · rw [if_neg (nI_nlt (by omega) (by omega))]
      exact Or.inr ⟨k, Or.inl a1, rfl, fun x hx => by
        rcases hx with hx | hx
        · exact a3 x hx
        · rw [hx]; omega⟩
/-- the sum over the 64 hoods -/
def sp_sum (f : Nat → Nat) : Nat → Nat
  | 0 => 0
  | n + 1 => sp_sum f n + f n
theorem sp_sum_upd (f : Nat → Nat) (c : Nat) {i : Nat} : ∀ {n : Nat}, i < n → sp_sum (fun k => if k = i then f k + c else f k) n = sp_sum f n + c
  | 0, h => absurd h (Nat.not_lt_zero i)
  | n + 1, h => by
    unfold sp_sum
    rcases Nat.lt_or_ge i n with q | q
    · rw [sp_sum_upd f c q, if_neg (by omega)]
      omega
    · have e : i = n := by omega
      subst e
      rw [if_pos rfl]
      have : ∀ m, m ≤ i → sp_sum (fun k => if k = i then f k + c else f k) m = sp_sum f m := by
        intro m
        induction m with
        | zero => intro _; rfl
        | succ m ih =>
          intro hm
          unfold sp_sum
          rw [ih (by omega), if_neg (by omega)]
      rw [this i (Nat.le_refl i)]
      omega
theorem sp_sum_congr {f g : Nat → Nat} : ∀ {n : Nat}, (∀ k, k < n → f k = g k) → sp_sum f n = sp_sum g n
  | 0, _ => rfl
  | n + 1, h => by
    unfold sp_sum
    rw [sp_sum_congr (fun k hk => h k (by omega)), h n (by omega)]
theorem sp_sum_le {f g : Nat → Nat} : ∀ {n : Nat}, (∀ k, k < n → f k ≤ g k) → sp_sum f n ≤ sp_sum g n
  | 0, _ => Nat.le_refl _
  | n + 1, h => by
    unfold sp_sum
    have h1 := sp_sum_le (n := n) (fun k hk => h k (by omega))
    have h2 := h n (by omega)
    omega
theorem sp_sum_zero : ∀ n, sp_sum (fun _ => 0) n = 0
  | 0 => rfl
  | n + 1 => by
    unfold sp_sum
    rw [sp_sum_zero n]
/-- CROSSED -/
def sp_cr (L : Nat) (mk : Nat → Nat → Nat) (T : Nat → Nat) (r k : Nat) : Nat := sp_sum (fun h => if mk h (2 + r) % L = k then T h else 0) 64
theorem sp_cr_add {L : Nat} {mk : Nat → Nat → Nat} {T : Nat → Nat} {r k h c : Nat} (hh : h < 64) : sp_cr L mk (fun x => if x = h then T x + c else T x) r k = sp_cr L mk T r k + (if mk h (2 + r) % L = k then c else 0) := by
  unfold sp_cr
  by_cases e : mk h (2 + r) % L = k
  · rw [if_pos e, ← sp_sum_upd (fun h => if mk h (2 + r) % L = k then T h else 0) c hh]
    refine sp_sum_congr fun x hx => ?_
    by_cases q : x = h
    · subst q
      simp [e]
    · simp [q]
  · rw [if_neg e, Nat.add_zero]
    refine sp_sum_congr fun x hx => ?_
    by_cases q : x = h
    · subst q
      simp [e]
    · simp [q]
/-- BITS -/
def sp_bit (L : Nat) (mk : Nat → Nat → Nat) (P : Nat → Prop) (k : Nat) : Prop := ∃ h, h < 64 ∧ P h ∧ (mk h 5 % (8 * L) = k ∨ mk h 6 % (8 * L) = k)
/-- SIGNS: the least mark, 1000 where there is none -/
def sp_sg (mk : Nat → Nat → Nat) (P : Nat → Prop) (l v : Nat) : Prop := (v = 1000 ∧ ∀ h, h < 64 → ¬ P h) ∨ ((∃ h, h < 64 ∧ P h ∧ v = mk h l) ∧ ∀ h, h < 64 → P h → v ≤ mk h l)
/-- OFTEN, in the order of the passes -/
def sp_of1 (L : Nat) (s : Nat → Nat × Nat) (h : Nat) : Nat → Nat × Nat :=
  match (List.range L).find? (fun k => decide (0 < (s k).2 ∧ (s k).1 = h)) with
  | some k => fun j => if j = k then ((s j).1, (s j).2 + 1) else s j
  | none => match (List.range L).find? (fun k => decide ((s k).2 = 0)) with
    | some k => fun j => if j = k then (h, 1) else s j
    | none => fun j => if j < L then ((s j).1, (s j).2 - 1) else s j
def sp_of (L : Nat) (ps : List Nat) : Nat → Nat × Nat := ps.foldl (sp_of1 L) (fun _ => (0, 0))
