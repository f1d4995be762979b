/-! ===== the model's book: frame, marks, least, noughts, often ===== -/
/-- two worlds agree but at the fields K and the arrays J of family 12 -/
def hm_ag (K J : List Nat) (w w2 : hb_W) : Prop := (∀ t k g, ¬ (t = 12 ∧ k ∈ K) → hb_fI w2 t k g = hb_fI w t k g) ∧ (∀ t k g, ¬ (t = 12 ∧ k ∈ K) → hb_fL w2 t k g = hb_fL w t k g) ∧ w2.2.2.1 = w.2.2.1 ∧ (∀ t k g, ¬ (t = 12 ∧ k ∈ J) → hb_aI w2 t k g = hb_aI w t k g) ∧ (∀ t k g, ¬ (t = 12 ∧ k ∈ J) → hb_aL w2 t k g = hb_aL w t k g)
theorem hm_ag.rf {K J : List Nat} {w : hb_W} : hm_ag K J w w := ⟨fun _ _ _ _ => rfl, fun _ _ _ _ => rfl, rfl, fun _ _ _ _ => rfl, fun _ _ _ _ => rfl⟩
theorem hm_ag.tr {K J : List Nat} {w w1 w2 : hb_W} (h : hm_ag K J w w1) (h2 : hm_ag K J w1 w2) : hm_ag K J w w2 := ⟨fun t k g q => (h2.1 t k g q).trans (h.1 t k g q), fun t k g q => (h2.2.1 t k g q).trans (h.2.1 t k g q), h2.2.2.1.trans h.2.2.1, fun t k g q => (h2.2.2.2.1 t k g q).trans (h.2.2.2.1 t k g q), fun t k g q => (h2.2.2.2.2 t k g q).trans (h.2.2.2.2 t k g q)⟩
theorem hm_ag.wk {K J K2 J2 : List Nat} {w w2 : hb_W} (h : hm_ag K J w w2) (hk : ∀ x ∈ K, x ∈ K2) (hj : ∀ x ∈ J, x ∈ J2) : hm_ag K2 J2 w w2 := ⟨fun t k g q => h.1 t k g (fun z => q ⟨z.1, hk _ z.2⟩), fun t k g q => h.2.1 t k g (fun z => q ⟨z.1, hk _ z.2⟩), h.2.2.1, fun t k g q => h.2.2.2.1 t k g (fun z => q ⟨z.1, hj _ z.2⟩), fun t k g q => h.2.2.2.2 t k g (fun z => q ⟨z.1, hj _ z.2⟩)⟩
theorem hb_u3_tk {α : Type} (f : hb_F α) (t k g : Nat) (v : α) {t' k' g' : Nat} (h : ¬ (t' = t ∧ k' = k)) : hb_u3 f t k g v t' k' g' = f t' k' g' := hb_u3_n f t k g v (fun z => h ⟨z.1, z.2.1⟩)
theorem hm_ag.pI {K J : List Nat} {w w1 : hb_W} {k : Nat} {v : Int32} (h : hm_ag K J w w1) (hp : k ∈ K) : hm_ag K J w (hb_pI w1 12 k 0 v) := h.tr ⟨fun t1 k1 g1 q => hb_u3_tk _ 12 k 0 v (fun z => q ⟨z.1, z.2 ▸ hp⟩), fun _ _ _ _ => rfl, rfl, fun _ _ _ _ => rfl, fun _ _ _ _ => rfl⟩
theorem hm_ag.pL {K J : List Nat} {w w1 : hb_W} {k : Nat} {v : Int64} (h : hm_ag K J w w1) (hp : k ∈ K) : hm_ag K J w (hb_pL w1 12 k 0 v) := h.tr ⟨fun _ _ _ _ => rfl, fun t1 k1 g1 q => hb_u3_tk _ 12 k 0 v (fun z => q ⟨z.1, z.2 ▸ hp⟩), rfl, fun _ _ _ _ => rfl, fun _ _ _ _ => rfl⟩
theorem hm_ag.sI {K J : List Nat} {w w1 : hb_W} {j : Nat} {f : Nat → Int32} (h : hm_ag K J w w1) (hp : j ∈ J) : hm_ag K J w (hb_sI w1 12 j 0 f) := h.tr ⟨fun _ _ _ _ => rfl, fun _ _ _ _ => rfl, rfl, fun t1 k1 g1 q => hb_u3_tk _ 12 j 0 f (fun z => q ⟨z.1, z.2 ▸ hp⟩), fun _ _ _ _ => rfl⟩
theorem hm_ag.sL {K J : List Nat} {w w1 : hb_W} {j : Nat} {f : Nat → Int64} (h : hm_ag K J w w1) (hp : j ∈ J) : hm_ag K J w (hb_sL w1 12 j 0 f) := h.tr ⟨fun _ _ _ _ => rfl, fun _ _ _ _ => rfl, rfl, fun _ _ _ _ => rfl, fun t1 k1 g1 q => hb_u3_tk _ 12 j 0 f (fun z => q ⟨z.1, z.2 ▸ hp⟩)⟩
theorem hm_ag.I {K J : List Nat} {w w2 : hb_W} (h : hm_ag K J w w2) (k : Nat) (hk : ¬ k ∈ K := by decide) : hb_fI w2 12 k 0 = hb_fI w 12 k 0 := h.1 12 k 0 (fun z => hk z.2)
theorem hm_ag.A {K J : List Nat} {w w2 : hb_W} (h : hm_ag K J w w2) (k : Nat) (hk : ¬ k ∈ J := by decide) : hb_aI w2 12 k 0 = hb_aI w 12 k 0 := h.2.2.2.1 12 k 0 (fun z => hk z.2)
def hm_mk (w : hb_W) (mk : Nat → Nat → Nat) : Prop := ∀ h l, h < 64 → l < 9 → hb_aI w 12 20 0 (9 * h + l) = nI (mk h l) ∧ mk h l < 1000
theorem hm_sI2 (w : hb_W) (t j g t2 j2 g2 : Nat) (f f2 : Nat → Int32) (h : ¬ (t = t2 ∧ j = j2 ∧ g = g2)) : hb_sI (hb_sI w t j g f) t2 j2 g2 f2 = hb_sI (hb_sI w t2 j2 g2 f2) t j g f := by
  unfold hb_sI
  have e : hb_u3 (hb_u3 w.2.2.2.1 t j g f) t2 j2 g2 f2 = hb_u3 (hb_u3 w.2.2.2.1 t2 j2 g2 f2) t j g f := by
    funext t1 j1 g1
    by_cases h1 : t1 = t ∧ j1 = j ∧ g1 = g
    · obtain ⟨rfl, rfl, rfl⟩ := h1
      rw [hb_u3_s, hb_u3_n _ _ _ _ _ h, hb_u3_s]
    · rw [hb_u3_n _ _ _ _ _ h1]
      by_cases h2 : t1 = t2 ∧ j1 = j2 ∧ g1 = g2
      · obtain ⟨rfl, rfl, rfl⟩ := h2
        rw [hb_u3_s, hb_u3_s]
      · rw [hb_u3_n _ _ _ _ _ h2, hb_u3_n _ _ _ _ _ h2, hb_u3_n _ _ _ _ _ h1]
  show (_, _, _, hb_u3 (hb_u3 w.2.2.2.1 t j g f) t2 j2 g2 f2, _) = (_, _, _, hb_u3 (hb_u3 w.2.2.2.1 t2 j2 g2 f2) t j g f, _)
  rw [e]
def sp_nq : Nat → Nat → Nat
  | 0, _ => 0
  | n + 1, v => if v % 2 = 0 then 1 + sp_nq n (v / 2) else 0
theorem sp_nq_nz : ∀ m, m < 1000 → m ≠ 0 → sp_nq 10 m = sp_nz m := by decide +kernel
section HMA
variable {d : Nat} {w : hb_W} {Q : Option hb_V → hb_W → Prop}
theorem om_marked {h l : Nat} {mk : Nat → Nat → Nat} (hh : h < 64) (hl : l < 9) (hm : hm_mk w mk) (q : mk h l < 1000 → Q (some (hb_i (nI (mk h l)))) w) : hb_O yX12_marked cX12_marked 3 (some .int) d [hb_r 12 0 0, hb_i (nI h), hb_i (nI l)] w Q := by
  obtain ⟨e, b⟩ := hm h l hh hl
  have e1 : (9 : Int32) * nI h + nI l = nI (9 * h + l) := by rw [show (9 : Int32) = nI 9 from rfl, pk_mul, nI_add]
  refine bk_X12_marked_0 ?_
  rw [e1, nI_clamp (by omega), e]
  exact ⟨vp_in_nI (by omega) (by decide), q b⟩
theorem om_noughts {m : Nat} (hm : m < 1000) (q : Q (some (hb_i (nI (sp_nz m)))) w) : hb_O yX12_noughts cX12_noughts 3 (some .int) d [hb_i (nI m)] w Q := by
  by_cases h0 : m = 0
  · subst h0
    exact bk_X12_noughts_0 ⟨fun c => absurd rfl c, fun _ => q⟩
  · refine bk_X12_noughts_0 ⟨fun _ => ?_, fun c => absurd c (nI_ne0 (by omega) (by omega))⟩
    rw [← sp_nq_nz m hm h0] at q
    have key : ∀ (n i v : Nat), n ≤ 10 → 0 < v → v < 2 ^ n → i + sp_nq n v = sp_nq 10 m → hb_R yX12_noughts cX12_noughts 3 (some .int) d 11 [some (hb_i (nI m)), some (hb_i (nI i)), some (hb_i (nI v))] [] w Q := by
      intro n
      induction n with
      | zero =>
        intro i v _ h1 h2
        simp at h2
        omega
      | succ n ih =>
        intro i v hn h1 h2 h3
        have hp : 2 ^ (n + 1) ≤ 2 ^ 10 := Nat.pow_le_pow_right (by decide) hn
        have hv : v < 2 ^ 31 := by omega
        rw [show sp_nq (n + 1) v = (if v % 2 = 0 then 1 + sp_nq n (v / 2) else 0) from rfl] at h3
        have e : nI v - nI v / 2 * 2 = nI (v % 2) := by rw [show (2 : Int32) = nI 2 from rfl, pk_rem hv (by decide) (by decide)]
        have e2 : nI v / 2 = nI (v / 2) := by rw [show (2 : Int32) = nI 2 from rfl, pk_div hv (by decide) (by decide)]
        refine bk_X12_noughts_11 ?_
        rw [e, e2, nI_1]
        refine ⟨fun c => ?_, fun c => ?_⟩
        · rw [show (0 : Int32) = nI 0 from rfl, nI_eq (by omega) (by omega)] at c
          rw [if_neg c, Nat.add_zero] at h3
          rw [h3]
          exact q
        · rw [show (0 : Int32) = nI 0 from rfl, nI_eq (by omega) (by omega)] at c
          rw [if_pos c] at h3
          exact ih (i + 1) (v / 2) (by omega) (by omega) (by rw [Nat.pow_succ] at h2; omega) (by omega)
    exact key 10 0 m (Nat.le_refl _) (by omega) (by omega) (by omega)
theorem om_leastTakes {L m : Nat} {S : Nat → Prop} (hL0 : 1 ≤ L) (hL : L ≤ 9) (hm : m < 1000) (hl : hb_fI w 12 39 0 = nI L) (h : bS_least (hb_fI w 12 44 0) (hb_aI w 12 23 0) L S)
    (q : ∀ c f, bS_least c f L (fun x => S x ∨ x = m) → Q none (hb_pI (hb_sI w 12 23 0 f) 12 44 0 c)) : hb_O yX12_leastTakes cX12_leastTakes 4 none d [hb_r 12 0 0, hb_i (nI m)] w Q := by
  obtain ⟨l, h1, h2, h3, h4⟩ := h
  have hlen := h3.2.2.1
  have stay : bS_least (hb_fI w 12 44 0) (hb_aI w 12 23 0) L (fun x => S x ∨ x = m) → Q none w := fun z => by
    have := q _ _ z
    rw [hw_sI0, hw_pI0] at this
    exact this
  have stay2 : ∀ f, bS_least (hb_fI w 12 44 0) f L (fun x => S x ∨ x = m) → Q none (hb_sI w 12 23 0 f) := fun f z => by
    have := q _ _ z
    rw [show hb_fI w 12 44 0 = hb_fI (hb_sI w 12 23 0 f) 12 44 0 from rfl, hw_pI0] at this
    exact this
  refine bk_X12_leastTakes_0 ?_
  have shift : ∀ (a b : List Nat), l = a ++ b → (∀ x ∈ a, x < m) → (∀ x ∈ b, m < x) → ∀ (n k : Nat), k = a.length + n → k ≤ l.length →
      hb_R yX12_leastTakes cX12_leastTakes 4 none d 50 [some (hb_r 12 0 0), some (hb_i (nI m)), some (hb_i (nI a.length)), some (hb_i (nI k))] [] (hb_sI w 12 23 0 (hw_shift (hb_aI w 12 23 0) k l.length)) Q := by
    intro a b hab ha hb n
    have hall : l.length = a.length + b.length := by rw [hab, List.length_append]
    induction n with
    | zero =>
      intro k hk hk2
      rw [Nat.add_zero] at hk
      subst hk
      have hf : ∀ k, k < min (l.length + 1) L → a.length < L → upd (hw_shift (hb_aI w 12 23 0) a.length l.length) a.length (nI m) k = nI (((a ++ m :: b).take L).getD k 0) := by
        intro k hk haL
        have eg : ((a ++ m :: b).take L).getD k 0 = (a ++ m :: b).getD k 0 := by
          rw [List.getD_eq_getElem?_getD, List.getD_eq_getElem?_getD, List.getElem?_take, if_pos (by omega)]
        rw [eg]
        unfold upd
        by_cases e1 : k = a.length
        · subst e1
          rw [if_pos rfl, List.getD_eq_getElem?_getD, List.getElem?_append_right (Nat.le_refl _), Nat.sub_self]
          rfl
        · rw [if_neg e1]
          unfold hw_shift
          by_cases e2 : k < a.length
          · rw [if_neg (by omega), h2 k (by omega), hab, List.getD_eq_getElem?_getD, List.getD_eq_getElem?_getD, List.getElem?_append_left e2, List.getElem?_append_left e2]
          · rw [if_pos (by omega), h2 (k - 1) (by omega), hab, List.getD_eq_getElem?_getD, List.getD_eq_getElem?_getD, List.getElem?_append_right (by omega), List.getElem?_append_right (by omega)]
            rw [show k - a.length = (k - 1 - a.length) + 1 by omega, List.getElem?_cons_succ]
      have hln : ((a ++ m :: b).take L).length = min (l.length + 1) L := by
        rw [List.length_take, List.length_append, List.length_cons, hall]
        omega
      have h1000 : ∀ x ∈ (a ++ m :: b).take L, x < 1000 := by
        intro x hx
        have := List.mem_of_mem_take hx
        rcases List.mem_append.mp this with z | z
        · exact h4 x (by rw [hab]; exact List.mem_append_left _ z)
        · rcases List.mem_cons.mp z with z | z
          · rw [z]; exact hm
          · exact h4 x (by rw [hab]; exact List.mem_append_right _ z)
      refine bk_X12_leastTakes_50 ⟨fun _ => ⟨vp_in_nI (by omega) (by decide), fun c => ?_, fun c => ?_⟩, fun c => absurd (nI_le (Nat.le_refl _) (by omega)) c⟩
      · rw [hw_aIs, hw_sI2, nI_clamp (by omega)]
        have c2 : nI L ≤ nI l.length := by rw [← hl, ← h1]; exact c
        rw [nI_leI (by omega) (by omega)] at c2
        by_cases haL : a.length < L
        · refine stay2 _ ⟨(a ++ m :: b).take L, ?_, ?_, sp_least_ins (hab ▸ h3) ha hb haL, h1000⟩
          · rw [hln, h1, show min (l.length + 1) L = l.length by omega]
          · intro k hk
            rw [hln] at hk
            exact hf k hk haL
        · have hb0 : b = [] := List.length_eq_zero_iff.mp (by omega)
          have hal : l = a := by rw [hab, hb0, List.append_nil]
          refine stay2 _ ⟨l, h1, fun k hk => ?_, sp_least_over h3 (by omega) (by rw [hal]; exact ha), h4⟩
          rw [← h2 k hk]
          unfold upd hw_shift
          rw [if_neg (by omega), if_neg (by omega)]
      · rw [hw_aIs, hw_sI2, nI_clamp (by omega)]
        have c2 : ¬ nI L ≤ nI l.length := by rw [← hl, ← h1]; exact c
        rw [nI_leI (by omega) (by omega)] at c2
        refine q _ _ ⟨(a ++ m :: b).take L, ?_, ?_, sp_least_ins (hab ▸ h3) ha hb (by omega), h1000⟩
        · rw [hln]
          show hb_fI w 12 44 0 + 1 = _
          rw [h1, nI_1, show min (l.length + 1) L = l.length + 1 by omega]
        · intro k hk
          rw [hln] at hk
          exact hf k hk (by omega)
    | succ n ih =>
      intro k hk hk2
      have ek : k = (k - 1) + 1 := by omega
      refine bk_X12_leastTakes_50 ⟨fun c => absurd c (nI_ge (by omega) (by omega)), fun _ => ⟨?_, vp_in_nI (by omega) (by decide), ?_⟩⟩
      · rw [ek, nI_pred]
        exact vp_in_nI (by omega) (by decide)
      · rw [hw_aIs, hw_sI2, ek, nI_pred, nI_clamp (by omega), nI_clamp (by omega), hw_shift_s (by omega), pk_m1]
        exact ih (k - 1) (by omega) (by omega)
  have goOn : ∀ i, i ≤ l.length → (∀ k, k < i → l.getD k 0 < m) → (∀ k, i ≤ k → k < l.length → m < l.getD k 0) → hb_R yX12_leastTakes cX12_leastTakes 4 none d 50 [some (hb_r 12 0 0), some (hb_i (nI m)), some (hb_i (nI i)), some (hb_i (nI l.length))] [] w Q := by
    intro i hi hA hB
    have hsp : l = l.take i ++ l.drop i := (List.take_append_drop i l).symm
    have htl : (l.take i).length = i := by rw [List.length_take]; omega
    have := shift (l.take i) (l.drop i) hsp (fun x hx => by
      obtain ⟨k, hk, e⟩ := List.getElem_of_mem hx
      rw [htl] at hk
      have := hA k hk
      rw [List.getD_eq_getElem?_getD, List.getElem?_eq_getElem (by omega)] at this
      rw [← e, List.getElem_take]
      exact this) (fun x hx => by
      obtain ⟨k, hk, e⟩ := List.getElem_of_mem hx
      rw [List.length_drop] at hk
      have := hB (i + k) (by omega) (by omega)
      rw [List.getD_eq_getElem?_getD, List.getElem?_eq_getElem (by omega)] at this
      rw [← e, List.getElem_drop]
      exact this) (l.length - i) l.length (by omega) (Nat.le_refl _)
    rw [hw_shift_0, htl, hw_sI0] at this
    exact this
  have find : ∀ (n i : Nat), i + n = l.length → (∀ k, k < i → l.getD k 0 < m) → hb_R yX12_leastTakes cX12_leastTakes 4 none d 2 [some (hb_r 12 0 0), some (hb_i (nI m)), some (hb_i (nI i)), none] [] w Q := by
    intro n
    induction n with
    | zero =>
      intro i hi hlt
      rw [Nat.add_zero] at hi
      subst hi
      have hle : hb_fI w 12 44 0 ≤ nI l.length := by rw [h1]; exact nI_le (Nat.le_refl _) (by omega)
      refine bk_X12_leastTakes_2 ⟨fun _ => ⟨fun _ => ?_, fun c => absurd hle c⟩, fun c => absurd hle c⟩
      rw [h1]
      exact goOn l.length (Nat.le_refl _) hlt (fun k h5 h6 => by omega)
    | succ n ih =>
      intro i hi hlt
      have hil : i < l.length := by omega
      have hei := h2 i hil
      have hmem : l.getD i 0 ∈ l := by
        rw [List.getD_eq_getElem?_getD, List.getElem?_eq_getElem hil]
        exact List.getElem_mem hil
      have h1000 := h4 _ hmem
      have hno : ¬ hb_fI w 12 44 0 ≤ nI i := by rw [h1]; exact nI_ge hil (by omega)
      refine bk_X12_leastTakes_2 ⟨fun c => absurd c hno, fun _ => ⟨vp_in_nI (by omega) (by decide), fun c => ⟨fun c2 => absurd c2 hno, fun _ => ⟨vp_in_nI (by omega) (by decide), fun c2 => ?_, fun c2 => ?_⟩⟩, fun c => ?_⟩⟩
      · rw [nI_clamp (by omega), hei, nI_leI (by omega) (by omega)] at c
        rw [nI_clamp (by omega), hei, nI_eq (by omega) (by omega)] at c2
        rw [h1]
        refine goOn i (by omega) hlt fun k hk1 hk2 => ?_
        have hp := List.pairwise_iff_getElem.mp h3.1
        have hgi : l.getD i 0 = l[i] := by rw [List.getD_eq_getElem?_getD, List.getElem?_eq_getElem hil]; rfl
        have hgk : l.getD k 0 = l[k] := by rw [List.getD_eq_getElem?_getD, List.getElem?_eq_getElem hk2]; rfl
        rcases Nat.lt_or_ge i k with z | z
        · have := hp i k hil hk2 z
          omega
        · have : k = i := by omega
          subst this
          omega
      · rw [nI_clamp (by omega), hei, nI_eq (by omega) (by omega)] at c2
        exact stay ⟨l, h1, h2, sp_least_same h3 (c2 ▸ hmem), h4⟩
      · rw [nI_clamp (by omega), hei, nI_leI (by omega) (by omega)] at c
        rw [nI_1]
        refine ih (i + 1) (by omega) fun k hk => ?_
        rcases Nat.lt_or_ge k i with z | z
        · exact hlt k z
        · have : k = i := by omega
          subst this
          omega
  exact find l.length 0 (by omega) (fun k hk => absurd hk (Nat.not_lt_zero k))
theorem om_oftenTakes {L h : Nat} {s : Nat → Nat × Nat} (hL : L ≤ 9) (hh : h < 64) (hl : hb_fI w 12 39 0 = nI L) (hs : bS_often (hb_aI w 12 25 0) (hb_aI w 12 24 0) L s) (hb : ∀ k, k < L → (s k).2 + 1 < 1000000)
    (q : ∀ f1 f2, bS_often f2 f1 L (sp_of1 L s h) → Q none (hb_sI (hb_sI w 12 24 0 f1) 12 25 0 f2)) : hb_O yX12_oftenTakes cX12_oftenTakes 3 none d [hb_r 12 0 0, hb_i (nI h)] w Q := by
  refine bk_X12_oftenTakes_0 ?_
  have q5 : ∀ f2, bS_often f2 (hb_aI w 12 24 0) L (sp_of1 L s h) → Q none (hb_sI w 12 25 0 f2) := fun f2 z => by
    have := q _ f2 z
    rw [hw_sI0] at this
    exact this
  -- nobody's place: the first empty one, or all less
  have less : (List.range L).find? (fun k => decide (0 < (s k).2 ∧ (s k).1 = h)) = none → (∀ j, j < L → decide ((s j).2 = 0) = false) → ∀ (n i : Nat), i + n = L → hb_R yX12_oftenTakes cX12_oftenTakes 3 none d 88 [some (hb_r 12 0 0), some (hb_i (nI h)), some (hb_i (nI i))] [] (hb_sI w 12 25 0 (fun j => if j < i then hb_aI w 12 25 0 j - 1 else hb_aI w 12 25 0 j)) Q := by
    intro hf hne n
    induction n with
    | zero =>
      intro i hi
      rw [Nat.add_zero] at hi
      subst hi
      refine bk_X12_oftenTakes_88 ⟨fun _ => q5 _ ?_, fun c => absurd (show hb_fI w 12 39 0 ≤ nI i by rw [hl]; exact nI_le (Nat.le_refl _) (by omega)) c⟩
      unfold sp_of1
      rw [hf, hw_fd_none hne]
      intro j hj
      obtain ⟨s1, s2, s3⟩ := hs j hj
      have hz := hne j hj
      simp only [decide_eq_false_iff_not] at hz
      dsimp only
      rw [if_pos hj, if_pos hj, s1, show (1 : Int32) = nI 1 from rfl, pk_sub (by omega)]
      exact ⟨rfl, by dsimp only; omega, fun z => s3 (by dsimp only at z; omega)⟩
    | succ n ih =>
      intro i hi
      refine bk_X12_oftenTakes_88 ⟨fun c => absurd (show nI L ≤ nI i by rw [← hl]; exact c) (nI_ge (by omega) (by omega)), fun _ => ⟨vp_in_nI (by omega) (by decide), vp_in_nI (by omega) (by decide), ?_⟩⟩
      rw [hw_aIs, hw_sI2, nI_clamp (by omega), nI_1]
      have e : upd (fun j => if j < i then hb_aI w 12 25 0 j - 1 else hb_aI w 12 25 0 j) i ((fun j => if j < i then hb_aI w 12 25 0 j - 1 else hb_aI w 12 25 0 j) i - 1) = fun j => if j < i + 1 then hb_aI w 12 25 0 j - 1 else hb_aI w 12 25 0 j := by
        funext j
        unfold upd
        by_cases e1 : j = i
        · subst e1
          simp
        · by_cases e2 : j < i
          · simp [e1, e2, Nat.lt_succ_of_lt e2]
          · have e3 : ¬ j < i + 1 := by omega
            simp [e1, e2, e3]
      rw [e]
      exact ih (i + 1) (by omega)
  have seek : (List.range L).find? (fun k => decide (0 < (s k).2 ∧ (s k).1 = h)) = none → ∀ (n i : Nat), i + n = L → (∀ j, j < i → decide ((s j).2 = 0) = false) → hb_R yX12_oftenTakes cX12_oftenTakes 3 none d 48 [some (hb_r 12 0 0), some (hb_i (nI h)), some (hb_i (nI i))] [] w Q := by
    intro hf n
    induction n with
    | zero =>
      intro i hi hn
      rw [Nat.add_zero] at hi
      subst hi
      refine bk_X12_oftenTakes_48 ⟨fun _ => ?_, fun c => absurd (by rw [hl]; exact nI_le (Nat.le_refl _) (by omega)) c⟩
      have := less hf hn i 0 (by omega)
      have e : (fun j => if j < 0 then hb_aI w 12 25 0 j - 1 else hb_aI w 12 25 0 j) = hb_aI w 12 25 0 := by
        funext j
        simp
      rw [e, hw_sI0] at this
      exact this
    | succ n ih =>
      intro i hi hn
      obtain ⟨s1, s2, s3⟩ := hs i (by omega)
      refine bk_X12_oftenTakes_48 ⟨fun c => absurd c (by rw [hl]; exact nI_ge (by omega) (by omega)), fun _ => ⟨vp_in_nI (by omega) (by decide), fun c => ?_, fun c => ⟨vp_in_nI (by omega) (by decide), vp_in_nI (by omega) (by decide), ?_⟩⟩⟩
      · rw [nI_clamp (by omega), s1, show (0 : Int32) = nI 0 from rfl, nI_eq (by omega) (by omega)] at c
        rw [nI_1]
        refine ih (i + 1) (by omega) fun j hj => ?_
        rcases Nat.lt_or_ge j i with y | y
        · exact hn j y
        · have : j = i := by omega
          rw [this]; simp; exact c
      · rw [nI_clamp (by omega), s1, show (0 : Int32) = nI 0 from rfl, nI_eq (by omega) (by omega)] at c
        rw [nI_clamp (by omega)]
        refine q _ _ ?_
        unfold sp_of1
        rw [hf, hw_fd_some (k := i) (by omega) (by simp; exact c) hn]
        intro j hj
        obtain ⟨t1, t2, t3⟩ := hs j hj
        dsimp only
        unfold upd
        by_cases e : j = i
        · subst e
          rw [if_pos rfl, if_pos rfl, if_pos rfl]
          exact ⟨rfl, (show 1 < 1000000 by decide), fun _ => ⟨rfl, hh⟩⟩
        · rw [if_neg e, if_neg e, if_neg e]
          exact ⟨t1, t2, t3⟩
  have find : ∀ (n i : Nat), i + n = L → (∀ j, j < i → decide (0 < (s j).2 ∧ (s j).1 = h) = false) → hb_R yX12_oftenTakes cX12_oftenTakes 3 none d 2 [some (hb_r 12 0 0), some (hb_i (nI h)), some (hb_i (nI i))] [] w Q := by
    intro n
    induction n with
    | zero =>
      intro i hi hn
      rw [Nat.add_zero] at hi
      subst hi
      exact bk_X12_oftenTakes_2 ⟨fun _ => seek (hw_fd_none hn) i 0 (by omega) (fun j hj => absurd hj (Nat.not_lt_zero j)), fun c => absurd (by rw [hl]; exact nI_le (Nat.le_refl _) (by omega)) c⟩
    | succ n ih =>
      intro i hi hn
      obtain ⟨s1, s2, s3⟩ := hs i (by omega)
      have next : decide (0 < (s i).2 ∧ (s i).1 = h) = false → hb_R yX12_oftenTakes cX12_oftenTakes 3 none d 2 [some (hb_r 12 0 0), some (hb_i (nI h)), some (hb_i (nI i + 1))] [] w Q := fun z => by
        rw [nI_1]
        refine ih (i + 1) (by omega) fun j hj => ?_
        rcases Nat.lt_or_ge j i with y | y
        · exact hn j y
        · have : j = i := by omega
          rw [this]; exact z
      refine bk_X12_oftenTakes_2 ⟨fun c => absurd c (by rw [hl]; exact nI_ge (by omega) (by omega)), fun _ => ⟨vp_in_nI (by omega) (by decide), fun c => ?_, fun c => ⟨vp_in_nI (by omega) (by decide), fun c2 => ?_, fun c2 => ⟨vp_in_nI (by omega) (by decide), vp_in_nI (by omega) (by decide), ?_⟩⟩⟩⟩
      · rw [nI_clamp (by omega), s1, show (0 : Int32) = nI 0 from rfl, nI_leI (by omega) (by omega)] at c
        exact next (by simp; omega)
      · rw [nI_clamp (by omega), s1, show (0 : Int32) = nI 0 from rfl, nI_leI (by omega) (by omega)] at c
        have z := s3 (by omega)
        rw [nI_clamp (by omega), z.1, nI_eq (by omega) (by omega)] at c2
        exact next (by simp; intro _; exact c2)
      · rw [nI_clamp (by omega), s1, show (0 : Int32) = nI 0 from rfl, nI_leI (by omega) (by omega)] at c
        have z := s3 (by omega)
        rw [nI_clamp (by omega), z.1, nI_eq (by omega) (by omega)] at c2
        rw [nI_clamp (by omega)]
        refine q5 _ ?_
        have hf := hw_fd_some (p := fun k => decide (0 < (s k).2 ∧ (s k).1 = h)) (L := L) (k := i) (by omega) (by simp; exact ⟨by omega, c2⟩) hn
        unfold sp_of1
        rw [hf]
        intro j hj
        obtain ⟨u1, u2, u3⟩ := hs j hj
        have hbj := hb j hj
        dsimp only
        unfold upd
        by_cases e : j = i
        · subst e
          rw [if_pos rfl, if_pos rfl, s1, nI_1]
          exact ⟨rfl, hbj, fun _ => s3 (by omega)⟩
        · rw [if_neg e, if_neg e]
          exact ⟨u1, u2, u3⟩
  exact find L 0 (by omega) (fun j hj => absurd hj (Nat.not_lt_zero j))
end HMA
