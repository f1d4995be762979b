/-! ===== the roll as mathematics, and the class's Roll ===== -/
def ry_sd (s : Nat) : Nat := (1103515245 * s + 12345) % 2 ^ 31
theorem ry_sd_lt (s : Nat) : ry_sd s < 2 ^ 31 := Nat.mod_lt _ (by decide)
theorem ry_and (n k : Nat) : lN n &&& lN (2 ^ k - 1) = lN (n % 2 ^ k) := by
  have e : (lN n &&& lN (2 ^ k - 1)).toBitVec = (lN (n % 2 ^ k)).toBitVec := by
    show BitVec.ofNat 64 n &&& BitVec.ofNat 64 (2 ^ k - 1) = BitVec.ofNat 64 (n % 2 ^ k)
    rw [← BitVec.ofNat_and, Nat.and_two_pow_sub_one_eq_mod]
  exact Int64.toBitVec_inj.mp e
theorem ry_c {s : Nat} (hs : s < 2 ^ 31) : ((((1103515245 : Int64) * ((nI s).toInt64)) + (12345 : Int64)) &&& (2147483647 : Int64)).toInt32 = nI (ry_sd s) := by
  rw [nI_l hs, show (1103515245 : Int64) = lN 1103515245 from rfl, show (12345 : Int64) = lN 12345 from rfl, show (2147483647 : Int64) = lN (2 ^ 31 - 1) by decide, lN_mul, lN_add, ry_and, lN_i]
  rfl
theorem ry_m {s : Nat} (hs : s < 2 ^ 31) : (((1103515245 : Int64) * (lN s)) + (12345 : Int64)) - (((1103515245 : Int64) * (lN s)) + (12345 : Int64)) / (2147483648 : Int64) * (2147483648 : Int64) = lN (ry_sd s) := by
  rw [show (1103515245 : Int64) = lN 1103515245 from rfl, show (12345 : Int64) = lN 12345 from rfl, show (2147483648 : Int64) = lN 2147483648 by decide, lN_mul, lN_add, pk_lRem (by omega) (by decide) (by decide)]
  rfl
/-- the draws of one pass, line by line -/
def ry_dr (n : Nat) (x : Int32) : Nat → Nat → (Nat → Int32) → Nat × (Nat → Int32)
  | 0, s, f => (s, f)
  | l + 1, s, f => (ry_sd (ry_dr n x l s f).1, if ry_sd (ry_dr n x l s f).1 / 64 % n = 0 then upd (ry_dr n x l s f).2 l x else (ry_dr n x l s f).2)
theorem ry_dr_lt {n : Nat} {x : Int32} {s : Nat} {f : Nat → Int32} (hs : s < 2 ^ 31) : ∀ l, (ry_dr n x l s f).1 < 2 ^ 31
  | 0 => hs
  | _ + 1 => ry_sd_lt _
/-- passes; coin; lots; drawn; acts; newest; old counts, coins, lots -/
abbrev rT : Type := List (Nat × Nat × Nat) × Nat × (Nat → Int32) × Nat × Nat × Nat × (Nat → Nat) × (Nat → Nat) × (Nat → Nat → Int32)
def rt_add (L h q t : Nat) (r : rT) : rT := (r.1 ++ [(h, q, t)], r.2.1, (ry_dr (r.1.length + 1) (nI h) L r.2.2.2.1 r.2.2.1).2, (ry_dr (r.1.length + 1) (nI h) L r.2.2.2.1 r.2.2.1).1, r.2.2.2.2)
def rt_rem (r : rT) : rT := (r.1, r.2.1, r.2.2.1, r.2.2.2.1, min (r.2.2.2.2.1 + 1) 20, (r.2.2.2.2.2.1 + 1) % 20, (fun i => if i = (r.2.2.2.2.2.1 + 1) % 20 then r.1.length else r.2.2.2.2.2.2.1 i), (fun i => if i = (r.2.2.2.2.2.1 + 1) % 20 then r.2.1 else r.2.2.2.2.2.2.2.1 i), (fun i => if i = (r.2.2.2.2.2.1 + 1) % 20 then r.2.2.1 else r.2.2.2.2.2.2.2.2 i))
def rt_back (r : rT) : rT := (r.1.take (r.2.2.2.2.2.2.1 r.2.2.2.2.2.1), r.2.2.2.2.2.2.2.1 r.2.2.2.2.2.1, r.2.2.2.2.2.2.2.2 r.2.2.2.2.2.1, r.2.2.2.1, r.2.2.2.2.1 - 1, (r.2.2.2.2.2.1 + 19) % 20, r.2.2.2.2.2.2)
def rt_new (P : List (Nat × Nat × Nat)) (c : Nat) (f : Nat → Int32) (r : rT) : rT := (P, c, f, r.2.2.2.1, 0, r.2.2.2.2.2)
def rt_coin (c : Nat) (r : rT) : rT := (r.1, c, r.2.2)
def rt_seed (s : Nat) (r : rT) : rT := (r.1, r.2.1, r.2.2.1, s, r.2.2.2.2)
/-- the class's roll -/
def cRl (w : hb_W) (r : rT) : Prop := cP w r.1 ∧ hb_fI w 7 3 0 = nI r.1.length ∧ hb_fI w 7 4 0 = nI r.2.1 ∧ hb_fI w 7 6 0 = nI r.2.2.2.1 ∧ hb_fI w 7 7 0 = nI r.2.2.2.2.1 ∧ hb_fI w 7 8 0 = nI r.2.2.2.2.2.1 ∧ (∀ l, l < 9 → hb_aI w 7 4 0 l = r.2.2.1 l) ∧ ∀ i, i < 20 → hb_aI w 7 5 0 i = nI (r.2.2.2.2.2.2.1 i) ∧ hb_aI w 7 6 0 i = nI (r.2.2.2.2.2.2.2.1 i) ∧ ∀ l, l < 9 → hb_aI w 7 7 0 (i * 9 + l) = r.2.2.2.2.2.2.2.2 i l
def ry_lot (x : Int32) : Prop := x = -1 ∨ ∃ h, h < 64 ∧ x = nI h
def ry_ok (n c : Nat) (f : Nat → Int32) : Prop := c < 100 ∧ (∀ l, l < 9 → ry_lot (f l)) ∧ (n = 0 → ∀ l, l < 9 → f l = -1)
/-- what holds of a roll at any time -/
def vRl (r : rT) : Prop := r.1.length ≤ 400 ∧ sp_okP r.1 ∧ ry_ok r.1.length r.2.1 r.2.2.1 ∧ r.2.2.2.1 < 2 ^ 31 ∧ r.2.2.2.2.1 ≤ 20 ∧ r.2.2.2.2.2.1 < 20 ∧ ∀ j, j < r.2.2.2.2.1 → (r.2.2.2.2.2.2.1 ((r.2.2.2.2.2.1 + 20 - j) % 20) ≤ if j = 0 then r.1.length else r.2.2.2.2.2.2.1 ((r.2.2.2.2.2.1 + 21 - j) % 20)) ∧ ry_ok (r.2.2.2.2.2.2.1 ((r.2.2.2.2.2.1 + 20 - j) % 20)) (r.2.2.2.2.2.2.2.1 ((r.2.2.2.2.2.1 + 20 - j) % 20)) (r.2.2.2.2.2.2.2.2 ((r.2.2.2.2.2.1 + 20 - j) % 20))
theorem ry_dr_lot {n h : Nat} (hh : h < 64) {s : Nat} {f : Nat → Int32} (hf : ∀ l, l < 9 → ry_lot (f l)) : ∀ m, ∀ l, l < 9 → ry_lot ((ry_dr n (nI h) m s f).2 l)
  | 0, l, hl => hf l hl
  | m + 1, l, hl => by
    show ry_lot ((if ry_sd (ry_dr n (nI h) m s f).1 / 64 % n = 0 then upd (ry_dr n (nI h) m s f).2 m (nI h) else (ry_dr n (nI h) m s f).2) l)
    have ih := ry_dr_lot (n := n) hh (s := s) hf m l hl
    split
    · unfold upd
      by_cases e : l = m
      · rw [if_pos e]; exact Or.inr ⟨h, hh, rfl⟩
      · rw [if_neg e]; exact ih
    · exact ih
theorem vRl.add {L h q t : Nat} {r : rT} (hv : vRl r) (hh : h < 64) (hq : q < 100) (ht : t < 2) (hn : r.1.length < 400) : vRl (rt_add L h q t r) := by
  obtain ⟨P, c, f, s, a, nw, oc, oco, ol⟩ := r
  obtain ⟨v1, v2, ⟨v3, v4, v5⟩, v6, v7, v8, v9⟩ := hv
  have hl : (P ++ [(h, q, t)]).length = P.length + 1 := by rw [List.length_append, List.length_singleton]
  refine ⟨by show (P ++ [(h, q, t)]).length ≤ 400; rw [hl]; exact hn, fun p hp => ?_, ⟨v3, ry_dr_lot hh v4 L, fun z => ?_⟩, ry_dr_lt v6 L, v7, v8, fun j hj => ⟨?_, (v9 j hj).2⟩⟩
  · rcases List.mem_append.mp hp with z | z
    · exact v2 p z
    · rw [List.mem_singleton.mp z]; exact ⟨hh, hq, ht⟩
  · exfalso
    have : (P ++ [(h, q, t)]).length = 0 := z
    omega
  · have := (v9 j hj).1
    show oc ((nw + 20 - j) % 20) ≤ if j = 0 then (P ++ [(h, q, t)]).length else oc ((nw + 21 - j) % 20)
    by_cases e : j = 0
    · rw [if_pos e, hl]
      have h2 : oc ((nw + 20 - j) % 20) ≤ if j = 0 then P.length else oc ((nw + 21 - j) % 20) := this
      rw [if_pos e] at h2
      omega
    · rw [if_neg e]
      have h2 : oc ((nw + 20 - j) % 20) ≤ if j = 0 then P.length else oc ((nw + 21 - j) % 20) := this
      rw [if_neg e] at h2
      exact h2
theorem vRl.rem {r : rT} (hv : vRl r) : vRl (rt_rem r) := by
  obtain ⟨P, c, f, s, a, nw, oc, oco, ol⟩ := r
  obtain ⟨v1, v2, v3, v6, v7, v8, v9⟩ := hv
  dsimp only at v1 v2 v3 v6 v7 v8 v9
  refine ⟨v1, v2, v3, v6, by show min (a + 1) 20 ≤ 20; omega, by show (nw + 1) % 20 < 20; omega, fun j hj => ?_⟩
  have hj' : j < min (a + 1) 20 := hj
  show ((if ((nw + 1) % 20 + 20 - j) % 20 = (nw + 1) % 20 then P.length else oc (((nw + 1) % 20 + 20 - j) % 20)) ≤ if j = 0 then P.length else (if ((nw + 1) % 20 + 21 - j) % 20 = (nw + 1) % 20 then P.length else oc (((nw + 1) % 20 + 21 - j) % 20))) ∧ ry_ok (if ((nw + 1) % 20 + 20 - j) % 20 = (nw + 1) % 20 then P.length else oc (((nw + 1) % 20 + 20 - j) % 20)) (if ((nw + 1) % 20 + 20 - j) % 20 = (nw + 1) % 20 then c else oco (((nw + 1) % 20 + 20 - j) % 20)) (if ((nw + 1) % 20 + 20 - j) % 20 = (nw + 1) % 20 then f else ol (((nw + 1) % 20 + 20 - j) % 20))
  cases j with
  | zero =>
    have e : ((nw + 1) % 20 + 20 - 0) % 20 = (nw + 1) % 20 := by omega
    rw [if_pos e, if_pos rfl, if_pos e, if_pos e]
    exact ⟨Nat.le_refl _, v3⟩
  | succ j =>
    have e1 : ¬ ((nw + 1) % 20 + 20 - (j + 1)) % 20 = (nw + 1) % 20 := by omega
    have e2 : ((nw + 1) % 20 + 20 - (j + 1)) % 20 = (nw + 20 - j) % 20 := by omega
    rw [if_neg e1, if_neg (by omega), if_neg e1, if_neg e1, e2]
    obtain ⟨h1, h2⟩ := v9 j (by omega)
    refine ⟨?_, h2⟩
    by_cases e3 : j = 0
    · subst e3
      rw [if_pos (by omega)]
      rw [if_pos rfl] at h1
      exact h1
    · rw [if_neg (by omega)]
      rw [if_neg e3] at h1
      rw [show ((nw + 1) % 20 + 21 - (j + 1)) % 20 = (nw + 21 - j) % 20 by omega]
      exact h1
theorem vRl.back {r : rT} (hv : vRl r) (ha : 0 < r.2.2.2.2.1) : vRl (rt_back r) ∧ (rt_back r).1.length = r.2.2.2.2.2.2.1 r.2.2.2.2.2.1 := by
  obtain ⟨P, c, f, s, a, nw, oc, oco, ol⟩ := r
  obtain ⟨v1, v2, v3, v6, v7, v8, v9⟩ := hv
  dsimp only at v1 v2 v3 v6 v7 v8 v9 ha
  obtain ⟨h1, h2⟩ := v9 0 ha
  have e0 : (nw + 20 - 0) % 20 = nw := by omega
  rw [e0, if_pos rfl] at h1
  rw [e0] at h2
  have hl : (P.take (oc nw)).length = oc nw := by rw [List.length_take]; omega
  refine ⟨⟨by show (P.take (oc nw)).length ≤ 400; omega, fun p hp => v2 p (List.mem_of_mem_take hp), ?_, v6, by show a - 1 ≤ 20; omega, by show (nw + 19) % 20 < 20; omega, fun j hj => ?_⟩, hl⟩
  · show ry_ok (P.take (oc nw)).length (oco nw) (ol nw)
    rw [hl]; exact h2
  · have hj' : j < a - 1 := hj
    obtain ⟨g1, g2⟩ := v9 (j + 1) (by omega)
    have e2 : ((nw + 19) % 20 + 20 - j) % 20 = (nw + 20 - (j + 1)) % 20 := by omega
    show (oc (((nw + 19) % 20 + 20 - j) % 20) ≤ if j = 0 then (P.take (oc nw)).length else oc (((nw + 19) % 20 + 21 - j) % 20)) ∧ ry_ok (oc (((nw + 19) % 20 + 20 - j) % 20)) (oco (((nw + 19) % 20 + 20 - j) % 20)) (ol (((nw + 19) % 20 + 20 - j) % 20))
    rw [e2]
    refine ⟨?_, g2⟩
    rw [if_neg (by omega)] at g1
    by_cases e3 : j = 0
    · subst e3
      rw [if_pos rfl, hl]
      rw [show (nw + 21 - (0 + 1)) % 20 = nw by omega] at g1
      exact g1
    · rw [if_neg e3, show ((nw + 19) % 20 + 21 - j) % 20 = (nw + 21 - (j + 1)) % 20 by omega]
      exact g1
theorem vRl.new {P : List (Nat × Nat × Nat)} {c : Nat} {f : Nat → Int32} {r : rT} (hv : vRl r) (h1 : P.length ≤ 400) (h2 : sp_okP P) (h3 : ry_ok P.length c f) : vRl (rt_new P c f r) := ⟨h1, h2, h3, hv.2.2.2.1, Nat.zero_le 20, hv.2.2.2.2.2.1, fun j hj => absurd hj (Nat.not_lt_zero j)⟩
theorem vRl.coin {c : Nat} {r : rT} (hv : vRl r) (hc : c < 100) : vRl (rt_coin c r) := ⟨hv.1, hv.2.1, ⟨hc, hv.2.2.1.2⟩, hv.2.2.2⟩
theorem vRl.seed {s : Nat} {r : rT} (hv : vRl r) (hs : s < 2 ^ 31) : vRl (rt_seed s r) := ⟨hv.1, hv.2.1, hv.2.2.1, hs, hv.2.2.2.2⟩
theorem cRl.ag {Pp : Nat → Nat → Prop} {w w2 : hb_W} {r : rT} (h : cRl w r) (ha : hw_ag Pp w w2) (hn : ¬ Pp 7 0) : cRl w2 r := by
  have eI : ∀ k, hb_fI w2 7 k 0 = hb_fI w 7 k 0 := fun k => ha.1 7 k 0 hn
  have eA : ∀ k, hb_aI w2 7 k 0 = hb_aI w 7 k 0 := fun k => ha.2.2.2.1 7 k 0 hn
  unfold cRl cP at h ⊢
  simp only [eI, eA]
  exact h
theorem cP.app {w w2 : hb_W} {P : List (Nat × Nat × Nat)} {h q t : Nat} (hP : cP w P) (e1 : hb_aI w2 7 1 0 = upd (hb_aI w 7 1 0) P.length (nI h)) (e2 : hb_aI w2 7 2 0 = upd (hb_aI w 7 2 0) P.length (nI q)) (e3 : hb_aI w2 7 3 0 = upd (hb_aI w 7 3 0) P.length (nI t)) : cP w2 (P ++ [(h, q, t)]) := by
  intro k p hk
  rw [e1, e2, e3]
  by_cases e : k < P.length
  · rw [List.getElem?_append_left e] at hk
    rw [pk_un (by omega), pk_un (by omega), pk_un (by omega)]
    exact hP k p hk
  · rw [List.getElem?_append_right (by omega)] at hk
    have : k - P.length = 0 := by
      rcases Nat.eq_zero_or_pos (k - P.length) with z | z
      · exact z
      · rw [List.getElem?_eq_none (by simp; omega)] at hk
        cases hk
    rw [this] at hk
    have ek : k = P.length := by omega
    cases hk
    rw [ek, pk_us, pk_us, pk_us]
    exact ⟨rfl, rfl, rfl⟩
section HRO
variable {d : Nat} {w : hb_W} {Q : Option hb_V → hb_W → Prop}
theorem ok_draw {s n : Nat} (hs : s < 2 ^ 31) (h6 : hb_fI w 7 6 0 = nI s) (hn0 : 0 < n) (hn : n < 1000) (q : Q (some (hb_i (nI (ry_sd s / 64 % n)))) (hb_pI w 7 6 0 (nI (ry_sd s)))) : hb_O yX8_draw cX8_draw 2 (some .int) d [hb_r 7 0 0, hb_i (nI n)] w Q := by
  have hl := ry_sd_lt s
  refine bk_X8_draw_0 ⟨fun _ => ⟨nI_ne0 hn0 (by omega), ?_⟩, fun z => absurd (show nI 0 < nI n from nI_lt hn0 (by omega)) z⟩
  rw [h6, ry_c hs, show (64 : Int32) = nI 64 from rfl, pk_div hl (by decide) (by decide), pk_rem (by omega) hn0 (by omega)]
  exact q
theorem ok_admit {L h q t : Nat} {r : rT} (hL : L ≤ 9) (hn : r.1.length < 400) (hs : r.2.2.2.1 < 2 ^ 31) (hR : cRl w r) (qq : ∀ w2, cRl w2 (rt_add L h q t r) → hw_ag (fun t _ => t = 7) w w2 → w2.2.2.1 = w.2.2.1 → Q none w2) : hb_O yX8_admit cX8_admit 6 none (d + 1) [hb_r 7 0 0, hb_i (nI h), hb_i (nI q), hb_i (nI t), hb_i (nI L)] w Q := by
  obtain ⟨P, c, f, s, a, nw, oc, oco, ol⟩ := r
  obtain ⟨h1, h3, h4, h6, h7, h8, h9, h10⟩ := hR
  dsimp only at h1 h3 h4 h6 h7 h8 h9 h10 hn hs
  have vn : vp_in (hb_fI w 7 3 0) 400 := by rw [h3]; exact vp_in_nI hn (by decide)
  have p7 : (fun t (_ : Nat) => t = 7) 7 0 := rfl
  have loop : ∀ (n i : Nat), i + n = L → ∀ w', cP w' (P ++ [(h, q, t)]) → hb_fI w' 7 3 0 = nI (P.length + 1) → hb_fI w' 7 4 0 = nI c → hb_fI w' 7 6 0 = nI (ry_dr (P.length + 1) (nI h) i s f).1 → hb_fI w' 7 7 0 = nI a → hb_fI w' 7 8 0 = nI nw → (∀ l, l < 9 → hb_aI w' 7 4 0 l = (ry_dr (P.length + 1) (nI h) i s f).2 l) → (∀ i, i < 20 → hb_aI w' 7 5 0 i = nI (oc i) ∧ hb_aI w' 7 6 0 i = nI (oco i) ∧ ∀ l, l < 9 → hb_aI w' 7 7 0 (i * 9 + l) = ol i l) → hw_ag (fun t _ => t = 7) w w' → w'.2.2.1 = w.2.2.1 → hb_R yX8_admit cX8_admit 6 none (d + 1) 54 [some (hb_r 7 0 0), some (hb_i (nI h)), some (hb_i (nI q)), some (hb_i (nI t)), some (hb_i (nI L)), some (hb_i (nI i))] [] w' Q := by
    intro n
    induction n with
    | zero =>
      intro i hi w' g1 g2 g3 g4 g5 g6 g7 g8 g9 g10
      rw [Nat.add_zero] at hi
      subst hi
      refine bk_X8_admit_54 ⟨fun _ => qq w' ⟨g1, ?_, g3, g4, g5, g6, g7, g8⟩ g9 g10, fun z => absurd (nI_le (Nat.le_refl _) (by omega)) z⟩
      show hb_fI w' 7 3 0 = nI (P ++ [(h, q, t)]).length
      rw [g2, List.length_append]
      rfl
    | succ n ih =>
      intro i hi w' g1 g2 g3 g4 g5 g6 g7 g8 g9 g10
      have hlt := ry_dr_lt (n := P.length + 1) (x := nI h) (f := f) hs i
      refine bk_X8_admit_54 ⟨fun z => absurd z (nI_ge (by omega) (by omega)), fun _ => ⟨fun z => absurd z (nI_ge (b := 9) (by omega) (by decide)), fun _ => ?_⟩⟩
      rw [g2]
      have hsd := ry_sd_lt (ry_dr (P.length + 1) (nI h) i s f).1
      have hmod : ry_sd (ry_dr (P.length + 1) (nI h) i s f).1 / 64 % (P.length + 1) < P.length + 1 := Nat.mod_lt _ (by omega)
      refine ok_draw hlt g4 (by omega) (by omega) ?_
      refine bk_X8_admit_76 ?_
      rw [show (0 : Int32) = nI 0 from rfl, nI_eq (by omega) (by decide), nI_1]
      have hdr : ry_dr (P.length + 1) (nI h) (i + 1) s f = (ry_sd (ry_dr (P.length + 1) (nI h) i s f).1, if ry_sd (ry_dr (P.length + 1) (nI h) i s f).1 / 64 % (P.length + 1) = 0 then upd (ry_dr (P.length + 1) (nI h) i s f).2 i (nI h) else (ry_dr (P.length + 1) (nI h) i s f).2) := rfl
      refine ⟨fun z => ?_, fun z => ⟨vp_in_nI (by omega) (by decide), ?_⟩⟩
      · refine ih (i + 1) (by omega) _ g1 g2 g3 ?_ g5 g6 (fun l hl => ?_) g8 (g9.pI p7) g10
        · rw [hdr]; rfl
        · rw [hdr, if_neg z]; exact g7 l hl
      · rw [nI_clamp (by omega)]
        refine ih (i + 1) (by omega) _ g1 g2 g3 ?_ g5 g6 (fun l hl => ?_) g8 ((g9.pI p7).sI p7) g10
        · rw [hdr]; rfl
        · rw [hdr, if_pos z, hw_aIs]
          show upd (hb_aI w' 7 4 0) i (nI h) l = upd _ i (nI h) l
          unfold upd
          split
          · rfl
          · exact g7 l hl
  refine bk_X8_admit_0 ⟨fun _ => ⟨vn, vn, vn, ?_⟩, fun z => absurd (by rw [h3]; exact nI_lt hn (by decide)) z⟩
  rw [h3, nI_clamp (by omega), nI_1]
  exact loop L 0 (by omega) _ (h1.app rfl rfl rfl) rfl h4 h6 h7 h8 h9 h10 ((((hw_ag.rf (P := fun t _ => t = 7)).sI p7).sI p7).sI p7 |>.pI p7) rfl
theorem ok_remember {r : rT} (hn : r.2.2.2.2.2.1 < 20) (ha : r.2.2.2.2.1 ≤ 20) (hR : cRl w r) (qq : ∀ w2, cRl w2 (rt_rem r) → hw_ag (fun t _ => t = 7) w w2 → w2.2.2.1 = w.2.2.1 → Q none w2) : hb_O yX8_remember cX8_remember 1 none (d + 1) [hb_r 7 0 0] w Q := by
  obtain ⟨P, c, f, s, a, nw, oc, oco, ol⟩ := r
  obtain ⟨h1, h3, h4, h6, h7, h8, h9, h10⟩ := hR
  dsimp only at h1 h3 h4 h6 h7 h8 h9 h10 hn ha
  have p7 : (fun t (_ : Nat) => t = 7) 7 0 := rfl
  have hm : (nw + 1) % 20 < 20 := Nat.mod_lt _ (by decide)
  have en : ((hb_fI w 7 8 0) + (1 : Int32)) - ((hb_fI w 7 8 0) + (1 : Int32)) / (20 : Int32) * (20 : Int32) = nI ((nw + 1) % 20) := by
    rw [h8, nI_1, show (20 : Int32) = nI 20 from rfl, pk_rem (by omega) (by decide) (by decide)]
  have e9 : nI ((nw + 1) % 20) * (9 : Int32) = nI ((nw + 1) % 20 * 9) := pk_mul _ 9
  refine bk_X8_remember_0 ?_
  rw [en, e9, nI_clamp (by omega), nI_clamp (by omega)]
  refine ⟨vp_in_nI hm (by decide), vp_in_nI hm (by decide), ⟨nI_pos (by omega), by show (nw + 1) % 20 * 9 + 9 ≤ 180; omega⟩, ?_⟩
  refine qq _ ⟨h1, h3, h4, h6, ?_, rfl, h9, fun i hi => ⟨?_, ?_, fun l hl => ?_⟩⟩ ((((((hw_ag.rf (P := fun t _ => t = 7)).pI p7).pI p7).sI p7).sI p7).sI p7) rfl
  · show (if hb_fI w 7 7 0 + 1 < 20 then hb_fI w 7 7 0 + 1 else 20) = nI (min (a + 1) 20)
    rw [h7]
    exact hw_min1 ha (by decide)
  · show upd (hb_aI w 7 5 0) ((nw + 1) % 20) (hb_fI w 7 3 0) i = nI (if i = (nw + 1) % 20 then P.length else oc i)
    unfold upd
    split
    · exact h3
    · exact (h10 i hi).1
  · show upd (hb_aI w 7 6 0) ((nw + 1) % 20) (hb_fI w 7 4 0) i = nI (if i = (nw + 1) % 20 then c else oco i)
    unfold upd
    split
    · exact h4
    · exact (h10 i hi).2.1
  · show va_cpy (hb_aI w 7 4 0) (hb_aI w 7 7 0) 0 ((nw + 1) % 20 * 9) 9 (i * 9 + l) = (if i = (nw + 1) % 20 then f else ol i) l
    by_cases e : i = (nw + 1) % 20
    · rw [if_pos e, pk_cpy_in (by omega) (by omega), show 0 + (i * 9 + l - (nw + 1) % 20 * 9) = l by omega]
      exact h9 l hl
    · rw [if_neg e, pk_cpy_out (by omega)]
      exact (h10 i hi).2.2 l hl
theorem ok_takeBack {r : rT} (hv : vRl r) (ha : 0 < r.2.2.2.2.1) (hR : cRl w r) (qq : ∀ w2, cRl w2 (rt_back r) → hw_ag (fun t _ => t = 7) w w2 → w2.2.2.1 = w.2.2.1 → Q none w2) : hb_O yX8_takeBack cX8_takeBack 1 none (d + 1) [hb_r 7 0 0] w Q := by
  have hlen := (hv.back ha).2
  obtain ⟨P, c, f, s, a, nw, oc, oco, ol⟩ := r
  obtain ⟨h1, h3, h4, h6, h7, h8, h9, h10⟩ := hR
  obtain ⟨v1, v2, v3, v6, v7, v8, v9⟩ := hv
  dsimp only at h1 h3 h4 h6 h7 h8 h9 h10 ha v7 v8 hlen
  have p7 : (fun t (_ : Nat) => t = 7) 7 0 := rfl
  obtain ⟨r1, r2, r3⟩ := h10 nw v8
  have e9 : nI nw * (9 : Int32) = nI (nw * 9) := pk_mul _ 9
  have en : nI nw + (20 : Int32) - (1 : Int32) = nI (nw + 19) := by
    rw [show (20 : Int32) = nI 20 from rfl, nI_add, show (1 : Int32) = nI 1 from rfl, pk_sub (by omega)]
    congr 1
  refine bk_X8_takeBack_0 ?_
  rw [h8, e9, en, show (20 : Int32) = nI 20 from rfl, pk_rem (by omega) (by decide) (by decide), nI_clamp (by omega), nI_clamp (by omega)]
  refine ⟨vp_in_nI v8 (by decide), vp_in_nI v8 (by decide), ⟨nI_pos (by omega), by show nw * 9 + 9 ≤ 180; omega⟩, ?_⟩
  refine qq _ ⟨fun k p hk => ?_, ?_, r2, h6, ?_, rfl, fun l hl => ?_, h10⟩ ((((((hw_ag.rf (P := fun t _ => t = 7)).pI p7).pI p7).sI p7).pI p7).pI p7) rfl
  · have hk' : (P.take (oc nw))[k]? = some p := hk
    rw [List.getElem?_take] at hk'
    by_cases e : k < oc nw
    · rw [if_pos e] at hk'
      exact h1 k p hk'
    · rw [if_neg e] at hk'
      cases hk'
  · show hb_aI w 7 5 0 nw = nI (P.take (oc nw)).length
    have : (P.take (oc nw)).length = oc nw := hlen
    rw [this]; exact r1
  · show (if (0 : Int32) < hb_fI w 7 7 0 - 1 then hb_fI w 7 7 0 - 1 else 0) = nI (a - 1)
    rw [h7, show (1 : Int32) = nI 1 from rfl, pk_sub (by omega)]
    by_cases e : 0 < a - 1
    · exact if_pos (show nI 0 < nI (a - 1) from nI_lt e (by omega))
    · have e2 : a - 1 = 0 := by omega
      rw [e2]
      rfl
  · show va_cpy (hb_aI w 7 7 0) (hb_aI w 7 4 0) (nw * 9) 0 9 l = ol nw l
    rw [pk_cpy_in (by omega) (by omega), show nw * 9 + (l - 0) = nw * 9 + l by omega]
    exact r3 l hl
theorem ok_restart {c : Nat} {r : rT} (hR : cRl w r) (qq : ∀ w2, cRl w2 (rt_new [] c (fun _ => -1) r) → hw_ag (fun t _ => t = 7) w w2 → w2.2.2.1 = w.2.2.1 → Q none w2) : hb_O yX8_restart cX8_restart 2 none (d + 1) [hb_r 7 0 0, hb_i (nI c)] w Q := by
  obtain ⟨P, c0, f, s, a, nw, oc, oco, ol⟩ := r
  obtain ⟨h1, h3, h4, h6, h7, h8, h9, h10⟩ := hR
  have p7 : (fun t (_ : Nat) => t = 7) 7 0 := rfl
  refine bk_X8_restart_0 (ok_fill (n := 9) rfl (by decide) (by decide) (bk_X8_restart_23 ?_))
  refine qq _ ⟨fun k p hk => (by cases hk), rfl, rfl, h6, rfl, h8, fun l hl => ?_, h10⟩ (((((hw_ag.rf (P := fun t _ => t = 7)).pI p7).pI p7).pI p7).sI p7) rfl
  show hw_fill 9 (-1) (hb_aI w 7 4 0) l = -1
  unfold hw_fill
  rw [if_pos hl]
end HRO
