/-! ===== how far a book of the class is out ===== -/
noncomputable def sv_is (P : Prop) : Nat := @ite Nat P (Classical.propDecidable P) 1 0
theorem sv_is_y {P : Prop} (h : P) : sv_is P = 1 := by
  unfold sv_is
  exact if_pos h
theorem sv_is_n {P : Prop} (h : ¬ P) : sv_is P = 0 := by
  unfold sv_is
  exact if_neg h
noncomputable def sv_cnt (P : Nat → Prop) : Nat → Nat
  | 0 => 0
  | n + 1 => sv_cnt P n + sv_is (P n)
theorem sv_cnt_le (P : Nat → Prop) : ∀ n, sv_cnt P n ≤ n
  | 0 => Nat.le_refl 0
  | n + 1 => by
    have h := sv_cnt_le P n
    unfold sv_cnt sv_is
    split <;> omega
def sv_mx (f : Nat → Nat) : Nat → Nat
  | 0 => 0
  | n + 1 => if sv_mx f n < f n then f n else sv_mx f n
theorem sv_mx_le {f : Nat → Nat} {c : Nat} (h : ∀ k, f k ≤ c) : ∀ n, sv_mx f n ≤ c
  | 0 => Nat.zero_le c
  | n + 1 => by
    have h1 := sv_mx_le h n
    have h2 := h n
    unfold sv_mx
    split <;> omega
theorem sv_top_le {f : Nat → Nat} {c : Nat} (h : ∀ k, f k ≤ c) : ∀ n, (sv_top f n).2 ≤ c
  | 0 => Nat.zero_le c
  | n + 1 => by
    have h1 := sv_top_le h n
    have h2 := h n
    unfold sv_top
    split
    · exact h2
    · exact h1
theorem sv_top_lt {f : Nat → Nat} : ∀ n, 0 < (sv_top f n).2 → (sv_top f n).1 < n ∧ f (sv_top f n).1 = (sv_top f n).2
  | 0, h => absurd h (Nat.lt_irrefl 0)
  | n + 1, h => by
    unfold sv_top at h ⊢
    by_cases c : (sv_top f n).2 < f n
    · rw [if_pos c] at h ⊢
      exact ⟨Nat.lt_succ_self n, rfl⟩
    · rw [if_neg c] at h ⊢
      have := sv_top_lt n h
      exact ⟨Nat.lt_succ_of_lt this.1, this.2⟩
theorem sp_sum_part (f : Nat → Nat) {i : Nat} : ∀ {n : Nat}, i < n → f i ≤ sp_sum f n
  | 0, h => absurd h (Nat.not_lt_zero i)
  | n + 1, h => by
    unfold sp_sum
    rcases Nat.lt_or_ge i n with z | z
    · have := sp_sum_part f z; omega
    · have : i = n := by omega
      subst this
      omega
theorem sv_told_ge {L R : Nat} {mk : Nat → Nat → Nat} {T : Nat → Nat} {h : Nat} (hh : h < 64) : ∀ r, T h ≤ sv_told L R mk T h r := by
  have one : ∀ r, T h ≤ sp_cr L mk T r (mk h (2 + r) % L) := by
    intro r
    have := sp_sum_part (fun x => if mk x (2 + r) % L = mk h (2 + r) % L then T x else 0) hh
    exact (if_pos (c := mk h (2 + r) % L = mk h (2 + r) % L) (t := T h) (e := 0) rfl) ▸ this
  intro r
  induction r with
  | zero => exact one 0
  | succ r ih =>
    unfold sv_told
    split
    · exact Nat.le_min.mpr ⟨ih, one (r + 1)⟩
    · exact ih
theorem sv_told_le {L R : Nat} {mk : Nat → Nat → Nat} {ps : List (Nat × Nat)} (hp : ∀ p ∈ ps, p.1 < 64) (h : Nat) : ∀ r, sv_told L R mk (sp_T ps) h r ≤ ps.length := by
  intro r
  induction r with
  | zero =>
    have := sp_cr_le L mk (sp_T ps) 0 (mk h 2 % L)
    rw [sp_T_sum ps hp] at this
    exact this
  | succ r ih =>
    unfold sv_told
    split
    · exact Nat.le_trans (Nat.min_le_left _ _) ih
    · exact ih
def sv_mid (L : Nat) (ps : List (Nat × Nat)) : Int32 := match sv_half (sp_B L ps) (ps.length / 2) L 0 0 with
  | some k => nI ((k * 100 + L - 1) / L)
  | none => -1
def sv_gift (ps : List (Nat × Nat)) : Int32 := match sv_half (sp_G ps) (ps.length / 2) 100 0 0 with
  | some k => nI k
  | none => -1
def sv_oft (L : Nat) (ps : List (Nat × Nat)) : Int32 := if (sv_top (fun k => (sp_of L (ps.map Prod.fst) k).2) L).2 = 0 then -1 else nI (sp_of L (ps.map Prod.fst) (sv_top (fun k => (sp_of L (ps.map Prod.fst) k).2) L).1).1
def sv_hood (ps : List (Nat × Nat)) : Int32 := if (sv_top (sp_T ps) 64).2 = 0 then -1 else nI (sv_top (sp_T ps) 64).1
def sv_mtold (L R : Nat) (mk : Nat → Nat → Nat) (T : Nat → Nat) : Nat := sv_mx (fun h => sv_told L R mk T h (R - 1) - T h) 64
def sv_wasP (L : Nat) (mk : Nat → Nat → Nat) (T : Nat → Nat) (h : Nat) : Prop := sp_bit L mk (fun h => 0 < T h) (mk h 5 % (8 * L)) ∧ sp_bit L mk (fun h => 0 < T h) (mk h 6 % (8 * L))
noncomputable def sv_wr (L : Nat) (mk : Nat → Nat → Nat) (T : Nat → Nat) : Nat := sv_cnt (fun h => T h = 0 ∧ sv_wasP L mk T h) 64
theorem sp_B_le (L : Nat) (ps : List (Nat × Nat)) (k : Nat) : sp_B L ps k ≤ ps.length := List.countP_le_length
theorem sp_G_le (ps : List (Nat × Nat)) (k : Nat) : sp_G ps k ≤ ps.length := List.countP_le_length
section HWH
variable {d : Nat} {w : hb_W} {Q : Option hb_V → hb_W → Prop}
theorem ok_middleSaid {g L R : Nat} {ps : List (Nat × Nat)} (hg : g < 4) (hB : cH w g L R ps) (q : Q (some (hb_i (sv_mid L ps))) w) : hb_O yX0_middleSaid cX0_middleSaid 3 (some .int) d [hb_r 9 g 0] w Q := by
  obtain ⟨⟨n1, n2, n3, n4, n5, n6⟩, hl, hr, ⟨t1, t2, t3, t4, t5, t6, t7⟩⟩ := hB
  have key : ∀ (n i s : Nat), i + n = L → s ≤ i * 401 → sv_half (sp_B L ps) (ps.length / 2) n i s = sv_half (sp_B L ps) (ps.length / 2) L 0 0 → hb_R yX0_middleSaid cX0_middleSaid 3 (some .int) d 4 [some (hb_r 9 g 0), some (hb_i (nI s)), some (hb_i (nI i))] [] w Q := by
    intro n
    induction n with
    | zero =>
      intro i s hi hs e
      rw [Nat.add_zero] at hi
      subst hi
      unfold sv_mid at q
      rw [← e] at q
      exact bk_X0_middleSaid_4 hg ⟨fun _ => q, fun c => absurd (by rw [hl]; exact nI_le (Nat.le_refl _) (by omega)) c⟩
    | succ n ih =>
      intro i s hi hs e
      have hb := sp_B_le L ps i
      have ed : hb_fI w 9 3 g / 2 = nI (ps.length / 2) := by rw [t1, show (2 : Int32) = nI 2 from rfl, pk_div (by omega) (by decide) (by decide)]
      refine bk_X0_middleSaid_4 hg ⟨fun c => absurd c (by rw [hl]; exact nI_ge (by omega) (by omega)), fun _ => ⟨vp_in_nI (by omega) (by decide), fun c => ?_, fun c => ?_⟩⟩
      · rw [nI_clamp (by omega), t6 i (by omega), nI_add, ed, nI_leI (by omega) (by omega)] at c
        rw [nI_clamp (by omega), t6 i (by omega), nI_add, nI_1]
        refine ih (i + 1) (s + sp_B L ps i) (by omega) (by omega) ?_
        rw [← e]
        show _ = (if ps.length / 2 < s + sp_B L ps i then some i else _)
        rw [if_neg (by omega)]
      · rw [nI_clamp (by omega), t6 i (by omega), nI_add, ed, nI_leI (by omega) (by omega)] at c
        have e2 : sv_half (sp_B L ps) (ps.length / 2) (n + 1) i s = some i := by
          show (if ps.length / 2 < s + sp_B L ps i then some i else _) = _
          rw [if_pos (by omega)]
        unfold sv_mid at q
        rw [← e, e2] at q
        refine ⟨by rw [hl]; exact nI_ne0 (by omega) (by omega), ?_⟩
        have e3 : nI i * 100 + hb_fI w 9 0 g - 1 = nI (i * 100 + L - 1) := by
          rw [hl, show nI i * 100 = nI (i * 100) from pk_mul i 100, nI_add, show (1 : Int32) = nI 1 from rfl, pk_sub (by omega)]
        rw [e3, hl, pk_div (by omega) (by omega) (by omega)]
        exact q
  exact bk_X0_middleSaid_0 hg (key L 0 0 (by omega) (by omega) rfl)
theorem ok_middleGift {g L R : Nat} {ps : List (Nat × Nat)} (hg : g < 4) (hB : cH w g L R ps) (q : Q (some (hb_i (sv_gift ps))) w) : hb_O yX0_middleGift cX0_middleGift 3 (some .int) d [hb_r 9 g 0] w Q := by
  obtain ⟨⟨n1, n2, n3, n4, n5, n6⟩, hl, hr, ⟨t1, t2, t3, t4, t5, t6, t7⟩⟩ := hB
  have key : ∀ (n i s : Nat), i + n = 100 → s ≤ i * 401 → sv_half (sp_G ps) (ps.length / 2) n i s = sv_half (sp_G ps) (ps.length / 2) 100 0 0 → hb_R yX0_middleGift cX0_middleGift 3 (some .int) d 4 [some (hb_r 9 g 0), some (hb_i (nI s)), some (hb_i (nI i))] [] w Q := by
    intro n
    induction n with
    | zero =>
      intro i s hi hs e
      rw [Nat.add_zero] at hi
      subst hi
      unfold sv_gift at q
      rw [← e] at q
      exact bk_X0_middleGift_4 hg ⟨fun _ => q, fun c => absurd (nI_le (Nat.le_refl 100) (by decide)) c⟩
    | succ n ih =>
      intro i s hi hs e
      have hb := sp_G_le ps i
      have ed : hb_fI w 9 3 g / 2 = nI (ps.length / 2) := by rw [t1, show (2 : Int32) = nI 2 from rfl, pk_div (by omega) (by decide) (by decide)]
      refine bk_X0_middleGift_4 hg ⟨fun c => absurd c (nI_ge (b := 100) (by omega) (by decide)), fun _ => ⟨vp_in_nI (by omega) (by decide), fun c => ?_, fun c => ?_⟩⟩
      · rw [nI_clamp (by omega), t5 i (by omega), nI_add, ed, nI_leI (by omega) (by omega)] at c
        rw [nI_clamp (by omega), t5 i (by omega), nI_add, nI_1]
        refine ih (i + 1) (s + sp_G ps i) (by omega) (by omega) ?_
        rw [← e]
        show _ = (if ps.length / 2 < s + sp_G ps i then some i else _)
        rw [if_neg (by omega)]
      · rw [nI_clamp (by omega), t5 i (by omega), nI_add, ed, nI_leI (by omega) (by omega)] at c
        have e2 : sv_half (sp_G ps) (ps.length / 2) (n + 1) i s = some i := by
          show (if ps.length / 2 < s + sp_G ps i then some i else _) = _
          rw [if_pos (by omega)]
        unfold sv_gift at q
        rw [← e, e2] at q
        exact q
  exact bk_X0_middleGift_0 hg (key 100 0 0 (by omega) (by omega) rfl)
theorem ok_oftenestSaid {g L R : Nat} {ps : List (Nat × Nat)} (hg : g < 4) (hB : cH w g L R ps) (q : Q (some (hb_i (sv_oft L ps))) w) : hb_O yX0_oftenestSaid cX0_oftenestSaid 4 (some .int) d [hb_r 9 g 0] w Q := by
  obtain ⟨⟨n1, n2, n3, n4, n5, n6⟩, hl, hr, ⟨t1, t2, t3, t4, t5, t6, t7⟩⟩ := hB
  have hle : ∀ k, (sp_of L (ps.map Prod.fst) k).2 ≤ 401 := by
    intro k
    have := sp_of_le L (ps.map Prod.fst) (fun _ => (0, 0)) 0 (fun _ => Nat.le_refl 0) k
    rw [List.length_map] at this
    unfold sp_of
    omega
  have key : ∀ (n i : Nat), i + n = L → hb_R yX0_oftenestSaid cX0_oftenestSaid 4 (some .int) d 6 [some (hb_r 9 g 0), some (hb_i (if (sv_top (fun k => (sp_of L (ps.map Prod.fst) k).2) i).2 = 0 then -1 else nI (sp_of L (ps.map Prod.fst) (sv_top (fun k => (sp_of L (ps.map Prod.fst) k).2) i).1).1)), some (hb_i (nI (sv_top (fun k => (sp_of L (ps.map Prod.fst) k).2) i).2)), some (hb_i (nI i))] [] w Q := by
    intro n
    induction n with
    | zero =>
      intro i hi
      rw [Nat.add_zero] at hi
      subst hi
      exact bk_X0_oftenestSaid_6 hg ⟨fun _ => q, fun c => absurd (by rw [hl]; exact nI_le (Nat.le_refl _) (by omega)) c⟩
    | succ n ih =>
      intro i hi
      obtain ⟨s1, s2, s3⟩ := t7 i (by omega)
      have h1 := hle i
      have h2 := sv_top_le hle i
      have hnext := ih (i + 1) (by omega)
      refine bk_X0_oftenestSaid_6 hg ⟨fun c => absurd c (by rw [hl]; exact nI_ge (by omega) (by omega)), fun _ => ⟨vp_in_nI (by omega) (by decide), fun c => ?_, fun c => ⟨vp_in_nI (by omega) (by decide), vp_in_nI (by omega) (by decide), ?_⟩⟩⟩
      · rw [nI_clamp (by omega), s1, nI_leI (by omega) (by omega)] at c
        rw [nI_1]
        have e : sv_top (fun k => (sp_of L (ps.map Prod.fst) k).2) (i + 1) = sv_top (fun k => (sp_of L (ps.map Prod.fst) k).2) i := if_neg (show ¬ (sv_top (fun k => (sp_of L (ps.map Prod.fst) k).2) i).2 < (sp_of L (ps.map Prod.fst) i).2 by omega)
        rw [e] at hnext
        exact hnext
      · rw [nI_clamp (by omega), s1, nI_leI (by omega) (by omega)] at c
        rw [nI_clamp (by omega), nI_1, s1, (s3 (by omega)).1]
        have e : sv_top (fun k => (sp_of L (ps.map Prod.fst) k).2) (i + 1) = (i, (sp_of L (ps.map Prod.fst) i).2) := if_pos (show (sv_top (fun k => (sp_of L (ps.map Prod.fst) k).2) i).2 < (sp_of L (ps.map Prod.fst) i).2 by omega)
        rw [e] at hnext
        dsimp only at hnext
        rw [if_neg (by omega)] at hnext
        exact hnext
  exact bk_X0_oftenestSaid_0 hg (key L 0 (by omega))
theorem ok_oftenestHood {g L R : Nat} {ps : List (Nat × Nat)} (hg : g < 4) (hB : cH w g L R ps) (q : Q (some (hb_i (sv_hood ps))) w) : hb_O yX0_oftenestHood cX0_oftenestHood 4 (some .int) d [hb_r 9 g 0] w Q := by
  obtain ⟨⟨n1, n2, n3, n4, n5, n6⟩, hl, hr, ⟨t1, t2, t3, t4, t5, t6, t7⟩⟩ := hB
  have hle : ∀ k, sp_T ps k ≤ 401 := fun k => Nat.le_trans (sp_T_le ps k) n5
  have key : ∀ (n i : Nat), i + n = 64 → hb_R yX0_oftenestHood cX0_oftenestHood 4 (some .int) d 6 [some (hb_r 9 g 0), some (hb_i (if (sv_top (sp_T ps) i).2 = 0 then -1 else nI (sv_top (sp_T ps) i).1)), some (hb_i (nI (sv_top (sp_T ps) i).2)), some (hb_i (nI i))] [] w Q := by
    intro n
    induction n with
    | zero =>
      intro i hi
      rw [Nat.add_zero] at hi
      subst hi
      exact bk_X0_oftenestHood_6 hg ⟨fun _ => q, fun c => absurd (nI_le (Nat.le_refl 64) (by decide)) c⟩
    | succ n ih =>
      intro i hi
      have h1 := hle i
      have h2 := sv_top_le hle i
      have hnext := ih (i + 1) (by omega)
      refine bk_X0_oftenestHood_6 hg ⟨fun c => absurd c (nI_ge (b := 64) (by omega) (by decide)), fun _ => ⟨vp_in_nI (by omega) (by decide), fun c => ?_, fun c => ⟨vp_in_nI (by omega) (by decide), ?_⟩⟩⟩
      · rw [nI_clamp (by omega), t3 i (by omega), nI_leI (by omega) (by omega)] at c
        rw [nI_1]
        have e : sv_top (sp_T ps) (i + 1) = sv_top (sp_T ps) i := if_neg (by omega)
        rw [e] at hnext
        exact hnext
      · rw [nI_clamp (by omega), t3 i (by omega), nI_leI (by omega) (by omega)] at c
        rw [nI_clamp (by omega), nI_1, t3 i (by omega)]
        have e : sv_top (sp_T ps) (i + 1) = (i, sp_T ps i) := if_pos (by omega)
        rw [e] at hnext
        dsimp only at hnext
        rw [if_neg (by omega)] at hnext
        exact hnext
  exact bk_X0_oftenestHood_0 hg (key 64 0 (by omega))
theorem ok_mostTold {g L R : Nat} {mk : Nat → Nat → Nat} {ps : List (Nat × Nat)} (hg : g < 4) (hmi : hb_fR w 9 2 g < 2) (hmk : hw_mk w (hb_fR w 9 2 g) mk) (hB : cH w g L R ps) (hM : cM2 w g L R mk (sp_T ps)) (q : Q (some (hb_i (nI (sv_mtold L R mk (sp_T ps))))) w) : hb_O yX0_mostToldAbove cX0_mostToldAbove 3 (some .int) (d + 3) [hb_r 9 g 0] w Q := by
  have hB2 := hB
  obtain ⟨⟨n1, n2, n3, n4, n5, n6⟩, hl, hr, ⟨t1, t2, t3, t4, t5, t6, t7⟩⟩ := hB
  have hto := fun h => sv_told_le (L := L) (R := R) (mk := mk) (fun p hp => (n6 p hp).1) h (R - 1)
  have hmx : ∀ n, sv_mx (fun h => sv_told L R mk (sp_T ps) h (R - 1) - sp_T ps h) n ≤ 401 := sv_mx_le fun k => by
    have := hto k
    omega
  have key : ∀ (n i : Nat), i + n = 64 → hb_R yX0_mostToldAbove cX0_mostToldAbove 3 (some .int) (d + 2 + 1) 4 [some (hb_r 9 g 0), some (hb_i (nI (sv_mx (fun h => sv_told L R mk (sp_T ps) h (R - 1) - sp_T ps h) i))), some (hb_i (nI i))] [] w Q := by
    intro n
    induction n with
    | zero =>
      intro i hi
      rw [Nat.add_zero] at hi
      subst hi
      exact bk_X0_mostToldAbove_4 hg ⟨fun _ => q, fun c => absurd (nI_le (Nat.le_refl 64) (by decide)) c⟩
    | succ n ih =>
      intro i hi
      have h1 := hto i
      have h2 := hmx i
      refine bk_X0_mostToldAbove_4 hg ⟨fun c => absurd c (nI_ge (b := 64) (by omega) (by decide)), fun _ => ?_⟩
      refine ok_toldOf hg (by omega) hmi hmk hB2 hM ?_
      refine bk_X0_mostToldAbove_16 hg ⟨vp_in_nI (by omega) (by decide), ?_⟩
      rw [nI_clamp (by omega), t3 i (by omega), pk_sub (sv_told_ge (by omega) (R - 1)), nI_1]
      have hnext := ih (i + 1) (by omega)
      have e : (if nI (sv_mx (fun h => sv_told L R mk (sp_T ps) h (R - 1) - sp_T ps h) i) < nI (sv_told L R mk (sp_T ps) i (R - 1) - sp_T ps i) then nI (sv_told L R mk (sp_T ps) i (R - 1) - sp_T ps i) else nI (sv_mx (fun h => sv_told L R mk (sp_T ps) h (R - 1) - sp_T ps h) i)) = nI (sv_mx (fun h => sv_told L R mk (sp_T ps) h (R - 1) - sp_T ps h) (i + 1)) := by
        show _ = nI (if sv_mx (fun h => sv_told L R mk (sp_T ps) h (R - 1) - sp_T ps h) i < sv_told L R mk (sp_T ps) i (R - 1) - sp_T ps i then sv_told L R mk (sp_T ps) i (R - 1) - sp_T ps i else sv_mx (fun h => sv_told L R mk (sp_T ps) h (R - 1) - sp_T ps h) i)
        by_cases z : sv_mx (fun h => sv_told L R mk (sp_T ps) h (R - 1) - sp_T ps h) i < sv_told L R mk (sp_T ps) i (R - 1) - sp_T ps i
        · rw [if_pos z, if_pos (nI_lt z (by omega))]
        · rw [if_neg z, if_neg (nI_nlt (by omega) (by omega))]
      rw [e]
      exact hnext
  exact bk_X0_mostToldAbove_0 hg (key 64 0 (by omega))
theorem ok_wrongly {g L R : Nat} {mk : Nat → Nat → Nat} {ps : List (Nat × Nat)} (hg : g < 4) (hmi : hb_fR w 9 2 g < 2) (hmk : hw_mk w (hb_fR w 9 2 g) mk) (hB : cH w g L R ps) (hM : cM3 w g L mk (sp_T ps)) (q : Q (some (hb_i (nI (sv_wr L mk (sp_T ps))))) w) : hb_O yX0_wronglyThere cX0_wronglyThere 3 (some .int) (d + 3) [hb_r 9 g 0] w Q := by
  obtain ⟨⟨n1, n2, n3, n4, n5, n6⟩, hl, hr, ⟨t1, t2, t3, t4, t5, t6, t7⟩⟩ := hB
  have key : ∀ (n i : Nat), i + n = 64 → hb_R yX0_wronglyThere cX0_wronglyThere 3 (some .int) (d + 2 + 1) 4 [some (hb_r 9 g 0), some (hb_i (nI (sv_cnt (fun h => sp_T ps h = 0 ∧ sv_wasP L mk (sp_T ps) h) i))), some (hb_i (nI i))] [] w Q := by
    intro n
    induction n with
    | zero =>
      intro i hi
      rw [Nat.add_zero] at hi
      subst hi
      exact bk_X0_wronglyThere_4 hg ⟨fun _ => q, fun c => absurd (nI_le (Nat.le_refl 64) (by decide)) c⟩
    | succ n ih =>
      intro i hi
      have hT := sp_T_le ps i
      have hnext := ih (i + 1) (by omega)
      have hno : ¬ (sp_T ps i = 0 ∧ sv_wasP L mk (sp_T ps) i) → sv_cnt (fun h => sp_T ps h = 0 ∧ sv_wasP L mk (sp_T ps) h) (i + 1) = sv_cnt (fun h => sp_T ps h = 0 ∧ sv_wasP L mk (sp_T ps) h) i := fun z => by
        show sv_cnt _ i + sv_is _ = _
        rw [sv_is_n z]
        rfl
      refine bk_X0_wronglyThere_4 hg ⟨fun c => absurd c (nI_ge (b := 64) (by omega) (by decide)), fun _ => ⟨vp_in_nI (by omega) (by decide), fun c => ?_, fun c => ?_⟩⟩
      · rw [nI_clamp (by omega), t3 i (by omega), show (0 : Int32) = nI 0 from rfl, nI_eq (by omega) (by omega)] at c
        rw [nI_1, ← hno (fun z => c z.1)]
        exact hnext
      · rw [nI_clamp (by omega), t3 i (by omega), show (0 : Int32) = nI 0 from rfl, nI_eq (by omega) (by omega)] at c
        refine ok_seemsThere (R := R) hg n1 n2 (by omega) hl hmi hmk hM (fun z => ?_) (fun z => ?_)
        · refine bk_X0_wronglyThere_24 hg ⟨fun c2 => absurd c2 (by decide), fun _ => ?_⟩
          rw [nI_1, nI_1]
          have e : sv_cnt (fun h => sp_T ps h = 0 ∧ sv_wasP L mk (sp_T ps) h) (i + 1) = sv_cnt (fun h => sp_T ps h = 0 ∧ sv_wasP L mk (sp_T ps) h) i + 1 := by
            show sv_cnt _ i + sv_is _ = _
            rw [sv_is_y ⟨c, z⟩]
          rw [e] at hnext
          exact hnext
        · refine bk_X0_wronglyThere_24 hg ⟨fun _ => ?_, fun c2 => absurd rfl c2⟩
          rw [nI_1, ← hno (fun y => z y.2)]
          exact hnext
  exact bk_X0_wronglyThere_0 hg (key 64 0 (by omega))
end HWH
