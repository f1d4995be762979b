/-! ===== what the model's book says ===== -/
theorem hx_last {y : MethodName} {cc : ByteArray} {nL : Nat} {ret : Option FieldType} {d pc : Nat} {st : List hb_V} {w : hb_W} {Q : Option hb_V → hb_W → Prop} {l : List (Option hb_V)} {x : Option hb_V} (h : hb_R y cc nL ret d pc (l ++ [none]) st w Q) : hb_R y cc nL ret d pc (l ++ [x]) st w Q := by
  refine hb_less (fun i v hv => ?_) h
  rcases Nat.lt_or_ge i l.length with z | z
  · rw [List.getElem?_append_left z] at hv ⊢
    exact hv
  · rw [List.getElem?_append_right z] at hv
    cases h2 : i - l.length with
    | zero => rw [h2] at hv; simp at hv
    | succ k => rw [h2] at hv; simp at hv
theorem sp_cnt_sum (key : Nat × Nat → Nat) (n : Nat) : ∀ ps : List (Nat × Nat), (∀ p ∈ ps, key p < n) → sp_sum (fun k => ps.countP (fun p => key p == k)) n = ps.length := by
  intro ps
  induction ps with
  | nil =>
    intro _
    exact (sp_sum_congr (g := fun _ => 0) (fun _ _ => rfl)).trans (sp_sum_zero n)
  | cons p ps ih =>
    intro hp
    have h1 := ih (fun q hq => hp q (List.mem_cons_of_mem _ hq))
    have h2 := hp p List.mem_cons_self
    rw [List.length_cons, ← h1, ← sp_sum_upd (fun k => ps.countP (fun p => key p == k)) 1 h2]
    refine sp_sum_congr fun x _ => ?_
    rw [List.countP_cons]
    by_cases e : x = key p
    · subst e
      simp
    · have e2 : ¬ key p = x := fun z => e z.symm
      simp [e, e2]
theorem sp_B_sum {L : Nat} {ps : List (Nat × Nat)} (hL : 1 ≤ L) (hp : ∀ p ∈ ps, p.2 < 100) : sp_sum (sp_B L ps) L = ps.length := sp_cnt_sum (fun p => p.2 * L / 100) L ps (fun p h => by
  have := hp p h
  have : p.2 * L < 100 * L := Nat.mul_lt_mul_of_pos_right this (by omega)
  exact Nat.div_lt_of_lt_mul this)
theorem sp_G_sum {ps : List (Nat × Nat)} (hp : ∀ p ∈ ps, p.2 < 100) : sp_sum (sp_G ps) 100 = ps.length := sp_cnt_sum (fun p => p.2) 100 ps hp
theorem sp_sum_mono (f : Nat → Nat) {a b : Nat} (h : a ≤ b) : sp_sum f a ≤ sp_sum f b := by
  induction b with
  | zero => rw [Nat.le_zero.mp h]; exact Nat.le_refl _
  | succ b ih =>
    rcases Nat.lt_or_ge a (b + 1) with z | z
    · have := ih (by omega)
      have e : sp_sum f (b + 1) = sp_sum f b + f b := rfl
      omega
    · rw [show a = b + 1 by omega]; exact Nat.le_refl _
theorem sv_half_zero {f : Nat → Nat} {c : Nat} : ∀ (n i s : Nat), (∀ k, f k = 0) → s ≤ c → sv_half f c n i s = none
  | 0, _, _, _, _ => rfl
  | n + 1, i, s, h, hs => by
    unfold sv_half
    rw [h i, Nat.add_zero, if_neg (by omega)]
    exact sv_half_zero n (i + 1) s h hs
section HMD
variable {d : Nat} {w : hb_W} {Q : Option hb_V → hb_W → Prop}
theorem om_unlikeSaid {L R : Nat} {mk : Nat → Nat → Nat} {ps : List (Nat × Nat)} (hB : mB w L R mk ps) (q : Q (some (hb_i (nI (sv_un L (sv_L L (sS0 mk (sp_T ps))))))) w) : hb_O yX12_unlikeSaid cX12_unlikeSaid 2 (some .int) d [hb_r 12 0 0] w Q := by
  obtain ⟨⟨n1, n2, n3, n4, n5, n6⟩, hl, hr, ⟨t1, t3, t5, t6, t7⟩, m0, m1, m2, m3, m4⟩ := hB
  obtain ⟨l, l1, l2, l3, l4⟩ := m0
  rw [sv_L_eq l3] at q
  have hlen := l3.2.2.1
  unfold sv_un at q
  refine bk_X12_unlikeSaid_0 ⟨fun c => ?_, fun c => ?_⟩
  · rw [hl, l1, nI_leI (by omega) (by omega)] at c
    rw [if_neg (by omega)] at q
    have e1 : hb_fI w 12 39 0 - 1 = nI (L - 1) := by rw [hl, show (1 : Int32) = nI 1 from rfl, pk_sub n1]
    have e2 := l2 (L - 1) (by omega)
    have hb : l.getD (L - 1) 0 < 1000 := l4 _ (by
      rw [List.getD_eq_getElem?_getD, List.getElem?_eq_getElem (show L - 1 < l.length by omega)]
      exact List.getElem_mem _)
    rw [e1]
    refine ⟨vp_in_nI (by omega) (by decide), fun c2 => ?_, fun c2 => ?_⟩
    · rw [nI_clamp (by omega), e2] at c2 ⊢
      refine ⟨c2, ?_⟩
      have hne : ¬ l.getD (L - 1) 0 = 0 := fun z => c2 (by rw [z]; rfl)
      rw [if_neg hne] at q
      rw [show nI (L - 1) * 1000 = nI ((L - 1) * 1000) from pk_mul (L - 1) 1000, pk_div (by omega) (by omega) (by omega)]
      exact q
    · rw [nI_clamp (by omega), e2, show (0 : Int32) = nI 0 from rfl, nI_eq (by omega) (by omega)] at c2
      rw [if_pos c2] at q
      exact q
  · rw [hl, l1, nI_leI (by omega) (by omega)] at c
    rw [if_pos (by omega)] at q
    rw [l1]
    exact q
theorem om_runsSaid {L R : Nat} {mk : Nat → Nat → Nat} {ps : List (Nat × Nat)} (hB : mB w L R mk ps) (q : Q (some (hb_i (sv_rs mk ps))) w) : hb_O yX12_runsSaid cX12_runsSaid 1 (some .int) d [hb_r 12 0 0] w Q := by
  obtain ⟨⟨n1, n2, n3, n4, n5, n6⟩, hl, hr, ⟨t1, t3, t5, t6, t7⟩, m0, m1, m2, m3, m4⟩ := hB
  unfold sv_rs at q
  rw [sv_R_eq m1] at q
  refine bk_X12_runsSaid_0 ⟨fun c => ?_, fun c => ?_⟩
  · rcases m1 with ⟨a1, a2⟩ | ⟨m, a1, a2, a3⟩
    · exact absurd a1 c
    · have hne : ¬ ps.length = 0 := by
        intro z
        obtain ⟨h, _, h2, _⟩ := a1
        rw [List.length_eq_zero_iff.mp z] at h2
        exact absurd h2 (Nat.lt_irrefl 0)
      rw [if_neg hne] at q
      exact q
  · rcases m1 with ⟨a1, a2⟩ | ⟨m, a1, a2, a3⟩
    · have hz : ps.length = 0 := by
        cases ps with
        | nil => rfl
        | cons p ps => exact absurd ⟨p.1, (n6 p List.mem_cons_self).1, sp_T_pos List.mem_cons_self, rfl⟩ (a2 (mk p.1 1))
      rw [if_pos hz] at q
      exact q
    · exfalso
      rw [a2] at c
      have := congrArg Int32.toInt c
      have hz := sp_nz_le m
      rw [nI_toInt (by omega)] at this
      have e2 : (-1 : Int32).toInt = -1 := by decide
      omega
theorem om_toldOf {L R h : Nat} {mk : Nat → Nat → Nat} {ps : List (Nat × Nat)} (hh : h < 64) (hmk : hm_mk w mk) (hB : mB w L R mk ps) (q : Q (some (hb_i (nI (sv_told L R mk (sp_T ps) h (R - 1))))) w) : hb_O yX12_toldOf cX12_toldOf 5 (some .int) (d + 1) [hb_r 12 0 0, hb_i (nI h)] w Q := by
  obtain ⟨⟨n1, n2, n3, n4, n5, n6⟩, hl, hr, ⟨t1, t3, t5, t6, t7⟩, m0, m1, m2, m3, m4⟩ := hB
  have hmod : ∀ r, mk h (2 + r) % L < L := fun r => Nat.mod_lt _ (by omega)
  have hle : ∀ r, sv_told L R mk (sp_T ps) h r ≤ 401 := fun r => Nat.le_trans (sv_told_le (fun p hp => (n6 p hp).1) h r) n5
  have hcr : ∀ r k, sp_cr L mk (sp_T ps) r k ≤ 401 := fun r k => by
    have := sp_cr_le L mk (sp_T ps) r k
    rw [sp_T_sum ps (fun p hp => (n6 p hp).1)] at this
    omega
  have key : ∀ (n i : Nat), i + 1 + n = R → hb_R yX12_toldOf cX12_toldOf 5 (some .int) (d + 1) 19 [some (hb_r 12 0 0), some (hb_i (nI h)), some (hb_i (nI (sv_told L R mk (sp_T ps) h i))), some (hb_i (nI (i + 1))), none] [] w Q := by
    intro n
    induction n with
    | zero =>
      intro i hi
      rw [Nat.add_zero] at hi
      subst hi
      exact bk_X12_toldOf_19 ⟨fun _ => q, fun c => absurd (show hb_aI w 12 13 0 3 ≤ _ by rw [hr]; exact nI_le (Nat.le_refl _) (by omega)) c⟩
    | succ n ih =>
      intro i hi
      refine bk_X12_toldOf_19 ⟨fun c => absurd (show nI R ≤ nI (i + 1) by rw [← hr]; exact c) (nI_ge (by omega) (by omega)), fun _ => ?_⟩
      have hm := hmod (i + 1)
      rw [show (2 : Int32) + nI (i + 1) = nI (2 + (i + 1)) from nI_add 2 (i + 1), show (9 : Int32) * nI (i + 1) = nI (9 * (i + 1)) from pk_mul 9 (i + 1)]
      refine om_marked hh (by omega) hmk fun hb => ?_
      have e0 : nI (9 * (i + 1)) + (nI (mk h (2 + (i + 1))) - nI (mk h (2 + (i + 1))) / hb_fI w 12 39 0 * hb_fI w 12 39 0) = nI (9 * (i + 1) + mk h (2 + (i + 1)) % L) := by
        rw [hl, pk_rem (by omega) (by omega) (by omega), nI_add]
      refine bk_X12_toldOf_45 ?_
      rw [e0, nI_clamp (by omega), m2 (i + 1) _ (by omega) hm, nI_1, hl]
      have h1 := hle i
      have h2 := hcr (i + 1) (mk h (2 + (i + 1)) % L)
      have es : sv_told L R mk (sp_T ps) h (i + 1) = min (sv_told L R mk (sp_T ps) h i) (sp_cr L mk (sp_T ps) (i + 1) (mk h (2 + (i + 1)) % L)) := if_pos (by omega)
      have := ih (i + 1) (by omega)
      rw [es] at this
      refine ⟨nI_ne0 (by omega) (by omega), vp_in_nI (by omega) (by decide), fun c => ?_, fun c => ?_⟩
      · rw [nI_leI (by omega) (by omega)] at c
        rw [Nat.min_eq_left c] at this
        exact hx_last (l := [_, _, _, _]) this
      · rw [nI_leI (by omega) (by omega)] at c
        rw [Nat.min_eq_right (by omega)] at this
        exact hx_last (l := [_, _, _, _]) this
  have hm : mk h 2 % L < L := hmod 0
  refine bk_X12_toldOf_0 (om_marked (l := 2) hh (by decide) hmk fun hb => ?_)
  refine bk_X12_toldOf_10 ?_
  have e0 : nI (mk h 2) - nI (mk h 2) / hb_fI w 12 39 0 * hb_fI w 12 39 0 = nI (mk h 2 % L) := by rw [hl, pk_rem (by omega) (by omega) (by omega)]
  have e1 := m2 0 _ (by omega) hm
  rw [show 9 * 0 + mk h (2 + 0) % L = mk h 2 % L by simp] at e1
  rw [e0, nI_clamp (by omega), e1, hl]
  exact ⟨nI_ne0 (by omega) (by omega), vp_in_nI (by omega) (by decide), key (R - 1) 0 (by omega)⟩
theorem om_wasThere {L R h : Nat} {mk : Nat → Nat → Nat} {ps : List (Nat × Nat)} (hh : h < 64) (hmk : hm_mk w mk) (hB : mB w L R mk ps) (q1 : sv_wasP L mk (sp_T ps) h → Q (some (hb_i 1)) w) (q0 : ¬ sv_wasP L mk (sp_T ps) h → Q (some (hb_i 0)) w) : hb_O yX12_wasThere cX12_wasThere 2 (some .boolean) (d + 1) [hb_r 12 0 0, hb_i (nI h)] w Q := by
  obtain ⟨⟨n1, n2, n3, n4, n5, n6⟩, hl, hr, ⟨t1, t3, t5, t6, t7⟩, m0, m1, m2, m3, m4⟩ := hB
  have h5 : mk h 5 % (8 * L) < 8 * L := Nat.mod_lt _ (by omega)
  have h6 : mk h 6 % (8 * L) < 8 * L := Nat.mod_lt _ (by omega)
  have e8 : (8 : Int32) * nI L = nI (8 * L) := pk_mul 8 L
  have er : ∀ l, mk h l < 1000 → nI (mk h l) - nI (mk h l) / ((8 : Int32) * nI L) * ((8 : Int32) * nI L) = nI (mk h l % (8 * L)) := fun l hb => by rw [e8, pk_rem (by omega) (by omega) (by omega)]
  refine bk_X12_wasThere_0 (om_marked (l := 5) hh (by decide) hmk fun b5 => bk_X12_wasThere_10 ?_)
  rw [hl, er 5 b5, nI_clamp (by omega)]
  refine ⟨by rw [e8]; exact nI_ne0 (by omega) (by omega), vp_in_nI (by omega) (by decide), fun c => ?_, fun c => ?_⟩
  · rcases m3 _ h5 with z | z
    · rw [z.2] at c
      exact absurd c (by decide)
    · exact q0 fun y => z.1 y.1
  · have z5 : sp_bit L mk (fun h => 0 < sp_T ps h) (mk h 5 % (8 * L)) := by
      rcases m3 _ h5 with z | z
      · exact z.1
      · exact absurd z.2 c
    refine om_marked (l := 6) hh (by decide) hmk fun b6 => bk_X12_wasThere_33 ?_
    rw [hl, er 6 b6, nI_clamp (by omega)]
    refine ⟨by rw [e8]; exact nI_ne0 (by omega) (by omega), vp_in_nI (by omega) (by decide), fun c2 => ?_, fun c2 => ?_⟩
    · rcases m3 _ h6 with z | z
      · rw [z.2] at c2
        exact absurd c2 (by decide)
      · exact q0 fun y => z.1 y.2
    · rcases m3 _ h6 with z | z
      · exact q1 ⟨z5, z.1⟩
      · exact absurd z.2 c2
theorem om_middleSaid {L R : Nat} {mk : Nat → Nat → Nat} {ps : List (Nat × Nat)} (hB : mB w L R mk ps) (q : Q (some (hb_i (sv_mid L ps))) w) : hb_O yX12_middleSaid cX12_middleSaid 3 (some .int) d [hb_r 12 0 0] w Q := by
  obtain ⟨⟨n1, n2, n3, n4, n5, n6⟩, hl, hr, ⟨t1, t3, t5, t6, t7⟩, m0, m1, m2, m3, m4⟩ := hB
  have hsum := sp_B_sum (L := L) (ps := ps) n1 (fun p hp => (n6 p hp).2)
  unfold sv_mid at q
  refine bk_X12_middleSaid_0 ⟨fun c => ?_, fun c => ?_⟩
  · rw [t1, show (0 : Int32) = nI 0 from rfl, nI_eq (by omega) (by omega)] at c
    have ed : hb_fI w 12 40 0 / 2 = nI (ps.length / 2) := by rw [t1, show (2 : Int32) = nI 2 from rfl, pk_div (by omega) (by decide) (by decide)]
    have key : ∀ (n i : Nat), i + n + 1 = L → sv_half (sp_B L ps) (ps.length / 2) (n + 1) i (sp_sum (sp_B L ps) i) = sv_half (sp_B L ps) (ps.length / 2) L 0 0 → hb_R yX12_middleSaid cX12_middleSaid 3 (some .int) d 18 [some (hb_r 12 0 0), some (hb_i (nI i)), some (hb_i (nI (sp_sum (sp_B L ps) (i + 1))))] [] w Q := by
      intro n
      induction n with
      | zero =>
        intro i hi e
        have h1 : sp_sum (sp_B L ps) (i + 1) = ps.length := by rw [show i + 1 = L by omega]; exact hsum
        have e2 : sv_half (sp_B L ps) (ps.length / 2) (0 + 1) i (sp_sum (sp_B L ps) i) = some i := if_pos (show ps.length / 2 < sp_sum (sp_B L ps) i + sp_B L ps i by
          have : sp_sum (sp_B L ps) (i + 1) = sp_sum (sp_B L ps) i + sp_B L ps i := rfl
          omega)
        rw [← e, e2] at q
        refine bk_X12_middleSaid_18 ⟨fun _ => ⟨by rw [hl]; exact nI_ne0 (by omega) (by omega), ?_⟩, fun c2 => absurd (by rw [ed, h1]; exact nI_lt (by omega) (by omega)) c2⟩
        have e3 : (100 : Int32) * nI i + hb_fI w 12 39 0 - 1 = nI (i * 100 + L - 1) := by
          rw [hl, show (100 : Int32) * nI i = nI (100 * i) from pk_mul 100 i, nI_add, show (1 : Int32) = nI 1 from rfl, pk_sub (by omega), Nat.mul_comm]
        rw [e3, hl, pk_div (by omega) (by omega) (by omega)]
        exact q
      | succ n ih =>
        intro i hi e
        have hm := sp_sum_mono (sp_B L ps) (show i + 1 ≤ L by omega)
        have hm2 := sp_sum_mono (sp_B L ps) (show i + 1 + 1 ≤ L by omega)
        refine bk_X12_middleSaid_18 ⟨fun c2 => ?_, fun c2 => ?_⟩
        · rw [ed, nI_ltI (by omega) (by omega)] at c2
          have e2 : sv_half (sp_B L ps) (ps.length / 2) (n + 1 + 1) i (sp_sum (sp_B L ps) i) = some i := if_pos c2
          rw [← e, e2] at q
          refine ⟨by rw [hl]; exact nI_ne0 (by omega) (by omega), ?_⟩
          have e3 : (100 : Int32) * nI i + hb_fI w 12 39 0 - 1 = nI (i * 100 + L - 1) := by
            rw [hl, show (100 : Int32) * nI i = nI (100 * i) from pk_mul 100 i, nI_add, show (1 : Int32) = nI 1 from rfl, pk_sub (by omega), Nat.mul_comm]
          rw [e3, hl, pk_div (by omega) (by omega) (by omega)]
          exact q
        · rw [ed, nI_ltI (by omega) (by omega)] at c2
          rw [nI_1, nI_clamp (by omega), t6 (i + 1) (by omega), nI_add]
          refine ⟨vp_in_nI (by omega) (by decide), ih (i + 1) (by omega) ?_⟩
          rw [← e]
          exact (if_neg c2).symm
    have e0 := t6 0 (by omega)
    have := key (L - 1) 0 (by omega) (by rw [show L - 1 + 1 = L by omega]; rfl)
    rw [show sp_sum (sp_B L ps) (0 + 1) = sp_B L ps 0 from Nat.zero_add _, ← e0] at this
    exact this
  · rw [t1, show (0 : Int32) = nI 0 from rfl, nI_eq (by omega) (by omega)] at c
    have hz : ps = [] := List.length_eq_zero_iff.mp c
    subst hz
    rw [sv_half_zero (f := sp_B L []) (c := ([] : List (Nat × Nat)).length / 2) L 0 0 (fun k => rfl) (by decide)] at q
    exact q
theorem om_middleGift {L R : Nat} {mk : Nat → Nat → Nat} {ps : List (Nat × Nat)} (hB : mB w L R mk ps) (q : Q (some (hb_i (sv_gift ps))) w) : hb_O yX12_middleGift cX12_middleGift 3 (some .int) d [hb_r 12 0 0] w Q := by
  obtain ⟨⟨n1, n2, n3, n4, n5, n6⟩, hl, hr, ⟨t1, t3, t5, t6, t7⟩, m0, m1, m2, m3, m4⟩ := hB
  have hsum := sp_G_sum (ps := ps) (fun p hp => (n6 p hp).2)
  unfold sv_gift at q
  refine bk_X12_middleGift_0 ⟨fun c => ?_, fun c => ?_⟩
  · rw [t1, show (0 : Int32) = nI 0 from rfl, nI_eq (by omega) (by omega)] at c
    have ed : hb_fI w 12 40 0 / 2 = nI (ps.length / 2) := by rw [t1, show (2 : Int32) = nI 2 from rfl, pk_div (by omega) (by decide) (by decide)]
    have key : ∀ (n i : Nat), i + n + 1 = 100 → sv_half (sp_G ps) (ps.length / 2) (n + 1) i (sp_sum (sp_G ps) i) = sv_half (sp_G ps) (ps.length / 2) 100 0 0 → hb_R yX12_middleGift cX12_middleGift 3 (some .int) d 18 [some (hb_r 12 0 0), some (hb_i (nI i)), some (hb_i (nI (sp_sum (sp_G ps) (i + 1))))] [] w Q := by
      intro n
      induction n with
      | zero =>
        intro i hi e
        have h1 : sp_sum (sp_G ps) (i + 1) = ps.length := by rw [show i + 1 = 100 by omega]; exact hsum
        have e2 : sv_half (sp_G ps) (ps.length / 2) (0 + 1) i (sp_sum (sp_G ps) i) = some i := if_pos (show ps.length / 2 < sp_sum (sp_G ps) i + sp_G ps i by
          have : sp_sum (sp_G ps) (i + 1) = sp_sum (sp_G ps) i + sp_G ps i := rfl
          omega)
        rw [← e, e2] at q
        exact bk_X12_middleGift_18 ⟨fun _ => q, fun c2 => absurd (by rw [ed, h1]; exact nI_lt (by omega) (by omega)) c2⟩
      | succ n ih =>
        intro i hi e
        have hm := sp_sum_mono (sp_G ps) (show i + 1 ≤ 100 by omega)
        have hm2 := sp_sum_mono (sp_G ps) (show i + 1 + 1 ≤ 100 by omega)
        refine bk_X12_middleGift_18 ⟨fun c2 => ?_, fun c2 => ?_⟩
        · rw [ed, nI_ltI (by omega) (by omega)] at c2
          have e2 : sv_half (sp_G ps) (ps.length / 2) (n + 1 + 1) i (sp_sum (sp_G ps) i) = some i := if_pos c2
          rw [← e, e2] at q
          exact q
        · rw [ed, nI_ltI (by omega) (by omega)] at c2
          rw [nI_1, nI_clamp (by omega), t5 (i + 1) (by omega), nI_add]
          refine ⟨vp_in_nI (by omega) (by decide), ih (i + 1) (by omega) ?_⟩
          rw [← e]
          exact (if_neg c2).symm
    have e0 := t5 0 (by omega)
    have := key 99 0 (by omega) rfl
    rw [show sp_sum (sp_G ps) (0 + 1) = sp_G ps 0 from Nat.zero_add _, ← e0] at this
    exact this
  · rw [t1, show (0 : Int32) = nI 0 from rfl, nI_eq (by omega) (by omega)] at c
    have hz : ps = [] := List.length_eq_zero_iff.mp c
    subst hz
    rw [sv_half_zero (f := sp_G []) (c := ([] : List (Nat × Nat)).length / 2) 100 0 0 (fun k => rfl) (by decide)] at q
    exact q
theorem om_unlikeMany {T : Nat → Nat} (hT : ∀ h, h < 64 → hb_aI w 12 21 0 h = nI (T h) ∧ T h ≤ 401) (q : Q (some (hb_i (nI (sp_U T)))) w) : hb_O yX12_unlikeMany cX12_unlikeMany 3 (some .int) d [hb_r 12 0 0] w Q := by
  have key : ∀ (n i : Nat), i + n = 64 → hb_R yX12_unlikeMany cX12_unlikeMany 3 (some .int) d 4 [some (hb_r 12 0 0), some (hb_i (nI (sp_sum (fun h => if 0 < T h then 1 else 0) i))), some (hb_i (nI i))] [] w Q := by
    intro n
    induction n with
    | zero =>
      intro i hi
      rw [Nat.add_zero] at hi
      subst hi
      exact bk_X12_unlikeMany_4 ⟨fun _ => q, fun c => absurd (nI_le (Nat.le_refl 64) (by decide)) c⟩
    | succ n ih =>
      intro i hi
      obtain ⟨a, b⟩ := hT i (by omega)
      have hnext := ih (i + 1) (by omega)
      rw [show sp_sum (fun h => if 0 < T h then 1 else 0) (i + 1) = sp_sum (fun h => if 0 < T h then 1 else 0) i + (if 0 < T i then 1 else 0) from rfl] at hnext
      refine bk_X12_unlikeMany_4 ⟨fun c => absurd c (nI_ge (b := 64) (by omega) (by decide)), fun _ => ⟨vp_in_nI (by omega) (by decide), fun c => ?_, fun c => ?_⟩⟩
      · rw [nI_clamp (by omega), a, show (0 : Int32) = nI 0 from rfl, nI_leI (by omega) (by omega)] at c
        rw [if_neg (by omega), Nat.add_zero] at hnext
        rw [nI_1]
        exact hnext
      · rw [nI_clamp (by omega), a, show (0 : Int32) = nI 0 from rfl, nI_leI (by omega) (by omega)] at c
        rw [if_pos (by omega)] at hnext
        rw [nI_1, nI_1]
        exact hnext
  exact bk_X12_unlikeMany_0 (key 64 0 (by omega))
theorem hx_ne {n : Nat} (h : n < 2 ^ 31) : ¬ nI n = -1 := by
  intro z
  have := congrArg Int32.toInt z
  rw [nI_toInt h] at this
  have e : (-1 : Int32).toInt = -1 := by decide
  omega
theorem om_oftenest {L R : Nat} {mk : Nat → Nat → Nat} {ps : List (Nat × Nat)} (hB : mB w L R mk ps) (q : Q (some (hb_i (sv_hood ps))) w) : hb_O yX12_oftenest cX12_oftenest 3 (some .int) d [hb_r 12 0 0] w Q := by
  obtain ⟨⟨n1, n2, n3, n4, n5, n6⟩, hl, hr, ⟨t1, t3, t5, t6, t7⟩, m0, m1, m2, m3, m4⟩ := hB
  have hle : ∀ k, sp_T ps k ≤ 401 := fun k => Nat.le_trans (sp_T_le ps k) n5
  have key : ∀ (n i : Nat), i + n = 64 → hb_R yX12_oftenest cX12_oftenest 3 (some .int) d 4 [some (hb_r 12 0 0), some (hb_i (if (sv_top (sp_T ps) i).2 = 0 then -1 else nI (sv_top (sp_T ps) i).1)), some (hb_i (nI i))] [] w Q := by
    intro n
    induction n with
    | zero =>
      intro i hi
      rw [Nat.add_zero] at hi
      subst hi
      exact bk_X12_oftenest_4 ⟨fun _ => q, fun c => absurd (nI_le (Nat.le_refl 64) (by decide)) c⟩
    | succ n ih =>
      intro i hi
      have h1 := hle i
      have h2 := sv_top_le hle i
      have hnext := ih (i + 1) (by omega)
      have stay : sp_T ps i ≤ (sv_top (sp_T ps) i).2 → sv_top (sp_T ps) (i + 1) = sv_top (sp_T ps) i := fun z => if_neg (show ¬ (sv_top (sp_T ps) i).2 < sp_T ps i by omega)
      have new : ¬ sp_T ps i ≤ (sv_top (sp_T ps) i).2 → sv_top (sp_T ps) (i + 1) = (i, sp_T ps i) := fun z => if_pos (show (sv_top (sp_T ps) i).2 < sp_T ps i by omega)
      refine bk_X12_oftenest_4 ⟨fun c => absurd c (nI_ge (b := 64) (by omega) (by decide)), fun _ => ⟨vp_in_nI (by omega) (by decide), ?_⟩⟩
      rw [nI_clamp (by omega), t3 i (by omega), nI_1]
      by_cases h0 : (sv_top (sp_T ps) i).2 = 0
      · rw [if_pos h0]
        refine ⟨fun c => absurd rfl c, fun _ => ⟨fun c => ?_, fun c => ?_⟩⟩
        · rw [show (0 : Int32) = nI 0 from rfl, nI_leI (by omega) (by omega)] at c
          rw [stay (by omega), if_pos h0] at hnext
          exact hnext
        · rw [show (0 : Int32) = nI 0 from rfl, nI_leI (by omega) (by omega)] at c
          rw [new (by omega)] at hnext
          dsimp only at hnext
          rw [if_neg (by omega)] at hnext
          exact hnext
      · rw [if_neg h0]
        obtain ⟨g1, g2⟩ := sv_top_lt (f := sp_T ps) i (by omega)
        rw [nI_clamp (by omega), t3 _ (by omega), g2]
        refine ⟨fun _ => ⟨vp_in_nI (by omega) (by decide), fun c => ?_, fun c => ?_⟩, fun c => absurd c (hx_ne (by omega))⟩
        · rw [nI_leI (by omega) (by omega)] at c
          rw [stay c, if_neg h0] at hnext
          exact hnext
        · rw [nI_leI (by omega) (by omega)] at c
          rw [new c] at hnext
          dsimp only at hnext
          rw [if_neg (by omega)] at hnext
          exact hnext
  exact bk_X12_oftenest_0 (key 64 0 (by omega))
theorem om_oftenSaid {L R : Nat} {mk : Nat → Nat → Nat} {ps : List (Nat × Nat)} (hB : mB w L R mk ps) (q : Q (some (hb_i (sv_oft L ps))) w) : hb_O yX12_oftenSaid cX12_oftenSaid 3 (some .int) d [hb_r 12 0 0] w Q := by
  obtain ⟨⟨n1, n2, n3, n4, n5, n6⟩, hl, hr, ⟨t1, t3, t5, t6, t7⟩, m0, m1, m2, m3, m4⟩ := hB
  have hle : ∀ k, (fun k => (sp_of L (ps.map Prod.fst) k).2) k ≤ 401 := by
    intro k
    have := sp_of_le L (ps.map Prod.fst) (fun _ => (0, 0)) 0 (fun _ => Nat.le_refl 0) k
    rw [List.length_map] at this
    show (sp_of L (ps.map Prod.fst) k).2 ≤ 401
    unfold sp_of
    omega
  unfold sv_oft at q
  generalize hf : (fun k => (sp_of L (ps.map Prod.fst) k).2) = f at hle q
  have hfe : ∀ k, (sp_of L (ps.map Prod.fst) k).2 = f k := fun k => congrFun hf k
  have key : ∀ (n i : Nat), i + n = L → hb_R yX12_oftenSaid cX12_oftenSaid 3 (some .int) d 4 [some (hb_r 12 0 0), some (hb_i (if (sv_top f i).2 = 0 then -1 else nI (sv_top f i).1)), some (hb_i (nI i))] [] w Q := by
    intro n
    induction n with
    | zero =>
      intro i hi
      rw [Nat.add_zero] at hi
      subst hi
      refine bk_X12_oftenSaid_4 ⟨fun _ => ?_, fun c => absurd (by rw [hl]; exact nI_le (Nat.le_refl _) (by omega)) c⟩
      by_cases h0 : (sv_top f i).2 = 0
      · rw [if_pos h0] at q ⊢
        exact ⟨fun c => absurd rfl c, fun _ => q⟩
      · rw [if_neg h0] at q ⊢
        obtain ⟨g1, g2⟩ := sv_top_lt (f := f) i (by omega)
        refine ⟨fun _ => ⟨vp_in_nI (by omega) (by decide), ?_⟩, fun c => absurd c (hx_ne (by omega))⟩
        rw [nI_clamp (by omega), ((t7 _ g1).2.2 (by rw [hfe, g2]; omega)).1]
        exact q
    | succ n ih =>
      intro i hi
      have h1 := hle i
      have h2 := sv_top_le hle i
      have hnext := ih (i + 1) (by omega)
      have stay : f i ≤ (sv_top f i).2 → sv_top f (i + 1) = sv_top f i := fun z => if_neg (show ¬ (sv_top f i).2 < f i by omega)
      have new : ¬ f i ≤ (sv_top f i).2 → sv_top f (i + 1) = (i, f i) := fun z => if_pos (show (sv_top f i).2 < f i by omega)
      have ei : ∀ k, k < L → hb_aI w 12 25 0 k = nI (f k) := fun k hk => by rw [← hfe]; exact (t7 k hk).1
      refine bk_X12_oftenSaid_4 ⟨fun c => absurd c (by rw [hl]; exact nI_ge (by omega) (by omega)), fun _ => ⟨vp_in_nI (by omega) (by decide), ?_⟩⟩
      rw [nI_clamp (by omega), ei i (by omega), nI_1]
      by_cases h0 : (sv_top f i).2 = 0
      · rw [if_pos h0]
        refine ⟨fun c => absurd rfl c, fun _ => ⟨fun c => ?_, fun c => ?_⟩⟩
        · rw [show (0 : Int32) = nI 0 from rfl, nI_leI (by omega) (by omega)] at c
          rw [stay (by omega), if_pos h0] at hnext
          exact hnext
        · rw [show (0 : Int32) = nI 0 from rfl, nI_leI (by omega) (by omega)] at c
          rw [new (by omega)] at hnext
          dsimp only at hnext
          rw [if_neg (by omega)] at hnext
          exact hnext
      · rw [if_neg h0]
        obtain ⟨g1, g2⟩ := sv_top_lt (f := f) i (by omega)
        rw [nI_clamp (by omega), ei _ (by omega), g2]
        refine ⟨fun _ => ⟨vp_in_nI (by omega) (by decide), fun c => ?_, fun c => ?_⟩, fun c => absurd c (hx_ne (by omega))⟩
        · rw [nI_leI (by omega) (by omega)] at c
          rw [stay c, if_neg h0] at hnext
          exact hnext
        · rw [nI_leI (by omega) (by omega)] at c
          rw [new c] at hnext
          dsimp only at hnext
          rw [if_neg (by omega)] at hnext
          exact hnext
  exact bk_X12_oftenSaid_0 (key L 0 (by omega))
theorem om_oftenOf {L R h : Nat} {mk : Nat → Nat → Nat} {ps : List (Nat × Nat)} (hh : h < 64) (hB : mB w L R mk ps) (q : Q (some (hb_i (nI (sv_oo L (sp_of L (ps.map Prod.fst)) h)))) w) : hb_O yX12_oftenOf cX12_oftenOf 3 (some .int) d [hb_r 12 0 0, hb_i (nI h)] w Q := by
  obtain ⟨⟨n1, n2, n3, n4, n5, n6⟩, hl, hr, ⟨t1, t3, t5, t6, t7⟩, m0, m1, m2, m3, m4⟩ := hB
  unfold sv_oo at q
  generalize hs : sp_of L (ps.map Prod.fst) = s at q t7
  have find : ∀ (n i : Nat), i + n = L → (∀ j, j < i → decide (0 < (s j).2 ∧ (s j).1 = h) = false) → hb_R yX12_oftenOf cX12_oftenOf 3 (some .int) d 2 [some (hb_r 12 0 0), some (hb_i (nI h)), some (hb_i (nI i))] [] w Q := by
    intro n
    induction n with
    | zero =>
      intro i hi hn
      rw [Nat.add_zero] at hi
      subst hi
      rw [hw_fd_none hn] at q
      exact bk_X12_oftenOf_2 ⟨fun _ => q, fun c => absurd (by rw [hl]; exact nI_le (Nat.le_refl _) (by omega)) c⟩
    | succ n ih =>
      intro i hi hn
      obtain ⟨s1, s2, s3⟩ := t7 i (by omega)
      have next : decide (0 < (s i).2 ∧ (s i).1 = h) = false → hb_R yX12_oftenOf cX12_oftenOf 3 (some .int) d 2 [some (hb_r 12 0 0), some (hb_i (nI h)), some (hb_i (nI i + 1))] [] w Q := fun z => by
        rw [nI_1]
        refine ih (i + 1) (by omega) fun j hj => ?_
        rcases Nat.lt_or_ge j i with y | y
        · exact hn j y
        · have : j = i := by omega
          rw [this]; exact z
      refine bk_X12_oftenOf_2 ⟨fun c => absurd c (by rw [hl]; exact nI_ge (by omega) (by omega)), fun _ => ⟨vp_in_nI (by omega) (by decide), fun c => ?_, fun c => ⟨vp_in_nI (by omega) (by decide), fun c2 => ?_, fun c2 => ⟨vp_in_nI (by omega) (by decide), ?_⟩⟩⟩⟩
      · rw [nI_clamp (by omega), s1, show (0 : Int32) = nI 0 from rfl, nI_leI (by omega) (by omega)] at c
        exact next (by simp; omega)
      · rw [nI_clamp (by omega), s1, show (0 : Int32) = nI 0 from rfl, nI_leI (by omega) (by omega)] at c
        have z := s3 (by omega)
        rw [nI_clamp (by omega), z.1, nI_eq (by omega) (by omega)] at c2
        exact next (by simp; intro _; exact c2)
      · rw [nI_clamp (by omega), s1, show (0 : Int32) = nI 0 from rfl, nI_leI (by omega) (by omega)] at c
        have z := s3 (by omega)
        rw [nI_clamp (by omega), z.1, nI_eq (by omega) (by omega)] at c2
        rw [nI_clamp (by omega), s1]
        have hf := hw_fd_some (p := fun k => decide (0 < (s k).2 ∧ (s k).1 = h)) (L := L) (k := i) (by omega) (by simp; exact ⟨by omega, c2⟩) hn
        rw [hf] at q
        exact q
  exact bk_X12_oftenOf_0 (find L 0 (by omega) (fun j hj => absurd hj (Nat.not_lt_zero j)))
theorem om_apart {a b : Int32} (q : Q (some (hb_i (sx_ab a b))) w) : hb_O yX12_apart cX12_apart 2 (some .int) d [hb_i a, hb_i b] w Q := by
  unfold sx_ab at q
  refine bk_X12_apart_0 ⟨fun c => ?_, fun c => ?_⟩
  · rw [if_neg (by
      rw [Int32.le_iff_toInt_le] at c
      rw [Int32.lt_iff_toInt_lt]
      omega)] at q
    exact q
  · rw [if_pos (by
      rw [Int32.le_iff_toInt_le] at c
      rw [Int32.lt_iff_toInt_lt]
      omega)] at q
    exact q
theorem om_overtold {L R : Nat} {mk : Nat → Nat → Nat} {ps : List (Nat × Nat)} (hmk : hm_mk w mk) (hB : mB w L R mk ps) (q : Q (some (hb_i (nI (sv_mtold L R mk (sp_T ps))))) w) : hb_O yX12_overtold cX12_overtold 4 (some .int) (d + 2) [hb_r 12 0 0] w Q := by
  have hB2 := hB
  obtain ⟨⟨n1, n2, n3, n4, n5, n6⟩, hl, hr, ⟨t1, t3, t5, t6, t7⟩, m0, m1, m2, m3, m4⟩ := hB
  have hto := fun h => sv_told_le (L := L) (R := R) (mk := mk) (fun p hp => (n6 p hp).1) h (R - 1)
  have hmx : ∀ n, sv_mx (fun h => sv_told L R mk (sp_T ps) h (R - 1) - sp_T ps h) n ≤ 401 := sv_mx_le fun k => by
    have := hto k
    omega
  unfold sv_mtold at q
  have key : ∀ (n i : Nat), i + n = 64 → hb_R yX12_overtold cX12_overtold 4 (some .int) (d + 1 + 1) 4 [some (hb_r 12 0 0), some (hb_i (nI (sv_mx (fun h => sv_told L R mk (sp_T ps) h (R - 1) - sp_T ps h) i))), some (hb_i (nI i)), none] [] w Q := by
    intro n
    induction n with
    | zero =>
      intro i hi
      rw [Nat.add_zero] at hi
      subst hi
      exact bk_X12_overtold_4 ⟨fun _ => q, fun c => absurd (nI_le (Nat.le_refl 64) (by decide)) c⟩
    | succ n ih =>
      intro i hi
      have h1 := hto i
      have h2 := hmx i
      have hnext := ih (i + 1) (by omega)
      refine bk_X12_overtold_4 ⟨fun c => absurd c (nI_ge (b := 64) (by omega) (by decide)), fun _ => ?_⟩
      refine om_toldOf (by omega) hmk hB2 ?_
      refine bk_X12_overtold_15 ⟨vp_in_nI (by omega) (by decide), ?_⟩
      rw [nI_clamp (by omega), t3 i (by omega), pk_sub (sv_told_ge (by omega) (R - 1)), nI_1]
      have es : sv_mx (fun h => sv_told L R mk (sp_T ps) h (R - 1) - sp_T ps h) (i + 1) = if sv_mx (fun h => sv_told L R mk (sp_T ps) h (R - 1) - sp_T ps h) i < sv_told L R mk (sp_T ps) i (R - 1) - sp_T ps i then sv_told L R mk (sp_T ps) i (R - 1) - sp_T ps i else sv_mx (fun h => sv_told L R mk (sp_T ps) h (R - 1) - sp_T ps h) i := rfl
      rw [es] at hnext
      refine ⟨fun c => ?_, fun c => ?_⟩
      · rw [nI_leI (by omega) (by omega)] at c
        rw [if_neg (by omega)] at hnext
        exact hx_last (l := [_, _, _]) hnext
      · rw [nI_leI (by omega) (by omega)] at c
        rw [if_pos (by omega)] at hnext
        exact hx_last (l := [_, _, _]) hnext
  exact bk_X12_overtold_0 (key 64 0 (by omega))
theorem om_wrongly {L R : Nat} {mk : Nat → Nat → Nat} {ps : List (Nat × Nat)} (hmk : hm_mk w mk) (hB : mB w L R mk ps) (q : Q (some (hb_i (nI (sv_wr L mk (sp_T ps))))) w) : hb_O yX12_wrongly cX12_wrongly 3 (some .int) (d + 2) [hb_r 12 0 0] w Q := by
  have hB2 := hB
  obtain ⟨⟨n1, n2, n3, n4, n5, n6⟩, hl, hr, ⟨t1, t3, t5, t6, t7⟩, m0, m1, m2, m3, m4⟩ := hB
  have key : ∀ (n i : Nat), i + n = 64 → hb_R yX12_wrongly cX12_wrongly 3 (some .int) (d + 1 + 1) 4 [some (hb_r 12 0 0), some (hb_i (nI (sv_cnt (fun h => sp_T ps h = 0 ∧ sv_wasP L mk (sp_T ps) h) i))), some (hb_i (nI i))] [] w Q := by
    intro n
    induction n with
    | zero =>
      intro i hi
      rw [Nat.add_zero] at hi
      subst hi
      exact bk_X12_wrongly_4 ⟨fun _ => q, fun c => absurd (nI_le (Nat.le_refl 64) (by decide)) c⟩
    | succ n ih =>
      intro i hi
      have hT := sp_T_le ps i
      have hnext := ih (i + 1) (by omega)
      have hno : ¬ (sp_T ps i = 0 ∧ sv_wasP L mk (sp_T ps) i) → sv_cnt (fun h => sp_T ps h = 0 ∧ sv_wasP L mk (sp_T ps) h) (i + 1) = sv_cnt (fun h => sp_T ps h = 0 ∧ sv_wasP L mk (sp_T ps) h) i := fun z => by
        show sv_cnt _ i + sv_is _ = _
        rw [sv_is_n z]
        rfl
      refine bk_X12_wrongly_4 ⟨fun c => absurd c (nI_ge (b := 64) (by omega) (by decide)), fun _ => ⟨vp_in_nI (by omega) (by decide), fun c => ?_, fun c => ?_⟩⟩
      · rw [nI_clamp (by omega), t3 i (by omega), show (0 : Int32) = nI 0 from rfl, nI_eq (by omega) (by omega)] at c
        rw [nI_1, ← hno (fun z => c z.1)]
        exact hnext
      · rw [nI_clamp (by omega), t3 i (by omega), show (0 : Int32) = nI 0 from rfl, nI_eq (by omega) (by omega)] at c
        refine om_wasThere (by omega) hmk hB2 (fun z => ?_) (fun z => ?_)
        · refine bk_X12_wrongly_24 ⟨fun c2 => absurd c2 (by decide), fun _ => ?_⟩
          rw [nI_1, nI_1]
          have e : sv_cnt (fun h => sp_T ps h = 0 ∧ sv_wasP L mk (sp_T ps) h) (i + 1) = sv_cnt (fun h => sp_T ps h = 0 ∧ sv_wasP L mk (sp_T ps) h) i + 1 := by
            show sv_cnt _ i + sv_is _ = _
            rw [sv_is_y ⟨c, z⟩]
          rw [e] at hnext
          exact hnext
        · refine bk_X12_wrongly_24 ⟨fun _ => ?_, fun c2 => absurd rfl c2⟩
          rw [nI_1, ← hno (fun y => z y.2)]
          exact hnext
  exact bk_X12_wrongly_0 (key 64 0 (by omega))
theorem om_oftenOut {L R : Nat} {mk : Nat → Nat → Nat} {ps : List (Nat × Nat)} (hB : mB w L R mk ps) (q : Q (some (hb_i (sv_om L ps))) w) : hb_O yX12_oftenOut cX12_oftenOut 2 (some .int) (d + 1) [hb_r 12 0 0] w Q := by
  have hB2 := hB
  obtain ⟨⟨n1, n2, n3, n4, n5, n6⟩, hl, hr, ⟨t1, t3, t5, t6, t7⟩, m0, m1, m2, m3, m4⟩ := hB
  refine bk_X12_oftenOut_0 (om_oftenest hB2 ?_)
  unfold sv_hood
  unfold sv_om at q
  by_cases h0 : (sv_top (sp_T ps) 64).2 = 0
  · rw [if_pos h0] at q ⊢
    exact bk_X12_oftenOut_4 ⟨fun c => absurd rfl c, fun _ => bk_X12_oftenOut_28 q⟩
  · rw [if_neg h0] at q ⊢
    obtain ⟨h1, h2⟩ := sv_top_lt (f := sp_T ps) 64 (by omega)
    refine bk_X12_oftenOut_4 ⟨fun _ => ?_, fun c => absurd c (hx_ne (by omega))⟩
    refine om_oftenOf h1 hB2 (bk_X12_oftenOut_19 ⟨vp_in_nI (by omega) (by decide), ?_⟩)
    rw [nI_clamp (by omega), t3 _ h1]
    exact om_apart (bk_X12_oftenOut_28 q)
theorem mB.U {w : hb_W} {L R : Nat} {mk : Nat → Nat → Nat} {ps : List (Nat × Nat)} (hB : mB w L R mk ps) : ∀ h, h < 64 → hb_aI w 12 21 0 h = nI (sp_T ps h) ∧ sp_T ps h ≤ 401 := fun h hh => ⟨hB.2.2.2.1.2.1 h hh, Nat.le_trans (sp_T_le ps h) hB.1.2.2.2.2.1⟩
theorem om_outBy {L R k : Nat} {mk : Nat → Nat → Nat} {ps : List (Nat × Nat)} (hk : k < 6) (hmk : hm_mk w mk) (hB : mB w L R mk ps) (q : Q (some (hb_i (sv_out L R mk ps k))) w) : hb_O yX12_outBy cX12_outBy 2 (some .int) (d + 3) [hb_r 12 0 0, hb_i (nI k)] w Q := by
  have e0 : ∀ {a : Nat}, a < 10 → (nI k = nI a → k = a) := fun ha z => (nI_eq (by omega) (by omega)).mp z
  refine bk_X12_outBy_0 ⟨fun c => ?_, fun c => ?_, fun c => ?_, fun c => ?_, fun c => ?_, fun c0 c1 c2 c3 c4 => ?_⟩
  · have := e0 (a := 0) (by decide) c
    subst this
    exact om_unlikeSaid hB (bk_X12_outBy_40 (om_unlikeMany hB.U (bk_X12_outBy_44 (om_apart (bk_X12_outBy_47 q)))))
  · have := e0 (a := 1) (by decide) c
    subst this
    exact om_runsSaid hB (bk_X12_outBy_52 (om_unlikeMany hB.U (bk_X12_outBy_56 (om_apart (bk_X12_outBy_59 q)))))
  · have := e0 (a := 2) (by decide) c
    subst this
    exact om_overtold hmk hB (bk_X12_outBy_64 q)
  · have := e0 (a := 3) (by decide) c
    subst this
    exact om_wrongly hmk hB (bk_X12_outBy_69 q)
  · have := e0 (a := 4) (by decide) c
    subst this
    exact om_middleSaid hB (bk_X12_outBy_74 (om_middleGift hB (bk_X12_outBy_78 (om_apart (bk_X12_outBy_81 q)))))
  · have : k = 5 := by
      have h0 : k ≠ 0 := fun z => c0 (by rw [z]; rfl)
      have h1 : k ≠ 1 := fun z => c1 (by rw [z]; rfl)
      have h2 : k ≠ 2 := fun z => c2 (by rw [z]; rfl)
      have h3 : k ≠ 3 := fun z => c3 (by rw [z]; rfl)
      have h4 : k ≠ 4 := fun z => c4 (by rw [z]; rfl)
      omega
    subst this
    exact om_oftenOut hB (bk_X12_outBy_86 q)
theorem om_isSame {L R h : Nat} {mk : Nat → Nat → Nat} {ps : List (Nat × Nat)} (hh : h < 64) (hmk : hm_mk w mk) (hB : mB w L R mk ps) (q1 : sv_sameP L mk (sp_T ps) h → Q (some (hb_i 1)) w) (q0 : ¬ sv_sameP L mk (sp_T ps) h → Q (some (hb_i 0)) w) : hb_O yX12_isSame cX12_isSame 5 (some .boolean) (d + 2) [hb_r 12 0 0, hb_i (nI h)] w Q := by
  have hB2 := hB
  obtain ⟨⟨n1, n2, n3, n4, n5, n6⟩, hl, hr, ⟨t1, t3, t5, t6, t7⟩, m0, m1, m2, m3, m4⟩ := hB
  obtain ⟨l, l1, l2, l3, l4⟩ := m0
  have eL := sv_L_eq l3
  have er : sv_R (sS1 mk (sp_T ps)) = hb_fI w 12 45 0 := sv_R_eq m1
  have hlen := l3.2.2.1
  -- the signs, once it is no
  have s0 : ¬ sv_sameP L mk (sp_T ps) h → ∀ (n i : Nat), i + n = L → hb_R yX12_isSame cX12_isSame 5 (some .boolean) (d + 1 + 1) 115 [some (hb_r 12 0 0), some (hb_i (nI h)), some (hb_i (nI (mk h 0))), some (hb_i 0), some (hb_i (nI i))] [] w Q := by
    intro hno n
    induction n with
    | zero =>
      intro i hi
      rw [Nat.add_zero] at hi
      subst hi
      exact bk_X12_isSame_115 ⟨fun _ => ⟨Or.inl rfl, q0 hno⟩, fun c => absurd (by rw [hl]; exact nI_le (Nat.le_refl _) (by omega)) c⟩
    | succ n ih =>
      intro i hi
      refine bk_X12_isSame_115 ⟨fun c => absurd c (by rw [hl]; exact nI_ge (by omega) (by omega)), fun _ => ⟨fun _ => ?_, fun c => absurd rfl c⟩⟩
      rw [nI_1]
      exact ih (i + 1) (by omega)
  have s1 : sv_wasP L mk (sp_T ps) h → nI (sp_nz (mk h 1)) ≤ sv_R (sS1 mk (sp_T ps)) → sv_lls L (sv_L L (sS0 mk (sp_T ps))) (mk h 0) → ∀ (n i : Nat), i + n = L → (∀ k, k < i → sv_S mk (sp_T ps) k ≤ mk h k) → hb_R yX12_isSame cX12_isSame 5 (some .boolean) (d + 1 + 1) 115 [some (hb_r 12 0 0), some (hb_i (nI h)), some (hb_i (nI (mk h 0))), some (hb_i 1), some (hb_i (nI i))] [] w Q := by
    intro a1 a2 a3 n
    induction n with
    | zero =>
      intro i hi hs
      rw [Nat.add_zero] at hi
      subst hi
      exact bk_X12_isSame_115 ⟨fun _ => ⟨Or.inr rfl, q1 ⟨a1, a2, hs, a3⟩⟩, fun c => absurd (by rw [hl]; exact nI_le (Nat.le_refl _) (by omega)) c⟩
    | succ n ih =>
      intro i hi hs
      obtain ⟨v, v1, v2, v3⟩ := m4 i (by omega)
      have ev := sv_S_eq v1
      obtain ⟨_, hb⟩ := hmk h i hh (by omega)
      refine bk_X12_isSame_115 ⟨fun c => absurd c (by rw [hl]; exact nI_ge (by omega) (by omega)), fun _ => ⟨fun c => absurd c (by decide), fun _ => ⟨vp_in_nI (by omega) (by decide), fun c => ?_, fun c => ?_⟩⟩⟩
      · rw [nI_clamp (by omega), v3] at c
        have hv : v = 1000 := by
          rcases Decidable.em (v = 1000) with z | z
          · exact z
          · rw [if_neg z] at c
            exact absurd c (hx_ne (by omega))
        rw [nI_1]
        refine s0 (fun z => ?_) n (i + 1) (by omega)
        have := z.2.2.1 i (by omega)
        omega
      · rw [nI_clamp (by omega), v3] at c
        have hv : ¬ v = 1000 := fun z => c (by rw [if_pos z])
        refine om_marked hh (by omega) hmk fun _ => ?_
        refine bk_X12_isSame_146 ⟨vp_in_nI (by omega) (by decide), ?_⟩
        rw [nI_clamp (by omega), v3, if_neg hv, nI_1, nI_ltI (by omega) (by omega)]
        refine ⟨fun c2 => ?_, fun c2 => ?_⟩
        · refine s0 (fun z => ?_) n (i + 1) (by omega)
          have := z.2.2.1 i (by omega)
          omega
        · refine ih (i + 1) (by omega) fun k hk => ?_
          rcases Nat.lt_or_ge k i with y | y
          · exact hs k y
          · have : k = i := by omega
            subst this
            omega
  -- the least marks
  have f1 : ∀ (n i : Nat), i + n = l.length → sv_lls L l (mk h 0) → hb_R yX12_isSame cX12_isSame 5 (some .boolean) (d + 1 + 1) 42 [some (hb_r 12 0 0), some (hb_i (nI h)), some (hb_i (nI (mk h 0))), some (hb_i 1), some (hb_i (nI i))] [] w Q := by
    intro n
    induction n with
    | zero =>
      intro i hi hy
      rw [Nat.add_zero] at hi
      subst hi
      refine bk_X12_isSame_42 ⟨fun _ => ⟨fun c => absurd c (by decide), fun _ => ?_⟩, fun c => absurd (by rw [l1]; exact nI_le (Nat.le_refl _) (by omega)) c⟩
      refine om_marked (l := 1) hh (by decide) hmk fun b1 => ?_
      refine bk_X12_isSame_88 (om_noughts b1 ?_)
      have hz := sp_nz_le (mk h 1)
      refine bk_X12_isSame_91 ⟨fun c => ?_, fun c => ?_⟩
      · refine s0 (fun z => ?_) L 0 (by omega)
        have := z.2.1
        rw [er, Int32.le_iff_toInt_le] at this
        rw [Int32.lt_iff_toInt_lt] at c
        omega
      · have hr2 : nI (sp_nz (mk h 1)) ≤ sv_R (sS1 mk (sp_T ps)) := by
          rw [er, Int32.le_iff_toInt_le]
          rw [Int32.lt_iff_toInt_lt] at c
          omega
        refine om_wasThere hh hmk hB2 (fun z => ?_) (fun z => ?_)
        · refine bk_X12_isSame_103 ⟨fun c => absurd c (by decide), fun _ => ?_⟩
          exact s1 z hr2 (by rw [eL]; exact hy) L 0 (by omega) (fun k hk => absurd hk (Nat.not_lt_zero k))
        · exact bk_X12_isSame_103 ⟨fun _ => s0 (fun y => z y.1) L 0 (by omega), fun c => absurd rfl c⟩
    | succ n ih =>
      intro i hi hy
      refine bk_X12_isSame_42 ⟨fun c => absurd c (by rw [l1]; exact nI_ge (by omega) (by omega)), fun _ => ⟨fun _ => ?_, fun c => absurd c (by decide)⟩⟩
      rw [nI_1]
      exact ih (i + 1) (by omega) hy
  have f0 : ¬ (l.length = L ∧ l.getD (L - 1) 0 < mk h 0) → mk h 0 < 1000 → ∀ (n i : Nat), i + n = l.length → (∀ k, k < i → ¬ l.getD k 0 = mk h 0) → hb_R yX12_isSame cX12_isSame 5 (some .boolean) (d + 1 + 1) 42 [some (hb_r 12 0 0), some (hb_i (nI h)), some (hb_i (nI (mk h 0))), some (hb_i 0), some (hb_i (nI i))] [] w Q := by
    intro hno hb0 n
    induction n with
    | zero =>
      intro i hi hne
      rw [Nat.add_zero] at hi
      subst hi
      refine bk_X12_isSame_42 ⟨fun _ => ⟨fun _ => ?_, fun c => absurd rfl c⟩, fun c => absurd (by rw [l1]; exact nI_le (Nat.le_refl _) (by omega)) c⟩
      refine s0 (fun z => ?_) L 0 (by omega)
      have := z.2.2.2
      rw [eL] at this
      rcases this with y | y
      · obtain ⟨k, hk, e⟩ := List.getElem_of_mem y
        refine hne k hk ?_
        rw [List.getD_eq_getElem?_getD, List.getElem?_eq_getElem hk]
        exact e
      · exact hno y
    | succ n ih =>
      intro i hi hne
      have hil : i < l.length := by omega
      have hmem : l.getD i 0 ∈ l := by
        rw [List.getD_eq_getElem?_getD, List.getElem?_eq_getElem hil]
        exact List.getElem_mem hil
      have h1000 := l4 _ hmem
      refine bk_X12_isSame_42 ⟨fun c => absurd c (by rw [l1]; exact nI_ge (by omega) (by omega)), fun _ => ⟨fun c => absurd rfl c, fun _ => ⟨vp_in_nI (by omega) (by decide), ?_⟩⟩⟩
      rw [nI_clamp (by omega), l2 i hil, nI_1, nI_eq (by omega) (by omega)]
      refine ⟨fun c => ?_, fun c => ?_⟩
      · refine ih (i + 1) (by omega) fun k hk => ?_
        rcases Nat.lt_or_ge k i with y | y
        · exact hne k y
        · have : k = i := by omega
          subst this
          exact c
      · exact f1 n (i + 1) (by omega) (Or.inl (c ▸ hmem))
  refine bk_X12_isSame_0 (om_marked (l := 0) hh (by decide) hmk fun b0 => bk_X12_isSame_6 ?_)
  have e1 : hb_fI w 12 39 0 - 1 = nI (L - 1) := by rw [hl, show (1 : Int32) = nI 1 from rfl, pk_sub n1]
  rw [e1, nI_clamp (by omega), l1, hl, nI_eq (by omega) (by omega)]
  refine ⟨fun c => f0 (fun z => c z.1) b0 l.length 0 (by omega) (fun k hk => absurd hk (Nat.not_lt_zero k)), fun c => ⟨vp_in_nI (by omega) (by decide), ?_⟩⟩
  have hmem : l.getD (L - 1) 0 ∈ l := by
    rw [List.getD_eq_getElem?_getD, List.getElem?_eq_getElem (show L - 1 < l.length by omega)]
    exact List.getElem_mem _
  have h1000 := l4 _ hmem
  rw [l2 (L - 1) (by omega), nI_leI (by omega) (by omega)]
  exact ⟨fun c2 => f0 (fun z => by omega) b0 l.length 0 (by omega) (fun k hk => absurd hk (Nat.not_lt_zero k)), fun c2 => f1 l.length 0 (by omega) (Or.inr ⟨c, by omega⟩)⟩
end HMD
