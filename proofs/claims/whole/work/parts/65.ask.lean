/-! ===== questions: what codes tell of a hood, and the answers ===== -/
theorem sp_V_le : ∀ {ps : List (Nat × Nat)} (h : Nat), (∀ p ∈ ps, p.2 < 100) → sp_V ps h ≤ 99 * ps.length
  | [], _, _ => Nat.le_refl _
  | p :: ps, h, hp => by
    have ih := sp_V_le (ps := ps) h (fun q hq => hp q (List.mem_cons_of_mem _ hq))
    have h1 := hp p List.mem_cons_self
    unfold sp_V at ih ⊢
    rw [List.map_cons, List.sum_cons, List.length_cons]
    split <;> omega
def qP (i c : Nat) (T told V : Nat → Nat) (k : Nat) : Int := if k = 0 then (i : Int) else if k = 3 then (c : Int) else if k = 4 then (T i : Int) else if k = 5 then (told i : Int) else (V i : Int)
def qOk (C : List Nat) : Prop := ∀ c ∈ C, ∀ k, c = 40 + k → k < 7 → k = 0 ∨ 3 ≤ k
/-- the codes of the model's question -/
def mQ (w : hb_W) (C : List Nat) : Prop := hb_fI w 12 80 0 = nI C.length ∧ C.length ≤ 1700 ∧ ∀ k c, C[k]? = some c → hb_aI w 12 54 0 k = nI c
/-- what the model's question looks at -/
def mAs (w : hb_W) (c L R : Nat) (mk : Nat → Nat → Nat) (P : List (Nat × Nat × Nat)) : Prop := hb_fI w 12 31 0 = 2 ∧ hb_aI w 12 18 0 0 = nI c ∧ (∀ h, h < 64 → hb_aI w 12 21 0 h = nI (sp_T (sp_bk 2 P) h)) ∧ (∀ h, h < 64 → hb_aI w 12 22 0 h = nI (sv_told L R mk (sp_T (sp_bk 2 P)) h (R - 1))) ∧ hb_aI w 12 18 0 1 = nI P.length ∧ mP w P ∧ hm_mk w mk
theorem mAs.ag {w w2 : hb_W} {c L R : Nat} {mk : Nat → Nat → Nat} {P : List (Nat × Nat × Nat)} (h : mAs w c L R mk P) (ha : hm_ag [86, 87, 88] [56] w w2) : mAs w2 c L R mk P := by
  unfold mAs mP hm_mk at h ⊢
  rw [ha.I 31, ha.A 18, ha.A 21, ha.A 22, ha.A 19, ha.A 20]
  exact h
theorem mQ.ag {w w2 : hb_W} {C : List Nat} (h : mQ w C) (ha : hm_ag [86, 87, 88] [56] w w2) : mQ w2 C := by
  unfold mQ at h ⊢
  rw [ha.I 80, ha.A 54]
  exact h
section HAQ
variable {d : Nat} {w : hb_W} {Q : Option hb_V → hb_W → Prop}
theorem om_isIn {x lo hi : Int64} (q1 : lo ≤ x → x ≤ hi → Q (some (hb_i 1)) w) (q0 : ¬ (lo ≤ x ∧ x ≤ hi) → Q (some (hb_i 0)) w) : hb_O yX12_isIn cX12_isIn 6 (some .boolean) d [hb_l x, hb_l lo, hb_l hi] w Q := by
  have ltle : ∀ a b : Int64, a < b ↔ ¬ b ≤ a := fun a b => by rw [Int64.le_iff_toInt_le, Int64.lt_iff_toInt_lt]; omega
  refine bk_X12_isIn_0 ?_
  rw [lg_cmp_lt, lg_cmp_gt, ltle, ltle, Classical.not_not, Classical.not_not]
  exact ⟨fun z => q0 (fun y => z y.1), fun z => ⟨fun z2 => q0 (fun y => z2 y.2), fun z2 => q1 z z2⟩⟩
theorem om_giftsOf {i : Nat} {P : List (Nat × Nat × Nat)} (hi : i < 64) (hlen : P.length ≤ 400) (ho : sp_okP P) (hn : hb_aI w 12 18 0 1 = nI P.length) (hP : mP w P) (q : Q (some (hb_l (lN (sp_V (sp_bk 2 P) i)))) w) : hb_O yX12_giftsOf cX12_giftsOf 5 (some .long) (d + 1) [hb_r 12 0 0, hb_i (nI i)] w Q := by
  have e1 : hb_aI w 12 18 0 (1 : Int32).toNatClampNeg = nI P.length := hn
  have loop : ∀ (n k : Nat), k + n = P.length → hb_R yX12_giftsOf cX12_giftsOf 5 (some .long) (d + 1) 5 [some (hb_r 12 0 0), some (hb_i (nI i)), some (hb_l (lN (sp_V (sp_bk 2 (P.take k)) i))), none, some (hb_i (nI k))] [] w Q := by
    intro n
    induction n with
    | zero =>
      intro k hk
      rw [Nat.add_zero] at hk
      subst hk
      rw [List.take_length]
      exact bk_X12_giftsOf_5 ⟨fun _ => q, fun z => absurd (by rw [e1]; exact nI_le (Nat.le_refl _) (by omega)) z⟩
    | succ n ih =>
      intro k hk
      have hkl : k < P.length := by omega
      have hpk : P[k]? = some P[k] := List.getElem?_eq_getElem hkl
      have hpp := ho P[k] (List.getElem_mem hkl)
      have htk : P.take (k + 1) = P.take k ++ [P[k]] := by rw [List.take_add_one, hpk]; rfl
      have e3 : (3 : Int32) * nI k + 1 = nI (3 * k + 1) := by rw [show (3 : Int32) = nI 3 from rfl, pk_mul, nI_1]
      refine bk_X12_giftsOf_5 ⟨fun z => absurd z (by rw [e1]; exact nI_ge hkl (by omega)), fun _ => ?_⟩
      refine om_hoodOf hpk (by omega) hP (bk_X12_giftsOf_22 ?_)
      have := ih (k + 1) (by omega)
      rw [htk, sp_bk_app, if_pos (Or.inl rfl), sp_V_app] at this
      rw [nI_eq (by omega) (by omega), nI_1, e3, nI_clamp (by omega), (hP k _ hpk).2.1, nI_l (by omega), lN_add]
      refine ⟨fun z => ?_, fun z => ⟨vp_in_nI (by omega) (by decide), ?_⟩⟩
      · rw [if_neg (fun y => z y.symm)] at this
        exact this
      · rw [if_pos z.symm] at this
        exact this
  exact bk_X12_giftsOf_0 (loop P.length 0 (by omega))
theorem om_timesAt {i t : Nat} {P : List (Nat × Nat × Nat)} (hi : i < 64) (ht : t < 2) (hlen : P.length ≤ 400) (ho : sp_okP P) (hn : hb_aI w 12 18 0 1 = nI P.length) (hP : mP w P) (q : Q (some (hb_i (nI (sp_T (sp_bk t P) i)))) w) : hb_O yX12_timesAt cX12_timesAt 5 (some .int) (d + 1) [hb_r 12 0 0, hb_i (nI i), hb_i (nI t)] w Q := by
  have e1 : hb_aI w 12 18 0 (1 : Int32).toNatClampNeg = nI P.length := hn
  have loop : ∀ (n k : Nat), k + n = P.length → hb_R yX12_timesAt cX12_timesAt 5 (some .int) (d + 1) 5 [some (hb_r 12 0 0), some (hb_i (nI i)), some (hb_i (nI t)), some (hb_i (nI (sp_T (sp_bk t (P.take k)) i))), some (hb_i (nI k))] [] w Q := by
    intro n
    induction n with
    | zero =>
      intro k hk
      rw [Nat.add_zero] at hk
      subst hk
      rw [List.take_length]
      exact bk_X12_timesAt_5 ⟨fun _ => q, fun z => absurd (by rw [e1]; exact nI_le (Nat.le_refl _) (by omega)) z⟩
    | succ n ih =>
      intro k hk
      have hkl : k < P.length := by omega
      have hpk : P[k]? = some P[k] := List.getElem?_eq_getElem hkl
      have hpp := ho P[k] (List.getElem_mem hkl)
      have htk : P.take (k + 1) = P.take k ++ [P[k]] := by rw [List.take_add_one, hpk]; rfl
      have e3 : (3 : Int32) * nI k + 2 = nI (3 * k + 2) := by rw [show (3 : Int32) = nI 3 from rfl, pk_mul, show (2 : Int32) = nI 2 from rfl, nI_add]
      refine bk_X12_timesAt_5 ⟨fun z => absurd z (by rw [e1]; exact nI_ge hkl (by omega)), fun _ => ?_⟩
      refine om_hoodOf hpk (by omega) hP (bk_X12_timesAt_22 ?_)
      have := ih (k + 1) (by omega)
      rw [htk, sp_bk_app] at this
      rw [nI_eq (by omega) (by omega), nI_1, nI_1, e3, nI_clamp (by omega), (hP k _ hpk).2.2, nI_eq (by omega) (by omega)]
      have ht2 : t ≠ 2 := by omega
      refine ⟨fun z => ?_, fun z => ⟨vp_in_nI (by omega) (by decide), fun z2 => ?_, fun z2 => ?_⟩⟩
      · by_cases y : t = 2 ∨ P[k].2.2 = t
        · rw [if_pos y, sp_T_app, if_neg (fun y => z y.symm)] at this
          exact this
        · rw [if_neg y] at this
          exact this
      · rw [if_neg (by omega)] at this
        exact this
      · rw [if_pos (Or.inr z2), sp_T_app, if_pos z.symm] at this
        exact this
  exact bk_X12_timesAt_0 (loop P.length 0 (by omega))
theorem om_qPartOf2 {k i c L R : Nat} {mk : Nat → Nat → Nat} {P : List (Nat × Nat × Nat)} (hi : i < 64) (hk : k < 7) (hk2 : k = 0 ∨ 3 ≤ k) (hc : c < 100) (hlen : P.length ≤ 400) (ho : sp_okP P) (hA : mAs w c L R mk P) (q : Q (some (hb_l (jL (qP i c (sp_T (sp_bk 2 P)) (fun h => sv_told L R mk (sp_T (sp_bk 2 P)) h (R - 1)) (sp_V (sp_bk 2 P)) k)))) w) : hb_O yX12_qPartOf cX12_qPartOf 3 (some .long) (d + 2) [hb_r 12 0 0, hb_i (nI k), hb_i (nI i)] w Q := by
  obtain ⟨a1, a2, a3, a4, a5, a6, a7⟩ := hA
  have vi : vp_in (nI i) 64 := vp_in_nI hi (by decide)
  have hbl := sp_bk_len 2 P
  have hT := sp_T_le (sp_bk 2 P) i
  have hV := sp_V_le (ps := sp_bk 2 P) i (fun p hp => (sp_bk_ok ho p hp).2)
  have ht := sv_told_le (L := L) (R := R) (mk := mk) (ps := sp_bk 2 P) (fun p hp => (sp_bk_ok ho p hp).1) i (R - 1)
  have hk5 : k = 0 ∨ k = 3 ∨ k = 4 ∨ k = 5 ∨ k = 6 := by omega
  rcases hk5 with rfl | rfl | rfl | rfl | rfl
  · have e : (nI i).toInt64 = jL (i : Int) := by rw [nI_l (by omega), jL_n (by omega)]
    refine bk_X12_qPartOf_0 ⟨fun _ => ⟨fun z => absurd a1 z, fun _ => ?_⟩, fun z => absurd z (by decide), fun z => absurd z (by decide), fun z => absurd z (by decide), fun z => absurd z (by decide), fun z => absurd z (by decide), fun z => absurd (by decide) z⟩
    rw [e]; exact q
  · have e : (hb_aI w 12 18 0 (0 : Int32).toNatClampNeg).toInt64 = jL (c : Int) := by
      show (hb_aI w 12 18 0 0).toInt64 = _
      rw [a2, nI_l (by omega), jL_n (by omega)]
    refine bk_X12_qPartOf_0 ⟨fun z => absurd z (by decide), fun z => absurd z (by decide), fun z => absurd z (by decide), fun _ => ⟨fun z => absurd a1 z, fun _ => ?_⟩, fun z => absurd z (by decide), fun z => absurd z (by decide), fun _ _ _ z => absurd (by decide) z⟩
    rw [e]; exact q
  · refine bk_X12_qPartOf_0 ⟨fun z => absurd z (by decide), fun z => absurd z (by decide), fun z => absurd z (by decide), fun z => absurd z (by decide), fun _ => ⟨vi, ?_⟩, fun z => absurd z (by decide), fun _ _ _ _ z => absurd (by decide) z⟩
    rw [nI_clamp (by omega), a3 i hi, nI_l (by omega), ← jL_n (by omega)]; exact q
  · refine bk_X12_qPartOf_0 ⟨fun z => absurd z (by decide), fun z => absurd z (by decide), fun z => absurd z (by decide), fun z => absurd z (by decide), fun z => absurd z (by decide), fun _ => ⟨vi, ?_⟩, fun _ _ _ _ _ z => absurd (by decide) z⟩
    rw [nI_clamp (by omega), a4 i hi, nI_l (by omega), ← jL_n (by omega)]; exact q
  · refine bk_X12_qPartOf_0 ⟨fun z => absurd z (by decide), fun z => absurd z (by decide), fun z => absurd z (by decide), fun z => absurd z (by decide), fun z => absurd z (by decide), fun z => absurd z (by decide), fun _ _ _ _ _ _ => ?_⟩
    refine om_giftsOf hi hlen ho a5 a6 (bk_X12_qPartOf_116 ?_)
    rw [← jL_n (by omega)]; exact q
theorem om_qOf {k i c L R : Nat} {v : Int} {mk : Nat → Nat → Nat} {P : List (Nat × Nat × Nat)} (hi : i < 64) (hk : k < 2) (hv : jB v) (hlen : P.length ≤ 400) (ho : sp_okP P) (hA : mAs w c L R mk P) (q : Q (some (hb_l (jL (foM mk i (sp_T (sp_bk 0 P) i) (sp_T (sp_bk 1 P) i) k v)))) w) : hb_O yX12_qOf cX12_qOf 5 (some .long) (d + 2) [hb_r 12 0 0, hb_i (nI k), hb_l (jL v), hb_i (nI i)] w Q := by
  obtain ⟨a1, a2, a3, a4, a5, a6, a7⟩ := hA
  have h1 := hv.1; have h2 := hv.2
  have e0 : (0 : Int64) = jL 0 := by decide
  have e8 : (8 : Int64) = jL 8 := by decide
  have e1 : (1 : Int64) = jL 1 := by decide
  have hk2 : k = 0 ∨ k = 1 := by omega
  rcases hk2 with rfl | rfl
  · unfold foM at q
    rw [if_pos rfl] at q
    refine bk_X12_qOf_0 ⟨fun _ => ?_, fun z => absurd rfl z⟩
    refine om_isIn (fun z1 z2 => bk_X12_qOf_28 ⟨fun z => absurd z (by decide), fun _ => ?_⟩) (fun z => bk_X12_qOf_28 ⟨fun _ => ?_, fun y => absurd rfl y⟩)
    · rw [e0, jL_le (by omega) (by omega)] at z1
      rw [e8, jL_le (by omega) (by omega)] at z2
      rw [if_pos ⟨z1, by omega⟩] at q
      have e : (9 : Int32) * nI i + (jL v).toInt32 = nI (9 * i + v.toNat) := by
        rw [jL_I (by omega), show (9 : Int32) = nI 9 from rfl, pk_mul, show v = ((v.toNat : Nat) : Int) from (Int.toNat_of_nonneg z1).symm, jI_n (by omega), nI_add]
        rw [Int.toNat_natCast]
      obtain ⟨m1, m2⟩ := a7 i v.toNat hi (by omega)
      rw [e]
      refine ⟨vp_in_nI (by omega) (by decide), ?_⟩
      rw [nI_clamp (by omega), m1, nI_l (by omega), ← jL_n (by omega)]
      exact q
    · rw [e0, e8, jL_le (by omega) (by omega), jL_le (by omega) (by omega)] at z
      rw [if_neg (by omega)] at q
      exact q
  · have q2 : Q (some (hb_l (jL (if v = 0 then ((sp_T (sp_bk 0 P) i : Nat) : Int) else if v = 1 then ((sp_T (sp_bk 1 P) i : Nat) : Int) else 0)))) w := q
    refine bk_X12_qOf_0 ⟨fun z => absurd z (by decide), fun _ => ?_⟩
    have hb0 := sp_bk_len 0 P
    have hb1 := sp_bk_len 1 P
    have hT0 := sp_T_le (sp_bk 0 P) i
    have hT1 := sp_T_le (sp_bk 1 P) i
    refine om_isIn (fun z1 z2 => bk_X12_qOf_56 ⟨fun z => absurd z (by decide), fun _ => ?_⟩) (fun z => bk_X12_qOf_56 ⟨fun _ => ?_, fun y => absurd rfl y⟩)
    · rw [e0, jL_le (by omega) (by omega)] at z1
      rw [e1, jL_le (by omega) (by omega)] at z2
      rw [jL_I (by omega)]
      have hv2 : v = 0 ∨ v = 1 := by omega
      rcases hv2 with y | y
      · rw [if_pos y] at q2
        subst y
        refine om_timesAt (t := 0) hi (by decide) hlen ho a5 a6 (bk_X12_qOf_67 ?_)
        rw [nI_l (by omega), ← jL_n (by omega)]
        exact q2
      · rw [if_neg (by omega), if_pos y] at q2
        subst y
        refine om_timesAt (t := 1) hi (by decide) hlen ho a5 a6 (bk_X12_qOf_67 ?_)
        rw [nI_l (by omega), ← jL_n (by omega)]
        exact q2
    · rw [e0, e1, jL_le (by omega) (by omega), jL_le (by omega) (by omega)] at z
      rw [if_neg (by omega), if_neg (by omega)] at q2
      exact q2
set_option maxHeartbeats 1000000 in
theorem om_qTold {i c L R : Nat} {b : Bool} {C : List Nat} {mk : Nat → Nat → Nat} {P : List (Nat × Nat × Nat)} (hi : i < 64) (hc : c < 100) (hlen : P.length ≤ 400) (ho : sp_okP P) (hA : mAs w c L R mk P) (hC : mQ w C) (hty : tyR 64 C [] = some [b]) (hok : qOk C)
    (q : ∀ v w2, evR (qP i c (sp_T (sp_bk 2 P)) (fun h => sv_told L R mk (sp_T (sp_bk 2 P)) h (R - 1)) (sp_V (sp_bk 2 P))) (foM mk i (sp_T (sp_bk 0 P) i) (sp_T (sp_bk 1 P) i)) C [] = [v] → jB v → (b = true → v = 0 ∨ v = 1) → hm_ag [86] [56] w w2 → Q (some (hb_l (jL v))) w2) : hb_O yX12_qTold cX12_qTold 4 (some .long) (d + 3) [hb_r 12 0 0, hb_i (nI i)] w Q := by
  obtain ⟨c80, c81, c82⟩ := hC
  have hbl0 := sp_bk_len 0 P
  have hbl1 := sp_bk_len 1 P
  have hbl := sp_bk_len 2 P
  have hT0 := sp_T_le (sp_bk 0 P) i
  have hT1 := sp_T_le (sp_bk 1 P) i
  have hT := sp_T_le (sp_bk 2 P) i
  have hV := sp_V_le (ps := sp_bk 2 P) i (fun p hp => (sp_bk_ok ho p hp).2)
  have ht := sv_told_le (L := L) (R := R) (mk := mk) (ps := sp_bk 2 P) (fun p hp => (sp_bk_ok ho p hp).1) i (R - 1)
  have hpB : ∀ k, jB (qP i c (sp_T (sp_bk 2 P)) (fun h => sv_told L R mk (sp_T (sp_bk 2 P)) h (R - 1)) (sp_V (sp_bk 2 P)) k) := fun k => by
    unfold qP jB
    dsimp only
    repeat' split
    all_goals omega
  have hfB : ∀ k v, jB (foM mk i (sp_T (sp_bk 0 P) i) (sp_T (sp_bk 1 P) i) k v) := fun k v => foM_B (fun _ l hl => (hA.2.2.2.2.2.2 i l hi hl).2) (fun _ => ⟨by omega, by omega⟩)
  generalize hpt : qP i c (sp_T (sp_bk 2 P)) (fun h => sv_told L R mk (sp_T (sp_bk 2 P)) h (R - 1)) (sp_V (sp_bk 2 P)) = pt at q hpB
  generalize hfo : foM mk i (sp_T (sp_bk 0 P) i) (sp_T (sp_bk 1 P) i) = fo at q hfB
  have key : ∀ (E D : List Nat), C = D ++ E → ∀ (s : List Int) (t : List Bool) (w' : hb_W), evR pt fo D [] = s → tyR 64 E t = some [b] → tyS s t → t.length ≤ 64 → stkL (hb_aL w' 12 56 0) s → hb_fI w' 12 86 0 = nI s.length → hm_ag [86] [56] w w' → hb_R yX12_qTold cX12_qTold 4 (some .long) (d + 2 + 1) 7 [some (hb_r 12 0 0), some (hb_i (nI i)), some (hb_i (nI D.length)), none] [] w' Q := by
    intro E
    induction E with
    | nil =>
      intro D hD s t w' hs ht hts h64 hst h86 hag
      rw [List.append_nil] at hD
      subst hD
      have e : t = [b] := Option.some.inj ht
      subst e
      cases s with
      | nil => exact False.elim hts
      | cons v s =>
        cases s with
        | cons _ _ => exact False.elim hts.2.2
        | nil =>
          refine bk_X12_qTold_7 ⟨fun _ => ?_, fun z => absurd (by rw [hag.I 80, c80]; exact nI_le (Nat.le_refl _) (by omega)) z⟩
          have e2 : hb_aL w' 12 56 0 (0 : Int32).toNatClampNeg = jL v := hst.1
          rw [e2]
          exact q v w' hs hts.1 hts.2.1 hag
    | cons c0 E ih =>
      intro D hD s t w' hs ht hts h64 hst h86 hag
      have hcm : c0 ∈ C := by rw [hD]; exact List.mem_append_right _ List.mem_cons_self
      have hcl : D.length < C.length := by rw [hD, List.length_append, List.length_cons]; omega
      have hcell : hb_aI w' 12 54 0 D.length = nI c0 := by
        rw [hag.A 54]
        exact c82 D.length c0 (by rw [hD, List.getElem?_append_right (Nat.le_refl _), Nat.sub_self]; rfl)
      have hclt : c0 < 11000 := tyR_C hty c0 hcm
      obtain ⟨t', ht1, ht2⟩ := Option.bind_eq_some_iff.mp ht
      have hlen2 := tyS_len hts
      have h64' : t'.length ≤ 64 := by
        rcases ty1_cases ht1 with ⟨_, _, c3, e⟩ | ⟨_, e, _⟩ | ⟨_, _, c3, e⟩ | ⟨_, c3, e⟩ | ⟨_, e, _⟩ | ⟨_, _, t0, e2, e⟩
        · rw [e, List.length_cons]; omega
        · rw [e]; exact h64
        · rw [e, List.length_cons]; omega
        · rw [e, List.length_cons]; omega
        · rw [e]; exact h64
        · rw [e2, List.length_cons, List.length_cons] at h64
          rw [e, List.length_cons]; omega
      have hts' := ty_step ht1 hts (fun k _ _ => hpB k) (fun k v _ _ => hfB k v)
      have hAs : mAs w' c L R mk P := hA.ag (hag.wk (by decide) (fun x hx => hx))
      have next : ∀ w2 : hb_W, stkL (hb_aL w2 12 56 0) (ev1 pt fo s c0) → hb_fI w2 12 86 0 = nI (ev1 pt fo s c0).length → hm_ag [86] [56] w' w2 → ∀ x3 : Int32, hb_R yX12_qTold cX12_qTold 4 (some .long) (d + 2 + 1) 162 [some (hb_r 12 0 0), some (hb_i (nI i)), some (hb_i (nI D.length)), some (hb_i x3)] [] w2 Q := by
        intro w2 g1 g2 g3 x3
        refine bk_X12_qTold_162 ?_
        rw [nI_1]
        refine hx_last (l := [_, _, _]) ?_
        have := ih (D ++ [c0]) (by rw [hD]; simp) _ t' w2 (by rw [evR_app, hs]) ht2 hts' h64' g1 g2 (hag.tr g3)
        rw [List.length_append, List.length_singleton] at this
        exact this
      refine bk_X12_qTold_7 ⟨fun z => absurd z (by rw [hag.I 80, c80]; exact nI_ge (by omega) (by omega)), fun _ => ⟨vp_in_nI (by omega) (by decide), ?_⟩⟩
      rw [nI_clamp (by omega), hcell]
      have e1000 : (1000 : Int32) = nI 1000 := rfl
      have e60 : (60 : Int32) = nI 60 := rfl
      have e40 : (40 : Int32) = nI 40 := rfl
      have e13 : (13 : Int32) = nI 13 := rfl
      have e12 : (12 : Int32) = nI 12 := rfl
      rw [e1000, e60, e40, e13, e12, nI_ltI (by omega) (by omega), nI_ltI (by omega) (by omega), nI_ltI (by omega) (by omega), nI_eq (by omega) (by omega), nI_eq (by omega) (by omega)]
      refine ⟨fun z1 => ⟨fun z2 => ⟨fun z3 => ⟨fun z4 => ⟨fun z5 => ?_, fun z5 => ?_⟩, fun z4 => ?_⟩, fun z3 => ?_⟩, fun z2 => ?_⟩, fun z1 => ?_⟩
      · rcases ty1_cases ht1 with ⟨c1, c2, c3, e⟩ | ⟨c1, e, t0, e2⟩ | ⟨c1, c2, c3, e⟩ | ⟨c1, c3, e⟩ | ⟨c1, e, t0, e2⟩ | ⟨c1, c2, t0, e2, e⟩
        · omega
        · omega
        · omega
        · omega
        · omega
        · subst e2
          cases s with
          | nil => exact False.elim hts
          | cons u s =>
            cases s with
            | nil => exact False.elim hts.2.2
            | cons u2 s =>
              simp only [List.length_cons] at hlen2 h64
              have ev : ev1 pt fo (u :: u2 :: s) c0 = ev_op c0 u2 u :: s := by
                unfold ev1
                rw [if_neg (by omega), if_neg (by omega), if_neg (by omega), if_neg (by omega), if_neg (by omega)]
              refine om_qJoins c1 c2 hts.2.2.1 hts.1 (fun z10 => ?_) h86 (by omega) hst (fun w2 g1 g2 g3 => ?_)
              · exact ⟨hts.2.2.2.1 (by simp; exact z10), hts.2.1 (by simp; exact z10)⟩
              · refine next w2 ?_ ?_ g1 _
                · rw [ev]; exact g2
                · rw [ev]; exact g3
      · rcases ty1_cases ht1 with ⟨c1, c2, c3, e⟩ | ⟨c1, e, t0, e2⟩ | ⟨c1, c2, c3, e⟩ | ⟨c1, c3, e⟩ | ⟨c1, e, t0, e2⟩ | ⟨c1, c2, t0, e2, e⟩
        · omega
        · omega
        · omega
        · omega
        · subst e2
          cases s with
          | nil => exact False.elim hts
          | cons u s =>
            simp only [List.length_cons] at hlen2 h64
            have es : hb_fI w' 12 86 0 - 1 = nI s.length := by rw [h86]; exact nI_pred s.length
            have hu : u = 0 ∨ u = 1 := hts.2.1 rfl
            rw [es, nI_clamp (by omega)]
            refine ⟨vp_in_nI (by omega) (by decide), vp_in_nI (by omega) (by decide), ?_⟩
            have eu : hb_aL w' 12 56 0 s.length = jL u := hst.1
            have ev : ev1 pt fo (u :: s) c0 = (if u = 0 then 1 else 0) :: s := by
              unfold ev1
              rw [if_neg (by omega), if_neg (by omega), if_neg (by omega), if_neg (by omega), if_pos c1]
            rw [eu]
            have e1u : (1 : Int64) - jL u = jL (if u = 0 then 1 else 0) := by
              rcases hu with y | y <;> rw [y] <;> decide
            rw [e1u]
            refine next _ ?_ ?_ (hm_ag.rf.sL (by decide)) _
            · rw [ev]
              exact stkL_push hst.2
            · rw [ev]; exact h86
        · omega
      · have ev : ev1 pt fo s c0 = 1 :: s := by
          unfold ev1
          rw [if_neg (by omega), if_neg (by omega), if_neg (by omega), if_pos z4]
        rw [show (1 : Int64) = jL 1 by decide]
        refine om_qPuts h86 (by
          rcases ty1_cases ht1 with ⟨c1, c2, c3, e⟩ | ⟨c1, e, t0, e2⟩ | ⟨c1, c2, c3, e⟩ | ⟨c1, c3, e⟩ | ⟨c1, e, t0, e2⟩ | ⟨c1, c2, t0, e2, e⟩ <;> omega) hst (fun w2 g1 g2 g3 => ?_)
        refine bk_X12_qTold_121 (next w2 ?_ ?_ g1 _)
        · rw [ev]; exact g2
        · rw [ev]; exact g3
      · rcases ty1_cases ht1 with ⟨c1, c2, c3, e⟩ | ⟨c1, e, t0, e2⟩ | ⟨c1, c2, c3, e⟩ | ⟨c1, c3, e⟩ | ⟨c1, e, t0, e2⟩ | ⟨c1, c2, t0, e2, e⟩
        · omega
        · omega
        · have ec : nI c0 - nI 40 = nI (c0 - 40) := pk_sub (by omega)
          have ev : ev1 pt fo s c0 = pt (c0 - 40) :: s := by
            unfold ev1
            rw [if_neg (by omega), if_neg (by omega), if_pos (by omega)]
          have hpk := hpB (c0 - 40)
          rw [ec]
          refine om_qPartOf2 hi (by omega) (hok c0 hcm (c0 - 40) (by omega) (by omega)) hc hlen ho hAs ?_
          rw [hpt]
          refine bk_X12_qTold_101 (om_qClip (by have := hpk.1; have := hpk.2; omega) ?_)
          rw [ev_cl_s hpk]
          refine bk_X12_qTold_104 (om_qPuts h86 (by omega) hst (fun w2 g1 g2 g3 => ?_))
          refine bk_X12_qTold_107 (next w2 ?_ ?_ g1 _)
          · rw [ev]; exact g2
          · rw [ev]; exact g3
        · omega
        · omega
        · omega
      · rcases ty1_cases ht1 with ⟨c1, c2, c3, e⟩ | ⟨c1, e, t0, e2⟩ | ⟨c1, c2, c3, e⟩ | ⟨c1, c3, e⟩ | ⟨c1, e, t0, e2⟩ | ⟨c1, c2, t0, e2, e⟩
        · omega
        · subst e2
          cases s with
          | nil => exact False.elim hts
          | cons u s =>
            simp only [List.length_cons] at hlen2 h64
            have es : hb_fI w' 12 86 0 - 1 = nI s.length := by rw [h86]; exact nI_pred s.length
            have ec : nI c0 - nI 60 = nI (c0 - 60) := pk_sub (by omega)
            rw [es, nI_clamp (by omega), ec]
            have eu : hb_aL w' 12 56 0 s.length = jL u := hst.1
            rw [eu]
            refine ⟨vp_in_nI (by omega) (by decide), ?_⟩
            refine om_qOf hi (by omega) hts.1 hlen ho hAs ?_
            rw [hfo]
            have hfk := hfB (c0 - 60) u
            have ev : ev1 pt fo (u :: s) c0 = fo (c0 - 60) u :: s := by
              unfold ev1
              rw [if_neg (by omega), if_pos (by omega)]
            refine bk_X12_qTold_78 (om_qClip (by have := hfk.1; have := hfk.2; omega) ?_)
            rw [ev_cl_s hfk]
            refine bk_X12_qTold_81 ⟨vp_in_nI (by omega) (by decide), ?_⟩
            rw [nI_clamp (by omega)]
            refine next _ ?_ ?_ (hm_ag.rf.sL (by decide)) _
            · rw [ev]
              exact stkL_push hst.2
            · rw [ev]; exact h86
        · omega
        · omega
        · omega
        · omega
      · have ev : ev1 pt fo s c0 = ((c0 - 1000 : Nat) : Int) :: s := by
          unfold ev1
          rw [if_pos (by omega)]
        have ec : (nI c0 - nI 1000).toInt64 = jL ((c0 - 1000 : Nat) : Int) := by rw [pk_sub (by omega), nI_l (by omega), jL_n (by omega)]
        rw [ec]
        refine om_qPuts h86 (by
          rcases ty1_cases ht1 with ⟨c1, c2, c3, e⟩ | ⟨c1, e, t0, e2⟩ | ⟨c1, c2, c3, e⟩ | ⟨c1, c3, e⟩ | ⟨c1, e, t0, e2⟩ | ⟨c1, c2, t0, e2, e⟩ <;> omega) hst (fun w2 g1 g2 g3 => ?_)
        refine bk_X12_qTold_39 (next w2 ?_ ?_ g1 _)
        · rw [ev]; exact g2
        · rw [ev]; exact g3
  refine bk_X12_qTold_0 (key C [] rfl [] [] _ rfl hty trivial (by decide) trivial rfl (hm_ag.rf.pI (by decide)))
end HAQ
