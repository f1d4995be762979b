/-! ===== the model's answer, behind the reading ===== -/
section HMA
variable {d : Nat} {w : hb_W} {Q : Option hb_V → hb_W → Prop}
set_option maxHeartbeats 1000000 in
theorem om_askTail {k c L R : Nat} {mix : Option (List Nat)} {C : List Nat} {P : List (Nat × Nat × Nat)} (hk : k < 6) (hc : c < 100) (hL0 : 1 ≤ L) (hL : L ≤ 9) (hR0 : 1 ≤ R) (hR : R ≤ 3) (hlen : P.length ≤ 400) (ho : sp_okP P) (h5 : hb_fI w 12 5 0 = 0) (hM : mMx w mix) (hb2 : hb_aI w 12 13 0 2 = nI L) (hb3 : hb_aI w 12 13 0 3 = nI R) (hcn : hb_aI w 12 18 0 0 = nI c) (hn : hb_aI w 12 18 0 1 = nI P.length) (hP : mP w P) (hC : mQ w C) (hty : tyR 64 C [] = some [decide (k < 3)]) (hok : qOk C)
    (q : ∀ w2, hm_ag [7, 8, 31, 34, 36, 37, 39, 40, 44, 45, 86, 87, 88] [20, 21, 22, 23, 24, 25, 26, 27, 28, 29, 30, 56] w w2 → hb_fI w2 12 7 0 = 0 → hb_fI w2 12 8 0 = hb_fI w 12 6 0 → Q (some (hb_l (jL (qa (sp_T (sp_bk 2 P)) (qV c L R (sp_mark (sp_mxC mix) c) P C) k 64)))) w2) : hb_R yX12_ask cX12_ask 3 (some .long) (d + 6) 133 [some (hb_r 12 0 0), some (hb_i (nI k)), none] [] w Q := by
  have hbl := sp_bk_len 2 P
  have hVb : ∀ n, n < 1000 → jB (qV c L R (sp_mark (sp_mxC mix) c) P C n) ∧ (decide (k < 3) = true → qV c L R (sp_mark (sp_mxC mix) c) P C n = 0 ∨ qV c L R (sp_mark (sp_mxC mix) c) P C n = 1) := fun n hn => qV_b hc hn hlen ho hty
  have hT0 : ∀ n, 64 ≤ n → sp_T (sp_bk 2 P) n = 0 := fun n hn => by
    rcases Nat.eq_zero_or_pos (sp_T (sp_bk 2 P) n) with z | z
    · exact z
    · exfalso
      obtain ⟨p, p1, p2⟩ := List.countP_pos_iff.mp z
      have := (sp_bk_ok ho p p1).1
      simp at p2
      omega
  have hV : ∀ n, 0 < sp_T (sp_bk 2 P) n → jB (qV c L R (sp_mark (sp_mxC mix) c) P C n) := fun n hz => by
    rcases Nat.lt_or_ge n 64 with y | y
    · exact (hVb n (by omega)).1
    · have := hT0 n y; omega
  -- the hoods
  have hoods : ∀ (n i : Nat), i + n = 64 → ∀ w', mAs w' c L R (sp_mark (sp_mxC mix) c) P → mQ w' C → hb_fL w' 12 87 0 = jL (qa (sp_T (sp_bk 2 P)) (qV c L R (sp_mark (sp_mxC mix) c) P C) k i) → hb_fI w' 12 88 0 = (if qa_y (sp_T (sp_bk 2 P)) i = true then 0 else 1) → hm_ag [7, 8, 31, 34, 36, 37, 39, 40, 44, 45, 86, 87, 88] [20, 21, 22, 23, 24, 25, 26, 27, 28, 29, 30, 56] w w' → hb_fI w' 12 7 0 = 0 → hb_fI w' 12 8 0 = hb_fI w 12 6 0 → hb_R yX12_ask cX12_ask 3 (some .long) (d + 5 + 1) 234 [some (hb_r 12 0 0), some (hb_i (nI k)), some (hb_i (nI i))] [] w' Q := by
    intro n
    induction n with
    | zero =>
      intro i hi w' g1 g2 g3 g4 g5 g6 g7
      rw [Nat.add_zero] at hi
      subst hi
      refine bk_X12_ask_234 ⟨fun _ => ?_, fun z => absurd (nI_le (Nat.le_refl 64) (by decide)) z⟩
      rw [g3]
      exact q w' g5 g6 g7
    | succ n ih =>
      intro i hi w' g1 g2 g3 g4 g5 g6 g7
      have hTl := sp_T_le (sp_bk 2 P) i
      have vi : vp_in (nI i) 64 := vp_in_nI (by omega) (by decide)
      refine bk_X12_ask_234 ⟨fun z => absurd z (nI_ge (b := 64) (by omega) (by decide)), fun _ => ⟨vi, ?_⟩⟩
      rw [nI_clamp (by omega), g1.2.2.1 i (by omega), show (0 : Int32) = nI 0 from rfl, nI_leI (by omega) (by decide)]
      refine ⟨fun z => bk_X12_ask_260 ?_, fun z => ?_⟩
      · rw [nI_1]
        have hz : ¬ 0 < sp_T (sp_bk 2 P) i := by omega
        refine ih (i + 1) (by omega) w' g1 g2 ?_ ?_ g5 g6 g7
        · rw [qa_s0 hz]; exact g3
        · have e7 : qa_y (sp_T (sp_bk 2 P)) (i + 1) = qa_y (sp_T (sp_bk 2 P)) i := if_neg hz
          rw [e7]; exact g4
      · have hz : 0 < sp_T (sp_bk 2 P) i := by omega
        refine om_qTold (by omega) hc hlen ho g1 g2 hty hok (fun v w2 hv hvB hvb hag => ?_)
        have ev : qV c L R (sp_mark (sp_mxC mix) c) P C i = v := by
          unfold qV sp_ev
          rw [hv]
          rfl
        refine bk_X12_ask_256 ?_
        refine om_qTakes (y := qa_y (sp_T (sp_bk 2 P)) i) hk (by omega) hvB (fun z3 => hvb (by simp; exact z3)) (qa_B hV (show i ≤ 64 by omega)) (by rw [hag.FL 87]; exact g3) (by rw [hag.I 88]; exact g4) (fun w3 t1 t2 t3 => ?_)
        refine bk_X12_ask_260 ?_
        rw [nI_1]
        have ag3 : hm_ag [86, 87, 88] [56] w' w3 := (hag.wk (by decide) (fun x hx => hx)).tr (t3.wk (by decide) (by decide))
        refine ih (i + 1) (by omega) w3 (g1.ag ag3) (g2.ag ag3) ?_ ?_ (g5.tr (ag3.wk (by decide) (by decide))) (by rw [ag3.I 7]; exact g6) (by rw [ag3.I 8]; exact g7)
        · rw [qa_s1 hk hz (hV i hz) (qa_new i), ev]
          exact t1
        · have e7 : qa_y (sp_T (sp_bk 2 P)) (i + 1) = true := if_pos hz
          rw [e7, if_pos rfl]; exact t2
  -- what is told of each
  have tolds : ∀ (n i : Nat), i + n = 64 → ∀ w', mB w' L R (sp_mark (sp_mxC mix) c) (sp_bk 2 P) → hm_mk w' (sp_mark (sp_mxC mix) c) → mQ w' C → (∀ h, h < i → hb_aI w' 12 22 0 h = nI (sv_told L R (sp_mark (sp_mxC mix) c) (sp_T (sp_bk 2 P)) h (R - 1))) → hb_fL w' 12 87 0 = jL (qa (sp_T (sp_bk 2 P)) (qV c L R (sp_mark (sp_mxC mix) c) P C) k 0) → hb_fI w' 12 88 0 = 1 → hm_ag [7, 8, 31, 34, 36, 37, 39, 40, 44, 45, 86, 87, 88] [20, 21, 22, 23, 24, 25, 26, 27, 28, 29, 30, 56] w w' → hb_fI w' 12 7 0 = 0 → hb_fI w' 12 8 0 = hb_fI w 12 6 0 → hb_R yX12_ask cX12_ask 3 (some .long) (d + 5 + 1) 204 [some (hb_r 12 0 0), some (hb_i (nI k)), some (hb_i (nI i))] [] w' Q := by
    intro n
    induction n with
    | zero =>
      intro i hi w' g1 g2 g3 g4 g5 g6 g7 g8 g9
      rw [Nat.add_zero] at hi
      subst hi
      refine bk_X12_ask_204 ⟨fun _ => ?_, fun z => absurd (nI_le (Nat.le_refl 64) (by decide)) z⟩
      refine hoods 64 0 (by decide) _ ⟨rfl, ?_, g1.2.2.2.1.2.1, g4, ?_, ?_, g2⟩ (g3.ag2 (hm_ag.rf.pI (K := [31]) (J := []) (by decide)) (by decide) (by decide)) g5 g6 (g7.pI (by decide)) g8 g9
      · show hb_aI w' 12 18 0 0 = nI c
        rw [g7.A 18]; exact hcn
      · show hb_aI w' 12 18 0 1 = nI P.length
        rw [g7.A 18]; exact hn
      · intro k p hk
        show hb_aI w' 12 19 0 (3 * k) = _ ∧ hb_aI w' 12 19 0 (3 * k + 1) = _ ∧ hb_aI w' 12 19 0 (3 * k + 2) = _
        rw [g7.A 19]; exact hP k p hk
    | succ n ih =>
      intro i hi w' g1 g2 g3 g4 g5 g6 g7 g8 g9
      refine bk_X12_ask_204 ⟨fun z => absurd z (nI_ge (b := 64) (by omega) (by decide)), fun _ => ?_⟩
      refine om_toldOf (by omega) g2 g1 (bk_X12_ask_220 ⟨vp_in_nI (by omega) (by decide), ?_⟩)
      rw [nI_1, nI_clamp (by omega)]
      refine ih (i + 1) (by omega) _ g1 g2 (g3.ag2 (hm_ag.rf.sI (K := []) (J := [22]) (by decide)) (by decide) (by decide)) (fun h hh => ?_) g5 g6 (g7.sI (by decide)) g8 g9
      rw [hw_aIs]
      unfold upd
      split
      · rename_i z
        rw [z]
      · exact g4 h (by omega)
  -- marks and book
  have lay : ∀ (w' : hb_W), hb_fL w' 12 87 0 = jL (qa (sp_T (sp_bk 2 P)) (qV c L R (sp_mark (sp_mxC mix) c) P C) k 0) → hb_fI w' 12 88 0 = 1 → hm_ag [7, 8, 31, 34, 36, 37, 39, 40, 44, 45, 86, 87, 88] [20, 21, 22, 23, 24, 25, 26, 27, 28, 29, 30, 56] w w' → hb_fI w' 12 7 0 = 0 → hb_fI w' 12 8 0 = hb_fI w 12 6 0 → hb_O yX12_laysMarks cX12_laysMarks 4 none (d + 5) [hb_r 12 0 0, hb_i (nI c)] w' (fun rv w1 => hb_R yX12_ask cX12_ask 3 (some .long) (d + 5 + 1) 191 [some (hb_r 12 0 0), some (hb_i (nI k)), none] (rv.toList ++ []) w1 Q) := by
    intro w' k1 k2 k3 k4 k5
    refine om_laysMarks hc (hM.ag k3 (by decide) (by decide) (by decide)) (fun w2 g1 g2 => ?_)
    refine bk_X12_ask_191 ?_
    have a2 := k3.tr (g2.wk (by decide) (by decide))
    rw [show hb_aI w2 12 13 0 (2 : Int32).toNatClampNeg = nI L by show hb_aI w2 12 13 0 2 = nI L; rw [a2.A 13]; exact hb2]
    refine om_laysBook (b := 2) (by decide) hL0 hL hR0 hR (by rw [a2.A 13]; exact hb3) g1 (by rw [a2.A 18]; exact hn) (by omega) ho (fun k p hk => by rw [a2.A 19]; exact hP k p hk) (fun w3 g3 g4 => ?_)
    have a3 := a2.tr (g4.wk (by decide) (by decide))
    refine bk_X12_ask_202 (tolds 64 0 (by decide) w3 g3 (fun h l h1 h2 => by rw [g4.A 20]; exact g1 h l h1 h2) (hC.ag2 a3 (by decide) (by decide)) (fun h hh => absurd hh (Nat.not_lt_zero h)) ?_ ?_ a3 ?_ ?_)
    · rw [g4.FL 87, g2.FL 87]; exact k1
    · rw [g4.I 88, g2.I 88]; exact k2
    · rw [g4.I 7, g2.I 7]; exact k4
    · rw [g4.I 8, g2.I 8]; exact k5
  refine bk_X12_ask_133 ⟨fun _ => ?_, fun z => absurd h5 z⟩
  have ec : hb_aI w 12 18 0 (0 : Int32).toNatClampNeg = nI c := hcn
  rw [ec]
  have e2 : (2 : Int32) = nI 2 := rfl
  rw [e2, nI_leI (by decide) (by omega)]
  refine ⟨fun z => ?_, fun z => ?_⟩
  · refine lay _ ?_ rfl ((((hm_ag.rf.pI (by decide)).pI (by decide)).pL (by decide)).pI (by decide)) h5 rfl
    have e : qa (sp_T (sp_bk 2 P)) (qV c L R (sp_mark (sp_mxC mix) c) P C) k 0 = 0 := by
      unfold qa
      rw [if_neg (by omega), if_neg (by omega)]
      repeat' split
      all_goals first | rfl | (rename_i y; cases y)
    rw [e]
    rfl
  · refine lay _ ?_ rfl ((((hm_ag.rf.pI (by decide)).pI (by decide)).pL (by decide)).pI (by decide)) h5 rfl
    have e : qa (sp_T (sp_bk 2 P)) (qV c L R (sp_mark (sp_mxC mix) c) P C) k 0 = -1 := by
      have : k = 0 ∨ k = 1 := by omega
      rcases this with rfl | rfl <;> rfl
    rw [e]
    rfl
end HMA
