/-! ===== the answers in both ===== -/
theorem ev_ty {m : Nat} {pt : Nat → Int} {fo : Nat → Int → Int} (hp : ∀ k, jB (pt k)) (hf : ∀ k v, jB (fo k v)) : ∀ {C : List Nat} {s : List Int} {t t' : List Bool}, tyR m C t = some t' → tyS s t → tyS (evR pt fo C s) t'
  | [], s, t, t', h, hs => by
    have : t = t' := Option.some.inj h
    rw [← this]; exact hs
  | c :: C, s, t, t', h, hs => by
    obtain ⟨t1, h1, h2⟩ := Option.bind_eq_some_iff.mp h
    exact ev_ty hp hf (C := C) h2 (ty_step h1 hs (fun k _ _ => hp k) (fun k v _ _ => hf k v))
theorem ev_one {pt : Nat → Int} {fo : Nat → Int → Int} {C : List Nat} {b : Bool} (hp : ∀ k, jB (pt k)) (hf : ∀ k v, jB (fo k v)) (h : tyR 64 C [] = some [b]) : jB (sp_ev C pt fo) ∧ (b = true → sp_ev C pt fo = 0 ∨ sp_ev C pt fo = 1) := by
  have := ev_ty (s := []) hp hf h trivial
  unfold sp_ev
  cases e : evR pt fo C [] with
  | nil => rw [e] at this; exact False.elim this
  | cons v s =>
    rw [e] at this
    exact ⟨this.1, this.2.1⟩
theorem qV_b {c L R i : Nat} {C0 C : List Nat} {b : Bool} {c0 : Nat} {P : List (Nat × Nat × Nat)} (hc : c < 100) (hi : i < 1000) (hlen : P.length ≤ 400) (ho : sp_okP P) (h : tyR 64 C [] = some [b]) : jB (qV c L R (sp_mark C0 c0) P C i) ∧ (b = true → qV c L R (sp_mark C0 c0) P C i = 0 ∨ qV c L R (sp_mark C0 c0) P C i = 1) := by
  have hbl0 := sp_bk_len 0 P
  have hbl1 := sp_bk_len 1 P
  have hbl := sp_bk_len 2 P
  have hT0 := sp_T_le (sp_bk 0 P) i
  have hT1 := sp_T_le (sp_bk 1 P) i
  have hT := sp_T_le (sp_bk 2 P) i
  have hV := sp_V_le (ps := sp_bk 2 P) i (fun p hp => (sp_bk_ok ho p hp).2)
  have ht := sv_told_le (L := L) (R := R) (mk := sp_mark C0 c0) (ps := sp_bk 2 P) (fun p hp => (sp_bk_ok ho p hp).1) i (R - 1)
  refine ev_one (fun k => ?_) (fun k v => ?_) h
  · unfold qP jB
    dsimp only
    repeat' split
    all_goals omega
  · exact foM_B (fun _ l hl => sp_md_lt _) (fun _ => ⟨by omega, by omega⟩)
theorem mQ.ag2 {K J : List Nat} {w w2 : hb_W} {C : List Nat} (h : mQ w C) (ha : hm_ag K J w w2) (hK : ¬ 80 ∈ K) (hJ : ¬ 54 ∈ J) : mQ w2 C := by
  unfold mQ at h ⊢
  rw [ha.I 80 hK, ha.A 54 hJ]
  exact h
theorem qa_B {T : Nat → Nat} {V : Nat → Int} (hV : ∀ n, 0 < T n → jB (V n)) {k n : Nat} (hn : n ≤ 64) : -100000000 ≤ qa T V k n ∧ qa T V k n ≤ 100000000 := by
  obtain ⟨h1, h2, h3, h4, h5, h6⟩ := qa_b hV n
  have a1 := h5.1; have a2 := h5.2; have a3 := h6.1; have a4 := h6.2
  unfold qa
  repeat' split
  all_goals omega
section HAB
variable {d : Nat} {w : hb_W} {Q : Option hb_V → hb_W → Prop}
set_option maxHeartbeats 1000000 in
theorem ok_answer {k c L R : Nat} {C0 C : List Nat} {P : List (Nat × Nat × Nat)} (hk : k < 6) (hc : c < 100) (hlen : P.length ≤ 400) (ho : sp_okP P) (hU : cUp w L R C0 c P) (hC : cC w 0 0 C) (hsz : hb_fI w 2 1 0 = nI C.length) (hty : tyR 64 C [] = some [decide (k < 3)]) (hok : qOk C) (hn : hb_fI w 7 3 0 = nI P.length) (hcn : hb_fI w 7 4 0 = nI c)
    (q : ∀ w2, hw_ag (fun t _ => t = 6) w w2 → w2.2.2.1 = w.2.2.1 → Q (some (hb_l (jL (qa (sp_T (sp_bk 2 P)) (qV c L R (sp_mark C0 c) P C) k 64)))) w2) : hb_O yX11_answer cX11_answer 11 (some .long) (d + 4) [hb_r 0 0 0, hb_i (nI (k + 1))] w Q := by
  have hbl := sp_bk_len 2 P
  have hVb : ∀ n, n < 1000 → jB (qV c L R (sp_mark C0 c) P C n) := fun n hn => (qV_b hc hn hlen ho hty).1
  have hT0 : ∀ n, 64 ≤ n → sp_T (sp_bk 2 P) n = 0 := fun n hn => by
    rcases Nat.eq_zero_or_pos (sp_T (sp_bk 2 P) n) with z | z
    · exact z
    · exfalso
      obtain ⟨p, p1, p2⟩ := List.countP_pos_iff.mp z
      have := (sp_bk_ok ho p p1).1
      simp at p2
      omega
  have hV : ∀ n, 0 < sp_T (sp_bk 2 P) n → jB (qV c L R (sp_mark C0 c) P C n) := fun n hz => by
    rcases Nat.lt_or_ge n 64 with y | y
    · exact hVb n (by omega)
    · have := hT0 n y; omega
  obtain ⟨qc1, qc2⟩ := hC
  generalize hTd : sp_T (sp_bk 2 P) = T at *
  generalize hVd : qV c L R (sp_mark C0 c) P C = V at *
  have loop : ∀ (n i : Nat), i + n = 64 → ∀ w', hw_ag (fun t _ => t = 6) w w' → w'.2.2.1 = w.2.2.1 → hb_R yX11_answer cX11_answer 11 (some .long) (d + 3 + 1) 23 [some (hb_r 0 0 0), some (hb_i (nI (k + 1))), some (hb_i (jI (qa_f T V i))), some (hb_i (jI (qa_l T V i))), some (hb_i (jI (qa_o T V i))), some (hb_l (jL (qa_t T V i))), none, some (hb_i (jI (qa_m T V i))), some (hb_i (jI (qa_s T V i))), some (hb_i (nI i)), none] [] w' Q := by
    intro n
    induction n with
    | zero =>
      intro i hi w' g1 g2
      rw [Nat.add_zero] at hi
      subst hi
      obtain ⟨b1, b2, b3, b4, b5, b6⟩ := qa_b hV 64
      have a1 := b5.1; have a2 := b5.2; have a3 := b6.1; have a4 := b6.2
      have q' := q w' g1 g2
      have hy := qa_y_P ho
      rw [hTd] at hy
      refine bk_X11_answer_23 ⟨fun _ => ?_, fun z => absurd (nI_le (Nat.le_refl 64) (by decide)) z⟩
      rw [show hb_fI w' 7 3 0 = nI P.length from (g1.1 7 3 0 (by decide)).trans hn, show (0 : Int32) = nI 0 from rfl, nI_eq (by omega) (by decide), jI_L (by omega), jI_L (by omega), jI_L (by omega), jI_L (by omega), jI_L (by omega)]
      have ek : ∀ j : Nat, j < 10 → (nI (k + 1) = nI j → k + 1 = j) := fun j hj z => (nI_eq (by omega) (by omega)).mp z
      refine ⟨fun z => ?_, fun z => ?_, fun z => ?_, fun z => ?_, fun z => ⟨fun z2 => ?_, fun z2 => ?_⟩, fun n1 n2 n3 n4 n5 => ⟨fun z2 => ?_, fun z2 => ?_⟩⟩
      · have := ek 1 (by decide) z
        have hk0 : k = 0 := by omega
        subst hk0
        exact q'
      · have := ek 2 (by decide) z
        have hk0 : k = 1 := by omega
        subst hk0
        exact q'
      · have := ek 3 (by decide) z
        have hk0 : k = 2 := by omega
        subst hk0
        exact q'
      · have := ek 4 (by decide) z
        have hk0 : k = 3 := by omega
        subst hk0
        exact q'
      · have := ek 5 (by decide) z
        have hk0 : k = 4 := by omega
        subst hk0
        have e : qa T V 4 64 = if qa_y T 64 = true then qa_m T V 64 else 0 := rfl
        rw [e, hy, if_pos (by simp; exact fun y => z2 (by rw [y]; rfl))] at q'
        exact q'
      · have := ek 5 (by decide) z
        have hk0 : k = 4 := by omega
        subst hk0
        have e : qa T V 4 64 = if qa_y T 64 = true then qa_m T V 64 else 0 := rfl
        rw [e, hy, if_neg (by simp; exact List.length_eq_zero_iff.mp z2)] at q'
        exact q'
      · have hk0 : k = 5 := by
          have m1 : k + 1 ≠ 1 := fun y => n1 (by rw [y]; rfl)
          have m2 : k + 1 ≠ 2 := fun y => n2 (by rw [y]; rfl)
          have m3 : k + 1 ≠ 3 := fun y => n3 (by rw [y]; rfl)
          have m4 : k + 1 ≠ 4 := fun y => n4 (by rw [y]; rfl)
          have m5 : k + 1 ≠ 5 := fun y => n5 (by rw [y]; rfl)
          omega
        subst hk0
        have e : qa T V 5 64 = if qa_y T 64 = true then qa_s T V 64 else 0 := rfl
        rw [e, hy, if_pos (by simp; exact fun y => z2 (by rw [y]; rfl))] at q'
        exact q'
      · have hk0 : k = 5 := by
          have m1 : k + 1 ≠ 1 := fun y => n1 (by rw [y]; rfl)
          have m2 : k + 1 ≠ 2 := fun y => n2 (by rw [y]; rfl)
          have m3 : k + 1 ≠ 3 := fun y => n3 (by rw [y]; rfl)
          have m4 : k + 1 ≠ 4 := fun y => n4 (by rw [y]; rfl)
          have m5 : k + 1 ≠ 5 := fun y => n5 (by rw [y]; rfl)
          omega
        subst hk0
        have e : qa T V 5 64 = if qa_y T 64 = true then qa_s T V 64 else 0 := rfl
        rw [e, hy, if_neg (by simp; exact List.length_eq_zero_iff.mp z2)] at q'
        exact q'
    | succ n ih =>
      intro i hi w' g1 g2
      have hnext := ih (i + 1) (by omega)
      obtain ⟨b1, b2, b3, b4, b5, b6⟩ := qa_b hV i
      have vi : vp_in (nI i) 64 := vp_in_nI (by omega) (by decide)
      have er : hb_fR w' 9 2 3 < 2 := by have := hU.1.2.2.2; unfold hb_fR at this ⊢; rw [g2]; exact this
      have hU' : cUp w' L R C0 c P := hU.ag g1 (by decide) (fun b hb => (show ¬ (9 : Nat) = 6 by decide)) (g1.1 8 9 0 (by decide)) (g1.1 8 10 0 (by decide)) er
      have hTl := sp_T_le (sp_bk 2 P) i
      have eT : hb_aI w' 9 1 2 i = nI (T i) := by
        have := (hU'.2.2.2.2 2 (by decide)).2.2.2.1.2.2.1 i (by omega)
        rw [hTd] at this
        exact this
      rw [hTd] at hTl
      refine bk_X11_answer_23 ⟨fun z => absurd z (nI_ge (b := 64) (by omega) (by decide)), fun _ => ⟨vi, ?_⟩⟩
      rw [nI_clamp (by omega), eT, show (0 : Int32) = nI 0 from rfl, nI_leI (by omega) (by decide), nI_1, show hb_fI w' 7 4 0 = nI c from (g1.1 7 4 0 (by decide)).trans hcn]
      refine ⟨fun z => ?_, fun z => ?_⟩
      · have hz : ¬ 0 < T i := by omega
        have e1 : qa_f T V (i + 1) = qa_f T V i := if_neg (fun y => hz y.1)
        have e2 : qa_l T V (i + 1) = qa_l T V i := if_neg (fun y => hz y.1)
        have e3 : qa_o T V (i + 1) = qa_o T V i := if_neg (fun y => hz y.1)
        have e4 : qa_t T V (i + 1) = qa_t T V i := if_neg hz
        have e5 : qa_m T V (i + 1) = qa_m T V i := if_neg (fun y => hz y.1)
        have e6 : qa_s T V (i + 1) = qa_s T V i := if_neg (fun y => hz y.1)
        have := hnext w' g1 g2
        rw [e1, e2, e3, e4, e5, e6] at this
        exact this
      · have hz : 0 < T i := by omega
        refine ok_setScene (c2 := c) (by omega) hU' (fun w2 s0 s3 s4 s5 s6 s7 s8 s9 s10 => ?_)
        refine bk_X11_answer_62 ?_
        have ag2 : hw_ag (fun t _ => t = 6) w w2 := g1.tr s9
        rw [show hb_fI w2 2 1 0 = nI C.length from (ag2.1 2 1 0 (by decide)).trans hsz]
        obtain ⟨nn, m1, m2, m3⟩ := qc2
        have hbl0 := sp_bk_len 0 P
        have hbl1 := sp_bk_len 1 P
        have hT0' := sp_T_le (sp_bk 0 P) i
        have hT1' := sp_T_le (sp_bk 1 P) i
        have hVl := sp_V_le (ps := sp_bk 2 P) i (fun p hp => (sp_bk_ok ho p hp).2)
        have htl := sv_told_le (L := L) (R := R) (mk := sp_mark C0 c) (ps := sp_bk 2 P) (fun p hp => (sp_bk_ok ho p hp).1) i (R - 1)
        have hrk := ok_reckon (d := d + 1) (w := w2) (g := 0) (a := 0) (n := nn) (h := i) (x := sp_T (sp_bk 0 P) i) (y := sp_T (sp_bk 1 P) i) (C := C) (b := decide (k < 3)) (pt := qP i c (sp_T (sp_bk 2 P)) (fun h => sv_told L R (sp_mark C0 c) (sp_T (sp_bk 2 P)) h (R - 1)) (sp_V (sp_bk 2 P))) (mk := sp_mark C0 c)
          (Q := fun rv w1 => hb_R yX11_answer cX11_answer 11 (some .long) (d + 3 + 1) 81 [some (hb_r 0 0 0), some (hb_i (nI (k + 1))), some (hb_i (jI (qa_f T V i))), some (hb_i (jI (qa_l T V i))), some (hb_i (jI (qa_o T V i))), some (hb_l (jL (qa_t T V i))), none, some (hb_i (jI (qa_m T V i))), some (hb_i (jI (qa_s T V i))), some (hb_i (nI i)), none] (rv.toList ++ []) w1 Q)
          (by decide) (fun j cc hj => by rw [ag2.2.2.2.1 2 1 0 (by decide)]; exact qc1 j cc hj) m1 ((ag2.1 2 1 0 (by decide)).trans m2) m3 hty ?_ ?_ ?_ ?_
        · rw [Nat.zero_add] at hrk
          exact hrk
        · intro j hj hm
          rw [hTd]
          have hj2 := hok _ hm j rfl hj
          have hj5 : j = 0 ∨ j = 3 ∨ j = 4 ∨ j = 5 ∨ j = 6 := by omega
          rw [hTd] at s4 htl
          rcases hj5 with rfl | rfl | rfl | rfl | rfl
          · exact ⟨s0.trans (jI_n (by omega)).symm, by show jB (i : Int); unfold jB; omega⟩
          · exact ⟨s3.trans (jI_n (by omega)).symm, by show jB (c : Int); unfold jB; omega⟩
          · exact ⟨s4.trans (jI_n (by omega)).symm, by show jB (T i : Int); unfold jB; omega⟩
          · rw [hTd] at s5
            exact ⟨s5.trans (jI_n (by omega)).symm, by show jB ((sv_told L R (sp_mark C0 c) T i (R - 1) : Nat) : Int); unfold jB; omega⟩
          · exact ⟨s6.trans (jI_n (by omega)).symm, by show jB (sp_V (sp_bk 2 P) i : Int); unfold jB; omega⟩
        · intro _
          exact ⟨by omega, s0, hU.2.2.2.1.ag ag2 (by decide)⟩
        · intro _
          exact ⟨s7, s8, by omega, by omega⟩
        · intro v f hv hvB hvb
          have ev : V i = v := by
            rw [← hVd]
            unfold qV sp_ev
            rw [hv]
            rfl
          have hv1 := hvB.1; have hv2 := hvB.2
          have h7 := b5.1; have h8 := b5.2; have h9 := b6.1; have h10 := b6.2
          have addL : jL (qa_t T V i) + jL v = jL (qa_t T V i + v) := Int64.toInt_inj.mp (by
            rw [Int64.toInt_add, jL_t (by omega), jL_t (by omega), jL_t (by omega)]
            exact Int.bmod_eq_of_le (by omega) (by omega))
          have em : (if jI (qa_m T V i) < jI v then jI v else jI (qa_m T V i)) = jI (qa_m T V (i + 1)) := by
            have e : qa_m T V (i + 1) = if 0 < T i ∧ qa_m T V i < V i then V i else qa_m T V i := rfl
            rw [e, ev]
            by_cases y : qa_m T V i < v
            · rw [if_pos ((jI_lt b5 hvB).mpr y), if_pos ⟨hz, y⟩]
            · rw [if_neg (fun x => y ((jI_lt b5 hvB).mp x)), if_neg (fun x => y x.2)]
          have es : (if jI v < jI (qa_s T V i) then jI v else jI (qa_s T V i)) = jI (qa_s T V (i + 1)) := by
            have e : qa_s T V (i + 1) = if 0 < T i ∧ V i < qa_s T V i then V i else qa_s T V i := rfl
            rw [e, ev]
            by_cases y : v < qa_s T V i
            · rw [if_pos ((jI_lt hvB b6).mpr y), if_pos ⟨hz, y⟩]
            · rw [if_neg (fun x => y ((jI_lt hvB b6).mp x)), if_neg (fun x => y x.2)]
          have et : qa_t T V (i + 1) = qa_t T V i + v := by
            have e : qa_t T V (i + 1) = if 0 < T i then qa_t T V i + V i else qa_t T V i := rfl
            rw [e, if_pos hz, ev]
          have eo1 : jI (qa_o T V i) + 1 = jI (qa_o T V i + 1) := by
            have h1 : qa_o T V i = ((qa_o T V i).toNat : Int) := (Int.toNat_of_nonneg b3.1).symm
            rw [h1, jI_n (by omega), nI_1, ← jI_n (by omega)]
            congr 1
          have hfin := hnext (hb_sI w2 6 1 0 f) (ag2.sI (P := fun t _ => t = 6) rfl) (s10.trans g2)
          rw [← em, ← es, et, ← addL] at hfin
          refine bk_X11_answer_81 ?_
          rw [jI_L (by omega), nI_1, show (0 : Int32) = jI 0 by decide, jI_eq hvB jB0, show (-1 : Int32) = jI (-1) by decide, jI_eq (by unfold jB; omega) (by unfold jB; omega), eo1]
          refine ⟨fun z1 => hx_at 10 ?_, fun z1 => ⟨fun z2 => hx_at 10 ?_, fun z2 => hx_at 10 ?_⟩⟩
          · have e1 : qa_f T V (i + 1) = qa_f T V i := if_neg (fun y => y.2.1 (by rw [ev]; exact z1))
            have e2 : qa_l T V (i + 1) = qa_l T V i := if_neg (fun y => y.2 (by rw [ev]; exact z1))
            have e3 : qa_o T V (i + 1) = qa_o T V i := if_neg (fun y => y.2 (by rw [ev]; exact z1))
            rw [e1, e2, e3] at hfin
            exact hfin
          · have e1 : qa_f T V (i + 1) = qa_f T V i := if_neg (fun y => z2 y.2.2)
            have e2 : qa_l T V (i + 1) = (i : Int) := if_pos ⟨hz, by rw [ev]; exact z1⟩
            have e3 : qa_o T V (i + 1) = qa_o T V i + 1 := if_pos ⟨hz, by rw [ev]; exact z1⟩
            rw [e1, e2, e3, jI_n (by omega)] at hfin
            exact hfin
          · have e1 : qa_f T V (i + 1) = (i : Int) := if_pos ⟨hz, by rw [ev]; exact z1, z2⟩
            have e2 : qa_l T V (i + 1) = (i : Int) := if_pos ⟨hz, by rw [ev]; exact z1⟩
            have e3 : qa_o T V (i + 1) = qa_o T V i + 1 := if_pos ⟨hz, by rw [ev]; exact z1⟩
            rw [e1, e2, e3, jI_n (by omega)] at hfin
            exact hfin
  exact bk_X11_answer_0 (loop 64 0 (by decide) w hw_ag.rf rfl)
end HAB
