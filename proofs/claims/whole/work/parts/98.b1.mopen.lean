/-! ===== the model's open, from its begin to its end ===== -/
theorem gl_lt {α : Type} {l : List α} {k : Nat} {x : α} (h : l[k]? = some x) : k < l.length := (List.getElem?_eq_some_iff.mp h).1
theorem gl_mem {α : Type} {l : List α} {k : Nat} {x : α} (h : l[k]? = some x) : x ∈ l := List.mem_of_getElem? h
section HSE
variable {d : Nat} {Q : Option hb_V → hb_W → Prop} {w : hb_W} {T : Nat → Nat} {n p st L R co : Nat} {z : Bool} {rows : List rO} {mix : Option (List Nat × Nat)} {K : List Nat}
theorem om_stands (hN : mN w st L R rows mix co K) (hr : rows.length ≤ 20) (hK : K.length ≤ 1600) (hok : okN rows mix co K) (q : ∀ w2, hm_ag [23, 30, 55] [13, 14, 15, 16, 17, 18] w w2 → hb_fI w2 12 30 0 = 1 → hb_fI w2 12 23 0 = nI rows.length → hb_aI w2 12 13 0 2 = nI L → hb_aI w2 12 13 0 3 = nI R → (∀ k x, rows[k]? = some x → mRow w2 k x.1) → mMx w2 (mix.map (fun m => m.1)) → hb_aI w2 12 18 0 0 = nI co → hb_aI w2 12 18 0 1 = 0 → (∀ l, l < 9 → hb_aI w2 12 18 0 (2 + l) = -1) → hb_fI w2 12 55 0 = 0 → Q none w2) : hb_O yX12_stands cX12_stands 2 none d [hb_r 12 0 0] w Q := by
  obtain ⟨_, h22, ⟨h28, hKc⟩, hL, hR, hco, hrow, hmx⟩ := hN
  refine bk_X12_stands_0 (sd39 (fun w2 a2 c14 => sd68 (fun w3 a3 c15 c16 => sd112 (N := K.length) hK ?_ (fun w4 a4 c17 e0 e1 => sd163 e0 e1 (fun w5 a5 f0 f1 f2 f55 => ?_)))))
  · rw [a3.I 28, a2.I 28]; exact h28
  · have A25 : hm_ag [55] [14, 15, 16, 17, 18] _ w5 := (((a2.wk (K2 := [55]) (J2 := [14, 15, 16, 17, 18]) (by decide) (by decide)).tr (a3.wk (by decide) (by decide))).tr (a4.wk (by decide) (by decide))).tr (a5.wk (by decide) (by decide))
    have e14 : hb_aI w5 12 14 0 = hb_aI w2 12 14 0 := by rw [a5.A 14, a4.A 14, a3.A 14]
    have e15 : hb_aI w5 12 15 0 = hb_aI w3 12 15 0 := by rw [a5.A 15, a4.A 15]
    have e16 : hb_aI w5 12 16 0 = hb_aI w3 12 16 0 := by rw [a5.A 16, a4.A 16]
    have e17 : hb_aI w5 12 17 0 = hb_aI w4 12 17 0 := by rw [a5.A 17]
    rw [a2.A 15] at c15
    rw [a2.A 16] at c16
    rw [a3.A 17, a2.A 17] at c17
    have e13 : hb_aI w5 12 13 0 = upd (upd (hb_aI w 12 13 0) 2 (hb_aI w 12 13 0 0)) 3 ((upd (hb_aI w 12 13 0) 2 (hb_aI w 12 13 0 0)) 1) := by
      rw [A25.A 13]
      rfl
    have cod : ∀ k C a, k < 21 → seg K a C → hb_aI w 12 15 0 k = nI a → hb_aI w 12 16 0 k = nI (a + C.length) → mC w5 k C := by
      intro k C a hk hs g1 g2
      refine ⟨a, ?_, ?_, by have := hs.1; omega, fun i c hi => ?_⟩
      · rw [e15]; exact (c15.2 k hk).trans g1
      · rw [e16]; exact (c16.2 k hk).trans g2
      · have hlt := gl_lt hi
        have h1 := hs.1
        rw [e17]
        exact (c17.2 (a + i) (by omega)).trans (hKc _ _ (hs.2 i c hi))
    refine q w5 (hm_ag.tr ?_ (A25.wk (by decide) (by decide))) ?_ ?_ ?_ ?_ (fun k x hx => ?_) ?_ ?_ f1 f2 f55
    · exact (((hm_ag.rf.pI (by decide)).sI (by decide)).sI (by decide)).pI (by decide)
    · rw [A25.I 30]; rfl
    · rw [A25.I 23]; exact h22
    · rw [e13]; exact (pk_un (by decide)).trans (pk_us.trans hL)
    · rw [e13]; exact pk_us.trans ((pk_un (by decide)).trans hR)
    · have hk := gl_lt hx
      obtain ⟨g1, g2, g3, g4, g5, g6⟩ := hrow k x hx
      have hs := (hok.1 x (gl_mem hx)).2
      refine ⟨?_, ?_, ?_, ?_, cod k _ x.2 (by omega) hs g5 g6⟩
      · rw [e14]; exact (c14.2 (4 * k) (by omega)).trans g1
      · rw [e14, Nat.add_assoc]; exact (c14.2 (4 * k + 1) (by omega)).trans g2
      · rw [e14, Nat.add_assoc]; exact (c14.2 (4 * k + 2) (by omega)).trans g3
      · rw [e14, Nat.add_assoc]; exact (c14.2 (4 * k + 3) (by omega)).trans g4
    · unfold mNx at hmx
      cases mix with
      | none =>
        show hb_aI w5 12 15 0 41 = -1
        rw [e15]
        exact (c15.2 20 (by decide)).trans hmx
      | some m => exact ⟨cod 20 m.1 m.2 (by decide) (hok.2.1 m rfl).2 hmx.1 hmx.2, (hok.2.1 m rfl).1⟩
    · rw [f0, a3.A 13, a2.A 13]
      exact hco
/-- the model comes to the head of its loop in this state -/
def bO (T : Nat → Nat) (n p : Nat) (z : Bool) (st L R : Nat) (rows : List rO) (mix : Option (List Nat × Nat)) (co : Nat) (K : List Nat) : Prop := ∀ (d : Nat) (Q : Option hb_V → hb_W → Prop) (w : hb_W), mTx w T n → hb_fI w 12 1 0 = nI n → mVoc w → (∀ w2, ho_ag kN jO w w2 → mSt w2 T n p z st L R rows mix co K → hb_fI w2 12 1 0 = 0 → oR d Q w2) → oB d Q w
theorem bO.step {p' co' : Nat} {z' : Bool} {rows' : List rO} {mix' : Option (List Nat × Nat)} {K' : List Nat} (h : bO T n p z st L R rows mix co K) (g : oG T n p z st L R rows mix co K p' z' rows' mix' co' K') : bO T n p' z' (st + 1) L R rows' mix' co' K' := fun d Q w hT h1 hV q => h d Q w hT h1 hV (fun w2 a2 s2 e2 => g d Q w2 s2 (fun w3 a3 s3 => q w3 (a2.tr (a3.wk (by decide) (by decide))) s3 (by rw [a3.I 1]; exact e2)))
theorem bO.bad {k pl : Nat} (h : bO T n p z st L R rows mix co K) (g : oX T n p z st L R rows mix co K k pl) : bX T n k pl := ⟨g.1, g.2.1, fun d Q w hT h1 hV q => h d Q w hT h1 hV (fun w2 a2 s2 e2 => g.2.2 d Q w2 s2 (fun w3 a3 s3 => q w3 (a2.tr (a3.wk (by decide) (by decide))) s3 (by rw [a3.I 1]; exact e2)))⟩
abbrev kY : List Nat := [1, 2, 3, 4, 5, 6, 7, 8, 10, 22, 23, 28, 29, 30, 31, 55, 80, 82, 83, 84]
abbrev jY : List Nat := [13, 14, 15, 16, 17, 18, 54, 55]
/-- the model opens a night -/
theorem om_openG {r : rT} (h : bO T n p z st L R rows mix co K) (hp : ¬ p < n) (hok : okN rows mix co K) (hT : mTx w T n) (h1 : hb_fI w 12 1 0 = nI n) (hV : mVoc w) (hR : mRl w r) (q : ∀ w2, hm_ag kY jY w w2 → hb_fI w2 12 1 0 = 0 → hb_fI w2 12 7 0 = 0 → hb_fI w2 12 8 0 = -1 → hb_fI w2 12 30 0 = 1 → hb_fI w2 12 23 0 = nI rows.length → hb_aI w2 12 13 0 2 = nI L → hb_aI w2 12 13 0 3 = nI R → (∀ k x, rows[k]? = some x → mRow w2 k x.1) → mMx w2 (mix.map (fun m => m.1)) → mRl w2 (rt_new [] co (fun _ => -1) r) → Q (some (hb_i (nI st))) w2) : oB d Q w := by
  refine h d Q w hT h1 hV (fun w2 a2 s2 e2 => ?_)
  have hle := s2.1.le
  refine bk_X12_open_67 ⟨fun y => absurd s2.1.2.2.1 y, fun _ => om_look s2.1 (fun w3 g1 g2 g3 => ?_)⟩
  rw [if_neg hp]
  have s3 := s2.lex g1 (g3.wk (by decide) (by decide)) (Nat.le_refl p)
  refine bk_X12_open_78 ⟨fun _ => ⟨fun _ => ?_, fun y => absurd g1.2.2.1 y⟩, fun y => absurd rfl y⟩
  have a3 : hm_ag [7, 8] [] w3 (hb_pI (hb_pI w3 12 7 0 (hb_fI w3 12 5 0)) 12 8 0 (hb_fI w3 12 6 0)) := (hm_ag.rf.pI (by decide)).pI (by decide)
  have N3 := s3.2.2.1.ag a3 (by decide) (by decide) (by decide) (by decide) (by decide) (by decide) (by decide) (by decide)
  have hK := s3.2.2.2.2.2
  refine om_stands N3 s3.2.2.2.2.1 (by omega) hok (fun w4 a4 k1 k2 k3 k4 k5 k6 k7 k8 k9 k10 => bk_X12_open_128 ?_)
  have e29 : hb_fI w4 12 29 0 = nI st := by rw [a4.I 29]; exact N3.1
  rw [e29]
  have A4 : hm_ag kY jY w w4 := (((a2.1.wk (by decide) (by decide)).tr (g3.wk (by decide) (by decide))).tr (a3.wk (by decide) (by decide))).tr (a4.wk (by decide) (by decide))
  refine q w4 A4 ?_ ?_ ?_ k1 k2 k3 k4 k5 k6 ?_
  · rw [a4.I 1, a3.I 1, g3.I 1]; exact e2
  · rw [a4.I 7]; exact g1.2.2.1
  · rw [a4.I 8]; exact g1.2.2.2.1
  · obtain ⟨r1, r2, r3, r4, r5, r6, r7, r8⟩ := hR
    refine ⟨fun k p hk => by simp [rt_new] at hk, k8, k7, ?_, k10, ?_, k9, ?_⟩
    · rw [A4.FL 57]; exact r4
    · rw [A4.I 56]; exact r6
    · rw [A4.A 32]; exact r8
/-- the model refuses a text -/
theorem om_openX {k pl : Nat} (h : bX T n k pl) (hT : mTx w T n) (h1 : hb_fI w 12 1 0 = nI n) (hV : mVoc w) (q : ∀ w2, ho_ag (7 :: 8 :: kN) (2 :: jO) w w2 → hb_fI w2 12 1 0 = 0 → hb_fI w2 12 7 0 = nI k → hb_fI w2 12 8 0 = nI pl → hb_aI w2 12 2 0 = upd (hb_aI w 12 2 0) 1 (hb_aI w 12 2 0 1 + 1) → Q (some (hb_i (-1))) w2) : oB d Q w := by
  refine h.2.2 d Q w hT h1 hV (fun w2 a2 s2 e2 => ?_)
  have hb := s2.ne h.1 h.2.1
  refine bk_X12_open_67 ⟨fun _ => ⟨fun y => absurd y hb, fun _ => ?_⟩, fun y => absurd y hb⟩
  refine q _ ⟨((((a2.1.wk (by decide) (by decide)).pI (by decide)).pI (by decide)).sI (by decide)), a2.2⟩ e2 s2.1 s2.2 ?_
  rw [oa_s, a2.A 2]
  rfl
end HSE
