/-! ===== the simulation: what class and model have in common between two calls ===== -/
def nbad (N : Nat) (x : Int32) : Prop := x < 0 ∨ nI N ≤ x
theorem ixc (x : Int32) {N : Nat} (hN : N < 2 ^ 31) : nbad N x ∨ ∃ j, j < N ∧ x = nI j := by
  rcases pk_ix x hN with h | h | h
  · exact Or.inl (Or.inl h)
  · exact Or.inl (Or.inr h)
  · exact Or.inr h
theorem nbad.lt {N : Nat} {x : Int32} (h : nbad N x) (h0 : ¬ x < 0) (h1 : x < nI N) : False := by
  rcases h with h | h
  · exact h0 h
  · rw [ltle32] at h
    exact h h1
theorem nbad.le {N : Nat} {x : Int32} (h : nbad N x) (h0 : ¬ x < 0) (h1 : ¬ nI N ≤ x) : False := by
  rcases h with h | h
  · exact h0 h
  · exact h1 h
theorem nbad.ne {N j : Nat} {x : Int32} (h : nbad N x) (hj : j < N) (hN : N < 2 ^ 31) : ¬ x = nI j := by
  intro e
  subst e
  rcases h with h | h
  · exact nI_pos (by omega) h
  · exact nI_ge hj hN h
theorem i64m {N : Nat} (hN : N ≤ 1000000) : ((nI N - 1).toInt64).toInt = (N : Int) - 1 := by
  rw [Int32.toInt_toInt64, ← jI_n (by omega), show (1 : Int32) = jI 1 from rfl, jI_sub ⟨by omega, by omega⟩ jB1, jI_t (by omega)]
section HZA
variable {d : Nat} {w : hb_W} {Q : Option hb_V → hb_W → Prop}
theorem om_in {x : Int32} {N : Nat} {hi : Int64} (hN : N ≤ 1000000) (h : hi.toInt = (N : Int) - 1) (q1 : ∀ j, j < N → x = nI j → Q (some (hb_i 1)) w) (q0 : nbad N x → Q (some (hb_i 0)) w) : hb_O yX12_isIn cX12_isIn 6 (some .boolean) d [hb_l x.toInt64, hb_l 0, hb_l hi] w Q := by
  have z : (0 : Int64).toInt = 0 := by decide
  rcases ixc x (N := N) (by omega) with hb | ⟨j, hj, rfl⟩
  · refine om_isIn (fun a b => ?_) (fun _ => q0 hb)
    exfalso
    rw [Int64.le_iff_toInt_le, Int32.toInt_toInt64, z] at a
    rw [Int64.le_iff_toInt_le, Int32.toInt_toInt64, h] at b
    have z2 : (0 : Int32).toInt = 0 := by decide
    rcases hb with hb | hb
    · rw [Int32.lt_iff_toInt_lt, z2] at hb
      omega
    · rw [Int32.le_iff_toInt_le, nI_toInt (by omega)] at hb
      omega
  · refine om_isIn (fun _ _ => q1 j hj rfl) (fun hn => ?_)
    exfalso
    apply hn
    rw [Int64.le_iff_toInt_le, Int64.le_iff_toInt_le, Int32.toInt_toInt64, h, z, nI_toInt (by omega)]
    omega
end HZA
def zC (w : hb_W) (n : Nat) (T : Nat → Nat) (f1 f2 : Int32) (rf : Nat → Int32) (L R : Nat) (rows : List wT) (r : rT) (li : List Int32) (op : Int32) : Prop := cTx w T n ∧ (hb_fI w 0 11 0 = f1 ∧ hb_fI w 0 12 0 = f2 ∧ ∀ k, k < 6 → hb_aI w 0 1 0 k = rf k) ∧ (hb_fR w 0 8 0 < 2 ∧ hb_fR w 0 9 0 < 2 ∧ hb_fR w 0 8 0 ≠ hb_fR w 0 9 0) ∧ hb_fI w 0 10 0 = op ∧ cRl w r ∧ cIm w li ∧ (hb_fI w 11 1 (hb_fR w 0 8 0) = nI L ∧ hb_fI w 11 2 (hb_fR w 0 8 0) = nI R ∧ hb_fI w 11 4 (hb_fR w 0 8 0) = nI rows.length ∧ ∀ k x, rows[k]? = some x → cRow w (hb_fR w 0 8 0) k x)
def zS (w : hb_W) (L R : Nat) (mix : Option (List Nat)) (r : rT) (op : Int32) : Prop := cRf w ∧ (∃ mk, hw_mk w 1 mk) ∧ (op = 1 → cMx w (hb_fR w 0 8 0) (sp_mxC mix) ∧ cLd w L R (sp_mxC mix) r.1)
def zM (w : hb_W) (n : Nat) (T : Nat → Nat) (f1 f2 : Int32) (rf : Nat → Int32) (L R : Nat) (rows : List wT) (mix : Option (List Nat)) (r : rT) (li : List Int32) (op : Int32) : Prop := (mTx w T n ∧ hb_fI w 12 1 0 = nI n) ∧ (hb_fI w 12 7 0 = f1 ∧ hb_fI w 12 8 0 = f2 ∧ ∀ k, k < 6 → hb_aI w 12 2 0 k = rf k) ∧ hb_fI w 12 30 0 = op ∧ mRl w r ∧ mIm w li ∧ mVoc w ∧ (hb_aI w 12 13 0 2 = nI L ∧ hb_aI w 12 13 0 3 = nI R ∧ hb_fI w 12 23 0 = nI rows.length ∧ ∀ k x, rows[k]? = some x → mRow w k x) ∧ (op = 1 → mMx w mix)
def zV (L R : Nat) (rows : List wT) (r : rT) (op : Int32) : Prop := vRl r ∧ vLt L r ∧ (L ≤ 9 ∧ R ≤ 3) ∧ (rows.length ≤ 20 ∧ ∀ x ∈ rows, vRow x) ∧ ((op = 0 ∧ r.1 = [] ∧ rows = [] ∧ L = 0 ∧ R = 0) ∨ (op = 1 ∧ 1 ≤ L ∧ 1 ≤ R))
def zW (w : hb_W) (n : Nat) (T : Nat → Nat) (f1 f2 : Int32) (rf : Nat → Int32) (L R : Nat) (rows : List wT) (mix : Option (List Nat)) (r : rT) (li : List Int32) (op : Int32) : Prop := zC w n T f1 f2 rf L R rows r li op ∧ zS w L R mix r op ∧ zM w n T f1 f2 rf L R rows mix r li op ∧ zV L R rows r op
def Sim (w : hb_W) : Prop := ∃ n T f1 f2 rf L R rows mix r li op, zW w n T f1 f2 rf L R rows mix r li op
/-! frames -/
theorem hm_ag.c {K J : List Nat} {w w2 : hb_W} (h : hm_ag K J w w2) : hw_ag (fun t _ => t = 12) w w2 := ⟨fun t k g hn => h.1 t k g (fun y => hn y.1), fun t k g hn => h.2.1 t k g (fun y => hn y.1), fun t k g _ => by show w2.2.2.1 t k g = w.2.2.1 t k g; rw [h.2.2.1], fun t k g hn => h.2.2.2.1 t k g (fun y => hn y.1), fun t k g hn => h.2.2.2.2 t k g (fun y => hn y.1)⟩
theorem cRow.ag {Pp : Nat → Nat → Prop} {w w2 : hb_W} {g k : Nat} {x : wT} (h : cRow w g k x) (ha : hw_ag Pp w w2) (n2 : ¬ Pp 2 (g + 1)) (n11 : ¬ Pp 11 g) : cRow w2 g k x := by
  obtain ⟨h1, h2, h3, h4, a, h5, h6, h7⟩ := h
  have e := fun j => ha.2.2.2.1 11 j g n11
  exact ⟨by rw [e]; exact h1, by rw [e]; exact h2, by rw [e]; exact h3, by rw [e]; exact h4, a, by rw [e]; exact h5, by rw [e]; exact h6, h7.ag ha n2⟩
theorem cIm.ag {Pp : Nat → Nat → Prop} {w w2 : hb_W} {li : List Int32} (h : cIm w li) (ha : hw_ag Pp w w2) (hn : ¬ Pp 10 0) : cIm w2 li := ⟨by rw [ha.1 10 1 0 hn]; exact h.1, h.2.1, by rw [ha.2.2.2.1 10 1 0 hn]; exact h.2.2⟩
theorem cRf.ag {Pp : Nat → Nat → Prop} {w w2 : hb_W} (h : cRf w) (ha : hw_ag Pp w w2) (hn : ∀ g, ¬ Pp 9 g) : cRf w2 := by
  unfold cRf at h ⊢
  rw [ha.2.2.1 9 2 0 (hn 0), ha.2.2.1 9 2 1 (hn 1), ha.2.2.1 9 2 2 (hn 2), ha.2.2.1 9 2 3 (hn 3)]
  exact h
theorem cLd.ag {Pp : Nat → Nat → Prop} {w w2 : hb_W} {L R : Nat} {C : List Nat} {P : List (Nat × Nat × Nat)} (h : cLd w L R C P) (ha : hw_ag Pp w w2) (n5 : ¬ Pp 5 0) (n8 : ¬ Pp 8 0) (n9 : ∀ g, ¬ Pp 9 g) : cLd w2 L R C P := by
  obtain ⟨h1, h2, h3⟩ := h
  refine ⟨h1.ag ha n9, ?_, ?_⟩
  · rw [ha.1 8 9 0 n8]
    rcases h2 with h2 | ⟨m, a1, a2, a3⟩
    · exact Or.inl h2
    · exact Or.inr ⟨m, a1, a2, a3.ag ha n5⟩
  · rw [ha.1 8 9 0 n8, ha.1 8 10 0 n8]
    rcases h3 with h3 | ⟨m, k, a1, a2, a3, a4, a5⟩
    · exact Or.inl h3
    · exact Or.inr ⟨m, k, a1, a2, a3, a4, fun b hb => (a5 b hb).ag ha (n9 b)⟩
theorem mTx.agc {Pp : Nat → Nat → Prop} {w w2 : hb_W} {T : Nat → Nat} {n : Nat} (h : mTx w T n) (ha : hw_ag Pp w w2) (hn : ¬ Pp 12 0) : mTx w2 T n := ⟨h.1, fun k hk => by rw [ha.2.2.2.1 12 1 0 hn]; exact h.2 k hk⟩
theorem mIm.agc {Pp : Nat → Nat → Prop} {w w2 : hb_W} {li : List Int32} (h : mIm w li) (ha : hw_ag Pp w w2) (hn : ¬ Pp 12 0) : mIm w2 li := ⟨by rw [ha.1 12 90 0 hn]; exact h.1, h.2.1, by rw [ha.2.2.2.1 12 57 0 hn]; exact h.2.2⟩
theorem mIm.ag {K J : List Nat} {w w2 : hb_W} {li : List Int32} (h : mIm w li) (ha : hm_ag K J w w2) (h1 : ¬ 90 ∈ K) (h2 : ¬ 57 ∈ J) : mIm w2 li := ⟨by rw [ha.I 90 h1]; exact h.1, h.2.1, by rw [ha.A 57 h2]; exact h.2.2⟩
theorem mC.agc {Pp : Nat → Nat → Prop} {w w2 : hb_W} {k : Nat} {C : List Nat} (h : mC w k C) (ha : hw_ag Pp w w2) (hn : ¬ Pp 12 0) : mC w2 k C := by
  obtain ⟨a, h1, h2, h3, h4⟩ := h
  have e := fun j => ha.2.2.2.1 12 j 0 hn
  exact ⟨a, by rw [e]; exact h1, by rw [e]; exact h2, h3, fun i c hi => by rw [e]; exact h4 i c hi⟩
theorem mRow.agc {Pp : Nat → Nat → Prop} {w w2 : hb_W} {k : Nat} {x : wT} (h : mRow w k x) (ha : hw_ag Pp w w2) (hn : ¬ Pp 12 0) : mRow w2 k x := by
  obtain ⟨h1, h2, h3, h4, h5⟩ := h
  have e := fun j => ha.2.2.2.1 12 j 0 hn
  exact ⟨by rw [e]; exact h1, by rw [e]; exact h2, by rw [e]; exact h3, by rw [e]; exact h4, h5.agc ha hn⟩
theorem mRow.ag {K J : List Nat} {w w2 : hb_W} {k : Nat} {x : wT} (h : mRow w k x) (ha : hm_ag K J w w2) (h14 : ¬ 14 ∈ J) (h15 : ¬ 15 ∈ J) (h16 : ¬ 16 ∈ J) (h17 : ¬ 17 ∈ J) : mRow w2 k x := by
  obtain ⟨h1, h2, h3, h4, h5⟩ := h
  have e := ha.A 14 h14
  exact ⟨by rw [e]; exact h1, by rw [e]; exact h2, by rw [e]; exact h3, by rw [e]; exact h4, h5.ag ha h15 h16 h17⟩
theorem mMx.agc {Pp : Nat → Nat → Prop} {w w2 : hb_W} {mix : Option (List Nat)} (h : mMx w mix) (ha : hw_ag Pp w w2) (hn : ¬ Pp 12 0) : mMx w2 mix := by
  unfold mMx at h ⊢
  cases mix with
  | none => rw [ha.2.2.2.1 12 15 0 hn]; exact h
  | some C => exact ⟨h.1.agc ha hn, h.2⟩
section HZB
variable {w w2 : hb_W} {n : Nat} {T : Nat → Nat} {f1 f2 : Int32} {rf : Nat → Int32} {L R : Nat} {rows : List wT} {mix : Option (List Nat)} {r : rT} {li : List Int32} {op : Int32} {Pp : Nat → Nat → Prop} {K J : List Nat}
theorem zC.ag (h : zC w n T f1 f2 rf L R rows r li op) (ha : hw_ag Pp w w2) (n0 : ¬ Pp 0 0) (n1 : ¬ Pp 1 0) (n2 : ∀ g, g < 2 → ¬ Pp 2 (g + 1)) (n7 : ¬ Pp 7 0) (n10 : ¬ Pp 10 0) (n11 : ∀ g, g < 2 → ¬ Pp 11 g) : zC w2 n T f1 f2 rf L R rows r li op := by
  obtain ⟨h1, ⟨h2, h3, h4⟩, h5, h6, h7, h8, h9, h10, h11, h12⟩ := h
  have e8 : hb_fR w2 0 8 0 = hb_fR w 0 8 0 := ha.2.2.1 0 8 0 n0
  have e9 : hb_fR w2 0 9 0 = hb_fR w 0 9 0 := ha.2.2.1 0 9 0 n0
  have e := fun k => ha.1 0 k 0 n0
  have f := fun k => ha.1 11 k (hb_fR w 0 8 0) (n11 _ h5.1)
  unfold zC
  rw [e8, e9]
  exact ⟨h1.ag ha n1, ⟨by rw [e]; exact h2, by rw [e]; exact h3, by rw [ha.2.2.2.1 0 1 0 n0]; exact h4⟩, h5, by rw [e]; exact h6, h7.ag ha n7, h8.ag ha n10, by rw [f]; exact h9, by rw [f]; exact h10, by rw [f]; exact h11, fun k x hk => (h12 k x hk).ag ha (n2 _ h5.1) (n11 _ h5.1)⟩
theorem zS.ag (h : zS w L R mix r op) (ha : hw_ag Pp w w2) (hg : hb_fR w 0 8 0 < 2) (n0 : ¬ Pp 0 0) (n2 : ∀ g, g < 2 → ¬ Pp 2 (g + 1)) (n11 : ∀ g, g < 2 → ¬ Pp 11 g) (n5 : ∀ g, ¬ Pp 5 g) (n8 : ¬ Pp 8 0) (n9 : ∀ g, ¬ Pp 9 g) : zS w2 L R mix r op := by
  obtain ⟨h1, ⟨mk, h2⟩, h3⟩ := h
  have e8 : hb_fR w2 0 8 0 = hb_fR w 0 8 0 := ha.2.2.1 0 8 0 n0
  unfold zS
  rw [e8]
  exact ⟨h1.ag ha n9, ⟨mk, h2.ag ha (n5 1)⟩, fun y => ⟨(h3 y).1.ag ha (n2 _ hg) (n11 _ hg), (h3 y).2.ag ha (n5 0) n8 n9⟩⟩
theorem zM.agc (h : zM w n T f1 f2 rf L R rows mix r li op) (ha : hw_ag Pp w w2) (hn : ¬ Pp 12 0) : zM w2 n T f1 f2 rf L R rows mix r li op := by
  obtain ⟨⟨h1, h2⟩, ⟨h3, h4, h5⟩, h6, h7, h8, h9, ⟨h10, h11, h12, h13⟩, h14⟩ := h
  have e := fun k => ha.1 12 k 0 hn
  have f := fun k => ha.2.2.2.1 12 k 0 hn
  exact ⟨⟨h1.agc ha hn, by rw [e]; exact h2⟩, ⟨by rw [e]; exact h3, by rw [e]; exact h4, by rw [f]; exact h5⟩, by rw [e]; exact h6, h7.agc ha hn, h8.agc ha hn, h9.agc ha hn, ⟨by rw [f]; exact h10, by rw [f]; exact h11, by rw [e]; exact h12, fun k x hk => (h13 k x hk).agc ha hn⟩, fun y => (h14 y).agc ha hn⟩
theorem zM.ag (h : zM w n T f1 f2 rf L R rows mix r li op) (ha : hm_ag K J w w2) (hK : ∀ x ∈ [1, 7, 8, 23, 30, 55, 56, 57, 90], ¬ x ∈ K) (hJ : ∀ x ∈ [1, 2, 13, 14, 15, 16, 17, 18, 19, 32, 57], ¬ x ∈ J) (hV : ∀ q ∈ wd_voc, ¬ q.1 ∈ J) : zM w2 n T f1 f2 rf L R rows mix r li op := by
  obtain ⟨⟨h1, h2⟩, ⟨h3, h4, h5⟩, h6, h7, h8, h9, ⟨h10, h11, h12, h13⟩, h14⟩ := h
  have i14 := hJ 14 (by decide)
  have i15 := hJ 15 (by decide)
  have i16 := hJ 16 (by decide)
  have i17 := hJ 17 (by decide)
  exact ⟨⟨h1.ag ha (hJ 1 (by decide)), by rw [ha.I 1 (hK 1 (by decide))]; exact h2⟩, ⟨by rw [ha.I 7 (hK 7 (by decide))]; exact h3, by rw [ha.I 8 (hK 8 (by decide))]; exact h4, by rw [ha.A 2 (hJ 2 (by decide))]; exact h5⟩, by rw [ha.I 30 (hK 30 (by decide))]; exact h6, h7.ag ha (hK 55 (by decide)) (hK 56 (by decide)) (hK 57 (by decide)) (hJ 18 (by decide)) (hJ 19 (by decide)) (hJ 32 (by decide)), h8.ag ha (hK 90 (by decide)) (hJ 57 (by decide)), h9.ag ha hV, ⟨by rw [ha.A 13 (hJ 13 (by decide))]; exact h10, by rw [ha.A 13 (hJ 13 (by decide))]; exact h11, by rw [ha.I 23 (hK 23 (by decide))]; exact h12, fun k x hk => (h13 k x hk).ag ha i14 i15 i16 i17⟩, fun y => (h14 y).ag ha i15 i16 i17⟩
/-- the model's scratch changes -/
theorem zW.m (h : zW w n T f1 f2 rf L R rows mix r li op) (ha : hm_ag K J w w2) (hK : ∀ x ∈ [1, 7, 8, 23, 30, 55, 56, 57, 90], ¬ x ∈ K) (hJ : ∀ x ∈ [1, 2, 13, 14, 15, 16, 17, 18, 19, 32, 57], ¬ x ∈ J) (hV : ∀ q ∈ wd_voc, ¬ q.1 ∈ J) : zW w2 n T f1 f2 rf L R rows mix r li op := ⟨h.1.ag ha.c (by decide) (by decide) (fun _ _ => by decide) (by decide) (by decide) (fun _ _ => by decide), h.2.1.ag ha.c h.1.2.2.1.1 (by decide) (fun _ _ => by decide) (fun _ _ => by decide) (fun _ => by decide) (by decide) (fun _ => by decide), h.2.2.1.ag ha hK hJ hV, h.2.2.2⟩
theorem zV.op1 {L R : Nat} {rows : List wT} {r : rT} {op : Int32} (h : zV L R rows r op) : op = 0 ∨ op = 1 := by
  rcases h.2.2.2.2 with y | y
  · exact Or.inl y.1
  · exact Or.inr y.1
theorem zV.L1 {L R : Nat} {rows : List wT} {r : rT} {op : Int32} (h : zV L R rows r op) (h1 : op = 1) : 1 ≤ L ∧ 1 ≤ R := by
  rcases h.2.2.2.2 with y | y
  · rw [y.1] at h1; exact absurd h1 (by decide)
  · exact y.2
end HZB
