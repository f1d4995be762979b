/-! ===== pairs: what all questions to books share ===== -/
theorem eqi {a b : Int32} (h : a = b) : (some (hb_i a) : Option hb_V) = some (hb_i b) := by rw [h]
abbrev zk (mix : Option (List Nat)) (r : rT) : Nat → Nat → Nat := sp_mark (sp_mxC mix) r.2.1
section HZC
variable {d : Nat} {Q : Option hb_V → hb_W → Prop} {w w2 : hb_W} {n : Nat} {T : Nat → Nat} {f1 f2 : Int32} {rf : Nat → Int32} {L R : Nat} {rows : List wT} {mix : Option (List Nat)} {r : rT} {li : List Int32} {op : Int32}
theorem zW.S (h : zW w n T f1 f2 rf L R rows mix r li op) : Sim w := ⟨n, T, f1, f2, rf, L, R, rows, mix, r, li, op, h⟩
/-- the class's scratch changes -/
theorem zW.s {Pp : Nat → Nat → Prop} (h : zW w n T f1 f2 rf L R rows mix r li op) (ha : hw_ag Pp w w2) (hp : ∀ t g, Pp t g → t = 5 ∨ t = 6 ∨ t = 8 ∨ t = 9) (hr : cRf w2) (hm : ∃ mk, hw_mk w2 1 mk) (hl : op = 1 → cLd w2 L R (sp_mxC mix) r.1) : zW w2 n T f1 f2 rf L R rows mix r li op := by
  have n0 : ¬ Pp 0 0 := fun y => by have := hp _ _ y; omega
  have n1 : ¬ Pp 1 0 := fun y => by have := hp _ _ y; omega
  have n2 : ∀ g, g < 2 → ¬ Pp 2 (g + 1) := fun g _ y => by have := hp _ _ y; omega
  have n7 : ¬ Pp 7 0 := fun y => by have := hp _ _ y; omega
  have n10 : ¬ Pp 10 0 := fun y => by have := hp _ _ y; omega
  have n11 : ∀ g, g < 2 → ¬ Pp 11 g := fun g _ y => by have := hp _ _ y; omega
  have n12 : ¬ Pp 12 0 := fun y => by have := hp _ _ y; omega
  have hg := h.1.2.2.1.1
  refine ⟨h.1.ag ha n0 n1 n2 n7 n10 n11, ⟨hr, hm, fun y => ⟨?_, hl y⟩⟩, h.2.2.1.agc ha n12, h.2.2.2⟩
  have e8 : hb_fR w2 0 8 0 = hb_fR w 0 8 0 := ha.2.2.1 0 8 0 n0
  rw [e8]
  exact (h.2.1.2.2 y).1.ag ha (n2 _ hg) (n11 _ hg)
theorem aUp_s {t g : Nat} (h : aUp t g) : t = 5 ∨ t = 6 ∨ t = 8 ∨ t = 9 := by
  unfold aUp at h
  omega
theorem ok_up (h : zW w n T f1 f2 rf L R rows mix r li op) (h1 : op = 1) (q : ∀ w2, cUp w2 L R (sp_mxC mix) r.2.1 r.1 → zW w2 n T f1 f2 rf L R rows mix r li op → hb_fR w2 0 8 0 = hb_fR w 0 8 0 → Q none w2) : hb_O yX4_bringUp cX4_bringUp 5 none (d + 5) [hb_r 8 0 0, hb_r 11 (hb_fR w 0 8 0) 0, hb_r 7 0 0] w Q := by
  have hL := h.2.2.2.L1 h1
  obtain ⟨v1, v2, v3, v4, v5⟩ := h.2.2.2
  obtain ⟨c1, c2, c3, c4, c5, c6, c7, c8, c9, c10⟩ := h.1
  obtain ⟨s1, ⟨mk, s2⟩, s3⟩ := h.2.1
  refine ok_bringUp c3.1 v1.2.2.1.1 v1.1 v1.2.1 hL.1 v3.1 hL.2 v3.2 (s3 h1).1 c7 c8 c5.1 c5.2.1 c5.2.2.1 (s3 h1).2 (fun w2 k1 k2 k3 => q w2 k1 ?_ ?_)
  · exact h.s k2 (fun _ _ y => aUp_s y) k1.1 ⟨mk, s2.ag k2 (by unfold aUp; omega)⟩ (fun _ => k1.Ld v1.2.2.1.1)
  · unfold hb_fR; rw [k3]
theorem ok_bookOf {x : Int32} (q1 : ∀ b, b < 3 → x = nI b → Q (some (hb_r 9 b 0)) w) (q0 : nbad 3 x → Q (some hb_n) w) : hb_O yX4_bookOf cX4_bookOf 2 (some (.object "HoodBook$Book")) d [hb_r 8 0 0, hb_i x] w Q := by
  refine bk_X4_bookOf_0 ⟨fun y => q1 0 (by decide) y, fun y => q1 1 (by decide) y, fun y => q1 2 (by decide) y, fun y0 y1 y2 => q0 ?_⟩
  rcases ixc x (N := 3) (by decide) with u | ⟨j, j1, j2⟩
  · exact u
  · exfalso
    have : j = 0 ∨ j = 1 ∨ j = 2 := by omega
    rcases this with rfl | rfl | rfl
    · exact y0 j2
    · exact y1 j2
    · exact y2 j2
theorem ok_bookNow {x : Int32} (h : zW w n T f1 f2 rf L R rows mix r li op) (q1 : op = 1 → ∀ b w2, b < 3 → x = nI b → cUp w2 L R (sp_mxC mix) r.2.1 r.1 → zW w2 n T f1 f2 rf L R rows mix r li op → Q (some (hb_r 9 b 0)) w2) (q0 : (op = 0 ∨ nbad 3 x) → ∀ w2, zW w2 n T f1 f2 rf L R rows mix r li op → Q (some hb_n) w2) : hb_O yX11_bookNow cX11_bookNow 2 (some (.object "HoodBook$Book")) (d + 6) [hb_r 0 0 0, hb_i x] w Q := by
  have e10 : hb_fI w 0 10 0 = op := h.1.2.2.2.1
  refine bk_X11_bookNow_0 ?_
  rw [e10]
  rcases h.2.2.2.op1 with h0 | h1
  · exact ⟨fun y => absurd h0 y, fun _ => q0 (Or.inl h0) w h⟩
  · refine ⟨fun _ => ok_up h h1 (fun w2 k1 k2 _ => bk_X11_bookNow_24 (ok_bookOf (fun b hb hx => bk_X11_bookNow_32 (show b < hb_ct 9 from Nat.lt_trans hb (by decide)) (q1 h1 b w2 hb hx k1 k2)) (fun hn => bk_X11_bookNow_32N (q0 (Or.inr hn) w2 k2)))), fun y => ?_⟩
    rw [h1] at y
    exact absurd y (by decide)
theorem om_bkY {b : Nat} (h : zW w n T f1 f2 rf L R rows mix r li op) (h1 : op = 1) (hb : b < 3) (q : Q (some (hb_i 1)) w) : hb_O yX12_isBook cX12_isBook 2 (some .boolean) (d + 1) [hb_r 12 0 0, hb_i (nI b)] w Q := by
  have e30 : hb_fI w 12 30 0 = 1 := h.2.2.1.2.2.1.trans h1
  refine bk_X12_isBook_0 ?_
  rw [e30]
  exact ⟨fun y => absurd y (by decide), fun _ => om_in (N := 3) (by decide) (by decide) (fun _ _ _ => bk_X12_isBook_16 ⟨fun y => absurd y (by decide), fun _ => q⟩) (fun hn => absurd rfl (hn.ne hb (by decide)))⟩
theorem om_bkN {x : Int32} (h : zW w n T f1 f2 rf L R rows mix r li op) (h0 : op = 0 ∨ nbad 3 x) (q : Q (some (hb_i 0)) w) : hb_O yX12_isBook cX12_isBook 2 (some .boolean) (d + 1) [hb_r 12 0 0, hb_i x] w Q := by
  have e30 : hb_fI w 12 30 0 = op := h.2.2.1.2.2.1
  refine bk_X12_isBook_0 ⟨fun _ => q, fun y => ?_⟩
  rw [e30] at y
  rcases h0 with h0 | h0
  · exact absurd h0 y
  · exact om_in (N := 3) (by decide) (by decide) (fun j hj e => absurd e (h0.ne hj (by decide))) (fun _ => bk_X12_isBook_16 ⟨fun _ => q, fun y => absurd rfl y⟩)
theorem om_hdY {j : Nat} (hj : j < 64) (q : Q (some (hb_i 1)) w) : hb_O yX12_isHood cX12_isHood 2 (some .boolean) (d + 1) [hb_r 12 0 0, hb_i (nI j)] w Q := bk_X12_isHood_0 (om_in (N := 64) (by decide) (by decide) (fun _ _ _ => bk_X12_isHood_9 ⟨Or.inr rfl, q⟩) (fun hn => absurd rfl (hn.ne hj (by decide))))
theorem om_hdN {x : Int32} (h0 : nbad 64 x) (q : Q (some (hb_i 0)) w) : hb_O yX12_isHood cX12_isHood 2 (some .boolean) (d + 1) [hb_r 12 0 0, hb_i x] w Q := bk_X12_isHood_0 (om_in (N := 64) (by decide) (by decide) (fun j hj e => absurd e (h0.ne hj (by decide))) (fun _ => bk_X12_isHood_9 ⟨Or.inl rfl, q⟩))
theorem om_layZ {b : Nat} (h : zW w n T f1 f2 rf L R rows mix r li op) (h1 : op = 1) (hb : b < 3) (q : ∀ w2, mB w2 L R (zk mix r) (sp_bk b r.1) → hm_mk w2 (zk mix r) → zW w2 n T f1 f2 rf L R rows mix r li op → Q none w2) : hb_O yX12_lays cX12_lays 2 none (d + 6) [hb_r 12 0 0, hb_i (nI b)] w Q := by
  have hL := h.2.2.2.L1 h1
  obtain ⟨v1, v2, v3, v4, v5⟩ := h.2.2.2
  obtain ⟨m1, m2, m3, m4, m5, m6, m7, m8⟩ := h.2.2.1
  have hlen := v1.1
  exact om_lays hb v1.2.2.1.1 (m8 h1) hL.1 v3.1 hL.2 v3.2 m7.1 m7.2.1 m4.2.2.1 m4.2.1 (by omega) v1.2.1 m4.1 (fun w2 k1 k2 k3 => q w2 k1 k2 (h.m k3 (by decide) (by decide) (by decide)))
end HZC
def pq (y : MethodName) (cc : ByteArray) (nL : Nat) (As : List hb_V) (w : hb_W) (v : Int32) : Prop := hb_O y cc nL (some .int) 1000 As w (fun rv2 w2 => rv2 = some (hb_i v) ∧ Sim w2)
