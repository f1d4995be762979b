/-! ===== the tape is fed ===== -/
theorem fd_255 : ∀ i, i < 32 → (255#32).getLsbD i = decide (i < 8) := by decide
theorem fd_bv (x : BitVec 32) (s : Nat) (hs : s ≤ 24) : BitVec.signExtend 32 (BitVec.signExtend 8 (x.ushiftRight s)) &&& 255#32 = x.sshiftRight s &&& 255#32 := by
  refine BitVec.eq_of_getLsbD_eq fun i hi => ?_
  rw [BitVec.getLsbD_and, BitVec.getLsbD_and, fd_255 i hi]
  by_cases h : i < 8
  · have e1 : (BitVec.signExtend 32 (BitVec.signExtend 8 (x.ushiftRight s))).getLsbD i = x.getLsbD (s + i) := by
      rw [BitVec.getLsbD_signExtend, if_pos h, BitVec.getLsbD_signExtend, if_pos hi]
      simp [hi, h]
    have e2 : (x.sshiftRight s).getLsbD i = x.getLsbD (s + i) := by
      rw [BitVec.getLsbD_sshiftRight, if_pos (by omega)]
      simp
      omega
    rw [e1, e2]
  · simp [h]
theorem fd_24 (x : Int32) : (((x.toUInt32 >>> ((24 : Int32).toUInt32 &&& Int32.toUInt32 31)).toInt32).toInt8.toInt32) &&& 255 = (x >>> ((24 : Int32) &&& 31)) &&& 255 := Int32.toBitVec_inj.mp (fd_bv x.toBitVec 24 (by decide))
theorem fd_16 (x : Int32) : (((x.toUInt32 >>> ((16 : Int32).toUInt32 &&& Int32.toUInt32 31)).toInt32).toInt8.toInt32) &&& 255 = (x >>> ((16 : Int32) &&& 31)) &&& 255 := Int32.toBitVec_inj.mp (fd_bv x.toBitVec 16 (by decide))
theorem fd_8 (x : Int32) : (((x.toUInt32 >>> ((8 : Int32).toUInt32 &&& Int32.toUInt32 31)).toInt32).toInt8.toInt32) &&& 255 = (x >>> ((8 : Int32) &&& 31)) &&& 255 := Int32.toBitVec_inj.mp (fd_bv x.toBitVec 8 (by decide))
theorem fd_0 (x : Int32) : (((x.toUInt32 >>> ((0 : Int32).toUInt32 &&& Int32.toUInt32 31)).toInt32).toInt8.toInt32) &&& 255 = (x >>> ((0 : Int32) &&& 31)) &&& 255 := Int32.toBitVec_inj.mp (fd_bv x.toBitVec 0 (by decide))
def fd_y (x : Int32) (j : Nat) : Int32 := (x >>> (((8 : Int32) * ((3 : Int32) - nI j)) &&& 31)) &&& 255
/-- byte j (of 20) of what is fed -/
def fd_z (a b c e f : Int32) (j : Nat) : Int32 := fd_y (if j < 4 then a else if j < 8 then b else if j < 12 then c else if j < 16 then e else f) (j % 4)
section HFD
variable {d : Nat} {w : hb_W} {Q : Option hb_V → hb_W → Prop}
theorem ok_tput {n : Nat} {x : Int32} (hn : n + 4 ≤ 1600) (h : hb_fI w 1 1 0 = nI n) (q : ∀ w2, hb_fI w2 1 1 0 = nI (n + 4) → (∀ k, k < n → hb_aI w2 1 1 0 k = hb_aI w 1 1 0 k) → (∀ j, j < 4 → hb_aI w2 1 1 0 (n + j) &&& 255 = fd_y x j) → hw_ag (fun t _ => t = 1) w w2 → w2.2.2.1 = w.2.2.1 → Q none w2) : hb_O yX10_put cX10_put 3 none d [hb_r 1 0 0, hb_i x] w Q := by
  have p1 : (fun t (_ : Nat) => t = 1) 1 0 := rfl
  have go : ∀ (w' : hb_W) (m : Nat) (s : Int32), hb_fI w' 1 1 0 = nI m → m < 1600 → ¬ s < 0 → (∀ v, v &&& 255 = (((x.toUInt32 >>> (s.toUInt32 &&& Int32.toUInt32 31)).toInt32).toInt8.toInt32) &&& 255 → hb_R yX10_put cX10_put 3 none d 3 [some (hb_r 1 0 0), some (hb_i x), some (hb_i (s + (-8)))] [] (hb_pI (hb_sI w' 1 1 0 (upd (hb_aI w' 1 1 0) m v)) 1 1 0 (nI (m + 1))) Q) → hb_R yX10_put cX10_put 3 none d 3 [some (hb_r 1 0 0), some (hb_i x), some (hb_i s)] [] w' Q := by
    intro w' m s h1 h2 h3 h4
    refine bk_X10_put_3 ⟨fun z => absurd z h3, fun _ => ?_⟩
    rw [h1, nI_clamp (by omega), nI_1]
    exact ⟨fun z => absurd z (nI_ge (b := 1600) h2 (by decide)), fun _ => ⟨vp_in_nI h2 (by decide), h4 _ (by rw [pk_vb])⟩⟩
  refine bk_X10_put_0 (go w n 24 h (by omega) (by decide) (fun v1 e1 => ?_))
  refine go _ (n + 1) 16 rfl (by omega) (by decide) (fun v2 e2 => ?_)
  refine go _ (n + 2) 8 rfl (by omega) (by decide) (fun v3 e3 => ?_)
  refine go _ (n + 3) 0 rfl (by omega) (by decide) (fun v4 e4 => ?_)
  refine bk_X10_put_3 ⟨fun _ => ?_, fun z => absurd (by decide) z⟩
  have ea : hb_aI (hb_pI (hb_sI (hb_pI (hb_sI (hb_pI (hb_sI (hb_pI (hb_sI w 1 1 0 (upd (hb_aI w 1 1 0) n v1)) 1 1 0 (nI (n + 1))) 1 1 0 (upd (upd (hb_aI w 1 1 0) n v1) (n + 1) v2)) 1 1 0 (nI (n + 2))) 1 1 0 (upd (upd (upd (hb_aI w 1 1 0) n v1) (n + 1) v2) (n + 2) v3)) 1 1 0 (nI (n + 3))) 1 1 0 (upd (upd (upd (upd (hb_aI w 1 1 0) n v1) (n + 1) v2) (n + 2) v3) (n + 3) v4)) 1 1 0 (nI (n + 4))) 1 1 0 = upd (upd (upd (upd (hb_aI w 1 1 0) n v1) (n + 1) v2) (n + 2) v3) (n + 3) v4 := rfl
  refine q _ rfl (fun k hk => ?_) (fun j hj => ?_) ((((((((hw_ag.rf (P := fun t _ => t = 1)).sI p1).pI p1).sI p1).pI p1).sI p1).pI p1).sI p1 |>.pI p1) rfl
  · show upd (upd (upd (upd (hb_aI w 1 1 0) n v1) (n + 1) v2) (n + 2) v3) (n + 3) v4 k = _
    rw [pk_un (by omega), pk_un (by omega), pk_un (by omega), pk_un (by omega)]
  · show upd (upd (upd (upd (hb_aI w 1 1 0) n v1) (n + 1) v2) (n + 2) v3) (n + 3) v4 (n + j) &&& 255 = _
    have : j = 0 ∨ j = 1 ∨ j = 2 ∨ j = 3 := by omega
    rcases this with rfl | rfl | rfl | rfl
    · rw [pk_un (by omega), pk_un (by omega), pk_un (by omega), Nat.add_zero, pk_us, e1, fd_24]
      rfl
    · rw [pk_un (by omega), pk_un (by omega), pk_us, e2, fd_16]
      rfl
    · rw [pk_un (by omega), pk_us, e3, fd_8]
      rfl
    · rw [pk_us, e4, fd_0]
      rfl
theorem om_feed {n : Nat} {a b c e f : Int32} (hn : n + 20 ≤ 1600) (h : hb_fI w 12 1 0 = nI n) (q : ∀ w2, hb_fI w2 12 1 0 = nI (n + 20) → (∀ k, k < n → hb_aI w2 12 1 0 k = hb_aI w 12 1 0 k) → (∀ j, j < 20 → hb_aI w2 12 1 0 (n + j) = fd_z a b c e f j) → hm_ag [1] [1] w w2 → Q (some (hb_i (nI (n + 20)))) w2) : hb_O yX12_feed cX12_feed 8 (some .int) d [hb_r 12 0 0, hb_i a, hb_i b, hb_i c, hb_i e, hb_i f] w Q := by
  have loop : ∀ (m j : Nat), j + m = 20 → ∀ w', hb_fI w' 12 1 0 = nI (n + j) → (∀ k, k < n → hb_aI w' 12 1 0 k = hb_aI w 12 1 0 k) → (∀ i, i < j → hb_aI w' 12 1 0 (n + i) = fd_z a b c e f i) → hm_ag [1] [1] w w' → hb_R yX12_feed cX12_feed 8 (some .int) d 28 [some (hb_r 12 0 0), some (hb_i a), some (hb_i b), some (hb_i c), some (hb_i e), some (hb_i f), some (hb_i (nI j)), none] [] w' Q := by
    intro m
    induction m with
    | zero =>
      intro j hj w' g1 g2 g3 g4
      rw [Nat.add_zero] at hj
      subst hj
      refine bk_X12_feed_28 ⟨fun _ => ?_, fun z => absurd (nI_le (Nat.le_refl 20) (by decide)) z⟩
      rw [g1]
      exact q w' g1 g2 g3 g4
    | succ m ih =>
      intro j hj w' g1 g2 g3 g4
      have er : nI j - nI j / (4 : Int32) * (4 : Int32) = nI (j % 4) := by rw [show (4 : Int32) = nI 4 from rfl, pk_rem (by omega) (by decide) (by decide)]
      have v1 : vp_in (nI (n + j)) 1600 := vp_in_nI (by omega) (by decide)
      have fin : ∀ x y, x = fd_z a b c e f j → hb_R yX12_feed cX12_feed 8 (some .int) d 28 [some (hb_r 12 0 0), some (hb_i a), some (hb_i b), some (hb_i c), some (hb_i e), some (hb_i f), some (hb_i (nI (j + 1))), some (hb_i y)] [] (hb_pI (hb_sI w' 12 1 0 (upd (hb_aI w' 12 1 0) (n + j) x)) 12 1 0 (nI (n + j + 1))) Q := fun x y hx => by
        refine hx_last (l := [_, _, _, _, _, _, _]) (ih (j + 1) (by omega) _ rfl (fun k hk => ?_) (fun i hi => ?_) ((g4.sI (by decide)).pI (by decide)))
        · show upd (hb_aI w' 12 1 0) (n + j) x k = _
          rw [pk_un (by omega)]; exact g2 k hk
        · show upd (hb_aI w' 12 1 0) (n + j) x (n + i) = _
          by_cases z : i = j
          · rw [z, pk_us]; exact hx
          · rw [pk_un (by omega)]; exact g3 i (by omega)
      refine bk_X12_feed_28 ⟨fun z => absurd z (nI_ge (b := 20) (by omega) (by decide)), fun _ => ?_⟩
      rw [g1, er, nI_clamp (by omega), nI_1, nI_1, show (4 : Int32) = nI 4 from rfl, show (12 : Int32) = nI 12 from rfl, show (16 : Int32) = nI 16 from rfl, nI_leI (by decide) (by omega), nI_leI (by decide) (by omega), nI_leI (by decide) (by omega)]
      have e8 : ((8 : Int32) ≤ nI j) ↔ 8 ≤ j := nI_leI (a := 8) (by decide) (by omega)
      rw [e8]
      refine ⟨fun z1 => ⟨fun z2 => ⟨fun z3 => ⟨fun z4 => ⟨v1, fin _ _ ?_⟩, fun z4 => ⟨v1, fin _ _ ?_⟩⟩, fun z3 => ⟨v1, fin _ _ ?_⟩⟩, fun z2 => ⟨v1, fin _ _ ?_⟩⟩, fun z1 => ⟨v1, fin _ _ ?_⟩⟩
      · unfold fd_z; rw [if_neg (by omega), if_neg (by omega), if_neg (by omega), if_neg (by omega)]; rfl
      · unfold fd_z; rw [if_neg (by omega), if_neg (by omega), if_neg (by omega), if_pos (by omega)]; rfl
      · unfold fd_z; rw [if_neg (by omega), if_neg (by omega), if_pos (by omega)]; rfl
      · unfold fd_z; rw [if_neg (by omega), if_pos (by omega)]; rfl
      · unfold fd_z; rw [if_pos (by omega)]; rfl
  refine bk_X12_feed_0 ?_
  rw [h, show nI n + (20 : Int32) = nI (n + 20) from nI_add n 20, show (1600 : Int32) = nI 1600 from rfl, nI_leI (by omega) (by decide)]
  exact ⟨fun _ => loop 20 0 (by decide) w h (fun _ _ => rfl) (fun i hi => absurd hi (Nat.not_lt_zero i)) hm_ag.rf, fun z => absurd hn z⟩
/-- what both tapes hold alike -/
def tR (w : hb_W) (n : Nat) : Prop := hb_fI w 1 1 0 = nI n ∧ hb_fI w 12 1 0 = nI n ∧ n ≤ 1600 ∧ ∀ k, k < n → hb_aI w 12 1 0 k = hb_aI w 1 1 0 k &&& 255
def tT (w : hb_W) (k : Nat) : Nat := (hb_aI w 1 1 0 k).toBitVec.toNat % 2 ^ 8
theorem tR.T {w : hb_W} {n : Nat} (h : tR w n) : cTx w (tT w) n ∧ mTx w (tT w) n := by
  have e : ∀ k, hb_aI w 1 1 0 k &&& 255 = nI (tT w k) := fun k => pk_and _ 8 (by decide)
  have b : ∀ k, tT w k < 256 := fun k => Nat.mod_lt _ (by decide)
  exact ⟨⟨h.1, h.2.2.1, fun k _ => ⟨e k, b k⟩⟩, h.2.2.1, fun k hk => ⟨(h.2.2.2 k hk).trans (e k), b k⟩⟩
end HFD
