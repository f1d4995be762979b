/-! ===== pairs: feed ===== -/
theorem pr_feed : hp_feed Sim := by
  intro w a b c e f hs
  obtain ⟨n, T, f1, f2, rf, L, R, rows, mix, r, li, op, h⟩ := hs
  have hn := h.1.1.2.1
  have c1 := h.1.1.1
  have m1 := h.2.2.1.1.2
  have e20 : nI n + (20 : Int32) = nI (n + 20) := nI_add n 20
  refine bk_X11_feed_0 ?_
  rw [c1, e20, show (1600 : Int32) = nI 1600 from rfl, nI_leI (by omega) (by decide)]
  refine ⟨fun hle => ?_, fun hgt => ok_refuse (k := 0) (by decide) (bk_X11_feed_21 ⟨_, rfl, bk_X12_feed_0 ?_⟩)⟩
  · refine ok_tput (n := n) (by omega) c1 (fun w1 t1 u1 s1 a1 r1 => bk_X11_feed_30 ?_)
    refine ok_tput (n := n + 4) (by omega) t1 (fun w2 t2 u2 s2 a2 r2 => bk_X11_feed_38 ?_)
    refine ok_tput (n := n + 4 + 4) (by omega) t2 (fun w3 t3 u3 s3 a3 r3 => bk_X11_feed_46 ?_)
    refine ok_tput (n := n + 4 + 4 + 4) (by omega) t3 (fun w4 t4 u4 s4 a4 r4 => bk_X11_feed_55 ?_)
    refine ok_tput (n := n + 4 + 4 + 4 + 4) (by omega) t4 (fun w5 t5 u5 s5 a5 r5 => bk_X11_feed_64 ?_)
    have A : hw_ag (fun t _ => t = 1) w w5 := (((a1.tr a2).tr a3).tr a4).tr a5
    have hold : ∀ k, k < n → hb_aI w5 1 1 0 k = hb_aI w 1 1 0 k := fun k hk => (u5 k (by omega)).trans ((u4 k (by omega)).trans ((u3 k (by omega)).trans ((u2 k (by omega)).trans (u1 k hk))))
    have hnew : ∀ j, j < 20 → hb_aI w5 1 1 0 (n + j) &&& 255 = fd_z a b c e f j := by
      intro j hj
      unfold fd_z
      by_cases j4 : j < 4
      · rw [if_pos j4, Nat.mod_eq_of_lt j4, u5 _ (by omega), u4 _ (by omega), u3 _ (by omega), u2 _ (by omega)]
        exact s1 j j4
      · by_cases j8 : j < 8
        · rw [if_neg j4, if_pos j8, u5 _ (by omega), u4 _ (by omega), u3 _ (by omega)]
          have := s2 (j - 4) (by omega)
          rw [show n + 4 + (j - 4) = n + j by omega] at this
          rw [this, show j % 4 = j - 4 by omega]
        · by_cases j12 : j < 12
          · rw [if_neg j4, if_neg j8, if_pos j12, u5 _ (by omega), u4 _ (by omega)]
            have := s3 (j - 8) (by omega)
            rw [show n + 4 + 4 + (j - 8) = n + j by omega] at this
            rw [this, show j % 4 = j - 8 by omega]
          · by_cases j16 : j < 16
            · rw [if_neg j4, if_neg j8, if_neg j12, if_pos j16, u5 _ (by omega)]
              have := s4 (j - 12) (by omega)
              rw [show n + 4 + 4 + 4 + (j - 12) = n + j by omega] at this
              rw [this, show j % 4 = j - 12 by omega]
            · rw [if_neg j4, if_neg j8, if_neg j12, if_neg j16]
              have := s5 (j - 16) (by omega)
              rw [show n + 4 + 4 + 4 + 4 + (j - 16) = n + j by omega] at this
              rw [this, show j % 4 = j - 16 by omega]
    obtain ⟨hC, hS, hM, hV⟩ := h
    have hM2 := hM.agc A (by decide)
    have t5' : hb_fI w5 1 1 0 = nI (n + 20) := t5
    rw [t5']
    refine ⟨_, rfl, om_feed (n := n) (by omega) hM2.1.2 (fun w6 k1 k2 k3 k4 => ⟨rfl, ?_⟩)⟩
    have hc := k4.c
    have q1 : hb_aI w6 1 1 0 = hb_aI w5 1 1 0 := hc.2.2.2.1 1 1 0 (by decide)
    have q2 : hb_fI w6 1 1 0 = nI (n + 20) := (hc.1 1 1 0 (by decide)).trans t5'
    have hT : tR w6 (n + 20) := by
      refine ⟨q2, k1, by omega, fun k hk => ?_⟩
      rw [q1]
      by_cases u : k < n
      · rw [k2 k u, hold k u, (hM2.1.1.2 k u).1]
        exact (hC.1.2.2 k u).1.symm
      · have e1 := k3 (k - n) (by omega)
        have e2 := hnew (k - n) (by omega)
        rw [show n + (k - n) = k by omega] at e1 e2
        rw [e1, e2]
    have A6 : hw_ag (fun t _ => t = 1 ∨ t = 12) w w6 := (A.wk (fun t _ y => Or.inl y)).tr (hc.wk (fun t _ y => Or.inr y))
    refine zW.S (n := n + 20) (T := tT w6) ⟨hC.re A6 (fun _ _ => by decide) (fun _ _ => by decide) (A6.2.2.1 0 8 0 (by decide)) (A6.2.2.1 0 9 0 (by decide)) hT.T.1 ⟨(A6.1 0 11 0 (by decide)).trans hC.2.1.1, (A6.1 0 12 0 (by decide)).trans hC.2.1.2.1, fun k hk => (congrFun (A6.2.2.2.1 0 1 0 (by decide)) k).trans (hC.2.1.2.2 k hk)⟩ ((A6.1 0 10 0 (by decide)).trans hC.2.2.2.1) (hC.2.2.2.2.1.ag A6 (by decide)) (hC.2.2.2.2.2.1.ag A6 (by decide)), hS.ag A6 hC.2.2.1.1 (by decide) (fun _ _ => by decide) (fun _ _ => by decide) (fun _ => by decide) (by decide) (fun _ => by decide), hM2.re k4 (by decide) (by decide) (by decide) ⟨hT.T.2, k1⟩ ⟨(k4.I 7).trans hM2.2.1.1, (k4.I 8).trans hM2.2.1.2.1, fun k hk => (congrFun (k4.A 2) k).trans (hM2.2.1.2.2 k hk)⟩ ((k4.I 30).trans hM2.2.2.1) (hM2.2.2.2.1.ag k4 (by decide) (by decide) (by decide) (by decide) (by decide) (by decide)) (hM2.2.2.2.2.1.ag k4 (by decide) (by decide)), hV⟩
  · have g1 : hb_fI (hb_sI w 0 1 0 (upd (hb_aI w 0 1 0) 0 (hb_aI w 0 1 0 0 + 1))) 12 1 0 = nI n := m1
    rw [g1, e20, show (1600 : Int32) = nI 1600 from rfl, nI_leI (by omega) (by decide)]
    exact ⟨fun y => absurd y hgt, fun _ => ⟨rfl, h.ref (k := 0) (by decide)⟩⟩
