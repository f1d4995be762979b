section HMJ
variable {d : Nat} {Q : Option hb_V → hb_W → Prop} {w : hb_W} {T : Nat → Nat} {n p p1 st L R co : Nat} {z z1 : Bool} {rows : List rO} {mix : Option (List Nat × Nat)} {K D : List Nat}
/-- the row that a hoods statement tells -/
def hRow (T : Nat → Nat) (n p p1 : Nat) (D : List Nat) : wT := (vN T n 1 p, vN T n 3 p, vN T n 5 p, vN T n 1 p1, D)
theorem st_h10 (hst : st < 40) (c : hC7 T n p z rows.length D p1 z1) (c8 : lx_W T n p1 z1 wd_gate) (c9 : lx_no T n (lx_n T n p1) (lx_z T n p1) 0 1) (hS : mSt w T n p z st L R rows mix co K) (q1 : lx_s T n (pN T n 2 p1) 59 → ∀ w2, ho_ag kO jO w w2 → mSt w2 T n (pN T n 3 p1) false (st + 1) L R (rows ++ [(hRow T n p p1 D, K.length)]) mix co (K ++ D) → oR d Q w2) (q0 : ¬ lx_s T n (pN T n 2 p1) 59 → ∀ w2, ho_ag kO jO w w2 → mX w2 1 (pN T n 2 p1) → oR d Q w2) : oR d Q w := by
  have hr := c.1.2.1
  refine st_h9 (by omega) c c8 hS (fun w2 s2 h2 a2 => om_numS (by decide) (by decide) s2 (fun _ w3 s3 a3 => bk_X12_hoodsTold_101 ⟨fun _ => ?_, fun y => absurd s3.1.2.2.1 y⟩) (fun y => absurd c9 y))
  have h3 := h2.ag a3
  have e22 : hb_fI w3 12 22 0 = nI rows.length := s3.2.2.1.2.1
  have e4 : (4 : Int32) * nI rows.length = nI (4 * rows.length) := by rw [show (4 : Int32) = nI 4 from rfl, pk_mul]
  have e41 : nI (4 * rows.length) + (1 : Int32) = nI (4 * rows.length + 1) := nI_1 _
  have e42 : nI (4 * rows.length) + (2 : Int32) = nI (4 * rows.length + 2) := nI_add _ 2
  have e43 : nI (4 * rows.length) + (3 : Int32) = nI (4 * rows.length + 3) := nI_add _ 3
  have k0 : (nI (4 * rows.length)).toNatClampNeg = 4 * rows.length := nI_clamp (by omega)
  have k1 : (nI (4 * rows.length + 1)).toNatClampNeg = 4 * rows.length + 1 := nI_clamp (by omega)
  have k2 : (nI (4 * rows.length + 2)).toNatClampNeg = 4 * rows.length + 2 := nI_clamp (by omega)
  have k3 : (nI (4 * rows.length + 3)).toNatClampNeg = 4 * rows.length + 3 := nI_clamp (by omega)
  have e1 : nI rows.length + (1 : Int32) = nI (rows.length + 1) := nI_1 _
  rw [e22, e4, e41, e42, e43, k0, k1, k2, k3, e1]
  refine ⟨vp_in_nI (by omega) (by decide), vp_in_nI (by omega) (by decide), vp_in_nI (by omega) (by decide), vp_in_nI (by omega) (by decide), bk_X12_statementTold_37 ?_⟩
  have p14 : (14 : Nat) ∈ [14] := by decide
  have p22 : (22 : Nat) ∈ [22] := by decide
  refine st_end (z := zN T n 2 p1 z1) (rows := rows ++ [(hRow T n p p1 D, K.length)]) ?ha hst ?hs q1 q0
  case ha =>
    refine ho_ag.pI (ho_ag.s14 (ho_ag.s14 (ho_ag.s14 (ho_ag.s14 (a2.tr (a5O a3)) (by decide) ?_) (by decide) ?_) (by decide) ?_) (by decide) ?_) (by decide)
    · exact u14 (by omega) (fun _ _ => rfl)
    · exact u14 (by omega) (fun _ _ => rfl)
    · exact u14 (by omega) (fun _ _ => rfl)
    · exact u14 (by omega) (fun _ _ => rfl)
  have hag := ((((hm_ag.rf (K := [22]) (J := [14]) (w := w3)).sI (f := upd (hb_aI w3 12 14 0) (4 * rows.length) (nI (vN T n 1 p))) p14).sI (f := upd (upd (hb_aI w3 12 14 0) (4 * rows.length) (nI (vN T n 1 p))) (4 * rows.length + 1) (nI (vN T n 3 p))) p14).sI (f := upd (upd (upd (hb_aI w3 12 14 0) (4 * rows.length) (nI (vN T n 1 p))) (4 * rows.length + 1) (nI (vN T n 3 p))) (4 * rows.length + 2) (nI (vN T n 5 p))) p14).sI (f := upd (upd (upd (upd (hb_aI w3 12 14 0) (4 * rows.length) (nI (vN T n 1 p))) (4 * rows.length + 1) (nI (vN T n 3 p))) (4 * rows.length + 2) (nI (vN T n 5 p))) (4 * rows.length + 3) (nI (vN T n 1 p1))) p14
  have hag2 := hag.pI (v := nI (rows.length + 1)) p22
  refine ⟨s3.1.ag hag2 (by decide) (by decide) (by decide) (by decide) (by decide) (by decide), s3.2.1.ag hag2 (by decide), mN_row hr s3.2.2.1 h3 rfl ?_ rfl hag2, by omega, by rw [List.length_append, List.length_singleton]; omega, s3.2.2.2.2.2⟩
  exact sI_s _ 12 14 0 _
theorem oG_h (hst : st < 40) (c : hC7 T n p z rows.length D p1 z1) (c8 : lx_W T n p1 z1 wd_gate) (c9 : lx_no T n (lx_n T n p1) (lx_z T n p1) 0 1) (hs : lx_s T n (pN T n 2 p1) 59) : oG T n p z st L R rows mix co K (pN T n 3 p1) false (rows ++ [(hRow T n p p1 D, K.length)]) mix co (K ++ D) := fun d Q w hS q => st_h10 hst c c8 c9 hS (fun _ => q) (fun y => absurd hs y)
theorem oX_h10 (hst : st < 40) (c : hC7 T n p z rows.length D p1 z1) (c8 : lx_W T n p1 z1 wd_gate) (c9 : lx_no T n (lx_n T n p1) (lx_z T n p1) 0 1) (hs : ¬ lx_s T n (pN T n 2 p1) 59) : oX T n p z st L R rows mix co K 1 (pN T n 2 p1) := ⟨by decide, by decide, fun d Q w hS q => st_h10 hst c c8 c9 hS (fun y => absurd y hs) (fun _ => q)⟩
end HMJ
