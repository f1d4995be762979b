/-! ===== the class's nights: hoods ===== -/
/-- cells of the row that is being read -/
def rc (w : hb_W) (g1 k : Nat) (F : List (Nat × Nat)) : Prop := ∀ q ∈ F, hb_aI w 11 q.1 g1 k = nI q.2
/-- reading a row -/
def cMd (w : hb_W) (T : Nat → Nat) (n g1 tk p : Nat) (z : Bool) (st L R : Nat) (rows : List rO) (mix : Option (List Nat × Nat)) (co : Nat) (K : List Nat) (F : List (Nat × Nat)) : Prop := cS w T n tk (g1 + 1) p z K ∧ cNn w g1 st L R rows mix co ∧ rows.length < 20 ∧ K.length + 11 ≤ p ∧ okN rows mix co K ∧ rc w g1 rows.length F
section HKH
variable {d : Nat} {w w0 : hb_W} {Q : Option hb_V → hb_W → Prop} {T : Nat → Nat} {n p g1 tk st L R co : Nat} {z : Bool} {rows : List rO} {mix : Option (List Nat × Nat)} {K : List Nat} {F : List (Nat × Nat)}
theorem rc.ag {Pp : Nat → Nat → Prop} {w2 : hb_W} {k : Nat} (h : rc w g1 k F) (ha : hw_ag Pp w w2) (hn : ¬ Pp 11 g1) : rc w2 g1 k F := fun q hq => by rw [ha.2.2.2.1 11 q.1 g1 hn]; exact h q hq
theorem rc.put {k j v : Nat} (h : rc w g1 k F) (hj : ∀ q ∈ F, ¬ q.1 = j) : rc (hb_sI w 11 j g1 (upd (hb_aI w 11 j g1) k (nI v))) g1 k ((j, v) :: F) := fun q hq => by
  rcases List.mem_cons.mp hq with u | u
  · rw [u, sI_s]
    exact pk_us
  · rw [sI_n _ _ _ _ _ (hj q u)]
    exact h q u
theorem cMd.lex {w2 : hb_W} {p2 : Nat} {z2 : Bool} (h : cMd w T n g1 tk p z st L R rows mix co K F) (hG : rG w2 T n p2 z2) (ha : hw_ag (fun t _ => t = 3) w w2) (hr : w2.2.2.1 = w.2.2.1) (hp : p ≤ p2) : cMd w2 T n g1 tk p2 z2 st L R rows mix co K F := by
  have n3 : ¬ (fun t (_ : Nat) => t = 3) 11 g1 := (show ¬ (11 : Nat) = 3 by decide)
  obtain ⟨h1, h2, h3, h4, h5, h6⟩ := h
  exact ⟨h1.lex hG ha hr, h2.ag ha n3, h3, by omega, h5, h6.ag ha n3⟩
theorem cMd.put {j v : Nat} (h : cMd w T n g1 tk p z st L R rows mix co K F) (hj : ∀ q ∈ F, ¬ q.1 = j) : cMd (hb_sI w 11 j g1 (upd (hb_aI w 11 j g1) rows.length (nI v))) T n g1 tk p z st L R rows mix co K ((j, v) :: F) := by
  have ha : hw_ag (fun t g => t = 11 ∧ g = g1) w (hb_sI w 11 j g1 (upd (hb_aI w 11 j g1) rows.length (nI v))) := hw_ag.rf.sI ⟨rfl, rfl⟩
  obtain ⟨⟨s1, s2, s3, s4, s5⟩, h2, h3, h4, h5, h6⟩ := h
  exact ⟨⟨s1.ag ha (by omega) (by omega), s2, s3, s4, s5⟩, h2.row, h3, h4, h5, h6.put hj⟩
theorem ok_wordM {wd : List Nat} {x : Int32} (ho : lx_ok wd) (hx : x = nI (lx_H wd)) (h : cMd w T n g1 tk p z st L R rows mix co K F) (q1 : lx_W T n p z wd → ∀ w2, cMd w2 T n g1 tk (lx_n T n p) (lx_z T n p) st L R rows mix co K F → hw_ag (aM g1) w w2 → w2.2.2.1 = w.2.2.1 → Q (some (hb_i 1)) w2) (q0 : ¬ lx_W T n p z wd → ∀ w2, rX w2 1 p → hw_ag (aM g1) w w2 → w2.2.2.1 = w.2.2.1 → Q (some (hb_i 0)) w2) : hb_O yX7_takeWord cX7_takeWord 2 (some .boolean) (d + 2) [hb_r 3 0 0, hb_i x] w Q := ok_takeWord ho hx h.1.1 (fun y w2 g1' g2 g3 => q1 y w2 (h.lex g1' g2 g3 (Nat.le_of_lt (lx_n_lt h.1.1.2.1.1 (by rw [y.2.1]; decide)))) (aM3 g2) g3) (fun y w2 g1' g2 g3 => q0 y w2 g1' (aM3 g2) g3)
theorem ok_numM {lo hi : Nat} (hlo : lo < 100000) (hhi : hi < 100000) (h : cMd w T n g1 tk p z st L R rows mix co K F) (q1 : lx_no T n p z lo hi → ∀ w2, cMd w2 T n g1 tk (lx_n T n p) (lx_z T n p) st L R rows mix co K F → hw_ag (aM g1) w w2 → w2.2.2.1 = w.2.2.1 → Q (some (hb_i (nI (lx_v T p (lx_E T n p - p))))) w2) (q0 : ¬ lx_no T n p z lo hi → ∀ w2, rX w2 (lx_nf T n p z).1 (lx_nf T n p z).2 → hw_ag (aM g1) w w2 → w2.2.2.1 = w.2.2.1 → Q (some (hb_i (-1))) w2) : hb_O yX7_takeNumber cX7_takeNumber 4 (some .int) (d + 2) [hb_r 3 0 0, hb_i (nI lo), hb_i (nI hi)] w Q := ok_takeNumber hlo hhi h.1.1 (fun y w2 g1' g2 g3 => q1 y w2 (h.lex g1' g2 g3 (Nat.le_of_lt (lx_n_lt h.1.1.2.1.1 (by rw [y.2.1]; decide)))) (aM3 g2) g3) (fun y w2 g1' g2 g3 => q0 y w2 g1' (aM3 g2) g3)
end HKH
