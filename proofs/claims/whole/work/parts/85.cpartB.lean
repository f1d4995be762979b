theorem lx_nf_b {T : Nat → Nat} {n p : Nat} {z : Bool} : 0 < (lx_nf T n p z).1 ∧ (lx_nf T n p z).1 < 10 := by
  unfold lx_nf
  by_cases h : z = false ∧ lx_k T n p = 2
  · rw [if_pos h]
    by_cases h2 : lx_E T n p ≤ p + 4
    · rw [if_pos h2]; exact ⟨Nat.succ_pos _, by show _ < 10; simp⟩
    · rw [if_neg h2]; exact ⟨Nat.succ_pos _, by show _ < 10; simp⟩
  · rw [if_neg h]; exact ⟨Nat.succ_pos _, by show _ < 10; simp⟩
section HCQ
variable {d : Nat} {T : Nat → Nat} {n tk E : Nat}
theorem ok_part (htk : tk < 3) (hS : ∀ d e, E = e + 1 → ctSum T n tk d e) (hP : ∀ d e, E = e + 1 → ctPart T n tk d e) : ctPart T n tk d E := by
  intro w Q g p z K s o ho hg h hl q1 q0
  have hn := h.1.1.2.1
  have hp := h.1.2.1.1
  have sz : cSz w g := h.sz (by omega)
  have hfr : hb_fR w 4 1 0 = g := h.2.1
  have hkl := lx_k_le T n p
  have wmin := h.W (wd := wd_min) (x := 115086) (wdo ⟨43, by decide⟩) (by decide)
  have wmax := h.W (wd := wd_max) (x := 114840) (wdo ⟨44, by decide⟩) (by decide)
  have wmark := h.W (wd := wd_mark) (x := 3674795) (wdo ⟨52, by decide⟩) (by decide)
  have wat := h.W (wd := wd_at) (x := 3220) (wdo ⟨53, by decide⟩) (by decide)
  have hkd := h.kind
  refine bk_X2_readPart_0 ⟨fun hk2 => ?_, fun hk2 => ?_⟩
  · have nk : ¬ (z = false ∧ lx_k T n p = 2) := fun y => hk2 (hkd.mpr y)
    have nno : ¬ lx_no T n p z 0 9999 := fun y => nk ⟨y.1, y.2.1⟩
    have nf : lx_nf T n p z = (1, p) := by unfold lx_nf; rw [if_neg nk]
    refine ok_isSign sg40 h.1 (fun y => bk_X2_readPart_51 ⟨fun u => absurd u (by decide), fun _ => ?_⟩) (fun y => bk_X2_readPart_51 ⟨fun _ => ?_, fun u => absurd rfl u⟩)
    · have k3 := lx_s3 sg40 y
      refine ok_goIn (by omega) h (by omega) (fun _ => k3) (fun ho6 w2 b1 b2 b3 => bk_X2_readPart_59 ⟨fun u => absurd u (by decide), fun _ => ?_⟩) (fun ho6 w2 b1 b2 b3 => bk_X2_readPart_59 ⟨fun _ => q0 4 p w2 (fP_round1 htk ho6 y) (cBad.of sz b1 b2 b3 (by decide) (by decide)), fun u => absurd rfl u⟩)
      obtain ⟨e, rfl⟩ : ∃ e, E = e + 1 := ⟨E - 1, by omega⟩
      rw [lx_z3 k3] at b1
      have hlt2 := lx_n_lt hp (show lx_k T n p ≠ 0 by omega)
      have hp2 := b1.1.2.1.1
      rw [nI_1]
      have hd : d + 4 * (e + 1) + 3 = d + 1 + 4 * e + 6 := by omega
      rw [hd]
      refine hS (d + 1) e rfl w2 _ g _ false K s (o + 1) (by omega) hg b1 (by omega) (fun D1 p1 z1 w3 l1 l2 l3 l4 => bk_X2_readPart_69 ⟨fun u => absurd u (by decide), fun _ => ?_⟩) (fun k pl w3 l1 l2 => bk_X2_readPart_69 ⟨fun _ => q0 k pl w3 (fP_round2 htk ho6 y l1) (l2.tr (ag3 b2) b3), fun u => absurd rfl u⟩)
      obtain ⟨r1, r2, r3, r4, r5, r6⟩ := l4
      refine ok_takeSign sg41 r2.1 (fun y2 w4 c1 c2 c3 => bk_X2_readPart_81 ⟨fun u => absurd u (by decide), fun _ => ?_⟩) (fun y2 w4 c1 c2 c3 => bk_X2_readPart_81 ⟨fun _ => q0 1 p1 w4 (fP_round3 htk ho6 y l1 l2 y2) ((cBad.of (r2.sz (by omega)) c1 c2 c3 (by decide) (by decide)).tr ((ag3 b2).tr r4) (r5.trans b3)), fun u => absurd rfl u⟩)
      have k32 := lx_s3 sg41 y2
      have hlt3 := lx_n_lt r2.1.2.1.1 (show lx_k T n p1 ≠ 0 by omega)
      exact q1 _ _ _ w4 (gP_round htk ho6 y l1 y2) (l3.le (by omega)) ⟨by omega, r2.lex c1 c2 c3, by omega, ((ag3 b2).tr r4).tr (ag3 c2), c3.trans (r5.trans b3), r6⟩
    · -- names
      have nomin : ∀ {wd : List Nat}, lx_W T n p z wd → lx_k T n p ≠ 0 := fun hW => by rw [hW.2.1]; decide
      have name : ¬ lx_W T n p z wd_min → ¬ lx_W T n p z wd_max → ¬ (tk = 2 ∧ lx_W T n p z wd_mark) → ¬ (tk = 2 ∧ lx_W T n p z wd_at) → hb_O yX2_nameHere cX2_nameHere 1 (some .int) (d + 4 * E + 3) [hb_r 4 0 0] w (fun rv w1 => hb_R yX2_readPart cX2_readPart 3 (some .boolean) (d + 4 * E + 3 + 1) 191 [some (hb_r 4 0 0), some (hb_i (nI o)), none] (rv.toList ++ []) w1 Q) := by
        intro n1 n2 n3 n4
        refine ok_nameHere htk h (fun k hk hW hA => bk_X2_readPart_191 ⟨fun _ => ?_, fun u => ?_⟩) (fun hno => bk_X2_readPart_191 ⟨fun u => absurd rfl u, fun _ => ?_⟩)
        · rw [hfr]
          have hpn : p < n := by
            have hkk := hW.2.1
            unfold lx_k at hkk
            split at hkk
            · cases hkk
            · omega
          have hlt := lx_n_lt hp (nomin hW)
          refine ⟨hg, ok_put2 rfl hg h (by omega) (fun w2 t1 t2 t3 => bk_X2_readPart_220 ?_)⟩
          refine ok_stepG t1.1 (nomin hW) (fun e => by rw [hW.1] at e; cases e) (fun w3 a1 a2 a3 => bk_X2_readPart_227 ?_)
          refine q1 _ _ _ w3 (gP_name htk hk hW hA) (ty_leaf (by omega) (Or.inr (by omega))) ⟨hlt, t1.lex a1 a2 a3, ?_, t2.tr (ag3 a2), a3.trans t3, fun x hx => ?_⟩
          · simp only [List.length_append, List.length_singleton]
            omega
          · rw [List.mem_singleton.mp hx]
            exact Or.inr (Or.inr (Or.inl ⟨k, hk, hA, rfl⟩))
        · exfalso
          have : k = 0 ∨ k = 1 ∨ k = 2 ∨ k = 3 ∨ k = 4 ∨ k = 5 ∨ k = 6 := by omega
          rcases this with rfl | rfl | rfl | rfl | rfl | rfl | rfl <;> exact absurd u (by decide)
        · rw [h.1.2.1.2.2.2.2.1]
          refine ok_stopG (k := 1) h.1.2.2 (fun w2 g1 g2 g3 => bk_X2_readPart_211 ⟨Or.inl rfl, q0 1 p w2 ?_ (cBad.of sz g1 g2 g3 (by decide) (by decide))⟩)
          have := fP_none (o := o) htk y n1 n2 (fun k hk u => ?_) nno
          · rw [nf] at this; exact this
          · by_cases h7 : k < 7
            · exact hno k h7 u
            · have : k = 7 ∨ k = 8 := by omega
              have hA := u.2
              unfold alw at hA
              rcases this with rfl | rfl
              · exact n3 ⟨by omega, u.1⟩
              · exact n4 ⟨by omega, u.1⟩
      have tk2 : hb_fI w 4 2 0 = 2 ↔ tk = 2 := by
        rw [h.2.2.1, show (2 : Int32) = nI 2 from rfl, nI_eq (by omega) (by decide)]
      rw [wmin, wmax, wmark, wat, tk2]
      have pr : ∀ (m : Bool) (x2 : Int32), x2 = cO (if m = true then 5 else 6) → lx_W T n p z (if m = true then wd_min else wd_max) → ∀ pc, (∀ (x : Int32) (w2 : hb_W), (x = 0 ∨ x = 1) → Q (some (hb_i x)) w2 → hb_R yX2_readPart cX2_readPart 3 (some .boolean) (d + 4 * E + 3 + 1) pc [some (hb_r 4 0 0), some (hb_i (nI o)), none] [hb_i x] w2 Q) → hb_O yX2_readPair cX2_readPair 4 (some .boolean) (d + 4 * E + 3) [hb_r 4 0 0, hb_i (nI o), hb_i x2] w (fun rv w1 => hb_R yX2_readPart cX2_readPart 3 (some .boolean) (d + 4 * E + 3 + 1) pc [some (hb_r 4 0 0), some (hb_i (nI o)), none] (rv.toList ++ []) w1 Q) := by
        intro m x2 hx hW pc hpc
        exact ok_pair htk (hS d) hx ho hg h hl hW (fun D p' z' w2 l1 l2 l3 => hpc 1 w2 (Or.inr rfl) (q1 D p' z' w2 l1 l2 l3)) (fun k pl w2 l1 l2 => hpc 0 w2 (Or.inl rfl) (q0 k pl w2 l1 l2))
      have lk : ∀ (k : Nat) (x2 : Int32), k < 2 → x2 = cO (60 + k) → tk = 2 → lx_W T n p z (wq (7 + k)) → ∀ pc, (∀ (x : Int32) (w2 : hb_W), (x = 0 ∨ x = 1) → Q (some (hb_i x)) w2 → hb_R yX2_readPart cX2_readPart 3 (some .boolean) (d + 4 * E + 3 + 1) pc [some (hb_r 4 0 0), some (hb_i (nI o)), none] [hb_i x] w2 Q) → hb_O yX2_readLookup cX2_readLookup 4 (some .boolean) (d + 4 * E + 3) [hb_r 4 0 0, hb_i (nI o), hb_i x2] w (fun rv w1 => hb_R yX2_readPart cX2_readPart 3 (some .boolean) (d + 4 * E + 3 + 1) pc [some (hb_r 4 0 0), some (hb_i (nI o)), none] (rv.toList ++ []) w1 Q) := by
        intro k x2 hk hx ht hW pc hpc
        exact ok_lookup (hP (d + 2)) hk hx ht ho hg h hl hW (fun D p' z' w2 l1 l2 l3 => hpc 1 w2 (Or.inr rfl) (q1 D p' z' w2 l1 l2 l3)) (fun k pl w2 l1 l2 => hpc 0 w2 (Or.inl rfl) (q0 k pl w2 l1 l2))
      refine ⟨fun n1 => ⟨fun n2 => ⟨fun nt => ⟨fun _ => name n1 n2 (fun u => nt u.1) (fun u => nt u.1), fun u => absurd u nt⟩, fun yt => ⟨fun n3 => ⟨fun u => absurd yt u, fun _ => ⟨fun n4 => name n1 n2 (fun u => n3 u.2) (fun u => n4 u.2), fun y4 => ?_⟩⟩, fun y3 => ?_⟩⟩, fun y2 => ?_⟩, fun y1 => ?_⟩
      · exact lk 1 _ (by decide) (by decide) yt y4 186 (fun x w2 hx hQ => bk_X2_readPart_186 ⟨hx, hQ⟩)
      · exact lk 0 _ (by decide) (by decide) yt y3 157 (fun x w2 hx hQ => bk_X2_readPart_157 ⟨hx, hQ⟩)
      · exact pr false _ (by decide) y2 129 (fun x w2 hx hQ => bk_X2_readPart_129 ⟨hx, hQ⟩)
      · exact pr true _ (by decide) y1 109 (fun x w2 hx hQ => bk_X2_readPart_109 ⟨hx, hQ⟩)
  · have yk := hkd.mp hk2
    have nW : ∀ wd, ¬ lx_W T n p z wd := fun wd hW => by have := hW.2.1; omega
    have n40 : ¬ lx_s T n p 40 := fun y => by have := lx_s3 sg40 y; omega
    refine ok_takeNumber (lo := 0) (hi := 9999) (by decide) (by decide) h.1 (fun y w2 g1 g2 g3 => bk_X2_readPart_22 ?_) (fun y w2 g1 g2 g3 => bk_X2_readPart_22 ?_)
    · have S2 := h.lex g1 g2 g3
      have hfr2 : hb_fR w2 4 1 0 = g := S2.2.1
      have hlt := lx_n_lt hp (show lx_k T n p ≠ 0 by omega)
      have hv := y.2.2.2.2
      rw [hfr2]
      refine ⟨hg, ok_put (c := 1000 + lx_v T p (lx_E T n p - p)) ?_ hg S2 (by omega) (fun w3 t1 t2 t3 => bk_X2_readPart_31 ⟨fun u => ?_, fun _ => ?_⟩)⟩
      · unfold cO
        rw [if_pos (by omega), Nat.add_sub_cancel_left]
      · exact absurd u (hx_ne (by omega))
      · refine q1 _ _ _ w3 (gP_num htk y) (ty_leaf (by omega) (Or.inl (by omega))) ⟨hlt, t1, ?_, (ag3 g2).tr t2, t3.trans g3, fun x hx => ?_⟩
        · simp only [List.length_append, List.length_singleton]
          omega
        · rw [List.mem_singleton.mp hx]
          exact Or.inl (by omega)
    · have hB : cBad w w2 g (lx_nf T n p z).1 (lx_nf T n p z).2 := cBad.of sz g1 g2 g3 (lx_nf_b).1 (lx_nf_b).2
      have hfr2 : hb_fR w2 4 1 0 = g := hB.ref hfr
      rw [hfr2]
      exact ⟨hg, ok_putX hg hB (fun w3 t1 => bk_X2_readPart_31 ⟨fun _ => q0 _ _ w3 (fP_none htk n40 (nW _) (nW _) (fun k _ u => nW _ u.1) y) t1, fun u => absurd rfl u⟩)⟩
end HCQ
theorem ct_part {T : Nat → Nat} {n tk : Nat} (htk : tk < 3) (e : Nat) : ∀ d, ctPart T n tk d e := by
  induction e with
  | zero => exact fun d => ok_part htk (fun _ _ y => by cases y) (fun _ _ y => by cases y)
  | succ e ih => exact fun d => ok_part htk (fun d e' y => by cases y; exact ok_sum (ok_prod (ih d))) (fun d e' y => by cases y; exact ih d)
theorem ct_sum {T : Nat → Nat} {n tk : Nat} (htk : tk < 3) (e d : Nat) : ctSum T n tk d e := ok_sum (ok_prod (ct_part htk e d))
