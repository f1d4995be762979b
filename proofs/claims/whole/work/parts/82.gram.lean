/-! ===== sums: what class and model make of a text ===== -/
def hdS (Wt : List Nat) : Prop := ∀ c, Wt.head? = some c → 5 ≤ c ∧ c < 60
def hdM (Wt : List Nat) : Prop := ∀ c, Wt.head? = some c → c ≠ 3 ∧ c ≠ 4 ∧ c < 60
def gP (T : Nat → Nat) (n tk p : Nat) (z : Bool) (o : Nat) (D : List Nat) (p' : Nat) (z' : Bool) : Prop := ∀ (d : Nat) (x1 : Int32) (Q : Option hb_V → hb_W → Prop) (w0 : hb_W) (b s : Nat) (Wt Cd : List Nat), opn Wt = o → pA d x1 Q w0 T n tk b s p' z' (pnW b Wt) (Cd ++ D ++ pnC b Wt) → pE d x1 Q w0 T n tk b s p z Wt Cd
def fP (T : Nat → Nat) (n tk p : Nat) (z : Bool) (o k pl : Nat) : Prop := ∀ (d : Nat) (x1 : Int32) (Q : Option hb_V → hb_W → Prop) (w0 : hb_W) (b s : Nat) (Wt Cd : List Nat), opn Wt = o → pX Q w0 k pl → pE d x1 Q w0 T n tk b s p z Wt Cd
def gM (T : Nat → Nat) (n tk p : Nat) (z : Bool) (o : Nat) (D : List Nat) (p' : Nat) (z' : Bool) : Prop := ∀ (d : Nat) (x1 : Int32) (Q : Option hb_V → hb_W → Prop) (w0 : hb_W) (b s : Nat) (Wt Cd : List Nat), opn Wt = o → hdM Wt → (∀ V Cd', (∀ y ∈ V, y = 3 ∨ y = 4) → Cd' ++ V = Cd ++ D → pA d x1 Q w0 T n tk b s p' z' (V ++ Wt) Cd') → pE d x1 Q w0 T n tk b s p z Wt Cd
def fM (T : Nat → Nat) (n tk p : Nat) (z : Bool) (o k pl : Nat) : Prop := ∀ (d : Nat) (x1 : Int32) (Q : Option hb_V → hb_W → Prop) (w0 : hb_W) (b s : Nat) (Wt Cd : List Nat), opn Wt = o → hdM Wt → pX Q w0 k pl → pE d x1 Q w0 T n tk b s p z Wt Cd
def gS (T : Nat → Nat) (n tk p : Nat) (z : Bool) (o : Nat) (D : List Nat) (p' : Nat) (z' : Bool) : Prop := ∀ (d : Nat) (x1 : Int32) (Q : Option hb_V → hb_W → Prop) (w0 : hb_W) (b s : Nat) (Wt Cd : List Nat), opn Wt = o → hdS Wt → (∀ V Cd', (∀ y ∈ V, 1 ≤ y ∧ y ≤ 4) → Cd' ++ V = Cd ++ D → pA d x1 Q w0 T n tk b s p' z' (V ++ Wt) Cd') → pE d x1 Q w0 T n tk b s p z Wt Cd
def fS (T : Nat → Nat) (n tk p : Nat) (z : Bool) (o k pl : Nat) : Prop := ∀ (d : Nat) (x1 : Int32) (Q : Option hb_V → hb_W → Prop) (w0 : hb_W) (b s : Nat) (Wt Cd : List Nat), opn Wt = o → hdS Wt → pX Q w0 k pl → pE d x1 Q w0 T n tk b s p z Wt Cd
theorem pE_b {d : Nat} {x1 : Int32} {Q : Option hb_V → hb_W → Prop} {w0 : hb_W} {T : Nat → Nat} {n tk b s p : Nat} {z : Bool} {Wt Cd : List Nat} (h : b ≤ Wt.length → pE d x1 Q w0 T n tk b s p z Wt Cd) : pE d x1 Q w0 T n tk b s p z Wt Cd := fun w ha hS hl => h hS.2.2.2.2.2.1 w ha hS hl
theorem pn_id {b : Nat} : ∀ {Wt : List Nat}, (∀ c, Wt.head? = some c → c < 60) → pnW b Wt = Wt ∧ pnC b Wt = []
  | [], _ => ⟨rfl, rfl⟩
  | x :: W, h => by
    have hx := h x rfl
    have eW : pnW b (x :: W) = if b ≤ W.length ∧ 60 ≤ x then pnW b W else x :: W := rfl
    have eC : pnC b (x :: W) = if b ≤ W.length ∧ 60 ≤ x then x :: pnC b W else [] := rfl
    rw [eW, eC, if_neg (by omega), if_neg (by omega)]
    exact ⟨rfl, rfl⟩
section HGR
variable {T : Nat → Nat} {n tk p p1 p2 p3 o : Nat} {z z1 z2 z3 : Bool} {D D1 D2 : List Nat}
/-- products -/
theorem gM_one (h : gP T n tk p z o D p1 z1) : gM T n tk p z o D p1 z1 := by
  intro d x1 Q w0 b s Wt Cd ho hh q
  refine h d x1 Q w0 b s Wt Cd ho ?_
  obtain ⟨e1, e2⟩ := pn_id (b := b) (fun c hc => (hh c hc).2.2)
  rw [e1, e2, List.append_nil]
  exact q [] (Cd ++ D) (fun y hy => by cases hy) (List.append_nil _)
theorem fM_one {k pl : Nat} (h : fP T n tk p z o k pl) : fM T n tk p z o k pl := fun d x1 Q w0 b s Wt Cd ho _ q => h d x1 Q w0 b s Wt Cd ho q
theorem gM_head {m : Bool} {Wt : List Nat} : (∀ c, ((if m = true then 3 else 4) :: Wt).head? = some c → c < 60) := fun c hc => by
  cases m <;> simp at hc <;> omega
theorem gM_more {m : Bool} (h : gM T n tk p z o D p1 z1) (hs : lx_s T n p1 (if m = true then 42 else 47)) (h2 : gP T n tk (lx_n T n p1) false o D2 p2 z2) : gM T n tk p z o (D ++ D2 ++ [if m = true then 3 else 4]) p2 z2 := by
  intro d x1 Q w0 b s Wt Cd ho hh q
  refine pE_b (fun hb => h d x1 Q w0 b s Wt Cd ho hh (fun V Cd' hV e => ?_))
  refine pA_mul hV ⟨fun y => (hh 3 y).1 rfl, fun y => (hh 4 y).2.1 rfl⟩ hs hb ?_
  rw [e]
  refine h2 d x1 Q w0 b s _ (Cd ++ D) (by rw [opn_op (by cases m <;> simp)]; exact ho) ?_
  obtain ⟨e1, e2⟩ := pn_id (b := b) (gM_head (m := m) (Wt := Wt))
  rw [e1, e2, List.append_nil]
  refine q [if m = true then 3 else 4] (Cd ++ D ++ D2) (fun y hy => ?_) ?_
  · rw [List.mem_singleton.mp hy]
    cases m <;> simp
  · simp [List.append_assoc]
theorem fM_more {m : Bool} {k pl : Nat} (h : gM T n tk p z o D p1 z1) (hs : lx_s T n p1 (if m = true then 42 else 47)) (h2 : fP T n tk (lx_n T n p1) false o k pl) : fM T n tk p z o k pl := by
  intro d x1 Q w0 b s Wt Cd ho hh q
  refine pE_b (fun hb => h d x1 Q w0 b s Wt Cd ho hh (fun V Cd' hV e => ?_))
  refine pA_mul hV ⟨fun y => (hh 3 y).1 rfl, fun y => (hh 4 y).2.1 rfl⟩ hs hb ?_
  exact h2 d x1 Q w0 b s _ _ (by rw [opn_op (by cases m <;> simp)]; exact ho) q
/-- sums -/
theorem gS_one (h : gM T n tk p z o D p1 z1) : gS T n tk p z o D p1 z1 := fun d x1 Q w0 b s Wt Cd ho hh q => h d x1 Q w0 b s Wt Cd ho (fun c hc => by have := hh c hc; exact ⟨by omega, by omega, by omega⟩) (fun V Cd' hV e => q V Cd' (fun y hy => by have := hV y hy; omega) e)
theorem fS_one {k pl : Nat} (h : fM T n tk p z o k pl) : fS T n tk p z o k pl := fun d x1 Q w0 b s Wt Cd ho hh q => h d x1 Q w0 b s Wt Cd ho (fun c hc => by have := hh c hc; exact ⟨by omega, by omega, by omega⟩) q
theorem gS_hd {m : Bool} {Wt : List Nat} : hdM ((if m = true then 1 else 2) :: Wt) := fun c hc => by
  cases m <;> simp at hc <;> omega
theorem gS_more {m : Bool} (h : gS T n tk p z o D p1 z1) (hs : lx_s T n p1 (if m = true then 43 else 45)) (h2 : gM T n tk (lx_n T n p1) false o D2 p2 z2) : gS T n tk p z o (D ++ D2 ++ [if m = true then 1 else 2]) p2 z2 := by
  intro d x1 Q w0 b s Wt Cd ho hh q
  refine pE_b (fun hb => h d x1 Q w0 b s Wt Cd ho hh (fun V Cd' hV e => ?_))
  refine pA_add hV (fun c hc => Or.inl (hh c hc).1) hs hb ?_
  rw [e]
  refine h2 d x1 Q w0 b s _ (Cd ++ D) (by rw [opn_op (by cases m <;> simp)]; exact ho) gS_hd (fun V2 Cd2 hV2 e2 => ?_)
  have := q (V2 ++ [if m = true then 1 else 2]) Cd2 (fun y hy => ?_) ?_
  · rw [List.append_assoc] at this
    exact this
  · rcases List.mem_append.mp hy with u | u
    · have := hV2 y u; omega
    · rw [List.mem_singleton.mp u]
      cases m <;> simp
  · rw [← List.append_assoc, e2]
    simp [List.append_assoc]
theorem fS_more {m : Bool} {k pl : Nat} (h : gS T n tk p z o D p1 z1) (hs : lx_s T n p1 (if m = true then 43 else 45)) (h2 : fM T n tk (lx_n T n p1) false o k pl) : fS T n tk p z o k pl := by
  intro d x1 Q w0 b s Wt Cd ho hh q
  refine pE_b (fun hb => h d x1 Q w0 b s Wt Cd ho hh (fun V Cd' hV e => ?_))
  refine pA_add hV (fun c hc => Or.inl (hh c hc).1) hs hb ?_
  exact h2 d x1 Q w0 b s _ _ (by rw [opn_op (by cases m <;> simp)]; exact ho) gS_hd q
/-- in brackets -/
theorem hd_in {x : Nat} {Wt : List Nat} (hx : 20 ≤ x ∧ x ≤ 24) : hdS (x :: Wt) := fun c hc => by
  simp at hc
  omega
theorem gP_round (htk : tk < 3) (ho6 : o < 6) (hs : lx_s T n p 40) (h : gS T n tk (lx_n T n p) false (o + 1) D p1 z1) (hc : lx_s T n p1 41) : gP T n tk p z o D (lx_n T n p1) false := by
  intro d x1 Q w0 b s Wt Cd ho q
  refine pE_b (fun hb => pE_round htk (by omega) hs ?_)
  refine h d x1 Q w0 b s (20 :: Wt) Cd (by rw [opn_in (by decide), ho]) (hd_in (by decide)) (fun V Cd' hV e => ?_)
  refine pA_close (x := 20) (Or.inl rfl) (fun y hy => by have := hV y hy; omega) hb hc ?_
  rw [e, if_pos rfl, List.append_nil]
  exact q
theorem fP_round1 (htk : tk < 3) (ho6 : o = 6) (hs : lx_s T n p 40) : fP T n tk p z o 4 p := fun d x1 Q w0 b s Wt Cd ho q => pE_roundX htk (by omega) hs q
theorem fP_round2 {k pl : Nat} (htk : tk < 3) (ho6 : o < 6) (hs : lx_s T n p 40) (h : fS T n tk (lx_n T n p) false (o + 1) k pl) : fP T n tk p z o k pl := fun d x1 Q w0 b s Wt Cd ho q => pE_round htk (by omega) hs (h d x1 Q w0 b s (20 :: Wt) Cd (by rw [opn_in (by decide), ho]) (hd_in (by decide)) q)
theorem fP_round3 (htk : tk < 3) (ho6 : o < 6) (hs : lx_s T n p 40) (h : gS T n tk (lx_n T n p) false (o + 1) D p1 z1) (hno : noOp T n p1) (hc : ¬ lx_s T n p1 41) : fP T n tk p z o 1 p1 := by
  intro d x1 Q w0 b s Wt Cd ho q
  refine pE_b (fun hb => pE_round htk (by omega) hs ?_)
  refine h d x1 Q w0 b s (20 :: Wt) Cd (by rw [opn_in (by decide), ho]) (hd_in (by decide)) (fun V Cd' hV e => ?_)
  exact pA_bad (by decide) (fun y hy => by have := hV y hy; omega) hb hno (fun y => by omega) (fun _ => hc) q
/-- min and max -/
theorem gP_pair {m : Bool} (htk : tk < 3) (ho6 : o < 6) (hW : lx_W T n p z (if m = true then wd_min else wd_max)) (hs : lx_s T n (lx_n T n p) 40) (h : gS T n tk (lx_n T n (lx_n T n p)) false (o + 1) D1 p1 z1) (hc : lx_s T n p1 44) (h2 : gS T n tk (lx_n T n p1) false (o + 1) D2 p2 z2) (hc2 : lx_s T n p2 41) : gP T n tk p z o (D1 ++ D2 ++ [if m = true then 5 else 6]) (lx_n T n p2) false := by
  intro d x1 Q w0 b s Wt Cd ho q
  refine pE_b (fun hb => pE_pair htk (by omega) hW (fun y => absurd hs y) (fun _ y => by omega) (fun _ _ => ?_))
  refine h d x1 Q w0 b s _ Cd (by rw [opn_in (by cases m <;> simp), ho]) (hd_in (by cases m <;> simp)) (fun V Cd' hV e => ?_)
  refine pA_comma (by cases m <;> simp) (fun y hy => by have := hV y hy; omega) hb hc ?_
  rw [e]
  refine h2 d x1 Q w0 b s _ (Cd ++ D1) (by rw [opn_in (by cases m <;> simp), ho]) (hd_in (by cases m <;> simp)) (fun V2 Cd2 hV2 e2 => ?_)
  refine pA_close (x := (if m = true then 21 else 22) + 2) (by cases m <;> simp) (fun y hy => by have := hV2 y hy; omega) hb hc2 ?_
  rw [e2]
  have eq1 : Cd ++ D1 ++ D2 ++ (if (if m = true then 21 else 22) + 2 = 20 then ([] : List Nat) else if (if m = true then 21 else 22) + 2 = 23 then [5] else [6]) = Cd ++ (D1 ++ D2 ++ [if m = true then 5 else 6]) := by
    cases m <;> simp [List.append_assoc]
  rw [eq1]
  exact q
theorem fP_pair1 {m : Bool} (htk : tk < 3) (ho6 : o ≤ 6) (hW : lx_W T n p z (if m = true then wd_min else wd_max)) (hs : ¬ lx_s T n (lx_n T n p) 40) : fP T n tk p z o 1 (lx_n T n p) := fun d x1 Q w0 b s Wt Cd ho q => pE_pair htk (by omega) hW (fun _ => q) (fun y => absurd y hs) (fun y => absurd y hs)
theorem fP_pair2 {m : Bool} (htk : tk < 3) (ho6 : o = 6) (hW : lx_W T n p z (if m = true then wd_min else wd_max)) (hs : lx_s T n (lx_n T n p) 40) : fP T n tk p z o 4 (lx_n T n p) := fun d x1 Q w0 b s Wt Cd ho q => pE_pair htk (by omega) hW (fun y => absurd hs y) (fun _ _ => q) (fun _ y => by omega)
theorem fP_pair3 {m : Bool} {k pl : Nat} (htk : tk < 3) (ho6 : o < 6) (hW : lx_W T n p z (if m = true then wd_min else wd_max)) (hs : lx_s T n (lx_n T n p) 40) (h : fS T n tk (lx_n T n (lx_n T n p)) false (o + 1) k pl) : fP T n tk p z o k pl := fun d x1 Q w0 b s Wt Cd ho q => pE_pair htk (by omega) hW (fun y => absurd hs y) (fun _ y => by omega) (fun _ _ => h d x1 Q w0 b s _ Cd (by rw [opn_in (by cases m <;> simp), ho]) (hd_in (by cases m <;> simp)) q)
theorem fP_pair4 {m : Bool} (htk : tk < 3) (ho6 : o < 6) (hW : lx_W T n p z (if m = true then wd_min else wd_max)) (hs : lx_s T n (lx_n T n p) 40) (h : gS T n tk (lx_n T n (lx_n T n p)) false (o + 1) D1 p1 z1) (hno : noOp T n p1) (hc : ¬ lx_s T n p1 44) : fP T n tk p z o 1 p1 := by
  intro d x1 Q w0 b s Wt Cd ho q
  refine pE_b (fun hb => pE_pair htk (by omega) hW (fun y => absurd hs y) (fun _ y => by omega) (fun _ _ => ?_))
  refine h d x1 Q w0 b s _ Cd (by rw [opn_in (by cases m <;> simp), ho]) (hd_in (by cases m <;> simp)) (fun V Cd' hV e => ?_)
  exact pA_bad (by cases m <;> simp) (fun y hy => by have := hV y hy; omega) hb hno (fun _ => hc) (fun y => by cases m <;> simp at y) q
theorem fP_pair5 {m : Bool} {k pl : Nat} (htk : tk < 3) (ho6 : o < 6) (hW : lx_W T n p z (if m = true then wd_min else wd_max)) (hs : lx_s T n (lx_n T n p) 40) (h : gS T n tk (lx_n T n (lx_n T n p)) false (o + 1) D1 p1 z1) (hc : lx_s T n p1 44) (h2 : fS T n tk (lx_n T n p1) false (o + 1) k pl) : fP T n tk p z o k pl := by
  intro d x1 Q w0 b s Wt Cd ho q
  refine pE_b (fun hb => pE_pair htk (by omega) hW (fun y => absurd hs y) (fun _ y => by omega) (fun _ _ => ?_))
  refine h d x1 Q w0 b s _ Cd (by rw [opn_in (by cases m <;> simp), ho]) (hd_in (by cases m <;> simp)) (fun V Cd' hV e => ?_)
  refine pA_comma (by cases m <;> simp) (fun y hy => by have := hV y hy; omega) hb hc ?_
  exact h2 d x1 Q w0 b s _ _ (by rw [opn_in (by cases m <;> simp), ho]) (hd_in (by cases m <;> simp)) q
theorem fP_pair6 {m : Bool} (htk : tk < 3) (ho6 : o < 6) (hW : lx_W T n p z (if m = true then wd_min else wd_max)) (hs : lx_s T n (lx_n T n p) 40) (h : gS T n tk (lx_n T n (lx_n T n p)) false (o + 1) D1 p1 z1) (hc : lx_s T n p1 44) (h2 : gS T n tk (lx_n T n p1) false (o + 1) D2 p2 z2) (hno : noOp T n p2) (hc2 : ¬ lx_s T n p2 41) : fP T n tk p z o 1 p2 := by
  intro d x1 Q w0 b s Wt Cd ho q
  refine pE_b (fun hb => pE_pair htk (by omega) hW (fun y => absurd hs y) (fun _ y => by omega) (fun _ _ => ?_))
  refine h d x1 Q w0 b s _ Cd (by rw [opn_in (by cases m <;> simp), ho]) (hd_in (by cases m <;> simp)) (fun V Cd' hV e => ?_)
  refine pA_comma (by cases m <;> simp) (fun y hy => by have := hV y hy; omega) hb hc ?_
  refine h2 d x1 Q w0 b s _ _ (by rw [opn_in (by cases m <;> simp), ho]) (hd_in (by cases m <;> simp)) (fun V2 Cd2 hV2 e2 => ?_)
  exact pA_bad (by cases m <;> simp) (fun y hy => by have := hV2 y hy; omega) hb hno (fun y => by cases m <;> simp at y) (fun _ => hc2) q
/-- mark and at -/
theorem gP_of {k : Nat} (htk : tk < 3) (ho6 : o < 6) (hk : k < 2) (hW : lx_W T n p z (wq (7 + k))) (hA : alw tk (7 + k)) (h : gP T n tk (lx_n T n p) (lx_z T n p) (o + 1) D p1 z1) : gP T n tk p z o (D ++ [60 + k]) p1 z1 := by
  intro d x1 Q w0 b s Wt Cd ho q
  refine pE_b (fun hb => pE_of htk (by omega) hk hW hA (fun y => by omega) (fun _ => ?_))
  refine h d x1 Q w0 b s ((60 + k) :: Wt) Cd (by rw [opn_in (by omega), ho]) ?_
  have eW : pnW b ((60 + k) :: Wt) = if b ≤ Wt.length ∧ 60 ≤ 60 + k then pnW b Wt else (60 + k) :: Wt := rfl
  have eC : pnC b ((60 + k) :: Wt) = if b ≤ Wt.length ∧ 60 ≤ 60 + k then (60 + k) :: pnC b Wt else [] := rfl
  rw [eW, eC, if_pos ⟨hb, by omega⟩, if_pos ⟨hb, by omega⟩]
  have e : Cd ++ D ++ (60 + k) :: pnC b Wt = Cd ++ (D ++ [60 + k]) ++ pnC b Wt := by simp [List.append_assoc]
  rw [e]
  exact q
theorem fP_of1 {k : Nat} (htk : tk < 3) (ho6 : o = 6) (hk : k < 2) (hW : lx_W T n p z (wq (7 + k))) (hA : alw tk (7 + k)) : fP T n tk p z o 4 p := fun d x1 Q w0 b s Wt Cd ho q => pE_of htk (by omega) hk hW hA (fun _ => q) (fun y => by omega)
theorem fP_of2 {k j pl : Nat} (htk : tk < 3) (ho6 : o < 6) (hk : k < 2) (hW : lx_W T n p z (wq (7 + k))) (hA : alw tk (7 + k)) (h : fP T n tk (lx_n T n p) (lx_z T n p) (o + 1) j pl) : fP T n tk p z o j pl := fun d x1 Q w0 b s Wt Cd ho q => pE_of htk (by omega) hk hW hA (fun y => by omega) (fun _ => h d x1 Q w0 b s ((60 + k) :: Wt) Cd (by rw [opn_in (by omega), ho]) q)
theorem gP_name {k : Nat} (htk : tk < 3) (hk : k < 7) (hW : lx_W T n p z (wq k)) (hA : alw tk k) : gP T n tk p z o [40 + k] (lx_n T n p) (lx_z T n p) := fun d x1 Q w0 b s Wt Cd ho q => pE_name htk hk hW hA q
theorem gP_num (htk : tk < 3) (hN : lx_no T n p z 0 9999) : gP T n tk p z o [1000 + lx_v T p (lx_E T n p - p)] (lx_n T n p) (lx_z T n p) := fun d x1 Q w0 b s Wt Cd ho q => pE_num htk hN q
theorem fP_none (htk : tk < 3) (hs : ¬ lx_s T n p 40) (nm : ¬ lx_W T n p z wd_min) (nx : ¬ lx_W T n p z wd_max) (no : ∀ k, k < 9 → ¬ (lx_W T n p z (wq k) ∧ alw tk k)) (hN : ¬ lx_no T n p z 0 9999) : fP T n tk p z o (lx_nf T n p z).1 (lx_nf T n p z).2 := fun d x1 Q w0 b s Wt Cd ho q => pE_none htk hs nm nx no hN q
end HGR
/-- typed codes, by how many places of the pile they need -/
def tyD (m : Nat) (D : List Nat) : Prop := ∀ t : List Bool, t.length + m ≤ 64 → tyR 64 D t = some (false :: t)
def okc (tk : Nat) (D : List Nat) : Prop := ∀ c ∈ D, 1000 ≤ c ∨ (1 ≤ c ∧ c ≤ 6) ∨ (∃ k, k < 7 ∧ alw tk k ∧ c = 40 + k) ∨ (tk = 2 ∧ (c = 60 ∨ c = 61))
theorem tyD.le {m m' : Nat} {D : List Nat} (h : tyD m D) (hm : m ≤ m') : tyD m' D := fun t ht => h t (by omega)
theorem ty_leaf {c m : Nat} (hm : 1 ≤ m) (h : (1000 ≤ c ∧ c < 11000) ∨ (40 ≤ c ∧ c < 47)) : tyD m [c] := by
  intro t ht
  show (ty1 64 c t).bind (tyR 64 []) = some (false :: t)
  have : ty1 64 c t = some (false :: t) := by
    unfold ty1
    rcases h with h | h
    · rw [if_pos h.1, if_pos ⟨h.2, by omega⟩]
    · rw [if_neg (by omega), if_neg (by omega), if_pos h.1, if_pos ⟨h.2, by omega⟩]
  rw [this]
  rfl
theorem ty_bin {m k c : Nat} {D1 D2 : List Nat} (h1 : tyD m D1) (h2 : tyD k D2) (hk : k + 1 ≤ m) (hc : 1 ≤ c ∧ c ≤ 6) : tyD m (D1 ++ D2 ++ [c]) := by
  intro t ht
  rw [tyR_app, tyR_app, h1 t ht]
  show ((tyR 64 D2 (false :: t))).bind (tyR 64 [c]) = _
  rw [h2 (false :: t) (by simp only [List.length_cons]; omega)]
  show (ty1 64 c (false :: false :: t)).bind (tyR 64 []) = _
  have : ty1 64 c (false :: false :: t) = some (false :: t) := by
    unfold ty1
    rw [if_neg (by omega), if_neg (by omega), if_neg (by omega), if_neg (by omega), if_neg (by omega), if_neg (by omega), if_neg (by simp), if_pos ?_]
    · have : decide (7 ≤ c) = false := by simp; omega
      rw [this]
      rfl
    · have : decide (10 ≤ c) = false := by simp; omega
      rw [this]
      exact ⟨rfl, rfl⟩
  rw [this]
  rfl
theorem ty_un {m c : Nat} {D : List Nat} (h : tyD m D) (hc : c = 60 ∨ c = 61) : tyD m (D ++ [c]) := by
  intro t ht
  rw [tyR_app, h t ht]
  show (ty1 64 c (false :: t)).bind (tyR 64 []) = _
  have : ty1 64 c (false :: t) = some (false :: t) := by
    unfold ty1
    rw [if_neg (by omega), if_pos (by omega), if_pos ⟨by omega, rfl⟩]
  rw [this]
  rfl
theorem okc.app {tk : Nat} {A B : List Nat} (ha : okc tk A) (hb : okc tk B) : okc tk (A ++ B) := fun c hc => by
  rcases List.mem_append.mp hc with h | h
  · exact ha c h
  · exact hb c h
theorem okc_op {tk c : Nat} (h : 1 ≤ c ∧ c ≤ 6) : okc tk [c] := fun x hx => by
  rw [List.mem_singleton.mp hx]; exact Or.inr (Or.inl h)
