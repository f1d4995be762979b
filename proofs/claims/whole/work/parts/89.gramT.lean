/-! ===== tests: what class and model make of a text ===== -/
def hdB (Wt : List Nat) : Prop := hdS Wt ∧ ¬ Wt.head? = some 10 ∧ ¬ Wt.head? = some 12
def hdT (Wt : List Nat) : Prop := hdB Wt ∧ ¬ Wt.head? = some 11
def gF (T : Nat → Nat) (n tk p : Nat) (z : Bool) (o : Nat) (D : List Nat) (p' : Nat) (z' : Bool) : Prop := ∀ (d : Nat) (Q : Option hb_V → hb_W → Prop) (w0 : hb_W) (s : Nat) (Wt Cd : List Nat), opn Wt = o → hdS Wt → tA d Q w0 T n tk s p' z' (nnW Wt) (Cd ++ D ++ nnC Wt) → tE d Q w0 T n tk s p z Wt Cd
def fF (T : Nat → Nat) (n tk p : Nat) (z : Bool) (o k pl : Nat) : Prop := ∀ (d : Nat) (Q : Option hb_V → hb_W → Prop) (w0 : hb_W) (s : Nat) (Wt Cd : List Nat), opn Wt = o → hdS Wt → pXt Q w0 k pl → tE d Q w0 T n tk s p z Wt Cd
def gB (T : Nat → Nat) (n tk p : Nat) (z : Bool) (o : Nat) (D : List Nat) (p' : Nat) (z' : Bool) : Prop := ∀ (d : Nat) (Q : Option hb_V → hb_W → Prop) (w0 : hb_W) (s : Nat) (Wt Cd : List Nat), opn Wt = o → hdB Wt → (∀ V Cd', (∀ y ∈ V, y = 10) → Cd' ++ V = Cd ++ D → tA d Q w0 T n tk s p' z' (V ++ Wt) Cd') → tE d Q w0 T n tk s p z Wt Cd
def fB (T : Nat → Nat) (n tk p : Nat) (z : Bool) (o k pl : Nat) : Prop := ∀ (d : Nat) (Q : Option hb_V → hb_W → Prop) (w0 : hb_W) (s : Nat) (Wt Cd : List Nat), opn Wt = o → hdB Wt → pXt Q w0 k pl → tE d Q w0 T n tk s p z Wt Cd
def gT (T : Nat → Nat) (n tk p : Nat) (z : Bool) (o : Nat) (D : List Nat) (p' : Nat) (z' : Bool) : Prop := ∀ (d : Nat) (Q : Option hb_V → hb_W → Prop) (w0 : hb_W) (s : Nat) (Wt Cd : List Nat), opn Wt = o → hdT Wt → (∀ V Cd', (∀ y ∈ V, y = 10 ∨ y = 11) → Cd' ++ V = Cd ++ D → tA d Q w0 T n tk s p' z' (V ++ Wt) Cd') → tE d Q w0 T n tk s p z Wt Cd
def fT (T : Nat → Nat) (n tk p : Nat) (z : Bool) (o k pl : Nat) : Prop := ∀ (d : Nat) (Q : Option hb_V → hb_W → Prop) (w0 : hb_W) (s : Nat) (Wt Cd : List Nat), opn Wt = o → hdT Wt → pXt Q w0 k pl → tE d Q w0 T n tk s p z Wt Cd
theorem hdS_c {x : Nat} {Wt : List Nat} (h : 5 ≤ x ∧ x < 60) : hdS (x :: Wt) := fun c hc => by
  simp at hc
  omega
section HGT
variable {T : Nat → Nat} {n tk p p1 p2 p3 o : Nat} {z z1 z2 z3 : Bool} {D D1 D2 : List Nat}
theorem gB_one (h : gF T n tk p z o D p1 z1) : gB T n tk p z o D p1 z1 := by
  intro d Q w0 s Wt Cd ho hh q
  refine h d Q w0 s Wt Cd ho hh.1 ?_
  obtain ⟨e1, e2⟩ := nn_id hh.2.2
  rw [e1, e2, List.append_nil]
  exact q [] (Cd ++ D) (fun y hy => by cases hy) (List.append_nil _)
theorem fB_one {k pl : Nat} (h : fF T n tk p z o k pl) : fB T n tk p z o k pl := fun d Q w0 s Wt Cd ho hh q => h d Q w0 s Wt Cd ho hh.1 q
theorem gB_more (h : gB T n tk p z o D p1 z1) (hW : lx_W T n p1 z1 wd_and) (h2 : gF T n tk (lx_n T n p1) (lx_z T n p1) o D2 p2 z2) : gB T n tk p z o (D ++ D2 ++ [10]) p2 z2 := by
  intro d Q w0 s Wt Cd ho hh q
  refine h d Q w0 s Wt Cd ho hh (fun V Cd' hV e => tA_and hV hh.2.1 hW ?_)
  rw [e]
  refine h2 d Q w0 s _ (Cd ++ D) (by rw [opn_op (by decide)]; exact ho) (hdS_c (by decide)) ?_
  obtain ⟨e1, e2⟩ := nn_id (W := 10 :: Wt) (by simp)
  rw [e1, e2, List.append_nil]
  refine q [10] (Cd ++ D ++ D2) (fun y hy => List.mem_singleton.mp hy) ?_
  simp [List.append_assoc]
theorem fB_more {k pl : Nat} (h : gB T n tk p z o D p1 z1) (hW : lx_W T n p1 z1 wd_and) (h2 : fF T n tk (lx_n T n p1) (lx_z T n p1) o k pl) : fB T n tk p z o k pl := by
  intro d Q w0 s Wt Cd ho hh q
  refine h d Q w0 s Wt Cd ho hh (fun V Cd' hV e => tA_and hV hh.2.1 hW ?_)
  exact h2 d Q w0 s _ _ (by rw [opn_op (by decide)]; exact ho) (hdS_c (by decide)) q
theorem gT_one (h : gB T n tk p z o D p1 z1) : gT T n tk p z o D p1 z1 := fun d Q w0 s Wt Cd ho hh q => h d Q w0 s Wt Cd ho hh.1 (fun V Cd' hV e => q V Cd' (fun y hy => Or.inl (hV y hy)) e)
theorem fT_one {k pl : Nat} (h : fB T n tk p z o k pl) : fT T n tk p z o k pl := fun d Q w0 s Wt Cd ho hh q => h d Q w0 s Wt Cd ho hh.1 q
theorem hdB_11 {Wt : List Nat} : hdB (11 :: Wt) := ⟨hdS_c (by decide), by simp, by simp⟩
theorem gT_more (h : gT T n tk p z o D p1 z1) (hW : lx_W T n p1 z1 wd_or) (h2 : gB T n tk (lx_n T n p1) (lx_z T n p1) o D2 p2 z2) : gT T n tk p z o (D ++ D2 ++ [11]) p2 z2 := by
  intro d Q w0 s Wt Cd ho hh q
  refine h d Q w0 s Wt Cd ho hh (fun V Cd' hV e => tA_or hV ⟨hh.1.2.1, hh.2⟩ hW ?_)
  rw [e]
  refine h2 d Q w0 s _ (Cd ++ D) (by rw [opn_op (by decide)]; exact ho) hdB_11 (fun V2 Cd2 hV2 e2 => ?_)
  have := q (V2 ++ [11]) Cd2 (fun y hy => ?_) ?_
  · rw [List.append_assoc] at this
    exact this
  · rcases List.mem_append.mp hy with u | u
    · exact Or.inl (hV2 y u)
    · exact Or.inr (List.mem_singleton.mp u)
  · rw [← List.append_assoc, e2]
    simp [List.append_assoc]
theorem fT_more {k pl : Nat} (h : gT T n tk p z o D p1 z1) (hW : lx_W T n p1 z1 wd_or) (h2 : fB T n tk (lx_n T n p1) (lx_z T n p1) o k pl) : fT T n tk p z o k pl := by
  intro d Q w0 s Wt Cd ho hh q
  refine h d Q w0 s Wt Cd ho hh (fun V Cd' hV e => tA_or hV ⟨hh.1.2.1, hh.2⟩ hW ?_)
  exact h2 d Q w0 s _ _ (by rw [opn_op (by decide)]; exact ho) hdB_11 q
theorem hdT_25 {Wt : List Nat} : hdT (25 :: Wt) := ⟨⟨hdS_c (by decide), by simp, by simp⟩, by simp⟩
theorem gF_square (ho6 : o < 6) (hs : lx_s T n p 91) (h : gT T n tk (lx_n T n p) false (o + 1) D p1 z1) (hc : lx_s T n p1 93) : gF T n tk p z o D (lx_n T n p1) false := by
  intro d Q w0 s Wt Cd ho hh q
  refine tE_square (by omega) hs (fun y => by omega) (fun _ => ?_)
  refine h d Q w0 s (25 :: Wt) Cd (by rw [opn_in (by decide), ho]) hdT_25 (fun V Cd' hV e => ?_)
  refine tA_close (fun y hy => by have := hV y hy; omega) hc ?_
  rw [e]
  exact q
theorem fF_square1 (ho6 : o = 6) (hs : lx_s T n p 91) : fF T n tk p z o 4 p := fun d Q w0 s Wt Cd ho hh q => tE_square (by omega) hs (fun _ => q) (fun y => by omega)
theorem fF_square2 {k pl : Nat} (ho6 : o < 6) (hs : lx_s T n p 91) (h : fT T n tk (lx_n T n p) false (o + 1) k pl) : fF T n tk p z o k pl := fun d Q w0 s Wt Cd ho hh q => tE_square (by omega) hs (fun y => by omega) (fun _ => h d Q w0 s (25 :: Wt) Cd (by rw [opn_in (by decide), ho]) hdT_25 q)
theorem fF_square3 (ho6 : o < 6) (hs : lx_s T n p 91) (h : gT T n tk (lx_n T n p) false (o + 1) D p1 z1) (na : ¬ lx_W T n p1 z1 wd_and) (no : ¬ lx_W T n p1 z1 wd_or) (hc : ¬ lx_s T n p1 93) : fF T n tk p z o 1 p1 := by
  intro d Q w0 s Wt Cd ho hh q
  refine tE_square (by omega) hs (fun y => by omega) (fun _ => ?_)
  refine h d Q w0 s (25 :: Wt) Cd (by rw [opn_in (by decide), ho]) hdT_25 (fun V Cd' hV e => ?_)
  exact tA_bad (by simp) hc na no q
theorem gF_not (ho6 : o < 6) (hW : lx_W T n p z wd_not) (h : gF T n tk (lx_n T n p) (lx_z T n p) (o + 1) D p1 z1) : gF T n tk p z o (D ++ [12]) p1 z1 := by
  intro d Q w0 s Wt Cd ho hh q
  refine tE_not (by omega) hW (fun y => by omega) (fun _ => ?_)
  refine h d Q w0 s (12 :: Wt) Cd (by rw [opn_in (by decide), ho]) (hdS_c (by decide)) ?_
  have eW : nnW (12 :: Wt) = nnW Wt := rfl
  have eC : nnC (12 :: Wt) = 12 :: nnC Wt := rfl
  rw [eW, eC]
  have e : Cd ++ D ++ 12 :: nnC Wt = Cd ++ (D ++ [12]) ++ nnC Wt := by simp [List.append_assoc]
  rw [e]
  exact q
theorem fF_not1 (ho6 : o = 6) (hW : lx_W T n p z wd_not) : fF T n tk p z o 4 p := fun d Q w0 s Wt Cd ho hh q => tE_not (by omega) hW (fun _ => q) (fun y => by omega)
theorem fF_not2 {k pl : Nat} (ho6 : o < 6) (hW : lx_W T n p z wd_not) (h : fF T n tk (lx_n T n p) (lx_z T n p) (o + 1) k pl) : fF T n tk p z o k pl := fun d Q w0 s Wt Cd ho hh q => tE_not (by omega) hW (fun y => by omega) (fun _ => h d Q w0 s (12 :: Wt) Cd (by rw [opn_in (by decide), ho]) (hdS_c (by decide)) q)
theorem gF_all (hW : lx_W T n p z wd_all) : gF T n tk p z o [13] (lx_n T n p) (lx_z T n p) := fun d Q w0 s Wt Cd ho hh q => tE_all hW q
theorem gF_cmp {c : Nat} (hc : c = 7 ∨ c = 8 ∨ c = 9) (n91 : ¬ lx_s T n p 91) (nn : ¬ lx_W T n p z wd_not) (na : ¬ lx_W T n p z wd_all) (hG : gS T n tk p z o D1 p1 z1) (hno : noOp T n p1) (hs : lx_s T n p1 (cmpS c)) (hG2 : gS T n tk (lx_n T n p1) false o D2 p2 z2) (hno2 : noOp T n p2) : gF T n tk p z o (D1 ++ D2 ++ [c]) p2 z2 := by
  intro d Q w0 s Wt Cd ho hh q
  subst ho
  exact tE_cmp hc hh n91 nn na hG hno hs hG2 hno2 q
theorem fF_cmp1 {k pl : Nat} (hk : 0 < k) (hk2 : k < 10) (n91 : ¬ lx_s T n p 91) (nn : ¬ lx_W T n p z wd_not) (na : ¬ lx_W T n p z wd_all) (hG : fS T n tk p z o k pl) : fF T n tk p z o k pl := by
  intro d Q w0 s Wt Cd ho hh q
  subst ho
  exact tE_sumX hh n91 nn na hk hk2 hG q
theorem fF_cmp2 (n91 : ¬ lx_s T n p 91) (nn : ¬ lx_W T n p z wd_not) (na : ¬ lx_W T n p z wd_all) (hG : gS T n tk p z o D1 p1 z1) (hno : noOp T n p1) (h60 : ¬ lx_s T n p1 60) (h62 : ¬ lx_s T n p1 62) (h61 : ¬ lx_s T n p1 61) : fF T n tk p z o 1 p1 := by
  intro d Q w0 s Wt Cd ho hh q
  subst ho
  refine tE_sum1 hh n91 nn na hG hno (fun w x2 ha hS h2 hl => ?_)
  have hT : ∀ k, k < n → T k < 256 := fun k hk => (hS.1.1.2 k hk).2
  refine bk_X12_qFact_34 ⟨fun y => absurd y (ne_sg (c := 60) rfl (by decide) hT h60), fun _ => ⟨fun y => absurd y (ne_sg (c := 62) rfl (by decide) hT h62), fun _ => ⟨fun y => absurd y (ne_sg (c := 61) rfl (by decide) hT h61), fun _ => ?_⟩⟩⟩
  rw [h2]
  exact om_fail (k := 1) hS.1.2.2.1 (fun w3 k1 k2 => bk_X12_qFact_62 (tX_83 q (ha.tr (k2.wk (by decide) (by decide))) k1 (by decide) (by decide)))
theorem fF_cmp3 {c k pl : Nat} (hk : 0 < k) (hk2 : k < 10) (hc : c = 7 ∨ c = 8 ∨ c = 9) (n91 : ¬ lx_s T n p 91) (nn : ¬ lx_W T n p z wd_not) (na : ¬ lx_W T n p z wd_all) (hG : gS T n tk p z o D1 p1 z1) (hno : noOp T n p1) (hs : lx_s T n p1 (cmpS c)) (hG2 : fS T n tk (lx_n T n p1) false o k pl) : fF T n tk p z o k pl := by
  intro d Q w0 s Wt Cd ho hh q
  subst ho
  exact tE_cmpX hc hh n91 nn na hG hno hs hk hk2 hG2 q
end HGT
/-- typed tests -/
def tyT (m : Nat) (D : List Nat) : Prop := ∀ t : List Bool, t.length + m ≤ 64 → tyR 64 D t = some (true :: t)
def okt (tk : Nat) (D : List Nat) : Prop := ∀ c ∈ D, (7 ≤ c ∧ c ≤ 13) ∨ 1000 ≤ c ∨ (1 ≤ c ∧ c ≤ 6) ∨ (∃ k, k < 7 ∧ alw tk k ∧ c = 40 + k) ∨ (tk = 2 ∧ (c = 60 ∨ c = 61))
theorem okc.t {tk : Nat} {D : List Nat} (h : okc tk D) : okt tk D := fun c hc => Or.inr (h c hc)
theorem okt.app {tk : Nat} {A B : List Nat} (ha : okt tk A) (hb : okt tk B) : okt tk (A ++ B) := fun c hc => by
  rcases List.mem_append.mp hc with h | h
  · exact ha c h
  · exact hb c h
theorem okt_op {tk c : Nat} (h : 7 ≤ c ∧ c ≤ 13) : okt tk [c] := fun x hx => by
  rw [List.mem_singleton.mp hx]; exact Or.inl h
theorem tyT.le {m m' : Nat} {D : List Nat} (h : tyT m D) (hm : m ≤ m') : tyT m' D := fun t ht => h t (by omega)
theorem ty_cmp {m k c : Nat} {D1 D2 : List Nat} (h1 : tyD m D1) (h2 : tyD k D2) (hk : k + 1 ≤ m) (hc : 7 ≤ c ∧ c ≤ 9) : tyT m (D1 ++ D2 ++ [c]) := by
  intro t ht
  rw [tyR_app, tyR_app, h1 t ht]
  show ((tyR 64 D2 (false :: t))).bind (tyR 64 [c]) = _
  rw [h2 (false :: t) (by simp only [List.length_cons]; omega)]
  show (ty1 64 c (false :: false :: t)).bind (tyR 64 []) = _
  have : ty1 64 c (false :: false :: t) = some (true :: t) := by
    have : c = 7 ∨ c = 8 ∨ c = 9 := by omega
    rcases this with rfl | rfl | rfl <;> rfl
  rw [this]
  rfl
theorem ty_ao {m k c : Nat} {D1 D2 : List Nat} (h1 : tyT m D1) (h2 : tyT k D2) (hk : k + 1 ≤ m) (hc : c = 10 ∨ c = 11) : tyT m (D1 ++ D2 ++ [c]) := by
  intro t ht
  rw [tyR_app, tyR_app, h1 t ht]
  show ((tyR 64 D2 (true :: t))).bind (tyR 64 [c]) = _
  rw [h2 (true :: t) (by simp only [List.length_cons]; omega)]
  show (ty1 64 c (true :: true :: t)).bind (tyR 64 []) = _
  have : ty1 64 c (true :: true :: t) = some (true :: t) := by
    rcases hc with rfl | rfl <;> rfl
  rw [this]
  rfl
theorem ty_not {m : Nat} {D : List Nat} (h : tyT m D) : tyT m (D ++ [12]) := by
  intro t ht
  rw [tyR_app, h t ht]
  show (ty1 64 12 (true :: t)).bind (tyR 64 []) = _
  have : ty1 64 12 (true :: t) = some (true :: t) := rfl
  rw [this]
  rfl
theorem ty_all {m : Nat} (hm : 1 ≤ m) : tyT m [13] := by
  intro t ht
  show (ty1 64 13 t).bind (tyR 64 []) = _
  have : ty1 64 13 t = some (true :: t) := by
    unfold ty1
    simp
    omega
  rw [this]
  rfl
