/-! What each call comes to, in the class and in the reference. -/
def LI (sl : Nat → List Nat) (tp : List Nat) : Prop := (∀ s, (sl s).length = 0 ∨ PR 3 (sl s)) ∧ ∀ j, tp.getD j 0 < 256
def PB (M : mm_M) (sl : Nat → List Nat) (tp : List Nat) (pl : Int32) (o : Nat) (M' : mm_M) : Prop := lb_is M' sl tp pl o ∧ mm_on mm_bn M M'
/-- a reference's call: thrown kk, its answer v if it is not refused -/
def RM (kk : Nat) (v : Int32) (P : mm_M → Prop) : mm_O → mm_M → Prop := fun oc M2 => P M2 ∧ ∃ b, oc = .inl (some (.int b)) ∧ (kk = 0 → b = v)
def PM (M1 : mm_M) (sl : Nat → List Nat) (tp : List Nat) (pl : Int32) (o kk : Nat) (M2 : mm_M) : Prop := md_is M1 M2 sl tp pl o kk ∧ LI sl tp
def OPR (l : Launch) (sc : Nat × (Nat → Int32)) (Ym : mm_Y) (args : List Value) (ok : Int32 → Prop) (M : mm_M) (sl : Nat → List Nat) (tp : List Nat) (pl : Int32) (o jj : Nat) : mm_O → mm_M → Prop := fun oc M' => ∃ (kk : Nat) (v : Int32) (sl' : Nat → List Nat) (tp' : List Nat) (pl' : Int32) (o' : Nat), PB M sl' tp' pl' o' M' ∧ ((kk = 0 ∧ ok v ∧ oc = .inl (some (.int v))) ∨ (kk = 1 ∧ oc = .inr 0) ∨ (kk = 2 ∧ jj ≠ 0 ∧ oc = .inr jj)) ∧ ∀ M1 th, md_is M1 M1 sl tp pl o th → mm_Ct l sc Ym M1 (.ref 54 :: args) (RM kk v (PM M1 sl' tp' pl' o' kk))
def no_ok : Int32 → Prop := fun _ => True
def b_ok : Int32 → Prop := fun v => ∃ b, b < 2 ∧ v = nI b
theorem LI.hb {sl : Nat → List Nat} {tp : List Nat} (h : LI sl tp) : ∀ s i, (sl s).getD i 0 < 10000 := by
  intro s i
  rcases h.1 s with h1 | h1
  · rw [te_getD (by omega)]
    decide
  · exact (PR_1 _ h1).1 i
theorem LI.pr {sl : Nat → List Nat} {tp : List Nat} (h : LI sl tp) {s : Nat} (hs : 0 < (sl s).length) : PR 3 (sl s) := (h.1 s).resolve_left (by omega)
theorem LI.up {sl : Nat → List Nat} {tp : List Nat} (h : LI sl tp) {s : Nat} {r : List Nat} (hr : r.length = 0 ∨ PR 3 r) : LI (sl_up sl s r) tp := by
  refine ⟨fun j => ?_, h.2⟩
  unfold sl_up
  by_cases e : j = s
  · rw [if_pos e]
    exact hr
  · rw [if_neg e]
    exact h.1 j
theorem let_or {y : Int32} (h : is_let y) : ∃ v, 97 ≤ v ∧ v ≤ 122 ∧ y = nI v := by
  unfold is_let at h
  obtain ⟨j, h1, h2, h3⟩ := i32_nat (x := y) (by omega)
  exact ⟨j, by omega, by omega, h2⟩
/-- as PR, for questions a little longer -/
def PN (r : List Nat) : Prop := wq 1 r [0] = some [] ∧ r.length ≤ 3000
theorem PN_1 : ∀ r, PN r → (∀ i, r.getD i 0 < 10000) ∧ (∀ i, i < r.length → ¬ r.getD i 0 = 0) ∧ cl r := by
  intro r h
  have h1 := wq_all (B := 3000) r [0] [] h.1 (fun y hy => by rw [List.mem_singleton] at hy; have := h.2; omega)
  refine ⟨fun i => ?_, fun i hi => ?_, wq_cl h.1⟩
  · by_cases c : i < r.length
    · have := (h1 _ (getD_mem c)).2.2
      omega
    · rw [te_getD (by omega)]
      decide
  · have := (h1 _ (getD_mem hi)).2.1
    omega
theorem PN_2 : ∀ r i, PN r → te_fr r r.length 0 = some i → (te_step r i).length ≤ 2000 → PN (te_step r i) := fun _ _ h hf hl => ⟨wq_step (by decide) h.1 (te_fr_some _ _ _ hf).1, by omega⟩
theorem PN_3 : ∀ r, PN r → te_nd r 1 = 0 ∧ te_sc r 1 = r.length := fun r h => wq_nd r [0] h.1
section
variable {l : Launch} {sc : Nat × (Nat → Int32)} {M : mm_M} {sl : Nat → List Nat} {tp : List Nat} {pl : Int32} {o : Nat}
theorem op_size (hl : l.stackTraces = false) (h : lb_is M sl tp pl o) (hI : LI sl tp) (z : Int32) : mm_Ct l sc Y_LB_size M [.ref 0, .int z] (OPR l sc Y_Mo_size [.int z] no_ok M sl tp pl o 0) := by
  rcases slot_or z with hx | ⟨a, ha, rfl⟩
  · exact c_LB_sizeX hl h hx ⟨1, 0, sl, tp, pl, o, ⟨h, mm_on.rf _ M⟩, Or.inr (Or.inl ⟨rfl, rfl⟩), fun M1 th h1 => c_Mo_sizeX h1 hx (fun M2 h2 => ⟨⟨h2, hI⟩, _, rfl, fun e => absurd e (by decide)⟩)⟩
  · exact c_LB_size h ha ⟨0, _, sl, tp, pl, o, ⟨h, mm_on.rf _ M⟩, Or.inl ⟨rfl, trivial, rfl⟩, fun M1 th h1 => c_Mo_size h1 ha (fun M2 h2 => ⟨⟨h2, hI⟩, _, rfl, fun _ => rfl⟩)⟩
theorem op_print (hl : l.stackTraces = false) (h : lb_is M sl tp pl o) (hI : LI sl tp) (z y : Int32) : mm_Ct l sc Y_LB_print M [.ref 0, .int z, .int y] (OPR l sc Y_Mo_print [.int z, .int y] no_ok M sl tp pl o 2) := by
  rcases slot_or z with hx | ⟨a, ha, rfl⟩
  · exact c_LB_printX hl h hx ⟨1, 0, sl, tp, pl, o, ⟨h, mm_on.rf _ M⟩, Or.inr (Or.inl ⟨rfl, rfl⟩), fun M1 th h1 => c_Mo_printX h1 hx (fun M2 h2 => ⟨⟨h2, hI⟩, _, rfl, fun e => absurd e (by decide)⟩)⟩
  · by_cases hy : y.toInt < 0 ∨ ((sl a).length : Int) ≤ y.toInt
    · exact c_LB_printE hl h ha hy ⟨2, 0, sl, tp, pl, o, ⟨h, mm_on.rf _ M⟩, Or.inr (Or.inr ⟨rfl, by decide, rfl⟩), fun M1 th h1 => c_Mo_printE h1 ha hy (fun M2 h2 => ⟨⟨h2, hI⟩, _, rfl, fun e => absurd e (by decide)⟩)⟩
    · obtain ⟨i, i1, rfl, i3⟩ := i32_nat (x := y) (by omega)
      have hi : i < (sl a).length := by omega
      have hpr := hI.pr (s := a) (by omega)
      have h3 := (wq_codes hpr.1 hpr.2).2.2 i hi
      exact c_LB_print h hI.hb ha hi ⟨0, _, sl, tp, pl, o, ⟨h, mm_on.rf _ M⟩, Or.inl ⟨rfl, trivial, rfl⟩, fun M1 th h1 => c_Mo_print h1 ha hi (hI.hb a i) (by omega) (fun M2 h2 => ⟨⟨h2, hI⟩, _, rfl, fun _ => rfl⟩)⟩
theorem op_apply (hl : l.stackTraces = false) (h : lb_is M sl tp pl o) (hI : LI sl tp) (z y w : Int32) : mm_Ct l sc Y_LB_apply M [.ref 0, .int z, .int y, .int w] (OPR l sc Y_Mo_apply [.int z, .int y, .int w] no_ok M sl tp pl o 1) := by
  have bad : no_slot z ∨ no_slot y ∨ no_slot w → mm_Ct l sc Y_LB_apply M [.ref 0, .int z, .int y, .int w] (OPR l sc Y_Mo_apply [.int z, .int y, .int w] no_ok M sl tp pl o 1) := fun hx => c_LB_applyX hl h hx ⟨1, 0, sl, tp, pl, o, ⟨h, mm_on.rf _ M⟩, Or.inr (Or.inl ⟨rfl, rfl⟩), fun M1 th h1 => c_Mo_applyX h1 hx (fun M2 h2 => ⟨⟨h2, hI⟩, _, rfl, fun e => absurd e (by decide)⟩)⟩
  rcases slot_or z with hx | ⟨a, ha, rfl⟩
  · exact bad (Or.inl hx)
  rcases slot_or y with hx | ⟨b, hb, rfl⟩
  · exact bad (Or.inr (Or.inl hx))
  rcases slot_or w with hx | ⟨c, hc, rfl⟩
  · exact bad (Or.inr (Or.inr hx))
  by_cases hn : (sl a).length = 0 ∨ (sl b).length = 0
  · exact c_LB_applyE hl h ha hb hc hn ⟨2, 0, sl, tp, pl, o, ⟨h, mm_on.rf _ M⟩, Or.inr (Or.inr ⟨rfl, by decide, rfl⟩), fun M1 th h1 => c_Mo_applyE h1 ha hb hc (hn.elim Or.inl (fun h9 => Or.inr (Or.inl h9))) (fun M2 h2 => ⟨⟨h2, hI⟩, _, rfl, fun e => absurd e (by decide)⟩)⟩
  · have hpa := hI.pr (s := a) (by omega)
    have hpb := hI.pr (s := b) (by omega)
    refine c_LB_apply hl h ha hb hc (by omega) (by omega) (fun hle M' h' hon => ?_) (fun hgt M' h' hon => ?_)
    · exact ⟨0, _, _, tp, pl, o, ⟨h', hon⟩, Or.inl ⟨rfl, trivial, rfl⟩, fun M1 th h1 => c_Mo_apply h1 ha hb hc (by omega) (by omega) hle (fun M2 h2 => ⟨⟨h2, hI.up (Or.inr ⟨wq_apl hpa.1 hpb.1, hle⟩)⟩, _, rfl, fun _ => rfl⟩)⟩
    · exact ⟨2, 0, sl, tp, pl, o, ⟨h', hon⟩, Or.inr (Or.inr ⟨rfl, by decide, rfl⟩), fun M1 th h1 => c_Mo_applyE h1 ha hb hc (Or.inr (Or.inr hgt)) (fun M2 h2 => ⟨⟨h2, hI⟩, _, rfl, fun e => absurd e (by decide)⟩)⟩
theorem op_bind (hl : l.stackTraces = false) (h : lb_is M sl tp pl o) (hI : LI sl tp) (z y : Int32) : mm_Ct l sc Y_LB_bind M [.ref 0, .int z, .int y] (OPR l sc Y_Mo_bind [.int z, .int y] no_ok M sl tp pl o 1) := by
  have bad : no_slot z ∨ ¬ is_let y → mm_Ct l sc Y_LB_bind M [.ref 0, .int z, .int y] (OPR l sc Y_Mo_bind [.int z, .int y] no_ok M sl tp pl o 1) := fun hx => c_LB_bindX hl h hx ⟨1, 0, sl, tp, pl, o, ⟨h, mm_on.rf _ M⟩, Or.inr (Or.inl ⟨rfl, rfl⟩), fun M1 th h1 => c_Mo_bindX h1 hx (fun M2 h2 => ⟨⟨h2, hI⟩, _, rfl, fun e => absurd e (by decide)⟩)⟩
  rcases slot_or z with hx | ⟨a, ha, rfl⟩
  · exact bad (Or.inl hx)
  by_cases hlet : is_let y
  · by_cases hn : (sl a).length = 0
    · exact c_LB_bindE hl h ha hlet hn ⟨2, 0, sl, tp, pl, o, ⟨h, mm_on.rf _ M⟩, Or.inr (Or.inr ⟨rfl, by decide, rfl⟩), fun M1 th h1 => c_Mo_bindE h1 ha hlet (Or.inl hn) (fun M2 h2 => ⟨⟨h2, hI⟩, _, rfl, fun e => absurd e (by decide)⟩)⟩
    · obtain ⟨v, v1, v2, rfl⟩ := let_or hlet
      have hpr := hI.pr (s := a) (by omega)
      have h3 := PR_3 _ hpr
      have ol := te_bi_len (sl a) v
      have h2000 := hpr.2
      refine c_LB_bind hl h hI.hb ha (by omega) hlet (by omega) h3.2 (fun hle M' h' hon => ?_) (fun hgt M' h' hon => ?_)
      · exact ⟨0, _, _, tp, pl, o, ⟨h', hon⟩, Or.inl ⟨rfl, trivial, rfl⟩, fun M1 th h1 => c_Mo_bind h1 ha v1 v2 (by omega) (hI.hb a) h3.1 h3.2 hle (fun M2 h2 => ⟨⟨h2, hI.up (Or.inr ⟨wq_bi v1 v2 hpr.1, hle⟩)⟩, _, rfl, fun _ => rfl⟩)⟩
      · exact ⟨2, 0, sl, tp, pl, o, ⟨h', hon⟩, Or.inr (Or.inr ⟨rfl, by decide, rfl⟩), fun M1 th h1 => c_Mo_bindE h1 ha hlet (Or.inr (by omega)) (fun M2 h2 => ⟨⟨h2, hI⟩, _, rfl, fun e => absurd e (by decide)⟩)⟩
  · exact bad (Or.inr hlet)
theorem op_redexes (hl : l.stackTraces = false) (h : lb_is M sl tp pl o) (hI : LI sl tp) (z : Int32) : mm_Ct l sc Y_LB_redexes M [.ref 0, .int z] (OPR l sc Y_Mo_redexes [.int z] no_ok M sl tp pl o 1) := by
  rcases slot_or z with hx | ⟨a, ha, rfl⟩
  · exact c_LB_redexesX hl h hx ⟨1, 0, sl, tp, pl, o, ⟨h, mm_on.rf _ M⟩, Or.inr (Or.inl ⟨rfl, rfl⟩), fun M1 th h1 => c_Mo_redexesX h1 hx (fun M2 h2 => ⟨⟨h2, hI⟩, _, rfl, fun e => absurd e (by decide)⟩)⟩
  · by_cases hn : (sl a).length = 0
    · exact c_LB_redexesE hl h ha hn ⟨2, 0, sl, tp, pl, o, ⟨h, mm_on.rf _ M⟩, Or.inr (Or.inr ⟨rfl, by decide, rfl⟩), fun M1 th h1 => c_Mo_redexesE h1 ha hn (fun M2 h2 => ⟨⟨h2, hI⟩, _, rfl, fun e => absurd e (by decide)⟩)⟩
    · have hpr := hI.pr (s := a) (by omega)
      exact c_LB_redexes h hI.hb ha (by omega) ⟨0, _, sl, tp, pl, o, ⟨h, mm_on.rf _ M⟩, Or.inl ⟨rfl, trivial, rfl⟩, fun M1 th h1 => c_Mo_redexes h1 ha (by omega) (hI.hb a) (PR_1 _ hpr).2.2 (fun M2 h2 => ⟨⟨h2, hI⟩, _, rfl, fun _ => rfl⟩)⟩
theorem op_reduce (hl : l.stackTraces = false) (h : lb_is M sl tp pl o) (hI : LI sl tp) (z y : Int32) : mm_Ct l sc Y_LB_reduce M [.ref 0, .int z, .int y] (OPR l sc Y_Mo_reduce [.int z, .int y] no_ok M sl tp pl o 1) := by
  have bad : no_slot z ∨ no_steps y → mm_Ct l sc Y_LB_reduce M [.ref 0, .int z, .int y] (OPR l sc Y_Mo_reduce [.int z, .int y] no_ok M sl tp pl o 1) := fun hx => c_LB_reduceX hl h hx ⟨1, 0, sl, tp, pl, o, ⟨h, mm_on.rf _ M⟩, Or.inr (Or.inl ⟨rfl, rfl⟩), fun M1 th h1 => c_Mo_reduceX h1 hx (fun M2 h2 => ⟨⟨h2, hI⟩, _, rfl, fun e => absurd e (by decide)⟩)⟩
  rcases slot_or z with hx | ⟨a, ha, rfl⟩
  · exact bad (Or.inl hx)
  rcases steps_or y with hx | ⟨N, hN1, hN2, rfl⟩
  · exact bad (Or.inr hx)
  by_cases hn : (sl a).length = 0
  · exact c_LB_reduceE hl h ha hN1 hN2 hn ⟨2, 0, sl, tp, pl, o, ⟨h, mm_on.rf _ M⟩, Or.inr (Or.inr ⟨rfl, by decide, rfl⟩), fun M1 th h1 => c_Mo_reduceE h1 ha hN1 hN2 hn (fun M2 h2 => ⟨⟨h2, hI⟩, _, rfl, fun e => absurd e (by decide)⟩)⟩
  · have hpr := hI.pr (s := a) (by omega)
    refine c_LB_reduce (PR 3) (fun r hr => (PR_1 r hr).1) (PR_2 (by decide)) h ha hN1 hN2 (by omega) hpr (fun M' h' hon => ?_)
    exact ⟨0, _, _, tp, pl, _, ⟨h', hon⟩, Or.inl ⟨rfl, trivial, rfl⟩, fun M1 th h1 => c_Mo_reduce (PR 3) PR_1 (PR_2 (by decide)) h1 ha hN1 hN2 (by omega) hpr (fun M2 h2 => ⟨⟨h2, hI.up (Or.inr (te_rn_P (PR 3) (PR_2 (by decide)) N _ hpr))⟩, _, rfl, fun _ => rfl⟩)⟩
theorem op_abstracted (hl : l.stackTraces = false) (h : lb_is M sl tp pl o) (hI : LI sl tp) (z : Int32) : mm_Ct l sc Y_LB_abstracted M [.ref 0, .int z] (OPR l sc Y_Mo_abstracted [.int z] no_ok M sl tp pl o 1) := by
  rcases slot_or z with hx | ⟨a, ha, rfl⟩
  · exact c_LB_abstractedX hl h hx ⟨1, 0, sl, tp, pl, o, ⟨h, mm_on.rf _ M⟩, Or.inr (Or.inl ⟨rfl, rfl⟩), fun M1 th h1 => c_Mo_abstractedX h1 hx (fun M2 h2 => ⟨⟨h2, hI⟩, _, rfl, fun e => absurd e (by decide)⟩)⟩
  · by_cases hn : (sl a).length = 0
    · exact c_LB_abstractedE hl h ha hn ⟨2, 0, sl, tp, pl, o, ⟨h, mm_on.rf _ M⟩, Or.inr (Or.inr ⟨rfl, by decide, rfl⟩), fun M1 th h1 => c_Mo_abstractedE h1 ha hn (fun M2 h2 => ⟨⟨h2, hI⟩, _, rfl, fun e => absurd e (by decide)⟩)⟩
    · have hpr := hI.pr (s := a) (by omega)
      have hpa := PA_0 hpr
      refine c_LB_abstracted hl PA (fun m r hr => (PA_1 m r hr).1) PA_2 PA_3 h ha (by omega) hpa (fun r' he M' h' hon => ?_) (fun he M' h' hon => ?_)
      · refine ⟨0, _, _, tp, pl, o, ⟨h', hon⟩, Or.inl ⟨rfl, trivial, rfl⟩, fun M1 th h1 => c_Mo_abstracted PA PA_1 PA_2 PA_3 h1 ha (by omega) hpa (fun r2 he2 M2 h2 => ?_) (fun he2 => absurd (he.symm.trans he2) (by simp))⟩
        have e9 : r2 = r' := by
          have := he2.symm.trans he
          injection this
        subst e9
        exact ⟨⟨h2, hI.up (Or.inr (PA_ab _ _ _ hpa he2))⟩, _, rfl, fun _ => rfl⟩
      · exact ⟨2, 0, sl, tp, pl, o, ⟨h', hon⟩, Or.inr (Or.inr ⟨rfl, by decide, rfl⟩), fun M1 th h1 => c_Mo_abstracted PA PA_1 PA_2 PA_3 h1 ha (by omega) hpa (fun r2 he2 => absurd (he.symm.trans he2) (by simp)) (fun _ M2 h2 => ⟨⟨h2, hI⟩, _, rfl, fun e => absurd e (by decide)⟩)⟩
theorem op_numeral (hl : l.stackTraces = false) (h : lb_is M sl tp pl o) (hI : LI sl tp) (z y : Int32) : mm_Ct l sc Y_LB_numeral M [.ref 0, .int z, .int y] (OPR l sc Y_Mo_numeral2 [.int z, .int y] no_ok M sl tp pl o 1) := by
  have bad : no_slot z ∨ no_steps y → mm_Ct l sc Y_LB_numeral M [.ref 0, .int z, .int y] (OPR l sc Y_Mo_numeral2 [.int z, .int y] no_ok M sl tp pl o 1) := fun hx => c_LB_numeralX hl h hx ⟨1, 0, sl, tp, pl, o, ⟨h, mm_on.rf _ M⟩, Or.inr (Or.inl ⟨rfl, rfl⟩), fun M1 th h1 => c_Mo_numeral2X h1 hx (fun M2 h2 => ⟨⟨h2, hI⟩, _, rfl, fun e => absurd e (by decide)⟩)⟩
  rcases slot_or z with hx | ⟨a, ha, rfl⟩
  · exact bad (Or.inl hx)
  rcases steps_or y with hx | ⟨N, hN1, hN2, rfl⟩
  · exact bad (Or.inr hx)
  by_cases hn : (sl a).length = 0
  · exact c_LB_numeralE hl h ha hN1 hN2 hn ⟨2, 0, sl, tp, pl, o, ⟨h, mm_on.rf _ M⟩, Or.inr (Or.inr ⟨rfl, by decide, rfl⟩), fun M1 th h1 => c_Mo_numeral2E h1 ha hN1 hN2 (Or.inl hn) (fun M2 h2 => ⟨⟨h2, hI⟩, _, rfl, fun e => absurd e (by decide)⟩)⟩
  · have hpr := hI.pr (s := a) (by omega)
    have h2000 := hpr.2
    have ol := te_nq_len (sl a)
    have hpn : PN (te_nq (sl a)) := ⟨wq_nq hpr.1 (by decide), by omega⟩
    refine c_LB_numeral hl PN (fun r hr => (PN_1 r hr).1) PN_2 h ha hN1 hN2 (by omega) hpn (fun hle M' h' hon => ?_) (fun hgt M' h' hon => ?_)
    · exact ⟨0, _, sl, tp, pl, _, ⟨h', hon⟩, Or.inl ⟨rfl, trivial, rfl⟩, fun M1 th h1 => c_Mo_numeral2 PN PN_1 PN_2 PN_3 h1 ha hN1 hN2 (by omega) hpn hle (fun M2 h2 => ⟨⟨h2, hI⟩, _, rfl, fun _ => rfl⟩)⟩
    · exact ⟨2, 0, sl, tp, pl, o, ⟨h', hon⟩, Or.inr (Or.inr ⟨rfl, by decide, rfl⟩), fun M1 th h1 => c_Mo_numeral2E h1 ha hN1 hN2 (Or.inr hgt) (fun M2 h2 => ⟨⟨h2, hI⟩, _, rfl, fun e => absurd e (by decide)⟩)⟩
theorem op_same (hl : l.stackTraces = false) (h : lb_is M sl tp pl o) (hI : LI sl tp) (z y : Int32) : mm_Ct l sc Y_LB_same M [.ref 0, .int z, .int y] (OPR l sc Y_Mo_same [.int z, .int y] b_ok M sl tp pl o 0) := by
  have bad : no_slot z ∨ no_slot y → mm_Ct l sc Y_LB_same M [.ref 0, .int z, .int y] (OPR l sc Y_Mo_same [.int z, .int y] b_ok M sl tp pl o 0) := fun hx => c_LB_sameX hl h hx ⟨1, 0, sl, tp, pl, o, ⟨h, mm_on.rf _ M⟩, Or.inr (Or.inl ⟨rfl, rfl⟩), fun M1 th h1 => c_Mo_sameX h1 hx (fun M2 h2 => ⟨⟨h2, hI⟩, _, rfl, fun e => absurd e (by decide)⟩)⟩
  rcases slot_or z with hx | ⟨a, ha, rfl⟩
  · exact bad (Or.inl hx)
  rcases slot_or y with hx | ⟨b, hb, rfl⟩
  · exact bad (Or.inr hx)
  exact c_LB_same h hI.hb ha hb ⟨0, _, sl, tp, pl, o, ⟨h, mm_on.rf _ M⟩, Or.inl ⟨rfl, ⟨_, by split <;> decide, rfl⟩, rfl⟩, fun M1 th h1 => c_Mo_same h1 hI.hb ha hb (fun M2 h2 => ⟨⟨h2, hI⟩, _, rfl, fun _ => rfl⟩)⟩
theorem op_has (hl : l.stackTraces = false) (h : lb_is M sl tp pl o) (hI : LI sl tp) (z y : Int32) : mm_Ct l sc Y_LB_has M [.ref 0, .int z, .int y] (OPR l sc Y_Mo_has [.int z, .int y] b_ok M sl tp pl o 0) := by
  have bad : no_slot z ∨ ¬ is_let y → mm_Ct l sc Y_LB_has M [.ref 0, .int z, .int y] (OPR l sc Y_Mo_has [.int z, .int y] b_ok M sl tp pl o 0) := fun hx => c_LB_hasX hl h hx ⟨1, 0, sl, tp, pl, o, ⟨h, mm_on.rf _ M⟩, Or.inr (Or.inl ⟨rfl, rfl⟩), fun M1 th h1 => c_Mo_hasX h1 hx (fun M2 h2 => ⟨⟨h2, hI⟩, _, rfl, fun e => absurd e (by decide)⟩)⟩
  rcases slot_or z with hx | ⟨a, ha, rfl⟩
  · exact bad (Or.inl hx)
  by_cases hlet : is_let y
  · obtain ⟨v, v1, v2, rfl⟩ := let_or hlet
    exact c_LB_has h hI.hb ha (by omega) hlet ⟨0, _, sl, tp, pl, o, ⟨h, mm_on.rf _ M⟩, Or.inl ⟨rfl, ⟨_, by split <;> decide, rfl⟩, rfl⟩, fun M1 th h1 => c_Mo_has h1 ha (hI.hb a) v1 v2 (fun M2 h2 => ⟨⟨h2, hI⟩, _, rfl, fun _ => rfl⟩)⟩
  · exact bad (Or.inr hlet)
theorem fd_bs_lt (w : Int64) : ∀ n j, (fd_bs w n).getD j 0 < 256 := by
  intro n
  induction n with
  | zero => intro j; rw [fd_bs]; exact (by decide : (0 : Nat) < 256)
  | succ n ih =>
    intro j
    rw [fd_bs]
    cases j with
    | zero => exact fd_lt w n
    | succ j => exact ih j
theorem op_feed (hl : l.stackTraces = false) (h : lb_is M sl tp pl o) (hI : LI sl tp) (w : Int64) (z : Int32) : mm_Ct l sc Y_LB_feed M [.ref 0, .long w, .int z] (OPR l sc Y_Mo_feed [.long w, .int z] no_ok M sl tp pl o 1) := by
  rcases n_or z with hx | ⟨N, hN1, hN2, rfl⟩
  · exact c_LB_feedX hl hx ⟨1, 0, sl, tp, pl, o, ⟨h, mm_on.rf _ M⟩, Or.inr (Or.inl ⟨rfl, rfl⟩), fun M1 th h1 => c_Mo_feedX h1 hx (fun M2 h2 => ⟨⟨h2, hI⟩, _, rfl, fun e => absurd e (by decide)⟩)⟩
  · refine c_LB_feed hl h hN1 hN2 (fun hle M' h' hon => ?_) (fun hgt => ?_)
    · refine ⟨0, _, sl, _, pl, o, ⟨h', hon⟩, Or.inl ⟨rfl, trivial, rfl⟩, fun M1 th h1 => c_Mo_feed h1 hN1 hN2 hle (fun M2 h2 => ⟨⟨h2, hI.1, fun j => ?_⟩, _, rfl, fun _ => rfl⟩)⟩
      by_cases c : j < tp.length
      · rw [List.getD_eq_getElem?_getD, List.getElem?_append_left c, ← List.getD_eq_getElem?_getD]
        exact hI.2 j
      · rw [List.getD_eq_getElem?_getD, List.getElem?_append_right (by omega), ← List.getD_eq_getElem?_getD]
        exact fd_bs_lt w N _
    · exact ⟨2, 0, sl, tp, pl, o, ⟨h, mm_on.rf _ M⟩, Or.inr (Or.inr ⟨rfl, by decide, rfl⟩), fun M1 th h1 => c_Mo_feedE h1 hN1 hN2 hgt (fun M2 h2 => ⟨⟨h2, hI⟩, _, rfl, fun e => absurd e (by decide)⟩)⟩
theorem gr_w_go {m i : Nat} {G G' : gr_G} (h : gr_go tp m i G = .inr G') : gr_w tp m i G = .inr G'.2.2.2 := by
  unfold gr_w
  rw [h]
theorem gr_w_gl {m i j : Nat} {G : gr_G} (h : gr_go tp m i G = .inl j) : gr_w tp m i G = .inl j := by
  unfold gr_w
  rw [h]
theorem op_read (hl : l.stackTraces = false) (h : lb_is M sl tp pl o) (hI : LI sl tp) (z : Int32) : mm_Ct l sc Y_LB_read M [.ref 0, .int z] (OPR l sc Y_Mo_read [.int z] no_ok M sl tp pl o 0) := by
  have hI0 : ∀ sl', (∀ s, (sl' s).length = 0 ∨ PR 3 (sl' s)) → LI sl' [] := fun sl' h9 => ⟨h9, fun j => by rw [te_getD (Nat.zero_le _)]; decide⟩
  rcases slot_or z with hx | ⟨a, ha, rfl⟩
  · exact c_LB_readX hl h hx ⟨1, 0, sl, tp, pl, o, ⟨h, mm_on.rf _ M⟩, Or.inr (Or.inl ⟨rfl, rfl⟩), fun M1 th h1 => c_Mo_readX h1 hx (fun M2 h2 => ⟨⟨h2, hI⟩, _, rfl, fun e => absurd e (by decide)⟩)⟩
  · refine c_LB_read hl h hI.2 ha (fun am nm G hg hle M' h' hon => ?_) (fun am nm G hg hgt M' h' hon => ?_) (fun am j hg hj M' h' hon => ?_)
    · have hw := gr_w_go hg
      refine ⟨0, _, _, [], -1, o, ⟨h', hon⟩, Or.inl ⟨rfl, trivial, rfl⟩, fun M1 th h1 => c_Mo_read h1 hI.2 ha am nm (fun amF e hle2 htm M2 h2 => ?_) (fun amF e hgt2 => ?_) (fun j e => absurd (hw.symm.trans e) (by simp))⟩
      · have e9 : amF = G.2.2.2 := by
          have := e.symm.trans hw
          injection this
        subst e9
        exact ⟨⟨h2, hI0 _ (LI.up hI (Or.inr ⟨htm, hle2⟩)).1⟩, _, rfl, fun _ => rfl⟩
      · have e9 : amF = G.2.2.2 := by
          have := e.symm.trans hw
          injection this
        subst e9
        exact absurd hgt2 (by omega)
    · have hw := gr_w_go hg
      refine ⟨1, 0, sl, [], -1, o, ⟨h', hon⟩, Or.inr (Or.inl ⟨rfl, rfl⟩), fun M1 th h1 => c_Mo_read h1 hI.2 ha am nm (fun amF e hle2 => ?_) (fun amF e hgt2 M2 h2 => ⟨⟨h2, hI0 _ hI.1⟩, _, rfl, fun e => absurd e (by decide)⟩) (fun j e => absurd (hw.symm.trans e) (by simp))⟩
      have e9 : amF = G.2.2.2 := by
        have := e.symm.trans hw
        injection this
      subst e9
      exact absurd hle2 (by omega)
    · have hw := gr_w_gl hg
      refine ⟨1, 0, sl, [], nI j, o, ⟨h', hon⟩, Or.inr (Or.inl ⟨rfl, rfl⟩), fun M1 th h1 => c_Mo_read h1 hI.2 ha am (fun _ => 0) (fun amF e => absurd (hw.symm.trans e) (by simp)) (fun amF e => absurd (hw.symm.trans e) (by simp)) (fun j2 e M2 h2 => ?_)⟩
      have e9 : j2 = j := by
        have := e.symm.trans hw
        injection this
      subst e9
      exact ⟨⟨h2, hI0 _ hI.1⟩, _, rfl, fun e => absurd e (by decide)⟩
/-- copy answers nothing -/
def OPV (l : Launch) (sc : Nat × (Nat → Int32)) (Ym : mm_Y) (args : List Value) (M : mm_M) (sl : Nat → List Nat) (tp : List Nat) (pl : Int32) (o : Nat) : mm_O → mm_M → Prop := fun oc M' => ∃ (kk : Nat) (sl' : Nat → List Nat), PB M sl' tp pl o M' ∧ ((kk = 0 ∧ oc = .inl none) ∨ (kk = 1 ∧ oc = .inr 0)) ∧ ∀ M1 th, md_is M1 M1 sl tp pl o th → mm_Ct l sc Ym M1 (.ref 54 :: args) (fun oc2 M2 => PM M1 sl' tp pl o kk M2 ∧ oc2 = .inl none)
theorem op_copy (hl : l.stackTraces = false) (h : lb_is M sl tp pl o) (hI : LI sl tp) (z y : Int32) : mm_Ct l sc Y_LB_copy M [.ref 0, .int z, .int y] (OPV l sc Y_Mo_copy [.int z, .int y] M sl tp pl o) := by
  have bad : no_slot z ∨ no_slot y → mm_Ct l sc Y_LB_copy M [.ref 0, .int z, .int y] (OPV l sc Y_Mo_copy [.int z, .int y] M sl tp pl o) := fun hx => c_LB_copyX hl h hx ⟨1, sl, ⟨h, mm_on.rf _ M⟩, Or.inr ⟨rfl, rfl⟩, fun M1 th h1 => c_Mo_copyX h1 hx (fun M2 h2 => ⟨⟨h2, hI⟩, rfl⟩)⟩
  rcases slot_or z with hx | ⟨a, ha, rfl⟩
  · exact bad (Or.inl hx)
  rcases slot_or y with hx | ⟨b, hb, rfl⟩
  · exact bad (Or.inr hx)
  exact c_LB_copy h ha hb (fun M' h' hon => ⟨0, _, ⟨h', hon⟩, Or.inl ⟨rfl, rfl⟩, fun M1 th h1 => c_Mo_copy h1 ha hb (fun M2 h2 => ⟨⟨h2, hI.up (hI.1 a)⟩, rfl⟩)⟩)
end
