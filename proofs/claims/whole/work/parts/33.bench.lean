/-! The bench's state. -/
def gra_is (M : mm_M) (op be st : Int32) (at1 ar : Nat → Int32) : Prop := M[30]? = some (.inr (3, [.ref 31, .ref 32, .int op, .int be, .int st])) ∧ M[31]? = some (.inl (0, 401, .inl at1)) ∧ M[32]? = some (.inl (0, 20, .inl ar))
def bu_is (M : mm_M) (kn op : Int32) (nm ar : Nat → Int32) : Prop := M[33]? = some (.inr (1, [.ref 34, .ref 35, .int kn, .int op])) ∧ M[34]? = some (.inl (0, 400, .inl nm)) ∧ M[35]? = some (.inl (0, 20, .inl ar))
def lb_slots (M : mm_M) (sl : Nat → List Nat) : Prop := ∀ s, s < 12 → ∃ g, te_is M (2 + 2 * s) (sl s) g
def lb_work (M : mm_M) : Prop := ∃ r g, te_is M 26 r g
def lb_gra (M : mm_M) : Prop := ∃ op be st at1 ar, gra_is M op be st at1 ar
def lb_bu (M : mm_M) : Prop := ∃ kn op nm ar, bu_is M kn op nm ar
def lb_dep (M : mm_M) : Prop := ∃ dep, de_is M 36 dep
def lb_red (M : mm_M) (o : Nat) : Prop := ∃ a b dep ra ga rb gb, re_is M a b o dep ∧ te_is M a ra ga ∧ te_is M b rb gb
def lb_abs (M : mm_M) : Prop := ∃ a b en us ra ga rb gb, ab_is M a b en us ∧ te_is M a ra ga ∧ te_is M b rb gb
def lb_top (M : mm_M) (pl : Int32) : Prop := M[0]? = some (.inr (7, [.ref 1, .ref 26, .ref 28, .ref 30, .ref 33, .ref 36, .ref 39, .ref 47, .int pl])) ∧ M[1]? = some (.inl (2, 12, .inr (.inr (.inr (.inr (lb_f 12))))))
/-- slots, tape, place, how -/
def lb_is (M : mm_M) (sl : Nat → List Nat) (tp : List Nat) (pl : Int32) (o : Nat) : Prop := lb_top M pl ∧ lb_slots M sl ∧ lb_work M ∧ ta_is M 28 tp ∧ lb_gra M ∧ lb_bu M ∧ lb_dep M ∧ lb_red M o ∧ lb_abs M
/-- cells from lo to hi alone are written -/
def mm_rg (lo hi : Nat) (i : Nat) : Prop := lo ≤ i ∧ i ≤ hi
theorem mm_rg_n {lo hi i : Nat} (h : i < lo ∨ hi < i) : ¬ mm_rg lo hi i := by unfold mm_rg; omega
section
variable {M M' : mm_M} {lo hi : Nat}
theorem lb_top.keep {pl : Int32} (h : lb_top M pl) (hon : mm_on (mm_rg lo hi) M M') (hd : 1 < lo) : lb_top M' pl := ⟨(hon 0 (mm_rg_n (by omega))).trans h.1, (hon 1 (mm_rg_n (by omega))).trans h.2⟩
theorem lb_slots.keep {sl : Nat → List Nat} (h : lb_slots M sl) (hon : mm_on (mm_rg lo hi) M M') (hd : 25 < lo ∨ hi < 2) : lb_slots M' sl := fun s hs => by
  obtain ⟨g, hg⟩ := h s hs
  exact ⟨g, hg.keep hon (mm_rg_n (by omega)) (mm_rg_n (by omega))⟩
theorem lb_work.keep (h : lb_work M) (hon : mm_on (mm_rg lo hi) M M') (hd : 27 < lo ∨ hi < 26) : lb_work M' := by
  obtain ⟨r, g, hg⟩ := h
  exact ⟨r, g, hg.keep hon (mm_rg_n (by omega)) (mm_rg_n (by omega))⟩
theorem ta_keep {tp : List Nat} (h : ta_is M 28 tp) (hon : mm_on (mm_rg lo hi) M M') (hd : 29 < lo ∨ hi < 28) : ta_is M' 28 tp := h.keep hon (mm_rg_n (by omega)) (mm_rg_n (by omega))
theorem lb_gra.keep (h : lb_gra M) (hon : mm_on (mm_rg lo hi) M M') (hd : 32 < lo ∨ hi < 30) : lb_gra M' := by
  obtain ⟨op, be, st, at1, ar, h1, h2, h3⟩ := h
  exact ⟨op, be, st, at1, ar, (hon 30 (mm_rg_n (by omega))).trans h1, (hon 31 (mm_rg_n (by omega))).trans h2, (hon 32 (mm_rg_n (by omega))).trans h3⟩
theorem lb_bu.keep (h : lb_bu M) (hon : mm_on (mm_rg lo hi) M M') (hd : 35 < lo ∨ hi < 33) : lb_bu M' := by
  obtain ⟨kn, op, nm, ar, h1, h2, h3⟩ := h
  exact ⟨kn, op, nm, ar, (hon 33 (mm_rg_n (by omega))).trans h1, (hon 34 (mm_rg_n (by omega))).trans h2, (hon 35 (mm_rg_n (by omega))).trans h3⟩
theorem lb_dep.keep (h : lb_dep M) (hon : mm_on (mm_rg lo hi) M M') (hd : 38 < lo ∨ hi < 36) : lb_dep M' := by
  obtain ⟨dep, h⟩ := h
  exact ⟨dep, h.keep hon (mm_rg_n (by omega)) (mm_rg_n (by omega)) (mm_rg_n (by omega))⟩
theorem lb_red.keep {o : Nat} (h : lb_red M o) (hon : mm_on (mm_rg lo hi) M M') (hd : 46 < lo ∨ hi < 39) : lb_red M' o := by
  obtain ⟨a, b, dep, ra, ga, rb, gb, ⟨h1, h2, h3⟩, h4, h5⟩ := h
  exact ⟨a, b, dep, ra, ga, rb, gb, ⟨(hon 39 (mm_rg_n (by omega))).trans h1, h2.keep hon (mm_rg_n (by omega)) (mm_rg_n (by omega)) (mm_rg_n (by omega)), h3⟩, h4.keep hon (mm_rg_n (by omega)) (mm_rg_n (by omega)), h5.keep hon (mm_rg_n (by omega)) (mm_rg_n (by omega))⟩
theorem lb_abs.keep (h : lb_abs M) (hon : mm_on (mm_rg lo hi) M M') (hd : 53 < lo ∨ hi < 47) : lb_abs M' := by
  obtain ⟨a, b, en, us, ra, ga, rb, gb, ⟨h1, h2, h3, h6⟩, h4, h5⟩ := h
  exact ⟨a, b, en, us, ra, ga, rb, gb, ⟨(hon 47 (mm_rg_n (by omega))).trans h1, (hon 48 (mm_rg_n (by omega))).trans h2, (hon 49 (mm_rg_n (by omega))).trans h3, h6⟩, h4.keep hon (mm_rg_n (by omega)) (mm_rg_n (by omega)), h5.keep hon (mm_rg_n (by omega)) (mm_rg_n (by omega))⟩
theorem mm_on.te {t : Nat} (h : mm_on (te_P t) M M') : mm_on (mm_rg t (t + 1)) M M' := h.wk (fun i h => by unfold te_P at h; unfold mm_rg; omega)
theorem lb_is.work {sl : Nat → List Nat} {tp : List Nat} {pl : Int32} {o : Nat} (h : lb_is M sl tp pl o) (hN : lb_work M') (hon : mm_on (mm_rg 26 27) M M') : lb_is M' sl tp pl o :=
  ⟨h.1.keep hon (by omega), h.2.1.keep hon (by omega), hN, ta_keep h.2.2.2.1 hon (by omega), h.2.2.2.2.1.keep hon (by omega), h.2.2.2.2.2.1.keep hon (by omega), h.2.2.2.2.2.2.1.keep hon (by omega), h.2.2.2.2.2.2.2.1.keep hon (by omega), h.2.2.2.2.2.2.2.2.keep hon (by omega)⟩
theorem lb_is.tape {sl : Nat → List Nat} {tp : List Nat} {pl : Int32} {o : Nat} (h : lb_is M sl tp pl o) {tp' : List Nat} (hN : ta_is M' 28 tp') (hon : mm_on (mm_rg 28 29) M M') : lb_is M' sl tp' pl o :=
  ⟨h.1.keep hon (by omega), h.2.1.keep hon (by omega), h.2.2.1.keep hon (by omega), hN, h.2.2.2.2.1.keep hon (by omega), h.2.2.2.2.2.1.keep hon (by omega), h.2.2.2.2.2.2.1.keep hon (by omega), h.2.2.2.2.2.2.2.1.keep hon (by omega), h.2.2.2.2.2.2.2.2.keep hon (by omega)⟩
theorem lb_is.gra {sl : Nat → List Nat} {tp : List Nat} {pl : Int32} {o : Nat} (h : lb_is M sl tp pl o) (hN : lb_gra M') (hon : mm_on (mm_rg 30 32) M M') : lb_is M' sl tp pl o :=
  ⟨h.1.keep hon (by omega), h.2.1.keep hon (by omega), h.2.2.1.keep hon (by omega), ta_keep h.2.2.2.1 hon (by omega), hN, h.2.2.2.2.2.1.keep hon (by omega), h.2.2.2.2.2.2.1.keep hon (by omega), h.2.2.2.2.2.2.2.1.keep hon (by omega), h.2.2.2.2.2.2.2.2.keep hon (by omega)⟩
theorem lb_is.bu {sl : Nat → List Nat} {tp : List Nat} {pl : Int32} {o : Nat} (h : lb_is M sl tp pl o) (hN : lb_bu M') (hon : mm_on (mm_rg 33 35) M M') : lb_is M' sl tp pl o :=
  ⟨h.1.keep hon (by omega), h.2.1.keep hon (by omega), h.2.2.1.keep hon (by omega), ta_keep h.2.2.2.1 hon (by omega), h.2.2.2.2.1.keep hon (by omega), hN, h.2.2.2.2.2.2.1.keep hon (by omega), h.2.2.2.2.2.2.2.1.keep hon (by omega), h.2.2.2.2.2.2.2.2.keep hon (by omega)⟩
theorem lb_is.dep {sl : Nat → List Nat} {tp : List Nat} {pl : Int32} {o : Nat} (h : lb_is M sl tp pl o) (hN : lb_dep M') (hon : mm_on (mm_rg 36 38) M M') : lb_is M' sl tp pl o :=
  ⟨h.1.keep hon (by omega), h.2.1.keep hon (by omega), h.2.2.1.keep hon (by omega), ta_keep h.2.2.2.1 hon (by omega), h.2.2.2.2.1.keep hon (by omega), h.2.2.2.2.2.1.keep hon (by omega), hN, h.2.2.2.2.2.2.2.1.keep hon (by omega), h.2.2.2.2.2.2.2.2.keep hon (by omega)⟩
theorem lb_is.red {sl : Nat → List Nat} {tp : List Nat} {pl : Int32} {o : Nat} (h : lb_is M sl tp pl o) {o' : Nat} (hN : lb_red M' o') (hon : mm_on (mm_rg 39 46) M M') : lb_is M' sl tp pl o' :=
  ⟨h.1.keep hon (by omega), h.2.1.keep hon (by omega), h.2.2.1.keep hon (by omega), ta_keep h.2.2.2.1 hon (by omega), h.2.2.2.2.1.keep hon (by omega), h.2.2.2.2.2.1.keep hon (by omega), h.2.2.2.2.2.2.1.keep hon (by omega), hN, h.2.2.2.2.2.2.2.2.keep hon (by omega)⟩
theorem lb_is.abs {sl : Nat → List Nat} {tp : List Nat} {pl : Int32} {o : Nat} (h : lb_is M sl tp pl o) (hN : lb_abs M') (hon : mm_on (mm_rg 47 53) M M') : lb_is M' sl tp pl o :=
  ⟨h.1.keep hon (by omega), h.2.1.keep hon (by omega), h.2.2.1.keep hon (by omega), ta_keep h.2.2.2.1 hon (by omega), h.2.2.2.2.1.keep hon (by omega), h.2.2.2.2.2.1.keep hon (by omega), h.2.2.2.2.2.2.1.keep hon (by omega), h.2.2.2.2.2.2.2.1.keep hon (by omega), hN⟩
/-- one slot's row -/
def sl_up (sl : Nat → List Nat) (s : Nat) (r : List Nat) : Nat → List Nat := fun j => if j = s then r else sl j
theorem lb_is.slot {sl : Nat → List Nat} {tp : List Nat} {pl : Int32} {o : Nat} (h : lb_is M sl tp pl o) {s g : Nat} {r : List Nat} (hs : s < 12) (hN : te_is M' (2 + 2 * s) r g) (hon : mm_on (te_P (2 + 2 * s)) M M') : lb_is M' (sl_up sl s r) tp pl o := by
  have hon2 := hon.te
  refine ⟨h.1.keep hon2 (by omega), fun j hj => ?_, h.2.2.1.keep hon2 (by omega), ta_keep h.2.2.2.1 hon2 (by omega), h.2.2.2.2.1.keep hon2 (by omega), h.2.2.2.2.2.1.keep hon2 (by omega), h.2.2.2.2.2.2.1.keep hon2 (by omega), h.2.2.2.2.2.2.2.1.keep hon2 (by omega), h.2.2.2.2.2.2.2.2.keep hon2 (by omega)⟩
  unfold sl_up
  by_cases hjs : j = s
  · rw [if_pos hjs, hjs]; exact ⟨g, hN⟩
  · rw [if_neg hjs]
    obtain ⟨g', hg⟩ := h.2.1 j hj
    exact ⟨g', hg.keep hon2 (mm_rg_n (by omega)) (mm_rg_n (by omega))⟩
theorem lb_is.place {sl : Nat → List Nat} {tp : List Nat} {pl : Int32} {o : Nat} (h : lb_is M sl tp pl o) (pl' : Int32) : lb_is (M.set 0 (.inr (7, [.ref 1, .ref 26, .ref 28, .ref 30, .ref 33, .ref 36, .ref 39, .ref 47, .int pl']))) sl tp pl' o := by
  have hon : mm_on (mm_rg 0 0) M (M.set 0 (.inr (7, [.ref 1, .ref 26, .ref 28, .ref 30, .ref 33, .ref 36, .ref 39, .ref 47, .int pl']))) := mm_on.set M _ (show mm_rg 0 0 0 by unfold mm_rg; omega)
  exact ⟨⟨mm_at_set _ h.1.1, (hon 1 (mm_rg_n (by omega))).trans h.1.2⟩, h.2.1.keep hon (by omega), h.2.2.1.keep hon (by omega), ta_keep h.2.2.2.1 hon (by omega), h.2.2.2.2.1.keep hon (by omega), h.2.2.2.2.2.1.keep hon (by omega), h.2.2.2.2.2.2.1.keep hon (by omega), h.2.2.2.2.2.2.2.1.keep hon (by omega), h.2.2.2.2.2.2.2.2.keep hon (by omega)⟩
end
theorem lb_f12 {s : Nat} (hs : s < 12) : lb_f 12 s = some (2 + 2 * s) := by
  rcases s with _ | _ | _ | _ | _ | _ | _ | _ | _ | _ | _ | _ | s
  all_goals first | rfl | omega
section
variable {l : Launch} {sc : Nat × (Nat → Int32)} {M : mm_M} {Q : mm_O → mm_M → Prop} {sl : Nat → List Nat} {tp : List Nat} {pl : Int32} {o : Nat}
theorem c_LB_requireSlot {s : Nat} (hs : s < 12) (hQ : Q (.inl none) M) : mm_Ct l sc Y_LB_requireSlot M [.ref 0, .int (nI s)] Q := by
  refine mm_by k_LB_requireSlot w_LB_requireSlot rfl rfl ?_
  refine mg_run 1 rfl ?_
  refine mg_zlt rfl (by omega) ?_
  refine mg_run 2 rfl ?_
  refine mg_lt rfl (by omega) (by decide) (fun h => ?_) (fun h => absurd h (by omega))
  exact mg_vr rfl rfl rfl rfl hQ
/-- no such slot -/
def no_slot (x : Int32) : Prop := x.toInt < 0 ∨ 12 ≤ x.toInt
theorem c_LB_requireSlotX (hl : l.stackTraces = false) {x : Int32} (hx : no_slot x) (hQ : Q (.inr 0) M) : mm_Ct l sc Y_LB_requireSlot M [.ref 0, .int x] Q := by
  refine mm_by k_LB_requireSlot w_LB_requireSlot rfl rfl ?_
  refine mg_run 1 rfl ?_
  refine mg_if rfl (fun h => ?_) (fun h => ?_)
  · exact mg_throw mm_xs4 rfl rfl rfl rfl rfl rfl rfl hl hQ
  · refine mg_run 2 rfl ?_
    refine mg_icmp rfl (fun h2 => ?_) (fun h2 => ?_)
    · exfalso
      have h3 : ¬ x.toInt < 0 := fun h9 => h ((i32_neg x).mpr h9)
      have h4 := (i32_lt x (n := 12) (by decide)).mp h2
      unfold no_slot at hx
      omega
    · exact mg_throw mm_xs4 rfl rfl rfl rfl rfl rfl rfl hl hQ
theorem slot_or (x : Int32) : no_slot x ∨ ∃ s, s < 12 ∧ x = nI s := by
  by_cases h : no_slot x
  · exact Or.inl h
  · unfold no_slot at h
    obtain ⟨j, h1, h2, h3⟩ := i32_nat (x := x) (by omega)
    exact Or.inr ⟨j, by omega, h2⟩
theorem c_LB_requireLetter {x : Int32} (hx : is_let x) (hQ : Q (.inl none) M) : mm_Ct l sc Y_LB_requireLetter M [.ref 0, .int x] Q := by
  refine mm_by k_LB_requireLetter w_LB_requireLetter rfl rfl ?_
  refine mg_run 1 rfl ?_
  refine mg_callS [.int x] rfl rfl rfl rfl rfl rfl (c_LB_isLetter (fun _ => ?_) (fun h => absurd hx h))
  refine mg_zne rfl (by decide) (fun h => ?_) (fun h => absurd h (by decide))
  exact mg_vr rfl rfl rfl rfl hQ
theorem c_LB_requireLetterX (hl : l.stackTraces = false) {x : Int32} (hx : ¬ is_let x) (hQ : Q (.inr 0) M) : mm_Ct l sc Y_LB_requireLetter M [.ref 0, .int x] Q := by
  refine mm_by k_LB_requireLetter w_LB_requireLetter rfl rfl ?_
  refine mg_run 1 rfl ?_
  refine mg_callS [.int x] rfl rfl rfl rfl rfl rfl (c_LB_isLetter (fun h => absurd h hx) (fun _ => ?_))
  refine mg_zne rfl (by decide) (fun h => absurd h (by decide)) (fun h => ?_)
  exact mg_throw mm_xs9 rfl rfl rfl rfl rfl rfl rfl hl hQ
def no_steps (x : Int32) : Prop := x.toInt < 1 ∨ 400 < x.toInt
theorem steps_or (x : Int32) : no_steps x ∨ ∃ s, 1 ≤ s ∧ s ≤ 400 ∧ x = nI s := by
  by_cases h : no_steps x
  · exact Or.inl h
  · unfold no_steps at h
    obtain ⟨j, h1, h2, h3⟩ := i32_nat (x := x) (by omega)
    exact Or.inr ⟨j, by omega, by omega, h2⟩
theorem c_LB_requireSteps {s : Nat} (h1 : 1 ≤ s) (h2 : s ≤ 400) (hQ : Q (.inl none) M) : mm_Ct l sc Y_LB_requireSteps M [.ref 0, .int (nI s)] Q := by
  refine mm_by k_LB_requireSteps w_LB_requireSteps rfl rfl ?_
  refine mg_run 2 rfl ?_
  refine mg_lt rfl (by omega) (by decide) (fun h => absurd h (by omega)) (fun h => ?_)
  refine mg_run 2 rfl ?_
  refine mg_le rfl (by omega) (by decide) (fun h => ?_) (fun h => absurd h (by omega))
  exact mg_vr rfl rfl rfl rfl hQ
theorem c_LB_requireStepsX (hl : l.stackTraces = false) {x : Int32} (hx : no_steps x) (hQ : Q (.inr 0) M) : mm_Ct l sc Y_LB_requireSteps M [.ref 0, .int x] Q := by
  refine mm_by k_LB_requireSteps w_LB_requireSteps rfl rfl ?_
  refine mg_run 2 rfl ?_
  refine mg_icmp rfl (fun h => ?_) (fun h => ?_)
  · exact mg_throw mm_xs10 rfl rfl rfl rfl rfl rfl rfl hl hQ
  · refine mg_run 2 rfl ?_
    refine mg_icmp rfl (fun h2 => ?_) (fun h2 => ?_)
    · exfalso
      have h3 : ¬ x.toInt < 1 := fun h9 => h ((i32_lt x (n := 1) (by decide)).mpr h9)
      have h4 := (i32_le x (n := 400) (by decide)).mp h2
      unfold no_steps at hx
      omega
    · exact mg_throw mm_xs10 rfl rfl rfl rfl rfl rfl rfl hl hQ
theorem c_LB_requireTerm (h : lb_is M sl tp pl o) {s : Nat} (hs : s < 12) (hn : 0 < (sl s).length) (hQ : Q (.inl none) M) : mm_Ct l sc Y_LB_requireTerm M [.ref 0, .int (nI s)] Q := by
  obtain ⟨g, hg⟩ := h.2.1 s hs
  have hlen := hg.len
  obtain ⟨f, t1, -⟩ := id hg
  refine mm_by k_LB_requireTerm w_LB_requireTerm rfl rfl ?_
  refine mg_run 1 rfl ?_
  refine mg_get rfl rfl h.1.1 rfl ?_
  refine mg_run 1 rfl ?_
  refine mg_aldN rfl h.1.2 (by decide) hs (lb_f12 hs) ?_
  refine mg_callV [] rfl rfl rfl t1 rfl rfl rfl rfl (c_Te_length hg ?_)
  refine mg_zne rfl (by omega) (fun h => ?_) (fun h => absurd h (by omega))
  exact mg_vr rfl rfl rfl rfl hQ
theorem c_LB_requireTermX (hl : l.stackTraces = false) (h : lb_is M sl tp pl o) {s : Nat} (hs : s < 12) (hn : (sl s).length = 0) (hQ : Q (.inr 1) M) : mm_Ct l sc Y_LB_requireTerm M [.ref 0, .int (nI s)] Q := by
  obtain ⟨g, hg⟩ := h.2.1 s hs
  have hlen := hg.len
  obtain ⟨f, t1, -⟩ := id hg
  refine mm_by k_LB_requireTerm w_LB_requireTerm rfl rfl ?_
  refine mg_run 1 rfl ?_
  refine mg_get rfl rfl h.1.1 rfl ?_
  refine mg_run 1 rfl ?_
  refine mg_aldN rfl h.1.2 (by decide) hs (lb_f12 hs) ?_
  refine mg_callV [] rfl rfl rfl t1 rfl rfl rfl rfl (c_Te_length hg ?_)
  refine mg_zne rfl (by omega) (fun h => absurd h (by omega)) (fun h => ?_)
  exact mg_throw mm_xs7 rfl rfl rfl rfl rfl rfl rfl hl hQ
theorem c_LB_place (h : lb_is M sl tp pl o) (hQ : Q (.inl (some (.int pl))) M) : mm_Ct l sc Y_LB_place M [.ref 0] Q := by
  refine mm_by k_LB_place w_LB_place rfl rfl ?_
  refine mg_run 1 rfl ?_
  refine mg_get rfl rfl h.1.1 rfl ?_
  exact mg_ir rfl rfl rfl rfl hQ
theorem c_LB_how (h : lb_is M sl tp pl o) (hQ : Q (.inl (some (.int (nI o)))) M) : mm_Ct l sc Y_LB_how M [.ref 0] Q := by
  obtain ⟨a, b, dep, ra, ga, rb, gb, h1, h2, h3⟩ := h.2.2.2.2.2.2.2.1
  refine mm_by k_LB_how w_LB_how rfl rfl ?_
  refine mg_run 1 rfl ?_
  refine mg_get rfl rfl h.1.1 rfl ?_
  refine mg_callV [] rfl rfl rfl h1.1 rfl rfl rfl rfl (c_Re_outcome h1 ?_)
  exact mg_ir rfl rfl rfl rfl hQ
theorem c_LB_size (h : lb_is M sl tp pl o) {s : Nat} (hs : s < 12) (hQ : Q (.inl (some (.int (nI (sl s).length)))) M) : mm_Ct l sc Y_LB_size M [.ref 0, .int (nI s)] Q := by
  obtain ⟨g, hg⟩ := h.2.1 s hs
  obtain ⟨f, t1, -⟩ := id hg
  refine mm_by k_LB_size w_LB_size rfl rfl ?_
  refine mg_run 2 rfl ?_
  refine mg_callV [.int (nI s)] rfl rfl rfl h.1.1 rfl rfl rfl rfl (c_LB_requireSlot hs ?_)
  refine mg_run 1 rfl ?_
  refine mg_get rfl rfl h.1.1 rfl ?_
  refine mg_run 1 rfl ?_
  refine mg_aldN rfl h.1.2 (by decide) hs (lb_f12 hs) ?_
  refine mg_callV [] rfl rfl rfl t1 rfl rfl rfl rfl (c_Te_length hg ?_)
  exact mg_ir rfl rfl rfl rfl hQ
theorem c_LB_sizeX (hl : l.stackTraces = false) (h : lb_is M sl tp pl o) {x : Int32} (hx : no_slot x) (hQ : Q (.inr 0) M) : mm_Ct l sc Y_LB_size M [.ref 0, .int x] Q := by
  refine mm_by k_LB_size w_LB_size rfl rfl ?_
  refine mg_run 2 rfl ?_
  exact mg_callV [.int x] rfl rfl rfl h.1.1 rfl rfl rfl rfl (c_LB_requireSlotX hl hx hQ)
end
