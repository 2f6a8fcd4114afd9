/-! The reference's public methods: what they answer and leave. -/
/-- slots, tape, place, how, thrown -/
def md_is (M0 M : mm_M) (sl : Nat → List Nat) (tp : List Nat) (pl : Int32) (o th : Nat) : Prop := ∃ x A, mo_is M0 M x A ∧ st_is A sl ∧ tp_is x A tp ∧ x 3 = pl ∧ x 4 = nI o ∧ x 0 = nI th
section
variable {l : Launch} {sc : Nat × (Nat → Int32)} {M0 M : mm_M} {Q : mm_O → mm_M → Prop} {sl : Nat → List Nat} {tp : List Nat} {pl : Int32} {o th : Nat}
theorem md_fr {M' : mm_M} {x x' : Nat → Int32} {A A' : Nat → Nat → Int32} {ls la : List Nat} {sl' : Nat → List Nat} {o' t : Nat} (hT : tp_is x A tp) (h3 : x 3 = pl) (h : mo_is M0 M' x' A') (hS : st_is A' sl') (f1 : fx ls x x') (f2 : fa la A A') (n1 : 2 ∉ ls) (n2 : 0 ∉ la) (n3 : 3 ∉ ls) (e4 : x' 4 = nI o') (e0 : x' 0 = nI t) : md_is M0 M' sl' tp pl o' t := ⟨x', A', h, hS, hT.fr f1 f2 n1 n2, (f1 3 n3).trans h3, e4, e0⟩
/-- behind throwing: thrown alone is new -/
theorem md_th {M' : mm_M} {x : Nat → Int32} {A : Nat → Nat → Int32} {t : Nat} (hS : st_is A sl) (hT : tp_is x A tp) (h3 : x 3 = pl) (h4 : x 4 = nI o) (h : mo_is M0 M' (upd x 0 (nI t)) A) : md_is M0 M' sl tp pl o t := md_fr hT h3 h hS (fx.up (ls := [0]) (by decide) _ _) (fa.rf [] A) (by decide) (by decide) (by decide) ((pk_un (by decide)).trans h4) pk_us
theorem c_Mo_reduce (P : List Nat → Prop) (hP1 : ∀ r, P r → (∀ i, r.getD i 0 < 10000) ∧ (∀ i, i < r.length → ¬ r.getD i 0 = 0) ∧ cl r) (hP2 : ∀ r i, P r → te_fr r r.length 0 = some i → (te_step r i).length ≤ 2000 → P (te_step r i)) (h : md_is M0 M sl tp pl o th) {a N : Nat} (ha : a < 12) (hN1 : 1 ≤ N) (hN2 : N ≤ 400) (hn : 0 < (sl a).length) (hP : P (sl a))
    (hQ : ∀ M', md_is M0 M' (sl_up sl a (te_rn N (sl a)).1) tp pl (te_rn N (sl a)).2.2 0 → Q (.inl (some (.int (nI (te_rn N (sl a)).2.1)))) M') : mm_Ct l sc Y_Mo_reduce M [.ref 54, .int (nI a), .int (nI N)] Q := by
  obtain ⟨x, A, h1, h2, h3, h4, h5, h6⟩ := h
  obtain ⟨a1, a2, a3⟩ := h2 a ha
  have eN : (nI N).toInt = N := nI_toInt (by omega)
  have e1 : (nI 1).toInt = 1 := by decide
  have e4 : (nI 400).toInt = 400 := by decide
  refine mm_by k_Mo_reduce w_Mo_reduce rfl rfl ?_
  refine mg_run 1 rfl ?_
  refine mg_callS [.int (nI a)] rfl rfl rfl rfl rfl rfl (c_Mo_isSlot (fun _ => ?_) (fun e => absurd e (no_nI ha)))
  refine mg_zeq rfl (by decide) (fun h => absurd h (by decide)) (fun _ => ?_)
  refine mg_run 3 rfl ?_
  refine mg_callS [.int (nI N), .int (nI 1), .int (nI 400)] rfl rfl rfl rfl rfl rfl (c_Mo_in (fun _ _ => ?_) (fun e => absurd e (by omega)))
  refine mg_zne rfl (by decide) (fun _ => ?_) (fun h => absurd h (by decide))
  refine mg_run 5 rfl ?_
  refine mg_zne (a := 0) rfl (by decide) (fun h => absurd h (by decide)) (fun _ => ?_)
  refine mg_run 1 rfl ?_
  refine mg_get rfl rfl h1.2.1 rfl ?_
  refine mg_run 1 rfl ?_
  refine mr_ild 2 rfl h1 (by decide) (show a < 12 from ha) ?_
  rw [a2]
  refine mg_zne rfl (by omega) (fun _ => ?_) (fun h => absurd h (by omega))
  refine mg_run 1 rfl ?_
  refine mg_callV [.int (nI 0), .int (nI 0)] rfl rfl rfl h1.2.1 rfl rfl rfl rfl (c_Mo_throwing h1 (a := 0) (b := 0) (by decide) (by decide) (fun _ _ M1 q1 => ?_) (fun h => absurd h (by decide)) (fun _ h => absurd h (by decide)))
  refine mg_zeq rfl (by decide) (fun _ => ?_) (fun h => absurd h (by decide))
  refine mg_run 2 rfl ?_
  refine mg_callV [.int (nI a)] rfl rfl rfl q1.2.1 rfl rfl rfl rfl (c_Mo_load ha q1 h2 (fun M2 x2 A2 b1 b2 b3 b4 => ?_))
  refine mg_run 2 rfl ?_
  refine mg_callV [.int (nI N)] rfl rfl rfl b1.2.1 rfl rfl rfl rfl (c_Mo_steps P hP1 hP2 (by omega) hP b1 b4 (fun M3 q => ?_))
  obtain ⟨x3, A3, c1, c2, c3, c4, c5⟩ := q
  refine mg_run 3 rfl ?_
  have S3 : st_is A3 sl := (h2.fr b3 (by decide) (by decide)).fr c3 (by decide) (by decide)
  refine mg_callV [.int (nI a)] rfl rfl rfl c1.2.1 rfl rfl rfl rfl (c_Mo_store ha c1 c4 S3 (fun M4 A4 d1 d2 d3 => ?_))
  refine mg_run 1 rfl ?_
  refine mg_ir rfl rfl rfl rfl (hQ M4 ?_)
  have F : fx [0, 4, 8, 10, 11] x x3 := ((fx.up (by decide) _ _).tr (b2.wk (by decide))).tr (c2.wk (by decide))
  have G : fa [1, 2, 3, 4, 5, 6] A A4 := ((b3.wk (by decide)).tr (c3.wk (by decide))).tr (d2.wk (by decide))
  have e0 : x3 0 = nI 0 := by rw [c2 0 (by decide), b2 0 (by decide), pk_us]
  exact md_fr h3 h4 d1 d3 F G (by decide) (by decide) (by decide) c5 e0
/-- reduce from its look at bad on -/
theorem lp_Mo_reduceX (h : md_is M0 M sl tp pl o th) {z y : Int32} {x4 : Option Value} (hQ : ∀ M', md_is M0 M' sl tp pl o 1 → Q (.inl (some (.int (nI 0)))) M') : mm_Go l sc Y_Mo_reduce 0 0 M [some (.ref 54), some (.int z), some (.int y), some (.int (nI 1)), x4] [] 24 Q := by
  obtain ⟨x, A, h1, h2, h3, h4, h5, h6⟩ := h
  refine mg_run 3 rfl ?_
  refine mg_zne (a := 1) rfl (by decide) (fun _ => ?_) (fun h => absurd h (by decide))
  refine mg_run 1 rfl ?_
  refine mg_callV [.int (nI 1), .int (nI 0)] rfl rfl rfl h1.2.1 rfl rfl rfl rfl (c_Mo_throwing h1 (a := 1) (b := 0) (by decide) (by decide) (fun h => absurd h (by decide)) (fun _ M1 q1 => ?_) (fun h => absurd h (by decide)))
  refine mg_zeq rfl (by decide) (fun h => absurd h (by decide)) (fun _ => ?_)
  refine mg_run 1 rfl ?_
  exact mg_ir rfl rfl rfl rfl (hQ M1 (md_th h2 h3 h4 h5 q1))
theorem c_Mo_reduceX (h : md_is M0 M sl tp pl o th) {z y : Int32} (hx : no_slot z ∨ no_steps y) (hQ : ∀ M', md_is M0 M' sl tp pl o 1 → Q (.inl (some (.int (nI 0)))) M') : mm_Ct l sc Y_Mo_reduce M [.ref 54, .int z, .int y] Q := by
  have e1 : (nI 1).toInt = 1 := by decide
  have e4 : (nI 400).toInt = 400 := by decide
  refine mm_by k_Mo_reduce w_Mo_reduce rfl rfl ?_
  refine mg_run 1 rfl ?_
  refine mg_callS [.int z] rfl rfl rfl rfl rfl rfl (c_Mo_isSlot (fun e => ?_) (fun e => ?_))
  · refine mg_zeq rfl (by decide) (fun h => absurd h (by decide)) (fun _ => ?_)
    refine mg_run 3 rfl ?_
    have hy : no_steps y := hx.elim (fun h9 => absurd h9 e) id
    refine mg_callS [.int y, .int (nI 1), .int (nI 400)] rfl rfl rfl rfl rfl rfl (c_Mo_in (fun _ _ => ?_) (fun _ => ?_))
    · exfalso
      unfold no_steps at hy
      omega
    · refine mg_zne rfl (by decide) (fun h => absurd h (by decide)) (fun _ => ?_)
      refine mg_run 3 rfl ?_
      exact lp_Mo_reduceX h hQ
  · refine mg_zeq rfl (by decide) (fun _ => ?_) (fun h => absurd h (by decide))
    refine mg_run 3 rfl ?_
    exact lp_Mo_reduceX h hQ
theorem c_Mo_reduceE (h : md_is M0 M sl tp pl o th) {a N : Nat} (ha : a < 12) (hN1 : 1 ≤ N) (hN2 : N ≤ 400) (hn : (sl a).length = 0)
    (hQ : ∀ M', md_is M0 M' sl tp pl o 2 → Q (.inl (some (.int (nI 0)))) M') : mm_Ct l sc Y_Mo_reduce M [.ref 54, .int (nI a), .int (nI N)] Q := by
  obtain ⟨x, A, h1, h2, h3, h4, h5, h6⟩ := h
  obtain ⟨a1, a2, a3⟩ := h2 a ha
  have eN : (nI N).toInt = N := nI_toInt (by omega)
  have e1 : (nI 1).toInt = 1 := by decide
  have e4 : (nI 400).toInt = 400 := by decide
  refine mm_by k_Mo_reduce w_Mo_reduce rfl rfl ?_
  refine mg_run 1 rfl ?_
  refine mg_callS [.int (nI a)] rfl rfl rfl rfl rfl rfl (c_Mo_isSlot (fun _ => ?_) (fun e => absurd e (no_nI ha)))
  refine mg_zeq rfl (by decide) (fun h => absurd h (by decide)) (fun _ => ?_)
  refine mg_run 3 rfl ?_
  refine mg_callS [.int (nI N), .int (nI 1), .int (nI 400)] rfl rfl rfl rfl rfl rfl (c_Mo_in (fun _ _ => ?_) (fun e => absurd e (by omega)))
  refine mg_zne rfl (by decide) (fun _ => ?_) (fun h => absurd h (by decide))
  refine mg_run 5 rfl ?_
  refine mg_zne (a := 0) rfl (by decide) (fun h => absurd h (by decide)) (fun _ => ?_)
  refine mg_run 1 rfl ?_
  refine mg_get rfl rfl h1.2.1 rfl ?_
  refine mg_run 1 rfl ?_
  refine mr_ild 2 rfl h1 (by decide) (show a < 12 from ha) ?_
  rw [a2]
  refine mg_zne rfl (by omega) (fun h => absurd h (by omega)) (fun _ => ?_)
  refine mg_run 2 rfl ?_
  refine mg_callV [.int (nI 0), .int (nI 1)] rfl rfl rfl h1.2.1 rfl rfl rfl rfl (c_Mo_throwing h1 (a := 0) (b := 1) (by decide) (by decide) (fun _ h => absurd h (by decide)) (fun h => absurd h (by decide)) (fun _ _ M1 q1 => ?_))
  refine mg_zeq rfl (by decide) (fun h => absurd h (by decide)) (fun _ => ?_)
  refine mg_run 1 rfl ?_
  exact mg_ir rfl rfl rfl rfl (hQ M1 (md_th h2 h3 h4 h5 q1))
end
