/-! Depths: measure and at. -/
section
variable {l : Launch} {sc : Nat × (Nat → Int32)} {M : mm_M} {Q : mm_O → mm_M → Prop} {t g d : Nat} {r : List Nat}
theorem c_De_at {dep : Nat → Int32} (h : de_is M d dep) {i : Nat} (hi : i < 2000) (hQ : Q (.inl (some (.int (dep i)))) M) : mm_Ct l sc Y_De_at M [.ref d, .int (nI i)] Q := by
  obtain ⟨w, a1, a2, a3⟩ := h
  refine mm_by k_De_at w_De_at rfl rfl ?_
  refine mg_run 1 rfl ?_
  refine mg_zlt rfl (by omega) ?_
  refine mg_run 2 rfl ?_
  refine mg_ge rfl (by omega) (by decide) (fun h => absurd h (by omega)) (fun h => ?_)
  refine mg_run 1 rfl ?_
  refine mg_get rfl rfl a1 rfl ?_
  refine mg_run 1 rfl ?_
  refine mg_ildN rfl a2 (by decide) (by omega) ?_
  refine mg_run 1 rfl ?_
  exact mg_ir rfl rfl rfl rfl hQ
theorem te_de (d1 : ¬ te_P t (d + 1)) (d2 : ¬ te_P t (d + 2)) : ¬ de_P d t ∧ ¬ de_P d (t + 1) := by
  unfold te_P at d1 d2
  unfold de_P
  omega
/-- what measure leaves: depths of the part, all else as it was -/
def de_post (dep dep' : Nat → Int32) (i : Nat) (ds : List Nat) : Prop := (∀ j, j < ds.length → dep' (i + j) = nI (ds.getD j 0)) ∧ ∀ j, (j < i ∨ i + ds.length ≤ j) → dep' j = dep j
theorem de_post_cons {dep dep' : Nat → Int32} {i x : Nat} {ds : List Nat} (h : de_post (upd dep i (nI x)) dep' (i + 1) ds) : de_post dep dep' i (x :: ds) := by
  refine ⟨fun j hj => ?_, fun j hj => ?_⟩
  · cases j with
    | zero => rw [h.2 (i + 0) (Or.inl (by omega)), Nat.add_zero, pk_us]; rfl
    | succ j =>
      have h9 := h.1 j (by simpa using hj)
      rw [show i + (j + 1) = i + 1 + j by omega, h9]; rfl
  · have hl : (x :: ds).length = ds.length + 1 := rfl
    rw [hl] at hj
    rw [h.2 j (by omega), pk_un (by omega)]
theorem lp_De_measure (hb : ∀ i, r.getD i 0 < 2 ^ 31) {x2 : Int32} : ∀ m i (st : List Nat) (x5 x6 : Option Value) (M : mm_M) (dep w : Nat → Int32), mm_c2 (some x5) = false → te_is M t r g → ¬ te_P t d → ¬ te_P t (d + 1) → ¬ te_P t (d + 2) → M[d]? = some (.inr (2, [.ref (d + 1), .ref (d + 2)])) → M[d + 1]? = some (.inl (0, 2000, .inl dep)) → M[d + 2]? = some (.inl (0, 2002, .inl w)) → sk_in w st → (∀ y ∈ st, y + (r.length - i) ≤ 10000) → r.length - i = m → i ≤ r.length → st.length + (r.length - i) ≤ 2001 →
    (∀ M' dep', de_is M' d dep' → de_post dep dep' i (te_ms (r.drop i) st) → mm_on (de_P d) M M' → Q (.inl (some (.int (nI (i + te_sc (r.drop i) st.length))))) M') →
    mm_Go l sc Y_De_measure 0 0 M [some (.ref d), some (.ref t), some (.int x2), some (.int (nI st.length)), some (.int (nI i)), x5, x6] [] 12 Q := by
  intro m
  induction m with
  | zero =>
    intro i st x5 x6 M dep w hx5 ht d0 d1 d2 a1 a2 a3 hsk hy hm hi hsz hQ
    have h4 := ht.len
    obtain ⟨f, b1, b2, b3, b4, b5⟩ := id ht
    have e : i = r.length := by omega
    subst e
    refine mg_run 2 rfl ?_
    refine mg_callV [] rfl rfl rfl b1 rfl rfl rfl rfl (c_Te_length ht ?_)
    refine mg_ge rfl (by omega) (by omega) (fun h => ?_) (fun h => absurd h (by omega))
    refine mg_run 1 rfl ?_
    refine mg_ir rfl rfl rfl rfl ?_
    rw [List.drop_length] at hQ
    exact hQ M dep ⟨w, a1, a2, a3⟩ ⟨fun j hj => absurd hj (Nat.not_lt_zero j), fun _ _ => rfl⟩ (mm_on.rf _ M)
  | succ m ih =>
    intro i st x5 x6 M dep w hx5 ht d0 d1 d2 a1 a2 a3 hsk hy hm hi hsz hQ
    have h4 := ht.len
    obtain ⟨f, b1, b2, b3, b4, b5⟩ := id ht
    refine mg_run 2 rfl ?_
    refine mg_callV [] rfl rfl rfl b1 rfl rfl rfl rfl (c_Te_length ht ?_)
    refine mg_ge rfl (by omega) (by omega) (fun h => absurd h (by omega)) (fun h9 => ?_)
    refine mg_run 1 rfl ?_
    refine mg_zle rfl (by omega) (fun h0 => ?_) (fun h0 => ?_)
    · have e : st = [] := List.length_eq_zero_iff.mp h0
      subst e
      refine mg_run 1 rfl ?_
      refine mg_ir rfl rfl rfl rfl ?_
      have e2 : te_sc (r.drop i) ([] : List Nat).length = 0 := te_sc0 _
      have e3 : te_ms (r.drop i) [] = [] := by rw [te_drop h9]; rfl
      rw [e2, e3] at hQ
      exact hQ M dep ⟨w, a1, a2, a3⟩ ⟨fun j hj => absurd hj (Nat.not_lt_zero j), fun _ _ => rfl⟩ (mm_on.rf _ M)
    · cases st with
      | nil => exact absurd h0 (by simp)
      | cons x st =>
        have hyx := hy x List.mem_cons_self
        have hsz' : st.length + 1 + (r.length - i) ≤ 2001 := hsz
        rw [te_drop h9] at hQ
        refine mg_decN (a := st.length) rfl rfl rfl ?_
        refine mg_run 1 rfl ?_
        refine mg_get rfl rfl a1 rfl ?_
        refine mg_run 1 rfl ?_
        refine mg_ildN rfl a3 (by decide) (by omega) ?_
        rw [sk_top hsk]
        refine mg_run 2 rfl ?_
        refine mg_get rfl rfl a1 rfl ?_
        refine mg_run 2 rfl ?_
        refine mg_istN rfl a2 (by decide) (by omega) ?_
        have c2 := mm_at_set (.inl (0, 2000, .inl (upd dep i (nI x)))) a2
        have c1 : (M.set (d + 1) (.inl (0, 2000, .inl (upd dep i (nI x)))))[d]? = _ := mm_at_ne (by omega) a1
        have c3 : (M.set (d + 1) (.inl (0, 2000, .inl (upd dep i (nI x)))))[d + 2]? = _ := mm_at_ne (by omega) a3
        have hon1 : mm_on (de_P d) M (M.set (d + 1) (.inl (0, 2000, .inl (upd dep i (nI x))))) := mm_on.set M _ (Or.inl rfl)
        have ht1 : te_is (M.set (d + 1) (.inl (0, 2000, .inl (upd dep i (nI x))))) t r g := ht.keep hon1 (te_de d1 d2).1 (te_de d1 d2).2
        generalize hM1 : M.set (d + 1) (.inl (0, 2000, .inl (upd dep i (nI x)))) = M1 at c1 c2 c3 hon1 ht1 ⊢
        obtain ⟨f', e1, -⟩ := id ht1
        refine mg_run 2 rfl ?_
        refine mg_callV [.int (nI i)] rfl rfl rfl e1 rfl rfl rfl rfl (c_Te_at ht1 (by omega) ?_)
        refine mg_run 3 rfl ?_
        refine mg_ne rfl (hb i) (by decide) (fun h7 => ?_) (fun h7 => ?_)
        · refine mg_run 2 rfl ?_
          refine mg_ne rfl (hb i) (by decide) (fun h6 => ?_) (fun h6 => ?_)
          · refine mg_incN rfl rfl rfl ?_
            refine mg_run 1 rfl ?_
            refine ih (i + 1) st _ _ M1 _ w rfl ht1 d0 d1 d2 c1 c2 c3 (sk_pop hsk) (fun y hy9 => by have := hy y (List.mem_cons_of_mem _ hy9); omega) (by omega) (by omega) (by omega) (fun M' dep' p1 p2 p3 => ?_)
            have q := hQ M' dep' p1 (by rw [te_ms, if_neg h7, if_neg h6]; exact de_post_cons p2) (hon1.tr p3)
            rw [List.length_cons, te_sc, if_neg h7, if_neg h6] at q
            rw [show i + 1 + te_sc (r.drop (i + 1)) st.length = i + (te_sc (r.drop (i + 1)) st.length + 1) by omega]
            exact q
          · refine mg_run 1 rfl ?_
            refine mg_get rfl rfl c1 rfl ?_
            refine mg_run 3 rfl ?_
            refine mg_addN rfl ?_
            refine mg_istN rfl c3 (by decide) (by omega) ?_
            have f3 := mm_at_set (.inl (0, 2002, .inl (upd w st.length (nI (x + 1))))) c3
            have f1 : (M1.set (d + 2) (.inl (0, 2002, .inl (upd w st.length (nI (x + 1))))))[d]? = _ := mm_at_ne (by omega) c1
            have f2 : (M1.set (d + 2) (.inl (0, 2002, .inl (upd w st.length (nI (x + 1))))))[d + 1]? = _ := mm_at_ne (by omega) c2
            have hon2 : mm_on (de_P d) M1 (M1.set (d + 2) (.inl (0, 2002, .inl (upd w st.length (nI (x + 1)))))) := mm_on.set M1 _ (Or.inr rfl)
            have ht2 := ht1.keep hon2 (te_de d1 d2).1 (te_de d1 d2).2
            refine mg_incN rfl rfl rfl ?_
            refine mg_incN rfl rfl rfl ?_
            refine mg_run 1 rfl ?_
            refine ih (i + 1) ((x + 1) :: st) _ _ _ _ _ rfl ht2 d0 d1 d2 f1 f2 f3 (sk_push (sk_pop hsk)) (fun y hy9 => by
              rcases List.mem_cons.mp hy9 with rfl | h8
              · omega
              · have := hy y (List.mem_cons_of_mem _ h8); omega) (by omega) (by omega) (by simp; omega) (fun M' dep' p1 p2 p3 => ?_)
            have q := hQ M' dep' p1 (by rw [te_ms, if_neg h7, if_pos h6]; exact de_post_cons p2) ((hon1.tr hon2).tr p3)
            rw [List.length_cons, te_sc, if_neg h7, if_pos h6] at q
            rw [List.length_cons, show i + 1 + te_sc (r.drop (i + 1)) (st.length + 1) = i + (te_sc (r.drop (i + 1)) (st.length + 1) + 1) by omega]
            exact q
        · refine mg_run 1 rfl ?_
          refine mg_get rfl rfl c1 rfl ?_
          refine mg_run 2 rfl ?_
          refine mg_istN rfl c3 (by decide) (by omega) ?_
          have f3 := mm_at_set (.inl (0, 2002, .inl (upd w st.length (nI x)))) c3
          have f1 : (M1.set (d + 2) (.inl (0, 2002, .inl (upd w st.length (nI x)))))[d]? = _ := mm_at_ne (by omega) c1
          have f2 : (M1.set (d + 2) (.inl (0, 2002, .inl (upd w st.length (nI x)))))[d + 1]? = _ := mm_at_ne (by omega) c2
          have hon2 : mm_on (de_P d) M1 (M1.set (d + 2) (.inl (0, 2002, .inl (upd w st.length (nI x))))) := mm_on.set M1 _ (Or.inr rfl)
          have ht2 := ht1.keep hon2 (te_de d1 d2).1 (te_de d1 d2).2
          generalize hM2 : M1.set (d + 2) (.inl (0, 2002, .inl (upd w st.length (nI x)))) = M2 at f1 f2 f3 hon2 ht2 ⊢
          refine mg_run 1 rfl ?_
          refine mg_get rfl rfl f1 rfl ?_
          refine mg_run 2 rfl ?_
          refine mg_addN rfl ?_
          refine mg_run 1 rfl ?_
          refine mg_istN rfl f3 (by decide) (by omega) ?_
          have k3 := mm_at_set (.inl (0, 2002, .inl (upd (upd w st.length (nI x)) (st.length + 1) (nI x)))) f3
          have k1 : (M2.set (d + 2) (.inl (0, 2002, .inl (upd (upd w st.length (nI x)) (st.length + 1) (nI x)))))[d]? = _ := mm_at_ne (by omega) f1
          have k2 : (M2.set (d + 2) (.inl (0, 2002, .inl (upd (upd w st.length (nI x)) (st.length + 1) (nI x)))))[d + 1]? = _ := mm_at_ne (by omega) f2
          have hon3 : mm_on (de_P d) M2 (M2.set (d + 2) (.inl (0, 2002, .inl (upd (upd w st.length (nI x)) (st.length + 1) (nI x))))) := mm_on.set M2 _ (Or.inr rfl)
          have ht3 := ht2.keep hon3 (te_de d1 d2).1 (te_de d1 d2).2
          refine mg_incN rfl rfl rfl ?_
          refine mg_run 1 rfl ?_
          refine mg_incN rfl rfl rfl ?_
          refine mg_run 1 rfl ?_
          refine ih (i + 1) (x :: x :: st) _ _ _ _ _ rfl ht3 d0 d1 d2 k1 k2 k3 (sk_push (st := x :: st) (sk_push (sk_pop hsk))) (fun y hy9 => by
            rcases List.mem_cons.mp hy9 with rfl | h8
            · omega
            · have := hy y h8; omega) (by omega) (by omega) (by simp; omega) (fun M' dep' p1 p2 p3 => ?_)
          have q := hQ M' dep' p1 (by rw [te_ms, if_pos h7]; exact de_post_cons p2) (((hon1.tr hon2).tr hon3).tr p3)
          rw [List.length_cons, te_sc, if_pos h7] at q
          rw [List.length_cons, List.length_cons, show i + 1 + te_sc (r.drop (i + 1)) (st.length + 1 + 1) = i + (te_sc (r.drop (i + 1)) (st.length + 1 + 1) + 1) by omega]
          exact q
theorem c_De_measure {dep : Nat → Int32} (h : de_is M d dep) (ht : te_is M t r g) (d0 : ¬ te_P t d) (d1 : ¬ te_P t (d + 1)) (d2 : ¬ te_P t (d + 2)) (hb : ∀ i, r.getD i 0 < 2 ^ 31) {i : Nat} (hi : i ≤ r.length) (hQ : ∀ M' dep', de_is M' d dep' → de_post dep dep' i (te_ms (r.drop i) [0]) → mm_on (de_P d) M M' → Q (.inl (some (.int (nI (i + te_sc (r.drop i) 1))))) M') : mm_Ct l sc Y_De_measure M [.ref d, .ref t, .int (nI i)] Q := by
  obtain ⟨w, a1, a2, a3⟩ := h
  have h4 := ht.len
  refine mm_by k_De_measure w_De_measure rfl rfl ?_
  refine mg_run 3 rfl ?_
  refine mg_get rfl rfl a1 rfl ?_
  refine mg_run 2 rfl ?_
  refine mg_istN rfl a3 (by decide) (by decide) ?_
  have c3 := mm_at_set (.inl (0, 2002, .inl (upd w 0 (nI 0)))) a3
  have c1 : (M.set (d + 2) (.inl (0, 2002, .inl (upd w 0 (nI 0)))))[d]? = _ := mm_at_ne (by omega) a1
  have c2 : (M.set (d + 2) (.inl (0, 2002, .inl (upd w 0 (nI 0)))))[d + 1]? = _ := mm_at_ne (by omega) a2
  have hon : mm_on (de_P d) M (M.set (d + 2) (.inl (0, 2002, .inl (upd w 0 (nI 0))))) := mm_on.set M _ (Or.inr rfl)
  have ht1 := ht.keep hon (te_de d1 d2).1 (te_de d1 d2).2
  refine mg_run 2 rfl ?_
  exact lp_De_measure hb _ i [0] none none _ _ _ rfl ht1 d0 d1 d2 c1 c2 c3 (sk_push (st := []) (fun j hj => absurd hj (Nat.not_lt_zero j))) (fun y hy => by rw [List.mem_singleton] at hy; subst hy; omega) rfl hi (by simp; omega) (fun M' dep' p1 p2 p3 => hQ M' dep' p1 p2 (hon.tr p3))
end
