/-! The reducer: whole steps and runs. -/
section
variable {l : Launch} {sc : Nat × (Nat → Int32)} {Q : mm_O → mm_M → Prop} {a b o ga : Nat} {r : List Nat} {dep : Nat → Int32} {M : mm_M} {bf : List Nat × Nat}
theorem te_end_le {r : List Nat} {i : Nat} (hi : ¬ te_rh r i = 0) : te_end r i ≤ r.length := by
  obtain ⟨k0, k1, k2, k3⟩ := te_rh_len hi
  unfold te_end
  split
  · exact te_en_le (te_en_le (by omega))
  · split
    · next h => exact te_en_le (te_en_le (te_en_le (by have := k3 h; omega)))
    · split
      · next h => exact te_en_le (te_en_le (by have := k2 h; omega))
      · exact te_en_le (by omega)
theorem c_Re_writeStep (hb : ∀ i, r.getD i 0 < 10000) {i : Nat} (hi : ¬ te_rh r i = 0) (hR : re_is M a b o dep) (hA : te_is M a r ga) (hB : te_is M b bf.1 bf.2)
    (hQ : ∀ M' bf' dep', re_is M' a b o dep' → te_is M' a r ga → te_is M' b bf'.1 bf'.2 → wr bf' (te_step r i) → mm_on (re_P b) M M' → Q (.inl none) M') : mm_Ct l sc Y_Re_writeStep M [.ref 39, .int (nI i)] Q := by
  have h4 := hA.len
  obtain ⟨k0, k1, k2, k3⟩ := te_rh_len hi
  have hen := te_end_le hi
  obtain ⟨r1, r2, r3⟩ := id hR
  obtain ⟨⟨s1, s2, s3, s4⟩, s5, s6, s7, s8, s9⟩ := re_sep r3
  obtain ⟨fb, b1, -⟩ := id hB
  refine mm_by k_Re_writeStep w_Re_writeStep rfl rfl ?_
  refine mg_run 1 rfl ?_
  refine mg_get rfl rfl r1 rfl ?_
  refine mg_callV [] rfl rfl rfl b1 rfl rfl rfl rfl (c_Te_clear hB (fun M1 p1 p2 => ?_))
  have R1 := hR.keep p2
  have A1 := hA.keep p2 s5.1 s5.2
  obtain ⟨fb1, c1, -⟩ := id p1
  refine mg_run 1 rfl ?_
  refine mg_get rfl rfl R1.1 rfl ?_
  refine mg_run 1 rfl ?_
  refine mg_get rfl rfl R1.1 rfl ?_
  refine mg_run 2 rfl ?_
  refine mg_callV [.ref a, .int (nI 0), .int (nI i)] rfl rfl rfl c1 rfl rfl rfl rfl (c_Te_addPart p1 A1 s5 (Nat.zero_le _) (by omega) (fun M2 q1 q2 => ?_))
  have w2 := wr0.adds ((r.drop 0).take (i - 0))
  have R2 := R1.keep q2
  have A2 := A1.keep q2 s5.1 s5.2
  refine mg_run 2 rfl ?_
  refine mg_callV [.int (nI i)] rfl rfl rfl R2.1 rfl rfl rfl rfl (c_Re_writeReplacement hb hi R2 A2 q1 w2 (fun M3 bf3 dep3 u1 u2 u3 u4 => ?_))
  have A3 := A2.keep u4 (fun h => by rcases h with h | h; exact s5.1 h; exact s8.2.1 h) (fun h => by rcases h with h | h; exact s5.2 h; exact s8.2.2.1 h)
  obtain ⟨fa3, d1, -⟩ := id A3
  obtain ⟨fb3, d2, -⟩ := id u2
  refine mg_run 2 rfl ?_
  refine mg_get rfl rfl u1.1 rfl ?_
  refine mg_run 1 rfl ?_
  refine mg_get rfl rfl u1.1 rfl ?_
  refine mg_run 2 rfl ?_
  refine mg_get rfl rfl u1.1 rfl ?_
  refine mg_callV [] rfl rfl rfl d1 rfl rfl rfl rfl (c_Te_length A3 ?_)
  refine mg_callV [.ref a, .int (nI (te_end r i)), .int (nI r.length)] rfl rfl rfl d2 rfl rfl rfl rfl (c_Te_addPart u2 A3 s5 hen (Nat.le_refl _) (fun M4 v1 v2 => ?_))
  have w4 := u3.adds ((r.drop (te_end r i)).take (r.length - te_end r i))
  refine mg_vr rfl rfl rfl rfl ?_
  refine hQ M4 _ dep3 (u1.keep v2) (A3.keep v2 s5.1 s5.2) v1 ?_ ((((p2.wk (fun i h => Or.inl h)).tr (q2.wk (fun i h => Or.inl h))).tr u4).tr (v2.wk (fun i h => Or.inl h)))
  have e9 : te_step r i = [] ++ (r.drop 0).take (i - 0) ++ te_out r i ++ (r.drop (te_end r i)).take (r.length - te_end r i) := by
    unfold te_step
    rw [List.drop_zero, Nat.sub_zero, List.nil_append, List.take_of_length_le (l := r.drop (te_end r i)) (by rw [List.length_drop]; omega)]
  rw [e9]
  exact w4
/-- n steps at most: the row, the steps done, how it ended -/
def te_rn : Nat → List Nat → List Nat × Nat × Nat
  | 0, r => (r, 0, if te_fr r r.length 0 = none then 1 else 2)
  | n + 1, r => match te_fr r r.length 0 with
    | none => (r, 0, 1)
    | some i => if (te_step r i).length ≤ 2000 then ((te_rn n (te_step r i)).1, (te_rn n (te_step r i)).2.1 + 1, (te_rn n (te_step r i)).2.2) else (r, 0, 3)
theorem te_fr_some {r : List Nat} : ∀ m i j, te_fr r m i = some j → ¬ te_rh r j = 0 ∧ i ≤ j ∧ j < i + m := by
  intro m
  induction m with
  | zero => intro i j h; cases h
  | succ m ih =>
    intro i j h
    unfold te_fr at h
    split at h
    · obtain ⟨h1, h2, h3⟩ := ih (i + 1) j h
      exact ⟨h1, by omega, by omega⟩
    · next h9 => cases h; exact ⟨h9, Nat.le_refl _, by omega⟩
theorem mg_neM {Y : mm_Y} {k n : Nat} {L : mm_L} {S : List Value} {pc : Nat} {off : Int} {nx tg : Nat} {v : Int32} {x : Option Nat} (hq : mm_at (mm_tab Y) pc = some (.if_icmp .ne off, nx, tg, v)) (hx : ∀ i, x = some i → i < 2 ^ 31) (kt : (∃ i, x = some i) → mm_Go l sc Y k n M L S tg Q) (kf : x = none → mm_Go l sc Y k n M L S nx Q) : mm_Go l sc Y k n M L (.int (-1) :: .int (te_fv x) :: S) pc Q := by
  refine mg_icmp hq (fun h => ?_) (fun h => ?_)
  · cases x with
    | none => exact absurd rfl h
    | some i => exact kt ⟨i, rfl⟩
  · cases x with
    | none => exact kf rfl
    | some i =>
      exfalso
      refine h (fun h9 => ?_)
      have h8 : (nI i).toInt = (-1 : Int32).toInt := by rw [show nI i = -1 from h9]
      rw [nI_toInt (hx i rfl)] at h8
      have h7 : (-1 : Int32).toInt = -1 := by decide
      omega
def rr_P (i : Nat) : Prop := 39 ≤ i ∧ i ≤ 46
theorem re_rr {b : Nat} (h : b = 43 ∨ b = 45) {i : Nat} (h2 : re_P b i) : rr_P i := by
  unfold re_P te_P de_P at h2
  unfold rr_P
  omega
theorem lp_Re_run (P : List Nat → Prop) (hP1 : ∀ r, P r → ∀ i, r.getD i 0 < 10000) (hP2 : ∀ r i, P r → te_fr r r.length 0 = some i → (te_step r i).length ≤ 2000 → P (te_step r i)) {x1 : Nat} {N : Nat} (hN : N ≤ 100000) : ∀ m d a b (r : List Nat) (ga : Nat) (x4 x5 : Option Value) (M : mm_M) (bf : List Nat × Nat) (dep : Nat → Int32), mm_c2 (some x4) = false → P r → re_is M a b o dep → te_is M a r ga → te_is M b bf.1 bf.2 → N - d = m → d ≤ N →
    (∀ (M' : mm_M) (a' b' : Nat) (dep' : Nat → Int32) (ga' : Nat) (bf' : List Nat × Nat), re_is M' a' b' (te_rn m r).2.2 dep' → te_is M' a' (te_rn m r).1 ga' → te_is M' b' bf'.1 bf'.2 → mm_on rr_P M M' → Q (.inl (some (.int (nI (d + (te_rn m r).2.1))))) M') →
    mm_Go l sc Y_Re_run 0 0 M [some (.ref 39), some (.ref x1), some (.int (nI N)), some (.int (nI d)), x4, x5] [] 10 Q := by
  intro m
  induction m with
  | zero =>
    intro d a b r ga x4 x5 M bf dep hx4 hPr hR hA hB hm hd hQ
    have h4 := hA.len
    have hb31 : ∀ i, r.getD i 0 < 2 ^ 31 := fun i => Nat.lt_trans (hP1 r hPr i) (by decide)
    have hfl : ∀ i, te_fr r r.length 0 = some i → i < 2 ^ 31 := fun i h => by have := (te_fr_some _ _ _ h).2.2; omega
    obtain ⟨r1, r2, r3⟩ := id hR
    obtain ⟨⟨s1, s2, s3, s4⟩, s5, s6, s7, s8, s9⟩ := re_sep r3
    obtain ⟨fa, a1, -⟩ := id hA
    refine mg_run 2 rfl ?_
    refine mg_ge rfl (by omega) (by omega) (fun h => ?_) (fun h => absurd h (by omega))
    have e : d = N := by omega
    subst e
    refine mg_run 2 rfl ?_
    refine mg_get rfl rfl r1 rfl ?_
    refine mg_callV [] rfl rfl rfl a1 rfl rfl rfl rfl (c_Te_firstRedex hA hb31 ?_)
    refine mg_run 1 rfl ?_
    have hon : ∀ v, mm_on rr_P M (M.set 39 (.inr (4, [.ref 40, .ref a, .ref b, .int v]))) := fun v => mm_on.set M _ (show rr_P 39 by unfold rr_P; omega)
    refine mg_neM rfl hfl (fun hs => ?_) (fun hs => ?_)
    · refine mg_run 1 rfl ?_
      refine mg_put rfl rfl r1 rfl rfl ?_
      refine mg_run 1 rfl ?_
      refine mg_ir rfl rfl rfl rfl ?_
      obtain ⟨j, hj⟩ := hs
      have e2 : te_rn 0 r = (r, 0, 2) := by unfold te_rn; rw [if_neg (by rw [hj]; simp)]
      rw [e2] at hQ
      have hon1 : mm_on (fun i => i = 39) M (M.set 39 (.inr (4, [.ref 40, .ref a, .ref b, .int (nI 2)]))) := mm_on.set M _ rfl
      exact hQ _ a b dep ga bf ⟨mm_at_set _ r1, r2.keep hon1 (by decide) (by decide) (by decide), r3⟩ (hA.keep hon1 (by rcases r3 with ⟨rfl, rfl⟩ | ⟨rfl, rfl⟩ <;> decide) (by rcases r3 with ⟨rfl, rfl⟩ | ⟨rfl, rfl⟩ <;> decide)) (hB.keep hon1 (by rcases r3 with ⟨rfl, rfl⟩ | ⟨rfl, rfl⟩ <;> decide) (by rcases r3 with ⟨rfl, rfl⟩ | ⟨rfl, rfl⟩ <;> decide)) (hon _)
    · refine mg_run 2 rfl ?_
      refine mg_put rfl rfl r1 rfl rfl ?_
      refine mg_run 1 rfl ?_
      refine mg_ir rfl rfl rfl rfl ?_
      have e2 : te_rn 0 r = (r, 0, 1) := by unfold te_rn; rw [if_pos hs]
      rw [e2] at hQ
      have hon1 : mm_on (fun i => i = 39) M (M.set 39 (.inr (4, [.ref 40, .ref a, .ref b, .int (nI 1)]))) := mm_on.set M _ rfl
      exact hQ _ a b dep ga bf ⟨mm_at_set _ r1, r2.keep hon1 (by decide) (by decide) (by decide), r3⟩ (hA.keep hon1 (by rcases r3 with ⟨rfl, rfl⟩ | ⟨rfl, rfl⟩ <;> decide) (by rcases r3 with ⟨rfl, rfl⟩ | ⟨rfl, rfl⟩ <;> decide)) (hB.keep hon1 (by rcases r3 with ⟨rfl, rfl⟩ | ⟨rfl, rfl⟩ <;> decide) (by rcases r3 with ⟨rfl, rfl⟩ | ⟨rfl, rfl⟩ <;> decide)) (hon _)
  | succ m ih =>
    intro d a b r ga x4 x5 M bf dep hx4 hPr hR hA hB hm hd hQ
    have h4 := hA.len
    have hb31 : ∀ i, r.getD i 0 < 2 ^ 31 := fun i => Nat.lt_trans (hP1 r hPr i) (by decide)
    have hfl : ∀ i, te_fr r r.length 0 = some i → i < 2 ^ 31 := fun i h => by have := (te_fr_some _ _ _ h).2.2; omega
    obtain ⟨r1, r2, r3⟩ := id hR
    obtain ⟨⟨s1, s2, s3, s4⟩, s5, s6, s7, s8, s9⟩ := re_sep r3
    obtain ⟨fa, a1, -⟩ := id hA
    refine mg_run 2 rfl ?_
    refine mg_ge rfl (by omega) (by omega) (fun h => absurd h (by omega)) (fun h => ?_)
    refine mg_run 1 rfl ?_
    refine mg_get rfl rfl r1 rfl ?_
    refine mg_callV [] rfl rfl rfl a1 rfl rfl rfl rfl (c_Te_firstRedex hA hb31 ?_)
    refine mg_run 3 rfl ?_
    refine mg_neM rfl hfl (fun hs => ?_) (fun hs => ?_)
    · obtain ⟨j, hj⟩ := hs
      obtain ⟨j1, j2, j3⟩ := te_fr_some _ _ _ hj
      rw [hj]
      refine mg_run 2 rfl ?_
      refine mg_callV [.int (nI j)] rfl rfl rfl r1 rfl rfl rfl rfl (c_Re_writeStep (hP1 r hPr) j1 hR hA hB (fun M1 bf1 dep1 p1 p2 p3 p4 p5 => ?_))
      obtain ⟨fb1, c1, c2, c3, c4, c5⟩ := id p3
      have hon : mm_on rr_P M M1 := p5.wk (fun i h => re_rr (by rcases r3 with ⟨-, rfl⟩ | ⟨-, rfl⟩ <;> omega) h)
      refine mg_run 1 rfl ?_
      refine mg_get rfl rfl p1.1 rfl ?_
      refine mg_callV [] rfl rfl rfl c1 rfl rfl rfl rfl (c_Te_isTooGreat p3 ?_)
      refine mg_zeq rfl (by omega) (fun h0 => ?_) (fun h0 => ?_)
      · obtain ⟨g1, g2⟩ := p4.ok h0
        rw [g2] at p3
        refine mg_run 1 rfl ?_
        refine mg_get rfl rfl p1.1 rfl ?_
        refine mg_run 3 rfl ?_
        refine mg_get rfl rfl p1.1 rfl ?_
        refine mg_put rfl rfl p1.1 rfl rfl ?_
        have f1 := mm_at_set (.inr (4, [.ref 40, .ref b, .ref b, .int (nI o)])) p1.1
        refine mg_run 2 rfl ?_
        refine mg_put rfl rfl f1 rfl rfl ?_
        have f2 := mm_at_set (.inr (4, [.ref 40, .ref b, .ref a, .int (nI o)])) f1
        have hon1 : mm_on (fun i => i = 39) M1 ((M1.set 39 (.inr (4, [.ref 40, .ref b, .ref b, .int (nI o)]))).set 39 (.inr (4, [.ref 40, .ref b, .ref a, .int (nI o)]))) := mm_on.tr (P := fun i => i = 39) (mm_on.set M1 _ rfl) (mm_on.set _ _ rfl)
        refine mg_incN rfl rfl rfl ?_
        refine mg_run 1 rfl ?_
        refine ih (d + 1) b a (te_step r j) 0 _ _ _ (r, ga) dep1 rfl (hP2 r j hPr hj g1) ⟨f2, p1.2.1.keep hon1 (by decide) (by decide) (by decide), by rcases r3 with ⟨h1, h2⟩ | ⟨h1, h2⟩ <;> omega⟩ (p3.keep hon1 (by rcases r3 with ⟨rfl, rfl⟩ | ⟨rfl, rfl⟩ <;> decide) (by rcases r3 with ⟨rfl, rfl⟩ | ⟨rfl, rfl⟩ <;> decide)) (p2.keep hon1 (by rcases r3 with ⟨rfl, rfl⟩ | ⟨rfl, rfl⟩ <;> decide) (by rcases r3 with ⟨rfl, rfl⟩ | ⟨rfl, rfl⟩ <;> decide)) (by omega) (by omega) (fun M' a' b' dep' ga' bf' q1 q2 q3 q4 => ?_)
        have e2 : te_rn (m + 1) r = ((te_rn m (te_step r j)).1, (te_rn m (te_step r j)).2.1 + 1, (te_rn m (te_step r j)).2.2) := by
          rw [te_rn, hj]
          exact if_pos g1
        rw [e2] at hQ
        have q := hQ M' a' b' dep' ga' bf' q1 q2 q3 ((hon.tr (hon1.wk (fun i h => by subst h; unfold rr_P; omega))).tr q4)
        rw [show d + 1 + (te_rn m (te_step r j)).2.1 = d + ((te_rn m (te_step r j)).2.1 + 1) by omega]
        exact q
      · have g1 := p4.not h0
        refine mg_run 2 rfl ?_
        refine mg_put rfl rfl p1.1 rfl rfl ?_
        refine mg_run 1 rfl ?_
        refine mg_ir rfl rfl rfl rfl ?_
        have e2 : te_rn (m + 1) r = (r, 0, 3) := by
          rw [te_rn, hj]
          exact if_neg (by omega)
        rw [e2] at hQ
        have hon1 : mm_on (fun i => i = 39) M1 (M1.set 39 (.inr (4, [.ref 40, .ref a, .ref b, .int (nI 3)]))) := mm_on.set M1 _ rfl
        exact hQ _ a b dep1 ga bf1 ⟨mm_at_set _ p1.1, p1.2.1.keep hon1 (by decide) (by decide) (by decide), r3⟩ (p2.keep hon1 (by rcases r3 with ⟨rfl, rfl⟩ | ⟨rfl, rfl⟩ <;> decide) (by rcases r3 with ⟨rfl, rfl⟩ | ⟨rfl, rfl⟩ <;> decide)) (p3.keep hon1 (by rcases r3 with ⟨rfl, rfl⟩ | ⟨rfl, rfl⟩ <;> decide) (by rcases r3 with ⟨rfl, rfl⟩ | ⟨rfl, rfl⟩ <;> decide)) (hon.tr (hon1.wk (fun i h => by subst h; unfold rr_P; omega)))
    · refine mg_run 2 rfl ?_
      refine mg_put rfl rfl r1 rfl rfl ?_
      refine mg_run 1 rfl ?_
      refine mg_ir rfl rfl rfl rfl ?_
      have e2 : te_rn (m + 1) r = (r, 0, 1) := by rw [te_rn, hs]
      rw [e2] at hQ
      have hon1 : mm_on (fun i => i = 39) M (M.set 39 (.inr (4, [.ref 40, .ref a, .ref b, .int (nI 1)]))) := mm_on.set M _ rfl
      exact hQ _ a b dep ga bf ⟨mm_at_set _ r1, r2.keep hon1 (by decide) (by decide) (by decide), r3⟩ (hA.keep hon1 (by rcases r3 with ⟨rfl, rfl⟩ | ⟨rfl, rfl⟩ <;> decide) (by rcases r3 with ⟨rfl, rfl⟩ | ⟨rfl, rfl⟩ <;> decide)) (hB.keep hon1 (by rcases r3 with ⟨rfl, rfl⟩ | ⟨rfl, rfl⟩ <;> decide) (by rcases r3 with ⟨rfl, rfl⟩ | ⟨rfl, rfl⟩ <;> decide)) (hon1.wk (fun i h => by subst h; unfold rr_P; omega))
theorem c_Re_run (P : List Nat → Prop) (hP1 : ∀ r, P r → ∀ i, r.getD i 0 < 10000) (hP2 : ∀ r i, P r → te_fr r r.length 0 = some i → (te_step r i).length ≤ 2000 → P (te_step r i)) {t gt N : Nat} {r0 : List Nat} (hN : N ≤ 100000) (hPr : P r) (hR : re_is M a b o dep) (hA : te_is M a r0 ga) (hB : te_is M b bf.1 bf.2) (hT : te_is M t r gt) (hap : te_ap a t)
    (hQ : ∀ (M' : mm_M) (a' b' : Nat) (dep' : Nat → Int32) (ga' : Nat) (bf' : List Nat × Nat), re_is M' a' b' (te_rn N r).2.2 dep' → te_is M' a' (te_rn N r).1 ga' → te_is M' b' bf'.1 bf'.2 → mm_on rr_P M M' → Q (.inl (some (.int (nI (te_rn N r).2.1)))) M') : mm_Ct l sc Y_Re_run M [.ref 39, .ref t, .int (nI N)] Q := by
  obtain ⟨r1, r2, r3⟩ := id hR
  obtain ⟨⟨s1, s2, s3, s4⟩, s5, s6, s7, s8, s9⟩ := re_sep r3
  obtain ⟨fa, a1, -⟩ := id hA
  refine mm_by k_Re_run w_Re_run rfl rfl ?_
  refine mg_run 1 rfl ?_
  refine mg_get rfl rfl r1 rfl ?_
  refine mg_run 1 rfl ?_
  refine mg_callV [.ref t] rfl rfl rfl a1 rfl rfl rfl rfl (c_Te_become hA hT hap (fun M1 p1 p2 => ?_))
  refine mg_run 2 rfl ?_
  refine lp_Re_run P hP1 hP2 hN N 0 a b r 0 none none M1 bf dep rfl hPr ⟨(p2 39 s9).trans r1, r2.keep p2 s7.1 s7.2.1 s7.2.2, r3⟩ p1 (hB.keep p2 s6.1 s6.2) (by omega) (Nat.zero_le _) (fun M' a' b' dep' ga' bf' q1 q2 q3 q4 => ?_)
  have q := hQ M' a' b' dep' ga' bf' q1 q2 q3 ((p2.wk (fun i h => by unfold te_P at h; unfold rr_P; rcases r3 with ⟨h1, h2⟩ | ⟨h1, h2⟩ <;> omega)).tr q4)
  rw [Nat.zero_add]
  exact q
theorem c_Re_outcome (hR : re_is M a b o dep) (hQ : Q (.inl (some (.int (nI o)))) M) : mm_Ct l sc Y_Re_outcome M [.ref 39] Q := by
  refine mm_by k_Re_outcome w_Re_outcome rfl rfl ?_
  refine mg_run 1 rfl ?_
  refine mg_get rfl rfl hR.1 rfl ?_
  exact mg_ir rfl rfl rfl rfl hQ
theorem c_Re_result (hR : re_is M a b o dep) (hQ : Q (.inl (some (.ref a))) M) : mm_Ct l sc Y_Re_result M [.ref 39] Q := by
  refine mm_by k_Re_result w_Re_result rfl rfl ?_
  refine mg_run 1 rfl ?_
  refine mg_get rfl rfl hR.1 rfl ?_
  exact mg_ar rfl rfl rfl rfl hQ
end
