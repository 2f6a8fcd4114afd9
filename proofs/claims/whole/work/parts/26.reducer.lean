/-! The reducer: what it writes. -/
section
variable {l : Launch} {sc : Nat × (Nat → Int32)} {Q : mm_O → mm_M → Prop} {a b o ga : Nat} {r : List Nat} {dep : Nat → Int32}
/-- a place of the argument, under mo abstractions more -/
def te_sf (r : List Nat) (D : Nat → Nat) (mo i : Nat) : List Nat := [if r.getD i 0 < 1000 + D i then r.getD i 0 else r.getD i 0 + mo]
theorem lp_Re_writeArgument (hb : ∀ i, r.getD i 0 < 10000) {D : Nat → Nat} {en mo : Nat} {x1 : Int32} (h2 : en ≤ r.length) (hmo : mo < 10000) : ∀ m i (x5 : Option Value) (M : mm_M) (bf : List Nat × Nat) (out : List Nat), re_is M a b o dep → te_is M a r ga → te_is M b bf.1 bf.2 → wr bf out → (∀ j, i ≤ j → j < en → dep j = nI (D j) ∧ D j < 10000) → en - i = m → i ≤ en →
    (∀ M' bf', te_is M' b bf'.1 bf'.2 → wr bf' (out ++ te_pc (te_sf r D mo) i m) → mm_on (te_P b) M M' → Q (.inl none) M') →
    mm_Go l sc Y_Re_writeArgument 0 0 M [some (.ref 39), some (.int x1), some (.int (nI en)), some (.int (nI mo)), some (.int (nI i)), x5] [] 3 Q := by
  intro m
  induction m with
  | zero =>
    intro i x5 M bf out hR hA hB hw hD hm hi hQ
    have h4 := hA.len
    refine mg_run 2 rfl ?_
    refine mg_ge rfl (by omega) (by omega) (fun h => ?_) (fun h => absurd h (by omega))
    refine mg_vr rfl rfl rfl rfl ?_
    exact hQ M bf hB (by rw [te_pc, List.append_nil]; exact hw) (mm_on.rf _ M)
  | succ m ih =>
    intro i x5 M bf out hR hA hB hw hD hm hi hQ
    have h4 := hA.len
    obtain ⟨r1, r2, r3⟩ := id hR
    obtain ⟨⟨s1, s2, s3, s4⟩, s5, s6, s7, s8, s9⟩ := re_sep r3
    obtain ⟨fa, a1, a2, a3, a4, a5⟩ := id hA
    obtain ⟨fb, b1, b2, b3, b4, b5⟩ := id hB
    obtain ⟨w, d1, d2, d3⟩ := id r2
    obtain ⟨hd1, hd2⟩ := hD i (Nat.le_refl _) (by omega)
    have hbi := hb i
    refine mg_run 2 rfl ?_
    refine mg_ge rfl (by omega) (by omega) (fun h => absurd h (by omega)) (fun h => ?_)
    refine mg_run 1 rfl ?_
    refine mg_get rfl rfl r1 rfl ?_
    refine mg_callV [] rfl rfl rfl b1 rfl rfl rfl rfl (c_Te_isTooGreat hB ?_)
    refine mg_zne rfl (by omega) (fun h9 => ?_) (fun h9 => ?_)
    · refine mg_vr rfl rfl rfl rfl ?_
      exact hQ M bf hB (hw.more h9 _) (mm_on.rf _ M)
    · refine mg_run 1 rfl ?_
      refine mg_get rfl rfl r1 rfl ?_
      refine mg_run 1 rfl ?_
      refine mg_callV [.int (nI i)] rfl rfl rfl a1 rfl rfl rfl rfl (c_Te_at hA (by omega) ?_)
      refine mg_run 2 rfl ?_
      refine mg_get rfl rfl r1 rfl ?_
      refine mg_run 3 rfl ?_
      refine mg_get rfl rfl r1 rfl ?_
      refine mg_run 1 rfl ?_
      refine mg_callV [.int (nI i)] rfl rfl rfl d1 rfl rfl rfl rfl (c_De_at r2 (by omega) ?_)
      rw [hd1]
      refine mg_addN rfl ?_
      refine mg_lt rfl (by omega) (by omega) (fun h7 => ?_) (fun h7 => ?_)
      · refine mg_run 1 rfl ?_
        refine mg_callV [.int (nI (r.getD i 0))] rfl rfl rfl b1 rfl rfl rfl rfl (c_Te_add hB (fun M1 p1 p2 => ?_))
        refine mg_incN rfl rfl rfl ?_
        refine mg_run 1 rfl ?_
        refine ih (i + 1) _ M1 _ (out ++ [r.getD i 0]) (hR.keep p2) (hA.keep p2 s5.1 s5.2) p1 (hw.add _) (fun j q1 q2 => hD j (by omega) q2) (by omega) (by omega) (fun M' bf' q1 q2 q3 => hQ M' bf' q1 ?_ (p2.tr q3))
        rw [te_pc, te_sf, if_pos h7, ← List.append_assoc]
        exact q2
      · refine mg_run 2 rfl ?_
        refine mg_addN rfl ?_
        refine mg_run 1 rfl ?_
        refine mg_callV [.int (nI (r.getD i 0 + mo))] rfl rfl rfl b1 rfl rfl rfl rfl (c_Te_add hB (fun M1 p1 p2 => ?_))
        refine mg_incN rfl rfl rfl ?_
        refine mg_run 1 rfl ?_
        refine ih (i + 1) _ M1 _ (out ++ [r.getD i 0 + mo]) (hR.keep p2) (hA.keep p2 s5.1 s5.2) p1 (hw.add _) (fun j q1 q2 => hD j (by omega) q2) (by omega) (by omega) (fun M' bf' q1 q2 q3 => hQ M' bf' q1 ?_ (p2.tr q3))
        rw [te_pc, te_sf, if_neg (by omega), ← List.append_assoc]
        exact q2
theorem c_Re_writeArgument {M : mm_M} {bf : List Nat × Nat} {out : List Nat} (hb : ∀ i, r.getD i 0 < 10000) {D : Nat → Nat} {ar en mo : Nat} (h1 : ar ≤ en) (h2 : en ≤ r.length) (hmo : mo < 10000) (hR : re_is M a b o dep) (hA : te_is M a r ga) (hB : te_is M b bf.1 bf.2) (hw : wr bf out) (hD : ∀ j, ar ≤ j → j < en → dep j = nI (D j) ∧ D j < 10000)
    (hQ : ∀ M' bf', te_is M' b bf'.1 bf'.2 → wr bf' (out ++ te_pc (te_sf r D mo) ar (en - ar)) → mm_on (te_P b) M M' → Q (.inl none) M') : mm_Ct l sc Y_Re_writeArgument M [.ref 39, .int (nI ar), .int (nI en), .int (nI mo)] Q := by
  refine mm_by k_Re_writeArgument w_Re_writeArgument rfl rfl ?_
  refine mg_run 2 rfl ?_
  exact lp_Re_writeArgument hb h2 hmo _ ar none M bf out hR hA hB hw hD rfl h1 hQ
/-- a place of the body: the argument, or the code, one index less where it reaches out -/
def te_sb (r : List Nat) (D : Nat → Nat) (ar n i : Nat) : List Nat := if r.getD i 0 = 1000 + D i then te_pc (te_sf r D (D i)) ar n else [if r.getD i 0 ≤ 1000 + D i then r.getD i 0 else r.getD i 0 - 1]
theorem lp_Re_writeBody (hb : ∀ i, r.getD i 0 < 10000) {D : Nat → Nat} {ar en : Nat} {x1 : Int32} (h1 : ar ≤ en) (h2 : en ≤ r.length) : ∀ m i (x5 x6 : Option Value) (M : mm_M) (bf : List Nat × Nat) (out : List Nat), mm_c2 (some x5) = false → re_is M a b o dep → te_is M a r ga → te_is M b bf.1 bf.2 → wr bf out → (∀ j, i ≤ j → j < en → dep j = nI (D j) ∧ D j < 10000) → ar - i = m → i ≤ ar →
    (∀ M' bf', te_is M' b bf'.1 bf'.2 → wr bf' (out ++ te_pc (te_sb r D ar (en - ar)) i m) → mm_on (te_P b) M M' → Q (.inl (some (.int (nI en)))) M') →
    mm_Go l sc Y_Re_writeBody 0 0 M [some (.ref 39), some (.int x1), some (.int (nI ar)), some (.int (nI en)), some (.int (nI i)), x5, x6] [] 29 Q := by
  intro m
  induction m with
  | zero =>
    intro i x5 x6 M bf out hx5 hR hA hB hw hD hm hi hQ
    have h4 := hA.len
    refine mg_run 2 rfl ?_
    refine mg_ge rfl (by omega) (by omega) (fun h => ?_) (fun h => absurd h (by omega))
    refine mg_run 1 rfl ?_
    refine mg_ir rfl rfl rfl rfl ?_
    exact hQ M bf hB (by rw [te_pc, List.append_nil]; exact hw) (mm_on.rf _ M)
  | succ m ih =>
    intro i x5 x6 M bf out hx5 hR hA hB hw hD hm hi hQ
    have h4 := hA.len
    obtain ⟨r1, r2, r3⟩ := id hR
    obtain ⟨⟨s1, s2, s3, s4⟩, s5, s6, s7, s8, s9⟩ := re_sep r3
    obtain ⟨fa, a1, a2, a3, a4, a5⟩ := id hA
    obtain ⟨fb, b1, b2, b3, b4, b5⟩ := id hB
    obtain ⟨w, d1, d2, d3⟩ := id r2
    obtain ⟨hd1, hd2⟩ := hD i (Nat.le_refl _) (by omega)
    have hbi := hb i
    refine mg_run 2 rfl ?_
    refine mg_ge rfl (by omega) (by omega) (fun h => absurd h (by omega)) (fun h => ?_)
    refine mg_run 1 rfl ?_
    refine mg_get rfl rfl r1 rfl ?_
    refine mg_callV [] rfl rfl rfl b1 rfl rfl rfl rfl (c_Te_isTooGreat hB ?_)
    refine mg_zne rfl (by omega) (fun h9 => ?_) (fun h9 => ?_)
    · refine mg_run 1 rfl ?_
      refine mg_ir rfl rfl rfl rfl ?_
      exact hQ M bf hB (hw.more h9 _) (mm_on.rf _ M)
    · refine mg_run 1 rfl ?_
      refine mg_get rfl rfl r1 rfl ?_
      refine mg_run 1 rfl ?_
      refine mg_callV [.int (nI i)] rfl rfl rfl a1 rfl rfl rfl rfl (c_Te_at hA (by omega) ?_)
      refine mg_run 3 rfl ?_
      refine mg_get rfl rfl r1 rfl ?_
      refine mg_run 1 rfl ?_
      refine mg_callV [.int (nI i)] rfl rfl rfl d1 rfl rfl rfl rfl (c_De_at r2 (by omega) ?_)
      rw [hd1]
      refine mg_addN rfl ?_
      refine mg_run 3 rfl ?_
      refine mg_ne rfl (by omega) (by omega) (fun h7 => ?_) (fun h7 => ?_)
      · refine mg_run 1 rfl ?_
        refine mg_get rfl rfl r1 rfl ?_
        refine mg_run 2 rfl ?_
        refine mg_le rfl (by omega) (by omega) (fun h6 => ?_) (fun h6 => ?_)
        · refine mg_run 1 rfl ?_
          refine mg_callV [.int (nI (r.getD i 0))] rfl rfl rfl b1 rfl rfl rfl rfl (c_Te_add hB (fun M1 p1 p2 => ?_))
          refine mg_incN rfl rfl rfl ?_
          refine mg_run 1 rfl ?_
          refine ih (i + 1) _ _ M1 _ (out ++ [r.getD i 0]) rfl (hR.keep p2) (hA.keep p2 s5.1 s5.2) p1 (hw.add _) (fun j q1 q2 => hD j (by omega) q2) (by omega) (by omega) (fun M' bf' q1 q2 q3 => hQ M' bf' q1 ?_ (p2.tr q3))
          rw [te_pc, te_sb, if_neg h7, if_pos h6, ← List.append_assoc]
          exact q2
        · refine mg_run 2 rfl ?_
          refine mg_subN rfl (by omega) ?_
          refine mg_run 1 rfl ?_
          refine mg_callV [.int (nI (r.getD i 0 - 1))] rfl rfl rfl b1 rfl rfl rfl rfl (c_Te_add hB (fun M1 p1 p2 => ?_))
          refine mg_incN rfl rfl rfl ?_
          refine mg_run 1 rfl ?_
          refine ih (i + 1) _ _ M1 _ (out ++ [r.getD i 0 - 1]) rfl (hR.keep p2) (hA.keep p2 s5.1 s5.2) p1 (hw.add _) (fun j q1 q2 => hD j (by omega) q2) (by omega) (by omega) (fun M' bf' q1 q2 q3 => hQ M' bf' q1 ?_ (p2.tr q3))
          rw [te_pc, te_sb, if_neg h7, if_neg (by omega), ← List.append_assoc]
          exact q2
      · refine mg_run 4 rfl ?_
        refine mg_get rfl rfl r1 rfl ?_
        refine mg_run 1 rfl ?_
        refine mg_callV [.int (nI i)] rfl rfl rfl d1 rfl rfl rfl rfl (c_De_at r2 (by omega) ?_)
        rw [hd1]
        refine mg_callV [.int (nI ar), .int (nI en), .int (nI (D i))] rfl rfl rfl r1 rfl rfl rfl rfl (c_Re_writeArgument hb h1 h2 hd2 hR hA hB hw (fun j q1 q2 => hD j (by omega) q2) (fun M1 bf1 p1 p0 p2 => ?_))
        refine mg_run 1 rfl ?_
        refine mg_incN rfl rfl rfl ?_
        refine mg_run 1 rfl ?_
        refine ih (i + 1) _ _ M1 bf1 _ rfl (hR.keep p2) (hA.keep p2 s5.1 s5.2) p1 p0 (fun j q1 q2 => hD j (by omega) q2) (by omega) (by omega) (fun M' bf' q1 q2 q3 => hQ M' bf' q1 ?_ (p2.tr q3))
        rw [te_pc, te_sb, if_pos h7, ← List.append_assoc]
        exact q2
end
