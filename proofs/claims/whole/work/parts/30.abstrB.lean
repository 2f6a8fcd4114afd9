/-! The abstractor: what it writes, and its runs. -/
def ab_f (r : List Nat) (j : Nat) : List Nat := [if r.getD j 0 ≤ 1000 then r.getD j 0 else r.getD j 0 - 1]
def ab_o (r : List Nat) (s e : Nat) : List Nat := te_pc (ab_f r) s (e - s)
/-- the part at i, or only its S; how far it is written -/
def ab_w (r : List Nat) (s e i : Nat) : List Nat × Nat :=
  if r.getD i 0 = 1000 then ([73], ab_E r e i)
  else if ab_U r s (ab_E r e i - s) ≤ ab_U r s (i - s) then ([64] ++ [75] ++ ab_o r i (ab_E r e i), ab_E r e i)
  else if r.getD (ab_E r e (i + 1)) 0 = 1000 ∧ ab_U r s (ab_E r e (i + 1) - s) ≤ ab_U r s (i + 1 - s) then (ab_o r (i + 1) (ab_E r e (i + 1)), ab_E r e i)
  else ([64] ++ [64] ++ [83], i + 1)
def ab_wl (r : List Nat) (s e : Nat) : Nat → Nat → Nat → List Nat
  | 0, _, _ => []
  | m + 1, i, w => if i < w then ab_wl r s e m (i + 1) w else (ab_w r s e i).1 ++ ab_wl r s e m (i + 1) (ab_w r s e i).2
def ab_st (r : List Nat) (i : Nat) : List Nat := r.take i ++ ab_wl r (i + 1) (te_en r (i + 1)) (te_en r (i + 1) - (i + 1)) (i + 1) (i + 1) ++ r.drop (te_en r (i + 1))
/-- all abstractions from place i - 1 on down -/
def te_ab : Nat → List Nat → Option (List Nat)
  | 0, r => some r
  | i + 1, r => if r.getD i 0 = 92 then (if (ab_st r i).length ≤ 2000 then te_ab i (ab_st r i) else none) else te_ab i r
section
variable {l : Launch} {sc : Nat × (Nat → Int32)} {Q : mm_O → mm_M → Prop} {a b ga : Nat} {r : List Nat}
theorem c_Ab_isUsed {M : mm_M} {en us : Nat → Int32} (hA : ab_is M a b en us) {x y ux uy : Nat} (hx : x ≤ 2000) (hy : y ≤ 2000) (hux : us x = nI ux) (huy : us y = nI uy) (hu1 : ux ≤ 10000) (hu2 : uy ≤ 10000) (hN : uy ≤ ux → Q (.inl (some (.int (nI 0)))) M) (hY : ux < uy → Q (.inl (some (.int (nI 1)))) M) : mm_Ct l sc Y_Ab_isUsed M [.ref 47, .int (nI x), .int (nI y)] Q := by
  obtain ⟨a1, a2, a3, a4⟩ := id hA
  refine mm_by k_Ab_isUsed w_Ab_isUsed rfl rfl ?_
  refine mg_run 1 rfl ?_
  refine mg_get rfl rfl a1 rfl ?_
  refine mg_run 1 rfl ?_
  refine mg_ildN rfl a3 (by decide) (by omega) ?_
  rw [huy]
  refine mg_run 1 rfl ?_
  refine mg_get rfl rfl a1 rfl ?_
  refine mg_run 1 rfl ?_
  refine mg_ildN rfl a3 (by decide) (by omega) ?_
  rw [hux]
  refine mg_le rfl (by omega) (by omega) (fun h => ?_) (fun h => ?_)
  · refine mg_run 1 rfl ?_
    exact mg_zr rfl rfl (Or.inl rfl) rfl rfl (hN h)
  · refine mg_run 2 rfl ?_
    exact mg_zr rfl rfl (Or.inr rfl) rfl rfl (hY h)
theorem lp_Ab_writeOutside (hb : ∀ i, r.getD i 0 < 10000) {en us : Nat → Int32} {e : Nat} {x1 : Int32} (he : e ≤ r.length) : ∀ m i (x4 : Option Value) (M : mm_M) (bf : List Nat × Nat) (out : List Nat), ab_is M a b en us → te_is M a r ga → te_is M b bf.1 bf.2 → wr bf out → e - i = m →
    (∀ (M' : mm_M) (bf' : List Nat × Nat), te_is M' b bf'.1 bf'.2 → wr bf' (out ++ te_pc (ab_f r) i m) → mm_on (te_P b) M M' → Q (.inl none) M') → i ≤ 2000 →
    mm_Go l sc Y_Ab_writeOutside 0 0 M [some (.ref 47), some (.int x1), some (.int (nI e)), some (.int (nI i)), x4] [] 2 Q := by
  intro m
  induction m with
  | zero =>
    intro i x4 M bf out hA hT hB hw hm hQ hi
    have h4 := hT.len
    refine mg_run 2 rfl ?_
    refine mg_ge rfl (by omega) (by omega) (fun h => ?_) (fun h => absurd h (by omega))
    refine mg_vr rfl rfl rfl rfl ?_
    exact hQ M bf hB (by rw [te_pc, List.append_nil]; exact hw) (mm_on.rf _ M)
  | succ m ih =>
    intro i x4 M bf out hA hT hB hw hm hQ hi
    have h4 := hT.len
    obtain ⟨a1, a2, a3, a4⟩ := id hA
    obtain ⟨s1, s2, s3, s4, s5⟩ := ab_sep a4
    obtain ⟨f, t1, -⟩ := id hT
    obtain ⟨fb, b1, -⟩ := id hB
    have hbi := hb i
    refine mg_run 2 rfl ?_
    refine mg_ge rfl (by omega) (by omega) (fun h => absurd h (by omega)) (fun h => ?_)
    refine mg_run 1 rfl ?_
    refine mg_get rfl rfl a1 rfl ?_
    refine mg_run 1 rfl ?_
    refine mg_callV [.int (nI i)] rfl rfl rfl t1 rfl rfl rfl rfl (c_Te_at hT (by omega) ?_)
    refine mg_run 2 rfl ?_
    refine mg_get rfl rfl a1 rfl ?_
    refine mg_run 2 rfl ?_
    refine mg_le rfl (by omega) (by decide) (fun h9 => ?_) (fun h9 => ?_)
    · refine mg_run 1 rfl ?_
      refine mg_callV [.int (nI (r.getD i 0))] rfl rfl rfl b1 rfl rfl rfl rfl (c_Te_add hB (fun M1 p1 p2 => ?_))
      refine mg_incN rfl rfl rfl ?_
      refine mg_run 1 rfl ?_
      refine ih (i + 1) _ M1 _ (out ++ [r.getD i 0]) (hA.keep p2) (hT.keep p2 s2.1 s2.2) p1 (hw.add _) (by omega) (fun M' bf' q1 q2 q3 => hQ M' bf' q1 ?_ (p2.tr q3)) (by omega)
      rw [te_pc, ab_f, if_pos h9, ← List.append_assoc]
      exact q2
    · refine mg_run 2 rfl ?_
      refine mg_subN rfl (by omega) ?_
      refine mg_run 1 rfl ?_
      refine mg_callV [.int (nI (r.getD i 0 - 1))] rfl rfl rfl b1 rfl rfl rfl rfl (c_Te_add hB (fun M1 p1 p2 => ?_))
      refine mg_incN rfl rfl rfl ?_
      refine mg_run 1 rfl ?_
      refine ih (i + 1) _ M1 _ (out ++ [r.getD i 0 - 1]) (hA.keep p2) (hT.keep p2 s2.1 s2.2) p1 (hw.add _) (by omega) (fun M' bf' q1 q2 q3 => hQ M' bf' q1 ?_ (p2.tr q3)) (by omega)
      rw [te_pc, ab_f, if_neg (by omega), ← List.append_assoc]
      exact q2
theorem c_Ab_writeOutside (hb : ∀ i, r.getD i 0 < 10000) {en us : Nat → Int32} {s e : Nat} (hs : s ≤ 2000) (he : e ≤ r.length) {M : mm_M} {bf : List Nat × Nat} {out : List Nat} (hA : ab_is M a b en us) (hT : te_is M a r ga) (hB : te_is M b bf.1 bf.2) (hw : wr bf out)
    (hQ : ∀ (M' : mm_M) (bf' : List Nat × Nat), te_is M' b bf'.1 bf'.2 → wr bf' (out ++ ab_o r s e) → mm_on (te_P b) M M' → Q (.inl none) M') : mm_Ct l sc Y_Ab_writeOutside M [.ref 47, .int (nI s), .int (nI e)] Q := by
  refine mm_by k_Ab_writeOutside w_Ab_writeOutside rfl rfl ?_
  refine mg_run 2 rfl ?_
  exact lp_Ab_writeOutside hb he _ s none M bf out hA hT hB hw rfl hQ hs
theorem c_Ab_writePart (hb : ∀ i, r.getD i 0 < 10000) {en us : Nat → Int32} {s e i : Nat} (hs : s ≤ i) (hi : i < e) (he : e ≤ r.length) (hE : ∀ i, s ≤ i → i < e → te_en r i ≤ e ∧ ¬ r.getD i 0 = 92) (hen : ∀ i, s ≤ i → i ≤ e → en i = nI (ab_E r e i)) (hus : ∀ j, j ≤ e - s → us (s + j) = nI (ab_U r s j)) {M : mm_M} {bf : List Nat × Nat} {out : List Nat} (hA : ab_is M a b en us) (hT : te_is M a r ga) (hB : te_is M b bf.1 bf.2) (hw : wr bf out)
    (hQ : ∀ (M' : mm_M) (bf' : List Nat × Nat), te_is M' b bf'.1 bf'.2 → wr bf' (out ++ (ab_w r s e i).1) → mm_on (te_P b) M M' → Q (.inl (some (.int (nI (ab_w r s e i).2)))) M') : mm_Ct l sc Y_Ab_writePart M [.ref 47, .int (nI i)] Q := by
  have h4 := hT.len
  obtain ⟨a1, a2, a3, a4⟩ := id hA
  obtain ⟨s1, s2, s3, s4, s5⟩ := ab_sep a4
  obtain ⟨f, t1, -⟩ := id hT
  obtain ⟨fb, b1, -⟩ := id hB
  have hEi : ab_E r e i = te_en r i := by unfold ab_E; rw [if_pos hi]
  have hEle : ab_E r e i ≤ e := by rw [hEi]; exact (hE i hs hi).1
  have hEge : i ≤ ab_E r e i := by rw [hEi]; exact te_en_ge r i
  have hE1 : ab_E r e (i + 1) ≤ e ∧ i + 1 ≤ ab_E r e (i + 1) := by
    unfold ab_E
    by_cases h9 : i + 1 < e
    · rw [if_pos h9]; exact ⟨(hE (i + 1) (by omega) h9).1, te_en_ge r _⟩
    · rw [if_neg h9]; omega
  have hu : ∀ x, s ≤ x → x ≤ e → us x = nI (ab_U r s (x - s)) := fun x h1 h2 => by
    have h9 := hus (x - s) (by omega)
    rw [show s + (x - s) = x by omega] at h9
    exact h9
  have hul : ∀ x, x ≤ e → ab_U r s (x - s) ≤ 10000 := fun x h1 => by have := ab_U_le r s (x - s); omega
  have hbi := hb i
  refine mm_by k_Ab_writePart w_Ab_writePart rfl rfl ?_
  refine mg_run 1 rfl ?_
  refine mg_get rfl rfl a1 rfl ?_
  refine mg_run 1 rfl ?_
  refine mg_ildN rfl a2 (by decide) (by omega) ?_
  rw [hen i hs (by omega)]
  refine mg_run 2 rfl ?_
  refine mg_get rfl rfl a1 rfl ?_
  refine mg_run 1 rfl ?_
  refine mg_callV [.int (nI i)] rfl rfl rfl t1 rfl rfl rfl rfl (c_Te_at hT (by omega) ?_)
  refine mg_run 1 rfl ?_
  refine mg_ne rfl (by omega) (by decide) (fun h1 => ?_) (fun h1 => ?_)
  · refine mg_run 3 rfl ?_
    refine mg_callV [.int (nI i), .int (nI (ab_E r e i))] rfl rfl rfl a1 rfl rfl rfl rfl (c_Ab_isUsed hA (by omega) (by omega) (hu i hs (by omega)) (hu _ (by omega) hEle) (hul i (by omega)) (hul _ hEle) (fun h2 => ?_) (fun h2 => ?_))
    · refine mg_zne rfl (by decide) (fun h => absurd h (by decide)) (fun h => ?_)
      have ew : ab_w r s e i = ([64] ++ [75] ++ ab_o r i (ab_E r e i), ab_E r e i) := by unfold ab_w; rw [if_neg h1, if_pos h2]
      rw [ew] at hQ
      refine mg_run 1 rfl ?_
      refine mg_get rfl rfl a1 rfl ?_
      refine mg_run 1 rfl ?_
      refine mg_callV [.int (nI 64)] rfl rfl rfl b1 rfl rfl rfl rfl (c_Te_add hB (fun M1 p1 p2 => ?_))
      have A1 := hA.keep p2
      have T1 := hT.keep p2 s2.1 s2.2
      have w1 := hw.add 64
      obtain ⟨fb1, b2, -⟩ := id p1
      refine mg_run 1 rfl ?_
      refine mg_get rfl rfl A1.1 rfl ?_
      refine mg_run 1 rfl ?_
      refine mg_callV [.int (nI 75)] rfl rfl rfl b2 rfl rfl rfl rfl (c_Te_add p1 (fun M2 q1 q2 => ?_))
      have A2 := A1.keep q2
      have T2 := T1.keep q2 s2.1 s2.2
      have w2 := w1.add 75
      refine mg_run 3 rfl ?_
      refine mg_callV [.int (nI i), .int (nI (ab_E r e i))] rfl rfl rfl A2.1 rfl rfl rfl rfl (c_Ab_writeOutside hb (by omega) (by omega) A2 T2 q1 w2 (fun M3 bf3 u1 u2 u3 => ?_))
      refine mg_run 1 rfl ?_
      refine mg_ir rfl rfl rfl rfl ?_
      refine hQ M3 bf3 u1 ?_ ((p2.tr q2).tr u3)
      simp only [List.append_assoc] at u2 ⊢
      exact u2
    · refine mg_zne rfl (by decide) (fun h => ?_) (fun h => absurd h (by decide))
      have hbg := hb (ab_E r e (i + 1))
      have hS : ¬ (r.getD (ab_E r e (i + 1)) 0 = 1000 ∧ ab_U r s (ab_E r e (i + 1) - s) ≤ ab_U r s (i + 1 - s)) → mm_Go l sc Y_Ab_writePart 0 0 M [some (.ref 47), some (.int (nI i)), some (.int (nI (ab_E r e i))), some (.int (nI (ab_E r e (i + 1))))] [] 111 Q := fun h3 => by
        have ew : ab_w r s e i = ([64] ++ [64] ++ [83], i + 1) := by unfold ab_w; rw [if_neg h1, if_neg (by omega), if_neg h3]
        rw [ew] at hQ
        refine mg_run 1 rfl ?_
        refine mg_get rfl rfl a1 rfl ?_
        refine mg_run 1 rfl ?_
        refine mg_callV [.int (nI 64)] rfl rfl rfl b1 rfl rfl rfl rfl (c_Te_add hB (fun M1 p1 p2 => ?_))
        have A1 := hA.keep p2
        have w1 := hw.add 64
        obtain ⟨fb1, b2, -⟩ := id p1
        refine mg_run 1 rfl ?_
        refine mg_get rfl rfl A1.1 rfl ?_
        refine mg_run 1 rfl ?_
        refine mg_callV [.int (nI 64)] rfl rfl rfl b2 rfl rfl rfl rfl (c_Te_add p1 (fun M2 q1 q2 => ?_))
        have A2 := A1.keep q2
        have w2 := w1.add 64
        obtain ⟨fb2, b3, -⟩ := id q1
        refine mg_run 1 rfl ?_
        refine mg_get rfl rfl A2.1 rfl ?_
        refine mg_run 1 rfl ?_
        refine mg_callV [.int (nI 83)] rfl rfl rfl b3 rfl rfl rfl rfl (c_Te_add q1 (fun M3 u1 u2 => ?_))
        have w3 := w2.add 83
        refine mg_run 2 rfl ?_
        refine mg_addN rfl ?_
        refine mg_ir rfl rfl rfl rfl ?_
        refine hQ M3 _ u1 ?_ ((p2.tr q2).tr u2)
        simp only [List.append_assoc] at w3 ⊢
        exact w3
      refine mg_run 1 rfl ?_
      refine mg_get rfl rfl a1 rfl ?_
      refine mg_run 2 rfl ?_
      refine mg_addN rfl ?_
      refine mg_ildN rfl a2 (by decide) (by omega) ?_
      rw [hen (i + 1) (by omega) (by omega)]
      refine mg_run 2 rfl ?_
      refine mg_get rfl rfl a1 rfl ?_
      refine mg_run 1 rfl ?_
      refine mg_callV [.int (nI (ab_E r e (i + 1)))] rfl rfl rfl t1 rfl rfl rfl rfl (c_Te_at hT (by omega) ?_)
      refine mg_run 1 rfl ?_
      refine mg_ne rfl (by omega) (by decide) (fun h3 => ?_) (fun h3 => ?_)
      · exact hS (fun h9 => h3 h9.1)
      · refine mg_run 3 rfl ?_
        refine mg_addN rfl ?_
        refine mg_run 1 rfl ?_
        refine mg_callV [.int (nI (i + 1)), .int (nI (ab_E r e (i + 1)))] rfl rfl rfl a1 rfl rfl rfl rfl (c_Ab_isUsed hA (by omega) (by omega) (hu (i + 1) (by omega) (by omega)) (hu _ (by omega) hE1.1) (hul _ (by omega)) (hul _ hE1.1) (fun h5 => ?_) (fun h5 => ?_))
        · refine mg_zne rfl (by decide) (fun h => absurd h (by decide)) (fun h => ?_)
          have ew : ab_w r s e i = (ab_o r (i + 1) (ab_E r e (i + 1)), ab_E r e i) := by unfold ab_w; rw [if_neg h1, if_neg (by omega), if_pos ⟨h3, h5⟩]
          rw [ew] at hQ
          refine mg_run 3 rfl ?_
          refine mg_addN rfl ?_
          refine mg_run 1 rfl ?_
          refine mg_callV [.int (nI (i + 1)), .int (nI (ab_E r e (i + 1)))] rfl rfl rfl a1 rfl rfl rfl rfl (c_Ab_writeOutside hb (by omega) (by omega) hA hT hB hw (fun M3 bf3 u1 u2 u3 => ?_))
          refine mg_run 1 rfl ?_
          refine mg_ir rfl rfl rfl rfl ?_
          exact hQ M3 bf3 u1 u2 u3
        · refine mg_zne rfl (by decide) (fun h => ?_) (fun h => absurd h (by decide))
          exact hS (fun h9 => absurd h9.2 (by omega))
  · have ew : ab_w r s e i = ([73], ab_E r e i) := by unfold ab_w; rw [if_pos h1]
    rw [ew] at hQ
    refine mg_run 1 rfl ?_
    refine mg_get rfl rfl a1 rfl ?_
    refine mg_run 1 rfl ?_
    refine mg_callV [.int (nI 73)] rfl rfl rfl b1 rfl rfl rfl rfl (c_Te_add hB (fun M1 p1 p2 => ?_))
    refine mg_run 1 rfl ?_
    refine mg_ir rfl rfl rfl rfl ?_
    exact hQ M1 _ p1 (hw.add 73) p2
theorem ab_w_le {s e i : Nat} (hs : s ≤ i) (hi : i < e) (hE : ∀ i, s ≤ i → i < e → te_en r i ≤ e ∧ ¬ r.getD i 0 = 92) : (ab_w r s e i).2 ≤ e := by
  have hEle : ab_E r e i ≤ e := by unfold ab_E; rw [if_pos hi]; exact (hE i hs hi).1
  unfold ab_w
  repeat' split
  all_goals first | exact hEle | exact hi
/-- what stands behind the body -/
theorem ab_tail {M : mm_M} {en us : Nat → Int32} {e : Nat} {bf : List Nat × Nat} {out : List Nat} {x1 x2 x4 x5 : Int32} (he : e ≤ r.length) (hA : ab_is M a b en us) (hT : te_is M a r ga) (hB : te_is M b bf.1 bf.2) (hw : wr bf out)
    (hQ : ∀ (M' : mm_M) (bf' : List Nat × Nat), te_is M' b bf'.1 bf'.2 → wr bf' (out ++ r.drop e) → mm_on (te_P b) M M' → Q (.inl none) M') : mm_Go l sc Y_Ab_writeWithout 0 0 M [some (.ref 47), some (.int x1), some (.int x2), some (.int (nI e)), some (.int x4), some (.int x5)] [] 82 Q := by
  have h4 := hT.len
  obtain ⟨a1, a2, a3, a4⟩ := id hA
  obtain ⟨s1, s2, s3, s4, s5⟩ := ab_sep a4
  obtain ⟨f, t1, -⟩ := id hT
  obtain ⟨fb, b1, -⟩ := id hB
  refine mg_run 1 rfl ?_
  refine mg_get rfl rfl a1 rfl ?_
  refine mg_run 1 rfl ?_
  refine mg_get rfl rfl a1 rfl ?_
  refine mg_run 2 rfl ?_
  refine mg_get rfl rfl a1 rfl ?_
  refine mg_callV [] rfl rfl rfl t1 rfl rfl rfl rfl (c_Te_length hT ?_)
  refine mg_callV [.ref a, .int (nI e), .int (nI r.length)] rfl rfl rfl b1 rfl rfl rfl rfl (c_Te_addPart hB hT s2 he (Nat.le_refl _) (fun M1 p1 p2 => ?_))
  refine mg_vr rfl rfl rfl rfl ?_
  rw [List.take_of_length_le (l := r.drop e) (by rw [List.length_drop]; omega)] at p1
  exact hQ M1 _ p1 (hw.adds _) p2
theorem lp_Ab_writeWithout (hb : ∀ i, r.getD i 0 < 10000) {en us : Nat → Int32} {s e : Nat} {x1 : Int32} (he : e ≤ r.length) (hE : ∀ i, s ≤ i → i < e → te_en r i ≤ e ∧ ¬ r.getD i 0 = 92) (hen : ∀ i, s ≤ i → i ≤ e → en i = nI (ab_E r e i)) (hus : ∀ j, j ≤ e - s → us (s + j) = nI (ab_U r s j)) : ∀ m i w (M : mm_M) (bf : List Nat × Nat) (out : List Nat), ab_is M a b en us → te_is M a r ga → te_is M b bf.1 bf.2 → wr bf out → e - i = m → s ≤ i → i ≤ e → w ≤ e →
    (∀ (M' : mm_M) (bf' : List Nat × Nat), te_is M' b bf'.1 bf'.2 → wr bf' (out ++ ab_wl r s e m i w ++ r.drop e) → mm_on (te_P b) M M' → Q (.inl none) M') →
    mm_Go l sc Y_Ab_writeWithout 0 0 M [some (.ref 47), some (.int x1), some (.int (nI s)), some (.int (nI e)), some (.int (nI w)), some (.int (nI i))] [] 45 Q := by
  intro m
  induction m with
  | zero =>
    intro i w M bf out hA hT hB hw hm hs hi hwe hQ
    have h4 := hT.len
    refine mg_run 2 rfl ?_
    refine mg_ge rfl (by omega) (by omega) (fun h => ?_) (fun h => absurd h (by omega))
    exact ab_tail he hA hT hB hw (fun M' bf' p1 p2 p3 => hQ M' bf' p1 (by rw [ab_wl, List.append_nil]; exact p2) p3)
  | succ m ih =>
    intro i w M bf out hA hT hB hw hm hs hi hwe hQ
    have h4 := hT.len
    obtain ⟨a1, a2, a3, a4⟩ := id hA
    obtain ⟨s1, s2, s3, s4, s5⟩ := ab_sep a4
    obtain ⟨fb, b1, b2, b3, b4, b5⟩ := id hB
    refine mg_run 2 rfl ?_
    refine mg_ge rfl (by omega) (by omega) (fun h => absurd h (by omega)) (fun h => ?_)
    refine mg_run 1 rfl ?_
    refine mg_get rfl rfl a1 rfl ?_
    refine mg_callV [] rfl rfl rfl b1 rfl rfl rfl rfl (c_Te_isTooGreat hB ?_)
    refine mg_zne rfl (by omega) (fun h9 => ?_) (fun h9 => ?_)
    · exact ab_tail he hA hT hB (hw.more h9 (ab_wl r s e (m + 1) i w)) hQ
    · refine mg_run 2 rfl ?_
      refine mg_lt rfl (by omega) (by omega) (fun h7 => ?_) (fun h7 => ?_)
      · refine mg_incN rfl rfl rfl ?_
        refine mg_run 1 rfl ?_
        refine ih (i + 1) w M bf out hA hT hB hw (by omega) (by omega) (by omega) hwe (fun M' bf' p1 p2 p3 => hQ M' bf' p1 ?_ p3)
        rw [ab_wl, if_pos h7]
        exact p2
      · refine mg_run 2 rfl ?_
        refine mg_callV [.int (nI i)] rfl rfl rfl a1 rfl rfl rfl rfl (c_Ab_writePart hb hs h he hE hen hus hA hT hB hw (fun M1 bf1 p1 p2 p3 => ?_))
        have hle := ab_w_le (r := r) hs h hE
        refine mg_run 1 rfl ?_
        refine mg_incN rfl rfl rfl ?_
        refine mg_run 1 rfl ?_
        refine ih (i + 1) _ M1 bf1 _ (hA.keep p3) (hT.keep p3 s2.1 s2.2) p1 p2 (by omega) (by omega) (by omega) hle (fun M' bf' q1 q2 q3 => hQ M' bf' q1 ?_ (p3.tr q3))
        rw [ab_wl, if_neg (by omega)]
        simp only [List.append_assoc] at q2 ⊢
        exact q2
theorem c_Ab_writeWithout (hb : ∀ i, r.getD i 0 < 10000) {en us : Nat → Int32} {i : Nat} (hi : i < r.length) (hE : ∀ j, i + 1 ≤ j → j < te_en r (i + 1) → te_en r j ≤ te_en r (i + 1) ∧ ¬ r.getD j 0 = 92) {M : mm_M} {bf : List Nat × Nat} (hA : ab_is M a b en us) (hT : te_is M a r ga) (hB : te_is M b bf.1 bf.2)
    (hQ : ∀ (M' : mm_M) (bf' : List Nat × Nat) (en' us' : Nat → Int32), ab_is M' a b en' us' → te_is M' a r ga → te_is M' b bf'.1 bf'.2 → wr bf' (ab_st r i) → mm_on (fun j => te_P b j ∨ ab_P j) M M' → Q (.inl none) M') : mm_Ct l sc Y_Ab_writeWithout M [.ref 47, .int (nI i)] Q := by
  have h4 := hT.len
  obtain ⟨a1, a2, a3, a4⟩ := id hA
  obtain ⟨s1, s2, s3, s4, s5⟩ := ab_sep a4
  obtain ⟨f, t1, -⟩ := id hT
  have hb31 : ∀ i, r.getD i 0 < 2 ^ 31 := fun i => Nat.lt_trans (hb i) (by decide)
  have he := te_en_le (r := r) (s := i + 1) (by omega)
  have hge := te_en_ge r (i + 1)
  refine mm_by k_Ab_writeWithout w_Ab_writeWithout rfl rfl ?_
  refine mg_run 2 rfl ?_
  refine mg_addN rfl ?_
  refine mg_run 2 rfl ?_
  refine mg_get rfl rfl a1 rfl ?_
  refine mg_run 1 rfl ?_
  refine mg_callV [.int (nI (i + 1))] rfl rfl rfl t1 rfl rfl rfl rfl (c_Te_endOf hT hb31 (by omega) ?_)
  refine mg_run 4 rfl ?_
  refine mg_callV [.int (nI (i + 1)), .int (nI (te_en r (i + 1)))] rfl rfl rfl a1 rfl rfl rfl rfl (c_Ab_measure hb31 hge he hE hA hT (fun M1 en1 us1 p1 p2 p3 p4 p5 => ?_))
  have B1 := hB.keep p5 s5.2.2.1 s5.2.2.2
  obtain ⟨fb1, c1, -⟩ := id B1
  refine mg_run 1 rfl ?_
  refine mg_get rfl rfl p1.1 rfl ?_
  refine mg_callV [] rfl rfl rfl c1 rfl rfl rfl rfl (c_Te_clear B1 (fun M2 q1 q2 => ?_))
  have A2 := p1.keep q2
  have T2 := p2.keep q2 s2.1 s2.2
  obtain ⟨fb2, c2, -⟩ := id q1
  refine mg_run 1 rfl ?_
  refine mg_get rfl rfl A2.1 rfl ?_
  refine mg_run 1 rfl ?_
  refine mg_get rfl rfl A2.1 rfl ?_
  refine mg_run 2 rfl ?_
  refine mg_callV [.ref a, .int (nI 0), .int (nI i)] rfl rfl rfl c2 rfl rfl rfl rfl (c_Te_addPart q1 T2 s2 (Nat.zero_le _) (by omega) (fun M3 u1 u2 => ?_))
  have w3 := wr0.adds ((r.drop 0).take (i - 0))
  have A3 := A2.keep u2
  have T3 := T2.keep u2 s2.1 s2.2
  refine mg_run 4 rfl ?_
  refine lp_Ab_writeWithout hb he hE p3 p4 _ (i + 1) (i + 1) M3 _ _ A3 T3 u1 w3 rfl (Nat.le_refl _) hge hge (fun M' bf' v1 v2 v3 => ?_)
  refine hQ M' bf' en1 us1 (A3.keep v3) (T3.keep v3 s2.1 s2.2) v1 ?_ ((((p5.wk (fun j h => Or.inr h)).tr (q2.wk (fun j h => Or.inl h))).tr (u2.wk (fun j h => Or.inl h))).tr (v3.wk (fun j h => Or.inl h)))
  rw [List.drop_zero, Nat.sub_zero, List.nil_append] at v2
  exact v2
def aa_P (i : Nat) : Prop := 47 ≤ i ∧ i ≤ 53
theorem lp_Ab_run (P : Nat → List Nat → Prop) (hP1 : ∀ m r, P m r → ∀ i, r.getD i 0 < 10000) (hP2 : ∀ i r, P (i + 1) r → r.getD i 0 = 92 → i < r.length ∧ (∀ j, i + 1 ≤ j → j < te_en r (i + 1) → te_en r j ≤ te_en r (i + 1) ∧ ¬ r.getD j 0 = 92) ∧ ((ab_st r i).length ≤ 2000 → P i (ab_st r i))) (hP3 : ∀ i r, P (i + 1) r → ¬ r.getD i 0 = 92 → P i r) {x1 : Nat} : ∀ m a b (r : List Nat) (ga : Nat) (x3 : Option Value) (M : mm_M) (bf : List Nat × Nat) (en us : Nat → Int32), m ≤ 2000 → P m r → ab_is M a b en us → te_is M a r ga → te_is M b bf.1 bf.2 →
    (∀ (M' : mm_M) (a' b' : Nat) (en' us' : Nat → Int32) (ga' : Nat) (ra' : List Nat) (bf' : List Nat × Nat), te_ab m r = some ra' → ab_is M' a' b' en' us' → te_is M' a' ra' ga' → te_is M' b' bf'.1 bf'.2 → mm_on aa_P M M' → Q (.inl (some (.int (nI 1)))) M') →
    (∀ (M' : mm_M) (a' b' : Nat) (en' us' : Nat → Int32) (ga' : Nat) (ra' : List Nat) (bf' : List Nat × Nat), te_ab m r = none → ab_is M' a' b' en' us' → te_is M' a' ra' ga' → te_is M' b' bf'.1 bf'.2 → mm_on aa_P M M' → Q (.inl (some (.int (nI 0)))) M') →
    mm_Go l sc Y_Ab_run 0 0 M [some (.ref 47), some (.ref x1), some (.int (nI m - 1)), x3] [] 15 Q := by
  intro m
  induction m with
  | zero =>
    intro a b r ga x3 M bf en us hm hPr hA hT hB hQ hN
    have e0 : nI 0 - 1 = -1 := by decide
    rw [e0]
    refine mg_run 1 rfl ?_
    refine mg_zltM rfl ?_
    refine mg_run 1 rfl ?_
    refine mg_zr rfl rfl (Or.inr rfl) rfl rfl ?_
    exact hQ M a b en us ga r bf rfl hA hT hB (mm_on.rf _ M)
  | succ m ih =>
    intro a b r ga x3 M bf en us hm hPr hA hT hB hQ hN
    have h4 := hT.len
    have hb := hP1 _ r hPr
    have hb31 : ∀ i, r.getD i 0 < 2 ^ 31 := fun i => Nat.lt_trans (hb i) (by decide)
    obtain ⟨a1, a2, a3, a4⟩ := id hA
    obtain ⟨s1, s2, s3, s4, s5⟩ := ab_sep a4
    obtain ⟨f, t1, -⟩ := id hT
    rw [nI_pred]
    refine mg_run 1 rfl ?_
    refine mg_zlt rfl (by omega) ?_
    refine mg_run 1 rfl ?_
    refine mg_get rfl rfl a1 rfl ?_
    refine mg_run 1 rfl ?_
    refine mg_callV [.int (nI m)] rfl rfl rfl t1 rfl rfl rfl rfl (c_Te_at hT (by omega) ?_)
    refine mg_run 1 rfl ?_
    have e1 : nI m + -1 = nI m - 1 := by rw [Int32.sub_eq_add_neg]
    refine mg_ne rfl (hb31 m) (by decide) (fun h9 => ?_) (fun h9 => ?_)
    · refine mg_x (M' := M) (L' := [some (.ref 47), some (.ref x1), some (.int (nI m + -1)), x3]) (S' := []) rfl rfl ?_
      refine mg_run 1 rfl ?_
      rw [e1]
      have e2 : te_ab (m + 1) r = te_ab m r := by rw [te_ab, if_neg h9]
      rw [e2] at hQ hN
      exact ih a b r ga x3 M bf en us (by omega) (hP3 m r hPr h9) hA hT hB hQ hN
    · obtain ⟨k1, k2, k3⟩ := hP2 m r hPr h9
      refine mg_run 2 rfl ?_
      refine mg_callV [.int (nI m)] rfl rfl rfl a1 rfl rfl rfl rfl (c_Ab_writeWithout hb k1 k2 hA hT hB (fun M1 bf1 en1 us1 p1 p2 p3 p4 p5 => ?_))
      obtain ⟨fb1, c1, c2, c3, c4, c5⟩ := id p3
      have hon : mm_on aa_P M M1 := p5.wk (fun j h => by
        unfold te_P ab_P at h
        unfold aa_P
        rcases a4 with ⟨h1, h2⟩ | ⟨h1, h2⟩ <;> omega)
      refine mg_run 1 rfl ?_
      refine mg_get rfl rfl p1.1 rfl ?_
      refine mg_callV [] rfl rfl rfl c1 rfl rfl rfl rfl (c_Te_isTooGreat p3 ?_)
      refine mg_zeq rfl (by omega) (fun h0 => ?_) (fun h0 => ?_)
      · obtain ⟨g1, g2⟩ := p4.ok h0
        rw [g2] at p3
        refine mg_run 1 rfl ?_
        refine mg_get rfl rfl p1.1 rfl ?_
        refine mg_run 3 rfl ?_
        refine mg_get rfl rfl p1.1 rfl ?_
        refine mg_put rfl rfl p1.1 rfl rfl ?_
        have f1 := mm_at_set (.inr (0, [.ref 48, .ref 49, .ref b, .ref b])) p1.1
        refine mg_run 2 rfl ?_
        refine mg_put rfl rfl f1 rfl rfl ?_
        have f2 := mm_at_set (.inr (0, [.ref 48, .ref 49, .ref b, .ref a])) f1
        have hon1 : mm_on (fun i => i = 47) M1 ((M1.set 47 (.inr (0, [.ref 48, .ref 49, .ref b, .ref b]))).set 47 (.inr (0, [.ref 48, .ref 49, .ref b, .ref a]))) := mm_on.tr (P := fun i => i = 47) (mm_on.set M1 _ rfl) (mm_on.set _ _ rfl)
        refine mg_x (M' := (M1.set 47 (.inr (0, [.ref 48, .ref 49, .ref b, .ref b]))).set 47 (.inr (0, [.ref 48, .ref 49, .ref b, .ref a]))) (L' := [some (.ref 47), some (.ref x1), some (.int (nI m + -1)), some (.ref a)]) (S' := []) rfl rfl ?_
        refine mg_run 1 rfl ?_
        rw [e1]
        refine ih b a (ab_st r m) 0 _ _ (r, ga) en1 us1 (by omega) (k3 g1) ⟨f2, (hon1 48 (by decide)).trans p1.2.1, (hon1 49 (by decide)).trans p1.2.2.1, by rcases a4 with ⟨h1, h2⟩ | ⟨h1, h2⟩ <;> omega⟩ (p3.keep hon1 (by rcases a4 with ⟨rfl, rfl⟩ | ⟨rfl, rfl⟩ <;> decide) (by rcases a4 with ⟨rfl, rfl⟩ | ⟨rfl, rfl⟩ <;> decide)) (p2.keep hon1 (by rcases a4 with ⟨rfl, rfl⟩ | ⟨rfl, rfl⟩ <;> decide) (by rcases a4 with ⟨rfl, rfl⟩ | ⟨rfl, rfl⟩ <;> decide)) (fun M' a' b' en' us' ga' ra' bf' q0 q1 q2 q3 q4 => ?_) (fun M' a' b' en' us' ga' ra' bf' q0 q1 q2 q3 q4 => ?_)
        · exact hQ M' a' b' en' us' ga' ra' bf' (by rw [te_ab, if_pos h9, if_pos g1]; exact q0) q1 q2 q3 ((hon.tr (hon1.wk (fun i h => by subst h; unfold aa_P; omega))).tr q4)
        · exact hN M' a' b' en' us' ga' ra' bf' (by rw [te_ab, if_pos h9, if_pos g1]; exact q0) q1 q2 q3 ((hon.tr (hon1.wk (fun i h => by subst h; unfold aa_P; omega))).tr q4)
      · have g1 := p4.not h0
        refine mg_run 1 rfl ?_
        refine mg_zr rfl rfl (Or.inl rfl) rfl rfl ?_
        have e2 : te_ab (m + 1) r = none := by rw [te_ab, if_pos h9, if_neg (by omega)]
        exact hN M1 a b en1 us1 ga r bf1 e2 p1 p2 p3 hon
theorem c_Ab_run (P : Nat → List Nat → Prop) (hP1 : ∀ m r, P m r → ∀ i, r.getD i 0 < 10000) (hP2 : ∀ i r, P (i + 1) r → r.getD i 0 = 92 → i < r.length ∧ (∀ j, i + 1 ≤ j → j < te_en r (i + 1) → te_en r j ≤ te_en r (i + 1) ∧ ¬ r.getD j 0 = 92) ∧ ((ab_st r i).length ≤ 2000 → P i (ab_st r i))) (hP3 : ∀ i r, P (i + 1) r → ¬ r.getD i 0 = 92 → P i r) {t gt : Nat} {r0 : List Nat} {M : mm_M} {bf : List Nat × Nat} {en us : Nat → Int32} (hPr : P r.length r) (hA : ab_is M a b en us) (hT : te_is M a r0 ga) (hB : te_is M b bf.1 bf.2) (hS : te_is M t r gt) (hap : te_ap a t)
    (hQ : ∀ (M' : mm_M) (a' b' : Nat) (en' us' : Nat → Int32) (ga' : Nat) (ra' : List Nat) (bf' : List Nat × Nat), te_ab r.length r = some ra' → ab_is M' a' b' en' us' → te_is M' a' ra' ga' → te_is M' b' bf'.1 bf'.2 → mm_on aa_P M M' → Q (.inl (some (.int (nI 1)))) M')
    (hN : ∀ (M' : mm_M) (a' b' : Nat) (en' us' : Nat → Int32) (ga' : Nat) (ra' : List Nat) (bf' : List Nat × Nat), te_ab r.length r = none → ab_is M' a' b' en' us' → te_is M' a' ra' ga' → te_is M' b' bf'.1 bf'.2 → mm_on aa_P M M' → Q (.inl (some (.int (nI 0)))) M') : mm_Ct l sc Y_Ab_run M [.ref 47, .ref t] Q := by
  have h4 := hS.len
  obtain ⟨a1, a2, a3, a4⟩ := id hA
  obtain ⟨s1, s2, s3, s4, s5⟩ := ab_sep a4
  obtain ⟨f, t1, -⟩ := id hT
  refine mm_by k_Ab_run w_Ab_run rfl rfl ?_
  refine mg_run 1 rfl ?_
  refine mg_get rfl rfl a1 rfl ?_
  refine mg_run 1 rfl ?_
  refine mg_callV [.ref t] rfl rfl rfl t1 rfl rfl rfl rfl (c_Te_become hT hS hap (fun M1 p1 p2 => ?_))
  have hS1 : ∃ g9, te_is M1 t r g9 := ⟨gt, hS.keep p2 hap.1 hap.2⟩
  obtain ⟨g9, hS1⟩ := hS1
  obtain ⟨fs, u1, -⟩ := id hS1
  have A1 : ab_is M1 a b en us := ⟨(p2 47 s4.1).trans a1, (p2 48 s4.2.1).trans a2, (p2 49 s4.2.2).trans a3, a4⟩
  have B1 := hB.keep p2 s3.1 s3.2
  refine mg_run 1 rfl ?_
  refine mg_callV [] rfl rfl rfl u1 rfl rfl rfl rfl (c_Te_length hS1 ?_)
  refine mg_run 1 rfl ?_
  refine mg_x (M' := M1) (L' := [some (.ref 47), some (.ref t), none, none]) (S' := [.int (nI r.length - nI 1)]) rfl rfl ?_
  refine mg_run 1 rfl ?_
  have hon : mm_on aa_P M M1 := p2.wk (fun j h => by
    unfold te_P at h
    unfold aa_P
    rcases a4 with ⟨h1, h2⟩ | ⟨h1, h2⟩ <;> omega)
  exact lp_Ab_run P hP1 hP2 hP3 r.length a b r 0 none M1 bf en us h4 hPr A1 p1 B1 (fun M' a' b' en' us' ga' ra' bf' q0 q1 q2 q3 q4 => hQ M' a' b' en' us' ga' ra' bf' q0 q1 q2 q3 (hon.tr q4)) (fun M' a' b' en' us' ga' ra' bf' q0 q1 q2 q3 q4 => hN M' a' b' en' us' ga' ra' bf' q0 q1 q2 q3 (hon.tr q4))
theorem c_Ab_result {M : mm_M} {en us : Nat → Int32} (hA : ab_is M a b en us) (hQ : Q (.inl (some (.ref a))) M) : mm_Ct l sc Y_Ab_result M [.ref 47] Q := by
  refine mm_by k_Ab_result w_Ab_result rfl rfl ?_
  refine mg_run 1 rfl ?_
  refine mg_get rfl rfl hA.1 rfl ?_
  exact mg_ar rfl rfl rfl rfl hQ
end
