/-! The abstractor: ends and uses, parts without the variable. -/
theorem te_sc_add : ∀ (l : List Nat) (p q : Nat), te_sc l (p + q) = te_sc l p + te_sc (l.drop (te_sc l p)) q := by
  intro l
  induction l with
  | nil => intro p q; rfl
  | cons c l ih =>
    intro p q
    cases p with
    | zero => rw [Nat.zero_add, te_sc0, List.drop_zero, Nat.zero_add]
    | succ p =>
      have e : p + 1 + q = (p + q) + 1 := by omega
      rw [e]
      show te_sc l (if c = 64 then p + q + 2 else if c = 92 then p + q + 1 else p + q) + 1 = te_sc l (if c = 64 then p + 2 else if c = 92 then p + 1 else p) + 1 + te_sc (l.drop (te_sc l (if c = 64 then p + 2 else if c = 92 then p + 1 else p))) q
      have e2 : (if c = 64 then p + q + 2 else if c = 92 then p + q + 1 else p + q) = (if c = 64 then p + 2 else if c = 92 then p + 1 else p) + q := by
        split
        · omega
        · split <;> omega
      rw [e2, ih]
      omega
theorem te_en_app {r : List Nat} {i : Nat} (hi : i < r.length) (hc : r.getD i 0 = 64) : te_en r i = te_en r (te_en r (i + 1)) := by
  unfold te_en
  rw [te_drop hi, te_sc, if_pos hc]
  show i + (te_sc (r.drop (i + 1)) (1 + 1) + 1) = _
  rw [te_sc_add, List.drop_drop]
  omega
theorem te_en_leaf {r : List Nat} {i : Nat} (hi : i < r.length) (hc : ¬ r.getD i 0 = 64) (hc2 : ¬ r.getD i 0 = 92) : te_en r i = i + 1 := by
  unfold te_en
  rw [te_drop hi, te_sc, if_neg hc, if_neg hc2, te_sc0]
def ab_is (M : mm_M) (a b : Nat) (en us : Nat → Int32) : Prop := M[47]? = some (.inr (0, [.ref 48, .ref 49, .ref a, .ref b])) ∧ M[48]? = some (.inl (0, 2001, .inl en)) ∧ M[49]? = some (.inl (0, 2001, .inl us)) ∧ ((a = 50 ∧ b = 52) ∨ (a = 52 ∧ b = 50))
def ab_P (i : Nat) : Prop := i = 48 ∨ i = 49
theorem ab_sep {a b : Nat} (h : (a = 50 ∧ b = 52) ∨ (a = 52 ∧ b = 50)) : (¬ te_P b 47 ∧ ¬ te_P b 48 ∧ ¬ te_P b 49) ∧ te_ap b a ∧ te_ap a b ∧ (¬ te_P a 47 ∧ ¬ te_P a 48 ∧ ¬ te_P a 49) ∧ (¬ ab_P a ∧ ¬ ab_P (a + 1) ∧ ¬ ab_P b ∧ ¬ ab_P (b + 1)) := by
  unfold te_ap te_P ab_P
  rcases h with ⟨rfl, rfl⟩ | ⟨rfl, rfl⟩ <;> decide
theorem ab_is.keep {M M' : mm_M} {a b : Nat} {en us : Nat → Int32} (h : ab_is M a b en us) (hon : mm_on (te_P b) M M') : ab_is M' a b en us := by
  obtain ⟨h1, h2, h3, h4⟩ := h
  obtain ⟨⟨s1, s2, s3⟩, -⟩ := ab_sep h4
  exact ⟨by rw [hon 47 s1]; exact h1, by rw [hon 48 s2]; exact h2, by rw [hon 49 s3]; exact h3, h4⟩
/-- where a place's part ends, within the body that ends at e -/
def ab_E (r : List Nat) (e i : Nat) : Nat := if i < e then te_en r i else e
/-- how often the variable stands from s on before i -/
def ab_U (r : List Nat) (s : Nat) : Nat → Nat
  | 0 => 0
  | n + 1 => ab_U r s n + if r.getD (s + n) 0 = 1000 then 1 else 0
theorem ab_U_le (r : List Nat) (s : Nat) : ∀ n, ab_U r s n ≤ n := by
  intro n
  induction n with
  | zero => exact Nat.le_refl _
  | succ n ih => unfold ab_U; split <;> omega
section
variable {l : Launch} {sc : Nat × (Nat → Int32)} {Q : mm_O → mm_M → Prop} {a b ga : Nat} {r : List Nat}
theorem lp_Ab_ends {s e : Nat} (hb : ∀ i, r.getD i 0 < 2 ^ 31) (hs : s ≤ e) (he : e ≤ r.length) (hE : ∀ i, s ≤ i → i < e → te_en r i ≤ e ∧ ¬ r.getD i 0 = 92) : ∀ m (M : mm_M) (en us : Nat → Int32), ab_is M a b en us → te_is M a r ga → m + s ≤ e → (∀ i, m + s ≤ i → i ≤ e → en i = nI (ab_E r e i)) →
    (∀ M' en', ab_is M' a b en' us → te_is M' a r ga → (∀ i, s ≤ i → i ≤ e → en' i = nI (ab_E r e i)) → mm_on (fun i => i = 48) M M' → mm_Go l sc Y_Ab_measure 0 0 M' [some (.ref 47), some (.int (nI s)), some (.int (nI e)), some (.int (nI s - 1))] [] 60 Q) →
    mm_Go l sc Y_Ab_measure 0 0 M [some (.ref 47), some (.int (nI s)), some (.int (nI e)), some (.int (nI (m + s) - 1))] [] 11 Q := by
  intro m
  induction m with
  | zero =>
    intro M en us hA hT hm hen hK
    have h4 := hT.len
    rw [Nat.zero_add] at hen ⊢
    refine mg_run 2 rfl ?_
    refine mg_icmp rfl (fun h => ?_) (fun h => ?_)
    · exact hK M en hA hT hen (mm_on.rf _ M)
    · exfalso
      refine h (show nI s - 1 < nI s from ?_)
      rw [Int32.lt_iff_toInt_lt]
      have h8 : (nI s - nI 1).toInt = (s : Int) - 1 := pk_sub_toInt (by omega) (by decide)
      have h7 : nI s - 1 = nI s - nI 1 := rfl
      rw [h7, h8, nI_toInt (by omega)]
      omega
  | succ m ih =>
    intro M en us hA hT hm hen hK
    have h4 := hT.len
    obtain ⟨a1, a2, a3, a4⟩ := id hA
    obtain ⟨s1, s2, s3, s4, s5⟩ := ab_sep a4
    obtain ⟨f, t1, -⟩ := id hT
    have e0 : nI (m + 1 + s) - 1 = nI (m + s) := by rw [show m + 1 + s = (m + s) + 1 by omega]; exact nI_pred _
    rw [e0]
    obtain ⟨q1, q2⟩ := hE (m + s) (by omega) (by omega)
    have hlt : m + s < r.length := by omega
    refine mg_run 2 rfl ?_
    refine mg_lt rfl (by omega) (by omega) (fun h => absurd h (by omega)) (fun h => ?_)
    refine mg_run 1 rfl ?_
    refine mg_get rfl rfl a1 rfl ?_
    refine mg_run 2 rfl ?_
    refine mg_get rfl rfl a1 rfl ?_
    refine mg_run 1 rfl ?_
    refine mg_callV [.int (nI (m + s))] rfl rfl rfl t1 rfl rfl rfl rfl (c_Te_at hT (by omega) ?_)
    refine mg_run 1 rfl ?_
    have hst : ∀ z, z = ab_E r e (m + s) → mm_Go l sc Y_Ab_measure 0 0 (M.set 48 (.inl (0, 2001, .inl (upd en (m + s) (nI z))))) [some (.ref 47), some (.int (nI s)), some (.int (nI e)), some (.int (nI (m + s)))] [] 54 Q := by
      intro z hz
      have c2 := mm_at_set (.inl (0, 2001, .inl (upd en (m + s) (nI z)))) a2
      have hon : mm_on (fun i => i = 48) M (M.set 48 (.inl (0, 2001, .inl (upd en (m + s) (nI z))))) := mm_on.set M _ rfl
      have hA' : ab_is (M.set 48 (.inl (0, 2001, .inl (upd en (m + s) (nI z))))) a b (upd en (m + s) (nI z)) us := ⟨mm_at_ne (by decide) a1, c2, mm_at_ne (by decide) a3, a4⟩
      have hT' := hT.keep hon (fun h => s5.1 (Or.inl h)) (fun h => s5.2.1 (Or.inl h))
      refine mg_x (M' := M.set 48 (.inl (0, 2001, .inl (upd en (m + s) (nI z))))) (L' := [some (.ref 47), some (.int (nI s)), some (.int (nI e)), some (.int (nI (m + s) + -1))]) (S' := []) rfl rfl ?_
      refine mg_run 1 rfl ?_
      have e1 : nI (m + s) + -1 = nI (m + s) - 1 := by rw [Int32.sub_eq_add_neg]
      rw [e1]
      refine ih _ _ us hA' hT' (by omega) (fun i h1 h2 => ?_) (fun M' en' k1 k2 k3 k4 => hK M' en' k1 k2 k3 (hon.tr k4))
      by_cases hi : i = m + s
      · subst hi
        rw [pk_us, hz]
      · rw [pk_un hi]
        exact hen i (by omega) h2
    refine mg_ne rfl (hb _) (by decide) (fun h9 => ?_) (fun h9 => ?_)
    · refine mg_run 2 rfl ?_
      refine mg_addN rfl ?_
      refine mg_istN rfl a2 (by decide) (by omega) ?_
      exact hst _ (by unfold ab_E; rw [if_pos (by omega), te_en_leaf hlt h9 q2])
    · have hap := te_en_app hlt h9
      have hg1 := te_en_ge r (te_en r (m + s + 1))
      have hg2 := te_en_ge r (m + s + 1)
      have hEn1 : ab_E r e (m + s + 1) = te_en r (m + s + 1) := by
        unfold ab_E
        by_cases h8 : m + s + 1 < e
        · rw [if_pos h8]
        · rw [if_neg h8]; omega
      have hEn2 : ab_E r e (te_en r (m + s + 1)) = te_en r (te_en r (m + s + 1)) := by
        unfold ab_E
        by_cases h8 : te_en r (m + s + 1) < e
        · rw [if_pos h8]
        · rw [if_neg h8]; omega
      refine mg_run 1 rfl ?_
      refine mg_get rfl rfl a1 rfl ?_
      refine mg_run 1 rfl ?_
      refine mg_get rfl rfl a1 rfl ?_
      refine mg_run 2 rfl ?_
      refine mg_addN rfl ?_
      refine mg_ildN rfl a2 (by decide) (by omega) ?_
      rw [hen (m + s + 1) (by omega) (by omega), hEn1]
      refine mg_ildN rfl a2 (by decide) (by omega) ?_
      rw [hen (te_en r (m + s + 1)) (by omega) (by omega), hEn2]
      refine mg_run 1 rfl ?_
      refine mg_istN rfl a2 (by decide) (by omega) ?_
      exact hst _ (by unfold ab_E; rw [if_pos (by omega), hap])
theorem lp_Ab_uses {s e : Nat} (hb : ∀ i, r.getD i 0 < 2 ^ 31) (hs : s ≤ e) (he : e ≤ r.length) : ∀ m k (M : mm_M) (en us : Nat → Int32), ab_is M a b en us → te_is M a r ga → e - (s + k) = m → s + k ≤ e → (∀ j, j ≤ k → us (s + j) = nI (ab_U r s j)) →
    (∀ M' us', ab_is M' a b en us' → te_is M' a r ga → (∀ j, j ≤ e - s → us' (s + j) = nI (ab_U r s j)) → mm_on (fun i => i = 49) M M' → Q (.inl none) M') →
    mm_Go l sc Y_Ab_measure 0 0 M [some (.ref 47), some (.int (nI s)), some (.int (nI e)), some (.int (nI (s + k)))] [] 69 Q := by
  intro m
  induction m with
  | zero =>
    intro k M en us hA hT hm hk hus hQ
    have h4 := hT.len
    refine mg_run 2 rfl ?_
    refine mg_ge rfl (by omega) (by omega) (fun h => ?_) (fun h => absurd h (by omega))
    refine mg_vr rfl rfl rfl rfl ?_
    exact hQ M us hA hT (fun j hj => hus j (by omega)) (mm_on.rf _ M)
  | succ m ih =>
    intro k M en us hA hT hm hk hus hQ
    have h4 := hT.len
    obtain ⟨a1, a2, a3, a4⟩ := id hA
    obtain ⟨s1, s2, s3, s4, s5⟩ := ab_sep a4
    obtain ⟨f, t1, -⟩ := id hT
    have hUk := ab_U_le r s k
    refine mg_run 2 rfl ?_
    refine mg_ge rfl (by omega) (by omega) (fun h => absurd h (by omega)) (fun h => ?_)
    refine mg_run 1 rfl ?_
    refine mg_get rfl rfl a1 rfl ?_
    refine mg_run 2 rfl ?_
    refine mg_addN rfl ?_
    refine mg_run 1 rfl ?_
    refine mg_get rfl rfl a1 rfl ?_
    refine mg_run 1 rfl ?_
    refine mg_ildN rfl a3 (by decide) (by omega) ?_
    rw [hus k (Nat.le_refl _)]
    refine mg_run 1 rfl ?_
    refine mg_get rfl rfl a1 rfl ?_
    refine mg_run 1 rfl ?_
    refine mg_callV [.int (nI (s + k))] rfl rfl rfl t1 rfl rfl rfl rfl (c_Te_at hT (by omega) ?_)
    refine mg_run 1 rfl ?_
    have hst : ∀ z, z = ab_U r s (k + 1) → mm_Go l sc Y_Ab_measure 0 0 (M.set 49 (.inl (0, 2001, .inl (upd us (s + k + 1) (nI z))))) [some (.ref 47), some (.int (nI s)), some (.int (nI e)), some (.int (nI (s + k)))] [] 108 Q := by
      intro z hz
      have c2 := mm_at_set (.inl (0, 2001, .inl (upd us (s + k + 1) (nI z)))) a3
      have hon : mm_on (fun i => i = 49) M (M.set 49 (.inl (0, 2001, .inl (upd us (s + k + 1) (nI z))))) := mm_on.set M _ rfl
      have hA' : ab_is (M.set 49 (.inl (0, 2001, .inl (upd us (s + k + 1) (nI z))))) a b en (upd us (s + k + 1) (nI z)) := ⟨mm_at_ne (by decide) a1, mm_at_ne (by decide) a2, c2, a4⟩
      have hT' := hT.keep hon (fun h => s5.1 (Or.inr h)) (fun h => s5.2.1 (Or.inr h))
      refine mg_incN rfl rfl rfl ?_
      refine mg_run 1 rfl ?_
      refine ih (k + 1) _ en _ hA' hT' (by omega) (by omega) (fun j hj => ?_) (fun M' us' k1 k2 k3 k4 => hQ M' us' k1 k2 k3 (hon.tr k4))
      by_cases hj2 : j = k + 1
      · subst hj2
        rw [show s + (k + 1) = s + k + 1 by omega, pk_us, hz]
      · rw [pk_un (by omega)]
        exact hus j (by omega)
    refine mg_ne rfl (hb _) (by decide) (fun h9 => ?_) (fun h9 => ?_)
    · refine mg_run 1 rfl ?_
      refine mg_addN rfl ?_
      refine mg_istN rfl a3 (by decide) (by omega) ?_
      exact hst _ (by rw [ab_U, if_neg h9])
    · refine mg_run 2 rfl ?_
      refine mg_addN rfl ?_
      refine mg_istN rfl a3 (by decide) (by omega) ?_
      exact hst _ (by rw [ab_U, if_pos h9])
theorem c_Ab_measure {M : mm_M} {en us : Nat → Int32} {s e : Nat} (hb : ∀ i, r.getD i 0 < 2 ^ 31) (hs : s ≤ e) (he : e ≤ r.length) (hE : ∀ i, s ≤ i → i < e → te_en r i ≤ e ∧ ¬ r.getD i 0 = 92) (hA : ab_is M a b en us) (hT : te_is M a r ga)
    (hQ : ∀ M' en' us', ab_is M' a b en' us' → te_is M' a r ga → (∀ i, s ≤ i → i ≤ e → en' i = nI (ab_E r e i)) → (∀ j, j ≤ e - s → us' (s + j) = nI (ab_U r s j)) → mm_on ab_P M M' → Q (.inl none) M') : mm_Ct l sc Y_Ab_measure M [.ref 47, .int (nI s), .int (nI e)] Q := by
  have h4 := hT.len
  obtain ⟨a1, a2, a3, a4⟩ := id hA
  obtain ⟨s1, s2, s3, s4, s5⟩ := ab_sep a4
  refine mm_by k_Ab_measure w_Ab_measure rfl rfl ?_
  refine mg_run 1 rfl ?_
  refine mg_get rfl rfl a1 rfl ?_
  refine mg_run 2 rfl ?_
  refine mg_istN rfl a2 (by decide) (by omega) ?_
  have c2 := mm_at_set (.inl (0, 2001, .inl (upd en e (nI e)))) a2
  have hon : mm_on (fun i => i = 48) M (M.set 48 (.inl (0, 2001, .inl (upd en e (nI e))))) := mm_on.set M _ rfl
  have hA' : ab_is (M.set 48 (.inl (0, 2001, .inl (upd en e (nI e))))) a b (upd en e (nI e)) us := ⟨mm_at_ne (by decide) a1, c2, mm_at_ne (by decide) a3, a4⟩
  have hT' := hT.keep hon (fun h => s5.1 (Or.inl h)) (fun h => s5.2.1 (Or.inl h))
  refine mg_run 2 rfl ?_
  refine mg_x (M' := M.set 48 (.inl (0, 2001, .inl (upd en e (nI e))))) (L' := [some (.ref 47), some (.int (nI s)), some (.int (nI e)), none]) (S' := [.int (nI e - nI 1)]) rfl rfl ?_
  refine mg_run 1 rfl ?_
  have e1 : e = (e - s) + s := by omega
  have hgo := lp_Ab_ends (l := l) (sc := sc) (Q := Q) hb hs he hE (e - s) _ (upd en e (nI e)) us hA' hT' (by omega) (fun i h1 h2 => by
    have hi : i = e := by omega
    subst hi
    rw [pk_us]
    unfold ab_E
    rw [if_neg (Nat.lt_irrefl _)]) (fun M1 en1 k1 k2 k3 k4 => by
      obtain ⟨b1, b2, b3, b4⟩ := id k1
      refine mg_run 1 rfl ?_
      refine mg_get rfl rfl b1 rfl ?_
      refine mg_run 2 rfl ?_
      refine mg_istN rfl b3 (by decide) (by omega) ?_
      have d2 := mm_at_set (.inl (0, 2001, .inl (upd us s (nI 0)))) b3
      have hon2 : mm_on (fun i => i = 49) M1 (M1.set 49 (.inl (0, 2001, .inl (upd us s (nI 0))))) := mm_on.set M1 _ rfl
      have hA2 : ab_is (M1.set 49 (.inl (0, 2001, .inl (upd us s (nI 0))))) a b en1 (upd us s (nI 0)) := ⟨mm_at_ne (by decide) b1, mm_at_ne (by decide) b2, d2, b4⟩
      have hT2 := k2.keep hon2 (fun h => s5.1 (Or.inr h)) (fun h => s5.2.1 (Or.inr h))
      refine mg_run 2 rfl ?_
      refine lp_Ab_uses hb hs he _ 0 _ en1 _ hA2 hT2 rfl hs (fun j hj => ?_) (fun M' us' q1 q2 q3 q4 => ?_)
      · have hj0 : j = 0 := by omega
        subst hj0
        rw [Nat.add_zero, pk_us]; rfl
      · exact hQ M' en1 us' q1 q2 k3 q3 ((((hon.wk (fun i h => Or.inl h)).tr (k4.wk (fun i h => Or.inl h))).tr (hon2.wk (fun i h => Or.inr h))).tr (q4.wk (fun i h => Or.inr h))))
  rw [← e1] at hgo
  exact hgo
end
