/-! The grammar over a whole text. -/
def gr_go (tp : List Nat) : Nat → Nat → gr_G → Nat ⊕ gr_G
  | 0, i, G => if gr_end G.1 G.2.1 G.2.2.1 G.2.2.2 = true then .inr G else .inl i
  | m + 1, i, G => match gr_step (tp.getD i 0) i G.1 G.2.1 G.2.2.1 G.2.2.2 with
    | none => .inl i
    | some G' => gr_go tp m (i + 1) G'
/-- a term begins at j -/
def bg (tp : List Nat) (j : Nat) : Prop := j = 0 ∨ (0 < j ∧ (tp.getD (j - 1) 0 = 46 ∨ tp.getD (j - 1) 0 = 40))
theorem bg_succ {tp : List Nat} {i : Nat} (h : bg tp (i + 1)) : tp.getD i 0 = 46 ∨ tp.getD i 0 = 40 := by
  rcases h with h | ⟨-, h⟩
  · omega
  · exact h
theorem bg_of {tp : List Nat} {i : Nat} (h : tp.getD i 0 = 46 ∨ tp.getD i 0 = 40) : bg tp (i + 1) := Or.inr ⟨by omega, h⟩
def gr_in (tp : List Nat) (i st : Nat) (ar : List Nat) (be : Nat) (am : Nat → Nat) : Prop := st < 5 ∧ (bg tp be ∧ be ≤ i) ∧ (∀ b ∈ ar, bg tp b ∧ b ≤ i) ∧ (∀ j, j ≤ i → bg tp j → am j ≤ i) ∧ ∀ j, j < i → tp.getD j 0 = 35 → (j + 1 < i ∧ 48 ≤ tp.getD (j + 1) 0) ∨ (j + 1 = i ∧ st = 3)
section
variable {tp : List Nat} {i st be : Nat} {ar : List Nat} {am : Nat → Nat}
theorem gr_35 (h : ∀ j, j < i → tp.getD j 0 = 35 → (j + 1 < i ∧ 48 ≤ tp.getD (j + 1) 0) ∨ (j + 1 = i ∧ st = 3)) (h3 : st = 3 → 48 ≤ tp.getD i 0) {st' : Nat} (h4 : tp.getD i 0 = 35 → st' = 3) : ∀ j, j < i + 1 → tp.getD j 0 = 35 → (j + 1 < i + 1 ∧ 48 ≤ tp.getD (j + 1) 0) ∨ (j + 1 = i + 1 ∧ st' = 3) := by
  intro j hj e
  by_cases hji : j = i
  · subst hji
    exact Or.inr ⟨rfl, h4 e⟩
  · rcases h j (by omega) e with ⟨h5, h6⟩ | ⟨h5, h6⟩
    · exact Or.inl ⟨by omega, h6⟩
    · refine Or.inl ⟨by omega, ?_⟩
      rw [h5]
      exact h3 h6
theorem gr_in_same (h : gr_in tp i st ar be am) (h3 : st = 3 → 48 ≤ tp.getD i 0) {st' : Nat} (h4 : tp.getD i 0 = 35 → st' = 3) (h5 : st' < 5) (h6 : ¬ (tp.getD i 0 = 46 ∨ tp.getD i 0 = 40)) : gr_in tp (i + 1) st' ar be am := by
  obtain ⟨a1, ⟨a2, a3⟩, a4, a5, a6⟩ := h
  refine ⟨h5, ⟨a2, by omega⟩, fun b hb => ⟨(a4 b hb).1, Nat.le_succ_of_le (a4 b hb).2⟩, fun j hj hg => ?_, gr_35 a6 h3 h4⟩
  by_cases e : j = i + 1
  · subst e
    exact absurd (bg_succ hg) h6
  · exact Nat.le_succ_of_le (a5 j (by omega) hg)
theorem gr_in_inc (h : gr_in tp i st ar be am) (h3 : st = 3 → 48 ≤ tp.getD i 0) {st' : Nat} (h4 : tp.getD i 0 = 35 → st' = 3) (h5 : st' < 5) (h6 : ¬ (tp.getD i 0 = 46 ∨ tp.getD i 0 = 40)) : gr_in tp (i + 1) st' ar be (gr_inc am be) := by
  obtain ⟨a1, ⟨a2, a3⟩, a4, a5, a6⟩ := id h
  obtain ⟨b1, b2, b3, b4, b5⟩ := gr_in_same h h3 h4 h5 h6
  refine ⟨b1, b2, b3, fun j hj hg => ?_, b5⟩
  unfold gr_inc nup
  by_cases e : j = be
  · rw [if_pos e]
    have := a5 be a3 a2
    omega
  · rw [if_neg e]
    exact b4 j hj hg
theorem gr_in_term {G : gr_G} (h : gr_in tp i st ar be am) (h3 : ¬ st = 3) (hs : gr_term (tp.getD i 0) i ar be am = some G) : gr_in tp (i + 1) G.1 G.2.1 G.2.2.1 G.2.2.2 := by
  have h3' : st = 3 → 48 ≤ tp.getD i 0 := fun h => absurd h h3
  obtain ⟨a1, ⟨a2, a3⟩, a4, a5, a6⟩ := id h
  unfold gr_term at hs
  by_cases c1 : tp.getD i 0 = 41
  · rw [if_pos c1] at hs
    cases ar with
    | nil => cases hs
    | cons b ar' =>
      have hs : (if am be = 0 then none else some ((0, ar', b, am) : gr_G)) = some G := hs
      by_cases c2 : am be = 0
      · rw [if_pos c2] at hs
        cases hs
      · rw [if_neg c2] at hs
        cases hs
        obtain ⟨b1, b2, b3, b4, b5⟩ := gr_in_same (st' := 0) h h3' (fun h => by omega) (by decide) (by omega)
        exact ⟨b1, b3 b List.mem_cons_self, fun x hx => b3 x (List.mem_cons_of_mem _ hx), b4, b5⟩
  · rw [if_neg c1] at hs
    by_cases c2 : tp.getD i 0 = 40
    · rw [if_pos c2] at hs
      by_cases c3 : ar.length < 20
      · rw [if_pos c3] at hs
        cases hs
        refine ⟨by show 0 < 5; decide, ⟨bg_of (Or.inr c2), Nat.le_refl _⟩, fun b hb => ?_, fun j hj hg => ?_, gr_35 a6 h3' (fun h => by omega)⟩
        · rcases List.mem_cons.mp hb with rfl | hb
          · exact ⟨a2, Nat.le_succ_of_le a3⟩
          · exact ⟨(a4 b hb).1, Nat.le_succ_of_le (a4 b hb).2⟩
        · show nup (gr_inc am be) (i + 1) 0 j ≤ i + 1
          unfold gr_inc nup
          by_cases e : j = i + 1
          · rw [if_pos e]; omega
          · rw [if_neg e]
            by_cases e2 : j = be
            · rw [if_pos e2]
              have := a5 be a3 a2
              omega
            · rw [if_neg e2]
              exact Nat.le_succ_of_le (a5 j (by omega) hg)
      · rw [if_neg c3] at hs
        cases hs
    · rw [if_neg c2] at hs
      by_cases c3 : tp.getD i 0 = 92
      · rw [if_pos c3] at hs
        cases hs
        exact gr_in_inc h h3' (fun h => by omega) (by show 1 < 5; decide) (by omega)
      · rw [if_neg c3] at hs
        by_cases c4 : tp.getD i 0 = 35
        · rw [if_pos c4] at hs
          cases hs
          exact gr_in_inc h h3' (fun h => rfl) (by show 3 < 5; decide) (by omega)
        · rw [if_neg c4] at hs
          by_cases c5 : 97 ≤ tp.getD i 0 ∧ tp.getD i 0 ≤ 122
          · rw [if_pos c5] at hs
            cases hs
            exact gr_in_inc h h3' (fun h => absurd h c4) (by show 0 < 5; decide) (by omega)
          · rw [if_neg c5] at hs
            by_cases c6 : tp.getD i 0 = 83 ∨ tp.getD i 0 = 75 ∨ tp.getD i 0 = 73
            · rw [if_pos c6] at hs
              cases hs
              exact gr_in_inc h h3' (fun h => absurd h c4) (by show 0 < 5; decide) (by omega)
            · rw [if_neg c6] at hs
              cases hs
theorem gr_in_rest {G : gr_G} {s2 : Nat} (h : gr_in tp i st ar be am) (h3 : ¬ st = 3) (hs2 : s2 < 5) (hs : gr_rest (tp.getD i 0) i s2 ar be am = some G) : gr_in tp (i + 1) G.1 G.2.1 G.2.2.1 G.2.2.2 := by
  have h3' : st = 3 → 48 ≤ tp.getD i 0 := fun h => absurd h h3
  obtain ⟨a1, ⟨a2, a3⟩, a4, a5, a6⟩ := id h
  unfold gr_rest at hs
  by_cases c1 : tp.getD i 0 = 32
  · rw [if_pos c1] at hs
    cases hs
    exact gr_in_same h h3' (fun h => by omega) hs2 (by omega)
  · rw [if_neg c1] at hs
    by_cases c2 : s2 = 0
    · rw [if_pos c2] at hs
      exact gr_in_term h h3 hs
    · rw [if_neg c2] at hs
      unfold gr_names at hs
      by_cases c5 : 97 ≤ tp.getD i 0 ∧ tp.getD i 0 ≤ 122
      · rw [if_pos c5] at hs
        cases hs
        exact gr_in_same h h3' (fun h => by omega) (by show 2 < 5; decide) (by omega)
      · rw [if_neg c5] at hs
        by_cases c6 : s2 = 2 ∧ tp.getD i 0 = 46
        · rw [if_pos c6] at hs
          cases hs
          refine ⟨by show 0 < 5; decide, ⟨bg_of (Or.inl c6.2), Nat.le_refl _⟩, fun b hb => ⟨(a4 b hb).1, Nat.le_succ_of_le (a4 b hb).2⟩, fun j hj hg => ?_, gr_35 a6 h3' (fun h => by omega)⟩
          show nup am (i + 1) 0 j ≤ i + 1
          unfold nup
          by_cases e : j = i + 1
          · rw [if_pos e]; omega
          · rw [if_neg e]
            exact Nat.le_succ_of_le (a5 j (by omega) hg)
        · rw [if_neg c6] at hs
          cases hs
theorem gr_in_step {G : gr_G} (h : gr_in tp i st ar be am) (hs : gr_step (tp.getD i 0) i st ar be am = some G) : gr_in tp (i + 1) G.1 G.2.1 G.2.2.1 G.2.2.2 := by
  unfold gr_step at hs
  by_cases c1 : st = 3
  · rw [if_pos c1] at hs
    by_cases c2 : 48 ≤ tp.getD i 0 ∧ tp.getD i 0 ≤ 57
    · rw [if_pos c2] at hs
      cases hs
      exact gr_in_same h (fun _ => c2.1) (fun h => by omega) (by show 4 < 5; decide) (by omega)
    · rw [if_neg c2] at hs
      cases hs
  · rw [if_neg c1] at hs
    by_cases c2 : st = 4
    · rw [if_pos c2] at hs
      by_cases c3 : 48 ≤ tp.getD i 0 ∧ tp.getD i 0 ≤ 57
      · rw [if_pos c3] at hs
        cases hs
        exact gr_in_same h (fun h => absurd h c1) (fun h => by omega) (by show 0 < 5; decide) (by omega)
      · rw [if_neg c3] at hs
        exact gr_in_rest h c1 (by decide) hs
    · rw [if_neg c2] at hs
      exact gr_in_rest h c1 h.1 hs
end
section
variable {l : Launch} {sc : Nat × (Nat → Int32)} {Q : mm_O → mm_M → Prop} {tp : List Nat}
theorem nI_bv (x : Int32) : x = nI x.toBitVec.toNat := Int32.toBitVec_inj.mp (by simp [nI])
theorem lp_Gr_firstWrong (hb : ∀ j, tp.getD j 0 < 256) : ∀ m i (M : mm_M) (G : gr_G), ta_is M 28 tp → gr_iG M G → gr_in tp i G.1 G.2.1 G.2.2.1 G.2.2.2 → tp.length - i = m → i ≤ tp.length →
    (∀ G', gr_go tp m i G = .inr G' → ∀ M', gr_iG M' G' → gr_in tp tp.length G'.1 G'.2.1 G'.2.2.1 G'.2.2.2 → mm_on (mm_rg 30 32) M M' → Q (.inl (some (.int (-1)))) M') →
    (∀ j, gr_go tp m i G = .inl j → j ≤ tp.length → ∀ M', lb_gra M' → mm_on (mm_rg 30 32) M M' → Q (.inl (some (.int (nI j)))) M') →
    mm_Go l sc Y_Gr_firstWrong 0 0 M [some (.ref 30), some (.ref 28), some (.int (nI i))] [] 12 Q := by
  intro m
  induction m with
  | zero =>
    intro i M G hT hG hI hm hi hQ hN
    obtain ⟨ft, t1, t2, t3, t4⟩ := id hT
    obtain ⟨f, w, ⟨g1, g2, g3⟩, hf, hw, hl, hbe, har⟩ := id hG
    have hab := hI.2.2.2.1 _ hI.2.1.2 hI.2.1.1
    refine mg_run 2 rfl ?_
    refine mg_callV [] rfl rfl rfl t1 rfl rfl rfl rfl (c_Ta_length hT ?_)
    refine mg_ge rfl (by omega) (by omega) (fun _ => ?_) (fun h => absurd h (by omega))
    have e : i = tp.length := by omega
    refine mg_run 1 rfl ?_
    refine mg_callV [] rfl rfl rfl g1 rfl rfl rfl rfl (c_Gr_mayEnd hG hI.1 (by omega) (fun h => ?_) (fun h => ?_))
    · refine mg_zeq rfl (by decide) (fun h => absurd h (by decide)) (fun _ => ?_)
      refine mg_run 2 rfl ?_
      refine mg_ir rfl rfl rfl rfl ?_
      rw [e] at hI
      exact hQ G (if_pos h) M hG hI (mm_on.rf _ M)
    · refine mg_zeq rfl (by decide) (fun _ => ?_) (fun h => absurd h (by decide))
      refine mg_run 1 rfl ?_
      refine mg_callV [] rfl rfl rfl t1 rfl rfl rfl rfl (c_Ta_length hT ?_)
      refine mg_ir rfl rfl rfl rfl ?_
      refine hN tp.length ?_ (Nat.le_refl _) M hG.gra (mm_on.rf _ M)
      rw [gr_go, h, e]
      exact if_neg (by decide)
  | succ m ih =>
    intro i M G hT hG hI hm hi hQ hN
    obtain ⟨ft, t1, t2, t3, t4⟩ := id hT
    obtain ⟨f, w, ⟨g1, g2, g3⟩, hf, hw, hl, hbe, har⟩ := id hG
    have hab := hI.2.2.2.1 _ hI.2.1.2 hI.2.1.1
    refine mg_run 2 rfl ?_
    refine mg_callV [] rfl rfl rfl t1 rfl rfl rfl rfl (c_Ta_length hT ?_)
    refine mg_ge rfl (by omega) (by omega) (fun h => absurd h (by omega)) (fun _ => ?_)
    refine mg_run 3 rfl ?_
    refine mg_callV [.int (nI i)] rfl rfl rfl t1 rfl rfl rfl rfl (c_Ta_at hT (by omega) ?_)
    refine mg_run 1 rfl ?_
    refine mg_callV [.int (nI (tp.getD i 0)), .int (nI i)] rfl rfl rfl g1 rfl rfl rfl rfl (c_Gr_accepts hG (by omega) (hb i) hI.1 (by omega) (fun G' q1 M1 q2 q3 => ?_) (fun q1 M1 q2 q3 => ?_))
    · refine mg_zne rfl (by decide) (fun _ => ?_) (fun h => absurd h (by decide))
      refine mg_incN rfl rfl rfl ?_
      refine mg_run 1 rfl ?_
      have e : gr_go tp (m + 1) i G = gr_go tp m (i + 1) G' := by rw [gr_go, q1]
      rw [e] at hQ hN
      exact ih (i + 1) M1 G' (ta_keep hT q3 (by omega)) q2 (gr_in_step hI q1) (by omega) (by omega) (fun G2 p1 M' p2 p3 p4 => hQ G2 p1 M' p2 p3 (q3.tr p4)) (fun j p1 p2 M' p3 p4 => hN j p1 p2 M' p3 (q3.tr p4))
    · refine mg_zne rfl (by decide) (fun h => absurd h (by decide)) (fun _ => ?_)
      refine mg_run 1 rfl ?_
      refine mg_ir rfl rfl rfl rfl ?_
      refine hN i ?_ hi M1 q2 q3
      rw [gr_go, q1]
theorem c_Gr_firstWrong {M : mm_M} (hb : ∀ j, tp.getD j 0 < 256) (hT : ta_is M 28 tp) (hg : lb_gra M)
    (hQ : ∀ am G, gr_go tp tp.length 0 (0, [], 0, nup am 0 0) = .inr G → ∀ M', gr_iG M' G → gr_in tp tp.length G.1 G.2.1 G.2.2.1 G.2.2.2 → mm_on (mm_rg 30 32) M M' → Q (.inl (some (.int (-1)))) M')
    (hN : ∀ am j, gr_go tp tp.length 0 (0, [], 0, nup am 0 0) = .inl j → j ≤ tp.length → ∀ M', lb_gra M' → mm_on (mm_rg 30 32) M M' → Q (.inl (some (.int (nI j)))) M') : mm_Ct l sc Y_Gr_firstWrong M [.ref 30, .ref 28] Q := by
  obtain ⟨op, bx, sx, f, w, g1, g2, g3⟩ := hg
  refine mm_by k_Gr_firstWrong w_Gr_firstWrong rfl rfl ?_
  refine mg_run 2 rfl ?_
  refine mg_put rfl rfl g1 rfl rfl ?_
  have a1 := mm_at_set (.inr (3, [.ref 31, .ref 32, .int (nI 0), .int bx, .int sx])) g1
  refine mg_run 2 rfl ?_
  refine mg_callV [.int (nI 0)] rfl rfl rfl a1 rfl rfl rfl rfl (c_Gr_beginTerm ⟨a1, mm_at_ne (by decide) g2, mm_at_ne (by decide) g3⟩ (by decide) (fun M1 q1 q2 => ?_))
  refine mg_run 2 rfl ?_
  have hon := (on_30 (M := M) _).tr q2
  refine lp_Gr_firstWrong hb _ 0 M1 (0, [], 0, nup (fun j => (f j).toBitVec.toNat) 0 0) (ta_keep hT hon (by omega)) ⟨_, w, q1, nup_upd (fun j _ => nI_bv (f j)) 0 0, fun j hj => absurd hj (Nat.not_lt_zero j), Nat.zero_le _, by show 0 < 401; decide, fun b hb => absurd hb (by show ¬ b ∈ []; exact List.not_mem_nil)⟩ ?_ rfl (Nat.zero_le _) (fun G p1 M' p2 p3 p4 => hQ _ G p1 M' p2 p3 (hon.tr p4)) (fun j p1 p2 M' p3 p4 => hN _ j p1 p2 M' p3 (hon.tr p4))
  refine ⟨by show 0 < 5; decide, ⟨Or.inl rfl, Nat.le_refl _⟩, fun b hb => absurd hb (by show ¬ b ∈ []; exact List.not_mem_nil), fun j hj _ => ?_, fun j hj => absurd hj (Nat.not_lt_zero j)⟩
  have e : j = 0 := by omega
  subst e
  exact Nat.le_refl _
theorem c_Gr_atomsFrom {M : mm_M} {st be : Nat} {ar : List Nat} {am : Nat → Nat} (h : gr_is M st ar be am) {p : Nat} (hp : p < 401) (hQ : Q (.inl (some (.int (nI (am p))))) M) : mm_Ct l sc Y_Gr_atomsFrom M [.ref 30, .int (nI p)] Q := by
  obtain ⟨f, w, ⟨g1, g2, g3⟩, hf, hw, hl, hbe, har⟩ := h
  refine mm_by k_Gr_atomsFrom w_Gr_atomsFrom rfl rfl ?_
  refine mg_run 1 rfl ?_
  refine mg_zlt rfl (by omega) ?_
  refine mg_run 2 rfl ?_
  refine mg_gt rfl (by omega) (by decide) (fun h => absurd h (by omega)) (fun h => ?_)
  refine mg_run 1 rfl ?_
  refine mg_get rfl rfl g1 rfl ?_
  refine mg_run 1 rfl ?_
  refine mg_ildN rfl g2 (by decide) hp ?_
  rw [hf p hp]
  refine mg_run 1 rfl ?_
  exact mg_ir rfl rfl rfl rfl hQ
end
