/-! The reference: a step whole. -/
theorem te_end_en {r : List Nat} {i : Nat} (hcl : cl r) (hi : i < r.length) (h : ¬ te_rh r i = 0) : te_end r i = te_en r i := by
  unfold te_end
  rcases rh_or r i with e | e | e | e | e
  · exact absurd e h
  · obtain ⟨a, b⟩ := rh_92 e
    have h2 := (cl_app2 hcl hi a).1
    rw [if_pos e, en_app hi a, en_abs (by omega) b]
  · obtain ⟨a, b⟩ := rh_73 e
    have h2 := (cl_app2 hcl hi a).1
    rw [if_neg (by omega), if_neg (by omega), if_neg (by omega), en_app hi a, en_leaf (show i + 1 < r.length by omega) (by omega) (by omega)]
  · obtain ⟨a, b, c⟩ := rh_75 e
    have h2 := cl_app3 hcl hi a b
    rw [if_neg (by omega), if_neg (by omega), if_pos e, en_app hi a, en_app (show i + 1 < r.length by omega) b, en_leaf (show i + 1 + 1 < r.length by omega) (by rw [show i + 1 + 1 = i + 2 by omega]; omega) (by rw [show i + 1 + 1 = i + 2 by omega]; omega)]
  · obtain ⟨a, b, c, d⟩ := rh_83 e
    have h2 := cl_app3 hcl hi a b
    rw [if_neg (by omega), if_pos e, en_app hi a, en_app (show i + 1 < r.length by omega) b, en_app (show i + 1 + 1 < r.length by omega) c, en_leaf (show i + 1 + 1 + 1 < r.length by omega) (by rw [show i + 1 + 1 + 1 = i + 3 by omega]; omega) (by rw [show i + 1 + 1 + 1 = i + 3 by omega]; omega)]
section
variable {l : Launch} {sc : Nat × (Nat → Int32)} {M0 M : mm_M} {Q : mm_O → mm_M → Prop} {r : List Nat} {x : Nat → Int32} {A : Nat → Nat → Int32}
theorem c_Mo_step (hv : ∀ i, r.getD i 0 < 10000) (hz : ∀ i, i < r.length → ¬ r.getD i 0 = 0) (hcl : cl r) (h : mo_is M0 M x A) (hR : ro_is x A r)
    (h0 : te_fr r r.length 0 = none → Q (.inl (some (.int (nI 1)))) M)
    (h1 : ∀ i, te_fr r r.length 0 = some i → (te_step r i).length ≤ 2000 → ∀ M' x' A', mo_is M0 M' x' A' → fx [8, 10, 11] x x' → fa [3, 4, 5, 6] A A' → ro_is x' A' (te_step r i) → Q (.inl (some (.int (nI 0)))) M')
    (h3 : ∀ i, te_fr r r.length 0 = some i → 2000 < (te_step r i).length → ∀ M' x' A', mo_is M0 M' x' A' → fx [8, 10, 11] x x' → fa [3, 4, 5, 6] A A' → ro_is x' A' r → Q (.inl (some (.int (nI 3)))) M') : mm_Ct l sc Y_Mo_step M [.ref 54] Q := by
  have h4 := hR.2.1
  refine mm_by k_Mo_step w_Mo_step rfl rfl ?_
  refine mg_run 1 rfl ?_
  refine mg_callV [] rfl rfl rfl h.2.1 rfl rfl rfl rfl (c_Mo_find h hR hv hcl ?_)
  cases hf : te_fr r r.length 0 with
  | none =>
    refine mg_run 2 rfl ?_
    refine mg_zgeM rfl ?_
    refine mg_run 1 rfl ?_
    exact mg_ir rfl rfl rfl rfl (h0 hf)
  | some i =>
    obtain ⟨hrh, -, hi0⟩ := te_fr_some _ _ _ hf
    have hi : i < r.length := by omega
    have ndi := hcl i hi
    have hrx := rx_lt (te_rh r i)
    refine mg_run 2 rfl ?_
    refine mg_zge rfl (by omega) ?_
    refine mg_run 2 rfl ?_
    refine mg_callV [.int (nI i)] rfl rfl rfl h.2.1 rfl rfl rfl rfl (c_Mo_redex h hR hv hcl hi ?_)
    refine mg_run 2 rfl ?_
    refine mg_callV [] rfl rfl rfl h.2.1 rfl rfl rfl rfl (c_Mo_begin h (fun M1 x1 a1 a2 a3 => ?_))
    have R1 := hR.fr a2 (fa.rf [] A) (by decide) (by decide)
    refine mg_run 2 rfl ?_
    refine lp_Mo_step1 (by omega) _ 0 M1 x1 A [] a1 R1 a3 rfl (Nat.zero_le _) (fun M2 x2 A2 b1 b2 b3 b4 => ?_)
    have R2 := R1.fr b2 b3 (by decide) (by decide)
    have b4 : nx_is x2 A2 (r.take i) := b4
    have mid : ∀ M3 x3 A3, mo_is M0 M3 x3 A3 → fx [10, 11] x2 x3 → fa [4, 5, 6] A2 A3 → nx_is x3 A3 (r.take i ++ te_out r i) →
        mm_Go l sc Y_Mo_step 0 0 M3 [some (.ref 54), some (.int (nI i)), some (.int (nI (rx (te_rh r i)))), some (.int (nI i))] [] 101 Q := by
      intro M3 x3 A3 c1 c2 c3 c4
      have R3 := R2.fr c2 c3 (by decide) (by decide)
      refine mg_run 2 rfl ?_
      refine mg_callV [.int (nI i)] rfl rfl rfl c1.2.1 rfl rfl rfl rfl (c_Mo_behind c1 R3 hv ndi ?_)
      refine mg_run 1 rfl ?_
      have F : fx [8, 10, 11] x x3 := ((a2.tr b2).tr c2).wk (by decide)
      have G : fa [3, 4, 5, 6] A A3 := (b3.wk (by decide)).tr (c3.wk (by decide))
      have e : r.take i ++ te_out r i ++ r.drop (te_en r i) = te_step r i := by
        unfold te_step
        rw [te_end_en hcl hi hrh]
      refine lp_Mo_step2 _ (te_en r i) M3 x3 A3 _ c1 R3 c4 rfl (te_en_le (by omega)) (fun o1 M' x' A' q1 q2 q3 q4 => ?_) (fun o1 M' x' A' q1 q2 q3 q4 => ?_)
      · rw [e] at o1 q4
        exact h1 i hf o1 M' x' A' q1 (F.tr q2) (G.tr (q3.wk (by decide))) q4
      · rw [e] at o1
        exact h3 i hf o1 M' x' A' q1 (F.tr q2) (G.tr (q3.wk (by decide))) q4
    refine mg_run 2 rfl ?_
    rcases rh_or r i with e | e | e | e | e
    · exact absurd e hrh
    · obtain ⟨a, b⟩ := rh_92 e
      have k2 := (cl_app2 hcl hi a).1
      have n1 := nd_s hi ndi
      rw [if_pos a] at n1
      have n2 := nd_s (show i + 1 < r.length by omega) n1
      rw [if_neg (by omega), if_pos b] at n2
      have ex : rx (te_rh r i) = 1 := by rw [e]; rfl
      rw [ex] at mid ⊢
      refine mg_ne rfl (by decide) (by decide) (fun h => absurd rfl h) (fun _ => ?_)
      refine mg_run 3 rfl ?_
      refine mg_addN rfl ?_
      refine mg_run 3 rfl ?_
      refine mg_addN rfl ?_
      refine mg_callV [.int (nI (i + 1))] rfl rfl rfl b1.2.1 rfl rfl rfl rfl (c_Mo_behind b1 R2 hv (nd_1 n1) ?_)
      rw [en_abs (show i + 1 < r.length by omega) b]
      refine mg_callV [.int (nI (i + 2)), .int (nI (te_en r (i + 2)))] rfl rfl rfl b1.2.1 rfl rfl rfl rfl (c_Mo_putBody hv hz b1 R2 b4 n2 (fun M3 x3 A3 c1 c2 c3 c4 => ?_))
      refine mg_run 1 rfl ?_
      refine mid M3 x3 A3 c1 c2 c3 ?_
      rw [te_out, if_pos e]
      exact c4
    · obtain ⟨a, b⟩ := rh_73 e
      have k2 := (cl_app2 hcl hi a).1
      have ex : rx (te_rh r i) = 2 := by rw [e]; rfl
      rw [ex] at mid ⊢
      refine mg_ne rfl (by decide) (by decide) (fun _ => ?_) (fun h => absurd h (by decide))
      refine mg_run 2 rfl ?_
      refine mg_ne rfl (by decide) (by decide) (fun h => absurd rfl h) (fun _ => ?_)
      refine mg_run 3 rfl ?_
      refine mg_addN rfl ?_
      refine mg_callV [.int (nI (i + 2))] rfl rfl rfl b1.2.1 rfl rfl rfl rfl (c_Mo_putPart hv b1 R2 b4 (hcl (i + 2) (by omega)) (fun M3 x3 A3 c1 c2 c3 c4 => ?_))
      refine mg_run 1 rfl ?_
      refine mid M3 x3 A3 c1 c2 (c3.wk (by decide)) ?_
      rw [te_out, if_neg (by omega), if_neg (by omega), if_neg (by omega)]
      exact c4
    · obtain ⟨a, b, c⟩ := rh_75 e
      have k2 := cl_app3 hcl hi a b
      have ex : rx (te_rh r i) = 3 := by rw [e]; rfl
      rw [ex] at mid ⊢
      refine mg_ne rfl (by decide) (by decide) (fun _ => ?_) (fun h => absurd h (by decide))
      refine mg_run 2 rfl ?_
      refine mg_ne rfl (by decide) (by decide) (fun _ => ?_) (fun h => absurd h (by decide))
      refine mg_run 2 rfl ?_
      refine mg_ne rfl (by decide) (by decide) (fun h => absurd rfl h) (fun _ => ?_)
      refine mg_run 3 rfl ?_
      refine mg_addN rfl ?_
      refine mg_callV [.int (nI (i + 3))] rfl rfl rfl b1.2.1 rfl rfl rfl rfl (c_Mo_putPart hv b1 R2 b4 (hcl (i + 3) (by omega)) (fun M3 x3 A3 c1 c2 c3 c4 => ?_))
      refine mg_run 1 rfl ?_
      refine mid M3 x3 A3 c1 c2 (c3.wk (by decide)) ?_
      rw [te_out, if_neg (by omega), if_neg (by omega), if_pos e]
      exact c4
    · obtain ⟨a, b, c, d⟩ := rh_83 e
      have k2 := cl_app3 hcl hi a b
      have n1 := nd_s hi ndi
      rw [if_pos a] at n1
      have n2 := nd_s (show i + 1 < r.length by omega) n1
      rw [if_pos b] at n2
      have n3 := nd_s (show i + 2 < r.length by omega) n2
      rw [if_pos c] at n3
      have n4 := nd_s (show i + 3 < r.length by omega) n3
      rw [if_neg (by omega), if_neg (by omega)] at n4
      have ex : rx (te_rh r i) = 4 := by rw [e]; rfl
      rw [ex] at mid ⊢
      refine mg_ne rfl (by decide) (by decide) (fun _ => ?_) (fun h => absurd h (by decide))
      refine mg_run 2 rfl ?_
      refine mg_ne rfl (by decide) (by decide) (fun _ => ?_) (fun h => absurd h (by decide))
      refine mg_run 2 rfl ?_
      refine mg_ne rfl (by decide) (by decide) (fun _ => ?_) (fun h => absurd h (by decide))
      refine mg_run 2 rfl ?_
      refine mg_callV [.int (nI i)] rfl rfl rfl b1.2.1 rfl rfl rfl rfl (c_Mo_spread hv b1 R2 b4 n4 (fun M3 x3 A3 c1 c2 c3 c4 => ?_))
      refine mid M3 x3 A3 c1 c2 (c3.wk (by decide)) ?_
      rw [te_out, if_neg (by omega), if_pos e]
      exact c4
end
