/-! The reference: print. -/
theorem nI_m2 {j : Nat} (hj : j < 2 ^ 31) : ¬ nI j = -2 := by
  intro h
  have h2 := congrArg Int32.toInt h
  rw [nI_toInt hj] at h2
  have h3 : (-2 : Int32).toInt = -2 := by decide
  rw [h3] at h2
  omega
section
variable {l : Launch} {sc : Nat × (Nat → Int32)} {M0 M : mm_M} {Q : mm_O → mm_M → Prop} {sl : Nat → List Nat} {tp : List Nat} {pl : Int32} {o th : Nat} {x : Nat → Int32} {A : Nat → Nat → Int32}
/-- print's look at a number -/
theorem lp_Mo_print {k : Nat} (hk : k < 2 ^ 31) {x1 x2 x3 : Int32} (hQ : ∀ y, y = (if k < 10000 then 48 + (if k < 99 then k else 99) else if k < 20001 then k - 10000 else if k = 20001 then 83 else if k = 20002 then 75 else 73) → Q (.inl (some (.int (nI y)))) M) : mm_Go l sc Y_Mo_print 0 0 M [some (.ref 54), some (.int x1), some (.int x2), some (.int x3), some (.int (nI k))] [] 62 Q := by
  refine mg_run 2 rfl ?_
  refine mg_icmp rfl (fun _ => ?_) (fun e => absurd (nI_m1 hk) e)
  refine mg_run 2 rfl ?_
  refine mg_icmp rfl (fun _ => ?_) (fun e => absurd (nI_m2 hk) e)
  refine mg_run 2 rfl ?_
  refine mg_lt rfl hk (by decide) (fun c1 => ?_) (fun c1 => ?_)
  · refine mg_run 2 rfl ?_
    refine mg_lt rfl hk (by decide) (fun c2 => ?_) (fun c2 => ?_)
    · refine mg_run 3 rfl ?_
      refine mg_ge rfl hk (by decide) (fun c3 => ?_) (fun c3 => ?_)
      · refine mg_run 1 rfl ?_
        refine mg_addN rfl ?_
        exact mg_ir rfl rfl rfl rfl (hQ (48 + 99) (by rw [if_pos c2, if_neg (by omega)]))
      · refine mg_run 2 rfl ?_
        refine mg_addN rfl ?_
        exact mg_ir rfl rfl rfl rfl (hQ (48 + k) (by rw [if_pos c2, if_pos c3]))
    · refine mg_run 2 rfl ?_
      refine mg_subN rfl c2 ?_
      refine mg_run 1 rfl ?_
      exact mg_ir rfl rfl rfl rfl (hQ (k - 10000) (by rw [if_neg (by omega), if_pos c1]))
  · refine mg_run 2 rfl ?_
    refine mg_ne rfl hk (by decide) (fun c2 => ?_) (fun c2 => ?_)
    · refine mg_run 2 rfl ?_
      refine mg_ne rfl hk (by decide) (fun c3 => ?_) (fun c3 => ?_)
      · refine mg_run 1 rfl ?_
        exact mg_ir rfl rfl rfl rfl (hQ 73 (by rw [if_neg (by omega), if_neg (by omega), if_neg c2, if_neg c3]))
      · refine mg_run 2 rfl ?_
        exact mg_ir rfl rfl rfl rfl (hQ 75 (by rw [if_neg (by omega), if_neg (by omega), if_neg c2, if_pos c3]))
    · refine mg_run 2 rfl ?_
      exact mg_ir rfl rfl rfl rfl (hQ 83 (by rw [if_neg (by omega), if_neg (by omega), if_pos c2]))
theorem lp_Mo_print2 {c : Nat} (hc : c < 10000) (h3 : 3 ≤ c) {x1 x2 x3 : Int32} (hQ : Q (.inl (some (.int (nI (te_pr c))))) M) : mm_Go l sc Y_Mo_print 0 0 M [some (.ref 54), some (.int x1), some (.int x2), some (.int x3), some (.int (xc c))] [] 62 Q := by
  by_cases c1 : c = 64
  · subst c1
    refine mg_run 2 rfl ?_
    refine mg_icmp rfl (fun e => absurd rfl e) (fun _ => ?_)
    refine mg_run 1 rfl ?_
    exact mg_ir rfl rfl rfl rfl hQ
  · by_cases c2 : c = 92
    · subst c2
      refine mg_run 2 rfl ?_
      refine mg_icmp rfl (fun _ => ?_) (fun e => absurd (show ¬ xc 92 = -1 by decide) e)
      refine mg_run 2 rfl ?_
      refine mg_icmp rfl (fun e => absurd rfl e) (fun _ => ?_)
      refine mg_run 1 rfl ?_
      exact mg_ir rfl rfl rfl rfl hQ
    · have key : ∃ k, k < 2 ^ 31 ∧ xc c = nI k ∧ te_pr c = (if k < 10000 then 48 + (if k < 99 then k else 99) else if k < 20001 then k - 10000 else if k = 20001 then 83 else if k = 20002 then 75 else 73) := by
        unfold xc te_pr
        rw [if_neg c1, if_neg c2]
        by_cases c3 : 1000 ≤ c
        · exact ⟨c - 1000, by omega, if_pos c3, by rw [if_neg (show ¬ c < 1000 by omega), if_pos (show c - 1000 < 10000 by omega)]⟩
        · rw [if_neg c3, if_pos (show c < 1000 by omega)]
          by_cases c4 : c = 83
          · subst c4; exact ⟨20001, by decide, rfl, rfl⟩
          · by_cases c5 : c = 75
            · subst c5; exact ⟨20002, by decide, rfl, rfl⟩
            · by_cases c6 : c = 73
              · subst c6; exact ⟨20003, by decide, rfl, rfl⟩
              · refine ⟨10000 + c, by omega, by rw [if_neg c4, if_neg c5, if_neg c6, if_neg (show ¬ c < 3 by omega)], ?_⟩
                rw [if_neg (show ¬ 10000 + c < 10000 by omega), if_pos (show 10000 + c < 20001 by omega)]
                omega
      obtain ⟨k, k1, k2, k3⟩ := key
      rw [k2]
      refine lp_Mo_print k1 (fun y hy => ?_)
      rw [hy, ← k3]
      exact hQ
end
