/-! The law's loop. -/
theorem la_sw : decode (mm_cod Y_La_law) 39 = .ok (.tableswitch 973 0 14 #[73, 173, 229, 242, 298, 366, 414, 494, 562, 618, 686, 699, 755, 823, 898], 73) := by decide +kernel
section
variable {l : Launch} {sc : Nat × (Nat → Int32)} {Q : mm_O → mm_M → Prop}
set_option maxRecDepth 8000 in
theorem lw_out {k n : Nat} {M : mm_M} {L : mm_L} (hk : k ≤ 601024) (hn : n ≤ 7293034) (hQ : Q (.inl (some (.int (nI 1)))) M) : mm_Go l sc Y_La_law k n M L [] 1018 Q := by
  refine mg_run 1 rfl ?_
  exact mg_zret rfl rfl (Or.inr rfl) hk hn hQ
set_option maxRecDepth 8000 in
theorem lw_loop (hl : l.stackTraces = false) (hN : sc.1 ≤ 2048) (hQ : ∀ M2, Q (.inl (some (.int (nI 1)))) M2) : ∀ m it i k n (M : mm_M) (x5 x6 : Option Value), i = 4 * it → sc.1 / 4 - it = m → it ≤ sc.1 / 4 → k ≤ 100 + 6 * it → n ≤ 110000 + 36 * it → LwT M →
    mm_Go l sc Y_La_law k n M [some (.retAddr 0), some (.ref 0), some (.ref 54), some (.ref 66), some (.int (nI i)), x5, x6] [] 23 Q := by
  intro m
  induction m with
  | zero =>
    intro it i k n M x5 x6 hi hm hle hk hn hT
    have out : mm_Go l sc Y_La_law k n M [some (.retAddr 0), some (.ref 0), some (.ref 54), some (.ref 66), some (.int (nI i)), x5, x6] [] 1018 Q := lw_out (by omega) (by omega) (hQ M)
    refine mg_run 2 rfl ?_
    refine mg_slen rfl ?_
    by_cases c : 4 ≤ sc.1
    · refine mg_run 1 rfl ?_
      refine mg_subN rfl c ?_
      refine mg_gt rfl (by omega) (by omega) (fun _ => out) (fun h9 => absurd h9 (by omega))
    · have e0 : it = 0 := by omega
      subst e0
      have ei : i = 0 := by omega
      subst ei
      have e4 : sc.1 = 0 ∨ sc.1 = 1 ∨ sc.1 = 2 ∨ sc.1 = 3 := by omega
      rcases e4 with e | e | e | e
      · rw [e]
        refine mg_run 2 rfl ?_
        exact mg_icmp rfl (fun _ => out) (fun h9 => absurd (show (nI 0 - nI 4 : Int32) < nI 0 by decide) h9)
      · rw [e]
        refine mg_run 2 rfl ?_
        exact mg_icmp rfl (fun _ => out) (fun h9 => absurd (show (nI 1 - nI 4 : Int32) < nI 0 by decide) h9)
      · rw [e]
        refine mg_run 2 rfl ?_
        exact mg_icmp rfl (fun _ => out) (fun h9 => absurd (show (nI 2 - nI 4 : Int32) < nI 0 by decide) h9)
      · rw [e]
        refine mg_run 2 rfl ?_
        exact mg_icmp rfl (fun _ => out) (fun h9 => absurd (show (nI 3 - nI 4 : Int32) < nI 0 by decide) h9)
  | succ m ih =>
    intro it i k n M x5 x6 hi hm hle hk hn hT
    have h4 : i + 4 ≤ sc.1 := by omega
    have hit : it < 512 := by omega
    have hN2 : sc.1 < 2 ^ 31 := by omega
    have hk6 : k + 6 ≤ 601024 := by omega
    have hn36 : n + 36 ≤ 7293034 := by omega
    obtain ⟨sl, tp, pl, o, th, hS⟩ := hT
    have hK : ∀ (M2 : mm_M) (k2 n2 : Nat) (y5 y6 : Option Value), k2 ≤ k + 6 → n2 ≤ n + 36 → LwT M2 → mm_Go l sc Y_La_law k2 n2 M2 [some (.retAddr 0), some (.ref 0), some (.ref 54), some (.ref 66), some (.int (nI i)), y5, y6] [] 1012 Q := by
      intro M2 k2 n2 y5 y6 a1 a2 a3
      refine mg_incN rfl rfl rfl ?_
      refine mg_run 1 rfl ?_
      exact ih (it + 1) (i + 4) k2 n2 M2 y5 y6 (by omega) (by omega) (by omega) (by omega) (by omega) a3
    refine mg_run 2 rfl ?_
    refine mg_slen rfl ?_
    refine mg_run 1 rfl ?_
    refine mg_subN rfl (by omega) ?_
    refine mg_gt rfl (by omega) (by omega) (fun h9 => absurd h9 (by omega)) (fun _ => ?_)
    refine mg_run 2 rfl ?_
    refine mg_sldN rfl hN2 (by omega) ?_
    refine mg_run 1 rfl ?_
    refine mg_andN (k := 4) rfl rfl ?_
    have ht : (sc.2 i).toBitVec.toNat % 2 ^ 4 < 16 := Nat.mod_lt _ (by decide)
    generalize (sc.2 i).toBitVec.toNat % 2 ^ 4 = t at ht
    have ht2 : t = 0 ∨ t = 1 ∨ t = 2 ∨ t = 3 ∨ t = 4 ∨ t = 5 ∨ t = 6 ∨ t = 7 ∨ t = 8 ∨ t = 9 ∨ t = 10 ∨ t = 11 ∨ t = 12 ∨ t = 13 ∨ t = 14 ∨ t = 15 := by omega
    rcases ht2 with rfl | rfl | rfl | rfl | rfl | rfl | rfl | rfl | rfl | rfl | rfl | rfl | rfl | rfl | rfl | rfl
    · exact mg_tsw (tgt := 112) la_sw (Or.inl ⟨by decide, by decide, 73, by decide, by decide⟩) (lw_cs0 hl hN2 h4 hk6 hn36 hS hK)
    · exact mg_tsw (tgt := 212) la_sw (Or.inl ⟨by decide, by decide, 173, by decide, by decide⟩) (lw_cs1 hl hN2 h4 hk6 hn36 hS hK)
    · exact mg_tsw (tgt := 268) la_sw (Or.inl ⟨by decide, by decide, 229, by decide, by decide⟩) (lw_cs2 hk6 hn36 hS hK)
    · exact mg_tsw (tgt := 281) la_sw (Or.inl ⟨by decide, by decide, 242, by decide, by decide⟩) (lw_cs3 hl hN2 h4 hk6 hn36 hS hK)
    · exact mg_tsw (tgt := 337) la_sw (Or.inl ⟨by decide, by decide, 298, by decide, by decide⟩) (lw_cs4 hl hN2 h4 hk6 hn36 hS hK)
    · exact mg_tsw (tgt := 405) la_sw (Or.inl ⟨by decide, by decide, 366, by decide, by decide⟩) (lw_cs5 hl hN2 h4 hk6 hn36 hS hK)
    · exact mg_tsw (tgt := 453) la_sw (Or.inl ⟨by decide, by decide, 414, by decide, by decide⟩) (lw_cs6 hl hN2 h4 hk6 hn36 hS hK)
    · exact mg_tsw (tgt := 533) la_sw (Or.inl ⟨by decide, by decide, 494, by decide, by decide⟩) (lw_cs7 hl hN2 h4 hk6 hn36 hS hK)
    · exact mg_tsw (tgt := 601) la_sw (Or.inl ⟨by decide, by decide, 562, by decide, by decide⟩) (lw_cs8 hl hN2 h4 hk6 hn36 hS hK)
    · exact mg_tsw (tgt := 657) la_sw (Or.inl ⟨by decide, by decide, 618, by decide, by decide⟩) (lw_cs9 hl hN2 h4 hk6 hn36 hS hK)
    · exact mg_tsw (tgt := 725) la_sw (Or.inl ⟨by decide, by decide, 686, by decide, by decide⟩) (lw_cs10 hk6 hn36 hS hK)
    · exact mg_tsw (tgt := 738) la_sw (Or.inl ⟨by decide, by decide, 699, by decide, by decide⟩) (lw_cs11 hl hN2 h4 hk6 hn36 hS hK)
    · exact mg_tsw (tgt := 794) la_sw (Or.inl ⟨by decide, by decide, 755, by decide, by decide⟩) (lw_cs12 hl hN2 h4 hk6 hn36 hS hK)
    · exact mg_tsw (tgt := 862) la_sw (Or.inl ⟨by decide, by decide, 823, by decide, by decide⟩) (lw_cs13 hl hN2 h4 hk6 hn36 hS hK)
    · exact mg_tsw (tgt := 937) la_sw (Or.inl ⟨by decide, by decide, 898, by decide, by decide⟩) (lw_cs14 hl hN2 h4 hk6 hn36 hS hK)
    · exact mg_tsw (tgt := 1012) la_sw (Or.inr ⟨Or.inr (by decide), by decide⟩) (hK M k n _ _ (by omega) (by omega) ⟨sl, tp, pl, o, th, hS⟩)
end
/-! the bench as it is made -/
theorem lb_ini : lb_is lb_M (fun _ => []) [] (-1) 0 := by
  have ze : ∀ (r : List Nat) (f : Nat → Int32), r = [] → ∀ i, i < r.length → f i = nI (r.getD i 0) := fun r f e i hi => by rw [e] at hi; exact absurd hi (Nat.not_lt_zero i)
  refine ⟨⟨lb_at0.2.1, lb_at0.2.2⟩, fun s hs => ?_, ⟨[], 0, fun _ => 0, rfl, rfl, ze _ _ rfl, Nat.zero_le _, Nat.zero_le _⟩, ⟨fun _ => 0, rfl, rfl, ze _ _ rfl, Nat.zero_le _⟩, ⟨_, _, _, _, _, rfl, rfl, rfl⟩, ⟨_, _, _, _, rfl, rfl, rfl⟩, ⟨_, _, rfl, rfl, rfl⟩, ⟨43, 45, fun _ => 0, [], 0, [], 0, ⟨rfl, ⟨fun _ => 0, rfl, rfl, rfl⟩, Or.inl ⟨rfl, rfl⟩⟩, ⟨fun _ => 0, rfl, rfl, ze _ _ rfl, Nat.zero_le _, Nat.zero_le _⟩, ⟨fun _ => 0, rfl, rfl, ze _ _ rfl, Nat.zero_le _, Nat.zero_le _⟩⟩, ⟨50, 52, fun _ => 0, fun _ => 0, [], 0, [], 0, ⟨rfl, rfl, rfl, Or.inl ⟨rfl, rfl⟩⟩, ⟨fun _ => 0, rfl, rfl, ze _ _ rfl, Nat.zero_le _, Nat.zero_le _⟩, ⟨fun _ => 0, rfl, rfl, ze _ _ rfl, Nat.zero_le _, Nat.zero_le _⟩⟩⟩
  have h12 : s = 0 ∨ s = 1 ∨ s = 2 ∨ s = 3 ∨ s = 4 ∨ s = 5 ∨ s = 6 ∨ s = 7 ∨ s = 8 ∨ s = 9 ∨ s = 10 ∨ s = 11 := by omega
  rcases h12 with rfl | rfl | rfl | rfl | rfl | rfl | rfl | rfl | rfl | rfl | rfl | rfl <;> exact ⟨0, fun _ => 0, rfl, rfl, ze _ _ rfl, Nat.zero_le _, Nat.zero_le _⟩
theorem lw_ini {M : mm_M} (h : mi_is lb_M M 11 (mo_f mi_x)) : LwT (M ++ [ou (fun _ => 0)]) := by
  obtain ⟨h1, h2, h3, h4⟩ := h
  have hlen : lb_M.length = 54 := lb_len.2.2.2.2.2.2.2.2
  have hon : mm_on (mm_rg 54 100) lb_M (M ++ [ou (fun _ => 0)]) := by
    intro i hi
    by_cases c : i < 54
    · rw [List.getElem?_append_left (by omega)]
      exact h4 i c
    · have c2 : 100 < i := by
        unfold mm_rg at hi
        omega
      rw [List.getElem?_eq_none (by rw [List.length_append, h1]; show 55 + 11 + 1 ≤ i; omega), List.getElem?_eq_none (by omega)]
  refine ⟨fun _ => [], [], -1, 0, 0, lb_keepR lb_ini hon (by decide), ⟨mi_x, fun _ _ => 0, ⟨mm_on.rf _ _, mm_at_app h2, fun k hk => mm_at_app (h3 k hk)⟩, fun s _ => ⟨Nat.zero_le _, rfl, fun i hi => absurd hi (Nat.not_lt_zero i)⟩, ⟨rfl, Nat.zero_le _, fun i hi => absurd hi (Nat.not_lt_zero i)⟩, rfl, rfl, rfl⟩, ⟨fun _ => Or.inl rfl, fun j => by rw [te_getD (Nat.zero_le _)]; decide⟩, fun _ => 0, ?_⟩
  have e : M.length = 66 := h1
  rw [← e]
  exact mm_at_new M _
set_option maxRecDepth 8000 in
theorem lw_main {l : Launch} {sc : Nat × (Nat → Int32)} {Q : mm_O → mm_M → Prop} (hl : l.stackTraces = false) (hN : sc.1 ≤ 2048) (hQ : ∀ M2, Q (.inl (some (.int (nI 1)))) M2) : mm_Go l sc Y_La_law 0 0 [] [some (.retAddr 0), none, none, none, none, none, none] [] 0 Q := by
  have hlen : lb_M.length = 54 := lb_len.2.2.2.2.2.2.2.2
  refine mg_new rfl rfl rfl rfl ?_
  refine mg_run 1 rfl ?_
  refine mg_callI (Y' := Y_LB_init) [] rfl rfl rfl rfl rfl rfl (c_LB_init ?_)
  refine mg_run 1 rfl ?_
  refine mg_new rfl rfl rfl rfl ?_
  rw [hlen]
  refine mg_run 1 rfl ?_
  have h0 : mi_is lb_M (lb_M ++ [.inr (8, mm_df 8)]) 0 (mm_df 8) := by
    refine ⟨by rw [List.length_append, hlen]; rfl, ?_, fun j hj => absurd hj (Nat.not_lt_zero j), fun i hi => List.getElem?_append_left (by omega)⟩
    rw [← hlen]
    exact mm_at_new lb_M _
  refine mg_callI (Y' := Y_Mo_init) [] rfl rfl rfl rfl rfl rfl (c_Mo_init h0 (fun M1 h1 => ?_))
  refine mg_run 2 rfl ?_
  refine mg_newl rfl (by decide) rfl rfl ?_
  have e : M1.length = 66 := h1.1
  rw [e]
  refine mg_run 3 rfl ?_
  exact lw_loop hl hN hQ _ 0 0 _ _ _ none none rfl rfl (Nat.zero_le _) (by decide) (by decide) (lw_ini h1)
