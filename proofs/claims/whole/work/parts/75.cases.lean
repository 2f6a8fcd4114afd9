/-! The law's cases. -/
/-- both sides tell the same -/
def LwS (M : mm_M) (sl : Nat → List Nat) (tp : List Nat) (pl : Int32) (o th : Nat) : Prop := lb_is M sl tp pl o ∧ md_is M M sl tp pl o th ∧ LI sl tp ∧ ∃ f, M[66]? = some (ou f)
def LwT (M : mm_M) : Prop := ∃ sl tp pl o th, LwS M sl tp pl o th
theorem lb_keepR {M M' : mm_M} {sl : Nat → List Nat} {tp : List Nat} {pl : Int32} {o lo hi : Nat} (h : lb_is M sl tp pl o) (hon : mm_on (mm_rg lo hi) M M') (hlo : 53 < lo) : lb_is M' sl tp pl o :=
  ⟨h.1.keep hon (by omega), h.2.1.keep hon (Or.inl (by omega)), h.2.2.1.keep hon (Or.inl (by omega)), ta_keep h.2.2.2.1 hon (Or.inl (by omega)), h.2.2.2.2.1.keep hon (Or.inl (by omega)), h.2.2.2.2.2.1.keep hon (Or.inl (by omega)), h.2.2.2.2.2.2.1.keep hon (Or.inl (by omega)), h.2.2.2.2.2.2.2.1.keep hon (Or.inl (by omega)), h.2.2.2.2.2.2.2.2.keep hon (Or.inl (by omega))⟩
theorem md_on {M0 M M' : mm_M} {sl : Nat → List Nat} {tp : List Nat} {pl : Int32} {o th : Nat} (h : md_is M0 M sl tp pl o th) (he : ∀ i, 54 ≤ i → i ≤ 65 → M'[i]? = M[i]?) : md_is M' M' sl tp pl o th := by
  obtain ⟨x, A, ⟨h1, h2, h3⟩, h4⟩ := h
  exact ⟨x, A, ⟨mm_on.rf _ _, (he 54 (by omega) (by omega)).trans h2, fun k hk => (he (55 + k) (by omega) (by omega)).trans (h3 k hk)⟩, h4⟩
theorem md_re {M0 M : mm_M} {sl : Nat → List Nat} {tp : List Nat} {pl : Int32} {o th : Nat} (h : md_is M0 M sl tp pl o th) : md_is M M sl tp pl o th := md_on h (fun _ _ _ => rfl)
theorem on_66 (M : mm_M) (e : va_E) : mm_on (mm_rg 66 66) M (M.set 66 e) := mm_on.set M _ (by unfold mm_rg; omega)
theorem bn_66 {M M' : mm_M} (h : mm_on mm_bn M M') {e : Option va_E} (h1 : M[66]? = e) : M'[66]? = e := (h 66 (by unfold mm_bn mm_rg; omega)).trans h1
theorem md_bn {M M' : mm_M} {sl : Nat → List Nat} {tp : List Nat} {pl : Int32} {o th : Nat} (h : md_is M M sl tp pl o th) (hon : mm_on mm_bn M M') : md_is M' M' sl tp pl o th := md_on h (fun i h1 _ => hon i (by unfold mm_bn mm_rg; omega))
theorem md_66 {M : mm_M} {sl : Nat → List Nat} {tp : List Nat} {pl : Int32} {o th : Nat} (h : md_is M M sl tp pl o th) (e : va_E) : md_is (M.set 66 e) (M.set 66 e) sl tp pl o th := md_on h (fun i _ h2 => on_66 M e i (mm_rg_n (by omega)))
theorem lb_66 {M : mm_M} {sl : Nat → List Nat} {tp : List Nat} {pl : Int32} {o : Nat} (h : lb_is M sl tp pl o) (e : va_E) : lb_is (M.set 66 e) sl tp pl o := lb_keepR h (on_66 M e) (by decide)
theorem la_chk {k n nL' z : Nat} {R' : Room} (h1 : R'.frames + 1 ≤ 11) (h2 : 8 + (nL' + 11) + R'.locals ≤ 390) (h3 : k + R'.cells ≤ 601024) (h4 : n + R'.slots ≤ 7293034) (h5 : z ≤ 8) : mm_chk k n (mm_rm Y_La_law) R' nL' z = true := by
  have e1 : (mm_rm Y_La_law).frames = 11 := rfl
  have e2 : (mm_rm Y_La_law).locals = 390 := rfl
  have e3 : (mm_rm Y_La_law).cells = 601024 := rfl
  have e4 : (mm_rm Y_La_law).slots = 7293034 := rfl
  simp only [mm_chk, Bool.and_eq_true, Nat.ble_eq, e1, e2, e3, e4]
  exact ⟨⟨⟨⟨h1, h2⟩, h3⟩, h4⟩, h5⟩
theorem la_cmp {f : Nat → Int64} {w : Int64} (h : f 0 = w) : lg_cmp (f 0) w = 0 := by
  unfold lg_cmp
  rw [h, if_neg (fun h9 => absurd h9 (Int64.lt_irrefl)), if_pos rfl]
def fw (a b : Int32) : Int64 := (a.toInt64 <<< ((nI 32).toInt64 &&& 63)) ||| (b.toInt64 &&& 4294967295)
section
variable {l : Launch} {sc : Nat × (Nat → Int32)} {k n i : Nat} {M : mm_M} {Q : mm_O → mm_M → Prop} {sl : Nat → List Nat} {tp : List Nat} {pl : Int32} {o th : Nat} {x5 x6 : Option Value}
theorem mg_sldN {Y : mm_Y} {L : mm_L} {S : List Value} {pc nx aux j : Nat} {v : Int32} (hq : mm_at (mm_tab Y) pc = some (.iaload, nx, aux, v)) (hN : sc.1 < 2 ^ 31) (hj : j < sc.1) (kk : mm_Go l sc Y k n M L (.int (sc.2 j) :: S) nx Q) : mm_Go l sc Y k n M L (.int (nI j) :: .retAddr 0 :: S) pc Q :=
  mg_sld hq (vp_in_nI hj hN) (by rw [nI_clamp (Nat.lt_trans hj hN)]; exact kk)
theorem la_k1 : decode (mm_cod Y_La_law) 130 = .ok (.ldc2_w 64, 3) := by decide +kernel
theorem la_k2 : decode (mm_cod Y_La_law) 165 = .ok (.ldc2_w 64, 3) := by decide +kernel
set_option maxRecDepth 8000 in
theorem lw_tl0 (hN : sc.1 < 2 ^ 31) (hi : i + 4 ≤ sc.1) {k0 n0 : Nat} (hk0 : k ≤ k0 + 2) (hn0 : n ≤ n0 + 12) (hk : k0 + 6 ≤ 601024) (hn : n0 + 36 ≤ 7293034) {sl' : Nat → List Nat} {tp' : List Nat} {pl' v : Int32} {o' kk : Nat} {f : Nat → Int64} (hkk : kk < 3) (hmd : md_is M M sl tp pl o th) (hb : lb_is M sl' tp' pl' o') (h66 : M[66]? = some (ou f)) (hf : kk = 0 → f 0 = v.toInt64) (hm : ∀ M1 th, md_is M1 M1 sl tp pl o th → mm_Ct l sc Y_Mo_feed M1 (.ref 54 :: [.long (fw (sc.2 (i + 1)) (sc.2 (i + 2))), .int (sc.2 (i + 3))]) (RM kk v (PM M1 sl' tp' pl' o' kk)))
    (hK : ∀ M2 k2 n2 y5 y6, k2 ≤ k0 + 6 → n2 ≤ n0 + 36 → LwT M2 → mm_Go l sc Y_La_law k2 n2 M2 [some (.retAddr 0), some (.ref 0), some (.ref 54), some (.ref 66), some (.int (nI i)), y5, y6] [] 1012 Q) : mm_Go l sc Y_La_law k n M [some (.retAddr 0), some (.ref 0), some (.ref 54), some (.ref 66), some (.int (nI i)), x5, x6] [.int (nI kk)] 145 Q := by
  obtain ⟨xm, Am, hmo, -⟩ := id hmd
  refine mg_run 5 rfl ?_
  refine mg_addN rfl ?_
  refine mg_sldN rfl hN (by omega) ?_
  refine mg_run 6 rfl ?_
  refine mg_addN rfl ?_
  refine mg_sldN rfl hN (by omega) ?_
  refine mg_run 1 rfl ?_
  refine mg_ldc2 la_k2 mm_lcw ?_
  refine mg_run 5 rfl ?_
  refine mg_addN rfl ?_
  refine mg_sldN rfl hN (by omega) ?_
  refine mg_callV (Y' := Y_Mo_feed) [.long (fw (sc.2 (i + 1)) (sc.2 (i + 2))), .int (sc.2 (i + 3))] rfl rfl rfl hmo.2.1 rfl rfl rfl (la_chk (by decide) (by decide) (show k + 0 ≤ 601024 by omega) (show n + 0 ≤ 7293034 by omega) (by decide)) ((hm M th hmd).mono (fun oc M2 hr => ?_))
  obtain ⟨⟨hmd2, hI2⟩, b, rfl, hbv⟩ := hr
  obtain ⟨xn, An, hmo2, -⟩ := id hmd2
  have hb2 := lb_keepR hb hmo2.1 (by decide)
  have h662 : M2[66]? = some (ou f) := (hmo2.1 66 (mm_rg_n (by decide))).trans h66
  refine mg_run 2 rfl ?_
  refine mg_callV (Y' := Y_Mo_thrown) [] rfl rfl rfl hmo2.2.1 rfl rfl rfl (la_chk (by decide) (by decide) (show k + 0 + 0 ≤ 601024 by omega) (show n + 0 + 0 ≤ 7293034 by omega) (by decide)) (d_Mo_thrown hmd2 ?_)
  refine mg_run 1 rfl ?_
  refine mg_eq rfl (by omega) (by omega) (fun _ => ?_) (fun e => absurd rfl e)
  refine mg_run 1 rfl ?_
  refine mg_zne rfl (by omega) (fun _ => ?_) (fun e => ?_)
  · refine mg_run 1 rfl ?_
    exact (hK M2 _ _ _ _ (show k + 0 + 0 ≤ k0 + 6 by omega) (show n + 0 + 0 ≤ n0 + 36 by omega) ⟨_, _, _, _, _, hb2, md_re hmd2, hI2, f, h662⟩)
  · have hv := hbv e
    subst hv
    have hf0 := hf e
    refine mg_run 2 rfl ?_
    refine mg_lald rfl h662 vp_00 ?_
    refine mg_run 3 rfl ?_
    refine mg_if rfl (fun _ => ?_) (fun h9 => (h9 (la_cmp hf0)).elim)
    refine mg_run 1 rfl ?_
    exact (hK M2 _ _ _ _ (show k + 0 + 0 ≤ k0 + 6 by omega) (show n + 0 + 0 ≤ n0 + 36 by omega) ⟨_, _, _, _, _, hb2, md_re hmd2, hI2, f, h662⟩)
set_option maxRecDepth 8000 in
theorem lw_cs0 (hl : l.stackTraces = false) (hN : sc.1 < 2 ^ 31) (hi : i + 4 ≤ sc.1) (hk : k + 6 ≤ 601024) (hn : n + 36 ≤ 7293034) (hS : LwS M sl tp pl o th)
    (hK : ∀ M2 k2 n2 y5 y6, k2 ≤ k + 6 → n2 ≤ n + 36 → LwT M2 → mm_Go l sc Y_La_law k2 n2 M2 [some (.retAddr 0), some (.ref 0), some (.ref 54), some (.ref 66), some (.int (nI i)), y5, y6] [] 1012 Q) : mm_Go l sc Y_La_law k n M [some (.retAddr 0), some (.ref 0), some (.ref 54), some (.ref 66), some (.int (nI i)), x5, x6] [] 112 Q := by
  obtain ⟨hlb, hmd, hI, f0, h66⟩ := hS
  refine mg_run 4 rfl ?_
  refine mg_addN rfl ?_
  refine mg_sldN rfl hN (by omega) ?_
  refine mg_run 6 rfl ?_
  refine mg_addN rfl ?_
  refine mg_sldN rfl hN (by omega) ?_
  refine mg_run 1 rfl ?_
  refine mg_ldc2 la_k1 mm_lcw ?_
  refine mg_run 5 rfl ?_
  refine mg_addN rfl ?_
  refine mg_sldN rfl hN (by omega) ?_
  refine mg_run 1 rfl ?_
  refine mg_callX (Y' := Y_La_feed) [.ref 0, .long (fw (sc.2 (i + 1)) (sc.2 (i + 2))), .int (sc.2 (i + 3)), .ref 66] rfl rfl rfl rfl rfl (la_chk (by decide) (by decide) (show k + 2 ≤ 601024 by omega) (show n + 12 ≤ 7293034 by omega) (by decide)) (h_La_feed hlb.1.1 (op_feed hl hlb hI (fw (sc.2 (i + 1)) (sc.2 (i + 2))) (sc.2 (i + 3))) (fun oc M' hr => ?_))
  obtain ⟨kk, v, sl', tp', pl', o', ⟨hb', hon⟩, hcase, hm⟩ := hr
  have h66' := bn_66 hon h66
  rcases hcase with ⟨rfl, hok, rfl⟩ | ⟨rfl, rfl⟩ | ⟨rfl, hj, rfl⟩
  · exact Or.inl ⟨v, f0, rfl, h66', lw_tl0 hN hi (show k + 2 ≤ k + 2 by omega) (show n + 12 ≤ n + 12 by omega) hk hn (by decide) (md_66 (md_bn hmd hon) _) (lb_66 hb' _) (mm_at_set _ h66') (fun _ => if_pos rfl) hm hK⟩
  · exact Or.inr (Or.inl ⟨rfl, lw_tl0 hN hi (show k + 2 ≤ k + 2 by omega) (show n + 12 ≤ n + 12 by omega) hk hn (by decide) (md_bn hmd hon) hb' h66' (fun e => absurd e (by decide)) hm hK⟩)
  · exact Or.inr (Or.inr ⟨rfl, lw_tl0 hN hi (show k + 2 ≤ k + 2 by omega) (show n + 12 ≤ n + 12 by omega) hk hn (by decide) (md_bn hmd hon) hb' h66' (fun e => absurd e (by decide)) hm hK⟩)
set_option maxRecDepth 8000 in
theorem lw_tl1 (hN : sc.1 < 2 ^ 31) (hi : i + 4 ≤ sc.1) {k0 n0 : Nat} (hk0 : k ≤ k0 + 3) (hn0 : n ≤ n0 + 18) (hk : k0 + 6 ≤ 601024) (hn : n0 + 36 ≤ 7293034) {sl' : Nat → List Nat} {tp' : List Nat} {pl' v : Int32} {o' kk : Nat} {f : Nat → Int64} (hkk : kk < 3) (hmd : md_is M M sl tp pl o th) (hb : lb_is M sl' tp' pl' o') (h66 : M[66]? = some (ou f)) (hf : kk = 0 → f 0 = v.toInt64) (hm : ∀ M1 th, md_is M1 M1 sl tp pl o th → mm_Ct l sc Y_Mo_read M1 (.ref 54 :: [.int (sc.2 (i + 1))]) (RM kk v (PM M1 sl' tp' pl' o' kk)))
    (hK : ∀ M2 k2 n2 y5 y6, k2 ≤ k0 + 6 → n2 ≤ n0 + 36 → LwT M2 → mm_Go l sc Y_La_law k2 n2 M2 [some (.retAddr 0), some (.ref 0), some (.ref 54), some (.ref 66), some (.int (nI i)), y5, y6] [] 1012 Q) : mm_Go l sc Y_La_law k n M [some (.retAddr 0), some (.ref 0), some (.ref 54), some (.ref 66), some (.int (nI i)), x5, x6] [.int (nI kk)] 223 Q := by
  obtain ⟨xm, Am, hmo, -⟩ := id hmd
  refine mg_run 5 rfl ?_
  refine mg_addN rfl ?_
  refine mg_sldN rfl hN (by omega) ?_
  refine mg_callV (Y' := Y_Mo_read) [.int (sc.2 (i + 1))] rfl rfl rfl hmo.2.1 rfl rfl rfl (la_chk (by decide) (by decide) (show k + 0 ≤ 601024 by omega) (show n + 0 ≤ 7293034 by omega) (by decide)) ((hm M th hmd).mono (fun oc M2 hr => ?_))
  obtain ⟨⟨hmd2, hI2⟩, b, rfl, hbv⟩ := hr
  obtain ⟨xn, An, hmo2, -⟩ := id hmd2
  have hb2 := lb_keepR hb hmo2.1 (by decide)
  have h662 : M2[66]? = some (ou f) := (hmo2.1 66 (mm_rg_n (by decide))).trans h66
  refine mg_run 2 rfl ?_
  refine mg_callV (Y' := Y_Mo_thrown) [] rfl rfl rfl hmo2.2.1 rfl rfl rfl (la_chk (by decide) (by decide) (show k + 0 + 0 ≤ 601024 by omega) (show n + 0 + 0 ≤ 7293034 by omega) (by decide)) (d_Mo_thrown hmd2 ?_)
  refine mg_run 1 rfl ?_
  refine mg_eq rfl (by omega) (by omega) (fun _ => ?_) (fun e => absurd rfl e)
  refine mg_run 1 rfl ?_
  refine mg_zne rfl (by omega) (fun _ => ?_) (fun e => ?_)
  · refine mg_run 1 rfl ?_
    exact (hK M2 _ _ _ _ (show k + 0 + 0 ≤ k0 + 6 by omega) (show n + 0 + 0 ≤ n0 + 36 by omega) ⟨_, _, _, _, _, hb2, md_re hmd2, hI2, f, h662⟩)
  · have hv := hbv e
    subst hv
    have hf0 := hf e
    refine mg_run 2 rfl ?_
    refine mg_lald rfl h662 vp_00 ?_
    refine mg_run 3 rfl ?_
    refine mg_if rfl (fun _ => ?_) (fun h9 => (h9 (la_cmp hf0)).elim)
    refine mg_run 1 rfl ?_
    exact (hK M2 _ _ _ _ (show k + 0 + 0 ≤ k0 + 6 by omega) (show n + 0 + 0 ≤ n0 + 36 by omega) ⟨_, _, _, _, _, hb2, md_re hmd2, hI2, f, h662⟩)
set_option maxRecDepth 8000 in
theorem lw_cs1 (hl : l.stackTraces = false) (hN : sc.1 < 2 ^ 31) (hi : i + 4 ≤ sc.1) (hk : k + 6 ≤ 601024) (hn : n + 36 ≤ 7293034) (hS : LwS M sl tp pl o th)
    (hK : ∀ M2 k2 n2 y5 y6, k2 ≤ k + 6 → n2 ≤ n + 36 → LwT M2 → mm_Go l sc Y_La_law k2 n2 M2 [some (.retAddr 0), some (.ref 0), some (.ref 54), some (.ref 66), some (.int (nI i)), y5, y6] [] 1012 Q) : mm_Go l sc Y_La_law k n M [some (.retAddr 0), some (.ref 0), some (.ref 54), some (.ref 66), some (.int (nI i)), x5, x6] [] 212 Q := by
  obtain ⟨hlb, hmd, hI, f0, h66⟩ := hS
  refine mg_run 4 rfl ?_
  refine mg_addN rfl ?_
  refine mg_sldN rfl hN (by omega) ?_
  refine mg_run 1 rfl ?_
  refine mg_callX (Y' := Y_La_read) [.ref 0, .int (sc.2 (i + 1)), .ref 66] rfl rfl rfl rfl rfl (la_chk (by decide) (by decide) (show k + 3 ≤ 601024 by omega) (show n + 18 ≤ 7293034 by omega) (by decide)) (h_La_read hlb.1.1 (op_read hl hlb hI (sc.2 (i + 1))) (fun oc M' hr => ?_))
  obtain ⟨kk, v, sl', tp', pl', o', ⟨hb', hon⟩, hcase, hm⟩ := hr
  have h66' := bn_66 hon h66
  rcases hcase with ⟨rfl, hok, rfl⟩ | ⟨rfl, rfl⟩ | ⟨rfl, hj, rfl⟩
  · exact Or.inl ⟨v, f0, rfl, h66', lw_tl1 hN hi (show k + 3 ≤ k + 3 by omega) (show n + 18 ≤ n + 18 by omega) hk hn (by decide) (md_66 (md_bn hmd hon) _) (lb_66 hb' _) (mm_at_set _ h66') (fun _ => if_pos rfl) hm hK⟩
  · exact Or.inr ⟨rfl, lw_tl1 hN hi (show k + 3 ≤ k + 3 by omega) (show n + 18 ≤ n + 18 by omega) hk hn (by decide) (md_bn hmd hon) hb' h66' (fun e => absurd e (by decide)) hm hK⟩
  · exact absurd rfl hj
set_option maxRecDepth 8000 in
theorem lw_tl3 (hN : sc.1 < 2 ^ 31) (hi : i + 4 ≤ sc.1) {k0 n0 : Nat} (hk0 : k ≤ k0 + 1) (hn0 : n ≤ n0 + 6) (hk : k0 + 6 ≤ 601024) (hn : n0 + 36 ≤ 7293034) {sl' : Nat → List Nat} {tp' : List Nat} {pl' v : Int32} {o' kk : Nat} {f : Nat → Int64} (hkk : kk < 3) (hmd : md_is M M sl tp pl o th) (hb : lb_is M sl' tp' pl' o') (h66 : M[66]? = some (ou f)) (hf : kk = 0 → f 0 = v.toInt64) (hm : ∀ M1 th, md_is M1 M1 sl tp pl o th → mm_Ct l sc Y_Mo_size M1 (.ref 54 :: [.int (sc.2 (i + 1))]) (RM kk v (PM M1 sl' tp' pl' o' kk)))
    (hK : ∀ M2 k2 n2 y5 y6, k2 ≤ k0 + 6 → n2 ≤ n0 + 36 → LwT M2 → mm_Go l sc Y_La_law k2 n2 M2 [some (.retAddr 0), some (.ref 0), some (.ref 54), some (.ref 66), some (.int (nI i)), y5, y6] [] 1012 Q) : mm_Go l sc Y_La_law k n M [some (.retAddr 0), some (.ref 0), some (.ref 54), some (.ref 66), some (.int (nI i)), x5, x6] [.int (nI kk)] 292 Q := by
  obtain ⟨xm, Am, hmo, -⟩ := id hmd
  refine mg_run 5 rfl ?_
  refine mg_addN rfl ?_
  refine mg_sldN rfl hN (by omega) ?_
  refine mg_callV (Y' := Y_Mo_size) [.int (sc.2 (i + 1))] rfl rfl rfl hmo.2.1 rfl rfl rfl (la_chk (by decide) (by decide) (show k + 0 ≤ 601024 by omega) (show n + 0 ≤ 7293034 by omega) (by decide)) ((hm M th hmd).mono (fun oc M2 hr => ?_))
  obtain ⟨⟨hmd2, hI2⟩, b, rfl, hbv⟩ := hr
  obtain ⟨xn, An, hmo2, -⟩ := id hmd2
  have hb2 := lb_keepR hb hmo2.1 (by decide)
  have h662 : M2[66]? = some (ou f) := (hmo2.1 66 (mm_rg_n (by decide))).trans h66
  refine mg_run 2 rfl ?_
  refine mg_callV (Y' := Y_Mo_thrown) [] rfl rfl rfl hmo2.2.1 rfl rfl rfl (la_chk (by decide) (by decide) (show k + 0 + 0 ≤ 601024 by omega) (show n + 0 + 0 ≤ 7293034 by omega) (by decide)) (d_Mo_thrown hmd2 ?_)
  refine mg_run 1 rfl ?_
  refine mg_eq rfl (by omega) (by omega) (fun _ => ?_) (fun e => absurd rfl e)
  refine mg_run 1 rfl ?_
  refine mg_zne rfl (by omega) (fun _ => ?_) (fun e => ?_)
  · refine mg_run 1 rfl ?_
    exact (hK M2 _ _ _ _ (show k + 0 + 0 ≤ k0 + 6 by omega) (show n + 0 + 0 ≤ n0 + 36 by omega) ⟨_, _, _, _, _, hb2, md_re hmd2, hI2, f, h662⟩)
  · have hv := hbv e
    subst hv
    have hf0 := hf e
    refine mg_run 2 rfl ?_
    refine mg_lald rfl h662 vp_00 ?_
    refine mg_run 3 rfl ?_
    refine mg_if rfl (fun _ => ?_) (fun h9 => (h9 (la_cmp hf0)).elim)
    refine mg_run 1 rfl ?_
    exact (hK M2 _ _ _ _ (show k + 0 + 0 ≤ k0 + 6 by omega) (show n + 0 + 0 ≤ n0 + 36 by omega) ⟨_, _, _, _, _, hb2, md_re hmd2, hI2, f, h662⟩)
set_option maxRecDepth 8000 in
theorem lw_cs3 (hl : l.stackTraces = false) (hN : sc.1 < 2 ^ 31) (hi : i + 4 ≤ sc.1) (hk : k + 6 ≤ 601024) (hn : n + 36 ≤ 7293034) (hS : LwS M sl tp pl o th)
    (hK : ∀ M2 k2 n2 y5 y6, k2 ≤ k + 6 → n2 ≤ n + 36 → LwT M2 → mm_Go l sc Y_La_law k2 n2 M2 [some (.retAddr 0), some (.ref 0), some (.ref 54), some (.ref 66), some (.int (nI i)), y5, y6] [] 1012 Q) : mm_Go l sc Y_La_law k n M [some (.retAddr 0), some (.ref 0), some (.ref 54), some (.ref 66), some (.int (nI i)), x5, x6] [] 281 Q := by
  obtain ⟨hlb, hmd, hI, f0, h66⟩ := hS
  refine mg_run 4 rfl ?_
  refine mg_addN rfl ?_
  refine mg_sldN rfl hN (by omega) ?_
  refine mg_run 1 rfl ?_
  refine mg_callX (Y' := Y_La_size) [.ref 0, .int (sc.2 (i + 1)), .ref 66] rfl rfl rfl rfl rfl (la_chk (by decide) (by decide) (show k + 1 ≤ 601024 by omega) (show n + 6 ≤ 7293034 by omega) (by decide)) (h_La_size hlb.1.1 (op_size hl hlb hI (sc.2 (i + 1))) (fun oc M' hr => ?_))
  obtain ⟨kk, v, sl', tp', pl', o', ⟨hb', hon⟩, hcase, hm⟩ := hr
  have h66' := bn_66 hon h66
  rcases hcase with ⟨rfl, hok, rfl⟩ | ⟨rfl, rfl⟩ | ⟨rfl, hj, rfl⟩
  · exact Or.inl ⟨v, f0, rfl, h66', lw_tl3 hN hi (show k + 1 ≤ k + 1 by omega) (show n + 6 ≤ n + 6 by omega) hk hn (by decide) (md_66 (md_bn hmd hon) _) (lb_66 hb' _) (mm_at_set _ h66') (fun _ => if_pos rfl) hm hK⟩
  · exact Or.inr ⟨rfl, lw_tl3 hN hi (show k + 1 ≤ k + 1 by omega) (show n + 6 ≤ n + 6 by omega) hk hn (by decide) (md_bn hmd hon) hb' h66' (fun e => absurd e (by decide)) hm hK⟩
  · exact absurd rfl hj
set_option maxRecDepth 8000 in
theorem lw_tl4 (hN : sc.1 < 2 ^ 31) (hi : i + 4 ≤ sc.1) {k0 n0 : Nat} (hk0 : k ≤ k0 + 2) (hn0 : n ≤ n0 + 12) (hk : k0 + 6 ≤ 601024) (hn : n0 + 36 ≤ 7293034) {sl' : Nat → List Nat} {tp' : List Nat} {pl' v : Int32} {o' kk : Nat} {f : Nat → Int64} (hkk : kk < 3) (hmd : md_is M M sl tp pl o th) (hb : lb_is M sl' tp' pl' o') (h66 : M[66]? = some (ou f)) (hf : kk = 0 → f 0 = v.toInt64) (hm : ∀ M1 th, md_is M1 M1 sl tp pl o th → mm_Ct l sc Y_Mo_print M1 (.ref 54 :: [.int (sc.2 (i + 1)), .int (sc.2 (i + 2))]) (RM kk v (PM M1 sl' tp' pl' o' kk)))
    (hK : ∀ M2 k2 n2 y5 y6, k2 ≤ k0 + 6 → n2 ≤ n0 + 36 → LwT M2 → mm_Go l sc Y_La_law k2 n2 M2 [some (.retAddr 0), some (.ref 0), some (.ref 54), some (.ref 66), some (.int (nI i)), y5, y6] [] 1012 Q) : mm_Go l sc Y_La_law k n M [some (.retAddr 0), some (.ref 0), some (.ref 54), some (.ref 66), some (.int (nI i)), x5, x6] [.int (nI kk)] 354 Q := by
  obtain ⟨xm, Am, hmo, -⟩ := id hmd
  refine mg_run 5 rfl ?_
  refine mg_addN rfl ?_
  refine mg_sldN rfl hN (by omega) ?_
  refine mg_run 3 rfl ?_
  refine mg_addN rfl ?_
  refine mg_sldN rfl hN (by omega) ?_
  refine mg_callV (Y' := Y_Mo_print) [.int (sc.2 (i + 1)), .int (sc.2 (i + 2))] rfl rfl rfl hmo.2.1 rfl rfl rfl (la_chk (by decide) (by decide) (show k + 0 ≤ 601024 by omega) (show n + 0 ≤ 7293034 by omega) (by decide)) ((hm M th hmd).mono (fun oc M2 hr => ?_))
  obtain ⟨⟨hmd2, hI2⟩, b, rfl, hbv⟩ := hr
  obtain ⟨xn, An, hmo2, -⟩ := id hmd2
  have hb2 := lb_keepR hb hmo2.1 (by decide)
  have h662 : M2[66]? = some (ou f) := (hmo2.1 66 (mm_rg_n (by decide))).trans h66
  refine mg_run 2 rfl ?_
  refine mg_callV (Y' := Y_Mo_thrown) [] rfl rfl rfl hmo2.2.1 rfl rfl rfl (la_chk (by decide) (by decide) (show k + 0 + 0 ≤ 601024 by omega) (show n + 0 + 0 ≤ 7293034 by omega) (by decide)) (d_Mo_thrown hmd2 ?_)
  refine mg_run 1 rfl ?_
  refine mg_eq rfl (by omega) (by omega) (fun _ => ?_) (fun e => absurd rfl e)
  refine mg_run 1 rfl ?_
  refine mg_zne rfl (by omega) (fun _ => ?_) (fun e => ?_)
  · refine mg_run 1 rfl ?_
    exact (hK M2 _ _ _ _ (show k + 0 + 0 ≤ k0 + 6 by omega) (show n + 0 + 0 ≤ n0 + 36 by omega) ⟨_, _, _, _, _, hb2, md_re hmd2, hI2, f, h662⟩)
  · have hv := hbv e
    subst hv
    have hf0 := hf e
    refine mg_run 2 rfl ?_
    refine mg_lald rfl h662 vp_00 ?_
    refine mg_run 3 rfl ?_
    refine mg_if rfl (fun _ => ?_) (fun h9 => (h9 (la_cmp hf0)).elim)
    refine mg_run 1 rfl ?_
    exact (hK M2 _ _ _ _ (show k + 0 + 0 ≤ k0 + 6 by omega) (show n + 0 + 0 ≤ n0 + 36 by omega) ⟨_, _, _, _, _, hb2, md_re hmd2, hI2, f, h662⟩)
set_option maxRecDepth 8000 in
theorem lw_cs4 (hl : l.stackTraces = false) (hN : sc.1 < 2 ^ 31) (hi : i + 4 ≤ sc.1) (hk : k + 6 ≤ 601024) (hn : n + 36 ≤ 7293034) (hS : LwS M sl tp pl o th)
    (hK : ∀ M2 k2 n2 y5 y6, k2 ≤ k + 6 → n2 ≤ n + 36 → LwT M2 → mm_Go l sc Y_La_law k2 n2 M2 [some (.retAddr 0), some (.ref 0), some (.ref 54), some (.ref 66), some (.int (nI i)), y5, y6] [] 1012 Q) : mm_Go l sc Y_La_law k n M [some (.retAddr 0), some (.ref 0), some (.ref 54), some (.ref 66), some (.int (nI i)), x5, x6] [] 337 Q := by
  obtain ⟨hlb, hmd, hI, f0, h66⟩ := hS
  refine mg_run 4 rfl ?_
  refine mg_addN rfl ?_
  refine mg_sldN rfl hN (by omega) ?_
  refine mg_run 3 rfl ?_
  refine mg_addN rfl ?_
  refine mg_sldN rfl hN (by omega) ?_
  refine mg_run 1 rfl ?_
  refine mg_callX (Y' := Y_La_print) [.ref 0, .int (sc.2 (i + 1)), .int (sc.2 (i + 2)), .ref 66] rfl rfl rfl rfl rfl (la_chk (by decide) (by decide) (show k + 2 ≤ 601024 by omega) (show n + 12 ≤ 7293034 by omega) (by decide)) (h_La_print hlb.1.1 (op_print hl hlb hI (sc.2 (i + 1)) (sc.2 (i + 2))) (fun oc M' hr => ?_))
  obtain ⟨kk, v, sl', tp', pl', o', ⟨hb', hon⟩, hcase, hm⟩ := hr
  have h66' := bn_66 hon h66
  rcases hcase with ⟨rfl, hok, rfl⟩ | ⟨rfl, rfl⟩ | ⟨rfl, hj, rfl⟩
  · exact Or.inl ⟨v, f0, rfl, h66', lw_tl4 hN hi (show k + 2 ≤ k + 2 by omega) (show n + 12 ≤ n + 12 by omega) hk hn (by decide) (md_66 (md_bn hmd hon) _) (lb_66 hb' _) (mm_at_set _ h66') (fun _ => if_pos rfl) hm hK⟩
  · exact Or.inr (Or.inl ⟨rfl, lw_tl4 hN hi (show k + 2 ≤ k + 2 by omega) (show n + 12 ≤ n + 12 by omega) hk hn (by decide) (md_bn hmd hon) hb' h66' (fun e => absurd e (by decide)) hm hK⟩)
  · exact Or.inr (Or.inr ⟨rfl, lw_tl4 hN hi (show k + 2 ≤ k + 2 by omega) (show n + 12 ≤ n + 12 by omega) hk hn (by decide) (md_bn hmd hon) hb' h66' (fun e => absurd e (by decide)) hm hK⟩)
set_option maxRecDepth 8000 in
theorem lw_tl5 (hN : sc.1 < 2 ^ 31) (hi : i + 4 ≤ sc.1) {k0 n0 : Nat} (hk0 : k ≤ k0 + 2) (hn0 : n ≤ n0 + 12) (hk : k0 + 6 ≤ 601024) (hn : n0 + 36 ≤ 7293034) {sl' : Nat → List Nat} {kk : Nat} {f : Nat → Int64} (hkk : kk < 3) (hmd : md_is M M sl tp pl o th) (hb : lb_is M sl' tp pl o) (h66 : M[66]? = some (ou f)) (hm : ∀ M1 th, md_is M1 M1 sl tp pl o th → mm_Ct l sc Y_Mo_copy M1 (.ref 54 :: [.int (sc.2 (i + 1)), .int (sc.2 (i + 2))]) (fun oc2 M2 => PM M1 sl' tp pl o kk M2 ∧ oc2 = .inl none))
    (hK : ∀ M2 k2 n2 y5 y6, k2 ≤ k0 + 6 → n2 ≤ n0 + 36 → LwT M2 → mm_Go l sc Y_La_law k2 n2 M2 [some (.retAddr 0), some (.ref 0), some (.ref 54), some (.ref 66), some (.int (nI i)), y5, y6] [] 1012 Q) : mm_Go l sc Y_La_law k n M [some (.retAddr 0), some (.ref 0), some (.ref 54), some (.ref 66), some (.int (nI i)), x5, x6] [.int (nI kk)] 421 Q := by
  obtain ⟨xm, Am, hmo, -⟩ := id hmd
  refine mg_run 5 rfl ?_
  refine mg_addN rfl ?_
  refine mg_sldN rfl hN (by omega) ?_
  refine mg_run 3 rfl ?_
  refine mg_addN rfl ?_
  refine mg_sldN rfl hN (by omega) ?_
  refine mg_callV (Y' := Y_Mo_copy) [.int (sc.2 (i + 1)), .int (sc.2 (i + 2))] rfl rfl rfl hmo.2.1 rfl rfl rfl (la_chk (by decide) (by decide) (show k + 0 ≤ 601024 by omega) (show n + 0 ≤ 7293034 by omega) (by decide)) ((hm M th hmd).mono (fun oc M2 hr => ?_))
  obtain ⟨⟨hmd2, hI2⟩, rfl⟩ := hr
  obtain ⟨xn, An, hmo2, -⟩ := id hmd2
  have hb2 := lb_keepR hb hmo2.1 (by decide)
  have h662 : M2[66]? = some (ou f) := (hmo2.1 66 (mm_rg_n (by decide))).trans h66
  refine mg_run 1 rfl ?_
  refine mg_callV (Y' := Y_Mo_thrown) [] rfl rfl rfl hmo2.2.1 rfl rfl rfl (la_chk (by decide) (by decide) (show k + 0 + 0 ≤ 601024 by omega) (show n + 0 + 0 ≤ 7293034 by omega) (by decide)) (d_Mo_thrown hmd2 ?_)
  refine mg_run 1 rfl ?_
  refine mg_eq rfl (by omega) (by omega) (fun _ => ?_) (fun e => absurd rfl e)
  refine mg_run 1 rfl ?_
  exact (hK M2 _ _ _ _ (show k + 0 + 0 ≤ k0 + 6 by omega) (show n + 0 + 0 ≤ n0 + 36 by omega) ⟨_, _, _, _, _, hb2, md_re hmd2, hI2, f, h662⟩)
set_option maxRecDepth 8000 in
theorem lw_cs5 (hl : l.stackTraces = false) (hN : sc.1 < 2 ^ 31) (hi : i + 4 ≤ sc.1) (hk : k + 6 ≤ 601024) (hn : n + 36 ≤ 7293034) (hS : LwS M sl tp pl o th)
    (hK : ∀ M2 k2 n2 y5 y6, k2 ≤ k + 6 → n2 ≤ n + 36 → LwT M2 → mm_Go l sc Y_La_law k2 n2 M2 [some (.retAddr 0), some (.ref 0), some (.ref 54), some (.ref 66), some (.int (nI i)), y5, y6] [] 1012 Q) : mm_Go l sc Y_La_law k n M [some (.retAddr 0), some (.ref 0), some (.ref 54), some (.ref 66), some (.int (nI i)), x5, x6] [] 405 Q := by
  obtain ⟨hlb, hmd, hI, f0, h66⟩ := hS
  refine mg_run 4 rfl ?_
  refine mg_addN rfl ?_
  refine mg_sldN rfl hN (by omega) ?_
  refine mg_run 3 rfl ?_
  refine mg_addN rfl ?_
  refine mg_sldN rfl hN (by omega) ?_
  refine mg_callX (Y' := Y_La_copy) [.ref 0, .int (sc.2 (i + 1)), .int (sc.2 (i + 2))] rfl rfl rfl rfl rfl (la_chk (by decide) (by decide) (show k + 2 ≤ 601024 by omega) (show n + 12 ≤ 7293034 by omega) (by decide)) (h_La_copy hlb.1.1 (op_copy hl hlb hI (sc.2 (i + 1)) (sc.2 (i + 2))) (fun oc M' hr => ?_))
  obtain ⟨kk, sl', ⟨hb', hon⟩, hcase, hm⟩ := hr
  have h66' := bn_66 hon h66
  rcases hcase with ⟨rfl, rfl⟩ | ⟨rfl, rfl⟩
  · exact Or.inl ⟨rfl, lw_tl5 hN hi (show k + 2 ≤ k + 2 by omega) (show n + 12 ≤ n + 12 by omega) hk hn (by decide) (md_bn hmd hon) hb' h66' hm hK⟩
  · exact Or.inr ⟨rfl, lw_tl5 hN hi (show k + 2 ≤ k + 2 by omega) (show n + 12 ≤ n + 12 by omega) hk hn (by decide) (md_bn hmd hon) hb' h66' hm hK⟩
set_option maxRecDepth 8000 in
theorem lw_tl6 (hN : sc.1 < 2 ^ 31) (hi : i + 4 ≤ sc.1) {k0 n0 : Nat} (hk0 : k ≤ k0 + 6) (hn0 : n ≤ n0 + 36) (hk : k0 + 6 ≤ 601024) (hn : n0 + 36 ≤ 7293034) {sl' : Nat → List Nat} {tp' : List Nat} {pl' v : Int32} {o' kk : Nat} {f : Nat → Int64} (hkk : kk < 3) (hmd : md_is M M sl tp pl o th) (hb : lb_is M sl' tp' pl' o') (h66 : M[66]? = some (ou f)) (hf : kk = 0 → f 0 = v.toInt64) (hm : ∀ M1 th, md_is M1 M1 sl tp pl o th → mm_Ct l sc Y_Mo_apply M1 (.ref 54 :: [.int (sc.2 (i + 1)), .int (sc.2 (i + 2)), .int (sc.2 (i + 3))]) (RM kk v (PM M1 sl' tp' pl' o' kk)))
    (hK : ∀ M2 k2 n2 y5 y6, k2 ≤ k0 + 6 → n2 ≤ n0 + 36 → LwT M2 → mm_Go l sc Y_La_law k2 n2 M2 [some (.retAddr 0), some (.ref 0), some (.ref 54), some (.ref 66), some (.int (nI i)), y5, y6] [] 1012 Q) : mm_Go l sc Y_La_law k n M [some (.retAddr 0), some (.ref 0), some (.ref 54), some (.ref 66), some (.int (nI i)), x5, x6] [.int (nI kk)] 476 Q := by
  obtain ⟨xm, Am, hmo, -⟩ := id hmd
  refine mg_run 5 rfl ?_
  refine mg_addN rfl ?_
  refine mg_sldN rfl hN (by omega) ?_
  refine mg_run 3 rfl ?_
  refine mg_addN rfl ?_
  refine mg_sldN rfl hN (by omega) ?_
  refine mg_run 3 rfl ?_
  refine mg_addN rfl ?_
  refine mg_sldN rfl hN (by omega) ?_
  refine mg_callV (Y' := Y_Mo_apply) [.int (sc.2 (i + 1)), .int (sc.2 (i + 2)), .int (sc.2 (i + 3))] rfl rfl rfl hmo.2.1 rfl rfl rfl (la_chk (by decide) (by decide) (show k + 0 ≤ 601024 by omega) (show n + 0 ≤ 7293034 by omega) (by decide)) ((hm M th hmd).mono (fun oc M2 hr => ?_))
  obtain ⟨⟨hmd2, hI2⟩, b, rfl, hbv⟩ := hr
  obtain ⟨xn, An, hmo2, -⟩ := id hmd2
  have hb2 := lb_keepR hb hmo2.1 (by decide)
  have h662 : M2[66]? = some (ou f) := (hmo2.1 66 (mm_rg_n (by decide))).trans h66
  refine mg_run 2 rfl ?_
  refine mg_callV (Y' := Y_Mo_thrown) [] rfl rfl rfl hmo2.2.1 rfl rfl rfl (la_chk (by decide) (by decide) (show k + 0 + 0 ≤ 601024 by omega) (show n + 0 + 0 ≤ 7293034 by omega) (by decide)) (d_Mo_thrown hmd2 ?_)
  refine mg_run 1 rfl ?_
  refine mg_eq rfl (by omega) (by omega) (fun _ => ?_) (fun e => absurd rfl e)
  refine mg_run 1 rfl ?_
  refine mg_zne rfl (by omega) (fun _ => ?_) (fun e => ?_)
  · refine mg_run 1 rfl ?_
    exact (hK M2 _ _ _ _ (show k + 0 + 0 ≤ k0 + 6 by omega) (show n + 0 + 0 ≤ n0 + 36 by omega) ⟨_, _, _, _, _, hb2, md_re hmd2, hI2, f, h662⟩)
  · have hv := hbv e
    subst hv
    have hf0 := hf e
    refine mg_run 2 rfl ?_
    refine mg_lald rfl h662 vp_00 ?_
    refine mg_run 3 rfl ?_
    refine mg_if rfl (fun _ => ?_) (fun h9 => (h9 (la_cmp hf0)).elim)
    refine mg_run 1 rfl ?_
    exact (hK M2 _ _ _ _ (show k + 0 + 0 ≤ k0 + 6 by omega) (show n + 0 + 0 ≤ n0 + 36 by omega) ⟨_, _, _, _, _, hb2, md_re hmd2, hI2, f, h662⟩)
set_option maxRecDepth 8000 in
theorem lw_cs6 (hl : l.stackTraces = false) (hN : sc.1 < 2 ^ 31) (hi : i + 4 ≤ sc.1) (hk : k + 6 ≤ 601024) (hn : n + 36 ≤ 7293034) (hS : LwS M sl tp pl o th)
    (hK : ∀ M2 k2 n2 y5 y6, k2 ≤ k + 6 → n2 ≤ n + 36 → LwT M2 → mm_Go l sc Y_La_law k2 n2 M2 [some (.retAddr 0), some (.ref 0), some (.ref 54), some (.ref 66), some (.int (nI i)), y5, y6] [] 1012 Q) : mm_Go l sc Y_La_law k n M [some (.retAddr 0), some (.ref 0), some (.ref 54), some (.ref 66), some (.int (nI i)), x5, x6] [] 453 Q := by
  obtain ⟨hlb, hmd, hI, f0, h66⟩ := hS
  refine mg_run 4 rfl ?_
  refine mg_addN rfl ?_
  refine mg_sldN rfl hN (by omega) ?_
  refine mg_run 3 rfl ?_
  refine mg_addN rfl ?_
  refine mg_sldN rfl hN (by omega) ?_
  refine mg_run 3 rfl ?_
  refine mg_addN rfl ?_
  refine mg_sldN rfl hN (by omega) ?_
  refine mg_run 1 rfl ?_
  refine mg_callX (Y' := Y_La_apply) [.ref 0, .int (sc.2 (i + 1)), .int (sc.2 (i + 2)), .int (sc.2 (i + 3)), .ref 66] rfl rfl rfl rfl rfl (la_chk (by decide) (by decide) (show k + 6 ≤ 601024 by omega) (show n + 36 ≤ 7293034 by omega) (by decide)) (h_La_apply hlb.1.1 (op_apply hl hlb hI (sc.2 (i + 1)) (sc.2 (i + 2)) (sc.2 (i + 3))) (fun oc M' hr => ?_))
  obtain ⟨kk, v, sl', tp', pl', o', ⟨hb', hon⟩, hcase, hm⟩ := hr
  have h66' := bn_66 hon h66
  rcases hcase with ⟨rfl, hok, rfl⟩ | ⟨rfl, rfl⟩ | ⟨rfl, hj, rfl⟩
  · exact Or.inl ⟨v, f0, rfl, h66', lw_tl6 hN hi (show k + 6 ≤ k + 6 by omega) (show n + 36 ≤ n + 36 by omega) hk hn (by decide) (md_66 (md_bn hmd hon) _) (lb_66 hb' _) (mm_at_set _ h66') (fun _ => if_pos rfl) hm hK⟩
  · exact Or.inr (Or.inl ⟨rfl, lw_tl6 hN hi (show k + 6 ≤ k + 6 by omega) (show n + 36 ≤ n + 36 by omega) hk hn (by decide) (md_bn hmd hon) hb' h66' (fun e => absurd e (by decide)) hm hK⟩)
  · exact Or.inr (Or.inr ⟨rfl, lw_tl6 hN hi (show k + 6 ≤ k + 6 by omega) (show n + 36 ≤ n + 36 by omega) hk hn (by decide) (md_bn hmd hon) hb' h66' (fun e => absurd e (by decide)) hm hK⟩)
set_option maxRecDepth 8000 in
theorem lw_tl7 (hN : sc.1 < 2 ^ 31) (hi : i + 4 ≤ sc.1) {k0 n0 : Nat} (hk0 : k ≤ k0 + 4) (hn0 : n ≤ n0 + 24) (hk : k0 + 6 ≤ 601024) (hn : n0 + 36 ≤ 7293034) {sl' : Nat → List Nat} {tp' : List Nat} {pl' v : Int32} {o' kk : Nat} {f : Nat → Int64} (hkk : kk < 3) (hmd : md_is M M sl tp pl o th) (hb : lb_is M sl' tp' pl' o') (h66 : M[66]? = some (ou f)) (hf : kk = 0 → f 0 = v.toInt64) (hm : ∀ M1 th, md_is M1 M1 sl tp pl o th → mm_Ct l sc Y_Mo_bind M1 (.ref 54 :: [.int (sc.2 (i + 1)), .int (sc.2 (i + 2))]) (RM kk v (PM M1 sl' tp' pl' o' kk)))
    (hK : ∀ M2 k2 n2 y5 y6, k2 ≤ k0 + 6 → n2 ≤ n0 + 36 → LwT M2 → mm_Go l sc Y_La_law k2 n2 M2 [some (.retAddr 0), some (.ref 0), some (.ref 54), some (.ref 66), some (.int (nI i)), y5, y6] [] 1012 Q) : mm_Go l sc Y_La_law k n M [some (.retAddr 0), some (.ref 0), some (.ref 54), some (.ref 66), some (.int (nI i)), x5, x6] [.int (nI kk)] 550 Q := by
  obtain ⟨xm, Am, hmo, -⟩ := id hmd
  refine mg_run 5 rfl ?_
  refine mg_addN rfl ?_
  refine mg_sldN rfl hN (by omega) ?_
  refine mg_run 3 rfl ?_
  refine mg_addN rfl ?_
  refine mg_sldN rfl hN (by omega) ?_
  refine mg_callV (Y' := Y_Mo_bind) [.int (sc.2 (i + 1)), .int (sc.2 (i + 2))] rfl rfl rfl hmo.2.1 rfl rfl rfl (la_chk (by decide) (by decide) (show k + 0 ≤ 601024 by omega) (show n + 0 ≤ 7293034 by omega) (by decide)) ((hm M th hmd).mono (fun oc M2 hr => ?_))
  obtain ⟨⟨hmd2, hI2⟩, b, rfl, hbv⟩ := hr
  obtain ⟨xn, An, hmo2, -⟩ := id hmd2
  have hb2 := lb_keepR hb hmo2.1 (by decide)
  have h662 : M2[66]? = some (ou f) := (hmo2.1 66 (mm_rg_n (by decide))).trans h66
  refine mg_run 2 rfl ?_
  refine mg_callV (Y' := Y_Mo_thrown) [] rfl rfl rfl hmo2.2.1 rfl rfl rfl (la_chk (by decide) (by decide) (show k + 0 + 0 ≤ 601024 by omega) (show n + 0 + 0 ≤ 7293034 by omega) (by decide)) (d_Mo_thrown hmd2 ?_)
  refine mg_run 1 rfl ?_
  refine mg_eq rfl (by omega) (by omega) (fun _ => ?_) (fun e => absurd rfl e)
  refine mg_run 1 rfl ?_
  refine mg_zne rfl (by omega) (fun _ => ?_) (fun e => ?_)
  · refine mg_run 1 rfl ?_
    exact (hK M2 _ _ _ _ (show k + 0 + 0 ≤ k0 + 6 by omega) (show n + 0 + 0 ≤ n0 + 36 by omega) ⟨_, _, _, _, _, hb2, md_re hmd2, hI2, f, h662⟩)
  · have hv := hbv e
    subst hv
    have hf0 := hf e
    refine mg_run 2 rfl ?_
    refine mg_lald rfl h662 vp_00 ?_
    refine mg_run 3 rfl ?_
    refine mg_if rfl (fun _ => ?_) (fun h9 => (h9 (la_cmp hf0)).elim)
    refine mg_run 1 rfl ?_
    exact (hK M2 _ _ _ _ (show k + 0 + 0 ≤ k0 + 6 by omega) (show n + 0 + 0 ≤ n0 + 36 by omega) ⟨_, _, _, _, _, hb2, md_re hmd2, hI2, f, h662⟩)
set_option maxRecDepth 8000 in
theorem lw_cs7 (hl : l.stackTraces = false) (hN : sc.1 < 2 ^ 31) (hi : i + 4 ≤ sc.1) (hk : k + 6 ≤ 601024) (hn : n + 36 ≤ 7293034) (hS : LwS M sl tp pl o th)
    (hK : ∀ M2 k2 n2 y5 y6, k2 ≤ k + 6 → n2 ≤ n + 36 → LwT M2 → mm_Go l sc Y_La_law k2 n2 M2 [some (.retAddr 0), some (.ref 0), some (.ref 54), some (.ref 66), some (.int (nI i)), y5, y6] [] 1012 Q) : mm_Go l sc Y_La_law k n M [some (.retAddr 0), some (.ref 0), some (.ref 54), some (.ref 66), some (.int (nI i)), x5, x6] [] 533 Q := by
  obtain ⟨hlb, hmd, hI, f0, h66⟩ := hS
  refine mg_run 4 rfl ?_
  refine mg_addN rfl ?_
  refine mg_sldN rfl hN (by omega) ?_
  refine mg_run 3 rfl ?_
  refine mg_addN rfl ?_
  refine mg_sldN rfl hN (by omega) ?_
  refine mg_run 1 rfl ?_
  refine mg_callX (Y' := Y_La_bind) [.ref 0, .int (sc.2 (i + 1)), .int (sc.2 (i + 2)), .ref 66] rfl rfl rfl rfl rfl (la_chk (by decide) (by decide) (show k + 4 ≤ 601024 by omega) (show n + 24 ≤ 7293034 by omega) (by decide)) (h_La_bind hlb.1.1 (op_bind hl hlb hI (sc.2 (i + 1)) (sc.2 (i + 2))) (fun oc M' hr => ?_))
  obtain ⟨kk, v, sl', tp', pl', o', ⟨hb', hon⟩, hcase, hm⟩ := hr
  have h66' := bn_66 hon h66
  rcases hcase with ⟨rfl, hok, rfl⟩ | ⟨rfl, rfl⟩ | ⟨rfl, hj, rfl⟩
  · exact Or.inl ⟨v, f0, rfl, h66', lw_tl7 hN hi (show k + 4 ≤ k + 4 by omega) (show n + 24 ≤ n + 24 by omega) hk hn (by decide) (md_66 (md_bn hmd hon) _) (lb_66 hb' _) (mm_at_set _ h66') (fun _ => if_pos rfl) hm hK⟩
  · exact Or.inr (Or.inl ⟨rfl, lw_tl7 hN hi (show k + 4 ≤ k + 4 by omega) (show n + 24 ≤ n + 24 by omega) hk hn (by decide) (md_bn hmd hon) hb' h66' (fun e => absurd e (by decide)) hm hK⟩)
  · exact Or.inr (Or.inr ⟨rfl, lw_tl7 hN hi (show k + 4 ≤ k + 4 by omega) (show n + 24 ≤ n + 24 by omega) hk hn (by decide) (md_bn hmd hon) hb' h66' (fun e => absurd e (by decide)) hm hK⟩)
set_option maxRecDepth 8000 in
theorem lw_tl8 (hN : sc.1 < 2 ^ 31) (hi : i + 4 ≤ sc.1) {k0 n0 : Nat} (hk0 : k ≤ k0 + 2) (hn0 : n ≤ n0 + 12) (hk : k0 + 6 ≤ 601024) (hn : n0 + 36 ≤ 7293034) {sl' : Nat → List Nat} {tp' : List Nat} {pl' v : Int32} {o' kk : Nat} {f : Nat → Int64} (hkk : kk < 3) (hmd : md_is M M sl tp pl o th) (hb : lb_is M sl' tp' pl' o') (h66 : M[66]? = some (ou f)) (hf : kk = 0 → f 0 = v.toInt64) (hm : ∀ M1 th, md_is M1 M1 sl tp pl o th → mm_Ct l sc Y_Mo_redexes M1 (.ref 54 :: [.int (sc.2 (i + 1))]) (RM kk v (PM M1 sl' tp' pl' o' kk)))
    (hK : ∀ M2 k2 n2 y5 y6, k2 ≤ k0 + 6 → n2 ≤ n0 + 36 → LwT M2 → mm_Go l sc Y_La_law k2 n2 M2 [some (.retAddr 0), some (.ref 0), some (.ref 54), some (.ref 66), some (.int (nI i)), y5, y6] [] 1012 Q) : mm_Go l sc Y_La_law k n M [some (.retAddr 0), some (.ref 0), some (.ref 54), some (.ref 66), some (.int (nI i)), x5, x6] [.int (nI kk)] 612 Q := by
  obtain ⟨xm, Am, hmo, -⟩ := id hmd
  refine mg_run 5 rfl ?_
  refine mg_addN rfl ?_
  refine mg_sldN rfl hN (by omega) ?_
  refine mg_callV (Y' := Y_Mo_redexes) [.int (sc.2 (i + 1))] rfl rfl rfl hmo.2.1 rfl rfl rfl (la_chk (by decide) (by decide) (show k + 0 ≤ 601024 by omega) (show n + 0 ≤ 7293034 by omega) (by decide)) ((hm M th hmd).mono (fun oc M2 hr => ?_))
  obtain ⟨⟨hmd2, hI2⟩, b, rfl, hbv⟩ := hr
  obtain ⟨xn, An, hmo2, -⟩ := id hmd2
  have hb2 := lb_keepR hb hmo2.1 (by decide)
  have h662 : M2[66]? = some (ou f) := (hmo2.1 66 (mm_rg_n (by decide))).trans h66
  refine mg_run 2 rfl ?_
  refine mg_callV (Y' := Y_Mo_thrown) [] rfl rfl rfl hmo2.2.1 rfl rfl rfl (la_chk (by decide) (by decide) (show k + 0 + 0 ≤ 601024 by omega) (show n + 0 + 0 ≤ 7293034 by omega) (by decide)) (d_Mo_thrown hmd2 ?_)
  refine mg_run 1 rfl ?_
  refine mg_eq rfl (by omega) (by omega) (fun _ => ?_) (fun e => absurd rfl e)
  refine mg_run 1 rfl ?_
  refine mg_zne rfl (by omega) (fun _ => ?_) (fun e => ?_)
  · refine mg_run 1 rfl ?_
    exact (hK M2 _ _ _ _ (show k + 0 + 0 ≤ k0 + 6 by omega) (show n + 0 + 0 ≤ n0 + 36 by omega) ⟨_, _, _, _, _, hb2, md_re hmd2, hI2, f, h662⟩)
  · have hv := hbv e
    subst hv
    have hf0 := hf e
    refine mg_run 2 rfl ?_
    refine mg_lald rfl h662 vp_00 ?_
    refine mg_run 3 rfl ?_
    refine mg_if rfl (fun _ => ?_) (fun h9 => (h9 (la_cmp hf0)).elim)
    refine mg_run 1 rfl ?_
    exact (hK M2 _ _ _ _ (show k + 0 + 0 ≤ k0 + 6 by omega) (show n + 0 + 0 ≤ n0 + 36 by omega) ⟨_, _, _, _, _, hb2, md_re hmd2, hI2, f, h662⟩)
set_option maxRecDepth 8000 in
theorem lw_cs8 (hl : l.stackTraces = false) (hN : sc.1 < 2 ^ 31) (hi : i + 4 ≤ sc.1) (hk : k + 6 ≤ 601024) (hn : n + 36 ≤ 7293034) (hS : LwS M sl tp pl o th)
    (hK : ∀ M2 k2 n2 y5 y6, k2 ≤ k + 6 → n2 ≤ n + 36 → LwT M2 → mm_Go l sc Y_La_law k2 n2 M2 [some (.retAddr 0), some (.ref 0), some (.ref 54), some (.ref 66), some (.int (nI i)), y5, y6] [] 1012 Q) : mm_Go l sc Y_La_law k n M [some (.retAddr 0), some (.ref 0), some (.ref 54), some (.ref 66), some (.int (nI i)), x5, x6] [] 601 Q := by
  obtain ⟨hlb, hmd, hI, f0, h66⟩ := hS
  refine mg_run 4 rfl ?_
  refine mg_addN rfl ?_
  refine mg_sldN rfl hN (by omega) ?_
  refine mg_run 1 rfl ?_
  refine mg_callX (Y' := Y_La_redexes) [.ref 0, .int (sc.2 (i + 1)), .ref 66] rfl rfl rfl rfl rfl (la_chk (by decide) (by decide) (show k + 2 ≤ 601024 by omega) (show n + 12 ≤ 7293034 by omega) (by decide)) (h_La_redexes hlb.1.1 (op_redexes hl hlb hI (sc.2 (i + 1))) (fun oc M' hr => ?_))
  obtain ⟨kk, v, sl', tp', pl', o', ⟨hb', hon⟩, hcase, hm⟩ := hr
  have h66' := bn_66 hon h66
  rcases hcase with ⟨rfl, hok, rfl⟩ | ⟨rfl, rfl⟩ | ⟨rfl, hj, rfl⟩
  · exact Or.inl ⟨v, f0, rfl, h66', lw_tl8 hN hi (show k + 2 ≤ k + 2 by omega) (show n + 12 ≤ n + 12 by omega) hk hn (by decide) (md_66 (md_bn hmd hon) _) (lb_66 hb' _) (mm_at_set _ h66') (fun _ => if_pos rfl) hm hK⟩
  · exact Or.inr (Or.inl ⟨rfl, lw_tl8 hN hi (show k + 2 ≤ k + 2 by omega) (show n + 12 ≤ n + 12 by omega) hk hn (by decide) (md_bn hmd hon) hb' h66' (fun e => absurd e (by decide)) hm hK⟩)
  · exact Or.inr (Or.inr ⟨rfl, lw_tl8 hN hi (show k + 2 ≤ k + 2 by omega) (show n + 12 ≤ n + 12 by omega) hk hn (by decide) (md_bn hmd hon) hb' h66' (fun e => absurd e (by decide)) hm hK⟩)
set_option maxRecDepth 8000 in
theorem lw_tl9 (hN : sc.1 < 2 ^ 31) (hi : i + 4 ≤ sc.1) {k0 n0 : Nat} (hk0 : k ≤ k0 + 3) (hn0 : n ≤ n0 + 18) (hk : k0 + 6 ≤ 601024) (hn : n0 + 36 ≤ 7293034) {sl' : Nat → List Nat} {tp' : List Nat} {pl' v : Int32} {o' kk : Nat} {f : Nat → Int64} (hkk : kk < 3) (hmd : md_is M M sl tp pl o th) (hb : lb_is M sl' tp' pl' o') (h66 : M[66]? = some (ou f)) (hf : kk = 0 → f 0 = v.toInt64) (hm : ∀ M1 th, md_is M1 M1 sl tp pl o th → mm_Ct l sc Y_Mo_reduce M1 (.ref 54 :: [.int (sc.2 (i + 1)), .int (sc.2 (i + 2))]) (RM kk v (PM M1 sl' tp' pl' o' kk)))
    (hK : ∀ M2 k2 n2 y5 y6, k2 ≤ k0 + 6 → n2 ≤ n0 + 36 → LwT M2 → mm_Go l sc Y_La_law k2 n2 M2 [some (.retAddr 0), some (.ref 0), some (.ref 54), some (.ref 66), some (.int (nI i)), y5, y6] [] 1012 Q) : mm_Go l sc Y_La_law k n M [some (.retAddr 0), some (.ref 0), some (.ref 54), some (.ref 66), some (.int (nI i)), x5, x6] [.int (nI kk)] 674 Q := by
  obtain ⟨xm, Am, hmo, -⟩ := id hmd
  refine mg_run 5 rfl ?_
  refine mg_addN rfl ?_
  refine mg_sldN rfl hN (by omega) ?_
  refine mg_run 3 rfl ?_
  refine mg_addN rfl ?_
  refine mg_sldN rfl hN (by omega) ?_
  refine mg_callV (Y' := Y_Mo_reduce) [.int (sc.2 (i + 1)), .int (sc.2 (i + 2))] rfl rfl rfl hmo.2.1 rfl rfl rfl (la_chk (by decide) (by decide) (show k + 0 ≤ 601024 by omega) (show n + 0 ≤ 7293034 by omega) (by decide)) ((hm M th hmd).mono (fun oc M2 hr => ?_))
  obtain ⟨⟨hmd2, hI2⟩, b, rfl, hbv⟩ := hr
  obtain ⟨xn, An, hmo2, -⟩ := id hmd2
  have hb2 := lb_keepR hb hmo2.1 (by decide)
  have h662 : M2[66]? = some (ou f) := (hmo2.1 66 (mm_rg_n (by decide))).trans h66
  refine mg_run 2 rfl ?_
  refine mg_callV (Y' := Y_Mo_thrown) [] rfl rfl rfl hmo2.2.1 rfl rfl rfl (la_chk (by decide) (by decide) (show k + 0 + 0 ≤ 601024 by omega) (show n + 0 + 0 ≤ 7293034 by omega) (by decide)) (d_Mo_thrown hmd2 ?_)
  refine mg_run 1 rfl ?_
  refine mg_eq rfl (by omega) (by omega) (fun _ => ?_) (fun e => absurd rfl e)
  refine mg_run 1 rfl ?_
  refine mg_zne rfl (by omega) (fun _ => ?_) (fun e => ?_)
  · refine mg_run 1 rfl ?_
    exact (hK M2 _ _ _ _ (show k + 0 + 0 ≤ k0 + 6 by omega) (show n + 0 + 0 ≤ n0 + 36 by omega) ⟨_, _, _, _, _, hb2, md_re hmd2, hI2, f, h662⟩)
  · have hv := hbv e
    subst hv
    have hf0 := hf e
    refine mg_run 2 rfl ?_
    refine mg_lald rfl h662 vp_00 ?_
    refine mg_run 3 rfl ?_
    refine mg_if rfl (fun _ => ?_) (fun h9 => (h9 (la_cmp hf0)).elim)
    refine mg_run 1 rfl ?_
    exact (hK M2 _ _ _ _ (show k + 0 + 0 ≤ k0 + 6 by omega) (show n + 0 + 0 ≤ n0 + 36 by omega) ⟨_, _, _, _, _, hb2, md_re hmd2, hI2, f, h662⟩)
set_option maxRecDepth 8000 in
theorem lw_cs9 (hl : l.stackTraces = false) (hN : sc.1 < 2 ^ 31) (hi : i + 4 ≤ sc.1) (hk : k + 6 ≤ 601024) (hn : n + 36 ≤ 7293034) (hS : LwS M sl tp pl o th)
    (hK : ∀ M2 k2 n2 y5 y6, k2 ≤ k + 6 → n2 ≤ n + 36 → LwT M2 → mm_Go l sc Y_La_law k2 n2 M2 [some (.retAddr 0), some (.ref 0), some (.ref 54), some (.ref 66), some (.int (nI i)), y5, y6] [] 1012 Q) : mm_Go l sc Y_La_law k n M [some (.retAddr 0), some (.ref 0), some (.ref 54), some (.ref 66), some (.int (nI i)), x5, x6] [] 657 Q := by
  obtain ⟨hlb, hmd, hI, f0, h66⟩ := hS
  refine mg_run 4 rfl ?_
  refine mg_addN rfl ?_
  refine mg_sldN rfl hN (by omega) ?_
  refine mg_run 3 rfl ?_
  refine mg_addN rfl ?_
  refine mg_sldN rfl hN (by omega) ?_
  refine mg_run 1 rfl ?_
  refine mg_callX (Y' := Y_La_reduce) [.ref 0, .int (sc.2 (i + 1)), .int (sc.2 (i + 2)), .ref 66] rfl rfl rfl rfl rfl (la_chk (by decide) (by decide) (show k + 3 ≤ 601024 by omega) (show n + 18 ≤ 7293034 by omega) (by decide)) (h_La_reduce hlb.1.1 (op_reduce hl hlb hI (sc.2 (i + 1)) (sc.2 (i + 2))) (fun oc M' hr => ?_))
  obtain ⟨kk, v, sl', tp', pl', o', ⟨hb', hon⟩, hcase, hm⟩ := hr
  have h66' := bn_66 hon h66
  rcases hcase with ⟨rfl, hok, rfl⟩ | ⟨rfl, rfl⟩ | ⟨rfl, hj, rfl⟩
  · exact Or.inl ⟨v, f0, rfl, h66', lw_tl9 hN hi (show k + 3 ≤ k + 3 by omega) (show n + 18 ≤ n + 18 by omega) hk hn (by decide) (md_66 (md_bn hmd hon) _) (lb_66 hb' _) (mm_at_set _ h66') (fun _ => if_pos rfl) hm hK⟩
  · exact Or.inr (Or.inl ⟨rfl, lw_tl9 hN hi (show k + 3 ≤ k + 3 by omega) (show n + 18 ≤ n + 18 by omega) hk hn (by decide) (md_bn hmd hon) hb' h66' (fun e => absurd e (by decide)) hm hK⟩)
  · exact Or.inr (Or.inr ⟨rfl, lw_tl9 hN hi (show k + 3 ≤ k + 3 by omega) (show n + 18 ≤ n + 18 by omega) hk hn (by decide) (md_bn hmd hon) hb' h66' (fun e => absurd e (by decide)) hm hK⟩)
set_option maxRecDepth 8000 in
theorem lw_tl11 (hN : sc.1 < 2 ^ 31) (hi : i + 4 ≤ sc.1) {k0 n0 : Nat} (hk0 : k ≤ k0 + 3) (hn0 : n ≤ n0 + 18) (hk : k0 + 6 ≤ 601024) (hn : n0 + 36 ≤ 7293034) {sl' : Nat → List Nat} {tp' : List Nat} {pl' v : Int32} {o' kk : Nat} {f : Nat → Int64} (hkk : kk < 3) (hmd : md_is M M sl tp pl o th) (hb : lb_is M sl' tp' pl' o') (h66 : M[66]? = some (ou f)) (hf : kk = 0 → f 0 = v.toInt64) (hm : ∀ M1 th, md_is M1 M1 sl tp pl o th → mm_Ct l sc Y_Mo_abstracted M1 (.ref 54 :: [.int (sc.2 (i + 1))]) (RM kk v (PM M1 sl' tp' pl' o' kk)))
    (hK : ∀ M2 k2 n2 y5 y6, k2 ≤ k0 + 6 → n2 ≤ n0 + 36 → LwT M2 → mm_Go l sc Y_La_law k2 n2 M2 [some (.retAddr 0), some (.ref 0), some (.ref 54), some (.ref 66), some (.int (nI i)), y5, y6] [] 1012 Q) : mm_Go l sc Y_La_law k n M [some (.retAddr 0), some (.ref 0), some (.ref 54), some (.ref 66), some (.int (nI i)), x5, x6] [.int (nI kk)] 749 Q := by
  obtain ⟨xm, Am, hmo, -⟩ := id hmd
  refine mg_run 5 rfl ?_
  refine mg_addN rfl ?_
  refine mg_sldN rfl hN (by omega) ?_
  refine mg_callV (Y' := Y_Mo_abstracted) [.int (sc.2 (i + 1))] rfl rfl rfl hmo.2.1 rfl rfl rfl (la_chk (by decide) (by decide) (show k + 0 ≤ 601024 by omega) (show n + 0 ≤ 7293034 by omega) (by decide)) ((hm M th hmd).mono (fun oc M2 hr => ?_))
  obtain ⟨⟨hmd2, hI2⟩, b, rfl, hbv⟩ := hr
  obtain ⟨xn, An, hmo2, -⟩ := id hmd2
  have hb2 := lb_keepR hb hmo2.1 (by decide)
  have h662 : M2[66]? = some (ou f) := (hmo2.1 66 (mm_rg_n (by decide))).trans h66
  refine mg_run 2 rfl ?_
  refine mg_callV (Y' := Y_Mo_thrown) [] rfl rfl rfl hmo2.2.1 rfl rfl rfl (la_chk (by decide) (by decide) (show k + 0 + 0 ≤ 601024 by omega) (show n + 0 + 0 ≤ 7293034 by omega) (by decide)) (d_Mo_thrown hmd2 ?_)
  refine mg_run 1 rfl ?_
  refine mg_eq rfl (by omega) (by omega) (fun _ => ?_) (fun e => absurd rfl e)
  refine mg_run 1 rfl ?_
  refine mg_zne rfl (by omega) (fun _ => ?_) (fun e => ?_)
  · refine mg_run 1 rfl ?_
    exact (hK M2 _ _ _ _ (show k + 0 + 0 ≤ k0 + 6 by omega) (show n + 0 + 0 ≤ n0 + 36 by omega) ⟨_, _, _, _, _, hb2, md_re hmd2, hI2, f, h662⟩)
  · have hv := hbv e
    subst hv
    have hf0 := hf e
    refine mg_run 2 rfl ?_
    refine mg_lald rfl h662 vp_00 ?_
    refine mg_run 3 rfl ?_
    refine mg_if rfl (fun _ => ?_) (fun h9 => (h9 (la_cmp hf0)).elim)
    refine mg_run 1 rfl ?_
    exact (hK M2 _ _ _ _ (show k + 0 + 0 ≤ k0 + 6 by omega) (show n + 0 + 0 ≤ n0 + 36 by omega) ⟨_, _, _, _, _, hb2, md_re hmd2, hI2, f, h662⟩)
set_option maxRecDepth 8000 in
theorem lw_cs11 (hl : l.stackTraces = false) (hN : sc.1 < 2 ^ 31) (hi : i + 4 ≤ sc.1) (hk : k + 6 ≤ 601024) (hn : n + 36 ≤ 7293034) (hS : LwS M sl tp pl o th)
    (hK : ∀ M2 k2 n2 y5 y6, k2 ≤ k + 6 → n2 ≤ n + 36 → LwT M2 → mm_Go l sc Y_La_law k2 n2 M2 [some (.retAddr 0), some (.ref 0), some (.ref 54), some (.ref 66), some (.int (nI i)), y5, y6] [] 1012 Q) : mm_Go l sc Y_La_law k n M [some (.retAddr 0), some (.ref 0), some (.ref 54), some (.ref 66), some (.int (nI i)), x5, x6] [] 738 Q := by
  obtain ⟨hlb, hmd, hI, f0, h66⟩ := hS
  refine mg_run 4 rfl ?_
  refine mg_addN rfl ?_
  refine mg_sldN rfl hN (by omega) ?_
  refine mg_run 1 rfl ?_
  refine mg_callX (Y' := Y_La_abstracted) [.ref 0, .int (sc.2 (i + 1)), .ref 66] rfl rfl rfl rfl rfl (la_chk (by decide) (by decide) (show k + 3 ≤ 601024 by omega) (show n + 18 ≤ 7293034 by omega) (by decide)) (h_La_abstracted hlb.1.1 (op_abstracted hl hlb hI (sc.2 (i + 1))) (fun oc M' hr => ?_))
  obtain ⟨kk, v, sl', tp', pl', o', ⟨hb', hon⟩, hcase, hm⟩ := hr
  have h66' := bn_66 hon h66
  rcases hcase with ⟨rfl, hok, rfl⟩ | ⟨rfl, rfl⟩ | ⟨rfl, hj, rfl⟩
  · exact Or.inl ⟨v, f0, rfl, h66', lw_tl11 hN hi (show k + 3 ≤ k + 3 by omega) (show n + 18 ≤ n + 18 by omega) hk hn (by decide) (md_66 (md_bn hmd hon) _) (lb_66 hb' _) (mm_at_set _ h66') (fun _ => if_pos rfl) hm hK⟩
  · exact Or.inr (Or.inl ⟨rfl, lw_tl11 hN hi (show k + 3 ≤ k + 3 by omega) (show n + 18 ≤ n + 18 by omega) hk hn (by decide) (md_bn hmd hon) hb' h66' (fun e => absurd e (by decide)) hm hK⟩)
  · exact Or.inr (Or.inr ⟨rfl, lw_tl11 hN hi (show k + 3 ≤ k + 3 by omega) (show n + 18 ≤ n + 18 by omega) hk hn (by decide) (md_bn hmd hon) hb' h66' (fun e => absurd e (by decide)) hm hK⟩)
set_option maxRecDepth 8000 in
theorem lw_tl12 (hN : sc.1 < 2 ^ 31) (hi : i + 4 ≤ sc.1) {k0 n0 : Nat} (hk0 : k ≤ k0 + 4) (hn0 : n ≤ n0 + 24) (hk : k0 + 6 ≤ 601024) (hn : n0 + 36 ≤ 7293034) {sl' : Nat → List Nat} {tp' : List Nat} {pl' v : Int32} {o' kk : Nat} {f : Nat → Int64} (hkk : kk < 3) (hmd : md_is M M sl tp pl o th) (hb : lb_is M sl' tp' pl' o') (h66 : M[66]? = some (ou f)) (hf : kk = 0 → f 0 = v.toInt64) (hm : ∀ M1 th, md_is M1 M1 sl tp pl o th → mm_Ct l sc Y_Mo_numeral2 M1 (.ref 54 :: [.int (sc.2 (i + 1)), .int (sc.2 (i + 2))]) (RM kk v (PM M1 sl' tp' pl' o' kk)))
    (hK : ∀ M2 k2 n2 y5 y6, k2 ≤ k0 + 6 → n2 ≤ n0 + 36 → LwT M2 → mm_Go l sc Y_La_law k2 n2 M2 [some (.retAddr 0), some (.ref 0), some (.ref 54), some (.ref 66), some (.int (nI i)), y5, y6] [] 1012 Q) : mm_Go l sc Y_La_law k n M [some (.retAddr 0), some (.ref 0), some (.ref 54), some (.ref 66), some (.int (nI i)), x5, x6] [.int (nI kk)] 811 Q := by
  obtain ⟨xm, Am, hmo, -⟩ := id hmd
  refine mg_run 5 rfl ?_
  refine mg_addN rfl ?_
  refine mg_sldN rfl hN (by omega) ?_
  refine mg_run 3 rfl ?_
  refine mg_addN rfl ?_
  refine mg_sldN rfl hN (by omega) ?_
  refine mg_callV (Y' := Y_Mo_numeral2) [.int (sc.2 (i + 1)), .int (sc.2 (i + 2))] rfl rfl rfl hmo.2.1 rfl rfl rfl (la_chk (by decide) (by decide) (show k + 0 ≤ 601024 by omega) (show n + 0 ≤ 7293034 by omega) (by decide)) ((hm M th hmd).mono (fun oc M2 hr => ?_))
  obtain ⟨⟨hmd2, hI2⟩, b, rfl, hbv⟩ := hr
  obtain ⟨xn, An, hmo2, -⟩ := id hmd2
  have hb2 := lb_keepR hb hmo2.1 (by decide)
  have h662 : M2[66]? = some (ou f) := (hmo2.1 66 (mm_rg_n (by decide))).trans h66
  refine mg_run 2 rfl ?_
  refine mg_callV (Y' := Y_Mo_thrown) [] rfl rfl rfl hmo2.2.1 rfl rfl rfl (la_chk (by decide) (by decide) (show k + 0 + 0 ≤ 601024 by omega) (show n + 0 + 0 ≤ 7293034 by omega) (by decide)) (d_Mo_thrown hmd2 ?_)
  refine mg_run 1 rfl ?_
  refine mg_eq rfl (by omega) (by omega) (fun _ => ?_) (fun e => absurd rfl e)
  refine mg_run 1 rfl ?_
  refine mg_zne rfl (by omega) (fun _ => ?_) (fun e => ?_)
  · refine mg_run 1 rfl ?_
    exact (hK M2 _ _ _ _ (show k + 0 + 0 ≤ k0 + 6 by omega) (show n + 0 + 0 ≤ n0 + 36 by omega) ⟨_, _, _, _, _, hb2, md_re hmd2, hI2, f, h662⟩)
  · have hv := hbv e
    subst hv
    have hf0 := hf e
    refine mg_run 2 rfl ?_
    refine mg_lald rfl h662 vp_00 ?_
    refine mg_run 3 rfl ?_
    refine mg_if rfl (fun _ => ?_) (fun h9 => (h9 (la_cmp hf0)).elim)
    refine mg_run 1 rfl ?_
    exact (hK M2 _ _ _ _ (show k + 0 + 0 ≤ k0 + 6 by omega) (show n + 0 + 0 ≤ n0 + 36 by omega) ⟨_, _, _, _, _, hb2, md_re hmd2, hI2, f, h662⟩)
set_option maxRecDepth 8000 in
theorem lw_cs12 (hl : l.stackTraces = false) (hN : sc.1 < 2 ^ 31) (hi : i + 4 ≤ sc.1) (hk : k + 6 ≤ 601024) (hn : n + 36 ≤ 7293034) (hS : LwS M sl tp pl o th)
    (hK : ∀ M2 k2 n2 y5 y6, k2 ≤ k + 6 → n2 ≤ n + 36 → LwT M2 → mm_Go l sc Y_La_law k2 n2 M2 [some (.retAddr 0), some (.ref 0), some (.ref 54), some (.ref 66), some (.int (nI i)), y5, y6] [] 1012 Q) : mm_Go l sc Y_La_law k n M [some (.retAddr 0), some (.ref 0), some (.ref 54), some (.ref 66), some (.int (nI i)), x5, x6] [] 794 Q := by
  obtain ⟨hlb, hmd, hI, f0, h66⟩ := hS
  refine mg_run 4 rfl ?_
  refine mg_addN rfl ?_
  refine mg_sldN rfl hN (by omega) ?_
  refine mg_run 3 rfl ?_
  refine mg_addN rfl ?_
  refine mg_sldN rfl hN (by omega) ?_
  refine mg_run 1 rfl ?_
  refine mg_callX (Y' := Y_La_numeral) [.ref 0, .int (sc.2 (i + 1)), .int (sc.2 (i + 2)), .ref 66] rfl rfl rfl rfl rfl (la_chk (by decide) (by decide) (show k + 4 ≤ 601024 by omega) (show n + 24 ≤ 7293034 by omega) (by decide)) (h_La_numeral hlb.1.1 (op_numeral hl hlb hI (sc.2 (i + 1)) (sc.2 (i + 2))) (fun oc M' hr => ?_))
  obtain ⟨kk, v, sl', tp', pl', o', ⟨hb', hon⟩, hcase, hm⟩ := hr
  have h66' := bn_66 hon h66
  rcases hcase with ⟨rfl, hok, rfl⟩ | ⟨rfl, rfl⟩ | ⟨rfl, hj, rfl⟩
  · exact Or.inl ⟨v, f0, rfl, h66', lw_tl12 hN hi (show k + 4 ≤ k + 4 by omega) (show n + 24 ≤ n + 24 by omega) hk hn (by decide) (md_66 (md_bn hmd hon) _) (lb_66 hb' _) (mm_at_set _ h66') (fun _ => if_pos rfl) hm hK⟩
  · exact Or.inr (Or.inl ⟨rfl, lw_tl12 hN hi (show k + 4 ≤ k + 4 by omega) (show n + 24 ≤ n + 24 by omega) hk hn (by decide) (md_bn hmd hon) hb' h66' (fun e => absurd e (by decide)) hm hK⟩)
  · exact Or.inr (Or.inr ⟨rfl, lw_tl12 hN hi (show k + 4 ≤ k + 4 by omega) (show n + 24 ≤ n + 24 by omega) hk hn (by decide) (md_bn hmd hon) hb' h66' (fun e => absurd e (by decide)) hm hK⟩)
set_option maxRecDepth 8000 in
theorem lw_tl13 (hN : sc.1 < 2 ^ 31) (hi : i + 4 ≤ sc.1) {k0 n0 : Nat} (hk0 : k ≤ k0 + 2) (hn0 : n ≤ n0 + 12) (hk : k0 + 6 ≤ 601024) (hn : n0 + 36 ≤ 7293034) {sl' : Nat → List Nat} {tp' : List Nat} {pl' v : Int32} {o' kk : Nat} {f : Nat → Int64} (hkk : kk < 3) (hmd : md_is M M sl tp pl o th) (hb : lb_is M sl' tp' pl' o') (h66 : M[66]? = some (ou f)) (hf : kk = 0 → f 0 = v.toInt64) (hok : kk = 0 → b_ok v) (hm : ∀ M1 th, md_is M1 M1 sl tp pl o th → mm_Ct l sc Y_Mo_same M1 (.ref 54 :: [.int (sc.2 (i + 1)), .int (sc.2 (i + 2))]) (RM kk v (PM M1 sl' tp' pl' o' kk)))
    (hK : ∀ M2 k2 n2 y5 y6, k2 ≤ k0 + 6 → n2 ≤ n0 + 36 → LwT M2 → mm_Go l sc Y_La_law k2 n2 M2 [some (.retAddr 0), some (.ref 0), some (.ref 54), some (.ref 66), some (.int (nI i)), y5, y6] [] 1012 Q) : mm_Go l sc Y_La_law k n M [some (.retAddr 0), some (.ref 0), some (.ref 54), some (.ref 66), some (.int (nI i)), x5, x6] [.int (nI kk)] 879 Q := by
  obtain ⟨xm, Am, hmo, -⟩ := id hmd
  refine mg_run 5 rfl ?_
  refine mg_addN rfl ?_
  refine mg_sldN rfl hN (by omega) ?_
  refine mg_run 3 rfl ?_
  refine mg_addN rfl ?_
  refine mg_sldN rfl hN (by omega) ?_
  refine mg_callV (Y' := Y_Mo_same) [.int (sc.2 (i + 1)), .int (sc.2 (i + 2))] rfl rfl rfl hmo.2.1 rfl rfl rfl (la_chk (by decide) (by decide) (show k + 0 ≤ 601024 by omega) (show n + 0 ≤ 7293034 by omega) (by decide)) ((hm M th hmd).mono (fun oc M2 hr => ?_))
  obtain ⟨⟨hmd2, hI2⟩, b, rfl, hbv⟩ := hr
  obtain ⟨xn, An, hmo2, -⟩ := id hmd2
  have hb2 := lb_keepR hb hmo2.1 (by decide)
  have h662 : M2[66]? = some (ou f) := (hmo2.1 66 (mm_rg_n (by decide))).trans h66
  refine mg_run 2 rfl ?_
  refine mg_callV (Y' := Y_Mo_thrown) [] rfl rfl rfl hmo2.2.1 rfl rfl rfl (la_chk (by decide) (by decide) (show k + 0 + 0 ≤ 601024 by omega) (show n + 0 + 0 ≤ 7293034 by omega) (by decide)) (d_Mo_thrown hmd2 ?_)
  refine mg_run 1 rfl ?_
  refine mg_eq rfl (by omega) (by omega) (fun _ => ?_) (fun e => absurd rfl e)
  refine mg_run 1 rfl ?_
  refine mg_zne rfl (by omega) (fun _ => ?_) (fun e => ?_)
  · refine mg_run 1 rfl ?_
    exact (hK M2 _ _ _ _ (show k + 0 + 0 ≤ k0 + 6 by omega) (show n + 0 + 0 ≤ n0 + 36 by omega) ⟨_, _, _, _, _, hb2, md_re hmd2, hI2, f, h662⟩)
  · have hv := hbv e
    subst hv
    have hf0 := hf e
    refine mg_run 2 rfl ?_
    refine mg_lald rfl h662 vp_00 ?_
    obtain ⟨bb, hbb, rfl⟩ := hok e
    refine mg_run 1 rfl ?_
    refine mg_zeq rfl (by omega) (fun c => ?_) (fun c => ?_)
    · subst c
      refine mg_run 2 rfl ?_
      refine mg_if rfl (fun _ => ?_) (fun h9 => (h9 (la_cmp (w := 0) hf0)).elim)
      refine mg_run 1 rfl ?_
      exact (hK M2 _ _ _ _ (show k + 0 + 0 ≤ k0 + 6 by omega) (show n + 0 + 0 ≤ n0 + 36 by omega) ⟨_, _, _, _, _, hb2, md_re hmd2, hI2, f, h662⟩)
    · have e1 : bb = 1 := by omega
      subst e1
      refine mg_run 3 rfl ?_
      refine mg_if rfl (fun _ => ?_) (fun h9 => (h9 (la_cmp (w := 1) hf0)).elim)
      refine mg_run 1 rfl ?_
      exact (hK M2 _ _ _ _ (show k + 0 + 0 ≤ k0 + 6 by omega) (show n + 0 + 0 ≤ n0 + 36 by omega) ⟨_, _, _, _, _, hb2, md_re hmd2, hI2, f, h662⟩)
set_option maxRecDepth 8000 in
theorem lw_cs13 (hl : l.stackTraces = false) (hN : sc.1 < 2 ^ 31) (hi : i + 4 ≤ sc.1) (hk : k + 6 ≤ 601024) (hn : n + 36 ≤ 7293034) (hS : LwS M sl tp pl o th)
    (hK : ∀ M2 k2 n2 y5 y6, k2 ≤ k + 6 → n2 ≤ n + 36 → LwT M2 → mm_Go l sc Y_La_law k2 n2 M2 [some (.retAddr 0), some (.ref 0), some (.ref 54), some (.ref 66), some (.int (nI i)), y5, y6] [] 1012 Q) : mm_Go l sc Y_La_law k n M [some (.retAddr 0), some (.ref 0), some (.ref 54), some (.ref 66), some (.int (nI i)), x5, x6] [] 862 Q := by
  obtain ⟨hlb, hmd, hI, f0, h66⟩ := hS
  refine mg_run 4 rfl ?_
  refine mg_addN rfl ?_
  refine mg_sldN rfl hN (by omega) ?_
  refine mg_run 3 rfl ?_
  refine mg_addN rfl ?_
  refine mg_sldN rfl hN (by omega) ?_
  refine mg_run 1 rfl ?_
  refine mg_callX (Y' := Y_La_same) [.ref 0, .int (sc.2 (i + 1)), .int (sc.2 (i + 2)), .ref 66] rfl rfl rfl rfl rfl (la_chk (by decide) (by decide) (show k + 2 ≤ 601024 by omega) (show n + 12 ≤ 7293034 by omega) (by decide)) (h_La_same hlb.1.1 (op_same hl hlb hI (sc.2 (i + 1)) (sc.2 (i + 2))) (fun oc M' hr => ?_))
  obtain ⟨kk, v, sl', tp', pl', o', ⟨hb', hon⟩, hcase, hm⟩ := hr
  have h66' := bn_66 hon h66
  rcases hcase with ⟨rfl, hok, rfl⟩ | ⟨rfl, rfl⟩ | ⟨rfl, hj, rfl⟩
  · obtain ⟨bb, hbb, rfl⟩ := id hok
    exact Or.inl ⟨bb, f0, hbb, rfl, h66', lw_tl13 hN hi (show k + 2 ≤ k + 2 by omega) (show n + 12 ≤ n + 12 by omega) hk hn (by decide) (md_66 (md_bn hmd hon) _) (lb_66 hb' _) (mm_at_set _ h66') (fun _ => if_pos rfl) (fun _ => hok) hm hK⟩
  · exact Or.inr ⟨rfl, lw_tl13 hN hi (show k + 2 ≤ k + 2 by omega) (show n + 12 ≤ n + 12 by omega) hk hn (by decide) (md_bn hmd hon) hb' h66' (fun e => absurd e (by decide)) (fun e => absurd e (by decide)) hm hK⟩
  · exact absurd rfl hj
set_option maxRecDepth 8000 in
theorem lw_tl14 (hN : sc.1 < 2 ^ 31) (hi : i + 4 ≤ sc.1) {k0 n0 : Nat} (hk0 : k ≤ k0 + 2) (hn0 : n ≤ n0 + 12) (hk : k0 + 6 ≤ 601024) (hn : n0 + 36 ≤ 7293034) {sl' : Nat → List Nat} {tp' : List Nat} {pl' v : Int32} {o' kk : Nat} {f : Nat → Int64} (hkk : kk < 3) (hmd : md_is M M sl tp pl o th) (hb : lb_is M sl' tp' pl' o') (h66 : M[66]? = some (ou f)) (hf : kk = 0 → f 0 = v.toInt64) (hok : kk = 0 → b_ok v) (hm : ∀ M1 th, md_is M1 M1 sl tp pl o th → mm_Ct l sc Y_Mo_has M1 (.ref 54 :: [.int (sc.2 (i + 1)), .int (sc.2 (i + 2))]) (RM kk v (PM M1 sl' tp' pl' o' kk)))
    (hK : ∀ M2 k2 n2 y5 y6, k2 ≤ k0 + 6 → n2 ≤ n0 + 36 → LwT M2 → mm_Go l sc Y_La_law k2 n2 M2 [some (.retAddr 0), some (.ref 0), some (.ref 54), some (.ref 66), some (.int (nI i)), y5, y6] [] 1012 Q) : mm_Go l sc Y_La_law k n M [some (.retAddr 0), some (.ref 0), some (.ref 54), some (.ref 66), some (.int (nI i)), x5, x6] [.int (nI kk)] 954 Q := by
  obtain ⟨xm, Am, hmo, -⟩ := id hmd
  refine mg_run 5 rfl ?_
  refine mg_addN rfl ?_
  refine mg_sldN rfl hN (by omega) ?_
  refine mg_run 3 rfl ?_
  refine mg_addN rfl ?_
  refine mg_sldN rfl hN (by omega) ?_
  refine mg_callV (Y' := Y_Mo_has) [.int (sc.2 (i + 1)), .int (sc.2 (i + 2))] rfl rfl rfl hmo.2.1 rfl rfl rfl (la_chk (by decide) (by decide) (show k + 0 ≤ 601024 by omega) (show n + 0 ≤ 7293034 by omega) (by decide)) ((hm M th hmd).mono (fun oc M2 hr => ?_))
  obtain ⟨⟨hmd2, hI2⟩, b, rfl, hbv⟩ := hr
  obtain ⟨xn, An, hmo2, -⟩ := id hmd2
  have hb2 := lb_keepR hb hmo2.1 (by decide)
  have h662 : M2[66]? = some (ou f) := (hmo2.1 66 (mm_rg_n (by decide))).trans h66
  refine mg_run 2 rfl ?_
  refine mg_callV (Y' := Y_Mo_thrown) [] rfl rfl rfl hmo2.2.1 rfl rfl rfl (la_chk (by decide) (by decide) (show k + 0 + 0 ≤ 601024 by omega) (show n + 0 + 0 ≤ 7293034 by omega) (by decide)) (d_Mo_thrown hmd2 ?_)
  refine mg_run 1 rfl ?_
  refine mg_eq rfl (by omega) (by omega) (fun _ => ?_) (fun e => absurd rfl e)
  refine mg_run 1 rfl ?_
  refine mg_zne rfl (by omega) (fun _ => ?_) (fun e => ?_)
  · refine mg_run 1 rfl ?_
    exact (hK M2 _ _ _ _ (show k + 0 + 0 ≤ k0 + 6 by omega) (show n + 0 + 0 ≤ n0 + 36 by omega) ⟨_, _, _, _, _, hb2, md_re hmd2, hI2, f, h662⟩)
  · have hv := hbv e
    subst hv
    have hf0 := hf e
    refine mg_run 2 rfl ?_
    refine mg_lald rfl h662 vp_00 ?_
    obtain ⟨bb, hbb, rfl⟩ := hok e
    refine mg_run 1 rfl ?_
    refine mg_zeq rfl (by omega) (fun c => ?_) (fun c => ?_)
    · subst c
      refine mg_run 2 rfl ?_
      refine mg_if rfl (fun _ => ?_) (fun h9 => (h9 (la_cmp (w := 0) hf0)).elim)
      refine mg_run 1 rfl ?_
      exact (hK M2 _ _ _ _ (show k + 0 + 0 ≤ k0 + 6 by omega) (show n + 0 + 0 ≤ n0 + 36 by omega) ⟨_, _, _, _, _, hb2, md_re hmd2, hI2, f, h662⟩)
    · have e1 : bb = 1 := by omega
      subst e1
      refine mg_run 3 rfl ?_
      refine mg_if rfl (fun _ => ?_) (fun h9 => (h9 (la_cmp (w := 1) hf0)).elim)
      refine mg_run 1 rfl ?_
      exact (hK M2 _ _ _ _ (show k + 0 + 0 ≤ k0 + 6 by omega) (show n + 0 + 0 ≤ n0 + 36 by omega) ⟨_, _, _, _, _, hb2, md_re hmd2, hI2, f, h662⟩)
set_option maxRecDepth 8000 in
theorem lw_cs14 (hl : l.stackTraces = false) (hN : sc.1 < 2 ^ 31) (hi : i + 4 ≤ sc.1) (hk : k + 6 ≤ 601024) (hn : n + 36 ≤ 7293034) (hS : LwS M sl tp pl o th)
    (hK : ∀ M2 k2 n2 y5 y6, k2 ≤ k + 6 → n2 ≤ n + 36 → LwT M2 → mm_Go l sc Y_La_law k2 n2 M2 [some (.retAddr 0), some (.ref 0), some (.ref 54), some (.ref 66), some (.int (nI i)), y5, y6] [] 1012 Q) : mm_Go l sc Y_La_law k n M [some (.retAddr 0), some (.ref 0), some (.ref 54), some (.ref 66), some (.int (nI i)), x5, x6] [] 937 Q := by
  obtain ⟨hlb, hmd, hI, f0, h66⟩ := hS
  refine mg_run 4 rfl ?_
  refine mg_addN rfl ?_
  refine mg_sldN rfl hN (by omega) ?_
  refine mg_run 3 rfl ?_
  refine mg_addN rfl ?_
  refine mg_sldN rfl hN (by omega) ?_
  refine mg_run 1 rfl ?_
  refine mg_callX (Y' := Y_La_has) [.ref 0, .int (sc.2 (i + 1)), .int (sc.2 (i + 2)), .ref 66] rfl rfl rfl rfl rfl (la_chk (by decide) (by decide) (show k + 2 ≤ 601024 by omega) (show n + 12 ≤ 7293034 by omega) (by decide)) (h_La_has hlb.1.1 (op_has hl hlb hI (sc.2 (i + 1)) (sc.2 (i + 2))) (fun oc M' hr => ?_))
  obtain ⟨kk, v, sl', tp', pl', o', ⟨hb', hon⟩, hcase, hm⟩ := hr
  have h66' := bn_66 hon h66
  rcases hcase with ⟨rfl, hok, rfl⟩ | ⟨rfl, rfl⟩ | ⟨rfl, hj, rfl⟩
  · obtain ⟨bb, hbb, rfl⟩ := id hok
    exact Or.inl ⟨bb, f0, hbb, rfl, h66', lw_tl14 hN hi (show k + 2 ≤ k + 2 by omega) (show n + 12 ≤ n + 12 by omega) hk hn (by decide) (md_66 (md_bn hmd hon) _) (lb_66 hb' _) (mm_at_set _ h66') (fun _ => if_pos rfl) (fun _ => hok) hm hK⟩
  · exact Or.inr ⟨rfl, lw_tl14 hN hi (show k + 2 ≤ k + 2 by omega) (show n + 12 ≤ n + 12 by omega) hk hn (by decide) (md_bn hmd hon) hb' h66' (fun e => absurd e (by decide)) (fun e => absurd e (by decide)) hm hK⟩
  · exact absurd rfl hj
set_option maxRecDepth 8000 in
theorem lw_cs2 (hk : k + 6 ≤ 601024) (hn : n + 36 ≤ 7293034) (hS : LwS M sl tp pl o th)
    (hK : ∀ M2 k2 n2 y5 y6, k2 ≤ k + 6 → n2 ≤ n + 36 → LwT M2 → mm_Go l sc Y_La_law k2 n2 M2 [some (.retAddr 0), some (.ref 0), some (.ref 54), some (.ref 66), some (.int (nI i)), y5, y6] [] 1012 Q) : mm_Go l sc Y_La_law k n M [some (.retAddr 0), some (.ref 0), some (.ref 54), some (.ref 66), some (.int (nI i)), x5, x6] [] 268 Q := by
  obtain ⟨hlb, hmd, hI, f0, h66⟩ := hS
  obtain ⟨xm, Am, hmo, -⟩ := id hmd
  refine mg_run 1 rfl ?_
  refine mg_callV (Y' := Y_LB_place) [] rfl rfl rfl hlb.1.1 rfl rfl rfl (la_chk (by decide) (by decide) (show k + 0 ≤ 601024 by omega) (show n + 0 ≤ 7293034 by omega) (by decide)) (c_LB_place hlb ?_)
  refine mg_run 1 rfl ?_
  refine mg_callV (Y' := Y_Mo_place) [] rfl rfl rfl hmo.2.1 rfl rfl rfl (la_chk (by decide) (by decide) (show k + 0 + 0 ≤ 601024 by omega) (show n + 0 + 0 ≤ 7293034 by omega) (show 1 ≤ 8 by decide)) (d_Mo_place hmd (fun M2 hmd2 => ?_))
  obtain ⟨xn, An, hmo2, -⟩ := id hmd2
  refine mg_icmp rfl (fun _ => ?_) (fun e => absurd rfl e)
  exact hK M2 _ _ _ _ (show k + 0 + 0 ≤ k + 6 by omega) (show n + 0 + 0 ≤ n + 36 by omega) ⟨_, _, _, _, _, lb_keepR hlb hmo2.1 (by decide), md_re hmd2, hI, f0, (hmo2.1 66 (mm_rg_n (by decide))).trans h66⟩
set_option maxRecDepth 8000 in
theorem lw_cs10 (hk : k + 6 ≤ 601024) (hn : n + 36 ≤ 7293034) (hS : LwS M sl tp pl o th)
    (hK : ∀ M2 k2 n2 y5 y6, k2 ≤ k + 6 → n2 ≤ n + 36 → LwT M2 → mm_Go l sc Y_La_law k2 n2 M2 [some (.retAddr 0), some (.ref 0), some (.ref 54), some (.ref 66), some (.int (nI i)), y5, y6] [] 1012 Q) : mm_Go l sc Y_La_law k n M [some (.retAddr 0), some (.ref 0), some (.ref 54), some (.ref 66), some (.int (nI i)), x5, x6] [] 725 Q := by
  obtain ⟨hlb, hmd, hI, f0, h66⟩ := hS
  obtain ⟨xm, Am, hmo, -⟩ := id hmd
  refine mg_run 1 rfl ?_
  refine mg_callV (Y' := Y_LB_how) [] rfl rfl rfl hlb.1.1 rfl rfl rfl (la_chk (by decide) (by decide) (show k + 0 ≤ 601024 by omega) (show n + 0 ≤ 7293034 by omega) (by decide)) (c_LB_how hlb ?_)
  refine mg_run 1 rfl ?_
  refine mg_callV (Y' := Y_Mo_how) [] rfl rfl rfl hmo.2.1 rfl rfl rfl (la_chk (by decide) (by decide) (show k + 0 + 0 ≤ 601024 by omega) (show n + 0 + 0 ≤ 7293034 by omega) (show 1 ≤ 8 by decide)) (d_Mo_how hmd (fun M2 hmd2 => ?_))
  obtain ⟨xn, An, hmo2, -⟩ := id hmd2
  refine mg_icmp rfl (fun _ => ?_) (fun e => absurd rfl e)
  exact hK M2 _ _ _ _ (show k + 0 + 0 ≤ k + 6 by omega) (show n + 0 + 0 ≤ n + 36 by omega) ⟨_, _, _, _, _, lb_keepR hlb hmo2.1 (by decide), md_re hmd2, hI, f0, (hmo2.1 66 (mm_rg_n (by decide))).trans h66⟩
end
