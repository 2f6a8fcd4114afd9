/-! Calls of methods; new cells; the three methods of the JDK. -/
def mm_chk (k n : Nat) (R R' : Room) (nL' z : Nat) : Bool := Nat.ble (R'.frames + 1) R.frames && Nat.ble (8 + (nL' + 11) + R'.locals) R.locals && Nat.ble (k + R'.cells) R.cells && Nat.ble (n + R'.slots) R.slots && Nat.ble z 8
theorem mm_chk_inv {k n : Nat} {R R' : Room} {nL' z : Nat} (h : mm_chk k n R R' nL' z = true) : (R'.frames + 1 ≤ R.frames ∧ 8 + (nL' + 11) + R'.locals ≤ R.locals) ∧ (k + R'.cells ≤ R.cells ∧ n + R'.slots ≤ R.slots) ∧ z ≤ 8 := by
  simp only [mm_chk, Bool.and_eq_true, Nat.ble_eq] at h
  exact ⟨⟨h.1.1.1.1, h.1.1.1.2⟩, ⟨h.1.1.2, h.1.2⟩, h.2⟩
theorem mm_gin {X : List Cond} (h : ∀ w ∈ X, w ∈ mm_tbl) : GoodIn mm_tbl X := fun w hw => ⟨h w hw, mm_good w (h w hw)⟩
theorem mm_wsin {Y : mm_Y} (hY : mm_cw Y ∈ mm_tbl) : ∀ w ∈ mm_ws Y, w ∈ mm_tbl := fun w h => (List.mem_cons.mp h).elim (fun e => by rw [e]; exact hY) id
section
variable {l : Launch} {sc : Nat × (Nat → Int32)} {Y Y' : mm_Y} {k n : Nat} {M M' : mm_M} {L L' : mm_L} {S S0 : List Value} {pc : Nat} {Q : mm_O → mm_M → Prop}
/-- the receiver of a call -/
theorem mm_recv {D : va_G} {A : Nat → Prop} {s : State} {sa : Nat} {al : List Nat} {ws : va_W} {H : Heap} {b a ci : Nat} {fs : List Value} (hK : va_K D mm_cl [] s) (hH : mm_H D A s al sa M ws H) (ha : al[b]? = some a) (hM : M[b]? = some (.inr (ci, fs))) : ∃ cellB : Cell, H[a]? = some cellB ∧ cellB.vm.isStatics = false ∧ s.vm.findClass (mm_nm ci) = some cellB.cls := by
  obtain ⟨a', e', h1, h2, h3⟩ := hH.1.2.2 b _ hM
  cases Option.some.inj (ha.symm.trans h1)
  obtain ⟨fs', rfl, -⟩ := h3
  obtain ⟨r, hr, cell, hc1, hc2, hc3, -⟩ := hH.2.1 b _ h2
  have hcl := (hK.1 ci r hr).2.1
  refine ⟨cell, hc1, by rw [hc3]; rfl, ?_⟩
  rw [hc2, ← (mm_cl_ok ci r.1 r.2.1 r.2.2 hr).1]
  exact hcl
theorem mg_callV {ix nx j b ci : Nat} {v : Int32} {fs : List Value} (vs : List Value) (hq : mm_at (mm_tab Y) pc = some (.invokevirtual ix, nx, j, v)) (hu : mm_mu[j]? = some (mm_cn Y, ix, 0, mm_nam Y', vs.length)) (hS0 : S0 = vs.reverse ++ .ref b :: S) (hb : M[b]? = some (.inr (ci, fs))) (hci : mm_nm ci = (mm_nam Y').cls) (hh : mm_hh Y = []) (hh' : mm_hh Y' = [])
    (hst : mm_chk k n (mm_rm Y) (mm_rm Y') (mm_nL Y') ((S.map fun v => v.category).sum) = true) (hM : mm_Ct l sc Y' M (.ref b :: vs) (mm_K l sc Y (k + (mm_rm Y').cells) (n + (mm_rm Y').slots) L S nx Q)) : mm_Go l sc Y k n M L S0 pc Q := by
  intro hY p e s m args below meth c D A sa al0 al hC he ws H locs ls st hH hS hL hl
  have hm := mm_at_mem hq
  have hd := hY.1 _ hm
  have ho := hY.2.1 _ hm
  simp only [mm_ok, decide_eq_true_eq] at ho
  subst ho hS0
  obtain ⟨-, hY', hM'⟩ := hM
  obtain ⟨hR, hf, hz⟩ := mm_chk_inv hst
  have henv := hC.2.2.2.2.2.2.2.2.2.1
  have hts := hC.2.2.2.2.2.2.2.1
  have hown := hC.2.2.2.2.2.2.1
  obtain ⟨w1, w2, rfl, hw1, hw2⟩ := hl.split
  obtain ⟨a, st2, rfl, ha, hl2⟩ := hw2.r
  have hAs : mm_l al sa vs w1.reverse := by
    have h9 := hw1.rev
    rwa [List.reverse_reverse] at h9
  have hMet := hM' D A sa al ws (.ref a :: w1.reverse) ⟨_, _, rfl, ⟨a, ha, rfl⟩, hAs⟩
  have hcell := mm_recv henv.1 hH ha hb
  rw [hci] at hcell
  obtain ⟨hd1, hd2, hd3, hini, hlink, hins, hsel⟩ := mm_mu_ok j _ hu
  have hw : mm_ws Y' = Cond.code (mm_nam Y') (mm_cod Y') (mm_nL Y') (mm_ret Y') :: mm_tbl := by unfold mm_ws mm_cw; rw [hh']
  have hT : GoodIn mm_tbl (wsV (mm_nm (mm_cn Y)) ix (mm_nam Y').cls (mm_nam Y') (mm_ws Y')) := mm_gin (fun w h => by
    unfold wsV at h
    rcases List.mem_append.mp h with h | h
    · simp only [List.mem_cons, List.not_mem_nil, or_false] at h
      rcases h with rfl | rfl | rfl | rfl
      · exact hlink
      · exact hins
      · exact hsel
      · exact hini
    · exact mm_wsin hY' w h)
  have cw := cwV (R := mm_rm Y) (rm := mm_rm Y') vs.length hts hT hw rfl rfl ⟨rfl, hd1, hd2, hd3⟩ hR
  have hrun := vx_runV (p := p) (e := e) (below := below) (meth := meth) (locs := locs) (g := F0 m pc ls (w1 ++ .ref a :: st2)) (rest := st2) ⟨hC.1, hC.2.1, hC.2.2.1, hown, hts⟩ hMet cw ⟨mm_blind, hcell, mm_pre henv hC.2.2.2.2.2.2.2.2.2.2 hH hS⟩ rfl (hAs.len) hL.2.1 (by rw [List.reverse_reverse]) (lv_room (by rw [hl2.cats]; exact hz)) hd hf
  refine mm_back hrun hS (fun j9 ce q9 M1 al1 ws1 H1 locs1 hQ he1 hH1 hS1 g1 g2 g3 => ?_) (fun v9 w9 M1 al1 ws1 H1 locs1 hQ ho1 he1 hH1 hS1 => ?_)
  · exact mm_leave hC hh (he.tr he1) hH1 hS1 g1 g2 g3 hf.1 hf.2 hQ
  · exact hQ hY p e s m args below meth c D A sa al0 al1 hC (he.tr he1) ws1 H1 locs1 ls _ hH1 hS1 (hL.mono he1) (ho1.list (hl2.mono he1))
theorem mg_callS {ix nx j : Nat} {v : Int32} (vs : List Value) (hq : mm_at (mm_tab Y) pc = some (.invokestatic ix, nx, j, v)) (hu : mm_mu[j]? = some (mm_cn Y, ix, 1, mm_nam Y', vs.length)) (hS0 : S0 = vs.reverse ++ S) (hh : mm_hh Y = []) (hh' : mm_hh Y' = [])
    (hst : mm_chk k n (mm_rm Y) (mm_rm Y') (mm_nL Y') ((S.map fun v => v.category).sum) = true) (hM : mm_Ct l sc Y' M vs (mm_K l sc Y (k + (mm_rm Y').cells) (n + (mm_rm Y').slots) L S nx Q)) : mm_Go l sc Y k n M L S0 pc Q := by
  intro hY p e s m args below meth c D A sa al0 al hC he ws H locs ls st hH hS hL hl
  have hm := mm_at_mem hq
  have hd := hY.1 _ hm
  have ho := hY.2.1 _ hm
  simp only [mm_ok, decide_eq_true_eq] at ho
  subst ho hS0
  obtain ⟨-, hY', hM'⟩ := hM
  obtain ⟨hR, hf, hz⟩ := mm_chk_inv hst
  have henv := hC.2.2.2.2.2.2.2.2.2.1
  have hts := hC.2.2.2.2.2.2.2.1
  have hown := hC.2.2.2.2.2.2.1
  obtain ⟨w1, st2, rfl, hw1, hl2⟩ := hl.split
  have hAs : mm_l al sa vs w1.reverse := by
    have h9 := hw1.rev
    rwa [List.reverse_reverse] at h9
  have hMet := hM' D A sa al ws w1.reverse hAs
  obtain ⟨hd1, hd2, hd3, hini, hcls, hlink, hsta⟩ := mm_mu_ok j _ hu
  have hw : mm_ws Y' = Cond.code (mm_nam Y') (mm_cod Y') (mm_nL Y') (mm_ret Y') :: mm_tbl := by unfold mm_ws mm_cw; rw [hh']
  have hT : GoodIn mm_tbl (wsS (mm_nm (mm_cn Y)) ix (mm_nam Y') (mm_ws Y')) := mm_gin (fun w h => by
    unfold wsS at h
    rcases List.mem_append.mp h with h | h
    · simp only [List.mem_cons, List.not_mem_nil, or_false] at h
      rcases h with rfl | rfl | rfl
      · exact hlink
      · exact hsta
      · rw [← hcls]; exact hini
    · exact mm_wsin hY' w h)
  have cw := cwS (R := mm_rm Y) (rm := mm_rm Y') vs.length hts hT hw rfl rfl ⟨hcls, hd1, hd2, hd3⟩ hR
  have hrun := vx_runS (p := p) (e := e) (below := below) (meth := meth) (locs := locs) (g := F0 m pc ls (w1 ++ st2)) (rest := st2) ⟨hC.1, hC.2.1, hC.2.2.1, hown, hts⟩ hMet cw ⟨mm_blind, mm_pre henv hC.2.2.2.2.2.2.2.2.2.2 hH hS⟩ rfl (hAs.len) hL.2.1 (by rw [List.reverse_reverse]) (lv_room (by rw [hl2.cats]; exact hz)) hd hf
  refine mm_back hrun hS (fun j9 ce q9 M1 al1 ws1 H1 locs1 hQ he1 hH1 hS1 g1 g2 g3 => ?_) (fun v9 w9 M1 al1 ws1 H1 locs1 hQ ho1 he1 hH1 hS1 => ?_)
  · exact mm_leave hC hh (he.tr he1) hH1 hS1 g1 g2 g3 hf.1 hf.2 hQ
  · exact hQ hY p e s m args below meth c D A sa al0 al1 hC (he.tr he1) ws1 H1 locs1 ls _ hH1 hS1 (hL.mono he1) (ho1.list (hl2.mono he1))
/-- a private static method of a nest mate -/
theorem mg_callN {ix nx j : Nat} {v : Int32} (vs : List Value) (hq : mm_at (mm_tab Y) pc = some (.invokestatic ix, nx, j, v)) (hu : mm_mu[j]? = some (mm_cn Y, ix, 3, mm_nam Y', vs.length)) (hS0 : S0 = vs.reverse ++ S) (hh' : mm_hh Y' = [])
    (hst : mm_chk k n (mm_rm Y) (mm_rm Y') (mm_nL Y') ((S.map fun v => v.category).sum) = true) (hM : mm_Ct l sc Y' M vs (mm_K0 l sc Y (k + (mm_rm Y').cells) (n + (mm_rm Y').slots) L S nx Q)) : mm_Go l sc Y k n M L S0 pc Q := by
  intro hY p e s m args below meth c D A sa al0 al hC he ws H locs ls st hH hS hL hl
  have hm := mm_at_mem hq
  have hd := hY.1 _ hm
  have ho := hY.2.1 _ hm
  simp only [mm_ok, decide_eq_true_eq] at ho
  subst ho hS0
  obtain ⟨-, hY', hM'⟩ := hM
  obtain ⟨hR, hf, hz⟩ := mm_chk_inv hst
  have henv := hC.2.2.2.2.2.2.2.2.2.1
  have hts := hC.2.2.2.2.2.2.2.1
  have hown := hC.2.2.2.2.2.2.1
  obtain ⟨w1, st2, rfl, hw1, hl2⟩ := hl.split
  have hAs : mm_l al sa vs w1.reverse := by
    have h9 := hw1.rev
    rwa [List.reverse_reverse] at h9
  have hMet := mm_met (hM' D A sa al ws w1.reverse hAs) (fun _ _ h => h)
  obtain ⟨hd1, hd2, hd3, hini, hlink, hsta⟩ := mm_mu_ok j _ hu
  have hw : mm_ws Y' = Cond.code (mm_nam Y') (mm_cod Y') (mm_nL Y') (mm_ret Y') :: mm_tbl := by unfold mm_ws mm_cw; rw [hh']
  have cw := va_cnB (R := mm_rm Y) (rm := mm_rm Y') (own := mm_nm (mm_cn Y)) (index := ix) (host := "LambdaBench") vs.length hts (mm_gin (mm_wsin hY')) hw rfl rfl (henv.2.2.2.2.2.1 _ hlink) (hts _ hini) ⟨hd1, hd2, hd3⟩ hR
  have hrun := va_runSN (p := p) (e := e) (below := below) (meth := meth) (locs := locs) (g := F0 m pc ls (w1 ++ st2)) (rest := st2) ⟨hC.1, hC.2.1, hC.2.2.1, hown, hts⟩ hMet ⟨cw, hts _ hsta, trivial⟩ ⟨mm_blind, mm_pre henv hC.2.2.2.2.2.2.2.2.2.2 hH hS⟩ rfl (hAs.len) hL.2.1 (by rw [List.reverse_reverse]) (lv_room (by rw [hl2.cats]; exact hz)) hd hf
  refine mm_back (fun T hT X => Or.inl (hrun T hT X)) hS (fun j9 ce q9 M1 al1 ws1 H1 locs1 hQ he1 hH1 hS1 g1 g2 g3 => ?_) (fun v9 w9 M1 al1 ws1 H1 locs1 hQ ho1 he1 hH1 hS1 => ?_)
  · exact hQ.elim
  · exact hQ hY p e s m args below meth c D A sa al0 al1 hC (he.tr he1) ws1 H1 locs1 ls _ hH1 hS1 (hL.mono he1) (ho1.list (hl2.mono he1))
/-- a constructor -/
theorem mg_callI {ix nx j b : Nat} {v : Int32} (vs : List Value) (hq : mm_at (mm_tab Y) pc = some (.invokespecial ix, nx, j, v)) (hu : mm_mu[j]? = some (mm_cn Y, ix, 2, mm_nam Y', vs.length)) (hS0 : S0 = vs.reverse ++ .ref b :: S) (hret : mm_ret Y' = none) (hh' : mm_hh Y' = [])
    (hst : mm_chk k n (mm_rm Y) (mm_rm Y') (mm_nL Y') ((S.map fun v => v.category).sum) = true) (hM : mm_Ct l sc Y' M (.ref b :: vs) (mm_K0 l sc Y (k + (mm_rm Y').cells) (n + (mm_rm Y').slots) L S nx Q)) : mm_Go l sc Y k n M L S0 pc Q := by
  intro hY p e s m args below meth c D A sa al0 al hC he ws H locs ls st hH hS hL hl
  have hm := mm_at_mem hq
  have hd := hY.1 _ hm
  have ho := hY.2.1 _ hm
  simp only [mm_ok, decide_eq_true_eq] at ho
  subst ho hS0
  obtain ⟨-, hY', hM'⟩ := hM
  obtain ⟨hR, hf, hz⟩ := mm_chk_inv hst
  have henv := hC.2.2.2.2.2.2.2.2.2.1
  have hts := hC.2.2.2.2.2.2.2.1
  have hown := hC.2.2.2.2.2.2.1
  obtain ⟨w1, w2, rfl, hw1, hw2⟩ := hl.split
  obtain ⟨a, st2, rfl, ha, hl2⟩ := hw2.r
  have hAs : mm_l al sa vs w1.reverse := by
    have h9 := hw1.rev
    rwa [List.reverse_reverse] at h9
  have hMet := mm_met (hM' D A sa al ws (.ref a :: w1.reverse) ⟨_, _, rfl, ⟨a, ha, rfl⟩, hAs⟩) (fun _ _ h => h)
  obtain ⟨hd1, hd2, hd3, hini, hlink, hins, hnm⟩ := mm_mu_ok j _ hu
  have hw : mm_ws Y' = Cond.code (mm_nam Y') (mm_cod Y') (mm_nL Y') none :: mm_tbl := by unfold mm_ws mm_cw; rw [hh', hret]
  have cw := cwI (R := mm_rm Y) (rm := mm_rm Y') (own := mm_nm (mm_cn Y)) (index := ix) vs.length hts (mm_gin (mm_wsin hY')) hw rfl rfl (hts _ hini) (hts _ hlink) (hts _ hins) hnm ⟨hd1, hd2, hd3⟩ hR
  have hrun := va_runI (p := p) (e := e) (below := below) (meth := meth) (locs := locs) (g := F0 m pc ls (w1 ++ .ref a :: st2)) (rest := st2) ⟨hC.1, hC.2.1, hC.2.2.1, hown, hts⟩ hMet cw ⟨mm_blind, mm_pre henv hC.2.2.2.2.2.2.2.2.2.2 hH hS⟩ rfl (hAs.len) hL.2.1 (by rw [List.reverse_reverse]) (lv_room (by rw [hl2.cats]; exact hz)) hd hf
  refine mm_back (fun T hT X => Or.inl (hrun T hT X)) hS (fun j9 ce q9 M1 al1 ws1 H1 locs1 hQ he1 hH1 hS1 g1 g2 g3 => ?_) (fun v9 w9 M1 al1 ws1 H1 locs1 hQ ho1 he1 hH1 hS1 => ?_)
  · exact hQ.elim
  · exact hQ hY p e s m args below meth c D A sa al0 al1 hC (he.tr he1) ws1 H1 locs1 ls _ hH1 hS1 (hL.mono he1) (ho1.list (hl2.mono he1))
/-- a static method with a table of its own -/
theorem mg_callX {ix nx j : Nat} {v : Int32} {h9 : Nat × Nat × Nat × Nat} {t9 : List (Nat × Nat × Nat × Nat)} (vs : List Value) (hq : mm_at (mm_tab Y) pc = some (.invokestatic ix, nx, j, v)) (hu : mm_mu[j]? = some (mm_cn Y, ix, 1, mm_nam Y', vs.length)) (hS0 : S0 = vs.reverse ++ S) (hh : mm_hh Y = []) (hh' : mm_hh Y' = h9 :: t9)
    (hst : mm_chk k n (mm_rm Y) (mm_rm Y') (mm_nL Y') ((S.map fun v => v.category).sum) = true) (hM : mm_Ct l sc Y' M vs (mm_K l sc Y (k + (mm_rm Y').cells) (n + (mm_rm Y').slots) L S nx Q)) : mm_Go l sc Y k n M L S0 pc Q := by
  intro hY p e s m args below meth c D A sa al0 al hC he ws H locs ls st hH hS hL hl
  have hm := mm_at_mem hq
  have hd := hY.1 _ hm
  have ho := hY.2.1 _ hm
  simp only [mm_ok, decide_eq_true_eq] at ho
  subst ho hS0
  obtain ⟨-, hY', hM'⟩ := hM
  obtain ⟨hR, hf, hz⟩ := mm_chk_inv hst
  have henv := hC.2.2.2.2.2.2.2.2.2.1
  have hts := hC.2.2.2.2.2.2.2.1
  have hown := hC.2.2.2.2.2.2.1
  obtain ⟨w1, st2, rfl, hw1, hl2⟩ := hl.split
  have hAs : mm_l al sa vs w1.reverse := by
    have h9 := hw1.rev
    rwa [List.reverse_reverse] at h9
  have hMet := hM' D A sa al ws w1.reverse hAs
  obtain ⟨hd1, hd2, hd3, hini, hcls, hlink, hsta⟩ := mm_mu_ok j _ hu
  have hw : mm_ws Y' = Cond.codeWith (mm_nam Y') (mm_cod Y') (mm_nL Y') (mm_ret Y') (mm_hh Y') :: mm_tbl := by unfold mm_ws mm_cw; rw [hh']
  have hT : GoodIn mm_tbl (va_wsS (mm_nm (mm_cn Y)) ix (mm_nam Y') (mm_ws Y')) := mm_gin (fun w h => by
    unfold va_wsS at h
    rcases List.mem_append.mp h with h | h
    · simp only [List.mem_cons, List.not_mem_nil, or_false] at h
      rcases h with rfl | rfl | rfl
      · exact hlink
      · exact hsta
      · exact hini
    · exact mm_wsin hY' w h)
  have cw := vx_cwSW (R := mm_rm Y) (rm := mm_rm Y') vs.length hts hT hw rfl rfl ⟨hd1, hd2, hd3⟩ hR
  have hrun := vx_runSX (p := p) (e := e) (below := below) (meth := meth) (locs := locs) (g := F0 m pc ls (w1 ++ st2)) (rest := st2) ⟨hC.1, hC.2.1, hC.2.2.1, hown, hts⟩ hMet cw ⟨mm_blind, mm_pre henv hC.2.2.2.2.2.2.2.2.2.2 hH hS⟩ rfl (hAs.len) hL.2.1 (by rw [List.reverse_reverse]) (lv_room (by rw [hl2.cats]; exact hz)) hd hf
  refine mm_back hrun hS (fun j9 ce q9 M1 al1 ws1 H1 locs1 hQ he1 hH1 hS1 g1 g2 g3 => ?_) (fun v9 w9 M1 al1 ws1 H1 locs1 hQ ho1 he1 hH1 hS1 => ?_)
  · exact mm_leave hC hh (he.tr he1) hH1 hS1 g1 g2 g3 hf.1 hf.2 hQ
  · exact hQ hY p e s m args below meth c D A sa al0 al1 hC (he.tr he1) ws1 H1 locs1 ls _ hH1 hS1 (hL.mono he1) (ho1.list (hl2.mono he1))
end
