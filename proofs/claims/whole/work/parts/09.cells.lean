/-! New cells; Object's constructor, Math.min, System.arraycopy; throws. -/
section
variable {l : Launch} {sc : Nat × (Nat → Int32)} {Y Y' : mm_Y} {k n : Nat} {M M' : mm_M} {L L' : mm_L} {S S0 : List Value} {pc : Nat} {Q : mm_O → mm_M → Prop}
theorem mg_new {ix nx j ci : Nat} {v : Int32} (hq : mm_at (mm_tab Y) pc = some (.new ix, nx, j, v)) (hu : mm_cu[j]? = some (mm_cn Y, ix, ci)) (hk : Nat.ble (k + 1) (mm_rm Y).cells = true) (hn : Nat.ble (n + (mm_df ci).length) (mm_rm Y).slots = true) (kk : mm_Go l sc Y (k + 1) (n + (mm_df ci).length) (M ++ [.inr (ci, mm_df ci)]) L (.ref M.length :: S) nx Q) : mm_Go l sc Y k n M L S pc Q := by
  intro hY p e s m args below meth c D A sa al0 al hC he ws H locs ls st hH hS hL hl
  have hm := mm_at_mem hq
  have hd := hY.1 _ hm
  have ho := hY.2.1 _ hm
  simp only [mm_ok, decide_eq_true_eq] at ho
  subst ho
  have henv := hC.2.2.2.2.2.2.2.2.2.1
  have hts := hC.2.2.2.2.2.2.2.1
  have hown := hC.2.2.2.2.2.2.1
  obtain ⟨C, T, N, hc, hlink⟩ := mm_cu_ok j _ _ ci hu
  obtain ⟨hCn, hT, hnm, hin, hins, hini⟩ := mm_cl_ok ci C T N hc
  obtain ⟨hN, hpl, hdf⟩ := mm_df_ok ci C T N hc
  refine va_new (ci := ci) (fs := mm_df ci) (C := C) (T := T) (N := N) hC.1 hC.2.1 hts hin (mm_tf ci) (fun k9 h9 => (hT k9 h9).2.2) hown (hts _ hlink) (hts _ hins) (hts _ hini) henv.1 hH.2.1 hH.2.2 hS hC.2.2.2.2.2.2.2.2.2.2 hc hdf (Nat.le_of_ble_eq_true hk) (by rw [← hN]; exact Nat.le_of_ble_eq_true hn) hd (fun q H1 g1 g2 g3 => ?_)
  rw [← hN]
  refine kk hY p e s m args below meth c D A sa al0 (al ++ [q]) hC (he.tr (mm_e.push al q)) _ H1 locs ls _ ⟨hH.1.push ⟨mm_df ci, rfl, mm_l.self hpl⟩, g1, g2⟩ g3 (hL.mono (mm_e.push al q)) (mm_l.pv ⟨q, ?_, rfl⟩ (hl.mono (mm_e.push al q)))
  rw [← hH.1.1, List.getElem?_append_right (Nat.le_refl _), Nat.sub_self]; rfl
theorem mg_newi {nx j N : Nat} {v : Int32} (hq : mm_at (mm_tab Y) pc = some (.newarray .int, nx, j, v)) (hN : N ≤ 100000) (hk : Nat.ble (k + 1) (mm_rm Y).cells = true) (hn : Nat.ble (n + N) (mm_rm Y).slots = true) (kk : mm_Go l sc Y (k + 1) (n + N) (M ++ [.inl (0, N, .inl (fun _ => 0))]) L (.ref M.length :: S) nx Q) : mm_Go l sc Y k n M L (.int (nI N) :: S) pc Q := by
  intro hY p e s m args below meth c D A sa al0 al hC he ws H locs ls st hH hS hL hl
  have hm := mm_at_mem hq
  have hd := hY.1 _ hm
  have ho := hY.2.1 _ hm
  simp only [mm_ok, decide_eq_true_eq] at ho
  subst ho
  have henv := hC.2.2.2.2.2.2.2.2.2.1
  have hts := hC.2.2.2.2.2.2.2.1
  obtain ⟨st1, rfl, hl1⟩ := hl.i
  refine va_newa (atype := .int) (ty := .int) (a0 := (N, .inl (fun _ => 0))) (N' := N) hC.1 hC.2.1 (hts _ mm_arrI) rfl henv.1 hH.2.1 hH.2.2 hS hC.2.2.2.2.2.2.2.2.2.2 (fun cA => rfl) (nI_pos (by omega)) (nI_clamp (by omega)) (by show N * 4 ≤ 536870912; omega) (Nat.le_of_ble_eq_true hk) (Nat.le_of_ble_eq_true hn) hd (fun q cA H1 hK1 g1 g2 g3 => ?_)
  have hK2 := hK1.2 0 _ rfl
  refine kk hY p e s m args below meth c D A sa al0 (al ++ [q]) hC (he.tr (mm_e.push al q)) _ H1 locs ls _ ⟨hH.1.push ⟨cA, _, rfl, rfl, hK2.1, hK2.2⟩, g1, g2⟩ g3 (hL.mono (mm_e.push al q)) (mm_l.pv ⟨q, ?_, rfl⟩ (hl1.mono (mm_e.push al q)))
  rw [← hH.1.1, List.getElem?_append_right (Nat.le_refl _), Nat.sub_self]; rfl
theorem mg_newl {nx j N : Nat} {v : Int32} (hq : mm_at (mm_tab Y) pc = some (.newarray .long, nx, j, v)) (hN : N ≤ 100000) (hk : Nat.ble (k + 1) (mm_rm Y).cells = true) (hn : Nat.ble (n + N) (mm_rm Y).slots = true) (kk : mm_Go l sc Y (k + 1) (n + N) (M ++ [.inl (1, N, .inr (.inl (fun _ => 0)))]) L (.ref M.length :: S) nx Q) : mm_Go l sc Y k n M L (.int (nI N) :: S) pc Q := by
  intro hY p e s m args below meth c D A sa al0 al hC he ws H locs ls st hH hS hL hl
  have hm := mm_at_mem hq
  have hd := hY.1 _ hm
  have ho := hY.2.1 _ hm
  simp only [mm_ok, decide_eq_true_eq] at ho
  subst ho
  have henv := hC.2.2.2.2.2.2.2.2.2.1
  have hts := hC.2.2.2.2.2.2.2.1
  obtain ⟨st1, rfl, hl1⟩ := hl.i
  refine va_newa (atype := .long) (ty := .long) (a0 := (N, .inr (.inl (fun _ => 0)))) (N' := N) hC.1 hC.2.1 (hts _ mm_arrL) rfl henv.1 hH.2.1 hH.2.2 hS hC.2.2.2.2.2.2.2.2.2.2 (fun cA => rfl) (nI_pos (by omega)) (nI_clamp (by omega)) (by show N * 8 ≤ 536870912; omega) (Nat.le_of_ble_eq_true hk) (Nat.le_of_ble_eq_true hn) hd (fun q cA H1 hK1 g1 g2 g3 => ?_)
  have hK2 := hK1.2 0 _ rfl
  refine kk hY p e s m args below meth c D A sa al0 (al ++ [q]) hC (he.tr (mm_e.push al q)) _ H1 locs ls _ ⟨hH.1.push ⟨cA, _, rfl, rfl, hK2.1, hK2.2⟩, g1, g2⟩ g3 (hL.mono (mm_e.push al q)) (mm_l.pv ⟨q, ?_, rfl⟩ (hl1.mono (mm_e.push al q)))
  rw [← hH.1.1, List.getElem?_append_right (Nat.le_refl _), Nat.sub_self]; rfl
theorem mg_newT {ix nx j N : Nat} {v : Int32} (hq : mm_at (mm_tab Y) pc = some (.anewarray ix, nx, j, v)) (hu : mm_cu[j]? = some (mm_cn Y, ix, mm_cT)) (hN : N ≤ 100000) (hk : Nat.ble (k + 1) (mm_rm Y).cells = true) (hn : Nat.ble (n + N) (mm_rm Y).slots = true) (kk : mm_Go l sc Y (k + 1) (n + N) (M ++ [.inl (2, N, .inr (.inr (.inr (.inr (fun _ => none)))))]) L (.ref M.length :: S) nx Q) : mm_Go l sc Y k n M L (.int (nI N) :: S) pc Q := by
  intro hY p e s m args below meth c D A sa al0 al hC he ws H locs ls st hH hS hL hl
  have hm := mm_at_mem hq
  have hd := hY.1 _ hm
  have ho := hY.2.1 _ hm
  simp only [mm_ok, decide_eq_true_eq] at ho
  subst ho
  have henv := hC.2.2.2.2.2.2.2.2.2.1
  have hts := hC.2.2.2.2.2.2.2.1
  have hown := hC.2.2.2.2.2.2.1
  obtain ⟨C, T, N9, hc, hlink⟩ := mm_cu_ok j _ _ mm_cT hu
  have hCn := (mm_cl_ok mm_cT C T N9 hc).1
  have hCT : C = "LambdaBench$Term" := hCn.trans mm_cT_nm
  subst hCT
  obtain ⟨st1, rfl, hl1⟩ := hl.i
  refine va_newq (C := "LambdaBench$Term") (N' := N) hC.1 hC.2.1 hown (hts _ hlink) henv.2.1 henv.1 hH.2.1 hH.2.2 hS hC.2.2.2.2.2.2.2.2.2.2 (nI_pos (by omega)) (nI_clamp (by omega)) (by omega) (Nat.le_of_ble_eq_true hk) (Nat.le_of_ble_eq_true hn) hd (fun q cA H1 hK1 g1 g2 g3 => ?_)
  have hK2 := hK1.2 0 _ rfl
  refine kk hY p e s m args below meth c D A sa al0 (al ++ [q]) hC (he.tr (mm_e.push al q)) _ H1 locs ls _ ⟨hH.1.push ⟨cA, _, rfl, ⟨_, rfl, fun k9 => ⟨fun _ => rfl, fun i9 h9 => (by cases h9)⟩⟩, hK2.1, hK2.2⟩, g1, g2⟩ g3 (hL.mono (mm_e.push al q)) (mm_l.pv ⟨q, ?_, rfl⟩ (hl1.mono (mm_e.push al q)))
  rw [← hH.1.1, List.getElem?_append_right (Nat.le_refl _), Nat.sub_self]; rfl
theorem mg_oinit {ix nx j b : Nat} {v : Int32} (hq : mm_at (mm_tab Y) pc = some (.invokespecial ix, nx, j, v)) (hu : mm_mu[j]? = some (mm_cn Y, ix, 5, Lib.objectInit, 0)) (hst : (Nat.ble 1 (mm_rm Y).frames && Nat.ble ((S.map fun v => v.category).sum + 12) (mm_rm Y).locals) = true) (kk : mm_Go l sc Y k n M L S nx Q) : mm_Go l sc Y k n M L (.ref b :: S) pc Q := by
  intro hY p e s m args below meth c D A sa al0 al hC he ws H locs ls st hH hS hL hl
  have hm := mm_at_mem hq
  have hd := hY.1 _ hm
  have ho := hY.2.1 _ hm
  simp only [mm_ok, decide_eq_true_eq] at ho
  simp only [Bool.and_eq_true, Nat.ble_eq] at hst
  subst ho
  have hts := hC.2.2.2.2.2.2.2.1
  have hown := hC.2.2.2.2.2.2.1
  obtain ⟨hlink, -⟩ := mm_mu_ok j _ hu
  obtain ⟨a, st1, rfl, ha, hl1⟩ := hl.r
  refine W.objInit (rest := st1) hC.1 hC.2.1 hown (hts _ hlink) (hts _ mm_oiI) (hts _ mm_oiC) rfl (hL.2.1.trans hC.2.2.1.symm) rfl hd hst.1 (by show 2 * 0 + _ + 12 ≤ _; rw [hl1.cats]; omega) ?_
  exact kk hY p e s m args below meth c D A sa al0 al hC he ws H locs ls _ hH hS hL hl1
theorem mg_min {ix nx j : Nat} {v x y : Int32} (hq : mm_at (mm_tab Y) pc = some (.invokestatic ix, nx, j, v)) (hu : mm_mu[j]? = some (mm_cn Y, ix, 6, Lib.Math.min.name, 2)) (hst : (Nat.ble 1 (mm_rm Y).frames && Nat.ble ((S.map fun v => v.category).sum + 13) (mm_rm Y).locals && Nat.ble k (mm_rm Y).cells && Nat.ble n (mm_rm Y).slots) = true) (kk : mm_Go l sc Y k n M L (.int (if y < x then y else x) :: S) nx Q) : mm_Go l sc Y k n M L (.int y :: .int x :: S) pc Q := by
  intro hY p e s m args below meth c D A sa al0 al hC he ws H locs ls st hH hS hL hl
  have hm := mm_at_mem hq
  have hd := hY.1 _ hm
  have ho := hY.2.1 _ hm
  simp only [mm_ok, decide_eq_true_eq] at ho
  simp only [Bool.and_eq_true, Nat.ble_eq] at hst
  subst ho
  have hts := hC.2.2.2.2.2.2.2.1
  have hown := hC.2.2.2.2.2.2.1
  obtain ⟨hlink, -⟩ := mm_mu_ok j _ hu
  obtain ⟨st1, rfl, hl1⟩ := hl.i
  obtain ⟨st2, rfl, hl2⟩ := hl1.i
  exact va_mmin hC.1 hC.2.1 (hC.2.2.1.trans hL.2.1.symm) hown (hts _ hlink) (hts _ mm_mnS) (hts _ mm_mnI) (hts _ mm_mnC) hst.1.1.1 (by rw [hl2.cats]; exact hst.1.1.2) hst.1.2 hst.2 hd (kk hY p e s m args below meth c D A sa al0 al hC he ws H locs ls _ hH hS hL (hl2.pi _))
theorem mg_copy {ix nx j a0 a1 n0 n1 : Nat} {v sp dp z : Int32} {f g : Nat → Int32} (hq : mm_at (mm_tab Y) pc = some (.invokestatic ix, nx, j, v)) (hu : mm_mu[j]? = some (mm_cn Y, ix, 7, arraycopyName, 5)) (hM0 : M[a0]? = some (.inl (0, n0, .inl f))) (hM1 : M[a1]? = some (.inl (0, n1, .inl g))) (h1 : ¬ sp < 0) (h2 : ¬ dp < 0) (h3 : ¬ z < 0) (h4 : sp.toNatClampNeg + z.toNatClampNeg ≤ n0) (h5 : dp.toNatClampNeg + z.toNatClampNeg ≤ n1)
    (hst : (Nat.ble 1 (mm_rm Y).frames && Nat.ble ((S.map fun v => v.category).sum + (nativeFrameWords "java/lang/System" "arraycopy" 5 + 11)) (mm_rm Y).locals) = true) (kk : mm_Go l sc Y k n (M.set a1 (.inl (0, n1, .inl (va_cpy f g sp.toNatClampNeg dp.toNatClampNeg z.toNatClampNeg)))) L S nx Q) : mm_Go l sc Y k n M L (.int z :: .int dp :: .ref a1 :: .int sp :: .ref a0 :: S) pc Q := by
  intro hY p e s m args below meth c D A sa al0 al hC he ws H locs ls st hH hS hL hl
  have hm := mm_at_mem hq
  have hd := hY.1 _ hm
  have ho := hY.2.1 _ hm
  simp only [mm_ok, decide_eq_true_eq] at ho
  simp only [Bool.and_eq_true, Nat.ble_eq] at hst
  subst ho
  have henv := hC.2.2.2.2.2.2.2.2.2.1
  have hts := hC.2.2.2.2.2.2.2.1
  have hown := hC.2.2.2.2.2.2.1
  obtain ⟨hlink, -⟩ := mm_mu_ok j _ hu
  obtain ⟨st1, rfl, hl1⟩ := hl.i
  obtain ⟨st2, rfl, hl2⟩ := hl1.i
  obtain ⟨b1, st3, rfl, hb1, hl3⟩ := hl2.r
  obtain ⟨st4, rfl, hl4⟩ := hl3.i
  obtain ⟨b0, st5, rfl, hb0, hl5⟩ := hl4.r
  obtain ⟨x0, e0, p1, p2, p3⟩ := hH.1.2.2 a0 _ hM0
  cases Option.some.inj (hb0.symm.trans p1)
  obtain ⟨cA, y0, rfl, hy0, g1, g2⟩ := p3
  have hy0' : y0 = .inl f := hy0
  subst hy0'
  obtain ⟨x1, e1, q1, q2, q3⟩ := hH.1.2.2 a1 _ hM1
  cases Option.some.inj (hb1.symm.trans q1)
  obtain ⟨cB, y1, rfl, hy1, g3, g4⟩ := q3
  have hy1' : y1 = .inl g := hy1
  subst hy1'
  have hK2 : va_K D mm_cl [(cA, .int), (cB, .int)] s := (mm_K1 henv.1 g1 g2).app (mm_K1 henv.1 g3 g4)
  exact va_copyi hC.1 hC.2.1 (hC.2.2.1.trans hL.2.1.symm) hown (hts _ hlink) (hts _ mm_acN) (hts _ mm_acS) (hts _ mm_acI) hK2 hH.2.1 hH.2.2 hS a0 a1 0 1 p2 q2 rfl rfl rfl h1 h2 h3 h4 h5 (fun _ _ => rfl) hst.1 (by rw [hl5.cats]; exact hst.2) hd (fun H1 locs1 r1 r2 r3 => kk hY p e s m args below meth c D A sa al0 al hC he _ H1 locs1 ls _ ⟨hH.1.set hb1 ⟨cB, _, rfl, rfl, g3, g4⟩, r1, r2⟩ r3 hL hl5)
end
