/-! 'throw new E("text")' as one step. -/
def mm_sup : List String := ["java/lang/RuntimeException", "java/lang/Exception"]
def mm_xsP (q : Nat × Nat × Nat × Nat × Nat × String) : Prop := Cond.classLink (mm_nm q.1) q.2.1 (mm_xn q.2.2.2.2.1) ∈ mm_tbl ∧ Cond.initialized (mm_xn q.2.2.2.2.1) ∈ mm_tbl ∧ (mm_nm q.1, q.2.2.1, q.2.2.2.2.2) ∈ mm_st ∧ Bundle.fit (mm_xn q.2.2.2.2.1) = true ∧
  ((vx_atS (mm_nm q.1) q.2.2.2.1 (mm_xn q.2.2.2.2.1) mm_sup).all fun w => (goodWord w && decide (w ∈ lw_tbl)) || (mm_ca.any (fun z => decide (w = .castable z.1 z.2)) || mm_de.any (fun y => decide (w = .declares y)))) = true
theorem mm_sup_fit : ∀ n ∈ mm_sup, Bundle.fit n = true := by decide +kernel
section
variable {l : Launch} {sc : Nat × (Nat → Int32)} {Y : mm_Y} {k n : Nat} {M : mm_M} {L : mm_L} {S : List Value} {pc : Nat} {Q : mm_O → mm_M → Prop}
theorem mg_throw {ik is ic x n0 n3 n4 n6 n9 a0 a3 a4 a6 a9 : Nat} {text : String} {v0 v3 v4 v6 v9 : Int32} (hxs : mm_xsP (mm_cn Y, ik, is, ic, x, text)) (h0 : mm_at (mm_tab Y) pc = some (.new ik, n0, a0, v0)) (h3 : mm_at (mm_tab Y) (pc + 3) = some (.dup, n3, a3, v3)) (h4 : mm_at (mm_tab Y) (pc + 4) = some (.ldc is, n4, a4, v4)) (h6 : mm_at (mm_tab Y) (pc + 6) = some (.invokespecial ic, n6, a6, v6)) (h9 : mm_at (mm_tab Y) (pc + 9) = some (.athrow, n9, a9, v9)) (hh : mm_hh Y = [])
    (hst : (Nat.ble 6 (mm_rm Y).frames && Nat.ble ((S.map fun v => v.category).sum + 82) (mm_rm Y).locals && Nat.ble (k + 1) (mm_rm Y).cells && Nat.ble (n + 6) (mm_rm Y).slots) = true) (hl : l.stackTraces = false) (hQ : Q (.inr x) M) : mm_Go l sc Y k n M L S pc Q := by
  intro hY p e s m args below meth c D A sa al0 al hC he ws H locs ls st hH hS hL hl0
  have d0 := hY.1 _ (mm_at_mem h0)
  have d3 := hY.1 _ (mm_at_mem h3)
  have d4 := hY.1 _ (mm_at_mem h4)
  have d6 := hY.1 _ (mm_at_mem h6)
  have d9 := hY.1 _ (mm_at_mem h9)
  simp only [Bool.and_eq_true, Nat.ble_eq] at hst
  have henv := hC.2.2.2.2.2.2.2.2.2.1
  have hts := hC.2.2.2.2.2.2.2.1
  have hown := hC.2.2.2.2.2.2.1
  have htb := hC.2.2.2.2.2.2.2.2.1
  obtain ⟨x1, x2, x3, x4, x5⟩ := hxs
  obtain ⟨sa9, hstr⟩ := henv.2.2.2.2.1 _ x3
  have hw : ∀ w ∈ vx_atS (mm_nm (mm_cn Y)) ic (mm_xn x) mm_sup, w.before args s = true ∧ vx_ot w = true := fun w hw => by
    have h := List.all_eq_true.mp x5 w hw
    simp only [Bool.or_eq_true, Bool.and_eq_true, decide_eq_true_eq, List.any_eq_true] at h
    rcases h with ⟨g1, g2⟩ | ⟨z, hz, rfl⟩ | ⟨z, hz, rfl⟩
    · exact ⟨hts w (mm_in g2 g1), by simp only [vx_ot, g1, Bool.or_true]⟩
    · exact ⟨va_Nw.use rfl (henv.2.2.2.2.2.2.1 z hz), rfl⟩
    · exact ⟨va_Nw.use rfl (henv.2.2.2.2.2.2.2.2.1 z hz), rfl⟩
  refine vx_throwS (own := mm_nm (mm_cn Y)) (cls := mm_xn x) (text := text) (names := mm_sup) (ik := ik) (is := is) (ic := ic) (sa := sa9) (A := A) hC.1 hC.2.1 hl hown x4 mm_sup_fit (hts _ x1) (hts _ x2) hstr (fun w h => (hw w h).1) (fun w h => ?_) henv.2.2.1 henv.2.2.2.1 hS (hL.2.1.trans hC.2.2.1.symm) d0 d3 d4 d6 d9 (fun y hy => ?_) hst.1.1.1 (by rw [hl0.cats]; exact hst.1.1.2) hst.1.2 hst.2 hC.2.2.2.2.1 (fun t hW hz hk => ?_) hS.2.2 hst.1.2 hst.2
  · rcases List.mem_cons.mp h with rfl | h
    · simp only [vx_ot, (List.mem_filter.mp x1).2, Bool.or_true]
    · rcases List.mem_cons.mp h with rfl | h
      · simp only [vx_ot, (List.mem_filter.mp x2).2, Bool.or_true]
      · exact (hw w h).2
  · rw [htb, hh] at hy
    cases hy
  · refine ⟨x, M, al, ws, rfl, hQ, he, ⟨hH.1.moved hW, hH.2.1.kept (fun i q hq => hk q.1 (hH.2.1 i q hq).lt), hH.2.2⟩, ⟨Nat.le_trans hS.1 hz, fun q h1 h2 => ?_⟩⟩
    rw [hk q (Nat.lt_of_lt_of_le h1 hS.1)]
    exact hS.2.1 q h1 h2
end
