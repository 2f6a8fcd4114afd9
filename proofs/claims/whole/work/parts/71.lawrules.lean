/-! Rules for the law and its helpers: what is caught, the switch, the long constant. -/
/-- an exception number j at pc is taken by the row whose handler is hp -/
def mm_cat (Y : mm_Y) (pc j hp : Nat) : Prop := ∃ (pre : List ExceptionTableEntry) (x : ExceptionTableEntry) (suf : List ExceptionTableEntry), tableOf (mm_hh Y) = pre ++ x :: suf ∧ (∀ z ∈ pre, z.catchType ≠ 0 ∧ ∃ nm : String, Cond.classLink (mm_nm (mm_cn Y)) z.catchType nm ∈ mm_tbl ∧ (mm_xn j, nm) ∈ mm_nc) ∧ covers x pc = true ∧ x.catchType ≠ 0 ∧ Cond.classLink (mm_nm (mm_cn Y)) x.catchType (mm_xn j) ∈ mm_tbl ∧ (mm_xn j, mm_xn j) ∈ mm_ca ∧ x.handlerPc = hp
/-- where a call goes on in a method that has a table -/
abbrev mm_KH (l : Launch) (sc : Nat × (Nat → Int32)) (Y : mm_Y) (k n : Nat) (L : mm_L) (S : List Value) (pc nx : Nat) (Q : mm_O → mm_M → Prop) : mm_O → mm_M → Prop := fun o M1 => match o with
  | .inl v => mm_Go l sc Y k n M1 L (v.toList ++ S) nx Q
  | .inr j => ∃ hp, mm_cat Y pc j hp ∧ mm_Go l sc Y k n M1 L [.retAddr 1] hp Q
section
variable {l : Launch} {sc : Nat × (Nat → Int32)} {Y Y' : mm_Y} {k n : Nat} {M M' : mm_M} {L L' : mm_L} {S S0 : List Value} {pc : Nat} {Q : mm_O → mm_M → Prop}
theorem mg_callVH {ix nx j b ci : Nat} {v : Int32} {fs : List Value} (vs : List Value) (hq : mm_at (mm_tab Y) pc = some (.invokevirtual ix, nx, j, v)) (hu : mm_mu[j]? = some (mm_cn Y, ix, 0, mm_nam Y', vs.length)) (hS0 : S0 = vs.reverse ++ .ref b :: S) (hb : M[b]? = some (.inr (ci, fs))) (hci : mm_nm ci = (mm_nam Y').cls) (hh' : mm_hh Y' = [])
    (hst : mm_chk k n (mm_rm Y) (mm_rm Y') (mm_nL Y') ((S.map fun v => v.category).sum) = true) (hM : mm_Ct l sc Y' M (.ref b :: vs) (mm_KH l sc Y (k + (mm_rm Y').cells) (n + (mm_rm Y').slots) L S pc nx Q)) : mm_Go l sc Y k n M L S0 pc Q := by
  intro hY p e s m args below meth c D A sa al0 al hC he ws H locs ls st hH hS hL hl
  have hm := mm_at_mem hq
  have hd := hY.1 _ hm
  have ho := hY.2.1 _ hm
  simp only [mm_ok, decide_eq_true_eq] at ho
  subst ho hS0
  obtain ⟨-, hY', hM'⟩ := hM
  obtain ⟨hR, hf, hz⟩ := mm_chk_inv hst
  have henv := hC.2.2.2.2.2.2.2.2.2.1
  have hts := hC.2.2.2.2.2.2.2.1
  have hown := hC.2.2.2.2.2.2.1
  have htb := hC.2.2.2.2.2.2.2.2.1
  obtain ⟨w1, w2, rfl, hw1, hw2⟩ := hl.split
  obtain ⟨a, st2, rfl, ha, hl2⟩ := hw2.r
  have hAs : mm_l al sa vs w1.reverse := by
    have h9 := hw1.rev
    rwa [List.reverse_reverse] at h9
  have hMet := hM' D A sa al ws (.ref a :: w1.reverse) ⟨_, _, rfl, ⟨a, ha, rfl⟩, hAs⟩
  have hcell := mm_recv henv.1 hH ha hb
  rw [hci] at hcell
  obtain ⟨hd1, hd2, hd3, hini, hlink, hins, hsel⟩ := mm_mu_ok j _ hu
  have hw : mm_ws Y' = Cond.code (mm_nam Y') (mm_cod Y') (mm_nL Y') (mm_ret Y') :: mm_tbl := by unfold mm_ws mm_cw; rw [hh']
  have hT : GoodIn mm_tbl (wsV (mm_nm (mm_cn Y)) ix (mm_nam Y').cls (mm_nam Y') (mm_ws Y')) := mm_gin (fun w h => by
    unfold wsV at h
    rcases List.mem_append.mp h with h | h
    · simp only [List.mem_cons, List.not_mem_nil, or_false] at h
      rcases h with rfl | rfl | rfl | rfl
      · exact hlink
      · exact hins
      · exact hsel
      · exact hini
    · exact mm_wsin hY' w h)
  have cw := cwV (R := mm_rm Y) (rm := mm_rm Y') vs.length hts hT hw rfl rfl ⟨rfl, hd1, hd2, hd3⟩ hR
  have hrun := vx_runV (p := p) (e := e) (below := below) (meth := meth) (locs := locs) (g := F0 m pc ls (w1 ++ .ref a :: st2)) (rest := st2) ⟨hC.1, hC.2.1, hC.2.2.1, hown, hts⟩ hMet cw ⟨mm_blind, hcell, mm_pre henv hC.2.2.2.2.2.2.2.2.2.2 hH hS⟩ rfl (hAs.len) hL.2.1 (by rw [List.reverse_reverse]) (lv_room (by rw [hl2.cats]; exact hz)) hd hf
  refine mm_back hrun hS (fun j9 ce q9 M1 al1 ws1 H1 locs1 hQ he1 hH1 hS1 g1 g2 g3 => ?_) (fun v9 w9 M1 al1 ws1 H1 locs1 hQ ho1 he1 hH1 hS1 => ?_)
  · obtain ⟨hp, ⟨pre, x9, suf, c1, c2, c3, c4, c5, c6, c7⟩, hG⟩ := hQ
    refine vx_catch (own := mm_nm (mm_cn Y)) (name := mm_xn j9) (E := mm_xn j9) hown pre x9 suf (by rw [htb]; exact c1) (fun z hz => ?_) c3 c4 (hts _ c5) ((henv.2.2.2.2.2.2.1 _ c6).use rfl) g1 g2 g3 ?_
    · obtain ⟨d1, nm, d2, d3⟩ := c2 z hz
      exact Or.inr ⟨d1, nm, hts _ d2, henv.2.2.2.2.2.2.2.1 _ d3⟩
    · rw [c7]
      exact hG hY p e s m args below meth c D A sa al0 al1 hC (he.tr he1) ws1 H1 locs1 ls _ hH1 hS1 (hL.mono he1) ⟨_, _, rfl, ⟨q9, rfl⟩, rfl⟩
  · exact hQ hY p e s m args below meth c D A sa al0 al1 hC (he.tr he1) ws1 H1 locs1 ls _ hH1 hS1 (hL.mono he1) (ho1.list (hl2.mono he1))
theorem mg_tsw {dflt lo hi : Int} {offs : Array Int} {len : Nat} {x : Int32} {tgt : Nat} (hd : decode (mm_cod Y) pc = .ok (.tableswitch dflt lo hi offs, len)) (hc : (¬ x.toInt < lo ∧ ¬ hi < x.toInt ∧ ∃ off : Int, offs[(x.toInt - lo).toNat]? = some off ∧ (pc : Int) + off = (tgt : Int)) ∨ ((x.toInt < lo ∨ hi < x.toInt) ∧ (pc : Int) + dflt = (tgt : Int))) (kk : mm_Go l sc Y k n M L S tgt Q) : mm_Go l sc Y k n M L (.int x :: S) pc Q := by
  intro hY p e s m args below meth c D A sa al0 al hC he ws H locs ls st hH hS hL hl
  obtain ⟨st1, rfl, hl1⟩ := hl.i
  have h9 := kk hY p e s m args below meth c D A sa al0 al hC he ws H locs ls st1 hH hS hL hl1
  rcases hc with ⟨h1, h2, off, h3, h4⟩ | ⟨h1, h2⟩
  · exact lv_tableIn hC.1 hC.2.1 hd h1 h2 h3 h4 h9
  · exact lv_tableOut hC.1 hC.2.1 hd h1 h2 h9
theorem mg_ldc2 {ix : Nat} {v : Int64} (hd : decode (mm_cod Y) pc = .ok (.ldc2_w ix, 3)) (hw : Cond.constantLong (mm_nm (mm_cn Y)) ix v ∈ mm_tbl) (kk : mm_Go l sc Y k n M L (.long v :: S) (pc + 3) Q) : mm_Go l sc Y k n M L S pc Q := by
  intro hY p e s m args below meth c D A sa al0 al hC he ws H locs ls st hH hS hL hl
  exact lv_ldc2 hC.1 hC.2.1 hC.2.2.2.2.2.2.1 (hC.2.2.2.2.2.2.2.1 _ hw) hd (kk hY p e s m args below meth c D A sa al0 al hC he ws H locs ls _ hH hS hL (hl.pg v))
/-- more room than was made -/
theorem mg_wide {k' n' : Nat} (hk : k ≤ k') (hn : n ≤ n') (kk : mm_Go l sc Y k' n' M L S pc Q) : mm_Go l sc Y k n M L S pc Q := by
  intro hY p e s m args below meth c D A sa al0 al hC he ws H locs ls st hH hS hL hl
  exact W.widen hk hn (kk hY p e s m args below meth c D A sa al0 al hC he ws H locs ls st hH hS hL hl)
end
theorem mm_nc1 : (mm_xn 1, mm_xn 0) ∈ mm_nc := List.mem_cons_self
theorem mm_nc2 : (mm_xn 2, mm_xn 0) ∈ mm_nc := List.mem_cons_of_mem _ List.mem_cons_self
theorem mm_ca0 : (mm_xn 0, mm_xn 0) ∈ mm_ca := List.mem_of_getElem? (i := 0) rfl
theorem mm_ca1 : (mm_xn 1, mm_xn 1) ∈ mm_ca := List.mem_of_getElem? (i := 1) rfl
theorem mm_ca2 : (mm_xn 2, mm_xn 2) ∈ mm_ca := List.mem_of_getElem? (i := 2) rfl
/-- the first row takes an IllegalArgumentException -/
theorem mm_cat0 {Y : mm_Y} {pc : Nat} {a b hp : Nat} {t : List (Nat × Nat × Nat × Nat)} (hc : mm_nm (mm_cn Y) = "LambdaBenchLaw") (hh : mm_hh Y = (a, b, hp, 13) :: t) (hv : covers ⟨a, b, hp, 13⟩ pc = true) : mm_cat Y pc 0 hp := by
  refine ⟨[], ⟨a, b, hp, 13⟩, tableOf t, by rw [hh]; rfl, fun z hz => absurd hz (by simp), hv, show (13 : Nat) ≠ 0 by decide, ?_, mm_ca0, rfl⟩
  rw [hc]
  exact mm_lk0
theorem mm_catJ {Y : mm_Y} {pc : Nat} {a b hp a2 b2 hp2 ix j : Nat} {t : List (Nat × Nat × Nat × Nat)} (hc : mm_nm (mm_cn Y) = "LambdaBenchLaw") (hh : mm_hh Y = (a, b, hp, 13) :: (a2, b2, hp2, ix) :: t) (hv : covers ⟨a2, b2, hp2, ix⟩ pc = true) (hix : ix ≠ 0) (hl : Cond.classLink "LambdaBenchLaw" ix (mm_xn j) ∈ mm_tbl) (hn : (mm_xn j, mm_xn 0) ∈ mm_nc) (hca : (mm_xn j, mm_xn j) ∈ mm_ca) : mm_cat Y pc j hp2 := by
  refine ⟨[⟨a, b, hp, 13⟩], ⟨a2, b2, hp2, ix⟩, tableOf t, by rw [hh]; rfl, fun z hz => ?_, hv, hix, ?_, hca, rfl⟩
  · rw [List.mem_singleton] at hz
    subst hz
    refine ⟨show (13 : Nat) ≠ 0 by decide, mm_xn 0, ?_, hn⟩
    rw [hc]
    exact mm_lk0
  · rw [hc]
    exact hl
