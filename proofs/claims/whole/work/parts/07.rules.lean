/-! Rules of the judgement: arrays, references, ends, contracts, calls. -/
theorem mm_K1 {D : va_G} {U : State} {c : ClassId} {ty : FieldType} (h : va_K D mm_cl [] U) (h1 : ArrOfT U c ty) (h2 : va_RA U c ty) : va_K D mm_cl [(c, ty)] U := by
  refine ⟨h.1, fun k q hk => ?_⟩
  cases k with
  | zero => cases hk; exact ⟨h1, h2⟩
  | succ k => cases hk
section
variable {l : Launch} {sc : Nat × (Nat → Int32)} {Y : mm_Y} {k n : Nat} {M M' : mm_M} {L L' : mm_L} {S S' : List Value} {pc pc' : Nat} {Q : mm_O → mm_M → Prop}
theorem mg_iald {nx aux N a : Nat} {v x : Int32} {f : Nat → Int32} (hq : mm_at (mm_tab Y) pc = some (.iaload, nx, aux, v)) (hM : M[a]? = some (.inl (0, N, .inl f))) (hx : vp_in x N) (kk : mm_Go l sc Y k n M L (.int (f x.toNatClampNeg) :: S) nx Q) : mm_Go l sc Y k n M L (.int x :: .ref a :: S) pc Q := by
  intro hY p e s m args below meth c D A sa al0 al hC he ws H locs ls st hH hS hL hl
  have hm := mm_at_mem hq
  have hd := hY.1 _ hm
  have ho := hY.2.1 _ hm
  simp only [mm_ok, decide_eq_true_eq] at ho
  subst ho
  have henv := hC.2.2.2.2.2.2.2.2.2.1
  obtain ⟨st1, rfl, hl1⟩ := hl.i
  obtain ⟨b, st2, rfl, hb, hl2⟩ := hl1.r
  obtain ⟨b', e', h1, h2, h3⟩ := hH.1.2.2 a _ hM
  cases Option.some.inj (hb.symm.trans h1)
  obtain ⟨cA, y, rfl, hy, g1, g2⟩ := h3
  have hy' : y = .inl f := hy
  subst hy'
  exact va_iald hC.1 hC.2.1 (mm_K1 henv.1 g1 g2) hH.2.1 a 0 h2 rfl hx hd (kk hY p e s m args below meth c D A sa al0 al hC he ws H locs ls _ hH hS hL (hl2.pi _))
theorem mg_iast {nx aux N a : Nat} {v x z : Int32} {f : Nat → Int32} (hq : mm_at (mm_tab Y) pc = some (.iastore, nx, aux, v)) (hM : M[a]? = some (.inl (0, N, .inl f))) (hx : vp_in x N) (kk : mm_Go l sc Y k n (M.set a (.inl (0, N, .inl (upd f x.toNatClampNeg z)))) L S nx Q) : mm_Go l sc Y k n M L (.int z :: .int x :: .ref a :: S) pc Q := by
  intro hY p e s m args below meth c D A sa al0 al hC he ws H locs ls st hH hS hL hl
  have hm := mm_at_mem hq
  have hd := hY.1 _ hm
  have ho := hY.2.1 _ hm
  simp only [mm_ok, decide_eq_true_eq] at ho
  subst ho
  have henv := hC.2.2.2.2.2.2.2.2.2.1
  obtain ⟨st0, rfl, hl0⟩ := hl.i
  obtain ⟨st1, rfl, hl1⟩ := hl0.i
  obtain ⟨b, st2, rfl, hb, hl2⟩ := hl1.r
  obtain ⟨b', e', h1, h2, h3⟩ := hH.1.2.2 a _ hM
  cases Option.some.inj (hb.symm.trans h1)
  obtain ⟨cA, y, rfl, hy, g1, g2⟩ := h3
  have hy' : y = .inl f := hy
  subst hy'
  exact va_iast hC.1 hC.2.1 (mm_K1 henv.1 g1 g2) hH.2.1 hH.2.2 hS a 0 h2 rfl hx hd (fun H1 locs1 q1 q2 q3 => kk hY p e s m args below meth c D A sa al0 al hC he _ H1 locs1 ls _ ⟨hH.1.set hb ⟨cA, _, rfl, rfl, g1, g2⟩, q1, q2⟩ q3 hL hl2)
theorem mg_lald {nx aux N a : Nat} {v x : Int32} {f : Nat → Int64} (hq : mm_at (mm_tab Y) pc = some (.laload, nx, aux, v)) (hM : M[a]? = some (.inl (1, N, .inr (.inl f)))) (hx : vp_in x N) (kk : mm_Go l sc Y k n M L (.long (f x.toNatClampNeg) :: S) nx Q) : mm_Go l sc Y k n M L (.int x :: .ref a :: S) pc Q := by
  intro hY p e s m args below meth c D A sa al0 al hC he ws H locs ls st hH hS hL hl
  have hm := mm_at_mem hq
  have hd := hY.1 _ hm
  have ho := hY.2.1 _ hm
  simp only [mm_ok, decide_eq_true_eq] at ho
  subst ho
  have henv := hC.2.2.2.2.2.2.2.2.2.1
  obtain ⟨st1, rfl, hl1⟩ := hl.i
  obtain ⟨b, st2, rfl, hb, hl2⟩ := hl1.r
  obtain ⟨b', e', h1, h2, h3⟩ := hH.1.2.2 a _ hM
  cases Option.some.inj (hb.symm.trans h1)
  obtain ⟨cA, y, rfl, hy, g1, g2⟩ := h3
  have hy' : y = .inr (.inl f) := hy
  subst hy'
  exact va_lald hC.1 hC.2.1 (mm_K1 henv.1 g1 g2) hH.2.1 a 0 h2 rfl hx hd (kk hY p e s m args below meth c D A sa al0 al hC he ws H locs ls _ hH hS hL (hl2.pg _))
theorem mg_last {nx aux N a : Nat} {v x : Int32} {z : Int64} {f : Nat → Int64} (hq : mm_at (mm_tab Y) pc = some (.lastore, nx, aux, v)) (hM : M[a]? = some (.inl (1, N, .inr (.inl f)))) (hx : vp_in x N) (kk : mm_Go l sc Y k n (M.set a (.inl (1, N, .inr (.inl (vp_updL f x.toNatClampNeg z))))) L S nx Q) : mm_Go l sc Y k n M L (.long z :: .int x :: .ref a :: S) pc Q := by
  intro hY p e s m args below meth c D A sa al0 al hC he ws H locs ls st hH hS hL hl
  have hm := mm_at_mem hq
  have hd := hY.1 _ hm
  have ho := hY.2.1 _ hm
  simp only [mm_ok, decide_eq_true_eq] at ho
  subst ho
  have henv := hC.2.2.2.2.2.2.2.2.2.1
  obtain ⟨st0, rfl, hl0⟩ := hl.g
  obtain ⟨st1, rfl, hl1⟩ := hl0.i
  obtain ⟨b, st2, rfl, hb, hl2⟩ := hl1.r
  obtain ⟨b', e', h1, h2, h3⟩ := hH.1.2.2 a _ hM
  cases Option.some.inj (hb.symm.trans h1)
  obtain ⟨cA, y, rfl, hy, g1, g2⟩ := h3
  have hy' : y = .inr (.inl f) := hy
  subst hy'
  exact va_last hC.1 hC.2.1 (mm_K1 henv.1 g1 g2) hH.2.1 hH.2.2 hS a 0 h2 rfl hx hd (fun H1 locs1 q1 q2 q3 => kk hY p e s m args below meth c D A sa al0 al hC he _ H1 locs1 ls _ ⟨hH.1.set hb ⟨cA, _, rfl, rfl, g1, g2⟩, q1, q2⟩ q3 hL hl2)
theorem mg_aald {nx aux N a i : Nat} {v x : Int32} {f : Nat → Option Nat} (hq : mm_at (mm_tab Y) pc = some (.aaload, nx, aux, v)) (hM : M[a]? = some (.inl (2, N, .inr (.inr (.inr (.inr f)))))) (hx : vp_in x N) (hf : f x.toNatClampNeg = some i) (kk : mm_Go l sc Y k n M L (.ref i :: S) nx Q) : mm_Go l sc Y k n M L (.int x :: .ref a :: S) pc Q := by
  intro hY p e s m args below meth c D A sa al0 al hC he ws H locs ls st hH hS hL hl
  have hm := mm_at_mem hq
  have hd := hY.1 _ hm
  have ho := hY.2.1 _ hm
  simp only [mm_ok, decide_eq_true_eq] at ho
  subst ho
  have henv := hC.2.2.2.2.2.2.2.2.2.1
  obtain ⟨st1, rfl, hl1⟩ := hl.i
  obtain ⟨b, st2, rfl, hb, hl2⟩ := hl1.r
  obtain ⟨b', e', h1, h2, h3⟩ := hH.1.2.2 a _ hM
  cases Option.some.inj (hb.symm.trans h1)
  obtain ⟨cA, y, rfl, hy, g1, g2⟩ := h3
  obtain ⟨g, rfl, hg⟩ := hy
  obtain ⟨z, hz1, hz2⟩ := (hg x.toNatClampNeg).2 i hf
  refine va_aldq (C := "LambdaBench$Term") hC.1 hC.2.1 (mm_K1 henv.1 g1 g2) hH.2.1 a 0 h2 rfl hx hd ?_
  rw [hz2]
  exact kk hY p e s m args below meth c D A sa al0 al hC he ws H locs ls _ hH hS hL (mm_l.pv ⟨z, hz1, rfl⟩ hl2)
theorem mg_aast {nx aux N a i : Nat} {v x : Int32} {f : Nat → Option Nat} {fs : List Value} (hq : mm_at (mm_tab Y) pc = some (.aastore, nx, aux, v)) (hM : M[a]? = some (.inl (2, N, .inr (.inr (.inr (.inr f)))))) (hi : M[i]? = some (.inr (mm_cT, fs))) (hx : vp_in x N) (kk : mm_Go l sc Y k n (M.set a (.inl (2, N, .inr (.inr (.inr (.inr (va_up f x.toNatClampNeg (some i)))))))) L S nx Q) : mm_Go l sc Y k n M L (.ref i :: .int x :: .ref a :: S) pc Q := by
  intro hY p e s m args below meth c D A sa al0 al hC he ws H locs ls st hH hS hL hl
  have hm := mm_at_mem hq
  have hd := hY.1 _ hm
  have ho := hY.2.1 _ hm
  simp only [mm_ok, decide_eq_true_eq] at ho
  subst ho
  have henv := hC.2.2.2.2.2.2.2.2.2.1
  obtain ⟨w, st0, rfl, hw, hl0⟩ := mm_l.r hl
  obtain ⟨st1, rfl, hl1⟩ := hl0.i
  obtain ⟨b, st2, rfl, hb, hl2⟩ := hl1.r
  obtain ⟨b', e', h1, h2, h3⟩ := hH.1.2.2 a _ hM
  cases Option.some.inj (hb.symm.trans h1)
  obtain ⟨cA, y, rfl, hy, g1, g2⟩ := h3
  obtain ⟨g, rfl, hg⟩ := hy
  obtain ⟨w', e2, j1, j2, j3⟩ := hH.1.2.2 i _ hi
  cases Option.some.inj (hw.symm.trans j1)
  obtain ⟨fs', rfl, hfs⟩ := j3
  refine va_astq (r := mm_clT) hC.1 hC.2.1 (mm_K1 henv.1 g1 g2) hH.2.1 hH.2.2 hS a 0 i mm_cT h2 rfl j2 mm_clT_at hx hd (fun H1 locs1 q1 q2 q3 => ?_)
  refine kk hY p e s m args below meth c D A sa al0 al hC he _ H1 locs1 ls _ ⟨hH.1.set hb ⟨cA, _, rfl, ⟨_, rfl, fun j => ?_⟩, g1, g2⟩, q1, q2⟩ q3 hL hl2
  by_cases hj : j = x.toNatClampNeg
  · subst hj
    simp only [va_up, if_true]
    exact ⟨fun h => (by cases h), fun i9 h9 => (by cases h9; exact ⟨w, hw, rfl⟩)⟩
  · simp only [va_up, if_neg hj]
    exact hg j
theorem mg_sld {nx aux : Nat} {v x : Int32} (hq : mm_at (mm_tab Y) pc = some (.iaload, nx, aux, v)) (hx : vp_in x sc.1) (kk : mm_Go l sc Y k n M L (.int (sc.2 x.toNatClampNeg) :: S) nx Q) : mm_Go l sc Y k n M L (.int x :: .retAddr 0 :: S) pc Q := by
  intro hY p e s m args below meth c D A sa al0 al hC he ws H locs ls st hH hS hL hl
  have hm := mm_at_mem hq
  have hd := hY.1 _ hm
  have ho := hY.2.1 _ hm
  simp only [mm_ok, decide_eq_true_eq] at ho
  subst ho
  obtain ⟨-, -, -, -, -, -, -, -, -, hX, hsa, hnA⟩ := hC.2.2.2.2.2.2.2.2.2.1
  obtain ⟨st1, rfl, hl1⟩ := hl.i
  obtain ⟨w, st2, rfl, hw, hl2⟩ := hl1
  have hw' : w = .ref sa := hw
  subst hw'
  exact va_sld hC.1 hC.2.1 hX hsa hnA hS hx hd (kk hY p e s m args below meth c D A sa al0 al hC he ws H locs ls _ hH hS hL (hl2.pi _))
theorem mg_slen {nx aux : Nat} {v : Int32} (hq : mm_at (mm_tab Y) pc = some (.arraylength, nx, aux, v)) (kk : mm_Go l sc Y k n M L (.int (nI sc.1) :: S) nx Q) : mm_Go l sc Y k n M L (.retAddr 0 :: S) pc Q := by
  intro hY p e s m args below meth c D A sa al0 al hC he ws H locs ls st hH hS hL hl
  have hm := mm_at_mem hq
  have hd := hY.1 _ hm
  have ho := hY.2.1 _ hm
  simp only [mm_ok, decide_eq_true_eq] at ho
  subst ho
  obtain ⟨-, -, -, -, -, -, -, -, -, hX, hsa, hnA⟩ := hC.2.2.2.2.2.2.2.2.2.1
  obtain ⟨w, st2, rfl, hw, hl2⟩ := hl
  have hw' : w = .ref sa := hw
  subst hw'
  exact va_slen hC.1 hC.2.1 hX hsa hnA hS hd (kk hY p e s m args below meth c D A sa al0 al hC he ws H locs ls _ hH hS hL (mm_l.pi _ hl2))
theorem mg_idiv {nx aux : Nat} {v x y : Int32} (hq : mm_at (mm_tab Y) pc = some (.idiv, nx, aux, v)) (hy : ¬ y = 0) (kk : mm_Go l sc Y k n M L (.int (x / y) :: S) nx Q) : mm_Go l sc Y k n M L (.int y :: .int x :: S) pc Q := by
  intro hY p e s m args below meth c D A sa al0 al hC he ws H locs ls st hH hS hL hl
  have hm := mm_at_mem hq
  have hd := hY.1 _ hm
  have ho := hY.2.1 _ hm
  simp only [mm_ok, decide_eq_true_eq] at ho
  subst ho
  obtain ⟨st1, rfl, hl1⟩ := hl.i
  obtain ⟨st2, rfl, hl2⟩ := hl1.i
  exact lv_idiv hC.1 hC.2.1 hd hy (kk hY p e s m args below meth c D A sa al0 al hC he ws H locs ls _ hH hS hL (hl2.pi _))
/-- two places of the list are two addresses -/
theorem mm_H.inj {D : va_G} {A : Nat → Prop} {U : State} {al : List Nat} {sa : Nat} {M : mm_M} {ws : va_W} {H : Heap} (h : mm_H D A U al sa M ws H) {i j a : Nat} (hi : al[i]? = some a) (hj : al[j]? = some a) : i = j := by
  have li : i < M.length := by rw [← h.1.1]; exact (List.getElem?_eq_some_iff.mp hi).1
  have lj : j < M.length := by rw [← h.1.1]; exact (List.getElem?_eq_some_iff.mp hj).1
  obtain ⟨a1, e1, p1, p2, -⟩ := h.1.2.2 i _ (List.getElem?_eq_getElem li)
  obtain ⟨a2, e2, q1, q2, -⟩ := h.1.2.2 j _ (List.getElem?_eq_getElem lj)
  cases Option.some.inj (hi.symm.trans p1)
  cases Option.some.inj (hj.symm.trans q1)
  exact h.2.2.1 i j _ _ p2 q2 rfl
theorem mg_acmp {off : Int} {nx tg i j : Nat} {v : Int32} (hq : mm_at (mm_tab Y) pc = some (.if_acmp .eq off, nx, tg, v)) (kt : i = j → mm_Go l sc Y k n M L S tg Q) (kf : ¬ i = j → mm_Go l sc Y k n M L S nx Q) : mm_Go l sc Y k n M L (.ref j :: .ref i :: S) pc Q := by
  intro hY p e s m args below meth c D A sa al0 al hC he ws H locs ls st hH hS hL hl
  have hm := mm_at_mem hq
  have hd := hY.1 _ hm
  have ho := hY.2.1 _ hm
  simp only [mm_ok, Bool.and_eq_true, decide_eq_true_eq] at ho
  obtain ⟨h1, h2⟩ := ho
  subst h2
  obtain ⟨b, st1, rfl, hb, hl1⟩ := hl.r
  obtain ⟨a, st2, rfl, ha, hl2⟩ := hl1.r
  refine lv_acmp_eq (rx := some a) (ry := some b) hC.1 hC.2.1 hd h1 (fun h => ?_) (fun h => ?_)
  · cases h
    exact kt (hH.inj ha hb) hY p e s m args below meth c D A sa al0 al hC he ws H locs ls st2 hH hS hL hl2
  · refine kf (fun h9 => h ?_) hY p e s m args below meth c D A sa al0 al hC he ws H locs ls st2 hH hS hL hl2
    subst h9
    exact ha.symm.trans hb
/-! ends -/
theorem mm_end {p : Program} {e : Env} {s : State} {m : MethodId} {args : Array Value} {below : List Frame} {meth : Method} {c : Code} {D : va_G} {A : Nat → Prop} {sa : Nat} {al0 al : List Nat} {ws : va_W} {H : Heap} {locs : List Loc} (he : mm_e al0 al) (hH : mm_H D A s al sa M ws H) (hS : va_S A s.heap H locs) {v w : Option Value} (hv : mm_o al sa v w) (hQ : Q (.inl v) M) :
    ∀ t : State, t.heap = H → s.WarmedH t.vm → mm_Qc D A al0 sa Q args s (.returned w) t :=
  fun t ht hW => ⟨v, w, M, al, ws, rfl, hv, hQ, he, ⟨hH.1.moved hW.alike, by rw [ht]; exact hH.2.1, hH.2.2⟩, hS.F ht⟩
theorem mg_iret {nx aux : Nat} {v x : Int32} (hq : mm_at (mm_tab Y) pc = some (.ireturn, nx, aux, v)) (hr : mm_ret Y = some .int) (hk : k ≤ (mm_rm Y).cells) (hn : n ≤ (mm_rm Y).slots) (hQ : Q (.inl (some (.int x))) M) : mm_Go l sc Y k n M L [.int x] pc Q := by
  intro hY p e s m args below meth c D A sa al0 al hC he ws H locs ls st hH hS hL hl
  have hd := hY.1 _ (mm_at_mem hq)
  obtain ⟨st1, rfl, hl1⟩ := hl.i
  have hl1' : st1 = [] := hl1
  subst hl1'
  have hlocks := hC.2.2.2.2.1
  refine W.widen hk hn (vx_ret ?_)
  exact W.iret hC.1 hC.2.1 (hC.2.2.2.1.trans hr) (mm_end (meth := meth) (c := c) (e := e) (p := p) (m := m) (below := below) he hH hS (v := some (.int x)) ⟨_, rfl, rfl⟩ hQ) hS.2.2 hd hlocks
theorem mg_zret {nx aux : Nat} {v x : Int32} (hq : mm_at (mm_tab Y) pc = some (.ireturn, nx, aux, v)) (hr : mm_ret Y = some .boolean) (hx : x = nI 0 ∨ x = nI 1) (hk : k ≤ (mm_rm Y).cells) (hn : n ≤ (mm_rm Y).slots) (hQ : Q (.inl (some (.int x))) M) : mm_Go l sc Y k n M L [.int x] pc Q := by
  intro hY p e s m args below meth c D A sa al0 al hC he ws H locs ls st hH hS hL hl
  have hd := hY.1 _ (mm_at_mem hq)
  obtain ⟨st1, rfl, hl1⟩ := hl.i
  have hl1' : st1 = [] := hl1
  subst hl1'
  have hlocks := hC.2.2.2.2.1
  have hnar : narrow .boolean (.int x) = .int x := by
    rcases hx with rfl | rfl
    · decide +kernel
    · decide +kernel
  refine W.widen hk hn (vx_ret ?_)
  exact W.zret (ty := .boolean) hC.1 hC.2.1 (hC.2.2.2.1.trans hr) hnar (mm_end (meth := meth) (c := c) (e := e) (p := p) (m := m) (below := below) he hH hS (v := some (.int x)) ⟨_, rfl, rfl⟩ hQ) hS.2.2 hd hlocks
theorem mg_vret {nx aux : Nat} {v : Int32} (hq : mm_at (mm_tab Y) pc = some (.return_, nx, aux, v)) (hr : mm_ret Y = none) (hk : k ≤ (mm_rm Y).cells) (hn : n ≤ (mm_rm Y).slots) (hQ : Q (.inl none) M) : mm_Go l sc Y k n M L [] pc Q := by
  intro hY p e s m args below meth c D A sa al0 al hC he ws H locs ls st hH hS hL hl
  have hd := hY.1 _ (mm_at_mem hq)
  have hl1' : st = [] := hl
  subst hl1'
  have hlocks := hC.2.2.2.2.1
  refine W.widen hk hn (vx_ret ?_)
  exact W.vret hC.1 hC.2.1 (hC.2.2.2.1.trans hr) (mm_end (meth := meth) (c := c) (e := e) (p := p) (m := m) (below := below) he hH hS (v := none) rfl hQ) hS.2.2 hd hlocks
theorem mg_aret {nx aux i : Nat} {v : Int32} {nm : String} (hq : mm_at (mm_tab Y) pc = some (.areturn, nx, aux, v)) (hr : mm_ret Y = some (.object nm)) (hk : k ≤ (mm_rm Y).cells) (hn : n ≤ (mm_rm Y).slots) (hQ : Q (.inl (some (.ref i))) M) : mm_Go l sc Y k n M L [.ref i] pc Q := by
  intro hY p e s m args below meth c D A sa al0 al hC he ws H locs ls st hH hS hL hl
  have hd := hY.1 _ (mm_at_mem hq)
  obtain ⟨a, st1, rfl, ha, hl1⟩ := hl.r
  have hl1' : st1 = [] := hl1
  subst hl1'
  have hlocks := hC.2.2.2.2.1
  refine W.widen hk hn (vx_ret ?_)
  exact W.aret hC.1 hC.2.1 (hC.2.2.2.1.trans hr) (Or.inl ⟨nm, rfl⟩) (Or.inr ⟨a, rfl⟩) (mm_end (meth := meth) (c := c) (e := e) (p := p) (m := m) (below := below) he hH hS (v := some (.ref i)) ⟨_, rfl, ⟨a, ha, rfl⟩⟩ hQ) hS.2.2 hd hlocks
/-! a method's contract out of its body -/
theorem mm_of (hY : mm_okY Y) (hcw : mm_cw Y ∈ mm_tbl) (hh : mm_hh Y = []) {vs : List Value} (hn : (mm_args vs).length ≤ mm_nL Y) (kk : mm_Go l sc Y 0 0 M (mm_ent (mm_nL Y) vs) [] 0 Q) : mm_Ct l sc Y M vs Q := by
  refine ⟨hY, hcw, ?_⟩
  intro D A sa al ws us hl
  have hw : mm_ws Y = Cond.code (mm_nam Y) (mm_cod Y) (mm_nL Y) (mm_ret Y) :: mm_tbl := by unfold mm_ws mm_cw; rw [hh]
  refine vx_ofW (cc := mm_cod Y) (maxL := mm_nL Y) (ret := mm_ret Y) hY.2.2.2 hw ?_
  intro p e s m args below meth c s₁ B hml htab hP
  obtain ⟨rfl, henv, hA, hH⟩ := hP
  have hts : ∀ w ∈ mm_tbl, w.before us.toArray s = true := fun w h => atoms_spec (ws := mm_ws Y) B.pre w (List.mem_cons_of_mem _ h)
  have htb : c.exceptionTable.toList = tableOf (mm_hh Y) := by
    rw [hh]
    exact List.eq_nil_iff_forall_not_mem.mpr (fun x hx => htab x hx)
  have hC : mm_Cx sc Y D A sa p s m us.toArray meth c := ⟨B.exec, B.bytes, hml, B.returns, B.notSynchronized, (name_of_methodNamed B.named B.method).1, by rw [hY.2.2.1]; exact findClass_of_methodNamed B.named, hts, htb, henv, hA⟩
  rw [lg_entry_eq]
  exact kk hY p e s m us.toArray below meth c D A sa al al hC (mm_e.rf al) ws s.heap [] _ [] hH va_S.rf (mm_entry hl hn) rfl
theorem mm_ofH (hY : mm_okY Y) (hcw : mm_cw Y ∈ mm_tbl) {h9 : Nat × Nat × Nat × Nat} {t9 : List (Nat × Nat × Nat × Nat)} (hh : mm_hh Y = h9 :: t9) {vs : List Value} (hn : (mm_args vs).length ≤ mm_nL Y) (kk : mm_Go l sc Y 0 0 M (mm_ent (mm_nL Y) vs) [] 0 Q) : mm_Ct l sc Y M vs Q := by
  refine ⟨hY, hcw, ?_⟩
  intro D A sa al ws us hl
  have hw : mm_ws Y = Cond.codeWith (mm_nam Y) (mm_cod Y) (mm_nL Y) (mm_ret Y) (mm_hh Y) :: mm_tbl := by unfold mm_ws mm_cw; rw [hh]
  refine vx_ofWH (cc := mm_cod Y) (maxL := mm_nL Y) (ret := mm_ret Y) hY.2.2.2 hw ?_
  intro p e s m args below meth c s₁ B hml hP
  obtain ⟨rfl, henv, hA, hH⟩ := hP
  have hall : ∀ w ∈ mm_ws Y, w.before us.toArray s = true := atoms_spec (ws := mm_ws Y) B.pre
  have hts : ∀ w ∈ mm_tbl, w.before us.toArray s = true := fun w h => hall w (List.mem_cons_of_mem _ h)
  have htb : c.exceptionTable.toList = tableOf (mm_hh Y) := vx_table (x := mm_nam Y) B (hall _ (by rw [hw]; exact List.mem_cons_self))
  have hC : mm_Cx sc Y D A sa p s m us.toArray meth c := ⟨B.exec, B.bytes, hml, B.returns, B.notSynchronized, (name_of_methodNamed B.named B.method).1, by rw [hY.2.2.1]; exact findClass_of_methodNamed B.named, hts, htb, henv, hA⟩
  rw [lg_entry_eq]
  exact kk hY p e s m us.toArray below meth c D A sa al al hC (mm_e.rf al) ws s.heap [] _ [] hH va_S.rf (mm_entry hl hn) rfl
/-! calls -/
theorem mm_back {R : Room} {p : Program} {e : Env} {s : State} {m : MethodId} {args : Array Value} {below : List Frame} {meth : Method} {c : Code} {D : va_G} {A : Nat → Prop} {sa : Nat} {al : List Nat} {H : Heap} {locs : List Loc} {mc ms : Nat} {ls : Array Slot} {st0 rest : List Value} {aa : Array Value} {Z : State → Prop}
    (hr : vx_Run p l e R s m args below meth c H locs k n mc ms (F0 m pc ls st0) rest (mm_Qc D A al sa Q aa) (mm_XC D A al sa Q) A) (hS : va_S A s.heap H locs)
    (kx : ∀ (j : Nat) (ce : Cell) (q9 : Addr) (M1 : mm_M) (al1 : List Nat) (ws1 : va_W) (H1 : Heap) (locs1 : List Loc), Q (.inr j) M1 → mm_e al al1 → mm_H D A s al1 sa M1 ws1 H1 → va_S A s.heap H1 locs1 → H1[q9]? = some ce → ce.vm = .none → s.vm.findClass (mm_xn j) = some ce.cls → vx_W p l e R s m args below meth c H1 locs1 (k + mc) (n + ms) Z (F0 m pc ls rest) q9)
    (kk : ∀ (v w : Option Value) (M1 : mm_M) (al1 : List Nat) (ws1 : va_W) (H1 : Heap) (locs1 : List Loc), Q (.inl v) M1 → mm_o al1 sa v w → mm_e al al1 → mm_H D A s al1 sa M1 ws1 H1 → va_S A s.heap H1 locs1 → W p l e R s m args below meth c H1 locs1 (k + mc) (n + ms) Z (F0 m (pc + 3) ls (w.toList ++ rest))) :
    W p l e R s m args below meth c H locs k n Z (F0 m pc ls st0) := by
  intro T hT X
  rcases hr T hT X with ⟨v, st₀, t, T', L9, h0, X', hL, e1, e2, hq, st⟩ | ⟨q, st₀, t, T', L9, E, ce, h0, X', hL, e1, e2, hq, hce, hcv, hcl, st⟩
  · obtain ⟨v1, w1, M1, al1, ws1, hv, ho, hQ, he, hH, hF⟩ := hq
    cases hv
    obtain ⟨k1, k2, k3⟩ := vx_keep (A0 := A) h0 e1 hS (fun _ _ h => h) (fun _ h => h) hL hF
    have hal : s.vm.Alike t.vm := by rw [← e2]; exact X'.warmed.alike
    obtain ⟨t2, a1, b1⟩ := kk v1 v M1 al1 ws1 T'.heap (locs ++ L9) hQ ho he ⟨hH.1.moved hal.symm, by rw [e1]; exact hH.2.1, hH.2.2⟩ k3 T' rfl X'
    exact ⟨t2, st t2 a1, b1⟩
  · obtain ⟨j, M1, al1, ws1, hE, hQ, he, hH, hF⟩ := hq
    subst hE
    obtain ⟨k1, k2, k3⟩ := vx_keep (A0 := A) h0 e1 hS (fun _ _ h => h) (fun _ h => h) hL hF
    have hal : s.vm.Alike t.vm := by rw [← e2]; exact X'.warmed.alike
    obtain ⟨t2, a1, b1⟩ := kx j ce q M1 al1 ws1 T'.heap (locs ++ L9) hQ he ⟨hH.1.moved hal.symm, by rw [e1]; exact hH.2.1, hH.2.2⟩ k3 (by rw [e1]; exact hce) hcv hcl T' rfl X'
    exact ⟨t2, st.trans a1, b1⟩
theorem mm_blind {D : va_G} {A : Nat → Prop} {sa : Nat} {al : List Nat} {ws : va_W} {us : List Value} : FrameBlind (mm_Pc sc D A al sa M ws us) := fun a U g mk h =>
  ⟨h.1, h.2.1.blind g mk a, h.2.2.1, ⟨h.2.2.2.1.moved (U := U.calling g mk a) (Vm.Alike.refl U.vm), h.2.2.2.2⟩⟩
theorem mm_pre {D : va_G} {A : Nat → Prop} {sa : Nat} {al : List Nat} {ws : va_W} {us : List Value} {s : State} {H : Heap} {locs : List Loc} (henv : mm_env sc D A sa s) (hA : ∀ q, s.heap.size ≤ q → A q) (hH : mm_H D A s al sa M ws H) (hS : va_S A s.heap H locs) : ∀ U : State, U.heap = H → s.WarmedH U.vm → mm_Pc sc D A al sa M ws us us.toArray U :=
  fun U hU hW => ⟨rfl, henv.call hS hU hW, fun q hq => hA q (Nat.le_trans hS.1 (by rw [← hU]; exact hq)), ⟨hH.1.moved hW.alike, by rw [hU]; exact hH.2.1, hH.2.2⟩⟩
/-- where a call goes on -/
abbrev mm_K (l : Launch) (sc : Nat × (Nat → Int32)) (Y : mm_Y) (k n : Nat) (L : mm_L) (S : List Value) (nx : Nat) (Q : mm_O → mm_M → Prop) : mm_O → mm_M → Prop := fun o M1 => match o with
  | .inl v => mm_Go l sc Y k n M1 L (v.toList ++ S) nx Q
  | .inr j => Q (.inr j) M1
/-- .. of a callee that never throws -/
abbrev mm_K0 (l : Launch) (sc : Nat × (Nat → Int32)) (Y : mm_Y) (k n : Nat) (L : mm_L) (S : List Value) (nx : Nat) (Q : mm_O → mm_M → Prop) : mm_O → mm_M → Prop := fun o M1 => match o with
  | .inl v => mm_Go l sc Y k n M1 L (v.toList ++ S) nx Q
  | .inr _ => False
theorem mm_met {D : va_G} {A : Nat → Prop} {sa : Nat} {al : List Nat} {y : MethodName} {ws : List Cond} {rm : Room} {Pc : Array Value → State → Prop} {mc ms : Nat} (hM : vx_Met l y ws rm Pc (mm_Qc D A al sa Q) (mm_XC D A al sa Q) mc ms A) (hno : ∀ j M1, ¬ Q (.inr j) M1) : Met l y ws rm Pc (mm_Qc D A al sa Q) mc ms A := by
  intro p e h1 h2 h3 s m args below h4 h5 h6 h7
  obtain ⟨i, o, a1, a2, a3, a4⟩ := hM p e h1 h2 h3 s m args below h4 h5 h6 h7
  refine ⟨i, o, a1, a2, a3, ?_⟩
  rcases a4 with a4 | ⟨q, -, E, ce, L9, ⟨j, M1, al1, ws1, -, hQ, -⟩, -⟩
  · exact a4
  · exact absurd hQ (hno j M1)
theorem mm_o.list {al : List Nat} {sa : Nat} {v w : Option Value} (h : mm_o al sa v w) {st : List Value} (hl : mm_l al sa S st) : mm_l al sa (v.toList ++ S) (w.toList ++ st) := by
  cases v with
  | none => have h' : w = none := h
            subst h'; exact hl
  | some x => obtain ⟨y, rfl, hy⟩ := h
              exact ⟨y, st, rfl, hy, hl⟩
/-- an exception leaves a method that has no table -/
theorem mm_leave {p : Program} {e : Env} {s : State} {m : MethodId} {args : Array Value} {below : List Frame} {meth : Method} {c : Code} {D : va_G} {A : Nat → Prop} {sa : Nat} {al0 al : List Nat} {H : Heap} {locs : List Loc} {ls : Array Slot} {rest : List Value} {ws : va_W} {ce : Cell} {q : Addr} {j : Nat} (hC : mm_Cx sc Y D A sa p s m args meth c) (hh : mm_hh Y = []) (he : mm_e al0 al) (hH : mm_H D A s al sa M ws H) (hS : va_S A s.heap H locs) (hce : H[q]? = some ce) (hv : ce.vm = .none) (hcl : s.vm.findClass (mm_xn j) = some ce.cls) (hk : k ≤ (mm_rm Y).cells) (hn : n ≤ (mm_rm Y).slots) (hQ : Q (.inr j) M) :
    vx_W p l e (mm_rm Y) s m args below meth c H locs k n (vx_MQ below (mm_Qc D A al0 sa Q) (mm_XC D A al0 sa Q) args s (mm_rm Y).cells (mm_rm Y).slots A) (F0 m pc ls rest) q := by
  have htb := hC.2.2.2.2.2.2.2.2.1
  rw [hh] at htb
  refine vx_out (E := mm_xn j) (fun x hx => ?_) hC.2.2.2.2.1 hce hv hcl (fun t ht hW => ⟨j, M, al, ws, rfl, hQ, he, ⟨hH.1.moved hW, by rw [ht]; exact hH.2.1, hH.2.2⟩, hS.F ht⟩) hS.2.2 hk hn
  rw [htb] at hx
  cases hx
end
