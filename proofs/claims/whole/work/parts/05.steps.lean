/-! What every method may lean on; the judgement; one instruction, and runs of them. -/
def mm_env (sc : Nat × (Nat → Int32)) (D : va_G) (A : Nat → Prop) (sa : Nat) (U : State) : Prop := va_K D mm_cl [] U ∧ va_AO "LambdaBench$Term" U ∧ vx_Zq Bundle.tN "UNASSIGNED_STACK" Bundle.steD A U U.heap ∧ vx_Zq Bundle.tN "SUPPRESSED_SENTINEL" Bundle.listD A U U.heap ∧ (∀ q ∈ mm_st, ∃ a, vk_R q.1 q.2.1 q.2.2 a U) ∧ (∀ q ∈ mm_nw, va_Nw (.methodLinkNest q.1 q.2.1 q.2.2.1 q.2.2.2) U) ∧ (∀ q ∈ mm_ca, va_Nw (.castable q.1 q.2) U) ∧ (∀ q ∈ mm_nc, va_Nc q.1 q.2 U) ∧ (∀ y ∈ mm_de, va_Nw (.declares y) U) ∧ va_X sa sc.1 sc.2 U U.heap ∧ sa < U.heap.size ∧ ¬ A sa
theorem mm_env.call {sc : Nat × (Nat → Int32)} {D : va_G} {A : Nat → Prop} {sa : Nat} {s U : State} {H : Heap} {locs : List Loc} (h : mm_env sc D A sa s) (hS : va_S A s.heap H locs) (hU : U.heap = H) (hW : s.WarmedH U.vm) : mm_env sc D A sa U := by
  obtain ⟨h1, h2, h3, h4, h5, h6, h7, h8, h12, h9, h10, h11⟩ := h
  refine ⟨h1.moved hW.alike, h2.moved hW.alike, by rw [hU]; exact vx_Zq.moved hW.alike (h3.kept hS.2.1), by rw [hU]; exact vx_Zq.moved hW.alike (h4.kept hS.2.1), fun q hq => ?_, fun q hq => (h6 q hq).warmM hW, fun q hq => (h7 q hq).warmC hW, fun q hq => (h8 q hq).moved hW.alike, fun y hy => (h12 y hy).warmD hW, ?_, by rw [hU]; exact Nat.lt_of_lt_of_le h10 hS.1, h11⟩
  · obtain ⟨a, ha⟩ := h5 q hq
    exact ⟨a, vk_R.warm hW ha⟩
  · rw [hU]
    exact (h9.kept (hS.2.1 sa h10 h11)).moved hW.alike
theorem mm_env.blind {sc : Nat × (Nat → Int32)} {D : va_G} {A : Nat → Prop} {sa : Nat} {U : State} (g : JFrame) (mk : MethodId) (a : Array Value) (h : mm_env sc D A sa U) : mm_env sc D A sa (U.calling g mk a) := by
  obtain ⟨h1, h2, h3, h4, h5, h6, h7, h8, h12, h9, h10, h11⟩ := h
  have hr : U.vm.Alike (U.calling g mk a).vm := Vm.Alike.refl U.vm
  refine ⟨h1.moved hr, h2.moved hr, vx_Zq.moved hr h3, vx_Zq.moved hr h4, fun q hq => ?_, fun q hq => va_Nw.same rfl (u := U) rfl (h6 q hq), fun q hq => va_Nw.same rfl (u := U) rfl (h7 q hq), fun q hq => (h8 q hq).moved hr, fun y hy => va_Nw.same rfl (u := U) rfl (h12 y hy), va_X.moved hr h9, h10, h11⟩
  obtain ⟨b, hb⟩ := h5 q hq
  exact ⟨b, vk_R.same rfl hb⟩
def mm_H (D : va_G) (A : Nat → Prop) (U : State) (al : List Nat) (sa : Nat) (M : mm_M) (ws : va_W) (H : Heap) : Prop := mm_W U al sa M ws ∧ va_P D mm_cl ws H ∧ va_D A ws
def mm_o (al : List Nat) (sa : Nat) (v w : Option Value) : Prop := match v with
  | none => w = none
  | some x => ∃ y, w = some y ∧ mm_v al sa x y
def mm_Qc (D : va_G) (A : Nat → Prop) (al : List Nat) (sa : Nat) (Q : mm_O → mm_M → Prop) : Array Value → State → Outcome → State → Prop := fun _ st oc t =>
  ∃ (v w : Option Value) (M : mm_M) (al' : List Nat) (ws : va_W), oc = .returned w ∧ mm_o al' sa v w ∧ Q (.inl v) M ∧ mm_e al al' ∧ mm_H D A t al' sa M ws t.heap ∧ va_F A st t
def mm_XC (D : va_G) (A : Nat → Prop) (al : List Nat) (sa : Nat) (Q : mm_O → mm_M → Prop) : String → State → State → Prop := fun E st t =>
  ∃ (j : Nat) (M : mm_M) (al' : List Nat) (ws : va_W), E = mm_xn j ∧ Q (.inr j) M ∧ mm_e al al' ∧ mm_H D A t al' sa M ws t.heap ∧ va_F A st t
def mm_Pc (sc : Nat × (Nat → Int32)) (D : va_G) (A : Nat → Prop) (al : List Nat) (sa : Nat) (M : mm_M) (ws : va_W) (us : List Value) : Array Value → State → Prop := fun a U =>
  a = us.toArray ∧ mm_env sc D A sa U ∧ (∀ q, U.heap.size ≤ q → A q) ∧ mm_H D A U al sa M ws U.heap
/-- a call of Y with vs over the cells M ends in Q -/
def mm_Ct (l : Launch) (sc : Nat × (Nat → Int32)) (Y : mm_Y) (M : mm_M) (vs : List Value) (Q : mm_O → mm_M → Prop) : Prop :=
  mm_okY Y ∧ mm_cw Y ∈ mm_tbl ∧ ∀ (D : va_G) (A : Nat → Prop) (sa : Nat) (al : List Nat) (ws : va_W) (us : List Value), mm_l al sa vs us →
    vx_Met l (mm_nam Y) (mm_ws Y) (mm_rm Y) (mm_Pc sc D A al sa M ws us) (mm_Qc D A al sa Q) (mm_XC D A al sa Q) (mm_rm Y).cells (mm_rm Y).slots A
def mm_Cx (sc : Nat × (Nat → Int32)) (Y : mm_Y) (D : va_G) (A : Nat → Prop) (sa : Nat) (p : Program) (s : State) (m : MethodId) (args : Array Value) (meth : Method) (c : Code) : Prop :=
  p.tables.exec = Jvm.exec ∧ c.code = mm_cod Y ∧ c.maxLocals = mm_nL Y ∧ meth.sig.returnType = mm_ret Y ∧ meth.locks = false ∧ meth.name = (mm_nam Y).name ∧ s.vm.findClass (mm_nm (mm_cn Y)) = some m.cls ∧ (∀ w ∈ mm_tbl, w.before args s = true) ∧ c.exceptionTable.toList = tableOf (mm_hh Y) ∧ mm_env sc D A sa s ∧ ∀ q, s.heap.size ≤ q → A q
def mm_At (l : Launch) (R : Room) (p : Program) (e : Env) (s : State) (m : MethodId) (args : Array Value) (below : List Frame) (meth : Method) (c : Code) (D : va_G) (A : Nat → Prop) (sa : Nat) (al : List Nat) (k n : Nat) (Z : State → Prop) (nL : Nat) (M : mm_M) (L : mm_L) (S : List Value) (pc : Nat) : Prop :=
  ∀ (ws : va_W) (H : Heap) (locs : List Loc) (ls : Array Slot) (st : List Value), mm_H D A s al sa M ws H → va_S A s.heap H locs → mm_Lr al sa nL L ls → mm_l al sa S st → W p l e R s m args below meth c H locs k n Z (F0 m pc ls st)
section
variable {l : Launch} {sc : Nat × (Nat → Int32)} {Y : mm_Y} {R : Room} {p : Program} {e : Env} {s : State} {m : MethodId} {args : Array Value} {below : List Frame} {meth : Method} {c : Code} {D : va_G} {A : Nat → Prop} {sa : Nat} {al : List Nat} {k n : Nat} {Z : State → Prop} {nL : Nat} {M M' : mm_M} {L L' : mm_L} {S S' : List Value} {pc : Nat}
theorem mx_p {v : Int32} {j : Nat} (hrow : ∀ (H : Heap) (locs : List Loc) (ls : Array Slot) (st : List Value), W p l e R s m args below meth c H locs k n Z (F0 m j ls (.int v :: st)) → W p l e R s m args below meth c H locs k n Z (F0 m pc ls st)) (kk : mm_At l R p e s m args below meth c D A sa al k n Z nL M L (.int v :: S) j) : mm_At l R p e s m args below meth c D A sa al k n Z nL M L S pc :=
  fun ws H locs ls st hH hS hL hl => hrow H locs ls st (kk ws H locs ls _ hH hS hL (hl.pi v))
theorem mx_ldi {i j : Nat} (hrow : ∀ (H : Heap) (locs : List Loc) (ls : Array Slot) (st : List Value) (x : Int32), ls[i]? = some (.val (.int x)) → W p l e R s m args below meth c H locs k n Z (F0 m j ls (.int x :: st)) → W p l e R s m args below meth c H locs k n Z (F0 m pc ls st))
    (hx : mm_s M L (mm_ldi L S i) = some (M', L', S')) (kk : mm_At l R p e s m args below meth c D A sa al k n Z nL M' L' S' j) : mm_At l R p e s m args below meth c D A sa al k n Z nL M L S pc := by
  obtain ⟨rfl, rfl, ho⟩ := mm_s_inv hx
  unfold mm_ldi at ho
  split at ho
  · next x hg =>
    cases ho
    intro ws H locs ls st hH hS hL hl
    obtain ⟨w, h1, h2⟩ := hL.2.2.2 i _ (mm_get_inv hg)
    have h2' : w = .int x := h2
    subst h2'
    exact hrow H locs ls st x h1 (kk ws H locs ls _ hH hS hL (hl.pi x))
  · cases ho
theorem mx_ldl {i j : Nat} (hrow : ∀ (H : Heap) (locs : List Loc) (ls : Array Slot) (st : List Value) (x : Int64), ls[i]? = some (.val (.long x)) → W p l e R s m args below meth c H locs k n Z (F0 m j ls (.long x :: st)) → W p l e R s m args below meth c H locs k n Z (F0 m pc ls st))
    (hx : mm_s M L (mm_ldl L S i) = some (M', L', S')) (kk : mm_At l R p e s m args below meth c D A sa al k n Z nL M' L' S' j) : mm_At l R p e s m args below meth c D A sa al k n Z nL M L S pc := by
  obtain ⟨rfl, rfl, ho⟩ := mm_s_inv hx
  unfold mm_ldl at ho
  split at ho
  · next x hg =>
    cases ho
    intro ws H locs ls st hH hS hL hl
    obtain ⟨w, h1, h2⟩ := hL.2.2.2 i _ (mm_get_inv hg)
    have h2' : w = .long x := h2
    subst h2'
    exact hrow H locs ls st x h1 (kk ws H locs ls _ hH hS hL (hl.pg x))
  · cases ho
theorem mx_lda {i j : Nat} (hrow : ∀ (H : Heap) (locs : List Loc) (ls : Array Slot) (st : List Value) (x : Nat), ls[i]? = some (.val (.ref x)) → W p l e R s m args below meth c H locs k n Z (F0 m j ls (.ref x :: st)) → W p l e R s m args below meth c H locs k n Z (F0 m pc ls st))
    (hx : mm_s M L (mm_lda L S i) = some (M', L', S')) (kk : mm_At l R p e s m args below meth c D A sa al k n Z nL M' L' S' j) : mm_At l R p e s m args below meth c D A sa al k n Z nL M L S pc := by
  obtain ⟨rfl, rfl, ho⟩ := mm_s_inv hx
  unfold mm_lda at ho
  split at ho
  · next v hg =>
    split at ho
    · next hr =>
      cases ho
      intro ws H locs ls st hH hS hL hl
      obtain ⟨w, h1, h2⟩ := hL.2.2.2 i _ (mm_get_inv hg)
      obtain ⟨x, rfl⟩ := h2.isR hr
      exact hrow H locs ls st x h1 (kk ws H locs ls _ hH hS hL (hl.pv h2))
    · cases ho
  · cases ho
theorem mx_sti {i j : Nat} (hrow : ∀ (H : Heap) (locs : List Loc) (ls : Array Slot) (st : List Value) (x : Int32), lv_has ls nL (mm_ls ls) → i < nL → (∀ ls' : Array Slot, lv_has ls' nL ((i, Value.int x) :: (mm_ls ls).filter (fun q => !(q.1 == i) && !(q.1 + 1 == i && q.2.category == 2))) → W p l e R s m args below meth c H locs k n Z (F0 m j ls' st)) → W p l e R s m args below meth c H locs k n Z (F0 m pc ls (.int x :: st)))
    (hx : mm_t M (mm_sti L S i) = some (M', L', S')) (kk : mm_At l R p e s m args below meth c D A sa al k n Z nL M' L' S' j) : mm_At l R p e s m args below meth c D A sa al k n Z nL M L S pc := by
  obtain ⟨rfl, ho⟩ := mm_t_inv hx
  unfold mm_sti at ho
  split at ho
  · next x R9 =>
    split at ho
    · next L9 hs =>
      cases ho
      intro ws H locs ls st hH hS hL hl
      obtain ⟨st', rfl, hl'⟩ := hl.i
      refine hrow H locs ls st' x (mm_ls_has hL.2.1 hL.2.2.1) (by rw [← hL.1]; exact (mm_set_inv hs).1) (fun ls' h' => ?_)
      exact kk ws H locs ls' _ hH hS (hL.set hs rfl h') hl'
    · cases ho
  · cases ho
theorem mx_sta {i j : Nat} (hrow : ∀ (H : Heap) (locs : List Loc) (ls : Array Slot) (st : List Value) (x : Nat), lv_has ls nL (mm_ls ls) → i < nL → (∀ ls' : Array Slot, lv_has ls' nL ((i, Value.ref x) :: (mm_ls ls).filter (fun q => !(q.1 == i) && !(q.1 + 1 == i && q.2.category == 2))) → W p l e R s m args below meth c H locs k n Z (F0 m j ls' st)) → W p l e R s m args below meth c H locs k n Z (F0 m pc ls (.ref x :: st)))
    (hx : mm_t M (mm_sta L S i) = some (M', L', S')) (kk : mm_At l R p e s m args below meth c D A sa al k n Z nL M' L' S' j) : mm_At l R p e s m args below meth c D A sa al k n Z nL M L S pc := by
  obtain ⟨rfl, ho⟩ := mm_t_inv hx
  unfold mm_sta at ho
  split at ho
  · next v R9 =>
    split at ho
    · next hr =>
      split at ho
      · next L9 hs =>
        cases ho
        intro ws H locs ls st hH hS hL hl
        obtain ⟨w, st', rfl, hv, hl'⟩ := hl
        obtain ⟨x, rfl⟩ := hv.isR hr
        refine hrow H locs ls st' x (mm_ls_has hL.2.1 hL.2.2.1) (by rw [← hL.1]; exact (mm_set_inv hs).1) (fun ls' h' => ?_)
        exact kk ws H locs ls' _ hH hS (hL.set hs hv h') hl'
      · cases ho
    · cases ho
  · cases ho
theorem mx_b {f : Int32 → Int32 → Int32} {j : Nat} (hrow : ∀ (H : Heap) (locs : List Loc) (ls : Array Slot) (st : List Value) (x y : Int32), W p l e R s m args below meth c H locs k n Z (F0 m j ls (.int (f x y) :: st)) → W p l e R s m args below meth c H locs k n Z (F0 m pc ls (.int y :: .int x :: st)))
    (hx : mm_s M L (mm_b f S) = some (M', L', S')) (kk : mm_At l R p e s m args below meth c D A sa al k n Z nL M' L' S' j) : mm_At l R p e s m args below meth c D A sa al k n Z nL M L S pc := by
  obtain ⟨rfl, rfl, ho⟩ := mm_s_inv hx
  obtain ⟨x, y, R9, rfl, rfl⟩ := mm_b_inv ho
  intro ws H locs ls st hH hS hL hl
  obtain ⟨st1, rfl, hl1⟩ := hl.i
  obtain ⟨st2, rfl, hl2⟩ := hl1.i
  exact hrow H locs ls st2 x y (kk ws H locs ls _ hH hS hL (hl2.pi _))
theorem mx_bl {f : Int64 → Int64 → Int64} {j : Nat} (hrow : ∀ (H : Heap) (locs : List Loc) (ls : Array Slot) (st : List Value) (x y : Int64), W p l e R s m args below meth c H locs k n Z (F0 m j ls (.long (f x y) :: st)) → W p l e R s m args below meth c H locs k n Z (F0 m pc ls (.long y :: .long x :: st)))
    (hx : mm_s M L (mm_bl f S) = some (M', L', S')) (kk : mm_At l R p e s m args below meth c D A sa al k n Z nL M' L' S' j) : mm_At l R p e s m args below meth c D A sa al k n Z nL M L S pc := by
  obtain ⟨rfl, rfl, ho⟩ := mm_s_inv hx
  obtain ⟨x, y, R9, rfl, rfl⟩ := mm_bl_inv ho
  intro ws H locs ls st hH hS hL hl
  obtain ⟨st1, rfl, hl1⟩ := hl.g
  obtain ⟨st2, rfl, hl2⟩ := hl1.g
  exact hrow H locs ls st2 x y (kk ws H locs ls _ hH hS hL (hl2.pg _))
theorem mx_sh {f : Int64 → Int32 → Int64} {j : Nat} (hrow : ∀ (H : Heap) (locs : List Loc) (ls : Array Slot) (st : List Value) (x : Int64) (y : Int32), W p l e R s m args below meth c H locs k n Z (F0 m j ls (.long (f x y) :: st)) → W p l e R s m args below meth c H locs k n Z (F0 m pc ls (.int y :: .long x :: st)))
    (hx : mm_s M L (mm_sh f S) = some (M', L', S')) (kk : mm_At l R p e s m args below meth c D A sa al k n Z nL M' L' S' j) : mm_At l R p e s m args below meth c D A sa al k n Z nL M L S pc := by
  obtain ⟨rfl, rfl, ho⟩ := mm_s_inv hx
  obtain ⟨x, y, R9, rfl, rfl⟩ := mm_sh_inv ho
  intro ws H locs ls st hH hS hL hl
  obtain ⟨st1, rfl, hl1⟩ := hl.i
  obtain ⟨st2, rfl, hl2⟩ := hl1.g
  exact hrow H locs ls st2 x y (kk ws H locs ls _ hH hS hL (hl2.pg _))
theorem mm_cl_at {ci : Nat} {r : vw_C} (h : mm_cl[ci]? = some r) : mm_cl[ci]? = some (r.1, r.2.1, r.2.2) := h
theorem mx_get {ix j nx : Nat} (hC : mm_Cx sc Y D A sa p s m args meth c) (hfo : mm_fok (mm_cn Y) ix j = true) (hd : decode (mm_cod Y) pc = .ok (.getfield ix, 3)) (hn : nx = pc + 3)
    (hx : mm_s M L (mm_gf M S j) = some (M', L', S')) (kk : mm_At l R p e s m args below meth c D A sa al k n Z nL M' L' S' nx) : mm_At l R p e s m args below meth c D A sa al k n Z nL M L S pc := by
  obtain ⟨rfl, rfl, ho⟩ := mm_s_inv hx
  obtain ⟨a, R9, f, fs, v, rfl, hf1, hM, hv, rfl⟩ := mm_gf_inv ho
  subst hn
  obtain ⟨hex, hcode, -, -, -, -, hown, hts, -, henv, -⟩ := hC
  unfold mm_fok at hfo
  rw [hf1] at hfo
  simp only [Bool.and_eq_true, decide_eq_true_eq] at hfo
  obtain ⟨cn, ix2, ci, kf⟩ := f
  obtain ⟨e1, e2⟩ := hfo
  dsimp only at e1 e2 hM hv
  subst e1 e2
  obtain ⟨C, T, N, hc, hk, hlink⟩ := mm_fu_ok j _ _ ci kf hf1
  obtain ⟨hCn, hT, hnm, hin, -, -⟩ := mm_cl_ok ci C T N hc
  intro ws H locs ls st hH hS hL hl
  obtain ⟨b, st1, rfl, hb, hl1⟩ := hl.r
  obtain ⟨b', e', h1, h2, h3⟩ := hH.1.2.2 a _ hM
  cases Option.some.inj (hb.symm.trans h1)
  obtain ⟨fs', rfl, hfs⟩ := h3
  obtain ⟨w, hw, hvw⟩ := hfs.get hv
  exact va_get (D := D) (ci := ci) (C := C) (T := T) (N := N) (v := w) (ref := C) hex hcode hts hin hown henv.1 hH.2.1 a h2 hc kf hk (hts _ hlink) (fun x9 h9 => by rw [(hT kf hk).1] at h9; exact h9) hw hd (kk ws H locs ls _ hH hS hL (hl1.pv hvw))
theorem mx_put {ix j nx : Nat} (hC : mm_Cx sc Y D A sa p s m args meth c) (hY : mm_nm (mm_cn Y) = (mm_nam Y).cls) (hfo : mm_fok (mm_cn Y) ix j = true) (hpo : mm_pok (decide ((mm_nam Y).name = "<init>")) (mm_cn Y) j = true) (hd : decode (mm_cod Y) pc = .ok (.putfield ix, 3)) (hn : nx = pc + 3)
    (hx : mm_pf M S j = some (M', S')) (kk : mm_At l R p e s m args below meth c D A sa al k n Z nL M' L S' nx) : mm_At l R p e s m args below meth c D A sa al k n Z nL M L S pc := by
  obtain ⟨v, a, f, fs, rfl, hf1, hM, hlt, hfit, rfl⟩ := mm_pf_inv hx
  subst hn
  obtain ⟨hex, hcode, -, -, -, hname, hown, hts, -, henv, -⟩ := hC
  unfold mm_fok at hfo
  unfold mm_pok at hpo
  rw [hf1] at hfo hpo
  simp only [Bool.and_eq_true, decide_eq_true_eq] at hfo
  obtain ⟨cn, ix2, ci, kf⟩ := f
  obtain ⟨e1, e2⟩ := hfo
  dsimp only at e1 e2 hM hlt hfit hpo
  subst e1 e2
  obtain ⟨C, T, N, hc, hk, hlink⟩ := mm_fu_ok j _ _ ci kf hf1
  obtain ⟨hCn, hT, hnm, hin, -, -⟩ := mm_cl_ok ci C T N hc
  intro ws H locs ls st hH hS hL hl
  obtain ⟨w, st0, rfl, hvw, hl0⟩ := hl
  obtain ⟨b, st1, rfl, hb, hl1⟩ := mm_l.r hl0
  obtain ⟨b', e', h1, h2, h3⟩ := hH.1.2.2 a _ hM
  cases Option.some.inj (hb.symm.trans h1)
  obtain ⟨fs', rfl, hfs⟩ := h3
  obtain ⟨hnar, hfw⟩ := mm_fit_ok hfit hvw
  have hlen : kf < fs'.length := by rw [hfs.len]; exact hlt
  have hput : ∀ (H1 : Heap) (locs1 : List Loc), va_P D mm_cl (ws.set a (b, .inr (ci, fs'.set kf w))) H1 → va_D A (ws.set a (b, .inr (ci, fs'.set kf w))) → va_S A s.heap H1 locs1 → W p l e R s m args below meth c H1 locs1 k n Z (F0 m (pc + 3) ls st1) := fun H1 locs1 g1 g2 g3 =>
    kk _ H1 locs1 ls _ ⟨hH.1.set hb ⟨fs'.set kf w, rfl, mm_l.put hvw kf hfs⟩, g1, g2⟩ g3 hL hl1
  have htf : ∀ k9, k9 < N → parseFieldDescriptor (T k9).2.2.1 = some (mm_tf ci k9) := fun k9 h9 => (hT k9 h9).2.2
  by_cases hfin : (T kf).2.2.2 = true
  · have hfin2 : mm_fin ci kf = true := by rw [← (hT kf hk).2.1]; exact hfin
    rw [hfin2] at hpo
    simp only [Bool.not_true, Bool.false_or, Bool.and_eq_true, decide_eq_true_eq] at hpo
    have hdecl : (T kf).1 = mm_nm (mm_cn Y) := by rw [(hT kf hk).1, hCn, hpo.2]
    exact va_putF (D := D) (ci := ci) (C := C) (T := T) (N := N) (v := w) (ref := C) (ty := mm_tf ci kf) hex hcode hts hin (mm_tf ci) htf hnm hown henv.1 hH.2.1 hH.2.2 hS a h2 hc kf hk (hts _ hlink) (fun x9 h9 => by rw [(hT kf hk).1] at h9; exact h9) hfin (hname.trans hpo.1) hdecl (htf kf hk) hnar hfw hlen hd hput
  · have hfin0 : (T kf).2.2.2 = false := by
      cases h9 : (T kf).2.2.2
      · rfl
      · exact absurd h9 hfin
    exact va_put (D := D) (ci := ci) (C := C) (T := T) (N := N) (v := w) (ref := C) (ty := mm_tf ci kf) hex hcode hts hin (mm_tf ci) htf hnm hown henv.1 hH.2.1 hH.2.2 hS a h2 hc kf hk (hts _ hlink) (fun x9 h9 => by rw [(hT kf hk).1] at h9; exact h9) hfin0 (htf kf hk) hnar hfw hlen hd hput
end
