/-! The claim: what holds at the law's entry, and the law's end. -/
theorem mm_stw : ∀ q ∈ mm_st, Cond.stringRef q.1 q.2.1 q.2.2 ∈ lw_tbl := List.forall_mem_cons.mpr ⟨mm_r2 _ (List.mem_of_getElem? (i := 5) rfl), List.forall_mem_cons.mpr ⟨mm_r2 _ (List.mem_of_getElem? (i := 45) rfl), List.forall_mem_cons.mpr ⟨mm_r2 _ (List.mem_of_getElem? (i := 67) rfl), List.forall_mem_cons.mpr ⟨mm_r2 _ (List.mem_of_getElem? (i := 168) rfl), List.forall_mem_cons.mpr ⟨mm_r2 _ (List.mem_of_getElem? (i := 173) rfl), List.forall_mem_cons.mpr ⟨mm_r2 _ (List.mem_of_getElem? (i := 218) rfl), List.forall_mem_cons.mpr ⟨mm_r3 _ (List.mem_of_getElem? (i := 10) rfl), List.forall_mem_cons.mpr ⟨mm_r3 _ (List.mem_of_getElem? (i := 14) rfl), List.forall_mem_cons.mpr ⟨mm_r3 _ (List.mem_of_getElem? (i := 27) rfl), List.forall_mem_cons.mpr ⟨mm_r3 _ (List.mem_of_getElem? (i := 38) rfl), List.forall_mem_cons.mpr ⟨mm_r3 _ (List.mem_of_getElem? (i := 62) rfl), List.forall_mem_cons.mpr ⟨mm_r3 _ (List.mem_of_getElem? (i := 149) rfl), List.forall_mem_cons.mpr ⟨mm_r3 _ (List.mem_of_getElem? (i := 161) rfl), fun _ h => absurd h List.not_mem_nil⟩⟩⟩⟩⟩⟩⟩⟩⟩⟩⟩⟩⟩
theorem mm_caw : ∀ q ∈ mm_ca, Cond.castable q.1 q.2 ∈ lw_tbl := List.forall_mem_cons.mpr ⟨mm_r1 _ (List.mem_of_getElem? (i := 206) rfl), List.forall_mem_cons.mpr ⟨mm_r2 _ (List.mem_of_getElem? (i := 38) rfl), List.forall_mem_cons.mpr ⟨mm_r2 _ (List.mem_of_getElem? (i := 211) rfl), fun _ h => absurd h List.not_mem_nil⟩⟩⟩
theorem mm_dew : ∀ y ∈ mm_de, Cond.declares y ∈ lw_tbl := List.forall_mem_cons.mpr ⟨mm_r1 _ (List.mem_of_getElem? (i := 207) rfl), List.forall_mem_cons.mpr ⟨mm_r1 _ (List.mem_of_getElem? (i := 208) rfl), List.forall_mem_cons.mpr ⟨mm_r1 _ (List.mem_of_getElem? (i := 209) rfl), List.forall_mem_cons.mpr ⟨mm_r1 _ (List.mem_of_getElem? (i := 210) rfl), List.forall_mem_cons.mpr ⟨mm_r1 _ (List.mem_of_getElem? (i := 211) rfl), List.forall_mem_cons.mpr ⟨mm_r1 _ (List.mem_of_getElem? (i := 212) rfl), fun _ h => absurd h List.not_mem_nil⟩⟩⟩⟩⟩⟩
theorem mm_nww : ∀ q ∈ mm_nw, Cond.methodLinkNest q.1 q.2.1 q.2.2.1 q.2.2.2 ∈ lw_tbl := List.forall_mem_cons.mpr ⟨mm_r2 _ (List.mem_of_getElem? (i := 85) rfl), List.forall_mem_cons.mpr ⟨mm_r2 _ (List.mem_of_getElem? (i := 100) rfl), List.forall_mem_cons.mpr ⟨mm_r2 _ (List.mem_of_getElem? (i := 103) rfl), List.forall_mem_cons.mpr ⟨mm_r2 _ (List.mem_of_getElem? (i := 149) rfl), List.forall_mem_cons.mpr ⟨mm_r2 _ (List.mem_of_getElem? (i := 154) rfl), List.forall_mem_cons.mpr ⟨mm_r2 _ (List.mem_of_getElem? (i := 163) rfl), fun _ h => absurd h List.not_mem_nil⟩⟩⟩⟩⟩⟩
theorem sb_weak {s s' : State} {L : List Loc} {cells slots : Nat} (h : s.sameButNew s' L cells slots) (hL : ∀ q ∈ L, s.heap.size ≤ q.base) : s.sameButNew s' [] cells slots := by
  refine ⟨h.1, h.2.1, h.2.2.1, h.2.2.2.1, h.2.2.2.2.1, fun a c hc => ?_⟩
  obtain ⟨c', h1, h2, h3, h4⟩ := h.2.2.2.2.2 a c hc
  have hlt := (Array.getElem?_eq_some_iff.mp hc).1
  refine ⟨c', h1, h2, h3, fun i _ => h4 i (fun h9 => ?_)⟩
  have h5 : s.heap.size ≤ a := hL _ h9
  omega
theorem lw_env {args : Array Value} {s : State} {b L : Nat} {xs : Nat → Int32} (hts : ∀ w ∈ lw_tbl, w.before args s = true) (hX : va_X b L xs s s.heap) (hbl : b < s.heap.size) (hgv : (Jvm.Cond.and given_1 narrow_1).before args s = true) : ∃ D : va_G, mm_env (L, xs) D (fun q => s.heap.size ≤ q) b s := by
  have hts' : ∀ w ∈ mm_tbl, w.before args s = true := fun w hw => hts w (List.mem_filter.mp hw).1
  have hs := flat_of_before _ hgv
  have H : ∀ c : Nat, ∃ (cC : ClassId) (iS : Nat → Nat), ∀ q : vw_C, mm_cl[c]? = some q → u_Kn s q.1 q.2.1 q.2.2 cC iS := by
    intro c
    cases hq : mm_cl[c]? with
    | none => exact ⟨(0 : Nat), fun _ => 0, fun q h => absurd h (by simp)⟩
    | some q =>
      obtain ⟨C, T, N⟩ := q
      obtain ⟨-, -, -, h4, h5, -⟩ := mm_cl_ok c C T N hq
      obtain ⟨cC, iS, h⟩ := u_known (ws := mm_tbl) hts' h4 (hts' _ h5)
      exact ⟨cC, iS, fun q hq' => by cases hq'; exact h⟩
  have hcls : ∃ cur, s.vm.findClass "LambdaBench" = some cur := by
    obtain ⟨cC, iS, h⟩ := H 7
    exact ⟨_, (h _ rfl).2.1⟩
  obtain ⟨cur, hcur⟩ := hcls
  have hA : ∀ a : Nat, a < s.heap.size → ¬ s.heap.size ≤ a := fun a h1 h2 => by omega
  have mst : ∀ q ∈ mm_st, q.1 = "LambdaBench" := by decide
  refine ⟨(fun c => (H c).choose, fun c => (H c).choose_spec.choose), ⟨fun c q hq => (H c).choose_spec.choose_spec q hq, fun k q hk => absurd hk (by simp)⟩, va_AO.of (hts _ (mm_r1 _ (List.mem_of_getElem? (i := 27) rfl))), ?_, ?_, fun q hq => ?_, fun q hq => va_Nw.of rfl (hts _ (mm_nww q hq)), fun q hq => va_Nw.of rfl (hts _ (mm_caw q hq)), ?_, fun y hy => va_Nw.of rfl (hts _ (mm_dew y hy)), hX, hbl, hA b hbl⟩
  · exact vx_Zqof (hts _ (mm_r1 _ (List.mem_of_getElem? (i := 231) rfl))) (hts _ (mm_r1 _ (List.mem_of_getElem? (i := 10) rfl))) (hs (Cond.isRef (.static "java/lang/Throwable" "UNASSIGNED_STACK" "[Ljava/lang/StackTraceElement;")) (by decide +kernel)) hA
  · exact vx_Zqof (hts _ (mm_r1 _ (List.mem_of_getElem? (i := 233) rfl))) (hts _ (mm_r1 _ (List.mem_of_getElem? (i := 10) rfl))) (hs (Cond.isRef (.static "java/lang/Throwable" "SUPPRESSED_SENTINEL" "Ljava/util/List;")) (by decide +kernel)) hA
  · have h1 := hts _ (mm_stw q hq)
    obtain ⟨-, -, -, a, -, -, -, -, -, hev⟩ := Cond.stringRef_spec (by rw [mst q hq]; exact hcur) h1
    exact ⟨a, vk_R.of h1 hev⟩
  · refine List.forall_mem_cons.mpr ⟨va_Nc.of (hs (Cond.not (.castable "java/lang/IllegalStateException" "java/lang/IllegalArgumentException")) (by decide +kernel)), List.forall_mem_cons.mpr ⟨va_Nc.of (hs (Cond.not (.castable "java/lang/IndexOutOfBoundsException" "java/lang/IllegalArgumentException")) (by decide +kernel)), fun _ h => absurd h List.not_mem_nil⟩⟩
def lw_P (b : Addr) (xs : List Int32) (args : Array Value) (s : State) : Prop := args = #[.ref b] ∧ s.IntsAt b xs ∧ xs.length ≤ 2048 ∧ (Jvm.Cond.and given_1 narrow_1).before args s = true
def lw_Q (_ : Array Value) (s : State) (o : Outcome) (t : State) : Prop := o = .returned (some (.int 1)) ∧ Framed s o t [] 601024 7293034
def lw_Z (below : List Frame) (a : Array Value) (s : State) : State → Prop := fun t => ∃ o, t.status = .running ∧ Ended t below o ∧ lw_Q a s o t
theorem whole_start {p : Program} {e : Env} {s : State} {m : MethodId} {below : List Frame} {meth : Method} {c : Code} {l : Launch} {b L : Nat} {xs : Nat → Int32} {D : va_G} (hlt : l.stackTraces = false) (hL : L ≤ 2048) (hC : mm_Cx (L, xs) Y_La_law D (fun q => s.heap.size ≤ q) b p s m #[Value.ref b] meth c) : W p l e room_1 s m #[Value.ref b] below meth c s.heap [] 0 0 (lw_Z below #[Value.ref b] s) (entryFrame m ([Value.ref b] : List Value).toArray 7) := by
  have hg := lw_main (l := l) (sc := (L, xs)) (Q := fun o _ => o = .inl (some (.int (nI 1)))) hlt hL (fun _ => rfl) k_La_law p e s m #[Value.ref b] below meth c D (fun q => s.heap.size ≤ q) b [] [] hC (mm_e.rf []) [] s.heap [] _ [] ⟨⟨rfl, rfl, fun i e h => absurd h (by simp)⟩, fun k q h => absurd h (by simp), ⟨fun i j p q h => absurd h (by simp), fun k q h => absurd h (by simp)⟩⟩ va_S.rf (mm_entry (nL := 7) (vs := [.retAddr 0]) (us := [.ref b]) ⟨_, _, rfl, rfl, rfl⟩ (by decide)) rfl
  rw [lg_entry_eq]
  intro T hT X
  obtain ⟨t, a1, o, b1, b2, b3⟩ := hg T hT X
  refine ⟨t, a1, o, b1, b2, ?_⟩
  rcases b3 with ⟨⟨v, w, M1, al1, ws1, d1, d2, d3, d4, d5, d6⟩, L9, d7, d8⟩ | ⟨q, c1, E, ce, L9, ⟨j, M1, al1, ws1, f1, f2, f3⟩, c2⟩
  · have hv : v = some (.int (nI 1)) := by
      have d9 : (Sum.inl v : mm_O) = .inl (some (.int (nI 1))) := d3
      injection d9
    subst hv
    obtain ⟨y, hy, hy2⟩ := d2
    have hy2 : y = .int (nI 1) := hy2
    subst hy2
    subst hy
    subst d1
    exact ⟨rfl, ⟨_, rfl⟩, d7.2.1, sb_weak d7.2.2 d8⟩
  · have f9 : (Sum.inr j : mm_O) = .inl (some (.int (nI 1))) := f2
    cases f9
set_option maxHeartbeats 4000000 in
theorem lw_walk (l : Launch) (hlt : l.stackTraces = false) (b : Addr) (xs : List Int32) : MetFree l x (headSpec (Jvm.Cond.code x code maxLocals ret :: tables_1) room_1) (lw_P b xs) (fun _ _ _ _ _ => True) lw_Q := by
  refine MetFree.of_bodyS (code := code) (maxLocals := maxLocals) (ret := ret) (by decide) ?_ ?_
  · intro args s m h hn
    obtain ⟨meth, c, h1, h2, h3, h4, h5, h6, -, -⟩ := Cond.code_spec hn (atoms_spec (ws := Jvm.Cond.code x code maxLocals ret :: tables_1) h _ List.mem_cons_self)
    exact ⟨meth, c, h1, h2, h3, h4, h5, h6⟩
  · intro p e s m args below meth c s₁ B hml0 hP _
    obtain ⟨rfl, hx, hbd, hgv⟩ := hP
    obtain ⟨scr, harrAt, hlist, hof, hsmall⟩ := hx
    obtain ⟨hcb, hkn, -, -⟩ := State.arrayAt?_spec harrAt
    have hts0 : ∀ c ∈ (Jvm.Cond.code x code maxLocals ret :: tables_1), c.before #[Value.ref b] s = true := atoms_spec (ws := Jvm.Cond.code x code maxLocals ret :: tables_1) B.pre
    have hts : ∀ w ∈ lw_tbl, w.before #[Value.ref b] s = true := k2_hts_sels lw_privs (fun w hw => hts0 w (List.mem_cons_of_mem _ hw)) lw_privs_ok
    have hml : c.maxLocals = 7 := B.maxLocals_eq (hts0 _ List.mem_cons_self)
    have X₀ : Stand p l e room_1 s m #[Value.ref b] below meth c s₁ [] 0 0 := Stand.of_body B
    have hh0 : s₁.heap = s.heap := by rw [B.state]; rfl
    have htab : c.exceptionTable.toList = tableOf (mm_hh Y_La_law) := by
      obtain ⟨meth9, c9, h1, h2, -, -, -, -, h7, -⟩ := Cond.code_spec B.named (hts0 _ List.mem_cons_self)
      cases Option.some.inj (h1.symm.trans B.method)
      cases Option.some.inj (h2.symm.trans (Stand.of_body B).code)
      rw [Array.isEmpty_iff.mp h7]
      rfl
    have hsz : scr.slots.size = xs.length := by rw [← Array.length_toList, hlist, List.length_map]
    have hval : ∀ j : Nat, j < xs.length → scr.slots[j]? = some (.int (xs.getD j 0)) := fun j hj => by
      rw [← Array.getElem?_toList, hlist]
      simp [hj]
    have hbl : b < s.heap.size := (Array.getElem?_eq_some_iff.mp hcb).1
    have hX : va_X b xs.length (fun j => xs.getD j 0) s s.heap := ⟨scr, hcb, hof, hkn, hsz, hval⟩
    obtain ⟨D, henv⟩ := lw_env hts hX hbl hgv
    have hC : mm_Cx (xs.length, fun j => xs.getD j 0) Y_La_law D (fun q => s.heap.size ≤ q) b p s m #[Value.ref b] meth c := ⟨B.exec, B.bytes, hml, B.returns, B.notSynchronized, (name_of_methodNamed B.named B.method).1, findClass_of_methodNamed B.named, fun w hw => hts w (List.mem_filter.mp hw).1, htab, henv, fun q hq => hq⟩
    have K : W p l e room_1 s m #[Value.ref b] below meth c s₁.heap [] 0 0 (lw_Z below #[Value.ref b] s) (entryFrame m ([Value.ref b] : List Value).toArray 7) := by
      rw [hh0]
      exact whole_start hlt hbd hC
    obtain ⟨t, a1, o, b1, b2, b3⟩ := K s₁ rfl X₀
    exact ⟨t, o, a1, b1, b2, b3⟩
theorem lw_pre_spec {args : Array Value} {s : State} (h : (Jvm.Cond.and given_1 narrow_1).before args s = true) (hr : rest_1_c.before args s = true) : ∃ (b : Addr) (xs : List Int32), lw_P b xs args s := by
  have hs := flat_of_before _ h
  have hq := flat_of_before _ hr
  have hc : (Cond.count 1).before args s = true := hs _ (by decide +kernel)
  have harr : (Cond.arrayOf (.arg 0) .int).before args s = true := hs _ (by decide +kernel)
  have hle : (Cond.le (.length (.arg 0)) (.int 2048)).before args s = true := hs _ (by decide +kernel)
  have hlen : (Cond.isInt (.length (.arg 0))).before args s = true := hq _ (by decide +kernel)
  have hall : (Cond.all (.arg 0) (.isInt (.elem (.arg 0) (.index 0)))).before args s = true := hq _ (by decide +kernel)
  obtain ⟨b, xs, hb, hx⟩ := State.ints_of_pre rfl harr hlen hall
  have hsm : xs.length < 2 ^ 31 := hx.choose_spec.2.2.2
  have hev : (Term.length (.arg 0)).eval args s none [] s = some (.int xs.length.toInt32) := hx.length_eval hb
  have hv := Cond.le_ints hev (show (Term.int 2048).eval args s none [] s = some (.int 2048) from rfl)
  have hd : xs.length.toInt32 ≤ 2048 := by
    simpa [Cond.before, Cond.holds, hv] using hle
  have hN : xs.length ≤ 2048 := (Int32.ofNat_le_ofNat hsm (by decide)).mp (show Int32.ofNat xs.length ≤ Int32.ofNat 2048 from hd)
  exact ⟨b, xs, Cond.one_arg hc (show args[0]? = some (.ref b) from hb), hx, hN, h⟩
theorem lw_comes (l : Launch) (hlt : l.stackTraces = false) : Comes l x (Jvm.Cond.code x code maxLocals ret :: tables_1) room_1 (fun tb e args s => Calls_1 tb e args s ∧ rest_1 tb e args s ∧ Pre_1 tb e args s)
    (fun _ _ args s o t => lw_Q args s o t) := by
  intro p e ha hc hk s m args below hf hfit hheap happ hpre
  obtain ⟨b, xs, hP⟩ := lw_pre_spec hpre.2.2 hpre.2.1
  obtain ⟨k, o, h1, h2, h3, hQ⟩ := lw_walk l hlt b xs p e ha hc hk s m args below hf ((Spec.applies_iff_loose hf).mp happ).1 hP trivial
  exact ⟨k, o, h1, h2, h3, hQ⟩
theorem lw_frame {s t : State} {o : Outcome} {args : Array Value} (h : Framed s o t [] 601024 7293034) :
    Framed s o t (fieldLocs frame_1_writes args s ++ arrayLocs frame_1_arrays args s ++ staticLocs frame_1_statics s) 601024 7293034 := h
theorem lw_limb (L : Cond) (hL : ∀ (args : Array Value) (s t : State), L.after args s (.returned (some (.int 1))) t = true) :
    ArmFor flags0 classFile x code maxLocals ret World_1 tables_1 room_1 Calls_1 rest_1 Pre_1
      (fun tb e a s o t => postC L tb e a s o t ∧ Framed s o t (fieldLocs frame_1_writes a s ++ arrayLocs frame_1_arrays a s ++ staticLocs frame_1_statics s) 601024 7293034) := by
  intro l hfl _ _ p e ha hc hk s m args below hf hfit hheap happ hpre
  have hlt : l.stackTraces = false := by
    unfold Launch.stackTraces
    rw [hfl]
    decide +kernel
  obtain ⟨k, o, h1, h2, h3, rfl, hF⟩ := lw_comes l hlt p e ha hc hk s m args below hf hfit hheap happ hpre
  exact ⟨k, _, h1, h2, h3, hL args s _, lw_frame hF⟩
theorem i_vc : Claimed_1_1 ∧ Claimed_1_2 := ⟨lw_limb limb_1_1 (fun args s t => by simp [limb_1_1, Cond.after, Cond.holds, Cond.value]), lw_limb limb_1_2 (fun args s t => Cond.after_iff.mpr (by
  first | (rw [show limb_1_2 = Cond.eq .result (.int 1) from rfl, Cond.eq_ints (x := 1) (y := 1) rfl rfl]; simp; done) | (simp [limb_1_2, Cond.value, Term.eval]; done)))⟩
