/-! The small machine: its instructions, runs of them, and that they are the machine's. -/
abbrev mm_nam (Y : mm_Y) : MethodName := Y.1.1
abbrev mm_cn (Y : mm_Y) : Nat := Y.1.2
abbrev mm_cod (Y : mm_Y) : ByteArray := Y.2.1
abbrev mm_nL (Y : mm_Y) : Nat := Y.2.2.1
abbrev mm_ret (Y : mm_Y) : Option FieldType := Y.2.2.2.1
abbrev mm_hh (Y : mm_Y) : List (Nat × Nat × Nat × Nat) := Y.2.2.2.2.1
abbrev mm_rm (Y : mm_Y) : Room := Y.2.2.2.2.2.1
abbrev mm_tab (Y : mm_Y) : List (Nat × mm_In) := Y.2.2.2.2.2.2
def mm_at : List (Nat × mm_In) → Nat → Option mm_In
  | [], _ => none
  | q :: t, pc => match Nat.beq q.1 pc with
    | true => some q.2
    | false => mm_at t pc
theorem mm_at_mem : ∀ {t : List (Nat × mm_In)} {pc : Nat} {q : mm_In}, mm_at t pc = some q → (pc, q) ∈ t := by
  intro t
  induction t with
  | nil => intro pc q h; cases h
  | cons x t ih =>
    intro pc q h
    unfold mm_at at h
    split at h
    · next hb =>
      cases h
      have e : x.1 = pc := Nat.eq_of_beq_eq_true hb
      subst e
      exact List.mem_cons_self
    · exact List.mem_cons_of_mem _ (ih h)
def mm_len : Instr → Nat
  | .bipush _ => 2
  | .sipush _ => 3
  | .iload _ => 2
  | .aload _ => 2
  | .lload _ => 2
  | .istore _ => 2
  | .astore _ => 2
  | .iinc _ _ => 3
  | .goto _ => 3
  | .if_icmp _ _ => 3
  | .ifCond _ _ => 3
  | .if_acmp _ _ => 3
  | .getfield _ => 3
  | .putfield _ => 3
  | .invokevirtual _ => 3
  | .invokestatic _ => 3
  | .invokespecial _ => 3
  | .new _ => 3
  | .newarray _ => 2
  | .anewarray _ => 3
  | .ldc _ => 2
  | .ldc2_w _ => 3
  | _ => 1
def mm_fok (cn ix j : Nat) : Bool := match mm_fu[j]? with
  | some f => decide (f.1 = cn) && decide (f.2.1 = ix)
  | none => false
def mm_pok (ini : Bool) (cn j : Nat) : Bool := match mm_fu[j]? with
  | some f => !(mm_fin f.2.2.1 f.2.2.2) || (ini && decide (cn = f.2.2.1))
  | none => false
/-- what a row of a method's table must keep -/
def mm_ok (cn nL : Nat) (ini : Bool) (q : Nat × mm_In) : Bool := match q.2.1 with
  | .iconst n => decide (Int32.ofInt n = q.2.2.2.2) && decide (q.2.2.1 = q.1 + 1)
  | .bipush n => decide ((Int8.ofInt n).toInt32 = q.2.2.2.2) && decide (q.2.2.1 = q.1 + 2)
  | .sipush n => decide ((Int16.ofInt n).toInt32 = q.2.2.2.2) && decide (q.2.2.1 = q.1 + 3)
  | .iinc _ n => decide (Int32.ofInt n = q.2.2.2.2) && decide (q.2.2.1 = q.1 + 3)
  | .goto off => decide ((q.1 : Int) + off = (q.2.2.1 : Int))
  | .if_icmp _ off => decide ((q.1 : Int) + off = (q.2.2.2.1 : Int)) && decide (q.2.2.1 = q.1 + 3)
  | .ifCond _ off => decide ((q.1 : Int) + off = (q.2.2.2.1 : Int)) && decide (q.2.2.1 = q.1 + 3)
  | .if_acmp _ off => decide ((q.1 : Int) + off = (q.2.2.2.1 : Int)) && decide (q.2.2.1 = q.1 + 3)
  | .getfield ix => mm_fok cn ix q.2.2.2.1 && decide (q.2.2.1 = q.1 + 3)
  | .putfield ix => mm_fok cn ix q.2.2.2.1 && mm_pok ini cn q.2.2.2.1 && decide (q.2.2.1 = q.1 + 3)
  | i => decide (q.2.2.1 = q.1 + mm_len i)
def mm_cw (Y : mm_Y) : Cond := match mm_hh Y with
  | [] => .code (mm_nam Y) (mm_cod Y) (mm_nL Y) (mm_ret Y)
  | h :: t => .codeWith (mm_nam Y) (mm_cod Y) (mm_nL Y) (mm_ret Y) (h :: t)
def mm_ws (Y : mm_Y) : List Cond := mm_cw Y :: mm_tbl
/-- a method whose row in the tables is as the code has it -/
def mm_okY (Y : mm_Y) : Prop := (∀ q ∈ mm_tab Y, decode (mm_cod Y) q.1 = .ok (q.2.1, mm_len q.2.1)) ∧ (∀ q ∈ mm_tab Y, mm_ok (mm_cn Y) (mm_nL Y) (decide ((mm_nam Y).name = "<init>")) q = true) ∧ mm_nm (mm_cn Y) = (mm_nam Y).cls ∧ plainName (mm_nam Y).cls = true
/-! instructions that only one way follows -/
def mm_b (f : Int32 → Int32 → Int32) (S : List Value) : Option (List Value) := match S with
  | .int y :: .int x :: R => some (.int (f x y) :: R)
  | _ => none
theorem mm_b_inv {f : Int32 → Int32 → Int32} {S S' : List Value} (h : mm_b f S = some S') : ∃ x y R, S = .int y :: .int x :: R ∧ S' = .int (f x y) :: R := by
  unfold mm_b at h
  split at h
  · cases h; exact ⟨_, _, _, rfl, rfl⟩
  · cases h
def mm_bl (f : Int64 → Int64 → Int64) (S : List Value) : Option (List Value) := match S with
  | .long y :: .long x :: R => some (.long (f x y) :: R)
  | _ => none
theorem mm_bl_inv {f : Int64 → Int64 → Int64} {S S' : List Value} (h : mm_bl f S = some S') : ∃ x y R, S = .long y :: .long x :: R ∧ S' = .long (f x y) :: R := by
  unfold mm_bl at h
  split at h
  · cases h; exact ⟨_, _, _, rfl, rfl⟩
  · cases h
def mm_sh (f : Int64 → Int32 → Int64) (S : List Value) : Option (List Value) := match S with
  | .int y :: .long x :: R => some (.long (f x y) :: R)
  | _ => none
theorem mm_sh_inv {f : Int64 → Int32 → Int64} {S S' : List Value} (h : mm_sh f S = some S') : ∃ x y R, S = .int y :: .long x :: R ∧ S' = .long (f x y) :: R := by
  unfold mm_sh at h
  split at h
  · cases h; exact ⟨_, _, _, rfl, rfl⟩
  · cases h
def mm_l2i (S : List Value) : Option (List Value) := match S with
  | .long x :: R => some (.int x.toInt32 :: R)
  | _ => none
def mm_i2l (S : List Value) : Option (List Value) := match S with
  | .int x :: R => some (.long x.toInt64 :: R)
  | _ => none
def mm_lc (S : List Value) : Option (List Value) := match S with
  | .long y :: .long x :: R => some (.int (lg_cmp x y) :: R)
  | _ => none
def mm_dup (S : List Value) : Option (List Value) := match S with
  | v :: R => if v.category = 1 then some (v :: v :: R) else none
  | _ => none
def mm_dup2 (S : List Value) : Option (List Value) := match S with
  | v :: u :: R => if v.category = 1 then if u.category = 1 then some (v :: u :: v :: u :: R) else none else none
  | _ => none
def mm_pop (S : List Value) : Option (List Value) := match S with
  | v :: R => if v.category = 1 then some R else none
  | _ => none
def mm_ldi (L : mm_L) (S : List Value) (i : Nat) : Option (List Value) := match mm_get L i with
  | some (.int x) => some (.int x :: S)
  | _ => none
def mm_ldl (L : mm_L) (S : List Value) (i : Nat) : Option (List Value) := match mm_get L i with
  | some (.long x) => some (.long x :: S)
  | _ => none
def mm_lda (L : mm_L) (S : List Value) (i : Nat) : Option (List Value) := match mm_get L i with
  | some v => match mm_isR v with
    | true => some (v :: S)
    | false => none
  | none => none
def mm_sti (L : mm_L) (S : List Value) (i : Nat) : Option (mm_L × List Value) := match S with
  | .int x :: R => match mm_set L i (.int x) with
    | some L' => some (L', R)
    | none => none
  | _ => none
def mm_sta (L : mm_L) (S : List Value) (i : Nat) : Option (mm_L × List Value) := match S with
  | v :: R => match mm_isR v with
    | true => match mm_set L i v with
      | some L' => some (L', R)
      | none => none
    | false => none
  | _ => none
def mm_inc (L : mm_L) (i : Nat) (z : Int32) : Option mm_L := match mm_get L i with
  | some (.int x) => mm_set L i (.int (x + z))
  | _ => none
def mm_ob (M : mm_M) (a ci : Nat) : Option (List Value) := match M[a]? with
  | some (.inr o) => match Nat.beq o.1 ci with
    | true => some o.2
    | false => none
  | _ => none
theorem mm_ob_inv {M : mm_M} {a ci : Nat} {fs : List Value} (h : mm_ob M a ci = some fs) : M[a]? = some (.inr (ci, fs)) := by
  unfold mm_ob at h
  split at h
  · next o ho =>
    split at h
    · next hb =>
      cases h
      rw [ho, ← Nat.eq_of_beq_eq_true hb]
    · cases h
  · cases h
def mm_gf (M : mm_M) (S : List Value) (j : Nat) : Option (List Value) := match S with
  | .ref a :: R => match mm_fu[j]? with
    | some f => match mm_ob M a f.2.2.1 with
      | some fs => match fs[f.2.2.2]? with
        | some v => some (v :: R)
        | none => none
      | none => none
    | none => none
  | _ => none
theorem mm_gf_inv {M : mm_M} {S S' : List Value} {j : Nat} (h : mm_gf M S j = some S') : ∃ (a : Nat) (R : List Value) (f : Nat × Nat × Nat × Nat) (fs : List Value) (v : Value), S = .ref a :: R ∧ mm_fu[j]? = some f ∧ M[a]? = some (.inr (f.2.2.1, fs)) ∧ fs[f.2.2.2]? = some v ∧ S' = v :: R := by
  unfold mm_gf at h
  split at h
  · next a R =>
    split at h
    · next f hf =>
      split at h
      · next fs hfs =>
        split at h
        · next v hv => cases h; exact ⟨a, R, f, fs, v, rfl, hf, mm_ob_inv hfs, hv, rfl⟩
        · cases h
      · cases h
    · cases h
  · cases h
def mm_fit (ty : FieldType) (v : Value) : Bool := match ty with
  | .int => match v with
    | .int _ => true
    | _ => false
  | .boolean => match v with
    | .int x => decide (x = nI 0) || decide (x = nI 1)
    | _ => false
  | .object _ => match v with
    | .ref _ => true
    | _ => false
  | .array _ => match v with
    | .ref _ => true
    | _ => false
  | _ => false
theorem mm_fit_ok {al : List Nat} {sa : Nat} {ty : FieldType} {v w : Value} (h : mm_fit ty v = true) (hv : mm_v al sa v w) : narrow ty w = w ∧ fits ty w = true := by
  unfold mm_fit at h
  split at h
  · split at h
    · next x => have h' : w = .int x := hv
                rw [h']; exact ⟨rfl, rfl⟩
    · cases h
  · split at h
    · next x =>
      have h' : w = .int x := hv
      rw [h']
      simp only [Bool.or_eq_true, decide_eq_true_eq] at h
      rcases h with h | h
      · rw [h]; decide +kernel
      · rw [h]; decide +kernel
    · cases h
  · split at h
    · next x => obtain ⟨a, -, h'⟩ := hv
                rw [h']; exact ⟨rfl, rfl⟩
    · cases h
  · split at h
    · next x => obtain ⟨a, -, h'⟩ := hv
                rw [h']; exact ⟨rfl, rfl⟩
    · cases h
  · cases h
def mm_pf (M : mm_M) (S : List Value) (j : Nat) : Option (mm_M × List Value) := match S with
  | v :: .ref a :: R => match mm_fu[j]? with
    | some f => match mm_ob M a f.2.2.1 with
      | some fs => match Nat.blt f.2.2.2 fs.length with
        | true => match mm_fit (mm_tf f.2.2.1 f.2.2.2) v with
          | true => some (M.set a (.inr (f.2.2.1, fs.set f.2.2.2 v)), R)
          | false => none
        | false => none
      | none => none
    | none => none
  | _ => none
theorem mm_pf_inv {M M' : mm_M} {S S' : List Value} {j : Nat} (h : mm_pf M S j = some (M', S')) : ∃ (v : Value) (a : Nat) (f : Nat × Nat × Nat × Nat) (fs : List Value), S = v :: .ref a :: S' ∧ mm_fu[j]? = some f ∧ M[a]? = some (.inr (f.2.2.1, fs)) ∧ f.2.2.2 < fs.length ∧ mm_fit (mm_tf f.2.2.1 f.2.2.2) v = true ∧ M' = M.set a (.inr (f.2.2.1, fs.set f.2.2.2 v)) := by
  unfold mm_pf at h
  split at h
  · next v a R =>
    split at h
    · next f hf =>
      split at h
      · next fs hfs =>
        split at h
        · next hlt =>
          split at h
          · next hfit => cases h; exact ⟨v, a, f, fs, rfl, hf, mm_ob_inv hfs, Nat.blt_eq.mp hlt, hfit, rfl⟩
          · cases h
        · cases h
      · cases h
    · cases h
  · cases h
def mm_s (M : mm_M) (L : mm_L) (o : Option (List Value)) : Option (mm_M × mm_L × List Value) := match o with
  | some S => some (M, L, S)
  | none => none
theorem mm_s_inv {M M' : mm_M} {L L' : mm_L} {o : Option (List Value)} {S' : List Value} (h : mm_s M L o = some (M', L', S')) : M' = M ∧ L' = L ∧ o = some S' := by
  unfold mm_s at h
  split at h
  · cases h; exact ⟨rfl, rfl, rfl⟩
  · cases h
def mm_t (M : mm_M) (o : Option (mm_L × List Value)) : Option (mm_M × mm_L × List Value) := match o with
  | some (L, S) => some (M, L, S)
  | none => none
theorem mm_t_inv {M M' : mm_M} {L' : mm_L} {o : Option (mm_L × List Value)} {S' : List Value} (h : mm_t M o = some (M', L', S')) : M' = M ∧ o = some (L', S') := by
  unfold mm_t at h
  split at h
  · cases h; exact ⟨rfl, rfl⟩
  · cases h
def mm_x (q : mm_In) (M : mm_M) (L : mm_L) (S : List Value) : Option (mm_M × mm_L × List Value) := match q.1 with
  | .iconst _ => some (M, L, .int q.2.2.2 :: S)
  | .bipush _ => some (M, L, .int q.2.2.2 :: S)
  | .sipush _ => some (M, L, .int q.2.2.2 :: S)
  | .lconst n => some (M, L, .long (Int64.ofNat n.val) :: S)
  | .iload_n i => mm_s M L (mm_ldi L S i.val)
  | .iload i => mm_s M L (mm_ldi L S i)
  | .lload_n i => mm_s M L (mm_ldl L S i.val)
  | .aload_n i => mm_s M L (mm_lda L S i.val)
  | .aload i => mm_s M L (mm_lda L S i)
  | .istore_n i => mm_t M (mm_sti L S i.val)
  | .istore i => mm_t M (mm_sti L S i)
  | .astore_n i => mm_t M (mm_sta L S i.val)
  | .astore i => mm_t M (mm_sta L S i)
  | .iinc i _ => match mm_inc L i q.2.2.2 with
    | some L' => some (M, L', S)
    | none => none
  | .iadd => mm_s M L (mm_b (fun x y => x + y) S)
  | .isub => mm_s M L (mm_b (fun x y => x - y) S)
  | .imul => mm_s M L (mm_b (fun x y => x * y) S)
  | .iand => mm_s M L (mm_b (fun x y => x &&& y) S)
  | .land => mm_s M L (mm_bl (fun x y => x &&& y) S)
  | .lor => mm_s M L (mm_bl (fun x y => x ||| y) S)
  | .lshl => mm_s M L (mm_sh (fun x y => x <<< (y.toInt64 &&& 63)) S)
  | .lshr => mm_s M L (mm_sh (fun x y => x >>> (y.toInt64 &&& 63)) S)
  | .lushr => mm_s M L (mm_sh (fun x y => (x.toUInt64 >>> (y.toInt64.toUInt64 &&& Int64.toUInt64 63)).toInt64) S)
  | .l2i => mm_s M L (mm_l2i S)
  | .i2l => mm_s M L (mm_i2l S)
  | .lcmp => mm_s M L (mm_lc S)
  | .dup => mm_s M L (mm_dup S)
  | .dup2 => mm_s M L (mm_dup2 S)
  | .pop => mm_s M L (mm_pop S)
  | .goto _ => some (M, L, S)
  | .getfield _ => mm_s M L (mm_gf M S q.2.2.1)
  | .putfield _ => match mm_pf M S q.2.2.1 with
    | some (M', S') => some (M', L, S')
    | none => none
  | _ => none
def mm_run : Nat → List (Nat × mm_In) → Nat → mm_M → mm_L → List Value → Option (Nat × mm_M × mm_L × List Value)
  | 0, _, pc, M, L, S => some (pc, M, L, S)
  | n + 1, t, pc, M, L, S => match mm_at t pc with
    | none => none
    | some q => match mm_x q M L S with
      | none => none
      | some (M', L', S') => mm_run n t q.2.1 M' L' S'
