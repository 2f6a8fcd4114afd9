/-! The small machine's values, cells, locals, and how they stand for the machine's. An address there is a place in the list of cells; retAddr 0 is the script's array, retAddr 1 what was caught. -/
abbrev mm_In : Type := Instr × Nat × Nat × Int32
abbrev mm_Y : Type := (MethodName × Nat) × ByteArray × Nat × Option FieldType × List (Nat × Nat × Nat × Nat) × Room × List (Nat × mm_In)
abbrev mm_O : Type := Option Value ⊕ Nat
abbrev mm_M : Type := List va_E
abbrev mm_L : Type := List (Option Value)
def mm_v (al : List Nat) (sa : Nat) (v w : Value) : Prop := match v with
  | .ref i => ∃ a, al[i]? = some a ∧ w = .ref a
  | .retAddr 0 => w = .ref sa
  | .retAddr (_ + 1) => ∃ a, w = .ref a
  | .int x => w = .int x
  | .long x => w = .long x
  | .float x => w = .float x
  | .double x => w = .double x
  | .null => w = .null
def mm_e (al al' : List Nat) : Prop := ∀ (i a : Nat), al[i]? = some a → al'[i]? = some a
theorem mm_e.rf (al : List Nat) : mm_e al al := fun _ _ h => h
theorem mm_e.tr {a b c : List Nat} (h1 : mm_e a b) (h2 : mm_e b c) : mm_e a c := fun i x h => h2 i x (h1 i x h)
theorem mm_e.push (al : List Nat) (q : Nat) : mm_e al (al ++ [q]) := fun i a h => by
  rw [List.getElem?_append_left (List.getElem?_eq_some_iff.mp h).1]; exact h
theorem mm_v.mono {al al' : List Nat} {sa : Nat} {v w : Value} (h : mm_e al al') (hv : mm_v al sa v w) : mm_v al' sa v w := by
  cases v with
  | ref i => obtain ⟨a, h1, h2⟩ := hv; exact ⟨a, h i a h1, h2⟩
  | retAddr n => cases n with
    | zero => exact hv
    | succ n => exact hv
  | int x => exact hv
  | long x => exact hv
  | float x => exact hv
  | double x => exact hv
  | null => exact hv
theorem mm_v.cat {al : List Nat} {sa : Nat} {v w : Value} (h : mm_v al sa v w) : w.category = v.category := by
  cases v with
  | ref i => obtain ⟨a, -, rfl⟩ := h; rfl
  | retAddr n => cases n with
    | zero => have h' : w = .ref sa := h
              rw [h']; rfl
    | succ n => obtain ⟨a, rfl⟩ := h; rfl
  | int x => have h' : w = .int x := h
             rw [h']
  | long x => have h' : w = .long x := h
              rw [h']
  | float x => have h' : w = .float x := h
               rw [h']
  | double x => have h' : w = .double x := h
                rw [h']
  | null => have h' : w = .null := h
            rw [h']
/-- a reference, whichever of the three kinds -/
def mm_isR : Value → Bool
  | .ref _ => true
  | .retAddr _ => true
  | _ => false
theorem mm_v.isR {al : List Nat} {sa : Nat} {v w : Value} (h : mm_v al sa v w) (hr : mm_isR v = true) : ∃ a, w = .ref a := by
  cases v with
  | ref i => obtain ⟨a, -, h2⟩ := h; exact ⟨a, h2⟩
  | retAddr n => cases n with
    | zero => exact ⟨sa, h⟩
    | succ n => exact h
  | int x => cases hr
  | long x => cases hr
  | float x => cases hr
  | double x => cases hr
  | null => cases hr
def mm_l (al : List Nat) (sa : Nat) : List Value → List Value → Prop
  | [], ws => ws = []
  | v :: vs, ws => ∃ w ws', ws = w :: ws' ∧ mm_v al sa v w ∧ mm_l al sa vs ws'
theorem mm_l.mono {al al' : List Nat} {sa : Nat} (h : mm_e al al') : ∀ {vs ws : List Value}, mm_l al sa vs ws → mm_l al' sa vs ws := by
  intro vs
  induction vs with
  | nil => intro ws hl; exact hl
  | cons v vs ih =>
    intro ws hl
    obtain ⟨w, ws', h1, h2, h3⟩ := hl
    exact ⟨w, ws', h1, h2.mono h, ih h3⟩
theorem mm_l.len {al : List Nat} {sa : Nat} : ∀ {vs ws : List Value}, mm_l al sa vs ws → ws.length = vs.length := by
  intro vs
  induction vs with
  | nil => intro ws hl; have h : ws = [] := hl
           rw [h]
  | cons v vs ih =>
    intro ws hl
    obtain ⟨w, ws', rfl, -, h3⟩ := hl
    simp only [List.length_cons, ih h3]
theorem mm_l.cats {al : List Nat} {sa : Nat} : ∀ {vs ws : List Value}, mm_l al sa vs ws → (ws.map fun v => v.category).sum = (vs.map fun v => v.category).sum := by
  intro vs
  induction vs with
  | nil => intro ws hl; have h : ws = [] := hl
           rw [h]
  | cons v vs ih =>
    intro ws hl
    obtain ⟨w, ws', rfl, h2, h3⟩ := hl
    simp only [List.map_cons, List.sum_cons, ih h3, h2.cat]
theorem mm_l.get {al : List Nat} {sa : Nat} : ∀ {vs ws : List Value} {k : Nat} {v : Value}, mm_l al sa vs ws → vs[k]? = some v → ∃ w, ws[k]? = some w ∧ mm_v al sa v w := by
  intro vs
  induction vs with
  | nil => intro ws k v _ hk; simp at hk
  | cons u vs ih =>
    intro ws k v hl hk
    obtain ⟨w, ws', rfl, h2, h3⟩ := hl
    cases k with
    | zero => simp only [List.getElem?_cons_zero, Option.some.injEq] at hk
              subst hk
              exact ⟨w, rfl, h2⟩
    | succ k => simp only [List.getElem?_cons_succ] at hk ⊢
                exact ih h3 hk
theorem mm_l.put {al : List Nat} {sa : Nat} {v w : Value} (hv : mm_v al sa v w) : ∀ {vs ws : List Value} (k : Nat), mm_l al sa vs ws → mm_l al sa (vs.set k v) (ws.set k w) := by
  intro vs
  induction vs with
  | nil => intro ws k hl; have h : ws = [] := hl
           rw [h]; exact rfl
  | cons u vs ih =>
    intro ws k hl
    obtain ⟨x, ws', rfl, h2, h3⟩ := hl
    cases k with
    | zero => exact ⟨w, ws', rfl, hv, h3⟩
    | succ k => exact ⟨x, ws'.set k w, rfl, h2, ih k h3⟩
theorem mm_l.split {al : List Nat} {sa : Nat} {ys : List Value} : ∀ {xs ws : List Value}, mm_l al sa (xs ++ ys) ws → ∃ w1 w2, ws = w1 ++ w2 ∧ mm_l al sa xs w1 ∧ mm_l al sa ys w2 := by
  intro xs
  induction xs with
  | nil => intro ws h; exact ⟨[], ws, rfl, rfl, h⟩
  | cons x xs ih =>
    intro ws h
    obtain ⟨w, ws', rfl, h2, h3⟩ := h
    obtain ⟨w1, w2, rfl, h4, h5⟩ := ih h3
    exact ⟨w :: w1, w2, rfl, ⟨w, w1, rfl, h2, h4⟩, h5⟩
theorem mm_l.app {al : List Nat} {sa : Nat} {ys w2 : List Value} (hy : mm_l al sa ys w2) : ∀ {xs w1 : List Value}, mm_l al sa xs w1 → mm_l al sa (xs ++ ys) (w1 ++ w2) := by
  intro xs
  induction xs with
  | nil => intro w1 h; have h' : w1 = [] := h
           rw [h']; exact hy
  | cons x xs ih =>
    intro w1 h
    obtain ⟨w, ws', rfl, h2, h3⟩ := h
    exact ⟨w, ws' ++ w2, rfl, h2, ih h3⟩
theorem mm_l.rev {al : List Nat} {sa : Nat} : ∀ {xs ws : List Value}, mm_l al sa xs ws → mm_l al sa xs.reverse ws.reverse := by
  intro xs
  induction xs with
  | nil => intro ws h; have h' : ws = [] := h
           rw [h']; exact rfl
  | cons x xs ih =>
    intro ws h
    obtain ⟨w, ws', rfl, h2, h3⟩ := h
    rw [List.reverse_cons, List.reverse_cons]
    exact mm_l.app (show mm_l al sa [x] [w] from ⟨w, [], rfl, h2, rfl⟩) (ih h3)
/-- the types of the arrays by their tags -/
def mm_ty : Nat → FieldType
  | 0 => .int
  | 1 => .long
  | _ => .object "LambdaBench$Term"
def mm_a (al : List Nat) (x y : (Nat → Int32) ⊕ (Nat → Int64) ⊕ (Nat → UInt32) ⊕ (Nat → UInt64) ⊕ (Nat → Option Nat)) : Prop := match x with
  | .inr (.inr (.inr (.inr f))) => ∃ g : Nat → Option Nat, y = .inr (.inr (.inr (.inr g))) ∧ ∀ k, (f k = none → g k = none) ∧ ∀ i, f k = some i → ∃ a, al[i]? = some a ∧ g k = some a
  | .inl f => y = .inl f
  | .inr (.inl f) => y = .inr (.inl f)
  | .inr (.inr (.inl f)) => y = .inr (.inr (.inl f))
  | .inr (.inr (.inr (.inl f))) => y = .inr (.inr (.inr (.inl f)))
theorem mm_a.mono {al al' : List Nat} {x y : (Nat → Int32) ⊕ (Nat → Int64) ⊕ (Nat → UInt32) ⊕ (Nat → UInt64) ⊕ (Nat → Option Nat)} (h : mm_e al al') (hx : mm_a al x y) : mm_a al' x y := by
  rcases x with f | f | f | f | f
  · exact hx
  · exact hx
  · exact hx
  · exact hx
  · obtain ⟨g, h1, h2⟩ := hx
    exact ⟨g, h1, fun k => ⟨(h2 k).1, fun i hi => by obtain ⟨a, h3, h4⟩ := (h2 k).2 i hi; exact ⟨a, h i a h3, h4⟩⟩⟩
def mm_E (U : State) (al : List Nat) (sa : Nat) (e e' : va_E) : Prop := match e with
  | .inl (t, n, x) => ∃ (c : ClassId) (y : (Nat → Int32) ⊕ (Nat → Int64) ⊕ (Nat → UInt32) ⊕ (Nat → UInt64) ⊕ (Nat → Option Nat)), e' = .inl (c, n, y) ∧ mm_a al x y ∧ ArrOfT U c (mm_ty t) ∧ va_RA U c (mm_ty t)
  | .inr (ci, fs) => ∃ fs' : List Value, e' = .inr (ci, fs') ∧ mm_l al sa fs fs'
theorem mm_E.mono {U : State} {al al' : List Nat} {sa : Nat} {e e' : va_E} (h : mm_e al al') (he : mm_E U al sa e e') : mm_E U al' sa e e' := by
  rcases e with ⟨t, n, x⟩ | ⟨ci, fs⟩
  · obtain ⟨c, y, h1, h2, h3, h4⟩ := he
    exact ⟨c, y, h1, h2.mono h, h3, h4⟩
  · obtain ⟨fs', h1, h2⟩ := he
    exact ⟨fs', h1, h2.mono h⟩
theorem mm_E.moved {u U : State} {al : List Nat} {sa : Nat} {e e' : va_E} (hvm : u.vm.Alike U.vm) (he : mm_E u al sa e e') : mm_E U al sa e e' := by
  rcases e with ⟨t, n, x⟩ | ⟨ci, fs⟩
  · obtain ⟨c, y, h1, h2, h3, h4⟩ := he
    exact ⟨c, y, h1, h2, arrOfT_moved hvm h3, h4.moved hvm⟩
  · exact he
/-- the cells M stand at the addresses al as the world ws -/
def mm_W (U : State) (al : List Nat) (sa : Nat) (M : mm_M) (ws : va_W) : Prop := al.length = M.length ∧ ws.length = M.length ∧ ∀ (i : Nat) (e : va_E), M[i]? = some e → ∃ (a : Nat) (e' : va_E), al[i]? = some a ∧ ws[i]? = some (a, e') ∧ mm_E U al sa e e'
theorem mm_W.moved {u U : State} {al : List Nat} {sa : Nat} {M : mm_M} {ws : va_W} (hvm : u.vm.Alike U.vm) (h : mm_W u al sa M ws) : mm_W U al sa M ws :=
  ⟨h.1, h.2.1, fun i e he => by obtain ⟨a, e', h1, h2, h3⟩ := h.2.2 i e he; exact ⟨a, e', h1, h2, h3.moved hvm⟩⟩
theorem mm_W.lk {U : State} {al : List Nat} {sa : Nat} {M : mm_M} {ws : va_W} (h : mm_W U al sa M ws) {i : Nat} {w : Value} {e : va_E} (hv : mm_v al sa (.ref i) w) (he : M[i]? = some e) : ∃ (a : Nat) (e' : va_E), w = .ref a ∧ al[i]? = some a ∧ ws[i]? = some (a, e') ∧ mm_E U al sa e e' := by
  obtain ⟨a, h1, h2⟩ := hv
  obtain ⟨b, e', h3, h4, h5⟩ := h.2.2 i e he
  cases Option.some.inj (h1.symm.trans h3)
  exact ⟨a, e', h2, h1, h4, h5⟩
theorem mm_W.set {U : State} {al : List Nat} {sa : Nat} {M : mm_M} {ws : va_W} (h : mm_W U al sa M ws) {i a : Nat} {e e' : va_E} (ha : al[i]? = some a) (he : mm_E U al sa e e') : mm_W U al sa (M.set i e) (ws.set i (a, e')) := by
  refine ⟨by rw [List.length_set]; exact h.1, by rw [List.length_set, List.length_set]; exact h.2.1, fun j x hx => ?_⟩
  by_cases hj : i = j
  · subst hj
    have hlt : i < M.length := by
      have := (List.getElem?_eq_some_iff.mp hx).1
      rw [List.length_set] at this
      exact this
    rw [List.getElem?_set_self hlt] at hx
    cases hx
    refine ⟨a, e', ha, ?_, he⟩
    rw [List.getElem?_set_self (by rw [h.2.1]; exact hlt)]
  · rw [List.getElem?_set_ne hj] at hx
    obtain ⟨b, y, h1, h2, h3⟩ := h.2.2 j x hx
    exact ⟨b, y, h1, by rw [List.getElem?_set_ne hj]; exact h2, h3⟩
theorem mm_W.push {U : State} {al : List Nat} {sa : Nat} {M : mm_M} {ws : va_W} (h : mm_W U al sa M ws) {q : Nat} {e e' : va_E} (he : mm_E U (al ++ [q]) sa e e') : mm_W U (al ++ [q]) sa (M ++ [e]) (ws ++ [(q, e')]) := by
  refine ⟨by simp [h.1], by simp [h.2.1], fun j x hx => ?_⟩
  by_cases hj : j < M.length
  · rw [List.getElem?_append_left hj] at hx
    obtain ⟨b, y, h1, h2, h3⟩ := h.2.2 j x hx
    exact ⟨b, y, mm_e.push al q j b h1, by rw [List.getElem?_append_left (by rw [h.2.1]; exact hj)]; exact h2, h3.mono (mm_e.push al q)⟩
  · have hlt : j < (M ++ [e]).length := (List.getElem?_eq_some_iff.mp hx).1
    have hj2 : j = M.length := by simp at hlt; omega
    subst hj2
    rw [List.getElem?_append_right (Nat.le_refl _), Nat.sub_self] at hx
    cases hx
    refine ⟨q, e', ?_, ?_, he⟩
    · rw [← h.1, List.getElem?_append_right (Nat.le_refl _), Nat.sub_self]; rfl
    · rw [← h.2.1, List.getElem?_append_right (Nat.le_refl _), Nat.sub_self]; rfl
/-- locals: what L tells of them -/
def mm_Lr (al : List Nat) (sa nL : Nat) (L : mm_L) (ls : Array Slot) : Prop := L.length = nL ∧ ls.size = nL ∧ lv_wf ls ∧ ∀ (i : Nat) (v : Value), L[i]? = some (some v) → ∃ w, ls[i]? = some (.val w) ∧ mm_v al sa v w
theorem mm_Lr.mono {al al' : List Nat} {sa nL : Nat} {L : mm_L} {ls : Array Slot} (h : mm_e al al') (hl : mm_Lr al sa nL L ls) : mm_Lr al' sa nL L ls :=
  ⟨hl.1, hl.2.1, hl.2.2.1, fun i v hv => by obtain ⟨w, h1, h2⟩ := hl.2.2.2 i v hv; exact ⟨w, h1, h2.mono h⟩⟩
def mm_get (L : mm_L) (i : Nat) : Option Value := match L[i]? with
  | some (some v) => some v
  | _ => none
theorem mm_get_inv {L : mm_L} {i : Nat} {v : Value} (h : mm_get L i = some v) : L[i]? = some (some v) := by
  unfold mm_get at h
  split at h
  · next u hu => cases h; exact hu
  · cases h
def mm_c2 (o : Option (Option Value)) : Bool := match o with
  | some (some (.long _)) => true
  | some (some (.double _)) => true
  | _ => false
/-- a store of one place; not behind a long, whose second half it would take -/
def mm_set (L : mm_L) (i : Nat) (v : Value) : Option mm_L := match L[i]? with
  | none => none
  | some _ => match i with
    | 0 => some (L.set 0 (some v))
    | j + 1 => match mm_c2 L[j]? with
      | true => none
      | false => some (L.set (j + 1) (some v))
theorem mm_set_inv {L L' : mm_L} {i : Nat} {v : Value} (h : mm_set L i v = some L') : i < L.length ∧ L' = L.set i (some v) ∧ ∀ j, j + 1 = i → mm_c2 L[j]? = false := by
  unfold mm_set at h
  split at h
  · cases h
  · next u hu =>
    have hlt : i < L.length := (List.getElem?_eq_some_iff.mp hu).1
    split at h
    · cases h; exact ⟨hlt, rfl, fun j hj => by omega⟩
    · next j =>
      split at h
      · cases h
      · next hc =>
        cases h
        exact ⟨hlt, rfl, fun k hk => by cases (Nat.succ.inj hk); exact hc⟩
def mm_ls (ls : Array Slot) : List (Nat × Value) := (List.range ls.size).filterMap fun (i : Nat) => match (ls[i]? : Option Slot) with
  | some (Slot.val w) => some (i, w)
  | _ => none
theorem mm_ls_mem {ls : Array Slot} {i : Nat} {w : Value} (h : ls[i]? = some (.val w)) : (i, w) ∈ mm_ls ls := by
  refine List.mem_filterMap.mpr ⟨i, List.mem_range.mpr (Array.getElem?_eq_some_iff.mp h).1, ?_⟩
  simp only [h]
theorem mm_ls_has {ls : Array Slot} {nL : Nat} (h1 : ls.size = nL) (h2 : lv_wf ls) : lv_has ls nL (mm_ls ls) := by
  refine ⟨h1, h2, fun q hq => ?_⟩
  obtain ⟨i, -, h⟩ := List.mem_filterMap.mp hq
  split at h
  · next w hw => cases h; exact hw
  · cases h
theorem mm_Lr.set {al : List Nat} {sa nL i : Nat} {L L' : mm_L} {ls ls' : Array Slot} {v w : Value} (h : mm_Lr al sa nL L ls) (hs : mm_set L i v = some L') (hv : mm_v al sa v w)
    (hl : lv_has ls' nL ((i, w) :: (mm_ls ls).filter (fun q => !(q.1 == i) && !(q.1 + 1 == i && q.2.category == 2)))) : mm_Lr al sa nL L' ls' := by
  obtain ⟨hlt, rfl, hc⟩ := mm_set_inv hs
  refine ⟨by rw [List.length_set]; exact h.1, hl.1, hl.2.1, fun j u hj => ?_⟩
  by_cases hij : i = j
  · subst hij
    rw [List.getElem?_set_self hlt] at hj
    cases hj
    exact ⟨w, hl.2.2 (i, w) List.mem_cons_self, hv⟩
  · rw [List.getElem?_set_ne hij] at hj
    obtain ⟨x, h1, h2⟩ := h.2.2.2 j u hj
    refine ⟨x, hl.2.2 (j, x) (List.mem_cons_of_mem _ (List.mem_filter.mpr ⟨mm_ls_mem h1, ?_⟩)), h2⟩
    have e1 : (j == i) = false := by simp; omega
    have e2 : (j + 1 == i && x.category == 2) = false := by
      by_cases hji : j + 1 = i
      · have h3 := hc j hji
        rw [hj] at h3
        have h4 : u.category = 1 := by
          cases u with
          | long y => cases h3
          | double y => cases h3
          | int y => rfl
          | float y => rfl
          | null => rfl
          | ref y => rfl
          | retAddr y => rfl
        rw [h2.cat, h4]; simp
      · simp [hji]
    simp only [e1, e2]; rfl
/-- a method's first locals -/
def mm_args : List Value → List (Option Value)
  | [] => []
  | v :: vs => if v.category = 2 then some v :: none :: mm_args vs else some v :: mm_args vs
theorem mm_args_has {al : List Nat} {sa : Nat} : ∀ {vs us : List Value} (off : Nat), mm_l al sa vs us → ∀ (i : Nat) (v : Value), (mm_args vs)[i]? = some (some v) → ∃ w, (off + i, w) ∈ lv_args off us ∧ mm_v al sa v w := by
  intro vs
  induction vs with
  | nil => intro us off _ i v hv; simp [mm_args] at hv
  | cons u vs ih =>
    intro us off hl i v hv
    obtain ⟨w, ws', rfl, h2, h3⟩ := hl
    have hc := h2.cat
    by_cases h : u.category = 2
    · rw [h] at hc
      simp only [mm_args, if_pos h] at hv
      simp only [lv_args, if_pos hc]
      cases i with
      | zero => simp only [List.getElem?_cons_zero, Option.some.injEq] at hv
                subst hv
                exact ⟨w, List.mem_cons_self, h2⟩
      | succ i => cases i with
        | zero => simp at hv
        | succ i =>
          simp only [List.getElem?_cons_succ] at hv
          obtain ⟨x, h4, h5⟩ := ih (off + 2) h3 i v hv
          exact ⟨x, List.mem_cons_of_mem _ (by rw [show off + (i + 1 + 1) = off + 2 + i by omega]; exact h4), h5⟩
    · have hc' : ¬ w.category = 2 := by rw [hc]; exact h
      simp only [mm_args, if_neg h] at hv
      simp only [lv_args, if_neg hc']
      cases i with
      | zero => simp only [List.getElem?_cons_zero, Option.some.injEq] at hv
                subst hv
                exact ⟨w, List.mem_cons_self, h2⟩
      | succ i =>
        simp only [List.getElem?_cons_succ] at hv
        obtain ⟨x, h4, h5⟩ := ih (off + 1) h3 i v hv
        exact ⟨x, List.mem_cons_of_mem _ (by rw [show off + (i + 1) = off + 1 + i by omega]; exact h4), h5⟩
theorem mm_args_len {al : List Nat} {sa : Nat} : ∀ {vs us : List Value}, mm_l al sa vs us → (lg_sl us).length = (mm_args vs).length := by
  intro vs
  induction vs with
  | nil => intro us hl; have h : us = [] := hl
           rw [h]; rfl
  | cons u vs ih =>
    intro us hl
    obtain ⟨w, ws', rfl, h2, h3⟩ := hl
    have hc := h2.cat
    have h4 := ih h3
    unfold lg_sl at h4 ⊢
    rw [List.flatMap_cons, List.length_append, h4]
    by_cases h : u.category = 2
    · rw [h] at hc
      simp only [mm_args, if_pos h, if_pos hc, List.length_cons, List.length_nil]; omega
    · have hc' : ¬ w.category = 2 := by rw [hc]; exact h
      simp only [mm_args, if_neg h, if_neg hc', List.length_cons, List.length_nil]; omega
def mm_ent (nL : Nat) (vs : List Value) : mm_L := mm_args vs ++ List.replicate (nL - (mm_args vs).length) none
theorem mm_entry {al : List Nat} {sa nL : Nat} {vs us : List Value} (h : mm_l al sa vs us) (hn : (mm_args vs).length ≤ nL) : mm_Lr al sa nL (mm_ent nL vs) ((lg_sl us ++ List.replicate (nL - (lg_sl us).length) Slot.unset).toArray) := by
  have hlen := mm_args_len h
  have he := lv_entry us (n := nL) (by rw [hlen]; exact hn)
  refine ⟨?_, he.1, he.2.1, fun i v hv => ?_⟩
  · unfold mm_ent; rw [List.length_append, List.length_replicate]; omega
  · unfold mm_ent at hv
    by_cases hi : i < (mm_args vs).length
    · rw [List.getElem?_append_left hi] at hv
      obtain ⟨w, h1, h2⟩ := mm_args_has 0 h i v hv
      rw [Nat.zero_add] at h1
      exact ⟨w, he.2.2 (i, w) h1, h2⟩
    · rw [List.getElem?_append_right (Nat.le_of_not_lt hi), List.getElem?_replicate] at hv
      split at hv
      · cases hv
      · cases hv
/-- stacks -/
theorem mm_l.i {al : List Nat} {sa : Nat} {x : Int32} {R st : List Value} (h : mm_l al sa (.int x :: R) st) : ∃ st', st = .int x :: st' ∧ mm_l al sa R st' := by
  obtain ⟨w, ws', h1, h2, h3⟩ := h
  have h2' : w = .int x := h2
  subst h2'
  exact ⟨ws', h1, h3⟩
theorem mm_l.g {al : List Nat} {sa : Nat} {x : Int64} {R st : List Value} (h : mm_l al sa (.long x :: R) st) : ∃ st', st = .long x :: st' ∧ mm_l al sa R st' := by
  obtain ⟨w, ws', h1, h2, h3⟩ := h
  have h2' : w = .long x := h2
  subst h2'
  exact ⟨ws', h1, h3⟩
theorem mm_l.r {al : List Nat} {sa i : Nat} {R st : List Value} (h : mm_l al sa (.ref i :: R) st) : ∃ a st', st = .ref a :: st' ∧ al[i]? = some a ∧ mm_l al sa R st' := by
  obtain ⟨w, ws', h1, ⟨a, h2, rfl⟩, h3⟩ := h
  exact ⟨a, ws', h1, h2, h3⟩
theorem mm_l.pi {al : List Nat} {sa : Nat} {R st : List Value} (x : Int32) (h : mm_l al sa R st) : mm_l al sa (.int x :: R) (.int x :: st) := ⟨_, _, rfl, rfl, h⟩
theorem mm_l.pg {al : List Nat} {sa : Nat} {R st : List Value} (x : Int64) (h : mm_l al sa R st) : mm_l al sa (.long x :: R) (.long x :: st) := ⟨_, _, rfl, rfl, h⟩
theorem mm_l.pv {al : List Nat} {sa : Nat} {R st : List Value} {v w : Value} (hv : mm_v al sa v w) (h : mm_l al sa R st) : mm_l al sa (v :: R) (w :: st) := ⟨_, _, rfl, hv, h⟩
def mm_plv : Value → Bool
  | .int _ => true
  | .long _ => true
  | .null => true
  | _ => false
theorem mm_l.self {al : List Nat} {sa : Nat} : ∀ {fs : List Value}, fs.all mm_plv = true → mm_l al sa fs fs := by
  intro fs
  induction fs with
  | nil => intro _; exact rfl
  | cons v fs ih =>
    intro h
    rw [List.all_cons, Bool.and_eq_true] at h
    refine ⟨v, fs, rfl, ?_, ih h.2⟩
    cases v with
    | int x => exact rfl
    | long x => exact rfl
    | null => exact rfl
    | float x => exact absurd h.1 (by simp [mm_plv])
    | double x => exact absurd h.1 (by simp [mm_plv])
    | ref x => exact absurd h.1 (by simp [mm_plv])
    | retAddr x => exact absurd h.1 (by simp [mm_plv])
