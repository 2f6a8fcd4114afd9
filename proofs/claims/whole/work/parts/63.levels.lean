/-! Whole terms as rows: a stack of depths still wanted. -/
def wo (lo c d : Nat) : Bool := decide (lo ≤ c ∧ ((1000 ≤ c ∧ c < 1000 + d) ∨ c = 83 ∨ c = 75 ∨ c = 73 ∨ c = 1 ∨ c = 2 ∨ (97 ≤ c ∧ c ≤ 122)))
def wq (lo : Nat) : List Nat → List Nat → Option (List Nat)
  | [], st => some st
  | _ :: _, [] => none
  | c :: l, d :: st => if c = 64 then wq lo l (d :: d :: st) else if c = 92 then wq lo l ((d + 1) :: st) else if wo lo c d = true then wq lo l st else none
section
variable {lo : Nat}
theorem wq_leaf {c d : Nat} {l st : List Nat} (h1 : ¬ c = 64) (h2 : ¬ c = 92) (h : wo lo c d = true) : wq lo (c :: l) (d :: st) = wq lo l st := by
  rw [wq, if_neg h1, if_neg h2, if_pos h]
theorem wq_64 {d : Nat} {l st : List Nat} : wq lo (64 :: l) (d :: st) = wq lo l (d :: d :: st) := by
  rw [wq, if_pos rfl]
theorem wq_92 {d : Nat} {l st : List Nat} : wq lo (92 :: l) (d :: st) = wq lo l ((d + 1) :: st) := by
  rw [wq, if_neg (by decide), if_pos rfl]
/-- a first step taken -/
theorem wq_inv {c d : Nat} {l st s : List Nat} (h : wq lo (c :: l) (d :: st) = some s) : (c = 64 ∧ wq lo l (d :: d :: st) = some s) ∨ (c = 92 ∧ wq lo l ((d + 1) :: st) = some s) ∨ (¬ c = 64 ∧ ¬ c = 92 ∧ wo lo c d = true ∧ wq lo l st = some s) := by
  rw [wq] at h
  by_cases c1 : c = 64
  · rw [if_pos c1] at h
    exact Or.inl ⟨c1, h⟩
  · rw [if_neg c1] at h
    by_cases c2 : c = 92
    · rw [if_pos c2] at h
      exact Or.inr (Or.inl ⟨c2, h⟩)
    · rw [if_neg c2] at h
      by_cases c3 : wo lo c d = true
      · rw [if_pos c3] at h
        exact Or.inr (Or.inr ⟨c1, c2, c3, h⟩)
      · rw [if_neg c3] at h
        exact absurd h (by simp)
theorem wq_app {l2 : List Nat} : ∀ (l1 st : List Nat), wq lo (l1 ++ l2) st = (wq lo l1 st).bind (wq lo l2) := by
  intro l1
  induction l1 with
  | nil => intro st; cases st <;> rfl
  | cons c l1 ih =>
    intro st
    cases st with
    | nil => rfl
    | cons d st =>
      show wq lo (c :: (l1 ++ l2)) (d :: st) = _
      rw [wq, wq]
      by_cases c1 : c = 64
      · rw [if_pos c1, if_pos c1]
        exact ih _
      · rw [if_neg c1, if_neg c1]
        by_cases c2 : c = 92
        · rw [if_pos c2, if_pos c2]
          exact ih _
        · rw [if_neg c2, if_neg c2]
          by_cases c3 : wo lo c d = true
          · rw [if_pos c3, if_pos c3]
            exact ih _
          · rw [if_neg c3, if_neg c3]
            rfl
theorem wq_fr {s2 : List Nat} : ∀ (l st s : List Nat), wq lo l st = some s → wq lo l (st ++ s2) = some (s ++ s2) := by
  intro l
  induction l with
  | nil =>
    intro st s h
    rw [wq] at h
    cases h
    rw [wq]
  | cons c l ih =>
    intro st s h
    cases st with
    | nil => exact absurd h (by simp [wq])
    | cons d st =>
      rcases wq_inv h with ⟨rfl, h⟩ | ⟨rfl, h⟩ | ⟨h1, h2, h3, h⟩
      · show wq lo (64 :: l) (d :: (st ++ s2)) = _
        rw [wq_64]
        exact ih _ _ h
      · show wq lo (92 :: l) (d :: (st ++ s2)) = _
        rw [wq_92]
        exact ih _ _ h
      · show wq lo (c :: l) (d :: (st ++ s2)) = _
        rw [wq_leaf h1 h2 h3]
        exact ih _ _ h
/-- a whole term at depth d -/
def tm (lo : Nat) (p : List Nat) (d : Nat) : Prop := wq lo p [d] = some []
theorem tm.use {p l st : List Nat} {d : Nat} (h : tm lo p d) : wq lo (p ++ l) (d :: st) = wq lo l st := by
  have h1 : wq lo p (d :: st) = some st := wq_fr (s2 := st) p [d] [] h
  rw [wq_app, h1]
  rfl
theorem tm.end_ {p st : List Nat} {d : Nat} (h : tm lo p d) : wq lo p (d :: st) = some st := wq_fr (s2 := st) p [d] [] h
theorem wq_then {l1 l2 st s s' : List Nat} (h1 : wq lo l1 st = some s) (h2 : wq lo l2 s = some s') : wq lo (l1 ++ l2) st = some s' := by
  rw [wq_app, h1]
  exact h2
theorem wq_split {l1 l2 st s' : List Nat} (h : wq lo (l1 ++ l2) st = some s') : ∃ s, wq lo l1 st = some s ∧ wq lo l2 s = some s' := by
  rw [wq_app] at h
  cases e : wq lo l1 st with
  | none => rw [e] at h; exact absurd h (by simp)
  | some s => rw [e] at h; exact ⟨s, rfl, h⟩
theorem wo_lo {lo' c d : Nat} (hl : lo' ≤ lo) (h : wo lo c d = true) : wo lo' c d = true := by
  unfold wo at h ⊢
  rw [decide_eq_true_eq] at h ⊢
  exact ⟨by omega, h.2⟩
theorem wq_lo {lo' : Nat} (hl : lo' ≤ lo) : ∀ (l st s : List Nat), wq lo l st = some s → wq lo' l st = some s := by
  intro l
  induction l with
  | nil => intro st s h; rw [wq] at h ⊢; exact h
  | cons c l ih =>
    intro st s h
    cases st with
    | nil => exact absurd h (by simp [wq])
    | cons d st =>
      rcases wq_inv h with ⟨rfl, h⟩ | ⟨rfl, h⟩ | ⟨h1, h2, h3, h⟩
      · rw [wq_64]
        exact ih _ _ h
      · rw [wq_92]
        exact ih _ _ h
      · rw [wq_leaf h1 h2 (wo_lo hl h3)]
        exact ih _ _ h
end
/-! Reading: the class's functions against levels of open terms. -/
def gr_w (tp : List Nat) (m i : Nat) (G : gr_G) : Nat ⊕ (Nat → Nat) := match gr_go tp m i G with
  | .inl j => .inl j
  | .inr G' => .inr G'.2.2.2
theorem gr_w_s {tp : List Nat} {m i : Nat} {G G' : gr_G} (h : gr_step (tp.getD i 0) i G.1 G.2.1 G.2.2.1 G.2.2.2 = some G') : gr_w tp (m + 1) i G = gr_w tp m (i + 1) G' := by
  unfold gr_w
  rw [gr_go, h]
theorem gr_w_n {tp : List Nat} {m i : Nat} {G : gr_G} (h : gr_step (tp.getD i 0) i G.1 G.2.1 G.2.2.1 G.2.2.2 = none) : gr_w tp (m + 1) i G = .inl i := by
  unfold gr_w
  rw [gr_go, h]
theorem gr_w_0 {tp : List Nat} {i : Nat} {G : gr_G} : gr_w tp 0 i G = if gr_end G.1 G.2.1 G.2.2.1 G.2.2.2 = true then .inr G.2.2.2 else .inl i := by
  unfold gr_w
  rw [gr_go]
  by_cases c : gr_end G.1 G.2.1 G.2.2.1 G.2.2.2 = true
  · rw [if_pos c, if_pos c]
  · rw [if_neg c, if_neg c]
def gr_le (i be : Nat) (ar : List Nat) (am : Nat → Nat) (G : gr_G) : Prop := (∀ j, j ≤ i → am j ≤ G.2.2.2 j) ∧ ∀ j, j ≤ i → j ≠ be → j ∉ ar → G.2.2.2 j = am j ∧ j ≠ G.2.2.1 ∧ j ∉ G.2.1
theorem nup_s {am : Nat → Nat} {k v : Nat} : nup am k v k = v := if_pos rfl
theorem nup_n {am : Nat → Nat} {k v j : Nat} (h : j ≠ k) : nup am k v j = am j := if_neg h
theorem gr_le_same {i be st : Nat} {ar : List Nat} {am : Nat → Nat} : gr_le i be ar am (st, ar, be, am) := ⟨fun _ _ => Nat.le_refl _, fun _ _ h2 h3 => ⟨rfl, h2, h3⟩⟩
theorem gr_le_inc {i be st : Nat} {ar : List Nat} {am : Nat → Nat} : gr_le i be ar am (st, ar, be, gr_inc am be) := by
  refine ⟨fun j _ => ?_, fun j _ h2 h3 => ⟨nup_n h2, h2, h3⟩⟩
  show am j ≤ nup am be (am be + 1) j
  by_cases e : j = be
  · subst e
    rw [nup_s]
    omega
  · rw [nup_n e]
    exact Nat.le_refl _
theorem gr_le_term {c i be : Nat} {ar : List Nat} {am : Nat → Nat} {G : gr_G} (h : gr_term c i ar be am = some G) : gr_le i be ar am G := by
  unfold gr_term at h
  split at h
  · split at h
    · exact absurd h (by simp)
    · split at h
      · exact absurd h (by simp)
      · cases h
        exact ⟨fun j _ => Nat.le_refl _, fun j _ h2 h3 => ⟨rfl, fun e => h3 (e ▸ List.mem_cons_self), fun e => h3 (List.mem_cons_of_mem _ e)⟩⟩
  · split at h
    · split at h
      · cases h
        refine ⟨fun j hj => ?_, fun j hj h2 h3 => ⟨?_, ?_, ?_⟩⟩
        · show am j ≤ nup (gr_inc am be) (i + 1) 0 j
          rw [nup_n (by omega)]
          exact (gr_le_inc (i := i) (be := be) (st := 0) (ar := ar) (am := am)).1 j hj
        · show nup (gr_inc am be) (i + 1) 0 j = am j
          rw [nup_n (by omega)]
          exact nup_n h2
        · show j ≠ i + 1
          omega
        · show j ∉ be :: ar
          exact fun e => (List.mem_cons.mp e).elim h2 h3
      · exact absurd h (by simp)
    · split at h
      · cases h
        exact gr_le_inc
      · split at h
        · cases h
          exact gr_le_inc
        · split at h
          · cases h
            exact gr_le_inc
          · split at h
            · cases h
              exact gr_le_inc
            · exact absurd h (by simp)
theorem gr_le_rest {c i st be : Nat} {ar : List Nat} {am : Nat → Nat} {G : gr_G} (h : gr_rest c i st ar be am = some G) : gr_le i be ar am G := by
  unfold gr_rest at h
  split at h
  · cases h
    exact gr_le_same
  · split at h
    · exact gr_le_term h
    · unfold gr_names at h
      split at h
      · cases h
        exact gr_le_same
      · split at h
        · cases h
          refine ⟨fun j hj => ?_, fun j hj h2 h3 => ⟨?_, ?_, h3⟩⟩
          · show am j ≤ nup am (i + 1) 0 j
            rw [nup_n (by omega)]
            exact Nat.le_refl _
          · exact nup_n (by omega)
          · show j ≠ i + 1
            omega
        · exact absurd h (by simp)
theorem gr_le_step {c i st be : Nat} {ar : List Nat} {am : Nat → Nat} {G : gr_G} (h : gr_step c i st ar be am = some G) : gr_le i be ar am G := by
  unfold gr_step at h
  split at h
  · split at h
    · cases h
      exact gr_le_same
    · exact absurd h (by simp)
  · split at h
    · split at h
      · cases h
        exact gr_le_same
      · exact gr_le_rest h
    · exact gr_le_rest h
theorem gr_w_le {tp : List Nat} {amF : Nat → Nat} : ∀ m i (G : gr_G), gr_w tp m i G = .inr amF → (∀ j, j ≤ i → G.2.2.2 j ≤ amF j) ∧ ∀ j, j ≤ i → j ≠ G.2.2.1 → j ∉ G.2.1 → amF j = G.2.2.2 j := by
  intro m
  induction m with
  | zero =>
    intro i G h
    rw [gr_w_0] at h
    split at h
    · cases h
      exact ⟨fun j _ => Nat.le_refl _, fun j _ _ _ => rfl⟩
    · exact absurd h (by simp)
  | succ m ih =>
    intro i G h
    cases hs : gr_step (tp.getD i 0) i G.1 G.2.1 G.2.2.1 G.2.2.2 with
    | none =>
      rw [gr_w_n hs] at h
      exact absurd h (by simp)
    | some G' =>
      rw [gr_w_s hs] at h
      obtain ⟨a1, a2⟩ := ih (i + 1) G' h
      obtain ⟨b1, b2⟩ := gr_le_step hs
      refine ⟨fun j hj => Nat.le_trans (b1 j hj) (a1 j (by omega)), fun j hj h2 h3 => ?_⟩
      obtain ⟨d1, d2, d3⟩ := b2 j hj h2 h3
      rw [a2 j (by omega) d2 d3, d1]
/-- open terms, the innermost first: what is written since its begin, its begin in the text, its kind (0 the text, 1 a bracket, n + 1 an abstraction of n names) -/
abbrev lx_L : Type := List (List Nat × Nat × Nat)
def lx_out : lx_L → List Nat
  | [] => []
  | e :: L => lx_out L ++ e.1
def lx_fi (am amF : Nat → Nat) : lx_L → List Nat
  | [] => []
  | e :: L => lx_fi am amF L ++ (List.replicate ((amF e.2.1 - 1) - (am e.2.1 - 1)) 64 ++ e.1)
def lx_k : lx_L → Nat
  | [] => 0
  | e :: L => (e.2.2 - 1) + lx_k L
def lx_be : lx_L → Nat
  | [] => 0
  | e :: _ => e.2.1
def lx_ar : lx_L → List Nat
  | [] => []
  | e :: L => if e.2.2 = 1 then lx_be L :: lx_ar L else lx_ar L
def lx_op : lx_L → List Nat
  | [] => []
  | e :: L => if e.2.2 = 1 then lx_k L :: lx_op L else lx_op L
def lx_ok (am : Nat → Nat) : Nat → lx_L → Prop
  | _, [] => True
  | b, e :: L => e.2.1 < b ∧ (L = [] → e.2.2 = 0) ∧ (L ≠ [] → 0 < e.2.2 ∧ 1 ≤ am (lx_be L)) ∧ lx_ok am e.2.1 L
theorem lx_ok_lt {am : Nat → Nat} : ∀ (L : lx_L) (b : Nat), lx_ok am b L → ∀ e ∈ L, e.2.1 < b := by
  intro L
  induction L with
  | nil => intro b _ e he; exact absurd he (by simp)
  | cons a L ih =>
    intro b h e he
    obtain ⟨h1, h2, h3, h4⟩ := h
    rcases List.mem_cons.mp he with rfl | he
    · exact h1
    · have := ih _ h4 e he
      omega
theorem lx_ok_wk {am : Nat → Nat} {L : lx_L} {b b' : Nat} (h : lx_ok am b L) (hb : b ≤ b') : lx_ok am b' L := by
  cases L with
  | nil => trivial
  | cons a L =>
    obtain ⟨h1, h2⟩ := h
    exact ⟨by omega, h2⟩
theorem lx_ok_len {am : Nat → Nat} : ∀ (L : lx_L) (b : Nat), lx_ok am b L → L.length ≤ b := by
  intro L
  induction L with
  | nil => intro b _; exact Nat.zero_le _
  | cons a L ih =>
    intro b h
    obtain ⟨h1, h2, h3, h4⟩ := h
    have := ih _ h4
    rw [List.length_cons]
    omega
theorem lx_be_mem {L : lx_L} (h : L ≠ []) : ∃ e ∈ L, e.2.1 = lx_be L := by
  cases L with
  | nil => exact absurd rfl h
  | cons a L => exact ⟨a, List.mem_cons_self, rfl⟩
/-- counts that agree on the levels' begins -/
theorem lx_ok_am {am am' : Nat → Nat} : ∀ (L : lx_L) (b : Nat), (∀ e ∈ L, am' e.2.1 = am e.2.1) → lx_ok am b L → lx_ok am' b L := by
  intro L
  induction L with
  | nil => intro b _ _; trivial
  | cons a L ih =>
    intro b ha h
    obtain ⟨h1, h2, h3, h4⟩ := h
    refine ⟨h1, h2, fun hn => ⟨(h3 hn).1, ?_⟩, ih _ (fun e he => ha e (List.mem_cons_of_mem _ he)) h4⟩
    obtain ⟨e, he, hb⟩ := lx_be_mem hn
    rw [← hb, ha e (List.mem_cons_of_mem _ he), hb]
    exact (h3 hn).2
theorem lx_fi_am {am am' amF : Nat → Nat} : ∀ (L : lx_L), (∀ e ∈ L, am' e.2.1 = am e.2.1) → lx_fi am' amF L = lx_fi am amF L := by
  intro L
  induction L with
  | nil => intro _; rfl
  | cons a L ih =>
    intro ha
    rw [lx_fi, lx_fi, ih (fun e he => ha e (List.mem_cons_of_mem _ he)), ha a List.mem_cons_self]
theorem lx_fi_self {am : Nat → Nat} : ∀ (L : lx_L), lx_fi am am L = lx_out L := by
  intro L
  induction L with
  | nil => rfl
  | cons a L ih =>
    rw [lx_fi, ih, Nat.sub_self]
    rfl
theorem lx_ar_lt {am : Nat → Nat} : ∀ (L : lx_L) (b : Nat), lx_ok am b L → ∀ j ∈ lx_ar L, j < lx_be L := by
  intro L
  induction L with
  | nil => intro b _ j hj; exact absurd hj (by simp [lx_ar])
  | cons a L ih =>
    intro b h j hj
    obtain ⟨h1, h2, h3, h4⟩ := h
    show j < a.2.1
    rw [lx_ar] at hj
    have lb : L ≠ [] → lx_be L < a.2.1 := fun hn => by
      obtain ⟨e, he, hb⟩ := lx_be_mem hn
      rw [← hb]
      exact lx_ok_lt L _ h4 e he
    have go : j ∈ lx_ar L → j < a.2.1 := fun hj => by
      have hn : L ≠ [] := fun e => by rw [e] at hj; exact absurd hj (by simp [lx_ar])
      have h5 := ih _ h4 j hj
      have h6 := lb hn
      omega
    split at hj
    · rename_i c
      have hn : L ≠ [] := fun e => by have := h2 e; omega
      rcases List.mem_cons.mp hj with rfl | hj
      · exact lb hn
      · exact go hj
    · exact go hj
/-- abstractions closed -/
def lx_cl : List Nat → lx_L → lx_L
  | _, [] => []
  | acc, e :: L => if 2 ≤ e.2.2 then lx_cl (e.1 ++ acc) L else (e.1 ++ acc, e.2.1, e.2.2) :: L
theorem lx_cl_m (acc s : List Nat) (b k : Nat) (L : lx_L) : lx_cl acc ((s, b, k) :: L) = lx_cl [] ((s ++ acc, b, k) :: L) := by
  rw [lx_cl, lx_cl]
  show (if 2 ≤ k then lx_cl (s ++ acc) L else (s ++ acc, b, k) :: L) = if 2 ≤ k then lx_cl ((s ++ acc) ++ []) L else ((s ++ acc) ++ [], b, k) :: L
  rw [List.append_nil]
theorem lx_cl_ok {am : Nat → Nat} : ∀ (L : lx_L) (b : Nat) (acc : List Nat), lx_ok am b L → L ≠ [] → ∃ sg be kd L', lx_cl acc L = (sg, be, kd) :: L' ∧ kd < 2 ∧ lx_ok am b ((sg, be, kd) :: L') ∧ lx_ar L = lx_ar ((sg, be, kd) :: L') ∧ lx_op L = lx_op ((sg, be, kd) :: L') ∧ lx_out L ++ acc = lx_out ((sg, be, kd) :: L') ∧ L'.length < L.length ∧ lx_k ((sg, be, kd) :: L') ≤ lx_k L ∧ (∀ e ∈ (sg, be, kd) :: L', ∃ e2 ∈ L, e2.2.1 = e.2.1) ∧
    ∀ amF, (∀ j, (¬ j = be) → j ∉ lx_ar L → j < b → amF j = am j) → lx_fi am amF L ++ acc = lx_fi am amF ((sg, be, kd) :: L') := by
  intro L
  induction L with
  | nil => intro b acc _ h; exact absurd rfl h
  | cons a L ih =>
    intro b acc h _
    obtain ⟨h1, h2, h3, h4⟩ := id h
    by_cases c : 2 ≤ a.2.2
    · have hn : L ≠ [] := fun e => by have := h2 e; omega
      obtain ⟨sg, be, kd, L', e1, e2, e3, e4, e5, e6, e7, e9, e10, e8⟩ := ih a.2.1 (a.1 ++ acc) h4 hn
      have ea : lx_ar (a :: L) = lx_ar L := by rw [lx_ar, if_neg (by omega)]
      refine ⟨sg, be, kd, L', by rw [lx_cl, if_pos c, e1], e2, lx_ok_wk e3 (by omega), ea.trans e4, ?_, ?_, ?_, ?_, ?_, ?_⟩
      · rw [lx_op, if_neg (by omega)]
        exact e5
      · rw [lx_out, List.append_assoc]
        exact e6
      · rw [List.length_cons]
        omega
      · have : lx_k (a :: L) = (a.2.2 - 1) + lx_k L := rfl
        omega
      · intro e he
        obtain ⟨x, x1, x2⟩ := e10 e he
        exact ⟨x, List.mem_cons_of_mem _ x1, x2⟩
      · intro amF hF
        rw [ea] at hF
        have hbe : be < a.2.1 := e3.1
        have h5 : amF a.2.1 = am a.2.1 := hF a.2.1 (by omega) (fun h9 => by
          have h6 := lx_ar_lt L _ h4 _ h9
          obtain ⟨e, he, hb⟩ := lx_be_mem hn
          have h7 := lx_ok_lt L _ h4 e he
          omega) h1
        rw [lx_fi, h5, Nat.sub_self, ← e8 amF (fun j j1 j2 j3 => hF j j1 j2 (by omega))]
        rw [List.append_assoc]
        rfl
    · refine ⟨a.1 ++ acc, a.2.1, a.2.2, L, by rw [lx_cl, if_neg c], by omega, h, rfl, rfl, ?_, ?_, Nat.le_refl _, ?_, ?_⟩
      · rw [lx_out, lx_out, List.append_assoc]
      · rw [List.length_cons]
        omega
      · intro e he
        rcases List.mem_cons.mp he with rfl | he
        · exact ⟨a, List.mem_cons_self, rfl⟩
        · exact ⟨e, List.mem_cons_of_mem _ he, rfl⟩
      · intro amF _
        rw [lx_fi, lx_fi, List.append_assoc, List.append_assoc]
/-- what is written, should the text be right -/
def rd_T (tp : List Nat) (nm0 : Nat → Int32) (m i st : Nat) (am : Nat → Nat) (Ls : lx_L) (nm : Nat → Int32) (k : Nat) (op : List Nat) (na : Nat) : Prop := ∀ amF, gr_w tp m i (st, lx_ar Ls, lx_be Ls, am) = .inr amF → te_bt tp amF nm0 = lx_fi am amF Ls ++ bu_go tp amF m i nm k op na
theorem rd_T0 (tp : List Nat) (nm : Nat → Int32) (am : Nat → Nat) : rd_T tp nm tp.length 0 0 (nup am 0 0) [([], 0, 0)] nm 0 [] 0 := by
  intro amF _
  show te_bt tp amF nm = ([] ++ (List.replicate ((amF 0 - 1) - (nup am 0 0 0 - 1)) 64 ++ [])) ++ _
  rw [nup_s, List.nil_append, List.append_nil]
  rfl
def lx_at (am : Nat → Nat) (be : Nat) (sg : List Nat) : List Nat := if am be = 0 then sg else 64 :: sg
section
variable {tp : List Nat} {nm0 nm nm' : Nat → Int32} {m i st st' k k' : Nat} {am : Nat → Nat} {op op' : List Nat} {na na' : Nat}
/-- a character that only writes p -/
theorem rd_T_e {sg p : List Nat} {be kd : Nat} {L : lx_L} (h : rd_T tp nm0 (m + 1) i st am ((sg, be, kd) :: L) nm k op na) (hs : gr_step (tp.getD i 0) i st (lx_ar ((sg, be, kd) :: L)) be am = some (st', lx_ar ((sg, be, kd) :: L), be, am)) (hb : ∀ amF, bu_go tp amF (m + 1) i nm k op na = p ++ bu_go tp amF m (i + 1) nm' k' op' na') : rd_T tp nm0 m (i + 1) st' am ((sg ++ p, be, kd) :: L) nm' k' op' na' := by
  intro amF hF
  have h1 := h amF (by rw [gr_w_s hs]; exact hF)
  rw [h1, hb]
  show (lx_fi am amF L ++ (List.replicate ((amF be - 1) - (am be - 1)) 64 ++ sg)) ++ (p ++ _) = (lx_fi am amF L ++ (List.replicate ((amF be - 1) - (am be - 1)) 64 ++ (sg ++ p))) ++ _
  simp only [List.append_assoc]
theorem lx_fi_inc {amF : Nat → Nat} {sg : List Nat} {be kd : Nat} {L : lx_L} (hl : ∀ e ∈ L, e.2.1 < be) (hF : am be + 1 ≤ amF be) : lx_fi am amF ((sg, be, kd) :: L) = lx_fi (gr_inc am be) amF ((lx_at am be sg, be, kd) :: L) := by
  have e1 : lx_fi (gr_inc am be) amF L = lx_fi am amF L := lx_fi_am L (fun e he => nup_n (Nat.ne_of_lt (hl e he)))
  show lx_fi am amF L ++ (List.replicate ((amF be - 1) - (am be - 1)) 64 ++ sg) = lx_fi (gr_inc am be) amF L ++ (List.replicate ((amF be - 1) - (gr_inc am be be - 1)) 64 ++ lx_at am be sg)
  have e2 : gr_inc am be be = am be + 1 := nup_s
  rw [e1, e2]
  unfold lx_at
  by_cases c : am be = 0
  · rw [if_pos c, c]
  · rw [if_neg c, show (amF be - 1) - (am be - 1) = ((amF be - 1) - (am be + 1 - 1)) + 1 by omega, List.replicate_succ']
    simp only [List.append_assoc]
    rfl
/-- a character that begins an atom and writes p -/
theorem rd_T_a {sg p : List Nat} {be kd : Nat} {L : lx_L} (h : rd_T tp nm0 (m + 1) i st am ((sg, be, kd) :: L) nm k op na) (hok : lx_ok am (i + 1) ((sg, be, kd) :: L)) (hs : gr_step (tp.getD i 0) i st (lx_ar ((sg, be, kd) :: L)) be am = some (st', lx_ar ((sg, be, kd) :: L), be, gr_inc am be)) (hb : ∀ amF, bu_go tp amF (m + 1) i nm k op na = p ++ bu_go tp amF m (i + 1) nm' k' op' na') : rd_T tp nm0 m (i + 1) st' (gr_inc am be) ((lx_at am be sg ++ p, be, kd) :: L) nm' k' op' na' := by
  intro amF hF
  have hF : gr_w tp m (i + 1) (st', lx_ar ((sg, be, kd) :: L), be, gr_inc am be) = .inr amF := hF
  have h1 := h amF (by rw [gr_w_s hs]; exact hF)
  obtain ⟨h2, h3, h4, h5⟩ := hok
  have h2 : be < i + 1 := h2
  have h6 := (gr_w_le m (i + 1) _ hF).1 be (by omega)
  have e2 : gr_inc am be be = am be + 1 := nup_s
  have h6 : am be + 1 ≤ amF be := by rw [← e2]; exact h6
  rw [h1, hb, lx_fi_inc (lx_ok_lt L _ h5) h6]
  show (lx_fi (gr_inc am be) amF L ++ (List.replicate ((amF be - 1) - (gr_inc am be be - 1)) 64 ++ lx_at am be sg)) ++ (p ++ _) = (lx_fi (gr_inc am be) amF L ++ (List.replicate ((amF be - 1) - (gr_inc am be be - 1)) 64 ++ (lx_at am be sg ++ p))) ++ _
  simp only [List.append_assoc]
/-- a bracket -/
theorem rd_T_o {sg : List Nat} {be kd : Nat} {L : lx_L} (h : rd_T tp nm0 (m + 1) i st am ((sg, be, kd) :: L) nm k op na) (hok : lx_ok am (i + 1) ((sg, be, kd) :: L)) (hs : gr_step (tp.getD i 0) i st (lx_ar ((sg, be, kd) :: L)) be am = some (0, be :: lx_ar ((sg, be, kd) :: L), i + 1, nup (gr_inc am be) (i + 1) 0)) (hb : ∀ amF, bu_go tp amF (m + 1) i nm k op na = List.replicate (amF (i + 1) - 1) 64 ++ bu_go tp amF m (i + 1) nm k' op' na') : rd_T tp nm0 m (i + 1) 0 (nup (gr_inc am be) (i + 1) 0) (([], i + 1, 1) :: (lx_at am be sg, be, kd) :: L) nm k' op' na' := by
  intro amF hF
  have hF : gr_w tp m (i + 1) (0, be :: lx_ar ((sg, be, kd) :: L), i + 1, nup (gr_inc am be) (i + 1) 0) = .inr amF := hF
  have h1 := h amF (by rw [gr_w_s hs]; exact hF)
  obtain ⟨h2, h3, h4, h5⟩ := hok
  have h2 : be < i + 1 := h2
  have h6 := (gr_w_le m (i + 1) _ hF).1 be (by omega)
  have e2 : gr_inc am be be = am be + 1 := nup_s
  have h6 : am be + 1 ≤ amF be := by
    have h7 : nup (gr_inc am be) (i + 1) 0 be ≤ amF be := h6
    rw [nup_n (by omega), e2] at h7
    exact h7
  have e3 : lx_fi (nup (gr_inc am be) (i + 1) 0) amF ((lx_at am be sg, be, kd) :: L) = lx_fi (gr_inc am be) amF ((lx_at am be sg, be, kd) :: L) := by
    refine lx_fi_am _ (fun e he => nup_n ?_)
    rcases List.mem_cons.mp he with rfl | he
    · show be ≠ i + 1
      omega
    · have := lx_ok_lt L _ h5 e he
      show e.2.1 ≠ i + 1
      have h8 : e.2.1 < be := this
      omega
  rw [h1, hb, lx_fi_inc (kd := kd) (lx_ok_lt L _ h5) h6, ← e3]
  show lx_fi (nup (gr_inc am be) (i + 1) 0) amF ((lx_at am be sg, be, kd) :: L) ++ (List.replicate (amF (i + 1) - 1) 64 ++ _) = (lx_fi (nup (gr_inc am be) (i + 1) 0) amF ((lx_at am be sg, be, kd) :: L) ++ (List.replicate ((amF (i + 1) - 1) - (nup (gr_inc am be) (i + 1) 0 (i + 1) - 1)) 64 ++ [])) ++ _
  rw [nup_s, List.append_nil]
  simp only [List.append_assoc]
  rfl
/-- the dot behind names -/
theorem rd_T_d {Ls : lx_L} {kd : Nat} (hkd : ¬ kd = 1) (h : rd_T tp nm0 (m + 1) i st am Ls nm k op na) (hok : lx_ok am (i + 1) Ls) (hs : gr_step (tp.getD i 0) i st (lx_ar Ls) (lx_be Ls) am = some (0, lx_ar Ls, i + 1, nup am (i + 1) 0)) (hb : ∀ amF, bu_go tp amF (m + 1) i nm k op na = List.replicate (amF (i + 1) - 1) 64 ++ bu_go tp amF m (i + 1) nm k op na') : rd_T tp nm0 m (i + 1) 0 (nup am (i + 1) 0) (([], i + 1, kd) :: Ls) nm k op na' := by
  intro amF hF
  have e0 : lx_ar (([], i + 1, kd) :: Ls) = lx_ar Ls := by rw [lx_ar, if_neg hkd]
  rw [e0] at hF
  have hF : gr_w tp m (i + 1) (0, lx_ar Ls, i + 1, nup am (i + 1) 0) = .inr amF := hF
  have h1 := h amF (by rw [gr_w_s hs]; exact hF)
  have e3 : lx_fi (nup am (i + 1) 0) amF Ls = lx_fi am amF Ls := lx_fi_am _ (fun e he => nup_n (Nat.ne_of_lt (lx_ok_lt Ls _ hok e he)))
  rw [h1, hb, ← e3]
  show lx_fi (nup am (i + 1) 0) amF Ls ++ (List.replicate (amF (i + 1) - 1) 64 ++ _) = (lx_fi (nup am (i + 1) 0) amF Ls ++ (List.replicate ((amF (i + 1) - 1) - (nup am (i + 1) 0 (i + 1) - 1)) 64 ++ [])) ++ _
  rw [nup_s, List.append_nil]
  simp only [List.append_assoc]
  rfl
/-- a closing bracket -/
theorem rd_T_c {Ls L2 : lx_L} {sg sg2 : List Nat} {be be2 kd2 : Nat} (hok : lx_ok am (i + 1) Ls) (hn : Ls ≠ []) (hc : lx_cl [] Ls = (sg, be, 1) :: (sg2, be2, kd2) :: L2) (h : rd_T tp nm0 (m + 1) i st am Ls nm k op na) (hs : gr_step (tp.getD i 0) i st (lx_ar Ls) (lx_be Ls) am = some (0, lx_ar ((sg2 ++ sg, be2, kd2) :: L2), be2, am)) (hb : ∀ amF, bu_go tp amF (m + 1) i nm k op na = bu_go tp amF m (i + 1) nm k' op' na') : rd_T tp nm0 m (i + 1) 0 am ((sg2 ++ sg, be2, kd2) :: L2) nm k' op' na' := by
  intro amF hF
  have hF : gr_w tp m (i + 1) (0, lx_ar ((sg2 ++ sg, be2, kd2) :: L2), be2, am) = .inr amF := hF
  have h1 := h amF (by rw [gr_w_s hs]; exact hF)
  have hfx := (gr_w_le m (i + 1) _ hF).2
  obtain ⟨s1, b1, k1, L1, e1, e2, e3, e4, e5, e6, e7, -, -, e8⟩ := lx_cl_ok Ls (i + 1) [] hok hn
  rw [hc] at e1
  injection e1 with e9 e10
  injection e9 with e11 e12
  injection e12 with e13 e14
  subst e11 e13 e14 e10
  obtain ⟨g1, g2, g3, g4⟩ := id e3
  have g5 : be2 < be := g4.1
  have g0 : be < i + 1 := g1
  have ar1 : lx_ar Ls = be2 :: lx_ar ((sg2, be2, kd2) :: L2) := by rw [e4, lx_ar, if_pos rfl]; rfl
  have ar2 : lx_ar ((sg2 ++ sg, be2, kd2) :: L2) = lx_ar ((sg2, be2, kd2) :: L2) := rfl
  have h5 := e8 amF (fun j j1 j2 j3 => hfx j (by omega) (fun h9 => j2 (by rw [ar1, h9]; exact List.mem_cons_self)) (fun h9 => j2 (by rw [ar1]; exact List.mem_cons_of_mem _ h9)))
  rw [List.append_nil] at h5
  have h6 : amF be = am be := hfx be (by omega) (Nat.ne_of_gt g5) (fun h9 => by
    have := lx_ar_lt ((sg2, be2, kd2) :: L2) _ g4 be h9
    have h10 : be < be2 := this
    omega)
  rw [h1, hb, h5]
  show (lx_fi am amF ((sg2, be2, kd2) :: L2) ++ (List.replicate ((amF be - 1) - (am be - 1)) 64 ++ sg)) ++ _ = (lx_fi am amF L2 ++ (List.replicate ((amF be2 - 1) - (am be2 - 1)) 64 ++ (sg2 ++ sg))) ++ _
  rw [h6, Nat.sub_self]
  show ((lx_fi am amF L2 ++ (List.replicate ((amF be2 - 1) - (am be2 - 1)) 64 ++ sg2)) ++ ([] ++ sg)) ++ _ = _
  simp only [List.append_assoc, List.nil_append]
end
/-! single characters -/
section
variable {tp : List Nat} {nm : Nat → Int32} {m i st k : Nat} {am : Nat → Nat} {ar op : List Nat} {be na : Nat}
theorem gr_sp (h : tp.getD i 0 = 32) (hst : st < 3) : gr_step (tp.getD i 0) i st ar be am = some (st, ar, be, am) := by
  unfold gr_step
  rw [if_neg (by omega), if_neg (by omega)]
  unfold gr_rest
  rw [if_pos h]
theorem gr_t (h : ¬ tp.getD i 0 = 32) : gr_step (tp.getD i 0) i 0 ar be am = gr_term (tp.getD i 0) i ar be am := by
  unfold gr_step
  rw [if_neg (by omega), if_neg (by omega)]
  unfold gr_rest
  rw [if_neg h, if_pos rfl]
theorem gr_nm (h : ¬ tp.getD i 0 = 32) (h1 : st = 1 ∨ st = 2) : gr_step (tp.getD i 0) i st ar be am = gr_names (tp.getD i 0) i st ar be am := by
  unfold gr_step
  rw [if_neg (by omega), if_neg (by omega)]
  unfold gr_rest
  rw [if_neg h, if_neg (by omega)]
theorem gr_w_4 (h : m = 0 ∨ ¬ (48 ≤ tp.getD i 0 ∧ tp.getD i 0 ≤ 57)) : gr_w tp m i (4, ar, be, am) = gr_w tp m i (0, ar, be, am) := by
  cases m with
  | zero =>
    rw [gr_w_0, gr_w_0]
    have e : gr_end 4 ar be am = gr_end 0 ar be am := by
      unfold gr_end
      simp
    show (if gr_end 4 ar be am = true then Sum.inr am else Sum.inl i) = if gr_end 0 ar be am = true then Sum.inr am else Sum.inl i
    rw [e]
  | succ m =>
    have h : ¬ (48 ≤ tp.getD i 0 ∧ tp.getD i 0 ≤ 57) := h.resolve_left (by omega)
    have e : gr_step (tp.getD i 0) i 4 ar be am = gr_step (tp.getD i 0) i 0 ar be am := by
      unfold gr_step
      rw [if_neg (by omega), if_pos rfl, if_neg h, if_neg (by omega), if_neg (by omega)]
    unfold gr_w
    rw [gr_go, gr_go, e]
theorem bu_sp {amF : Nat → Nat} (h : tp.getD i 0 = 32 ∨ (48 ≤ tp.getD i 0 ∧ tp.getD i 0 ≤ 57)) : bu_go tp amF (m + 1) i nm k op na = [] ++ bu_go tp amF m (i + 1) nm k op na := by
  rw [bu_go, if_neg (by omega), if_neg (by omega), if_neg (by omega), if_neg (by omega), if_neg (by omega), if_neg (by omega), if_neg (by omega)]
  rfl
theorem gr_le1 (h : 97 ≤ tp.getD i 0 ∧ tp.getD i 0 ≤ 122) : gr_step (tp.getD i 0) i 0 ar be am = some (0, ar, be, gr_inc am be) := by
  rw [gr_t (by omega)]
  unfold gr_term
  rw [ if_neg (by omega), if_neg (by omega), if_neg (by omega), if_neg (by omega), if_pos h]
theorem bu_le1 {amF : Nat → Nat} (h : 97 ≤ tp.getD i 0 ∧ tp.getD i 0 ≤ 122) : bu_go tp amF (m + 1) i nm k op 0 = [bu_mean nm (tp.getD i 0) k k] ++ bu_go tp amF m (i + 1) nm k op 0 := by
  rw [bu_go, if_neg (by omega), if_neg (by omega), if_neg (by omega), if_neg (by omega), if_neg (by omega), if_pos h, if_pos rfl]
theorem gr_co (h : tp.getD i 0 = 83 ∨ tp.getD i 0 = 75 ∨ tp.getD i 0 = 73) : gr_step (tp.getD i 0) i 0 ar be am = some (0, ar, be, gr_inc am be) := by
  rw [gr_t (by omega)]
  unfold gr_term
  rw [ if_neg (by omega), if_neg (by omega), if_neg (by omega), if_neg (by omega), if_neg (by omega), if_pos h]
theorem bu_co {amF : Nat → Nat} (h : tp.getD i 0 = 83 ∨ tp.getD i 0 = 75 ∨ tp.getD i 0 = 73) : bu_go tp amF (m + 1) i nm k op na = [tp.getD i 0] ++ bu_go tp amF m (i + 1) nm k op na := by
  rw [bu_go, if_neg (by omega), if_neg (by omega), if_neg (by omega), if_neg (by omega), if_neg (by omega), if_neg (by omega), if_pos h]
theorem gr_ba (h : tp.getD i 0 = 92) : gr_step (tp.getD i 0) i 0 ar be am = some (1, ar, be, gr_inc am be) := by
  rw [gr_t (by omega)]
  unfold gr_term
  rw [ if_neg (by omega), if_neg (by omega), if_pos h]
theorem bu_ba {amF : Nat → Nat} (h : tp.getD i 0 = 92) : bu_go tp amF (m + 1) i nm k op na = [] ++ bu_go tp amF m (i + 1) nm k op 1 := by
  rw [bu_go, if_pos h]
  rfl
theorem gr_ha (h : tp.getD i 0 = 35) : gr_step (tp.getD i 0) i 0 ar be am = some (3, ar, be, gr_inc am be) := by
  rw [gr_t (by omega)]
  unfold gr_term
  rw [ if_neg (by omega), if_neg (by omega), if_neg (by omega), if_pos h]
theorem bu_ha {amF : Nat → Nat} (h : tp.getD i 0 = 35) : bu_go tp amF (m + 1) i nm k op na = bu_num (ta_num tp i) ++ bu_go tp amF m (i + 1) nm k op na := by
  rw [bu_go, if_neg (by omega), if_neg (by omega), if_neg (by omega), if_neg (by omega), if_pos h]
theorem gr_op (h : tp.getD i 0 = 40) (hl : ar.length < 20) : gr_step (tp.getD i 0) i 0 ar be am = some (0, be :: ar, i + 1, nup (gr_inc am be) (i + 1) 0) := by
  rw [gr_t (by omega)]
  unfold gr_term
  rw [ if_neg (by omega), if_pos h, if_pos hl]
theorem bu_op {amF : Nat → Nat} (h : tp.getD i 0 = 40) (hl : op.length < 20) : bu_go tp amF (m + 1) i nm k op na = List.replicate (amF (i + 1) - 1) 64 ++ bu_go tp amF m (i + 1) nm k (k :: op) na := by
  rw [bu_go, if_neg (by omega), if_neg (by omega), if_pos h, if_pos hl]
theorem gr_no (h : ¬ tp.getD i 0 = 32) (h1 : ¬ tp.getD i 0 = 41) (h2 : ¬ (tp.getD i 0 = 40 ∧ ar.length < 20)) (h3 : ¬ tp.getD i 0 = 92) (h4 : ¬ tp.getD i 0 = 35) (h5 : ¬ (97 ≤ tp.getD i 0 ∧ tp.getD i 0 ≤ 122)) (h6 : ¬ (tp.getD i 0 = 83 ∨ tp.getD i 0 = 75 ∨ tp.getD i 0 = 73)) : gr_step (tp.getD i 0) i 0 ar be am = none := by
  rw [gr_t h]
  unfold gr_term
  rw [ if_neg h1]
  by_cases c : tp.getD i 0 = 40
  · rw [if_pos c, if_neg (fun h9 => h2 ⟨c, h9⟩)]
  · rw [if_neg c, if_neg h3, if_neg h4, if_neg h5, if_neg h6]
theorem gr_na (h : 97 ≤ tp.getD i 0 ∧ tp.getD i 0 ≤ 122) (h1 : st = 1 ∨ st = 2) : gr_step (tp.getD i 0) i st ar be am = some (2, ar, be, am) := by
  rw [gr_nm (by omega) h1, gr_names, if_pos h]
theorem bu_na {amF : Nat → Nat} (h : 97 ≤ tp.getD i 0 ∧ tp.getD i 0 ≤ 122) : bu_go tp amF (m + 1) i nm k op 1 = [92] ++ bu_go tp amF m (i + 1) (upd nm k (nI (tp.getD i 0))) (k + 1) op 1 := by
  rw [bu_go, if_neg (by omega), if_neg (by omega), if_neg (by omega), if_neg (by omega), if_neg (by omega), if_pos h, if_neg (by omega)]
theorem gr_do (h : tp.getD i 0 = 46) : gr_step (tp.getD i 0) i 2 ar be am = some (0, ar, i + 1, nup am (i + 1) 0) := by
  rw [gr_nm (by omega) (Or.inr rfl), gr_names, if_neg (by omega), if_pos ⟨rfl, h⟩]
theorem bu_do {amF : Nat → Nat} (h : tp.getD i 0 = 46) : bu_go tp amF (m + 1) i nm k op na = List.replicate (amF (i + 1) - 1) 64 ++ bu_go tp amF m (i + 1) nm k op 0 := by
  rw [bu_go, if_neg (by omega), if_pos h]
theorem gr_nn (h : ¬ tp.getD i 0 = 32) (h1 : st = 1 ∨ st = 2) (h2 : ¬ (97 ≤ tp.getD i 0 ∧ tp.getD i 0 ≤ 122)) (h3 : ¬ (st = 2 ∧ tp.getD i 0 = 46)) : gr_step (tp.getD i 0) i st ar be am = none := by
  rw [gr_nm h h1, gr_names, if_neg h2, if_neg h3]
theorem gr_d1 (h : 48 ≤ tp.getD i 0 ∧ tp.getD i 0 ≤ 57) : gr_step (tp.getD i 0) i 3 ar be am = some (4, ar, be, am) := by
  unfold gr_step
  rw [if_pos rfl, if_pos h]
theorem gr_d0 (h : ¬ (48 ≤ tp.getD i 0 ∧ tp.getD i 0 ≤ 57)) : gr_step (tp.getD i 0) i 3 ar be am = none := by
  unfold gr_step
  rw [if_pos rfl, if_neg h]
theorem gr_d2 (h : 48 ≤ tp.getD i 0 ∧ tp.getD i 0 ≤ 57) : gr_step (tp.getD i 0) i 4 ar be am = some (0, ar, be, am) := by
  unfold gr_step
  rw [if_neg (by omega), if_pos rfl, if_pos h]
theorem gr_cn (h : tp.getD i 0 = 41) (h1 : ar = [] ∨ am be = 0) : gr_step (tp.getD i 0) i 0 ar be am = none := by
  rw [gr_t (by omega)]
  unfold gr_term
  rw [ if_pos h]
  cases ar with
  | nil => rfl
  | cons b ar =>
    show (if am be = 0 then none else some (0, ar, b, am)) = none
    rw [if_pos (h1.resolve_left (by simp))]
theorem gr_cs {b : Nat} (h : tp.getD i 0 = 41) (h1 : ¬ am be = 0) : gr_step (tp.getD i 0) i 0 (b :: ar) be am = some (0, ar, b, am) := by
  rw [gr_t (by omega)]
  unfold gr_term
  rw [ if_pos h]
  show (if am be = 0 then none else some (0, ar, b, am)) = some (0, ar, b, am)
  rw [if_neg h1]
theorem bu_cs {amF : Nat → Nat} {b : Nat} (h : tp.getD i 0 = 41) : bu_go tp amF (m + 1) i nm k (b :: op) na = bu_go tp amF m (i + 1) nm b op na := by
  rw [bu_go, if_neg (by omega), if_neg (by omega), if_neg (by omega), if_pos h]
  rfl
end
/-- behind the spaces -/
def rd_sk (tp : List Nat) : Nat → Nat → Nat
  | 0, i => i
  | m + 1, i => if tp.getD i 0 = 32 then rd_sk tp m (i + 1) else i
theorem rd_sk_ok {tp : List Nat} : ∀ m i, i ≤ rd_sk tp m i ∧ rd_sk tp m i ≤ i + m ∧ (rd_sk tp m i < i + m → ¬ tp.getD (rd_sk tp m i) 0 = 32) := by
  intro m
  induction m with
  | zero => intro i; exact ⟨Nat.le_refl _, Nat.le_refl _, fun h => absurd h (Nat.lt_irrefl _)⟩
  | succ m ih =>
    intro i
    rw [rd_sk]
    by_cases c : tp.getD i 0 = 32
    · rw [if_pos c]
      obtain ⟨h1, h2, h3⟩ := ih (i + 1)
      exact ⟨by omega, by omega, fun h => h3 (by omega)⟩
    · rw [if_neg c]
      exact ⟨Nat.le_refl _, by omega, fun _ => c⟩
theorem rd_sk_w {tp : List Nat} {st be : Nat} {ar : List Nat} {am : Nat → Nat} (hst : st < 3) : ∀ m i, gr_w tp m i (st, ar, be, am) = gr_w tp (i + m - rd_sk tp m i) (rd_sk tp m i) (st, ar, be, am) := by
  intro m
  induction m with
  | zero =>
    intro i
    rw [rd_sk, Nat.add_zero, Nat.sub_self]
  | succ m ih =>
    intro i
    rw [rd_sk]
    by_cases c : tp.getD i 0 = 32
    · rw [if_pos c, gr_w_s (G' := (st, ar, be, am)) (gr_sp c hst), ih (i + 1), show i + 1 + m = i + (m + 1) by omega]
    · rw [if_neg c, show i + (m + 1) - i = m + 1 by omega]
theorem rd_sk_T {tp : List Nat} {nm0 nm : Nat → Int32} {st k na : Nat} {op : List Nat} {Ls : lx_L} {am : Nat → Nat} (hst : st < 3) : ∀ m i, rd_T tp nm0 m i st am Ls nm k op na → rd_T tp nm0 (i + m - rd_sk tp m i) (rd_sk tp m i) st am Ls nm k op na := by
  intro m
  induction m with
  | zero =>
    intro i h
    rw [rd_sk, Nat.add_zero, Nat.sub_self]
    exact h
  | succ m ih =>
    intro i h
    rw [rd_sk]
    by_cases c : tp.getD i 0 = 32
    · rw [if_pos c, show i + (m + 1) = i + 1 + m by omega]
      refine ih (i + 1) (fun amF hF => ?_)
      have h1 := h amF (by rw [gr_w_s (G' := (st, lx_ar Ls, lx_be Ls, am)) (gr_sp c hst)]; exact hF)
      rw [bu_sp (Or.inl c)] at h1
      exact h1
    · rw [if_neg c, show i + (m + 1) - i = m + 1 by omega]
      exact h
/-! Reading writes whole terms. -/
def lx_wl (K : Nat) : lx_L → Prop
  | [] => True
  | e :: L => wq 3 e.1 [lx_k (e :: L)] = some [K] ∧ lx_wl (lx_k (e :: L)) L
def lx_w (am : Nat → Nat) : lx_L → Prop
  | [] => True
  | e :: L => (am e.2.1 = 0 → e.1 = []) ∧ (¬ am e.2.1 = 0 → wq 3 e.1 [lx_k (e :: L)] = some []) ∧ lx_wl (lx_k (e :: L)) L
section
variable {am : Nat → Nat} {sg p : List Nat} {be kd : Nat} {L : lx_L}
theorem lx_w_at (h : lx_w am ((sg, be, kd) :: L)) : wq 3 (lx_at am be sg) [lx_k ((sg, be, kd) :: L)] = some [lx_k ((sg, be, kd) :: L)] := by
  obtain ⟨h1, h2, h3⟩ := h
  have h1 : am be = 0 → sg = [] := h1
  unfold lx_at
  by_cases c : am be = 0
  · rw [if_pos c, h1 c, wq]
  · rw [if_neg c, wq_64]
    have h4 := wq_fr (s2 := [lx_k ((sg, be, kd) :: L)]) _ _ _ (h2 c)
    exact h4
theorem lx_w_a (h : lx_w am ((sg, be, kd) :: L)) (hp : tm 3 p (lx_k ((sg, be, kd) :: L))) : lx_w (gr_inc am be) ((lx_at am be sg ++ p, be, kd) :: L) := by
  have e2 : gr_inc am be be = am be + 1 := nup_s
  refine ⟨fun h9 => ?_, fun _ => ?_, h.2.2⟩
  · have h9 : gr_inc am be be = 0 := h9
    omega
  · exact wq_then (lx_w_at h) hp
/-- a new level on top of one that waits -/
theorem lx_w_p {am' : Nat → Nat} {i' kd' : Nat} (h : lx_w am ((sg, be, kd) :: L)) (hp : wq 3 p [lx_k ((sg, be, kd) :: L)] = some [(kd' - 1) + lx_k ((sg, be, kd) :: L)]) (h0 : am' i' = 0) : lx_w am' (([], i', kd') :: (p, be, kd) :: L) := ⟨fun _ => rfl, fun h9 => absurd h0 h9, hp, h.2.2⟩
theorem lx_w_cl : ∀ (L : lx_L) (sg acc : List Nat) (be kd b : Nat), lx_ok am b ((sg, be, kd) :: L) → wq 3 (sg ++ acc) [lx_k ((sg, be, kd) :: L)] = some [] → lx_wl (lx_k ((sg, be, kd) :: L)) L → ∃ s1 b1 k1 L1, lx_cl acc ((sg, be, kd) :: L) = (s1, b1, k1) :: L1 ∧ wq 3 s1 [lx_k ((s1, b1, k1) :: L1)] = some [] ∧ lx_wl (lx_k ((s1, b1, k1) :: L1)) L1 := by
  intro L
  induction L with
  | nil =>
    intro sg acc be kd b h h1 h2
    have h3 : kd = 0 := h.2.1 rfl
    subst h3
    exact ⟨sg ++ acc, be, 0, [], rfl, h1, h2⟩
  | cons a L ih =>
    obtain ⟨sg2, be2, kd2⟩ := a
    intro sg acc be kd b h h1 h2
    by_cases c : 2 ≤ kd
    · obtain ⟨s1, b1, k1, L1, e1, e2, e3⟩ := ih sg2 (sg ++ acc) be2 kd2 be h.2.2.2 (wq_then h2.1 h1) h2.2
      refine ⟨s1, b1, k1, L1, ?_, e2, e3⟩
      rw [lx_cl, if_pos (show 2 ≤ kd from c)]
      exact e1
    · exact ⟨sg ++ acc, be, kd, (sg2, be2, kd2) :: L, by rw [lx_cl, if_neg (show ¬ 2 ≤ kd from c)], h1, h2⟩
theorem tm_leaf {lo c d : Nat} (h1 : ¬ c = 64) (h2 : ¬ c = 92) (h : wo lo c d = true) : tm lo [c] d := by
  unfold tm
  rw [wq_leaf h1 h2 h, wq]
theorem tm_mean {nm : Nat → Int32} {c k : Nat} (h1 : 97 ≤ c) (h2 : c ≤ 122) : ∀ j, j ≤ k → tm 3 [bu_mean nm c k j] k := by
  intro j
  induction j with
  | zero =>
    intro _
    refine tm_leaf (by rw [bu_mean]; omega) (by rw [bu_mean]; omega) ?_
    rw [bu_mean]
    unfold wo
    rw [decide_eq_true_eq]
    omega
  | succ j ih =>
    intro hj
    rw [bu_mean]
    by_cases c1 : nm j = nI c
    · rw [if_pos c1]
      refine tm_leaf (by omega) (by omega) ?_
      unfold wo
      rw [decide_eq_true_eq]
      omega
    · rw [if_neg c1]
      exact ih (by omega)
theorem tm_com {c k : Nat} (h : c = 83 ∨ c = 75 ∨ c = 73) : tm 3 [c] k := by
  refine tm_leaf (by omega) (by omega) ?_
  unfold wo
  rw [decide_eq_true_eq]
  omega
theorem wq_rep {k : Nat} : ∀ n, wq 3 (bu_rep n) [k + 1 + 1] = some [k + 1 + 1] := by
  intro n
  induction n with
  | zero => rw [bu_rep, wq]
  | succ n ih =>
    rw [bu_rep]
    show wq 3 (64 :: 1001 :: bu_rep n) [k + 1 + 1] = _
    rw [wq_64, wq_leaf (by decide) (by decide) (by unfold wo; rw [decide_eq_true_eq]; omega)]
    exact ih
theorem tm_num (n k : Nat) : tm 3 (bu_num n) k := by
  unfold bu_num tm
  show wq 3 (92 :: 92 :: bu_rep n ++ [1000]) [k] = _
  show wq 3 (92 :: 92 :: (bu_rep n ++ [1000])) [k] = _
  rw [wq_92, wq_92]
  refine wq_then (wq_rep n) ?_
  rw [wq_leaf (by decide) (by decide) (by unfold wo; rw [decide_eq_true_eq]; omega), wq]
end
