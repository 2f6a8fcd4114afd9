/-! The reference: reading, the small methods. -/
def kv (k : Nat) : Int32 := if k = 0 then -2 else if k = 1 then -1 else nI (k - 1)
def lx_is (A : Nat → Nat → Int32) (am : Nat → Nat) : lx_L → Prop
  | [] => True
  | e :: L => A 8 L.length = nI (am e.2.1) ∧ A 9 L.length = kv e.2.2 ∧ lx_is A am L
def lx_bg (A : Nat → Nat → Int32) : lx_L → Prop
  | [] => True
  | _ :: L => A 7 L.length = nI (lx_out L).length ∧ lx_bg A L
theorem lx_is_fr {A A' : Nat → Nat → Int32} {am am' : Nat → Nat} : ∀ (L : lx_L), (∀ e ∈ L, am' e.2.1 = am e.2.1) → (∀ j, j < L.length → A' 8 j = A 8 j ∧ A' 9 j = A 9 j) → lx_is A am L → lx_is A' am' L := by
  intro L
  induction L with
  | nil => intro _ _ _; trivial
  | cons a L ih =>
    intro ha hA h
    obtain ⟨h1, h2, h3⟩ := h
    obtain ⟨b1, b2⟩ := hA L.length (by rw [List.length_cons]; omega)
    refine ⟨?_, b2.trans h2, ih (fun e he => ha e (List.mem_cons_of_mem _ he)) (fun j hj => hA j (by rw [List.length_cons]; omega)) h3⟩
    rw [b1, h1, ha a List.mem_cons_self]
theorem lx_bg_fr {A A' : Nat → Nat → Int32} : ∀ (L : lx_L), (∀ j, j < L.length → A' 7 j = A 7 j) → lx_bg A L → lx_bg A' L := by
  intro L
  induction L with
  | nil => intro _ _; trivial
  | cons a L ih =>
    intro hA h
    obtain ⟨h1, h3⟩ := h
    exact ⟨(hA L.length (by rw [List.length_cons]; omega)).trans h1, ih (fun j hj => hA j (by rw [List.length_cons]; omega)) h3⟩
def tx_tp (tp : List Nat) (x : Nat → Int32) (A : Nat → Nat → Int32) : Prop := x 22 = nI tp.length ∧ tp.length ≤ 400 ∧ ∀ j, j < tp.length → A 0 j = nI (tp.getD j 0)
/-- the state while a text is read: place i, k names, nb brackets, counts am, levels Ls, names nm -/
def tx_is (tp : List Nat) (x : Nat → Int32) (A : Nat → Nat → Int32) (i k nb : Nat) (am : Nat → Nat) (Ls : lx_L) (nm : Nat → Int32) : Prop :=
  tx_tp tp x A ∧ x 21 = nI i ∧ x 20 = nI nb ∧ (x 23 = nI 0 ∧ x 3 = -1) ∧ (x 19 = nI k ∧ ∀ j, j < k → A 10 j = nm j) ∧ (x 17 = nI Ls.length ∧ lx_is A am Ls ∧ ((lx_out Ls).length ≤ 2000 → lx_bg A Ls)) ∧ nx_is x A (lx_out Ls)
abbrev tf (x x' : Nat → Int32) : Prop := fx [3, 10, 11, 17, 19, 20, 21, 23] x x'
abbrev ta (A A' : Nat → Nat → Int32) : Prop := fa [4, 7, 8, 9, 10] A A'
theorem nx_is.gt {x : Nat → Int32} {A : Nat → Nat → Int32} {o1 o2 : List Nat} (h : nx_is x A o1) (h1 : 2000 < o1.length) (h2 : 2000 < o2.length) : nx_is x A o2 := by
  obtain ⟨b, b1, b2, b3, b4, b5, b6⟩ := h
  refine ⟨b, Or.inr ⟨h2, ?_⟩, b2, b3, b4, b5, b6⟩
  rcases b1 with ⟨c1, -⟩ | ⟨-, c2⟩
  · omega
  · exact c2
section
variable {l : Launch} {sc : Nat × (Nat → Int32)} {M0 M : mm_M} {Q : mm_O → mm_M → Prop} {x : Nat → Int32} {A : Nat → Nat → Int32} {tp : List Nat} {i k nb : Nat} {am : Nat → Nat} {nm : Nat → Int32} {Ls L : lx_L} {sg : List Nat} {be kd : Nat}
theorem tx_is.mv (h : tx_is tp x A i k nb am Ls nm) {x' : Nat → Int32} {i' : Nat} (f : fx [21] x x') (e : x' 21 = nI i') : tx_is tp x' A i' k nb am Ls nm := by
  obtain ⟨⟨t1, t2, t3⟩, h21, h20, ⟨w1, w2⟩, ⟨k1, k2⟩, ⟨l1, l2, l3⟩, n⟩ := h
  exact ⟨⟨(f 22 (by decide)).trans t1, t2, t3⟩, e, (f 20 (by decide)).trans h20, ⟨(f 23 (by decide)).trans w1, (f 3 (by decide)).trans w2⟩, ⟨(f 19 (by decide)).trans k1, k2⟩, ⟨(f 17 (by decide)).trans l1, l2, l3⟩, n.fr f (fa.rf [] A) (by decide) (by decide) (by decide)⟩
theorem tx_is.br (h : tx_is tp x A i k nb am Ls nm) {nb' : Nat} : tx_is tp (upd x 20 (nI nb')) A i k nb' am Ls nm := by
  have f : fx [20] x (upd x 20 (nI nb')) := fx.up (by decide) _ _
  obtain ⟨⟨t1, t2, t3⟩, h21, h20, ⟨w1, w2⟩, ⟨k1, k2⟩, ⟨l1, l2, l3⟩, n⟩ := h
  exact ⟨⟨(f 22 (by decide)).trans t1, t2, t3⟩, (f 21 (by decide)).trans h21, pk_us, ⟨(f 23 (by decide)).trans w1, (f 3 (by decide)).trans w2⟩, ⟨(f 19 (by decide)).trans k1, k2⟩, ⟨(f 17 (by decide)).trans l1, l2, l3⟩, n.fr f (fa.rf [] A) (by decide) (by decide) (by decide)⟩
theorem c_Mo_fail (h : mo_is M0 M x A) (h23 : x 23 = nI 0) {p : Int32} (hQ : ∀ M', mo_is M0 M' (upd (upd x 23 (nI 1)) 3 p) A → Q (.inl none) M') : mm_Ct l sc Y_Mo_fail M [.ref 54, .int p] Q := by
  refine mm_by k_Mo_fail w_Mo_fail rfl rfl ?_
  refine mg_run 1 rfl ?_
  refine mg_get rfl rfl h.2.1 rfl ?_
  rw [h23]
  refine mg_zeq rfl (by decide) (fun _ => ?_) (fun e => absurd e (by decide))
  refine mg_run 2 rfl ?_
  refine mr_put rfl rfl h rfl rfl rfl (fun M1 q1 => ?_)
  refine mg_run 2 rfl ?_
  refine mr_put rfl rfl q1 rfl rfl rfl (fun M2 q2 => ?_)
  exact mg_vr rfl rfl rfl rfl (hQ M2 q2)
theorem lp_Mo_see (hb : ∀ j, tp.getD j 0 < 256) : ∀ m i (M : mm_M) (x : Nat → Int32), mo_is M0 M x A → tx_tp tp x A → x 21 = nI i → tp.length - i = m → i ≤ tp.length →
    (∀ M' x', mo_is M0 M' x' A → fx [21] x x' → x' 21 = nI (rd_sk tp m i) → Q (.inl (some (.int (if rd_sk tp m i < tp.length then nI (tp.getD (rd_sk tp m i) 0) else -1)))) M') →
    mm_Go l sc Y_Mo_see 0 0 M [some (.ref 54)] [] 0 Q := by
  intro m
  induction m with
  | zero =>
    intro i M x h hT h21 hm hi hQ
    have t2 := hT.2.1
    refine mg_run 1 rfl ?_
    refine mg_get rfl rfl h.2.1 rfl ?_
    rw [h21]
    refine mg_run 1 rfl ?_
    refine mg_get rfl rfl h.2.1 rfl ?_
    rw [hT.1]
    refine mg_ge rfl (by omega) (by omega) (fun _ => ?_) (fun h => absurd h (by omega))
    refine mg_run 1 rfl ?_
    refine mg_get rfl rfl h.2.1 rfl ?_
    rw [h21]
    refine mg_run 1 rfl ?_
    refine mg_get rfl rfl h.2.1 rfl ?_
    rw [hT.1]
    refine mg_ge rfl (by omega) (by omega) (fun _ => ?_) (fun h => absurd h (by omega))
    refine mg_run 1 rfl ?_
    have h9 := hQ M x h (fx.rf _ _) h21
    rw [rd_sk, if_neg (by omega)] at h9
    exact mg_ir rfl rfl rfl rfl h9
  | succ m ih =>
    intro i M x h hT h21 hm hi hQ
    have t2 := hT.2.1
    have hbi := hb i
    have hlt : i < tp.length := by omega
    refine mg_run 1 rfl ?_
    refine mg_get rfl rfl h.2.1 rfl ?_
    rw [h21]
    refine mg_run 1 rfl ?_
    refine mg_get rfl rfl h.2.1 rfl ?_
    rw [hT.1]
    refine mg_ge rfl (by omega) (by omega) (fun h => absurd h (by omega)) (fun _ => ?_)
    refine mg_run 1 rfl ?_
    refine mg_get rfl rfl h.2.1 rfl ?_
    refine mg_run 1 rfl ?_
    refine mg_get rfl rfl h.2.1 rfl ?_
    rw [h21]
    refine mr_ild 0 rfl h (by decide) (show i < 400 by omega) ?_
    rw [hT.2.2 i hlt]
    refine mg_run 1 rfl ?_
    rw [rd_sk] at hQ
    refine mg_ne rfl (by omega) (by decide) (fun c => ?_) (fun c => ?_)
    · refine mg_run 1 rfl ?_
      refine mg_get rfl rfl h.2.1 rfl ?_
      rw [h21]
      refine mg_run 1 rfl ?_
      refine mg_get rfl rfl h.2.1 rfl ?_
      rw [hT.1]
      refine mg_ge rfl (by omega) (by omega) (fun h => absurd h (by omega)) (fun _ => ?_)
      refine mg_run 1 rfl ?_
      refine mg_get rfl rfl h.2.1 rfl ?_
      refine mg_run 1 rfl ?_
      refine mg_get rfl rfl h.2.1 rfl ?_
      rw [h21]
      refine mr_ild 0 rfl h (by decide) (show i < 400 by omega) ?_
      rw [hT.2.2 i hlt]
      refine mg_run 1 rfl ?_
      rw [if_neg c] at hQ
      have h9 := hQ M x h (fx.rf _ _) h21
      rw [if_pos hlt] at h9
      exact mg_ir rfl rfl rfl rfl h9
    · rw [if_pos c] at hQ
      refine mg_run 2 rfl ?_
      refine mg_get rfl rfl h.2.1 rfl ?_
      rw [h21]
      refine mg_run 1 rfl ?_
      refine mg_addN rfl ?_
      refine mr_put rfl rfl h rfl rfl rfl (fun M1 q1 => ?_)
      refine mg_run 1 rfl ?_
      have f : fx [21] x (upd x 21 (nI (i + 1))) := fx.up (by decide) _ _
      exact ih (i + 1) M1 _ q1 ⟨(f 22 (by decide)).trans hT.1, hT.2⟩ pk_us (by omega) (by omega) (fun M' x' p1 p2 p3 => hQ M' x' p1 (f.tr p2) p3)
theorem c_Mo_see (hb : ∀ j, tp.getD j 0 < 256) (h : mo_is M0 M x A) (ht : tx_is tp x A i k nb am Ls nm) (hi : i ≤ tp.length)
    (hY : rd_sk tp (tp.length - i) i < tp.length → ∀ M' x', mo_is M0 M' x' A → fx [21] x x' → tx_is tp x' A (rd_sk tp (tp.length - i) i) k nb am Ls nm → Q (.inl (some (.int (nI (tp.getD (rd_sk tp (tp.length - i) i) 0))))) M')
    (hN : rd_sk tp (tp.length - i) i = tp.length → ∀ M' x', mo_is M0 M' x' A → fx [21] x x' → tx_is tp x' A tp.length k nb am Ls nm → Q (.inl (some (.int (-1)))) M') : mm_Ct l sc Y_Mo_see M [.ref 54] Q := by
  refine mm_by k_Mo_see w_Mo_see rfl rfl ?_
  refine lp_Mo_see hb _ i M x h ht.1 ht.2.1 rfl hi (fun M' x' p1 p2 p3 => ?_)
  obtain ⟨s1, s2, -⟩ := rd_sk_ok (tp := tp) (tp.length - i) i
  by_cases c : rd_sk tp (tp.length - i) i < tp.length
  · rw [if_pos c]
    exact hY c M' x' p1 p2 (ht.mv p2 p3)
  · have e : rd_sk tp (tp.length - i) i = tp.length := by omega
    rw [if_neg c]
    exact hN e M' x' p1 p2 (ht.mv p2 (by rw [p3, e]))
theorem tx_put (h : mo_is M0 M x A) (ht : tx_is tp x A i k nb am ((sg, be, kd) :: L) nm) {v : Nat} (hQ : ∀ M' x' A', mo_is M0 M' x' A' → tf x x' → ta A A' → tx_is tp x' A' i k nb am ((sg ++ [v], be, kd) :: L) nm → Q (.inl none) M') : mm_Ct l sc Y_Mo_put M [.ref 54, .int (xc v)] Q := by
  obtain ⟨⟨t1, t2, t3⟩, h21, h20, ⟨w1, w2⟩, ⟨k1, k2⟩, ⟨l1, l2, l3⟩, n⟩ := ht
  refine c_Mo_put h n (fun M1 x1 A1 q f g n1 => hQ M1 x1 A1 q (f.wk (by decide)) (g.wk (by decide)) ?_)
  have e8 := g 8 (by decide)
  have e9 := g 9 (by decide)
  have e7 := g 7 (by decide)
  have eo : lx_out ((sg, be, kd) :: L) ++ [v] = lx_out ((sg ++ [v], be, kd) :: L) := List.append_assoc _ _ _
  refine ⟨⟨(f 22 (by decide)).trans t1, t2, fun j hj => by rw [g 0 (by decide)]; exact t3 j hj⟩, (f 21 (by decide)).trans h21, (f 20 (by decide)).trans h20, ⟨(f 23 (by decide)).trans w1, (f 3 (by decide)).trans w2⟩, ⟨(f 19 (by decide)).trans k1, fun j hj => by rw [g 10 (by decide)]; exact k2 j hj⟩, ⟨(f 17 (by decide)).trans l1, ?_, ?_⟩, by rw [← eo]; exact n1⟩
  · exact ⟨by rw [e8]; exact l2.1, by rw [e9]; exact l2.2.1, lx_is_fr L (fun _ _ => rfl) (fun j _ => by rw [e8, e9]; exact ⟨rfl, rfl⟩) l2.2.2⟩
  · intro hle
    rw [← eo, List.length_append] at hle
    have h9 := l3 (by omega)
    exact ⟨by rw [e7]; exact h9.1, lx_bg_fr L (fun j _ => by rw [e7]) h9.2⟩
theorem c_Mo_openRaw (h : mo_is M0 M x A) {t s : Nat} (l1 : x 17 = nI t) (hlen : t < 422) (b4 : x 10 = nI s) {v : Int32} (hQ : ∀ M', mo_is M0 M' (upd x 17 (nI (t + 1))) (aup (aup (aup A 7 (upd (A 7) t (nI s))) 8 (upd (aup A 7 (upd (A 7) t (nI s)) 8) t (nI 0))) 9 (upd (aup (aup A 7 (upd (A 7) t (nI s))) 8 (upd (aup A 7 (upd (A 7) t (nI s)) 8) t (nI 0)) 9) t v)) → Q (.inl none) M') : mm_Ct l sc Y_Mo_openTerm M [.ref 54, .int v] Q := by
  refine mm_by k_Mo_openTerm w_Mo_openTerm rfl rfl ?_
  refine mg_run 1 rfl ?_
  refine mg_get rfl rfl h.2.1 rfl ?_
  refine mg_run 1 rfl ?_
  refine mg_get rfl rfl h.2.1 rfl ?_
  rw [l1]
  refine mg_run 1 rfl ?_
  refine mg_get rfl rfl h.2.1 rfl ?_
  rw [b4]
  refine mr_ist 7 rfl h (by decide) (show t < 422 from hlen) (fun M1 q1 => ?_)
  refine mg_run 1 rfl ?_
  refine mg_get rfl rfl q1.2.1 rfl ?_
  refine mg_run 1 rfl ?_
  refine mg_get rfl rfl q1.2.1 rfl ?_
  rw [l1]
  refine mg_run 1 rfl ?_
  refine mr_ist 8 rfl q1 (by decide) (show t < 422 from hlen) (fun M2 q2 => ?_)
  refine mg_run 1 rfl ?_
  refine mg_get rfl rfl q2.2.1 rfl ?_
  refine mg_run 1 rfl ?_
  refine mg_get rfl rfl q2.2.1 rfl ?_
  rw [l1]
  refine mg_run 1 rfl ?_
  refine mr_ist 9 rfl q2 (by decide) (show t < 422 from hlen) (fun M3 q3 => ?_)
  refine mg_run 2 rfl ?_
  refine mg_get rfl rfl q3.2.1 rfl ?_
  rw [l1]
  refine mg_run 1 rfl ?_
  refine mg_addN rfl ?_
  refine mr_put rfl rfl q3 rfl rfl rfl (fun M4 q4 => ?_)
  exact mg_vr rfl rfl rfl rfl (hQ M4 q4)
theorem c_Mo_openTerm (h : mo_is M0 M x A) (ht : tx_is tp x A i k nb am Ls nm) (hlen : Ls.length < 422) (hl : ∀ e ∈ Ls, e.2.1 < be) (hQ : ∀ M' x' A', mo_is M0 M' x' A' → tf x x' → ta A A' → tx_is tp x' A' i k nb (nup am be 0) (([], be, kd) :: Ls) nm → Q (.inl none) M') : mm_Ct l sc Y_Mo_openTerm M [.ref 54, .int (kv kd)] Q := by
  obtain ⟨⟨t1, t2, t3⟩, h21, h20, ⟨w1, w2⟩, ⟨k1, k2⟩, ⟨l1, l2, l3⟩, n⟩ := ht
  obtain ⟨b, b1, b2, b3, b4, b5, b6⟩ := id n
  refine c_Mo_openRaw h l1 hlen b4 (fun M4 q4 => ?_)
  have f : fx [17] x (upd x 17 (nI (Ls.length + 1))) := fx.up (by decide) _ _
  have g : fa [7, 8, 9] A (aup (aup (aup A 7 (upd (A 7) Ls.length (nI b.1.length))) 8 (upd (aup A 7 (upd (A 7) Ls.length (nI b.1.length)) 8) Ls.length (nI 0))) 9 (upd (aup (aup A 7 (upd (A 7) Ls.length (nI b.1.length))) 8 (upd (aup A 7 (upd (A 7) Ls.length (nI b.1.length)) 8) Ls.length (nI 0)) 9) Ls.length (kv kd))) := ((fa.up (by decide) A (upd (A 7) Ls.length (nI b.1.length))).tr (fa.up (by decide) _ _)).tr (fa.up (by decide) _ _)
  refine hQ M4 _ _ q4 (f.wk (by decide)) (g.wk (by decide)) ?_
  refine ⟨⟨(f 22 (by decide)).trans t1, t2, fun j hj => by rw [g 0 (by decide)]; exact t3 j hj⟩, (f 21 (by decide)).trans h21, (f 20 (by decide)).trans h20, ⟨(f 23 (by decide)).trans w1, (f 3 (by decide)).trans w2⟩, ⟨(f 19 (by decide)).trans k1, fun j hj => by rw [g 10 (by decide)]; exact k2 j hj⟩, ⟨pk_us, ?_, ?_⟩, ?_⟩
  · refine ⟨?_, ?_, lx_is_fr Ls (fun e he => nup_n (Nat.ne_of_lt (hl e he))) (fun j hj => ⟨?_, ?_⟩) l2⟩
    · show aup _ 9 _ 8 Ls.length = nI (nup am be 0 be)
      rw [aup_n (by decide), aup_s, pk_us, nup_s]
    · show aup _ 9 _ 9 Ls.length = kv kd
      rw [aup_s, pk_us]
    · rw [aup_n (by decide), aup_s, pk_un (by omega), aup_n (by decide)]
    · rw [aup_s, pk_un (by omega), aup_n (by decide), aup_n (by decide)]
  · intro hle
    have eo : lx_out (([], be, kd) :: Ls) = lx_out Ls := List.append_nil _
    rw [eo] at hle
    have eb : b = (lx_out Ls, 0) := by
      rcases b1 with ⟨-, c⟩ | ⟨c, -⟩
      · exact c
      · omega
    refine ⟨?_, lx_bg_fr Ls (fun j hj => ?_) (l3 hle)⟩
    · rw [aup_n (by decide), aup_n (by decide), aup_s, pk_us, eb]
    · rw [aup_n (by decide), aup_n (by decide), aup_s, pk_un (by omega)]
  · have eo : lx_out (([], be, kd) :: Ls) = lx_out Ls := List.append_nil _
    rw [eo]
    exact n.fr f g (by decide) (by decide) (by decide)
theorem lp_Mo_beginAtom {o9 : List Nat} {p t : Nat} (ht : t < 422) (hp : p ≤ o9.length) (ho : o9.length ≤ 2000) : ∀ m (M : mm_M) (A : Nat → Nat → Int32), mo_is M0 M x A → A 7 t = nI p → p + m ≤ o9.length → (∀ j, j < p + m → A 4 j = xc (o9.getD j 0)) → (∀ j, p + m < j → j ≤ o9.length → A 4 j = xc (o9.getD (j - 1) 0)) →
    (∀ M' A', mo_is M0 M' x A' → fa [4] A A' → (∀ j, j < p → A' 4 j = xc (o9.getD j 0)) → A' 4 p = xc 64 → (∀ j, p < j → j ≤ o9.length → A' 4 j = xc (o9.getD (j - 1) 0)) → Q (.inl none) M') →
    mm_Go l sc Y_Mo_beginAtom 0 0 M [some (.ref 54), some (.int (nI t)), some (.int (nI (p + m)))] [] 48 Q := by
  intro m
  induction m with
  | zero =>
    intro M A h h7 hm h1 h2 hQ
    refine mg_run 2 rfl ?_
    refine mg_get rfl rfl h.2.1 rfl ?_
    refine mg_run 1 rfl ?_
    refine mr_ild 7 rfl h (by decide) (show t < 422 from ht) ?_
    rw [h7]
    refine mg_le rfl (by omega) (by omega) (fun _ => ?_) (fun h => absurd h (by omega))
    refine mg_run 1 rfl ?_
    refine mg_get rfl rfl h.2.1 rfl ?_
    refine mg_run 1 rfl ?_
    refine mg_get rfl rfl h.2.1 rfl ?_
    refine mg_run 1 rfl ?_
    refine mr_ild 7 rfl h (by decide) (show t < 422 from ht) ?_
    rw [h7]
    refine mg_run 1 rfl ?_
    refine mr_ist 4 rfl h (by decide) (show p < 2001 by omega) (fun M1 q1 => ?_)
    refine mg_vr rfl rfl rfl rfl (hQ M1 _ q1 (fa.up (by decide) _ _) (fun j hj => ?_) ?_ (fun j hj hj2 => ?_))
    · rw [aup_s, pk_un (by omega)]
      exact h1 j hj
    · rw [aup_s, pk_us]
      rfl
    · rw [aup_s, pk_un (by omega)]
      exact h2 j hj hj2
  | succ m ih =>
    intro M A h h7 hm h1 h2 hQ
    refine mg_run 2 rfl ?_
    refine mg_get rfl rfl h.2.1 rfl ?_
    refine mg_run 1 rfl ?_
    refine mr_ild 7 rfl h (by decide) (show t < 422 from ht) ?_
    rw [h7]
    refine mg_le rfl (by omega) (by omega) (fun h => absurd h (by omega)) (fun _ => ?_)
    refine mg_run 1 rfl ?_
    refine mg_get rfl rfl h.2.1 rfl ?_
    refine mg_run 2 rfl ?_
    refine mg_get rfl rfl h.2.1 rfl ?_
    refine mg_run 2 rfl ?_
    refine mg_subN rfl (by omega) ?_
    refine mr_ild 4 rfl h (by decide) (show p + (m + 1) - 1 < 2001 by omega) ?_
    rw [h1 (p + (m + 1) - 1) (by omega)]
    refine mr_ist 4 rfl h (by decide) (show p + (m + 1) < 2001 by omega) (fun M1 q1 => ?_)
    refine mg_decN (a := p + m) rfl rfl rfl ?_
    refine mg_run 1 rfl ?_
    refine ih M1 _ q1 (by rw [aup_n (by decide)]; exact h7) (by omega) (fun j hj => ?_) (fun j hj hj2 => ?_) (fun M' A' p1 p2 p3 p4 p5 => hQ M' A' p1 ((fa.up (by decide) _ _).tr p2) p3 p4 p5)
    · rw [aup_s, pk_un (by omega)]
      exact h1 j (by omega)
    · rw [aup_s]
      by_cases e : j = p + (m + 1)
      · subst e
        rw [pk_us]
      · rw [pk_un e]
        exact h2 j (by omega) hj2
theorem ins_getD {a b : List Nat} {j : Nat} : (a ++ 64 :: b).getD j 0 = if j < a.length then (a ++ b).getD j 0 else if j = a.length then 64 else (a ++ b).getD (j - 1) 0 := by
  simp only [List.getD_eq_getElem?_getD]
  by_cases c : j < a.length
  · rw [if_pos c, List.getElem?_append_left c, List.getElem?_append_left c]
  · rw [if_neg c, List.getElem?_append_right (by omega)]
    by_cases c2 : j = a.length
    · rw [if_pos c2, c2, Nat.sub_self]
      rfl
    · rw [if_neg c2, List.getElem?_append_right (by omega), show j - a.length = (j - 1 - a.length) + 1 by omega]
      rfl
theorem c_Mo_beginAtom (h : mo_is M0 M x A) (ht : tx_is tp x A i k nb am ((sg, be, kd) :: L) nm) (hl : ∀ e ∈ L, e.2.1 < be) (ha : am be ≤ 1000) (hlen : L.length < 422) (hQ : ∀ M' x' A', mo_is M0 M' x' A' → tf x x' → ta A A' → tx_is tp x' A' i k nb (gr_inc am be) ((lx_at am be sg, be, kd) :: L) nm → Q (.inl none) M') : mm_Ct l sc Y_Mo_beginAtom M [.ref 54] Q := by
  obtain ⟨⟨t1, t2, t3⟩, h21, h20, ⟨w1, w2⟩, ⟨k1, k2⟩, ⟨l1, l2, l3⟩, n⟩ := ht
  have l1 : x 17 = nI (L.length + 1) := l1
  obtain ⟨m1, m2, m3⟩ := id l2
  have m1 : A 8 L.length = nI (am be) := m1
  have m2 : A 9 L.length = kv kd := m2
  refine mm_by k_Mo_beginAtom w_Mo_beginAtom rfl rfl ?_
  refine mg_run 1 rfl ?_
  refine mg_get rfl rfl h.2.1 rfl ?_
  rw [l1]
  refine mg_run 1 rfl ?_
  refine mg_subN rfl (by omega) ?_
  rw [Nat.add_sub_cancel]
  refine mg_run 2 rfl ?_
  refine mg_get rfl rfl h.2.1 rfl ?_
  refine mg_run 2 rfl ?_
  refine mr_ild 8 rfl h (by decide) (show L.length < 422 from hlen) ?_
  rw [m1]
  refine mg_run 1 rfl ?_
  refine mg_addN rfl ?_
  refine mr_ist 8 rfl h (by decide) (show L.length < 422 from hlen) (fun M1 q1 => ?_)
  refine mg_run 1 rfl ?_
  refine mg_get rfl rfl q1.2.1 rfl ?_
  refine mg_run 1 rfl ?_
  refine mr_ild 8 rfl q1 (by decide) (show L.length < 422 from hlen) ?_
  rw [aup_s, pk_us]
  refine mg_run 1 rfl ?_
  have g1 : fa [8] A (aup A 8 (upd (A 8) L.length (nI (am be + 1)))) := fa.up (by decide) _ _
  have n1 : nx_is x (aup A 8 (upd (A 8) L.length (nI (am be + 1)))) (lx_out ((sg, be, kd) :: L)) := n.fr (fx.rf [] x) g1 (by decide) (by decide) (by decide)
  have fin : ∀ (x' : Nat → Int32) (A' : Nat → Nat → Int32), fx [10, 11] x x' → fa [4] (aup A 8 (upd (A 8) L.length (nI (am be + 1)))) A' → nx_is x' A' (lx_out ((lx_at am be sg, be, kd) :: L)) → tx_is tp x' A' i k nb (gr_inc am be) ((lx_at am be sg, be, kd) :: L) nm := by
    intro x' A' f g n'
    refine ⟨⟨(f 22 (by decide)).trans t1, t2, fun j hj => by rw [g 0 (by decide), g1 0 (by decide)]; exact t3 j hj⟩, (f 21 (by decide)).trans h21, (f 20 (by decide)).trans h20, ⟨(f 23 (by decide)).trans w1, (f 3 (by decide)).trans w2⟩, ⟨(f 19 (by decide)).trans k1, fun j hj => by rw [g 10 (by decide), g1 10 (by decide)]; exact k2 j hj⟩, ⟨(f 17 (by decide)).trans l1, ?_, ?_⟩, n'⟩
    · refine ⟨?_, ?_, lx_is_fr L (fun e he => nup_n (Nat.ne_of_lt (hl e he))) (fun j hj => ⟨?_, ?_⟩) m3⟩
      · show A' 8 L.length = nI (gr_inc am be be)
        rw [g 8 (by decide), aup_s, pk_us]
        unfold gr_inc
        rw [nup_s]
      · show A' 9 L.length = kv kd
        rw [g 9 (by decide), g1 9 (by decide)]
        exact m2
      · rw [g 8 (by decide), aup_s, pk_un (by omega)]
      · rw [g 9 (by decide), g1 9 (by decide)]
    · intro hle
      have hle2 : (lx_out ((sg, be, kd) :: L)).length ≤ 2000 := by
        have e1 : (lx_out ((sg, be, kd) :: L)).length = (lx_out L).length + sg.length := List.length_append
        have e2 : (lx_out ((lx_at am be sg, be, kd) :: L)).length = (lx_out L).length + (lx_at am be sg).length := List.length_append
        have e3 : sg.length ≤ (lx_at am be sg).length := by
          unfold lx_at
          split
          · exact Nat.le_refl _
          · rw [List.length_cons]
            omega
        omega
      have h9 := l3 hle2
      exact ⟨by rw [g 7 (by decide), g1 7 (by decide)]; exact h9.1, lx_bg_fr L (fun j _ => by rw [g 7 (by decide), g1 7 (by decide)]) h9.2⟩
  refine mg_ne rfl (by omega) (by decide) (fun c => ?_) (fun c => ?_)
  · have c0 : ¬ am be = 0 := by omega
    have ea : lx_at am be sg = 64 :: sg := if_neg c0
    refine mg_run 2 rfl ?_
    refine mg_callV [.int (xc 1000)] rfl rfl rfl q1.2.1 rfl rfl rfl rfl (c_Mo_put q1 n1 (fun M2 x2 A2 q2 f2 g2 n2 => ?_))
    obtain ⟨b, b1, b2, b3, b4, b5, b6⟩ := id n2
    have eo : lx_out ((sg, be, kd) :: L) = lx_out L ++ sg := rfl
    have eo2 : lx_out ((lx_at am be sg, be, kd) :: L) = lx_out L ++ 64 :: sg := by rw [ea]; rfl
    have el : (lx_out ((sg, be, kd) :: L) ++ [1000]).length = (lx_out L ++ 64 :: sg).length := by rw [eo]; simp
    refine mg_run 1 rfl ?_
    refine mg_get rfl rfl q2.2.1 rfl ?_
    rw [b5]
    refine mg_zeq rfl (by omega) (fun c2 => ?_) (fun c2 => ?_)
    · obtain ⟨o1, o2⟩ := b1.ok c2
      subst o2
      have hL : (lx_out ((sg, be, kd) :: L) ++ [1000]).length = (lx_out L ++ sg).length + 1 := by rw [eo, List.length_append]; rfl
      have hp : A2 7 L.length = nI (lx_out L).length := by
        rw [g2 7 (by decide), g1 7 (by decide)]
        exact (l3 (by rw [eo]; omega)).1
      have hpl : (lx_out L).length ≤ (lx_out L ++ sg).length := by rw [List.length_append]; omega
      refine mg_run 1 rfl ?_
      refine mg_get rfl rfl q2.2.1 rfl ?_
      rw [b4]
      refine mg_run 1 rfl ?_
      show mm_Go l sc Y_Mo_beginAtom 0 0 M2 _ (.int (nI 1) :: .int (nI (lx_out ((sg, be, kd) :: L) ++ [1000]).length) :: _) _ Q
      rw [hL]
      refine mg_subN rfl (by omega) ?_
      rw [Nat.add_sub_cancel]
      refine mg_run 1 rfl ?_
      have s0 : (lx_out L ++ sg).length = (lx_out L).length + sg.length := List.length_append
      rw [s0]
      refine lp_Mo_beginAtom (o9 := lx_out L ++ sg) hlen hpl (by omega) sg.length M2 A2 q2 hp (by omega) (fun j hj => ?_) (fun j hj hj2 => absurd hj2 (by omega)) (fun M3 A3 q3 g3 p1 p2 p3 => ?_)
      · have h9 := b6 j (by show j < (lx_out ((sg, be, kd) :: L) ++ [1000]).length; omega)
        rw [h9]
        show xc ((lx_out L ++ sg ++ [1000]).getD j 0) = _
        simp only [List.getD_eq_getElem?_getD]
        rw [List.getElem?_append_left (by omega)]
      · refine hQ M3 x2 A3 q3 (f2.wk (by decide)) ((g1.wk (by decide)).tr ((g2.wk (by decide)).tr (g3.wk (by decide)))) (fin x2 A3 f2 (g2.tr g3) ?_)
        rw [eo2]
        have e5 : (lx_out L ++ 64 :: sg).length = (lx_out L ++ sg).length + 1 := by rw [← el, hL]
        refine ⟨(lx_out L ++ 64 :: sg, 0), Or.inl ⟨by omega, rfl⟩, by show (lx_out L ++ 64 :: sg).length ≤ 2000; omega, Nat.zero_le _, ?_, ?_, fun j hj => ?_⟩
        · rw [b4]
          show nI (lx_out ((sg, be, kd) :: L) ++ [1000]).length = nI (lx_out L ++ 64 :: sg).length
          rw [el]
        · rw [b5]
        · have hj : j < (lx_out L ++ 64 :: sg).length := hj
          show A3 4 j = xc ((lx_out L ++ 64 :: sg).getD j 0)
          rw [ins_getD]
          by_cases d1 : j < (lx_out L).length
          · rw [if_pos d1]
            exact p1 j d1
          · rw [if_neg d1]
            by_cases d2 : j = (lx_out L).length
            · rw [if_pos d2, d2]
              exact p2
            · rw [if_neg d2]
              exact p3 j (by omega) (by omega)
    · have o1 := b1.not c2
      refine mg_vr rfl rfl rfl rfl (hQ M2 x2 A2 q2 (f2.wk (by decide)) ((g1.wk (by decide)).tr (g2.wk (by decide))) (fin x2 A2 f2 g2 ?_))
      rw [eo2]
      exact n2.gt o1 (by omega)
  · have c0 : am be = 0 := by omega
    have ea : lx_at am be sg = sg := if_pos c0
    refine mg_vr rfl rfl rfl rfl (hQ M1 x _ q1 (fx.rf _ _) (g1.wk (by decide)) (fin x _ (fx.rf _ _) (fa.rf _ _) ?_))
    rw [ea]
    exact n1
theorem lp_Mo_variable (h : mo_is M0 M x A) (ht : tx_is tp x A i k nb am ((sg, be, kd) :: L) nm) (hk : k ≤ 400) {c : Nat} (hc1 : 97 ≤ c) (hc2 : c ≤ 122) : ∀ j, j ≤ k → (∀ M' x' A', mo_is M0 M' x' A' → tf x x' → ta A A' → tx_is tp x' A' i k nb am ((sg ++ [bu_mean nm c k j], be, kd) :: L) nm → Q (.inl none) M') → mm_Go l sc Y_Mo_variable 0 0 M [some (.ref 54), some (.int (nI c)), some (.int (nI j + -1))] [] 7 Q := by
  obtain ⟨⟨t1, t2, t3⟩, h21, h20, ⟨w1, w2⟩, ⟨k1, k2⟩, ⟨l1, l2, l3⟩, n⟩ := id ht
  intro j
  induction j with
  | zero =>
    intro hj hQ
    have e : nI 0 + -1 = (-1 : Int32) := by decide
    rw [e]
    refine mg_run 1 rfl ?_
    refine mg_zltM rfl ?_
    refine mg_run 2 rfl ?_
    refine mg_zltM rfl ?_
    refine mg_run 2 rfl ?_
    refine mg_addN rfl ?_
    rw [← xc_let hc1 hc2]
    refine mg_callV [.int (xc c)] rfl rfl rfl h.2.1 rfl rfl rfl rfl (tx_put h ht (fun M1 x1 A1 q1 f1 g1 u1 => ?_))
    exact mg_vr rfl rfl rfl rfl (hQ M1 x1 A1 q1 f1 g1 u1)
  | succ j ih =>
    intro hj hQ
    rw [pk_m1]
    refine mg_run 1 rfl ?_
    refine mg_zlt rfl (by omega) ?_
    refine mg_run 1 rfl ?_
    refine mg_get rfl rfl h.2.1 rfl ?_
    refine mg_run 1 rfl ?_
    refine mr_ild 10 rfl h (by decide) (show j < 400 by omega) ?_
    rw [k2 j (by omega)]
    refine mg_run 1 rfl ?_
    rw [bu_mean] at hQ
    refine mg_icmp rfl (fun e => ?_) (fun e => ?_)
    · have e : nm j = nI c := e
      rw [if_pos e] at hQ
      refine mg_run 2 rfl ?_
      refine mg_zlt rfl (by omega) ?_
      refine mg_run 1 rfl ?_
      refine mg_get rfl rfl h.2.1 rfl ?_
      rw [k1]
      refine mg_run 1 rfl ?_
      refine mg_subN rfl (by omega) ?_
      refine mg_run 1 rfl ?_
      refine mg_subN rfl (by omega) ?_
      refine mg_run 1 rfl ?_
      have e2 : nI (k - 1 - j) = xc (1000 + k - 1 - j) := by rw [xc_ix (by omega), show 1000 + k - 1 - j - 1000 = k - 1 - j by omega]
      rw [e2]
      refine mg_callV [.int (xc (1000 + k - 1 - j))] rfl rfl rfl h.2.1 rfl rfl rfl rfl (tx_put h ht (fun M1 x1 A1 q1 f1 g1 u1 => ?_))
      exact mg_vr rfl rfl rfl rfl (hQ M1 x1 A1 q1 f1 g1 u1)
    · have e : ¬ nm j = nI c := e
      rw [if_neg e] at hQ
      refine mg_run 2 rfl ?_
      exact ih (by omega) hQ
theorem c_Mo_variable (h : mo_is M0 M x A) (ht : tx_is tp x A i k nb am ((sg, be, kd) :: L) nm) (hk : k ≤ 400) {c : Nat} (hc1 : 97 ≤ c) (hc2 : c ≤ 122) (hQ : ∀ M' x' A', mo_is M0 M' x' A' → tf x x' → ta A A' → tx_is tp x' A' i k nb am ((sg ++ [bu_mean nm c k k], be, kd) :: L) nm → Q (.inl none) M') : mm_Ct l sc Y_Mo_variable M [.ref 54, .int (nI c)] Q := by
  refine mm_by k_Mo_variable w_Mo_variable rfl rfl ?_
  refine mg_run 1 rfl ?_
  refine mg_get rfl rfl h.2.1 rfl ?_
  rw [ht.2.2.2.2.1.1]
  refine mg_run 1 rfl ?_
  refine mg_sub1 rfl ?_
  refine mg_run 1 rfl ?_
  exact lp_Mo_variable h ht hk hc1 hc2 k (Nat.le_refl _) hQ
end
