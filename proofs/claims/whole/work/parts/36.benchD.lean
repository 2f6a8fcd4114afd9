/-! The bench: numeral, bind, feed. -/
section
variable {l : Launch} {sc : Nat × (Nat → Int32)} {M : mm_M} {Q : mm_O → mm_M → Prop} {sl : Nat → List Nat} {tp : List Nat} {pl : Int32} {o : Nat}
theorem lp_LB_timesApplied {r : List Nat} {t g tm : Nat} (hb : ∀ i, r.getD i 0 < 10000) (hT : te_is M t r g) (htm : tm ≤ 1000) : ∀ m i, tm - i = m → i ≤ tm → Q (.inl (some (.int (te_fv (te_ta r m i))))) M → mm_Go l sc Y_LB_timesApplied 0 0 M [some (.ref t), some (.int (nI tm)), some (.int (nI i))] [] 9 Q := by
  have h4 := hT.len
  obtain ⟨f, t1, -⟩ := id hT
  intro m
  induction m with
  | zero =>
    intro i hm hi hQ
    have e : tm = i := by omega
    subst e
    have hb0 := hb (2 * tm)
    refine mg_run 2 rfl ?_
    refine mg_ge rfl (by omega) (by omega) (fun _ => ?_) (fun h => absurd h (by omega))
    refine mg_run 3 rfl ?_
    refine mg_mulN rfl ?_
    refine mg_callV [.int (nI (2 * tm))] rfl rfl rfl t1 rfl rfl rfl rfl (c_Te_at hT (by omega) ?_)
    refine mg_run 1 rfl ?_
    refine mg_ne rfl (by omega) (by decide) (fun h => ?_) (fun h => ?_)
    · refine mg_run 1 rfl ?_
      refine mg_ir rfl rfl rfl rfl ?_
      rw [te_ta, if_neg h] at hQ
      exact hQ
    · refine mg_run 2 rfl ?_
      refine mg_ir rfl rfl rfl rfl ?_
      rw [te_ta, if_pos h] at hQ
      exact hQ
  | succ m ih =>
    intro i hm hi hQ
    have hb0 := hb (2 * i)
    have hb1 := hb (2 * i + 1)
    refine mg_run 2 rfl ?_
    refine mg_ge rfl (by omega) (by omega) (fun h => absurd h (by omega)) (fun _ => ?_)
    refine mg_run 3 rfl ?_
    refine mg_mulN rfl ?_
    refine mg_callV [.int (nI (2 * i))] rfl rfl rfl t1 rfl rfl rfl rfl (c_Te_at hT (by omega) ?_)
    refine mg_run 1 rfl ?_
    refine mg_ne rfl (by omega) (by decide) (fun h => ?_) (fun h => ?_)
    · refine mg_run 1 rfl ?_
      refine mg_ir rfl rfl rfl rfl ?_
      rw [te_ta, if_neg (fun h9 => h h9.1)] at hQ
      exact hQ
    · refine mg_run 3 rfl ?_
      refine mg_mulN rfl ?_
      refine mg_run 1 rfl ?_
      refine mg_addN rfl ?_
      refine mg_callV [.int (nI (2 * i + 1))] rfl rfl rfl t1 rfl rfl rfl rfl (c_Te_at hT (by omega) ?_)
      refine mg_run 1 rfl ?_
      refine mg_eq rfl (by omega) (by decide) (fun h7 => ?_) (fun h7 => ?_)
      · refine mg_incN rfl rfl rfl ?_
        refine mg_run 1 rfl ?_
        rw [te_ta, if_pos ⟨h, h7⟩] at hQ
        exact ih (i + 1) (by omega) (by omega) hQ
      · refine mg_run 1 rfl ?_
        refine mg_ir rfl rfl rfl rfl ?_
        rw [te_ta, if_neg (fun h9 => h7 h9.2)] at hQ
        exact hQ
/-- what a row counts as -/
def te_nu (r : List Nat) : Int32 := te_fv (te_ta r (r.length / 2) 0)
theorem c_LB_timesApplied {r : List Nat} {t g : Nat} (hb : ∀ i, r.getD i 0 < 10000) (hT : te_is M t r g) (hQ : Q (.inl (some (.int (te_nu r)))) M) : mm_Ct l sc Y_LB_timesApplied M [.ref t] Q := by
  have h4 := hT.len
  obtain ⟨f, t1, -⟩ := id hT
  refine mm_by k_LB_timesApplied w_LB_timesApplied rfl rfl ?_
  refine mg_run 1 rfl ?_
  refine mg_callV [] rfl rfl rfl t1 rfl rfl rfl rfl (c_Te_length hT ?_)
  refine mg_run 1 rfl ?_
  refine mg_idiv rfl (by decide) ?_
  rw [pk_div (by omega) (by decide) (by decide)]
  refine mg_run 3 rfl ?_
  exact lp_LB_timesApplied hb hT (by omega) _ 0 rfl (Nat.zero_le _) hQ
theorem te_is_wr {t : Nat} {b : List Nat × Nat} {r : List Nat} (h : te_is M t b.1 b.2) (e : b = (r, 0)) : te_is M t r 0 := by
  subst e
  exact h
/-- the row of a numeral's question -/
def te_nq (r : List Nat) : List Nat := [64] ++ [64] ++ r ++ [1] ++ [2]
def te_nr (N : Nat) (r : List Nat) : Int32 := if (te_rn N (te_nq r)).2.2 = 1 then te_nu (te_rn N (te_nq r)).1 else -2
theorem te_rn_o : ∀ (N : Nat) (r : List Nat), (te_rn N r).2.2 < 4 := by
  intro N
  induction N with
  | zero =>
    intro r
    rw [te_rn]
    show (if _ then _ else _) < 4
    split <;> omega
  | succ N ih =>
    intro r
    rw [te_rn]
    split
    · show 1 < 4
      omega
    · split
      · exact ih _
      · show 3 < 4
        omega
theorem te_rn_P (P : List Nat → Prop) (hP2 : ∀ r i, P r → te_fr r r.length 0 = some i → (te_step r i).length ≤ 2000 → P (te_step r i)) : ∀ (N : Nat) (r : List Nat), P r → P (te_rn N r).1 := by
  intro N
  induction N with
  | zero => intro r h; exact h
  | succ N ih =>
    intro r h
    rw [te_rn]
    split
    · exact h
    · next i hi =>
      split
      · next hl => exact ih _ (hP2 r i h hi hl)
      · exact h
theorem c_LB_numeral (hl : l.stackTraces = false) (P : List Nat → Prop) (hP1 : ∀ r, P r → ∀ i, r.getD i 0 < 10000) (hP2 : ∀ r i, P r → te_fr r r.length 0 = some i → (te_step r i).length ≤ 2000 → P (te_step r i)) (h : lb_is M sl tp pl o) {a N : Nat} (ha : a < 12) (hN1 : 1 ≤ N) (hN2 : N ≤ 400) (hn : 0 < (sl a).length) (hPr : P (te_nq (sl a)))
    (hQ : (te_nq (sl a)).length ≤ 2000 → ∀ M', lb_is M' sl tp pl (te_rn N (te_nq (sl a))).2.2 → mm_on mm_bn M M' → Q (.inl (some (.int (te_nr N (sl a))))) M')
    (hN : 2000 < (te_nq (sl a)).length → ∀ M', lb_is M' sl tp pl o → mm_on mm_bn M M' → Q (.inr 1) M') : mm_Ct l sc Y_LB_numeral M [.ref 0, .int (nI a), .int (nI N)] Q := by
  obtain ⟨ga, hga⟩ := h.2.1 a ha
  obtain ⟨rw0, gw0, hw0⟩ := h.2.2.1
  obtain ⟨fw, w1, -⟩ := id hw0
  refine mm_by k_LB_numeral w_LB_numeral rfl rfl ?_
  refine mg_run 2 rfl ?_
  refine mg_callV [.int (nI a)] rfl rfl rfl h.1.1 rfl rfl rfl rfl (c_LB_requireSlot ha ?_)
  refine mg_run 2 rfl ?_
  refine mg_callV [.int (nI N)] rfl rfl rfl h.1.1 rfl rfl rfl rfl (c_LB_requireSteps hN1 hN2 ?_)
  refine mg_run 2 rfl ?_
  refine mg_callV [.int (nI a)] rfl rfl rfl h.1.1 rfl rfl rfl rfl (c_LB_requireTerm h ha hn ?_)
  refine mg_run 1 rfl ?_
  refine mg_get rfl rfl h.1.1 rfl ?_
  refine mg_callV [] rfl rfl rfl w1 rfl rfl rfl rfl (c_Te_clear hw0 (fun M1 p1 p2 => ?_))
  have h1 := h.work ⟨_, _, p1⟩ p2.te
  obtain ⟨fw1, w2, -⟩ := id p1
  refine mg_run 1 rfl ?_
  refine mg_get rfl rfl h1.1.1 rfl ?_
  refine mg_run 1 rfl ?_
  refine mg_callV [.int (nI 64)] rfl rfl rfl w2 rfl rfl rfl rfl (c_Te_add p1 (fun M2 q1 q2 => ?_))
  have h2 := h1.work ⟨_, _, q1⟩ q2.te
  obtain ⟨fw2, w3, -⟩ := id q1
  refine mg_run 1 rfl ?_
  refine mg_get rfl rfl h2.1.1 rfl ?_
  refine mg_run 1 rfl ?_
  refine mg_callV [.int (nI 64)] rfl rfl rfl w3 rfl rfl rfl rfl (c_Te_add q1 (fun M3 v1 v2 => ?_))
  have h3 := h2.work ⟨_, _, v1⟩ v2.te
  have u3 : wr (te_add (te_add ([], 0) 64) 64) ([64] ++ [64]) := (wr0.add 64).add 64
  obtain ⟨fw3, w4, -⟩ := id v1
  have A3 := ((hga.keep p2 (sl_w ha).1.1 (sl_w ha).1.2).keep q2 (sl_w ha).1.1 (sl_w ha).1.2).keep v2 (sl_w ha).1.1 (sl_w ha).1.2
  refine mg_run 1 rfl ?_
  refine mg_get rfl rfl h3.1.1 rfl ?_
  refine mg_run 1 rfl ?_
  refine mg_get rfl rfl h3.1.1 rfl ?_
  refine mg_run 1 rfl ?_
  refine mg_aldN rfl h3.1.2 (by decide) ha (lb_f12 ha) ?_
  refine mg_callV [.ref (2 + 2 * a)] rfl rfl rfl w4 rfl rfl rfl rfl (c_Te_addAll v1 A3 (sl_w ha).1 (fun M4 x1 x2 => ?_))
  have h4 := h3.work ⟨_, _, x1⟩ x2.te
  have u4 := u3.adds (sl a)
  obtain ⟨fw4, w5, -⟩ := id x1
  refine mg_run 1 rfl ?_
  refine mg_get rfl rfl h4.1.1 rfl ?_
  refine mg_run 1 rfl ?_
  refine mg_callV [.int (nI 1)] rfl rfl rfl w5 rfl rfl rfl rfl (c_Te_add x1 (fun M5 y1 y2 => ?_))
  have h5 := h4.work ⟨_, _, y1⟩ y2.te
  have u5 := u4.add 1
  obtain ⟨fw5, w6, -⟩ := id y1
  refine mg_run 1 rfl ?_
  refine mg_get rfl rfl h5.1.1 rfl ?_
  refine mg_run 1 rfl ?_
  refine mg_callV [.int (nI 2)] rfl rfl rfl w6 rfl rfl rfl rfl (c_Te_add y1 (fun M6 z1 z2 => ?_))
  have h6 := h5.work ⟨_, _, z1⟩ z2.te
  have u6 : wr _ (te_nq (sl a)) := u5.add 2
  obtain ⟨fw6, w7, -, -, -, gle⟩ := id z1
  have hon : mm_on mm_bn M M6 := (((((p2.te.bn (by decide)).tr (q2.te.bn (by decide))).tr (v2.te.bn (by decide))).tr (x2.te.bn (by decide))).tr (y2.te.bn (by decide))).tr (z2.te.bn (by decide))
  refine mg_run 1 rfl ?_
  refine mg_get rfl rfl h6.1.1 rfl ?_
  refine mg_callV [] rfl rfl rfl w7 rfl rfl rfl rfl (c_Te_isTooGreat z1 ?_)
  refine mg_zeq rfl (by omega) (fun h0 => ?_) (fun h0 => ?_)
  · obtain ⟨e1, e2⟩ := u6.ok h0
    have z1' : te_is M6 26 (te_nq (sl a)) 0 := te_is_wr z1 e2
    obtain ⟨ra, rb, dep, r1, g1, r2, g2, hR, hA, hB⟩ := h6.2.2.2.2.2.2.2.1
    have hap : te_ap ra 26 := by
      obtain ⟨-, -, r3⟩ := hR
      unfold te_ap te_P
      rcases r3 with ⟨h1, h2⟩ | ⟨h1, h2⟩ <;> omega
    refine mg_run 1 rfl ?_
    refine mg_get rfl rfl h6.1.1 rfl ?_
    refine mg_run 1 rfl ?_
    refine mg_get rfl rfl h6.1.1 rfl ?_
    refine mg_run 1 rfl ?_
    refine mg_callV [.ref 26, .int (nI N)] rfl rfl rfl hR.1 rfl rfl rfl rfl (c_Re_run (bf := (r2, g2)) P hP1 hP2 (by omega) hPr hR hA hB z1' hap (fun M7 a1 b1 dep1 ga1 bf1 j1 j2 j3 j4 => ?_))
    have hon1 : mm_on (mm_rg 39 46) M6 M7 := j4
    have h7 := h6.red ⟨a1, b1, dep1, _, _, _, _, j1, j2, j3⟩ hon1
    have hon2 := hon.tr (hon1.bn (by decide))
    have ho := te_rn_o N (te_nq (sl a))
    refine mg_run 2 rfl ?_
    refine mg_get rfl rfl h7.1.1 rfl ?_
    refine mg_callV [] rfl rfl rfl j1.1 rfl rfl rfl rfl (c_Re_outcome j1 ?_)
    refine mg_run 1 rfl ?_
    have hQ := hQ e1 M7 h7 hon2
    refine mg_ne rfl (by omega) (by decide) (fun h9 => ?_) (fun h9 => ?_)
    · refine mg_run 1 rfl ?_
      refine mg_ir rfl rfl rfl rfl ?_
      rw [te_nr, if_neg h9] at hQ
      exact hQ
    · refine mg_run 1 rfl ?_
      refine mg_get rfl rfl h7.1.1 rfl ?_
      refine mg_callV [] rfl rfl rfl j1.1 rfl rfl rfl rfl (c_Re_result j1 ?_)
      rw [te_nr, if_pos h9] at hQ
      refine mg_callS [.ref a1] rfl rfl rfl rfl rfl rfl (c_LB_timesApplied (hP1 _ (te_rn_P P hP2 N _ hPr)) j2 ?_)
      refine mg_run 1 rfl ?_
      exact mg_ir rfl rfl rfl rfl hQ
  · exact mg_throw mm_xs12 rfl rfl rfl rfl rfl rfl rfl hl (hN (u6.not h0) M6 h6 hon)
theorem c_LB_numeralX (hl : l.stackTraces = false) (h : lb_is M sl tp pl o) {x y : Int32} (hx : no_slot x ∨ no_steps y) (hQ : Q (.inr 0) M) : mm_Ct l sc Y_LB_numeral M [.ref 0, .int x, .int y] Q := by
  refine mm_by k_LB_numeral w_LB_numeral rfl rfl ?_
  refine mg_run 2 rfl ?_
  rcases slot_or x with h1 | ⟨a, ha, rfl⟩
  · exact mg_callV [.int x] rfl rfl rfl h.1.1 rfl rfl rfl rfl (c_LB_requireSlotX hl h1 hQ)
  · refine mg_callV [.int (nI a)] rfl rfl rfl h.1.1 rfl rfl rfl rfl (c_LB_requireSlot ha ?_)
    refine mg_run 2 rfl ?_
    have h2 : no_steps y := hx.elim (fun h9 => absurd h9 (no_nI ha)) id
    exact mg_callV [.int y] rfl rfl rfl h.1.1 rfl rfl rfl rfl (c_LB_requireStepsX hl h2 hQ)
theorem c_LB_numeralE (hl : l.stackTraces = false) (h : lb_is M sl tp pl o) {a N : Nat} (ha : a < 12) (hN1 : 1 ≤ N) (hN2 : N ≤ 400) (hn : (sl a).length = 0) (hQ : Q (.inr 1) M) : mm_Ct l sc Y_LB_numeral M [.ref 0, .int (nI a), .int (nI N)] Q := by
  refine mm_by k_LB_numeral w_LB_numeral rfl rfl ?_
  refine mg_run 2 rfl ?_
  refine mg_callV [.int (nI a)] rfl rfl rfl h.1.1 rfl rfl rfl rfl (c_LB_requireSlot ha ?_)
  refine mg_run 2 rfl ?_
  refine mg_callV [.int (nI N)] rfl rfl rfl h.1.1 rfl rfl rfl rfl (c_LB_requireSteps hN1 hN2 ?_)
  refine mg_run 2 rfl ?_
  exact mg_callV [.int (nI a)] rfl rfl rfl h.1.1 rfl rfl rfl rfl (c_LB_requireTermX hl h ha hn hQ)
theorem lb_top.on26 {M' : mm_M} (h : lb_top M pl) (hon : mm_on (te_P 26) M M') : lb_top M' pl := h.keep hon.te (by decide)
theorem lb_top.on28 {M' : mm_M} (h : lb_top M pl) (hon : mm_on (te_P 28) M M') : lb_top M' pl := h.keep hon.te (by decide)
theorem de_is.on26 {M' : mm_M} {dep : Nat → Int32} (h : de_is M 36 dep) (hon : mm_on (te_P 26) M M') : de_is M' 36 dep := h.keep hon.te (mm_rg_n (by omega)) (mm_rg_n (by omega)) (mm_rg_n (by omega))
theorem mg_andN {Y : mm_Y} {k2 n k : Nat} {L : mm_L} {S : List Value} {pc nx aux : Nat} {v x m : Int32} (hq : mm_at (mm_tab Y) pc = some (.iand, nx, aux, v)) (hm : m.toBitVec.toNat = 2 ^ k - 1) (kk : mm_Go l sc Y k2 n M L (.int (nI (x.toBitVec.toNat % 2 ^ k)) :: S) nx Q) : mm_Go l sc Y k2 n M L (.int m :: .int x :: S) pc Q := by
  refine mg_x (M' := M) (L' := L) (S' := .int (x &&& m) :: S) hq rfl ?_
  rw [pk_and x k hm]
  exact kk
theorem lp_LB_bind {r : List Nat} {t g v : Nat} {x1 : Int32} {dep : Nat → Int32} (hb : ∀ i, r.getD i 0 < 10000) (hv : v < 2 ^ 31) (hap : te_ap 26 t) (hD : ∀ j, j < r.length → dep j = nI (te_D r 0 j) ∧ te_D r 0 j < 10000) : ∀ m i (x5 : Option Value) (M : mm_M) (bf : List Nat × Nat) (out : List Nat), lb_top M pl → te_is M t r g → de_is M 36 dep → te_is M 26 bf.1 bf.2 → wr bf out → r.length - i = m → i ≤ r.length →
    (∀ M' bf' i' x5', te_is M' 26 bf'.1 bf'.2 → wr bf' (out ++ te_pc (te_bd r v) i m) → mm_on (te_P 26) M M' → mm_Go l sc Y_LB_bind 3 18 M' [some (.ref 0), some (.int x1), some (.int (nI v)), some (.ref t), some (.int (nI i')), x5'] [] 105 Q) →
    mm_Go l sc Y_LB_bind 3 18 M [some (.ref 0), some (.int x1), some (.int (nI v)), some (.ref t), some (.int (nI i)), x5] [] 51 Q := by
  intro m
  induction m with
  | zero =>
    intro i x5 M bf out hL hT hE hB hw hm hi hQ
    have h4 := hT.len
    obtain ⟨f, t1, -⟩ := id hT
    refine mg_run 2 rfl ?_
    refine mg_callV [] rfl rfl rfl t1 rfl rfl rfl rfl (c_Te_length hT ?_)
    refine mg_ge rfl (by omega) (by omega) (fun h => ?_) (fun h => absurd h (by omega))
    exact hQ M bf i x5 hB (by rw [te_pc, List.append_nil]; exact hw) (mm_on.rf _ M)
  | succ m ih =>
    intro i x5 M bf out hL hT hE hB hw hm hi hQ
    have h4 := hT.len
    obtain ⟨f, t1, -⟩ := id hT
    obtain ⟨fb, b1, -⟩ := id hB
    obtain ⟨w, d1, d2, d3⟩ := id hE
    obtain ⟨hd1, hd2⟩ := hD i (by omega)
    have hbi := hb i
    refine mg_run 2 rfl ?_
    refine mg_callV [] rfl rfl rfl t1 rfl rfl rfl rfl (c_Te_length hT ?_)
    refine mg_ge rfl (by omega) (by omega) (fun h => absurd h (by omega)) (fun h => ?_)
    refine mg_run 2 rfl ?_
    refine mg_callV [.int (nI i)] rfl rfl rfl t1 rfl rfl rfl rfl (c_Te_at hT (by omega) ?_)
    refine mg_run 2 rfl ?_
    refine mg_get rfl rfl hL.1 rfl ?_
    refine mg_run 2 rfl ?_
    refine mg_ne rfl (by omega) (by omega) (fun h7 => ?_) (fun h7 => ?_)
    · refine mg_run 1 rfl ?_
      refine mg_callV [.int (nI (r.getD i 0))] rfl rfl rfl b1 rfl rfl rfl rfl (c_Te_add hB (fun M1 p1 p2 => ?_))
      refine mg_incN rfl rfl rfl ?_
      refine mg_run 1 rfl ?_
      refine ih (i + 1) _ M1 _ (out ++ [r.getD i 0]) (hL.on26 p2) (hT.keep p2 hap.1 hap.2) (hE.on26 p2) p1 (hw.add _) (by omega) (by omega) (fun M' bf' i' x5' q1 q2 q3 => hQ M' bf' i' x5' q1 ?_ (p2.tr q3))
      rw [te_pc, te_bd, if_neg h7, ← List.append_assoc]
      exact q2
    · refine mg_run 2 rfl ?_
      refine mg_get rfl rfl hL.1 rfl ?_
      refine mg_run 1 rfl ?_
      refine mg_callV [.int (nI i)] rfl rfl rfl d1 rfl rfl rfl rfl (c_De_at hE (by omega) ?_)
      rw [hd1]
      refine mg_addN rfl ?_
      refine mg_run 1 rfl ?_
      refine mg_callV [.int (nI (1000 + te_D r 0 i))] rfl rfl rfl b1 rfl rfl rfl rfl (c_Te_add hB (fun M1 p1 p2 => ?_))
      refine mg_incN rfl rfl rfl ?_
      refine mg_run 1 rfl ?_
      refine ih (i + 1) _ M1 _ (out ++ [1000 + te_D r 0 i]) (hL.on26 p2) (hT.keep p2 hap.1 hap.2) (hE.on26 p2) p1 (hw.add _) (by omega) (by omega) (fun M' bf' i' x5' q1 q2 q3 => hQ M' bf' i' x5' q1 ?_ (p2.tr q3))
      rw [te_pc, te_bd, if_pos h7, ← List.append_assoc]
      exact q2
/-- the row of a binding -/
def te_bi (r : List Nat) (v : Nat) : List Nat := [92] ++ te_pc (te_bd r v) 0 r.length
theorem c_LB_bind (hl : l.stackTraces = false) (h : lb_is M sl tp pl o) (hb : ∀ s i, (sl s).getD i 0 < 10000) {a v : Nat} (ha : a < 12) (hv : v < 2 ^ 31) (hlet : is_let (nI v)) (hn : 0 < (sl a).length) (hcl : te_sc (sl a) 1 = (sl a).length)
    (hQ : (te_bi (sl a) v).length ≤ 2000 → ∀ M', lb_is M' (sl_up sl a (te_bi (sl a) v)) tp pl o → mm_on mm_bn M M' → Q (.inl (some (.int (nI (te_bi (sl a) v).length)))) M')
    (hN : 2000 < (te_bi (sl a) v).length → ∀ M', lb_is M' sl tp pl o → mm_on mm_bn M M' → Q (.inr 1) M') : mm_Ct l sc Y_LB_bind M [.ref 0, .int (nI a), .int (nI v)] Q := by
  obtain ⟨ga, hga⟩ := h.2.1 a ha
  have hlen := hga.len
  obtain ⟨dep, hde⟩ := h.2.2.2.2.2.2.1
  obtain ⟨wd, d1, d2, d3⟩ := id hde
  have hb31 : ∀ i, (sl a).getD i 0 < 2 ^ 31 := fun i => Nat.lt_trans (hb a i) (by decide)
  refine mm_by k_LB_bind w_LB_bind rfl rfl ?_
  refine mg_run 2 rfl ?_
  refine mg_callV [.int (nI a)] rfl rfl rfl h.1.1 rfl rfl rfl rfl (c_LB_requireSlot ha ?_)
  refine mg_run 2 rfl ?_
  refine mg_callV [.int (nI v)] rfl rfl rfl h.1.1 rfl rfl rfl rfl (c_LB_requireLetter hlet ?_)
  refine mg_run 2 rfl ?_
  refine mg_callV [.int (nI a)] rfl rfl rfl h.1.1 rfl rfl rfl rfl (c_LB_requireTerm h ha hn ?_)
  refine mg_run 1 rfl ?_
  refine mg_get rfl rfl h.1.1 rfl ?_
  refine mg_run 1 rfl ?_
  refine mg_aldN rfl h.1.2 (by decide) ha (lb_f12 ha) ?_
  refine mg_run 2 rfl ?_
  refine mg_get rfl rfl h.1.1 rfl ?_
  refine mg_run 2 rfl ?_
  refine mg_callV [.ref (2 + 2 * a), .int (nI 0)] rfl rfl rfl d1 rfl rfl rfl rfl (c_De_measure hde hga (by unfold te_P; omega) (by unfold te_P; omega) (by unfold te_P; omega) hb31 (Nat.zero_le _) (fun M1 dep1 p1 p2 p3 => ?_))
  have hon1 : mm_on (mm_rg 36 38) M M1 := p3.wk (fun i hi => by unfold de_P at hi; unfold mm_rg; omega)
  have h1 := h.dep ⟨_, p1⟩ hon1
  have A1 := hga.keep hon1 (mm_rg_n (by omega)) (mm_rg_n (by omega))
  obtain ⟨rw0, gw0, hw0⟩ := h1.2.2.1
  obtain ⟨fw, w1, -⟩ := id hw0
  refine mg_run 2 rfl ?_
  refine mg_get rfl rfl h1.1.1 rfl ?_
  refine mg_callV [] rfl rfl rfl w1 rfl rfl rfl rfl (c_Te_clear hw0 (fun M2 q1 q2 => ?_))
  have h2 := h1.work ⟨_, _, q1⟩ q2.te
  obtain ⟨fw2, w2, -⟩ := id q1
  refine mg_run 1 rfl ?_
  refine mg_get rfl rfl h2.1.1 rfl ?_
  refine mg_run 1 rfl ?_
  refine mg_callV [.int (nI 92)] rfl rfl rfl w2 rfl rfl rfl rfl (c_Te_add q1 (fun M3 v1 v2 => ?_))
  have h3 := h2.work ⟨_, _, v1⟩ v2.te
  have A3 := (A1.keep q2 (sl_w ha).1.1 (sl_w ha).1.2).keep v2 (sl_w ha).1.1 (sl_w ha).1.2
  have hml : (te_ms ((sl a).drop 0) [0]).length = (sl a).length := by rw [te_ms_len]; exact hcl
  refine mg_run 2 rfl ?_
  refine lp_LB_bind (hb a) hv (sl_w ha).1 (fun j hj => ⟨?_, te_D_lt hlen _ _⟩) _ 0 none M3 _ [92] h3.1 A3 ((p1.on26 q2).on26 v2) v1 (wr0.add 92) rfl (Nat.zero_le _) (fun M4 bf i' x5' x1 u4 x2 => ?_)
  · have h9 := p2.1 j (by rw [hml]; exact hj)
    rw [Nat.zero_add] at h9
    exact h9
  have h4 := h3.work ⟨_, _, x1⟩ x2.te
  obtain ⟨fw4, w5, -, -, -, gle⟩ := id x1
  have hon : mm_on mm_bn M M4 := (((hon1.bn (by decide)).tr (q2.te.bn (by decide))).tr (v2.te.bn (by decide))).tr (x2.te.bn (by decide))
  refine mg_run 1 rfl ?_
  refine mg_get rfl rfl h4.1.1 rfl ?_
  refine mg_callV [] rfl rfl rfl w5 rfl rfl rfl rfl (c_Te_isTooGreat x1 ?_)
  refine mg_zeq rfl (by omega) (fun h0 => ?_) (fun h0 => ?_)
  · obtain ⟨e1, e2⟩ := u4.ok h0
    have x1' := te_is_wr x1 e2
    have A4 := A3.keep x2 (sl_w ha).1.1 (sl_w ha).1.2
    obtain ⟨fc, c1, -⟩ := id A4
    obtain ⟨fw5, w6, -⟩ := id x1'
    refine mg_run 2 rfl ?_
    refine mg_get rfl rfl h4.1.1 rfl ?_
    refine mg_callV [.ref 26] rfl rfl rfl c1 rfl rfl rfl rfl (c_Te_become A4 x1' (sl_w ha).2 (fun M5 y1 y2 => ?_))
    have h5 := h4.slot ha y1 y2
    have W5 := x1'.keep y2 (sl_w ha).2.1 (sl_w ha).2.2
    obtain ⟨fw6, w7, -⟩ := id W5
    refine mg_run 1 rfl ?_
    refine mg_get rfl rfl h5.1.1 rfl ?_
    refine mg_callV [] rfl rfl rfl w7 rfl rfl rfl rfl (c_Te_length W5 ?_)
    refine mg_ir rfl rfl rfl rfl ?_
    exact hQ e1 M5 h5 (hon.tr (y2.te.bn (by omega)))
  · exact mg_throw mm_xs8 rfl rfl rfl rfl rfl rfl rfl hl (hN (u4.not h0) M4 h4 hon)
theorem c_LB_bindX (hl : l.stackTraces = false) (h : lb_is M sl tp pl o) {x y : Int32} (hx : no_slot x ∨ ¬ is_let y) (hQ : Q (.inr 0) M) : mm_Ct l sc Y_LB_bind M [.ref 0, .int x, .int y] Q := by
  refine mm_by k_LB_bind w_LB_bind rfl rfl ?_
  refine mg_run 2 rfl ?_
  rcases slot_or x with h1 | ⟨a, ha, rfl⟩
  · exact mg_callV [.int x] rfl rfl rfl h.1.1 rfl rfl rfl rfl (c_LB_requireSlotX hl h1 hQ)
  · refine mg_callV [.int (nI a)] rfl rfl rfl h.1.1 rfl rfl rfl rfl (c_LB_requireSlot ha ?_)
    refine mg_run 2 rfl ?_
    have h2 : ¬ is_let y := hx.elim (fun h9 => absurd h9 (no_nI ha)) id
    exact mg_callV [.int y] rfl rfl rfl h.1.1 rfl rfl rfl rfl (c_LB_requireLetterX hl h2 hQ)
theorem c_LB_bindE (hl : l.stackTraces = false) (h : lb_is M sl tp pl o) {a : Nat} {y : Int32} (ha : a < 12) (hlet : is_let y) (hn : (sl a).length = 0) (hQ : Q (.inr 1) M) : mm_Ct l sc Y_LB_bind M [.ref 0, .int (nI a), .int y] Q := by
  refine mm_by k_LB_bind w_LB_bind rfl rfl ?_
  refine mg_run 2 rfl ?_
  refine mg_callV [.int (nI a)] rfl rfl rfl h.1.1 rfl rfl rfl rfl (c_LB_requireSlot ha ?_)
  refine mg_run 2 rfl ?_
  refine mg_callV [.int y] rfl rfl rfl h.1.1 rfl rfl rfl rfl (c_LB_requireLetter hlet ?_)
  refine mg_run 2 rfl ?_
  exact mg_callV [.int (nI a)] rfl rfl rfl h.1.1 rfl rfl rfl rfl (c_LB_requireTermX hl h ha hn hQ)
/-- one byte of a word, the place counted from the low end -/
def fd_b (w : Int64) (i : Nat) : Nat := ((w.toUInt64 >>> ((nI (8 * i)).toInt64.toUInt64 &&& Int64.toUInt64 63)).toInt64.toInt32).toBitVec.toNat % 2 ^ 8
def fd_bs (w : Int64) : Nat → List Nat
  | 0 => []
  | n + 1 => fd_b w n :: fd_bs w n
theorem fd_len (w : Int64) : ∀ n, (fd_bs w n).length = n := by
  intro n
  induction n with
  | zero => rfl
  | succ n ih => rw [fd_bs, List.length_cons, ih]
theorem lp_LB_feed {w : Int64} {x3 : Int32} : ∀ m (M : mm_M) (tp : List Nat), m ≤ 8 → lb_top M pl → ta_is M 28 tp → tp.length + m ≤ 400 →
    (∀ M', ta_is M' 28 (tp ++ fd_bs w m) → mm_on (te_P 28) M M' → Q (.inl (some (.int (nI (tp ++ fd_bs w m).length)))) M') →
    mm_Go l sc Y_LB_feed 0 0 M [some (.ref 0), some (.long w), none, some (.int x3), some (.int (nI m + -1))] [] 51 Q := by
  intro m
  induction m with
  | zero =>
    intro M tp hm hL hT hlen hQ
    obtain ⟨f, t1, -⟩ := id hT
    have e : nI 0 + -1 = (-1 : Int32) := by decide
    rw [e]
    refine mg_run 1 rfl ?_
    refine mg_zltM rfl ?_
    refine mg_run 1 rfl ?_
    refine mg_get rfl rfl hL.1 rfl ?_
    refine mg_callV [] rfl rfl rfl t1 rfl rfl rfl rfl (c_Ta_length hT ?_)
    refine mg_ir rfl rfl rfl rfl ?_
    have h9 := hQ M (by rw [fd_bs, List.append_nil]; exact hT) (mm_on.rf _ M)
    rw [fd_bs, List.append_nil] at h9
    exact h9
  | succ m ih =>
    intro M tp hm hL hT hlen hQ
    obtain ⟨f, t1, -⟩ := id hT
    rw [pk_m1]
    refine mg_run 1 rfl ?_
    refine mg_zlt rfl (by omega) ?_
    refine mg_run 1 rfl ?_
    refine mg_get rfl rfl hL.1 rfl ?_
    refine mg_run 3 rfl ?_
    refine mg_mulN rfl ?_
    refine mg_run 3 rfl ?_
    refine mg_andN (k := 8) rfl rfl ?_
    refine mg_callV [.int (nI (fd_b w m))] rfl rfl rfl t1 rfl rfl rfl rfl (c_Ta_add hT (by omega) (fun M1 p1 p2 => ?_))
    refine mg_run 2 rfl ?_
    refine ih M1 (tp ++ [fd_b w m]) (by omega) (hL.on28 p2) p1 (by rw [List.length_append]; show tp.length + 1 + m ≤ 400; omega) (fun M' q1 q2 => ?_)
    have e : tp ++ [fd_b w m] ++ fd_bs w m = tp ++ fd_bs w (m + 1) := by rw [List.append_assoc, fd_bs]; rfl
    rw [e] at q1 ⊢
    exact hQ M' q1 (p2.tr q2)
def no_n (x : Int32) : Prop := x.toInt < 1 ∨ 8 < x.toInt
theorem n_or (x : Int32) : no_n x ∨ ∃ s, 1 ≤ s ∧ s ≤ 8 ∧ x = nI s := by
  by_cases h : no_n x
  · exact Or.inl h
  · unfold no_n at h
    obtain ⟨j, h1, h2, h3⟩ := i32_nat (x := x) (by omega)
    exact Or.inr ⟨j, by omega, by omega, h2⟩
theorem c_LB_feed (hl : l.stackTraces = false) (h : lb_is M sl tp pl o) {w : Int64} {N : Nat} (hN1 : 1 ≤ N) (hN2 : N ≤ 8)
    (hQ : tp.length + N ≤ 400 → ∀ M', lb_is M' sl (tp ++ fd_bs w N) pl o → mm_on mm_bn M M' → Q (.inl (some (.int (nI (tp.length + N))))) M')
    (hN : 400 < tp.length + N → Q (.inr 1) M) : mm_Ct l sc Y_LB_feed M [.ref 0, .long w, .int (nI N)] Q := by
  have hT := h.2.2.2.1
  obtain ⟨f, t1, t2, t3, t4⟩ := id hT
  refine mm_by k_LB_feed w_LB_feed rfl rfl ?_
  refine mg_run 2 rfl ?_
  refine mg_lt rfl (by omega) (by decide) (fun h => absurd h (by omega)) (fun _ => ?_)
  refine mg_run 2 rfl ?_
  refine mg_le rfl (by omega) (by decide) (fun _ => ?_) (fun h => absurd h (by omega))
  refine mg_run 1 rfl ?_
  refine mg_get rfl rfl h.1.1 rfl ?_
  refine mg_callV [] rfl rfl rfl t1 rfl rfl rfl rfl (c_Ta_length hT ?_)
  refine mg_run 1 rfl ?_
  refine mg_addN rfl ?_
  refine mg_run 1 rfl ?_
  refine mg_le rfl (by omega) (by decide) (fun h9 => ?_) (fun h9 => ?_)
  · refine mg_run 2 rfl ?_
    refine mg_subN rfl hN1 ?_
    refine mg_run 1 rfl ?_
    have e : nI (N - 1) = nI N + -1 := by
      have e2 := pk_m1 (N - 1)
      rw [show N - 1 + 1 = N by omega] at e2
      exact e2.symm
    rw [e]
    refine lp_LB_feed N M tp hN2 h.1 hT h9 (fun M' q1 q2 => ?_)
    have e3 : (tp ++ fd_bs w N).length = tp.length + N := by rw [List.length_append, fd_len]
    rw [e3]
    exact hQ h9 M' (h.tape q1 q2.te) (q2.te.bn (by decide))
  · exact mg_throw mm_xs1 rfl rfl rfl rfl rfl rfl rfl hl (hN h9)
theorem c_LB_feedX (hl : l.stackTraces = false) {w : Int64} {x : Int32} (hx : no_n x) (hQ : Q (.inr 0) M) : mm_Ct l sc Y_LB_feed M [.ref 0, .long w, .int x] Q := by
  refine mm_by k_LB_feed w_LB_feed rfl rfl ?_
  refine mg_run 2 rfl ?_
  refine mg_icmp rfl (fun h => ?_) (fun h => ?_)
  · exact mg_throw mm_xs0 rfl rfl rfl rfl rfl rfl rfl hl hQ
  · refine mg_run 2 rfl ?_
    refine mg_icmp rfl (fun h2 => ?_) (fun h2 => ?_)
    · exfalso
      have h3 : ¬ x.toInt < 1 := fun h9 => h ((i32_lt x (n := 1) (by decide)).mpr h9)
      have h4 := (i32_le x (n := 8) (by decide)).mp h2
      unfold no_n at hx
      omega
    · exact mg_throw mm_xs0 rfl rfl rfl rfl rfl rfl rfl hl hQ
end
