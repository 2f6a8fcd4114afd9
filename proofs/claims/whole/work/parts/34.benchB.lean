/-! The bench's methods, but read: what they answer and leave. -/
def mm_bn : Nat → Prop := mm_rg 0 53
theorem mm_on.bn {lo hi : Nat} {M M' : mm_M} (h : mm_on (mm_rg lo hi) M M') (hh : hi ≤ 53) : mm_on mm_bn M M' := h.wk (fun i h => by unfold mm_rg at h; unfold mm_bn mm_rg; omega)
theorem sl_ap {s t : Nat} (h : ¬ s = t) : te_ap (2 + 2 * s) (2 + 2 * t) := by unfold te_ap te_P; omega
theorem sl_w {s : Nat} (h : s < 12) : te_ap 26 (2 + 2 * s) ∧ te_ap (2 + 2 * s) 26 := by unfold te_ap te_P; omega
theorem sl_up_same (sl : Nat → List Nat) (s : Nat) : sl_up sl s (sl s) = sl := by
  funext j
  unfold sl_up
  by_cases h : j = s
  · rw [if_pos h, h]
  · rw [if_neg h]
/-- how many redexes from i on, m places -/
def te_rc (r : List Nat) : Nat → Nat → Nat
  | 0, _ => 0
  | m + 1, i => (if te_rh r i = 0 then 0 else 1) + te_rc r m (i + 1)
def te_bd (r : List Nat) (v i : Nat) : List Nat := [if r.getD i 0 = v then 1000 + te_D r 0 i else r.getD i 0]
/-- a text's number, if the row is one -/
def te_ta (r : List Nat) : Nat → Nat → Option Nat
  | 0, i => if r.getD (2 * i) 0 = 2 then some i else none
  | m + 1, i => if r.getD (2 * i) 0 = 64 ∧ r.getD (2 * i + 1) 0 = 1 then te_ta r m (i + 1) else none
section
variable {l : Launch} {sc : Nat × (Nat → Int32)} {M : mm_M} {Q : mm_O → mm_M → Prop} {sl : Nat → List Nat} {tp : List Nat} {pl : Int32} {o : Nat}
theorem c_LB_same (h : lb_is M sl tp pl o) (hb : ∀ s i, (sl s).getD i 0 < 10000) {a b : Nat} (ha : a < 12) (hb2 : b < 12) (hQ : Q (.inl (some (.int (nI (if sl a = sl b then 1 else 0))))) M) : mm_Ct l sc Y_LB_same M [.ref 0, .int (nI a), .int (nI b)] Q := by
  obtain ⟨g, hg⟩ := h.2.1 a ha
  obtain ⟨g2, hg2⟩ := h.2.1 b hb2
  obtain ⟨f, t1, -⟩ := id hg
  have hb31 : ∀ s i, (sl s).getD i 0 < 2 ^ 31 := fun s i => Nat.lt_trans (hb s i) (by decide)
  refine mm_by k_LB_same w_LB_same rfl rfl ?_
  refine mg_run 2 rfl ?_
  refine mg_callV [.int (nI a)] rfl rfl rfl h.1.1 rfl rfl rfl rfl (c_LB_requireSlot ha ?_)
  refine mg_run 2 rfl ?_
  refine mg_callV [.int (nI b)] rfl rfl rfl h.1.1 rfl rfl rfl rfl (c_LB_requireSlot hb2 ?_)
  refine mg_run 1 rfl ?_
  refine mg_get rfl rfl h.1.1 rfl ?_
  refine mg_run 1 rfl ?_
  refine mg_aldN rfl h.1.2 (by decide) ha (lb_f12 ha) ?_
  refine mg_run 1 rfl ?_
  refine mg_get rfl rfl h.1.1 rfl ?_
  refine mg_run 1 rfl ?_
  refine mg_aldN rfl h.1.2 (by decide) hb2 (lb_f12 hb2) ?_
  refine mg_callV [.ref (2 + 2 * b)] rfl rfl rfl t1 rfl rfl rfl rfl (c_Te_isLike hg hg2 (hb31 a) (hb31 b) ?_)
  exact mg_zr rfl rfl (te_g1 (by split <;> omega)) rfl rfl hQ
theorem c_LB_sameX (hl : l.stackTraces = false) (h : lb_is M sl tp pl o) {x y : Int32} (hx : no_slot x ∨ no_slot y) (hQ : Q (.inr 0) M) : mm_Ct l sc Y_LB_same M [.ref 0, .int x, .int y] Q := by
  refine mm_by k_LB_same w_LB_same rfl rfl ?_
  refine mg_run 2 rfl ?_
  rcases slot_or x with h1 | ⟨a, ha, rfl⟩
  · exact mg_callV [.int x] rfl rfl rfl h.1.1 rfl rfl rfl rfl (c_LB_requireSlotX hl h1 hQ)
  · refine mg_callV [.int (nI a)] rfl rfl rfl h.1.1 rfl rfl rfl rfl (c_LB_requireSlot ha ?_)
    refine mg_run 2 rfl ?_
    have h2 : no_slot y := by
      rcases hx with h9 | h9
      · exfalso
        unfold no_slot at h9
        rw [nI_toInt (by omega)] at h9
        omega
      · exact h9
    exact mg_callV [.int y] rfl rfl rfl h.1.1 rfl rfl rfl rfl (c_LB_requireSlotX hl h2 hQ)
theorem c_LB_has (h : lb_is M sl tp pl o) (hb : ∀ s i, (sl s).getD i 0 < 10000) {a v : Nat} (ha : a < 12) (hv : v < 2 ^ 31) (hlet : is_let (nI v)) (hQ : Q (.inl (some (.int (nI (if v ∈ sl a then 1 else 0))))) M) : mm_Ct l sc Y_LB_has M [.ref 0, .int (nI a), .int (nI v)] Q := by
  obtain ⟨g, hg⟩ := h.2.1 a ha
  obtain ⟨f, t1, -⟩ := id hg
  have hb31 : ∀ s i, (sl s).getD i 0 < 2 ^ 31 := fun s i => Nat.lt_trans (hb s i) (by decide)
  refine mm_by k_LB_has w_LB_has rfl rfl ?_
  refine mg_run 2 rfl ?_
  refine mg_callV [.int (nI a)] rfl rfl rfl h.1.1 rfl rfl rfl rfl (c_LB_requireSlot ha ?_)
  refine mg_run 2 rfl ?_
  refine mg_callV [.int (nI v)] rfl rfl rfl h.1.1 rfl rfl rfl rfl (c_LB_requireLetter hlet ?_)
  refine mg_run 1 rfl ?_
  refine mg_get rfl rfl h.1.1 rfl ?_
  refine mg_run 1 rfl ?_
  refine mg_aldN rfl h.1.2 (by decide) ha (lb_f12 ha) ?_
  refine mg_run 1 rfl ?_
  refine mg_callV [.int (nI v)] rfl rfl rfl t1 rfl rfl rfl rfl (c_Te_contains hg (hb31 a) hv ?_)
  exact mg_zr rfl rfl (te_g1 (by split <;> omega)) rfl rfl hQ
theorem c_LB_hasX (hl : l.stackTraces = false) (h : lb_is M sl tp pl o) {x y : Int32} (hx : no_slot x ∨ ¬ is_let y) (hQ : Q (.inr 0) M) : mm_Ct l sc Y_LB_has M [.ref 0, .int x, .int y] Q := by
  refine mm_by k_LB_has w_LB_has rfl rfl ?_
  refine mg_run 2 rfl ?_
  rcases slot_or x with h1 | ⟨a, ha, rfl⟩
  · exact mg_callV [.int x] rfl rfl rfl h.1.1 rfl rfl rfl rfl (c_LB_requireSlotX hl h1 hQ)
  · refine mg_callV [.int (nI a)] rfl rfl rfl h.1.1 rfl rfl rfl rfl (c_LB_requireSlot ha ?_)
    refine mg_run 2 rfl ?_
    have h2 : ¬ is_let y := by
      rcases hx with h9 | h9
      · exfalso
        unfold no_slot at h9
        rw [nI_toInt (by omega)] at h9
        omega
      · exact h9
    exact mg_callV [.int y] rfl rfl rfl h.1.1 rfl rfl rfl rfl (c_LB_requireLetterX hl h2 hQ)
theorem c_LB_copy (h : lb_is M sl tp pl o) {a b : Nat} (ha : a < 12) (hb : b < 12) (hQ : ∀ M', lb_is M' (sl_up sl b (sl a)) tp pl o → mm_on mm_bn M M' → Q (.inl none) M') : mm_Ct l sc Y_LB_copy M [.ref 0, .int (nI a), .int (nI b)] Q := by
  obtain ⟨g, hg⟩ := h.2.1 a ha
  obtain ⟨g2, hg2⟩ := h.2.1 b hb
  obtain ⟨f, t1, -⟩ := id hg2
  refine mm_by k_LB_copy w_LB_copy rfl rfl ?_
  refine mg_run 2 rfl ?_
  refine mg_callV [.int (nI a)] rfl rfl rfl h.1.1 rfl rfl rfl rfl (c_LB_requireSlot ha ?_)
  refine mg_run 2 rfl ?_
  refine mg_callV [.int (nI b)] rfl rfl rfl h.1.1 rfl rfl rfl rfl (c_LB_requireSlot hb ?_)
  refine mg_run 1 rfl ?_
  refine mg_get rfl rfl h.1.1 rfl ?_
  refine mg_run 1 rfl ?_
  refine mg_aldN rfl h.1.2 (by decide) hb (lb_f12 hb) ?_
  refine mg_run 1 rfl ?_
  refine mg_get rfl rfl h.1.1 rfl ?_
  refine mg_run 1 rfl ?_
  refine mg_aldN rfl h.1.2 (by decide) ha (lb_f12 ha) ?_
  by_cases hab : b = a
  · subst hab
    refine mg_callV [.ref (2 + 2 * b)] rfl rfl rfl t1 rfl rfl rfl rfl (c_Te_becomeSelf hg ?_)
    refine mg_vr rfl rfl rfl rfl ?_
    rw [sl_up_same] at hQ
    exact hQ M h (mm_on.rf _ M)
  · refine mg_callV [.ref (2 + 2 * a)] rfl rfl rfl t1 rfl rfl rfl rfl (c_Te_become hg2 hg (sl_ap hab) (fun M1 p1 p2 => ?_))
    refine mg_vr rfl rfl rfl rfl ?_
    exact hQ M1 (h.slot hb p1 p2) (p2.te.bn (by omega))
theorem c_LB_copyX (hl : l.stackTraces = false) (h : lb_is M sl tp pl o) {x y : Int32} (hx : no_slot x ∨ no_slot y) (hQ : Q (.inr 0) M) : mm_Ct l sc Y_LB_copy M [.ref 0, .int x, .int y] Q := by
  refine mm_by k_LB_copy w_LB_copy rfl rfl ?_
  refine mg_run 2 rfl ?_
  rcases slot_or x with h1 | ⟨a, ha, rfl⟩
  · exact mg_callV [.int x] rfl rfl rfl h.1.1 rfl rfl rfl rfl (c_LB_requireSlotX hl h1 hQ)
  · refine mg_callV [.int (nI a)] rfl rfl rfl h.1.1 rfl rfl rfl rfl (c_LB_requireSlot ha ?_)
    refine mg_run 2 rfl ?_
    have h2 : no_slot y := by
      rcases hx with h9 | h9
      · exfalso
        unfold no_slot at h9
        rw [nI_toInt (by omega)] at h9
        omega
      · exact h9
    exact mg_callV [.int y] rfl rfl rfl h.1.1 rfl rfl rfl rfl (c_LB_requireSlotX hl h2 hQ)
theorem lp_LB_redexes {r : List Nat} {t g : Nat} {x1 : Int32} (hb : ∀ i, r.getD i 0 < 2 ^ 31) (hT : te_is M t r g) : ∀ m i n, r.length - i = m → i ≤ r.length → n ≤ i → Q (.inl (some (.int (nI (n + te_rc r m i))))) M → mm_Go l sc Y_LB_redexes 2 12 M [some (.ref 0), some (.int x1), some (.ref t), some (.int (nI n)), some (.int (nI i))] [] 22 Q := by
  have h4 := hT.len
  obtain ⟨f, t1, -⟩ := id hT
  intro m
  induction m with
  | zero =>
    intro i n hm hi hn hQ
    refine mg_run 2 rfl ?_
    refine mg_callV [] rfl rfl rfl t1 rfl rfl rfl rfl (c_Te_length hT ?_)
    refine mg_ge rfl (by omega) (by omega) (fun h => ?_) (fun h => absurd h (by omega))
    refine mg_run 1 rfl ?_
    exact mg_ir rfl rfl rfl rfl hQ
  | succ m ih =>
    intro i n hm hi hn hQ
    refine mg_run 2 rfl ?_
    refine mg_callV [] rfl rfl rfl t1 rfl rfl rfl rfl (c_Te_length hT ?_)
    refine mg_ge rfl (by omega) (by omega) (fun h => absurd h (by omega)) (fun h => ?_)
    refine mg_run 2 rfl ?_
    refine mg_callV [.int (nI i)] rfl rfl rfl t1 rfl rfl rfl rfl (c_Te_redexHead hT hb (by omega) ?_)
    refine mg_zeq rfl (te_rh_lt r i) (fun h9 => ?_) (fun h9 => ?_)
    · refine mg_incN rfl rfl rfl ?_
      refine mg_run 1 rfl ?_
      refine ih (i + 1) n (by omega) (by omega) (by omega) ?_
      rw [te_rc, if_pos h9, Nat.zero_add] at hQ
      exact hQ
    · refine mg_incN rfl rfl rfl ?_
      refine mg_incN rfl rfl rfl ?_
      refine mg_run 1 rfl ?_
      refine ih (i + 1) (n + 1) (by omega) (by omega) (by omega) ?_
      rw [te_rc, if_neg (by omega)] at hQ
      rw [show n + 1 + te_rc r m (i + 1) = n + (1 + te_rc r m (i + 1)) by omega]
      exact hQ
theorem c_LB_redexes (h : lb_is M sl tp pl o) (hb : ∀ s i, (sl s).getD i 0 < 10000) {a : Nat} (ha : a < 12) (hn : 0 < (sl a).length) (hQ : Q (.inl (some (.int (nI (te_rc (sl a) (sl a).length 0))))) M) : mm_Ct l sc Y_LB_redexes M [.ref 0, .int (nI a)] Q := by
  obtain ⟨g, hg⟩ := h.2.1 a ha
  have hb31 : ∀ s i, (sl s).getD i 0 < 2 ^ 31 := fun s i => Nat.lt_trans (hb s i) (by decide)
  refine mm_by k_LB_redexes w_LB_redexes rfl rfl ?_
  refine mg_run 2 rfl ?_
  refine mg_callV [.int (nI a)] rfl rfl rfl h.1.1 rfl rfl rfl rfl (c_LB_requireSlot ha ?_)
  refine mg_run 2 rfl ?_
  refine mg_callV [.int (nI a)] rfl rfl rfl h.1.1 rfl rfl rfl rfl (c_LB_requireTerm h ha hn ?_)
  refine mg_run 1 rfl ?_
  refine mg_get rfl rfl h.1.1 rfl ?_
  refine mg_run 1 rfl ?_
  refine mg_aldN rfl h.1.2 (by decide) ha (lb_f12 ha) ?_
  refine mg_run 5 rfl ?_
  exact lp_LB_redexes (hb31 a) hg _ 0 0 rfl (Nat.zero_le _) (Nat.le_refl _) (by rw [Nat.zero_add]; exact hQ)
theorem c_LB_redexesX (hl : l.stackTraces = false) (h : lb_is M sl tp pl o) {x : Int32} (hx : no_slot x) (hQ : Q (.inr 0) M) : mm_Ct l sc Y_LB_redexes M [.ref 0, .int x] Q := by
  refine mm_by k_LB_redexes w_LB_redexes rfl rfl ?_
  refine mg_run 2 rfl ?_
  exact mg_callV [.int x] rfl rfl rfl h.1.1 rfl rfl rfl rfl (c_LB_requireSlotX hl hx hQ)
theorem c_LB_redexesE (hl : l.stackTraces = false) (h : lb_is M sl tp pl o) {a : Nat} (ha : a < 12) (hn : (sl a).length = 0) (hQ : Q (.inr 1) M) : mm_Ct l sc Y_LB_redexes M [.ref 0, .int (nI a)] Q := by
  refine mm_by k_LB_redexes w_LB_redexes rfl rfl ?_
  refine mg_run 2 rfl ?_
  refine mg_callV [.int (nI a)] rfl rfl rfl h.1.1 rfl rfl rfl rfl (c_LB_requireSlot ha ?_)
  refine mg_run 2 rfl ?_
  exact mg_callV [.int (nI a)] rfl rfl rfl h.1.1 rfl rfl rfl rfl (c_LB_requireTermX hl h ha hn hQ)
/-- how a place is printed -/
def te_pr (c : Nat) : Nat := if c < 1000 then c else 48 + (if c - 1000 < 99 then c - 1000 else 99)
theorem c_LB_print (h : lb_is M sl tp pl o) (hb : ∀ s i, (sl s).getD i 0 < 10000) {a i : Nat} (ha : a < 12) (hi : i < (sl a).length) (hQ : Q (.inl (some (.int (nI (te_pr ((sl a).getD i 0)))))) M) : mm_Ct l sc Y_LB_print M [.ref 0, .int (nI a), .int (nI i)] Q := by
  obtain ⟨g, hg⟩ := h.2.1 a ha
  have h4 := hg.len
  obtain ⟨f, t1, -⟩ := id hg
  have hbi := hb a i
  refine mm_by k_LB_print w_LB_print rfl rfl ?_
  refine mg_run 2 rfl ?_
  refine mg_callV [.int (nI a)] rfl rfl rfl h.1.1 rfl rfl rfl rfl (c_LB_requireSlot ha ?_)
  refine mg_run 1 rfl ?_
  refine mg_get rfl rfl h.1.1 rfl ?_
  refine mg_run 1 rfl ?_
  refine mg_aldN rfl h.1.2 (by decide) ha (lb_f12 ha) ?_
  refine mg_run 2 rfl ?_
  refine mg_zlt rfl (by omega) ?_
  refine mg_run 2 rfl ?_
  refine mg_callV [] rfl rfl rfl t1 rfl rfl rfl rfl (c_Te_length hg ?_)
  refine mg_lt rfl (by omega) (by omega) (fun h => ?_) (fun h => absurd h (by omega))
  refine mg_run 2 rfl ?_
  refine mg_callV [.int (nI i)] rfl rfl rfl t1 rfl rfl rfl rfl (c_Te_at hg (by omega) ?_)
  refine mg_run 3 rfl ?_
  refine mg_ge rfl (by omega) (by decide) (fun h9 => ?_) (fun h9 => ?_)
  · refine mg_run 3 rfl ?_
    refine mg_subN rfl h9 ?_
    refine mg_run 1 rfl ?_
    refine mg_min rfl rfl rfl ?_
    have e : (if nI 99 < nI ((sl a).getD i 0 - 1000) then nI 99 else nI ((sl a).getD i 0 - 1000)) = nI (if (sl a).getD i 0 - 1000 < 99 then (sl a).getD i 0 - 1000 else 99) := by
      by_cases h8 : (sl a).getD i 0 - 1000 < 99
      · rw [if_pos h8, if_neg (fun h7 => by rw [nI_ltI (by decide) (by omega)] at h7; omega)]
      · rw [if_neg h8]
        by_cases h7 : nI 99 < nI ((sl a).getD i 0 - 1000)
        · rw [if_pos h7]
        · rw [if_neg h7]
          rw [nI_ltI (by decide) (by omega)] at h7
          have e9 : (sl a).getD i 0 - 1000 = 99 := by omega
          rw [e9]
    rw [e]
    refine mg_addN rfl ?_
    refine mg_ir rfl rfl rfl rfl ?_
    rw [te_pr, if_neg (by omega)] at hQ
    exact hQ
  · refine mg_run 1 rfl ?_
    refine mg_ir rfl rfl rfl rfl ?_
    rw [te_pr, if_pos h9] at hQ
    exact hQ
theorem c_LB_printX (hl : l.stackTraces = false) (h : lb_is M sl tp pl o) {x y : Int32} (hx : no_slot x) (hQ : Q (.inr 0) M) : mm_Ct l sc Y_LB_print M [.ref 0, .int x, .int y] Q := by
  refine mm_by k_LB_print w_LB_print rfl rfl ?_
  refine mg_run 2 rfl ?_
  exact mg_callV [.int x] rfl rfl rfl h.1.1 rfl rfl rfl rfl (c_LB_requireSlotX hl hx hQ)
theorem c_LB_printE (hl : l.stackTraces = false) (h : lb_is M sl tp pl o) {a : Nat} (ha : a < 12) {y : Int32} (hy : y.toInt < 0 ∨ ((sl a).length : Int) ≤ y.toInt) (hQ : Q (.inr 2) M) : mm_Ct l sc Y_LB_print M [.ref 0, .int (nI a), .int y] Q := by
  obtain ⟨g, hg⟩ := h.2.1 a ha
  have h4 := hg.len
  obtain ⟨f, t1, -⟩ := id hg
  refine mm_by k_LB_print w_LB_print rfl rfl ?_
  refine mg_run 2 rfl ?_
  refine mg_callV [.int (nI a)] rfl rfl rfl h.1.1 rfl rfl rfl rfl (c_LB_requireSlot ha ?_)
  refine mg_run 1 rfl ?_
  refine mg_get rfl rfl h.1.1 rfl ?_
  refine mg_run 1 rfl ?_
  refine mg_aldN rfl h.1.2 (by decide) ha (lb_f12 ha) ?_
  refine mg_run 2 rfl ?_
  refine mg_if rfl (fun h1 => ?_) (fun h1 => ?_)
  · exact mg_throw mm_xs5 rfl rfl rfl rfl rfl rfl rfl hl hQ
  · refine mg_run 2 rfl ?_
    refine mg_callV [] rfl rfl rfl t1 rfl rfl rfl rfl (c_Te_length hg ?_)
    refine mg_icmp rfl (fun h2 => ?_) (fun h2 => ?_)
    · exfalso
      have h3 : ¬ y.toInt < 0 := fun h9 => h1 ((i32_neg y).mpr h9)
      have h5 := (i32_lt y (n := (sl a).length) (by omega)).mp h2
      omega
    · exact mg_throw mm_xs5 rfl rfl rfl rfl rfl rfl rfl hl hQ
end
