/-! Rows of whole closed terms: what keeps them so. -/
section
variable {lo : Nat} {r : List Nat}
theorem wq_nd : ∀ (l st : List Nat), wq lo l st = some [] → te_nd l st.length = 0 ∧ te_sc l st.length = l.length := by
  intro l
  induction l with
  | nil =>
    intro st h
    rw [wq] at h
    cases h
    exact ⟨rfl, rfl⟩
  | cons c l ih =>
    intro st h
    cases st with
    | nil => exact absurd h (by simp [wq])
    | cons d st =>
      rw [List.length_cons, List.length_cons, te_nd, te_sc]
      rcases wq_inv h with ⟨rfl, h⟩ | ⟨rfl, h⟩ | ⟨h1, h2, h3, h⟩
      · obtain ⟨a, b⟩ := ih _ h
        rw [if_pos rfl]
        rw [List.length_cons, List.length_cons] at a b
        exact ⟨a, by rw [show st.length + 2 = st.length + 1 + 1 from rfl, b]⟩
      · obtain ⟨a, b⟩ := ih _ h
        rw [if_neg (by decide), if_pos rfl]
        rw [List.length_cons] at a b
        exact ⟨a, by rw [b]⟩
      · obtain ⟨a, b⟩ := ih _ h
        rw [if_neg h1, if_neg h2]
        exact ⟨a, by rw [b]⟩
theorem wq_cut : ∀ (l st1 st2 : List Nat), wq lo l (st1 ++ st2) = some [] → wq lo (l.take (te_sc l st1.length)) st1 = some [] ∧ wq lo (l.drop (te_sc l st1.length)) st2 = some [] := by
  intro l
  induction l with
  | nil =>
    intro st1 st2 h
    rw [wq] at h
    have h1 : st1 ++ st2 = [] := by injection h
    obtain ⟨rfl, rfl⟩ := List.append_eq_nil_iff.mp h1
    exact ⟨rfl, rfl⟩
  | cons c l ih =>
    intro st1 st2 h
    cases st1 with
    | nil =>
      rw [List.length_nil, te_sc0]
      exact ⟨by rw [List.take_zero, wq], h⟩
    | cons d st =>
      have h : wq lo (c :: l) (d :: (st ++ st2)) = some [] := h
      rw [List.length_cons, te_sc, List.take_succ_cons, List.drop_succ_cons]
      rcases wq_inv h with ⟨rfl, h⟩ | ⟨rfl, h⟩ | ⟨h1, h2, h3, h⟩
      · obtain ⟨a, b⟩ := ih (d :: d :: st) st2 h
        rw [if_pos rfl, wq_64]
        exact ⟨a, b⟩
      · obtain ⟨a, b⟩ := ih ((d + 1) :: st) st2 h
        rw [if_neg (by decide), if_pos rfl, wq_92]
        exact ⟨a, b⟩
      · obtain ⟨a, b⟩ := ih st st2 h
        rw [if_neg h1, if_neg h2, wq_leaf h1 h2 h3]
        exact ⟨a, b⟩
theorem wq_at (h : wq lo r [0] = some []) {i : Nat} (hi : i < r.length) : ∃ d st, wq lo (r.take i) [0] = some (d :: st) ∧ wq lo (r.drop i) (d :: st) = some [] := by
  have h1 : wq lo (r.take i ++ r.drop i) [0] = some [] := by rw [List.take_append_drop]; exact h
  obtain ⟨s, a, b⟩ := wq_split h1
  cases s with
  | nil =>
    rw [te_drop hi] at b
    exact absurd b (by simp [wq])
  | cons d st => exact ⟨d, st, a, b⟩
theorem wq_pt {s d : Nat} {st : List Nat} (h : wq lo (r.drop s) (d :: st) = some []) : tm lo (te_pt r s (te_en r s)) d ∧ wq lo (r.drop (te_en r s)) st = some [] := by
  obtain ⟨a, b⟩ := wq_cut (r.drop s) [d] st h
  rw [List.drop_drop] at b
  refine ⟨?_, b⟩
  unfold tm te_pt te_en
  rw [Nat.add_sub_cancel_left]
  exact a
theorem wq_cl (h : wq lo r [0] = some []) : cl r := by
  intro k hk
  obtain ⟨d, st, -, b⟩ := wq_at h hk
  have h1 := (wq_nd _ _ b).1
  rw [List.length_cons, Nat.add_comm] at h1
  exact (te_nd_add _ 1 _ h1).1
theorem wq_all {B : Nat} : ∀ (l st s : List Nat), wq lo l st = some s → (∀ y ∈ st, y + l.length ≤ B) → ∀ c ∈ l, (c = 64 ∨ c = 92 ∨ lo ≤ c) ∧ 0 < c ∧ c < 1000 + B := by
  intro l
  induction l with
  | nil => intro st s _ _ c hc; exact absurd hc (by simp)
  | cons a l ih =>
    intro st s h hB c hc
    cases st with
    | nil => exact absurd h (by simp [wq])
    | cons d st =>
      rw [List.length_cons] at hB
      have hd := hB d List.mem_cons_self
      have hst : ∀ y ∈ st, y + l.length ≤ B := fun y hy => by have := hB y (List.mem_cons_of_mem _ hy); omega
      rcases wq_inv h with ⟨rfl, h⟩ | ⟨rfl, h⟩ | ⟨h1, h2, h3, h⟩
      · rcases List.mem_cons.mp hc with rfl | hc
        · exact ⟨Or.inl rfl, by decide, by omega⟩
        · refine ih _ _ h (fun y hy => ?_) c hc
          rcases List.mem_cons.mp hy with rfl | hy
          · omega
          · rcases List.mem_cons.mp hy with rfl | hy
            · omega
            · exact hst y hy
      · rcases List.mem_cons.mp hc with rfl | hc
        · exact ⟨Or.inr (Or.inl rfl), by decide, by omega⟩
        · refine ih _ _ h (fun y hy => ?_) c hc
          rcases List.mem_cons.mp hy with rfl | hy
          · omega
          · exact hst y hy
      · rcases List.mem_cons.mp hc with rfl | hc
        · unfold wo at h3
          rw [decide_eq_true_eq] at h3
          exact ⟨Or.inr (Or.inr h3.1), by omega, by omega⟩
        · exact ih _ _ h hst c hc
theorem getD_mem {i : Nat} (h : i < r.length) : r.getD i 0 ∈ r := by
  have e : r.getD i 0 = r[i] := by simp [List.getD_eq_getElem?_getD, List.getElem?_eq_getElem h]
  rw [e]
  exact List.getElem_mem h
theorem wq_codes (h : wq lo r [0] = some []) (hl : r.length ≤ 2000) : (∀ i, r.getD i 0 < 10000) ∧ (∀ i, i < r.length → ¬ r.getD i 0 = 0) ∧ ∀ i, i < r.length → r.getD i 0 = 64 ∨ r.getD i 0 = 92 ∨ lo ≤ r.getD i 0 := by
  have h1 := wq_all (B := 2000) r [0] [] h (fun y hy => by rw [List.mem_singleton] at hy; omega)
  refine ⟨fun i => ?_, fun i hi => ?_, fun i hi => (h1 _ (getD_mem hi)).1⟩
  · by_cases c : i < r.length
    · have := (h1 _ (getD_mem c)).2.2
      omega
    · rw [te_getD (by omega)]
      decide
  · have := (h1 _ (getD_mem hi)).2.1
    omega
theorem te_pt_s {i en : Nat} (hi : i < en) (he : en ≤ r.length) : te_pt r i en = r.getD i 0 :: te_pt r (i + 1) en := by
  unfold te_pt
  rw [te_drop (by omega), show en - i = (en - (i + 1)) + 1 by omega, List.take_succ_cons]
/-- places told one by one, each by its depth -/
theorem wq_pc {D : Nat → Nat} {en : Nat} {F : Nat → List Nat} {a b : Nat → Nat} (ha : ∀ y, a (y + 1) = a y + 1) (hb : ∀ y, b (y + 1) = b y + 1) (he : en ≤ r.length) : ∀ m i st, wk_is r D en i st → en - i = m → i ≤ en → wq lo (te_pt r i en) (st.map a) = some [] →
    (∀ j, i ≤ j → j < en → (r.getD j 0 = 64 → F j = [64]) ∧ (r.getD j 0 = 92 → F j = [92]) ∧ (¬ r.getD j 0 = 64 → ¬ r.getD j 0 = 92 → wo lo (r.getD j 0) (a (D j)) = true → tm lo (F j) (b (D j)))) →
    wq lo (te_pc F i m) (st.map b) = some [] := by
  intro m
  induction m with
  | zero =>
    intro i st hw hm hi h hF
    have e : te_pt r i en = [] := by
      unfold te_pt
      rw [hm, List.take_zero]
    rw [e, wq] at h
    have h1 : st.map a = [] := by injection h
    have h2 : st = [] := List.map_eq_nil_iff.mp h1
    subst h2
    rw [te_pc, wq]
    rfl
  | succ m ih =>
    intro i st hw hm hi h hF
    obtain ⟨d, st', rfl, hD, hd, hl, hw'⟩ := wk_s hw (by omega) he
    rw [te_pt_s (by omega) he] at h
    obtain ⟨f1, f2, f3⟩ := hF i (Nat.le_refl _) (by omega)
    rw [te_pc]
    have h : wq lo (r.getD i 0 :: te_pt r (i + 1) en) (a d :: st'.map a) = some [] := h
    rcases wq_inv h with ⟨c, h⟩ | ⟨c, h⟩ | ⟨h1, h2, h3, h⟩
    · rw [f1 c]
      rw [st_nx, if_pos c] at hw'
      show wq lo (64 :: te_pc F (i + 1) m) (b d :: st'.map b) = some []
      rw [wq_64]
      exact ih (i + 1) (d :: d :: st') hw' (by omega) (by omega) h (fun j j1 j2 => hF j (by omega) j2)
    · rw [f2 c]
      rw [st_nx, if_neg (by omega), if_pos c] at hw'
      show wq lo (92 :: te_pc F (i + 1) m) (b d :: st'.map b) = some []
      rw [wq_92, ← hb]
      rw [← ha] at h
      exact ih (i + 1) ((d + 1) :: st') hw' (by omega) (by omega) h (fun j j1 j2 => hF j (by omega) j2)
    · rw [st_nx, if_neg h1, if_neg h2] at hw'
      have h4 := f3 h1 h2 (by rw [hD]; exact h3)
      rw [hD] at h4
      show wq lo (F i ++ te_pc F (i + 1) m) (b d :: st'.map b) = some []
      rw [h4.use]
      exact ih (i + 1) st' hw' (by omega) (by omega) h (fun j j1 j2 => hF j (by omega) j2)
theorem wo_iff {c d : Nat} : wo lo c d = true ↔ lo ≤ c ∧ ((1000 ≤ c ∧ c < 1000 + d) ∨ c = 83 ∨ c = 75 ∨ c = 73 ∨ c = 1 ∨ c = 2 ∨ (97 ≤ c ∧ c ≤ 122)) := by
  unfold wo
  rw [decide_eq_true_eq]
theorem tm_leaf2 {c d : Nat} (h1 : ¬ c = 64) (h2 : ¬ c = 92) (h : wo lo c d = true) : tm lo [c] d := by
  unfold tm
  rw [wq_leaf h1 h2 h, wq]
theorem tm_shift {s d mo : Nat} {st : List Nat} (h : wq lo (r.drop s) (d :: st) = some []) (hs : s ≤ r.length) : tm lo (te_pc (te_sf r (te_D r s) mo) s (te_en r s - s)) (d + mo) := by
  have hp := (wq_pt h).1
  have hn := (wq_nd _ _ h).1
  rw [List.length_cons, Nat.add_comm] at hn
  have hw := wk_0 (te_nd_add _ 1 _ hn).1
  have h1 := wq_pc (lo := lo) (a := fun y => y + d) (b := fun y => y + (d + mo)) (F := te_sf r (te_D r s) mo) (fun y => by omega) (fun y => by omega) (te_en_le hs) _ s [0] hw rfl (te_en_ge r s) (by
    show wq lo _ [0 + d] = _
    rw [Nat.zero_add]
    exact hp) (fun j j1 j2 => ⟨fun c => ?_, fun c => ?_, fun c1 c2 c3 => ?_⟩)
  · have h1 : wq lo _ [0 + (d + mo)] = some [] := h1
    rw [Nat.zero_add] at h1
    exact h1
  · unfold te_sf
    rw [if_pos (by omega), c]
  · unfold te_sf
    rw [if_pos (by omega), c]
  · have c4 := wo_iff.mp c3
    unfold te_sf
    by_cases c5 : r.getD j 0 < 1000 + te_D r s j
    · rw [if_pos c5]
      exact tm_leaf2 c1 c2 (wo_iff.mpr (by omega))
    · rw [if_neg c5]
      exact tm_leaf2 (by omega) (by omega) (wo_iff.mpr (by omega))
theorem tm_sub (hlo : lo ≤ 1000) {s d : Nat} {st : List Nat} (h : wq lo (r.drop s) ((d + 1) :: d :: st) = some []) (hs : s ≤ r.length) : tm lo (te_pc (te_sb r (te_DD r s) (te_en r s) (te_en r (te_en r s) - te_en r s)) s (te_en r s - s)) d := by
  obtain ⟨hp, hq⟩ := wq_pt h
  have hn := (wq_nd _ _ h).1
  rw [List.length_cons, Nat.add_comm] at hn
  have hw := wk_0 (te_nd_add _ 1 _ hn).1
  have hle := te_en_le hs
  have e : te_pc (te_sb r (te_DD r s) (te_en r s) (te_en r (te_en r s) - te_en r s)) s (te_en r s - s) = te_pc (te_bo r (te_D r s) (te_af r (te_en r s))) s (te_en r s - s) := by
    refine te_pc_congr _ _ (fun j j1 j2 => ?_)
    have hj : j < te_en r s := by have := te_en_ge r s; omega
    have eD : te_DD r s j = te_D r s j := if_pos hj
    unfold te_sb te_bo
    rw [eD]
    have eF : te_pc (te_sf r (te_DD r s) (te_D r s j)) (te_en r s) (te_en r (te_en r s) - te_en r s) = te_af r (te_en r s) (te_D r s j) := by
      refine te_pc_congr _ _ (fun i i1 i2 => ?_)
      unfold te_sf
      rw [show te_DD r s i = te_D r (te_en r s) i from if_neg (by omega)]
    rw [eF]
  rw [e]
  have h1 := wq_pc (lo := lo) (a := fun y => y + (d + 1)) (b := fun y => y + d) (F := te_bo r (te_D r s) (te_af r (te_en r s))) (fun y => by omega) (fun y => by omega) hle _ s [0] hw rfl (te_en_ge r s) (by
    show wq lo _ [0 + (d + 1)] = _
    rw [Nat.zero_add]
    exact hp) (fun j j1 j2 => ⟨fun c => ?_, fun c => ?_, fun c1 c2 c3 => ?_⟩)
  · have h1 : wq lo _ [0 + d] = some [] := h1
    rw [Nat.zero_add] at h1
    exact h1
  · unfold te_bo
    rw [if_neg (by omega), if_pos (by omega), c]
  · unfold te_bo
    rw [if_neg (by omega), if_pos (by omega), c]
  · have c4 := wo_iff.mp c3
    unfold te_bo
    by_cases c5 : r.getD j 0 = 1000 + te_D r s j
    · rw [if_pos c5]
      show tm lo (te_af r (te_en r s) (te_D r s j)) (te_D r s j + d)
      rw [Nat.add_comm]
      exact tm_shift hq hle
    · rw [if_neg c5]
      by_cases c6 : r.getD j 0 ≤ 1000 + te_D r s j
      · rw [if_pos c6]
        exact tm_leaf2 c1 c2 (wo_iff.mpr (by omega))
      · rw [if_neg c6]
        exact tm_leaf2 (by omega) (by omega) (wo_iff.mpr (by omega))
theorem wq_d1 {s d : Nat} {st : List Nat} (hs : s < r.length) (h : wq lo (r.drop s) (d :: st) = some []) : (r.getD s 0 = 64 → wq lo (r.drop (s + 1)) (d :: d :: st) = some []) ∧ (r.getD s 0 = 92 → wq lo (r.drop (s + 1)) ((d + 1) :: st) = some []) ∧ (¬ r.getD s 0 = 64 → ¬ r.getD s 0 = 92 → wo lo (r.getD s 0) d = true ∧ wq lo (r.drop (s + 1)) st = some []) := by
  rw [te_drop hs] at h
  rcases wq_inv h with ⟨c, h⟩ | ⟨c, h⟩ | ⟨h1, h2, h3, h⟩
  · exact ⟨fun _ => h, fun c2 => by omega, fun c2 => absurd c c2⟩
  · exact ⟨fun c2 => by omega, fun _ => h, fun _ c2 => absurd c c2⟩
  · exact ⟨fun c2 => absurd c2 h1, fun c2 => absurd c2 h2, fun _ _ => ⟨h3, h⟩⟩
theorem wq_ne {s d : Nat} {st : List Nat} (h : wq lo (r.drop s) (d :: st) = some []) : s < r.length := by
  refine Decidable.byContradiction (fun c => ?_)
  rw [List.drop_eq_nil_of_le (by omega), wq] at h
  exact absurd h (by simp)
/-- a step keeps a whole closed term -/
theorem wq_step (hlo : lo ≤ 1000) (h : wq lo r [0] = some []) {i : Nat} (hi : ¬ te_rh r i = 0) : wq lo (te_step r i) [0] = some [] := by
  have hil : i < r.length := (te_rh_len hi).1
  obtain ⟨d, st, h1, h2⟩ := wq_at h hil
  have key : wq lo (te_out r i) (d :: st) = some st ∧ wq lo (r.drop (te_end r i)) st = some [] := by
    rcases rh_or r i with e | e | e | e | e
    · exact absurd e hi
    · obtain ⟨a1, a2⟩ := rh_92 e
      have k1 := (wq_d1 hil h2).1 a1
      have k2 := (wq_d1 (wq_ne k1) k1).2.1 a2
      have k3 := wq_ne k2
      unfold te_out te_end
      rw [if_pos e, if_pos e]
      exact ⟨(tm_sub hlo k2 (by omega)).end_, (wq_pt (wq_pt k2).2).2⟩
    · obtain ⟨a1, a2⟩ := rh_73 e
      have k1 := (wq_d1 hil h2).1 a1
      have k2 := ((wq_d1 (wq_ne k1) k1).2.2 (by rw [a2]; decide) (by rw [a2]; decide)).2
      unfold te_out te_end
      rw [if_neg (by omega), if_neg (by omega), if_neg (by omega), if_neg (by omega), if_neg (by omega), if_neg (by omega)]
      exact ⟨(wq_pt k2).1.end_, (wq_pt k2).2⟩
    · obtain ⟨a1, a2, a3⟩ := rh_75 e
      have k1 := (wq_d1 hil h2).1 a1
      have k2 := (wq_d1 (wq_ne k1) k1).1 a2
      have k3 := ((wq_d1 (wq_ne k2) k2).2.2 (by rw [show i + 1 + 1 = i + 2 from rfl, a3]; decide) (by rw [show i + 1 + 1 = i + 2 from rfl, a3]; decide)).2
      unfold te_out te_end
      rw [if_neg (by omega), if_neg (by omega), if_pos e, if_neg (by omega), if_neg (by omega), if_pos e]
      exact ⟨(wq_pt k3).1.end_, (wq_pt (wq_pt k3).2).2⟩
    · obtain ⟨a1, a2, a3, a4⟩ := rh_83 e
      have k1 := (wq_d1 hil h2).1 a1
      have k2 := (wq_d1 (wq_ne k1) k1).1 a2
      have k3 := (wq_d1 (wq_ne k2) k2).1 a3
      have k4 := ((wq_d1 (wq_ne k3) k3).2.2 (by rw [show i + 1 + 1 + 1 = i + 3 from rfl, a4]; decide) (by rw [show i + 1 + 1 + 1 = i + 3 from rfl, a4]; decide)).2
      obtain ⟨pa, k5⟩ := wq_pt k4
      obtain ⟨pb, k6⟩ := wq_pt k5
      obtain ⟨pc, k7⟩ := wq_pt k6
      unfold te_out te_end
      rw [if_neg (by omega), if_pos e, if_neg (by omega), if_pos e]
      refine ⟨?_, k7⟩
      have n4 : i + 4 < r.length := wq_ne k4
      rw [te_pt_app (te_en_ge r (te_en r (i + 4))) (te_en_ge r (te_en r (te_en r (i + 4))))]
      simp only [List.append_assoc]
      show wq lo (64 :: 64 :: (te_pt r (i + 4) (te_en r (i + 4)) ++ (te_pt r (te_en r (te_en r (i + 4))) (te_en r (te_en r (te_en r (i + 4)))) ++ (64 :: (te_pt r (te_en r (i + 4)) (te_en r (te_en r (i + 4))) ++ te_pt r (te_en r (te_en r (i + 4))) (te_en r (te_en r (te_en r (i + 4))))))))) (d :: st) = some st
      rw [wq_64, wq_64, pa.use, pc.use, wq_64, pb.use]
      exact pc.end_
  unfold te_step
  rw [List.append_assoc]
  exact wq_then h1 (wq_then key.1 key.2)
theorem wq_bi {v : Nat} (v1 : 97 ≤ v) (v2 : v ≤ 122) (h : wq lo r [0] = some []) : wq lo (te_bi r v) [0] = some [] := by
  have hn := wq_nd _ _ h
  have hn1 : te_nd r 1 = 0 := hn.1
  have hn2 : te_sc r 1 = r.length := hn.2
  have hw := wk_0 (r := r) (s := 0) (by rw [List.drop_zero]; exact hn1)
  have hen : te_en r 0 = r.length := by rw [te_en, List.drop_zero, hn2]; omega
  have hpt : te_pt r 0 (te_en r 0) = r := by
    rw [hen]
    unfold te_pt
    rw [List.drop_zero, Nat.sub_zero, List.take_length]
  have h1 := wq_pc (lo := lo) (a := fun y => y + 0) (b := fun y => y + 1) (F := te_bd r v) (fun y => by omega) (fun y => by omega) (Nat.le_of_eq hen) _ 0 [0] hw rfl (te_en_ge r 0) (by
    rw [hpt]
    exact h) (fun j j1 j2 => ⟨fun c => ?_, fun c => ?_, fun c1 c2 c3 => ?_⟩)
  · show wq lo (92 :: te_pc (te_bd r v) 0 r.length) [0] = some []
    rw [wq_92]
    rw [hen] at h1
    exact h1
  · unfold te_bd
    rw [if_neg (by omega), c]
  · unfold te_bd
    rw [if_neg (by omega), c]
  · have c4 := wo_iff.mp c3
    unfold te_bd
    by_cases c5 : r.getD j 0 = v
    · rw [if_pos c5]
      exact tm_leaf2 (by omega) (by omega) (wo_iff.mpr (by omega))
    · rw [if_neg c5]
      exact tm_leaf2 c1 c2 (wo_iff.mpr (by omega))
theorem wq_apl {r2 : List Nat} (h : wq lo r [0] = some []) (h2 : wq lo r2 [0] = some []) : wq lo ([64] ++ r ++ r2) [0] = some [] := by
  rw [List.append_assoc]
  show wq lo (64 :: (r ++ r2)) [0] = some []
  have h3 : tm lo r 0 := h
  rw [wq_64, h3.use]
  exact h2
theorem wq_nq (h : wq lo r [0] = some []) (hlo : 1 ≤ lo) : wq 1 (te_nq r) [0] = some [] := by
  have h3 : tm 1 r 0 := wq_lo hlo _ _ _ h
  unfold te_nq
  simp only [List.append_assoc]
  show wq 1 (64 :: 64 :: (r ++ (1 :: [2]))) [0] = some []
  rw [wq_64, wq_64, h3.use]
  rfl
theorem te_sc_in : ∀ (l : List Nat) (o j : Nat), j < te_sc l o → te_sc (l.drop j) 1 ≤ te_sc l o - j := by
  intro l
  induction l with
  | nil => intro o j h; exact absurd h (Nat.not_lt_zero j)
  | cons c l ih =>
    intro o j h
    cases o with
    | zero => rw [te_sc0] at h; exact absurd h (Nat.not_lt_zero j)
    | succ o =>
      cases j with
      | zero =>
        rw [List.drop_zero, Nat.sub_zero, Nat.add_comm o 1, te_sc_add]
        omega
      | succ j =>
        rw [te_sc] at h ⊢
        rw [List.drop_succ_cons]
        have := ih (if c = 64 then o + 2 else if c = 92 then o + 1 else o) j (by omega)
        omega
theorem te_en_in {s j : Nat} (h1 : s ≤ j) (h2 : j < te_en r s) : te_en r j ≤ te_en r s := by
  unfold te_en at h2 ⊢
  have := te_sc_in (r.drop s) 1 (j - s) (by omega)
  rw [List.drop_drop, show s + (j - s) = j by omega] at this
  omega
/-- an outside part, one abstraction less -/
theorem tm_less (hlo : lo ≤ 1000) {s d : Nat} {st : List Nat} (h : wq lo (r.drop s) ((d + 1) :: st) = some []) (h92 : ∀ j, s ≤ j → j < te_en r s → ¬ r.getD j 0 = 92) (hu : te_u r (te_en r s - s) s = 0) : tm lo (ab_o r s (te_en r s)) d := by
  have hs := wq_ne h
  have hp := (wq_pt h).1
  have hn := (wq_nd _ _ h).1
  rw [List.length_cons, Nat.add_comm] at hn
  have hw := wk_0 (te_nd_add _ 1 _ hn).1
  have hge := te_en_ge r s
  have hno := te_u_no _ _ hu
  -- no abstraction within: every depth is 0
  have hD : ∀ m i st', wk_is r (te_D r s) (te_en r s) i st' → te_en r s - i = m → s ≤ i → i ≤ te_en r s → (∀ y ∈ st', y = 0) → ∀ j, i ≤ j → j < te_en r s → te_D r s j = 0 := by
    intro m
    induction m with
    | zero => intro i st' _ hm _ _ _ j j1 j2; omega
    | succ m ih =>
      intro i st' hw' hm hsi hi h0 j j1 j2
      obtain ⟨d', st2, rfl, e1, -, -, hw2⟩ := wk_s hw' (by omega) (te_en_le (by omega))
      have e0 : d' = 0 := h0 d' List.mem_cons_self
      by_cases c : j = i
      · rw [c, e1, e0]
      · refine ih (i + 1) _ hw2 (by omega) (by omega) (by omega) (fun y hy => ?_) j (by omega) j2
        unfold st_nx at hy
        rw [if_neg (h92 i hsi (by omega))] at hy
        by_cases c64 : r.getD i 0 = 64
        · rw [if_pos c64] at hy
          rcases List.mem_cons.mp hy with rfl | hy
          · exact e0
          · rcases List.mem_cons.mp hy with rfl | hy
            · exact e0
            · exact h0 y (List.mem_cons_of_mem _ hy)
        · rw [if_neg c64] at hy
          exact h0 y (List.mem_cons_of_mem _ hy)
  have hD0 := hD _ s [0] hw rfl (Nat.le_refl _) hge (fun y hy => List.mem_singleton.mp hy)
  have h1 := wq_pc (lo := lo) (a := fun y => y + (d + 1)) (b := fun y => y + d) (F := ab_f r) (fun y => by omega) (fun y => by omega) (te_en_le (by omega)) _ s [0] hw rfl hge (by
    show wq lo _ [0 + (d + 1)] = _
    rw [Nat.zero_add]
    exact hp) (fun j j1 j2 => ⟨fun c => ?_, fun c => ?_, fun c1 c2 c3 => ?_⟩)
  · have h1 : wq lo _ [0 + d] = some [] := h1
    rw [Nat.zero_add] at h1
    exact h1
  · unfold ab_f
    rw [if_pos (by omega), c]
  · unfold ab_f
    rw [if_pos (by omega), c]
  · have c4 := wo_iff.mp c3
    have c5 := hno j j1 (by omega)
    have c6 := hD0 j j1 j2
    have c4 : lo ≤ r.getD j 0 ∧ ((1000 ≤ r.getD j 0 ∧ r.getD j 0 < 1000 + (te_D r s j + (d + 1))) ∨ r.getD j 0 = 83 ∨ r.getD j 0 = 75 ∨ r.getD j 0 = 73 ∨ r.getD j 0 = 1 ∨ r.getD j 0 = 2 ∨ (97 ≤ r.getD j 0 ∧ r.getD j 0 ≤ 122)) := c4
    unfold ab_f
    show tm lo _ (te_D r s j + d)
    by_cases c7 : r.getD j 0 ≤ 1000
    · rw [if_pos c7]
      exact tm_leaf2 c1 c2 (wo_iff.mpr (by omega))
    · rw [if_neg c7]
      exact tm_leaf2 (by omega) (by omega) (wo_iff.mpr (by omega))
theorem ab_o_no {e : Nat} : ∀ m p, e - p = m → (∀ j, p ≤ j → j < e → ¬ r.getD j 0 = 92) → ∀ c ∈ te_pc (ab_f r) p m, ¬ c = 92 := by
  intro m
  induction m with
  | zero => intro p _ _ c hc; exact absurd hc (by simp [te_pc])
  | succ m ih =>
    intro p hm h c hc
    rw [te_pc] at hc
    rcases List.mem_append.mp hc with hc | hc
    · unfold ab_f at hc
      rw [List.mem_singleton] at hc
      have h1 := h p (Nat.le_refl _) (by omega)
      split at hc <;> omega
    · exact ih (p + 1) (by omega) (fun j j1 j2 => h j (by omega) j2) c hc
theorem wq_wl (hlo : lo ≤ 73) {s e d : Nat} (hcl : cl r) (he : e ≤ r.length) (hE : ∀ i, s ≤ i → i < e → te_en r i ≤ e ∧ ¬ r.getD i 0 = 92) : ∀ m i (st rest : List Nat), ab_k r e i st → s ≤ i → e - i ≤ m → wq lo (r.drop i) (List.replicate st.length (d + 1) ++ rest) = some [] → wq lo (ab_wl r s e (e - i) i i) (List.replicate st.length d) = some [] ∧ ∀ c ∈ ab_wl r s e (e - i) i i, ¬ c = 92 := by
  have stop : ∀ i, i = e → wq lo (ab_wl r s e (e - i) i i) (List.replicate ([] : List Nat).length d) = some [] ∧ ∀ c ∈ ab_wl r s e (e - i) i i, ¬ c = 92 := by
    intro i hi
    rw [show e - i = 0 by omega, ab_wl]
    exact ⟨by rw [wq]; rfl, fun c hc => absurd hc (by simp)⟩
  intro m
  induction m with
  | zero =>
    intro i st rest hst hs hm h
    cases st with
    | nil => exact stop i hst
    | cons p st => exact absurd hst.2.1 (by have := hst.1; omega)
  | succ m ih =>
    intro i st rest hst hs hm h
    cases st with
    | nil => exact stop i hst
    | cons p st =>
      obtain ⟨hpi, hpe, hst'⟩ := hst
      subst hpi
      have hpr : p < r.length := by omega
      obtain ⟨hE1, hE2⟩ := hE p hs hpe
      have gt := te_en_gt hpr
      have hEp : ab_E r e p = te_en r p := if_pos hpe
      have h : wq lo (r.drop p) ((d + 1) :: (List.replicate st.length (d + 1) ++ rest)) = some [] := h
      obtain ⟨p1, p2⟩ := wq_pt h
      have nxt : ∀ (q : List Nat) (w : Nat) (st2 rest2 : List Nat), ab_w r s e p = (q, w) → p < w → w ≤ e → ab_k r e w st2 → wq lo (r.drop w) (List.replicate st2.length (d + 1) ++ rest2) = some [] → wq lo q (d :: List.replicate st.length d) = some (List.replicate st2.length d) → (∀ c ∈ q, ¬ c = 92) → wq lo (ab_wl r s e (e - p) p p) (List.replicate (p :: st).length d) = some [] ∧ ∀ c ∈ ab_wl r s e (e - p) p p, ¬ c = 92 := by
        intro q w st2 rest2 ew w1 w2 gk g1 g2 g3
        obtain ⟨i1, i2⟩ := ih w st2 rest2 gk (by omega) (by omega) g1
        rw [ab_wl_s hpe ew w1 w2]
        exact ⟨wq_then g2 i1, fun c hc => (List.mem_append.mp hc).elim (g3 c) (i2 c)⟩
      have in92 : ∀ s', s ≤ s' → te_en r s' ≤ e → ∀ j, s' ≤ j → j < te_en r s' → ¬ r.getD j 0 = 92 := fun s' a1 a2 j a3 a4 => (hE j (by omega) (by omega)).2
      by_cases c1 : r.getD p 0 = 1000
      · refine nxt [73] (te_en r p) st rest ?_ gt hE1 hst' p2 ?_ (by simp)
        · unfold ab_w
          rw [if_pos c1, hEp]
        · rw [wq_leaf (by decide) (by decide) (wo_iff.mpr (by omega)), wq]
      · by_cases c2 : te_u r (te_en r p - p) p = 0
        · refine nxt ([64] ++ [75] ++ ab_o r p (te_en r p)) (te_en r p) st rest ?_ gt hE1 hst' p2 ?_ ?_
          · unfold ab_w
            rw [if_neg c1, hEp, if_pos (ab_U_0 hs (Nat.le_of_lt gt) c2)]
          · rw [List.append_assoc]
            show wq lo (64 :: 75 :: ab_o r p (te_en r p)) _ = _
            rw [wq_64, wq_leaf (by decide) (by decide) (wo_iff.mpr (by omega))]
            exact (tm_less (by omega) h (in92 p hs hE1) c2).end_
          · intro c hc
            rw [List.append_assoc] at hc
            rcases List.mem_append.mp hc with hc | hc
            · rw [List.mem_singleton] at hc
              omega
            · rcases List.mem_append.mp hc with hc | hc
              · rw [List.mem_singleton] at hc
                omega
              · exact ab_o_no (e := te_en r p) _ p rfl (in92 p hs hE1) c hc
        · have c64 : r.getD p 0 = 64 := by
            refine Decidable.byContradiction (fun c9 => ?_)
            rw [te_en_leaf hpr c9 hE2, show p + 1 - p = 1 by omega, te_u, if_neg c1, te_u] at c2
            omega
          have cU := ab_U_1 (s := s) hs (Nat.le_of_lt gt) c2
          obtain ⟨k1, k2⟩ := cl_app2 hcl hpr c64
          have en1 := te_en_app hpr c64
          have gt1 := te_en_gt (show p + 1 < r.length by omega)
          have gt2 := te_en_gt k2
          have hEf : ab_E r e (p + 1) = te_en r (p + 1) := if_pos (by omega)
          have h5 := (wq_d1 hpr h).1 c64
          by_cases c3 : r.getD (te_en r (p + 1)) 0 = 1000 ∧ te_u r (te_en r (p + 1) - (p + 1)) (p + 1) = 0
          · refine nxt (ab_o r (p + 1) (te_en r (p + 1))) (te_en r p) st rest ?_ gt hE1 hst' p2 ?_ ?_
            · unfold ab_w
              rw [if_neg c1, hEp, if_neg cU, hEf, if_pos ⟨c3.1, ab_U_0 (by omega) (Nat.le_of_lt gt1) c3.2⟩]
            · exact (tm_less (by omega) h5 (in92 (p + 1) (by omega) (by omega)) c3.2).end_
            · intro c hc
              exact ab_o_no (e := te_en r (p + 1)) _ (p + 1) rfl (in92 (p + 1) (by omega) (by omega)) c hc
          · refine nxt ([64] ++ [64] ++ [83]) (p + 1) ((p + 1) :: te_en r (p + 1) :: st) rest ?_ (by omega) (by omega) ⟨rfl, by omega, rfl, by omega, by rw [← en1]; exact hst'⟩ h5 ?_ (by simp)
            · unfold ab_w
              rw [if_neg c1, hEp, if_neg cU, hEf, if_neg (fun h9 => c3 ⟨h9.1, Decidable.byContradiction (fun h8 => ab_U_1 (s := s) (by omega) (Nat.le_of_lt gt1) h8 h9.2)⟩)]
            · show wq lo (64 :: 64 :: [83]) _ = _
              rw [wq_64, wq_64, wq_leaf (by decide) (by decide) (wo_iff.mpr (by omega)), wq]
              rfl
/-- an abstraction taken away -/
theorem wq_ab (hlo : lo ≤ 73) (h : wq lo r [0] = some []) {i : Nat} (hi : i < r.length) (h92 : r.getD i 0 = 92) (hno : ∀ j, i < j → ¬ r.getD j 0 = 92) : (∀ j, i + 1 ≤ j → j < te_en r (i + 1) → te_en r j ≤ te_en r (i + 1) ∧ ¬ r.getD j 0 = 92) ∧ wq lo (ab_st r i) [0] = some [] ∧ ∀ j, i ≤ j → ¬ (ab_st r i).getD j 0 = 92 := by
  have hE : ∀ j, i + 1 ≤ j → j < te_en r (i + 1) → te_en r j ≤ te_en r (i + 1) ∧ ¬ r.getD j 0 = 92 := fun j j1 j2 => ⟨te_en_in j1 j2, hno j (by omega)⟩
  obtain ⟨d, st, h1, h2⟩ := wq_at h hi
  have h3 := (wq_d1 hi h2).2.1 h92
  have h4 := wq_ne h3
  have gt := te_en_gt h4
  have hle : te_en r (i + 1) ≤ r.length := te_en_le (by omega)
  obtain ⟨w1, w2⟩ := wq_wl (d := d) hlo (wq_cl h) hle hE _ (i + 1) [i + 1] st ⟨rfl, gt, rfl⟩ (Nat.le_refl _) (Nat.le_refl _) h3
  have w1 : tm lo (ab_wl r (i + 1) (te_en r (i + 1)) (te_en r (i + 1) - (i + 1)) (i + 1) (i + 1)) d := w1
  refine ⟨hE, ?_, fun j hj => ?_⟩
  · unfold ab_st
    rw [List.append_assoc]
    refine wq_then h1 ?_
    rw [w1.use]
    exact (wq_pt h3).2
  · intro hc
    unfold ab_st at hc
    rw [List.append_assoc, List.getD_eq_getElem?_getD, List.getElem?_append_right (by rw [List.length_take]; omega), ← List.getD_eq_getElem?_getD] at hc
    have hm : ∀ (l : List Nat) k, l.getD k 0 = 92 → (92 : Nat) ∈ l := by
      intro l k hk
      by_cases c : k < l.length
      · rw [← hk]
        exact getD_mem c
      · rw [te_getD (by omega)] at hk
        omega
    rcases List.mem_append.mp (hm _ _ hc) with h9 | h9
    · exact w2 92 h9 rfl
    · obtain ⟨k, k1, k2⟩ := List.getElem_of_mem h9
      rw [List.getElem_drop] at k2
      refine hno (te_en r (i + 1) + k) (by omega) ?_
      rw [List.length_drop] at k1
      rw [List.getD_eq_getElem?_getD, List.getElem?_eq_getElem (by omega)]
      exact k2
end
/-- what the benches' rows are: whole closed terms of at most 2000 marks -/
def PR (lo : Nat) (r : List Nat) : Prop := wq lo r [0] = some [] ∧ r.length ≤ 2000
def PA (m : Nat) (r : List Nat) : Prop := PR 3 r ∧ ∀ j, m ≤ j → ¬ r.getD j 0 = 92
theorem PR_1 {lo : Nat} : ∀ r, PR lo r → (∀ i, r.getD i 0 < 10000) ∧ (∀ i, i < r.length → ¬ r.getD i 0 = 0) ∧ cl r := fun _ h => ⟨(wq_codes h.1 h.2).1, (wq_codes h.1 h.2).2.1, wq_cl h.1⟩
theorem PR_2 {lo : Nat} (hlo : lo ≤ 1000) : ∀ r i, PR lo r → te_fr r r.length 0 = some i → (te_step r i).length ≤ 2000 → PR lo (te_step r i) := fun _ _ h hf hl => ⟨wq_step hlo h.1 (te_fr_some _ _ _ hf).1, hl⟩
theorem PR_3 {lo : Nat} : ∀ r, PR lo r → te_nd r 1 = 0 ∧ te_sc r 1 = r.length := fun r h => wq_nd r [0] h.1
theorem PA_1 : ∀ m r, PA m r → (∀ i, r.getD i 0 < 10000) ∧ (∀ i, i < r.length → ¬ r.getD i 0 = 0) ∧ cl r ∧ ∀ j, m ≤ j → ¬ r.getD j 0 = 92 := fun _ r h => ⟨(PR_1 r h.1).1, (PR_1 r h.1).2.1, (PR_1 r h.1).2.2, h.2⟩
theorem PA_2 : ∀ i r, PA (i + 1) r → r.getD i 0 = 92 → i < r.length ∧ (∀ j, i + 1 ≤ j → j < te_en r (i + 1) → te_en r j ≤ te_en r (i + 1) ∧ ¬ r.getD j 0 = 92) ∧ ((ab_st r i).length ≤ 2000 → PA i (ab_st r i)) := by
  intro i r h h92
  have hi : i < r.length := by
    refine Decidable.byContradiction (fun c => ?_)
    rw [te_getD (by omega)] at h92
    omega
  obtain ⟨a1, a2, a3⟩ := wq_ab (by decide) h.1.1 hi h92 (fun j hj => h.2 j (by omega))
  exact ⟨hi, a1, fun hl => ⟨⟨a2, hl⟩, a3⟩⟩
theorem PA_3 : ∀ i r, PA (i + 1) r → ¬ r.getD i 0 = 92 → PA i r := by
  intro i r h h92
  refine ⟨h.1, fun j hj => ?_⟩
  by_cases c : j = i
  · rw [c]
    exact h92
  · exact h.2 j (by omega)
theorem PA_0 {r : List Nat} (h : PR 3 r) : PA r.length r := ⟨h, fun j hj => by rw [te_getD hj]; decide⟩
theorem PA_ab : ∀ m r r', PA m r → te_ab m r = some r' → PR 3 r' := by
  intro m
  induction m with
  | zero =>
    intro r r' h e
    rw [te_ab] at e
    cases e
    exact h.1
  | succ m ih =>
    intro r r' h e
    rw [te_ab] at e
    by_cases c : r.getD m 0 = 92
    · rw [if_pos c] at e
      by_cases c2 : (ab_st r m).length ≤ 2000
      · rw [if_pos c2] at e
        exact ih _ _ ((PA_2 m r h c).2.2 c2) e
      · rw [if_neg c2] at e
        exact absurd e (by simp)
    · rw [if_neg c] at e
      exact ih _ _ (PA_3 m r h c) e
