/-! One instruction of a table, whichever it is; a run of them; the judgement of a method. -/
section
variable {l : Launch} {sc : Nat × (Nat → Int32)} {Y : mm_Y} {R : Room} {p : Program} {e : Env} {s : State} {m : MethodId} {args : Array Value} {below : List Frame} {meth : Method} {c : Code} {D : va_G} {A : Nat → Prop} {sa : Nat} {al : List Nat} {k n : Nat} {Z : State → Prop} {M M' : mm_M} {L L' : mm_L} {S S' : List Value} {pc : Nat}
theorem mx_l2i {j : Nat} (hrow : ∀ (H : Heap) (locs : List Loc) (ls : Array Slot) (st : List Value) (x : Int64), W p l e R s m args below meth c H locs k n Z (F0 m j ls (.int x.toInt32 :: st)) → W p l e R s m args below meth c H locs k n Z (F0 m pc ls (.long x :: st)))
    (hx : mm_s M L (mm_l2i S) = some (M', L', S')) (kk : mm_At l R p e s m args below meth c D A sa al k n Z (mm_nL Y) M' L' S' j) : mm_At l R p e s m args below meth c D A sa al k n Z (mm_nL Y) M L S pc := by
  obtain ⟨rfl, rfl, ho⟩ := mm_s_inv hx
  unfold mm_l2i at ho
  split at ho
  · next x R9 =>
    cases ho
    intro ws H locs ls st hH hS hL hl
    obtain ⟨st1, rfl, hl1⟩ := hl.g
    exact hrow H locs ls st1 x (kk ws H locs ls _ hH hS hL (hl1.pi _))
  · cases ho
theorem mx_i2l {j : Nat} (hrow : ∀ (H : Heap) (locs : List Loc) (ls : Array Slot) (st : List Value) (x : Int32), W p l e R s m args below meth c H locs k n Z (F0 m j ls (.long x.toInt64 :: st)) → W p l e R s m args below meth c H locs k n Z (F0 m pc ls (.int x :: st)))
    (hx : mm_s M L (mm_i2l S) = some (M', L', S')) (kk : mm_At l R p e s m args below meth c D A sa al k n Z (mm_nL Y) M' L' S' j) : mm_At l R p e s m args below meth c D A sa al k n Z (mm_nL Y) M L S pc := by
  obtain ⟨rfl, rfl, ho⟩ := mm_s_inv hx
  unfold mm_i2l at ho
  split at ho
  · next x R9 =>
    cases ho
    intro ws H locs ls st hH hS hL hl
    obtain ⟨st1, rfl, hl1⟩ := hl.i
    exact hrow H locs ls st1 x (kk ws H locs ls _ hH hS hL (hl1.pg _))
  · cases ho
theorem mx_lc {j : Nat} (hrow : ∀ (H : Heap) (locs : List Loc) (ls : Array Slot) (st : List Value) (x y : Int64), W p l e R s m args below meth c H locs k n Z (F0 m j ls (.int (lg_cmp x y) :: st)) → W p l e R s m args below meth c H locs k n Z (F0 m pc ls (.long y :: .long x :: st)))
    (hx : mm_s M L (mm_lc S) = some (M', L', S')) (kk : mm_At l R p e s m args below meth c D A sa al k n Z (mm_nL Y) M' L' S' j) : mm_At l R p e s m args below meth c D A sa al k n Z (mm_nL Y) M L S pc := by
  obtain ⟨rfl, rfl, ho⟩ := mm_s_inv hx
  unfold mm_lc at ho
  split at ho
  · next y x R9 =>
    cases ho
    intro ws H locs ls st hH hS hL hl
    obtain ⟨st1, rfl, hl1⟩ := hl.g
    obtain ⟨st2, rfl, hl2⟩ := hl1.g
    exact hrow H locs ls st2 x y (kk ws H locs ls _ hH hS hL (hl2.pi _))
  · cases ho
theorem mx_dup {j : Nat} (hrow : ∀ (H : Heap) (locs : List Loc) (ls : Array Slot) (st : List Value) (w : Value), w.category = 1 → W p l e R s m args below meth c H locs k n Z (F0 m j ls (w :: w :: st)) → W p l e R s m args below meth c H locs k n Z (F0 m pc ls (w :: st)))
    (hx : mm_s M L (mm_dup S) = some (M', L', S')) (kk : mm_At l R p e s m args below meth c D A sa al k n Z (mm_nL Y) M' L' S' j) : mm_At l R p e s m args below meth c D A sa al k n Z (mm_nL Y) M L S pc := by
  obtain ⟨rfl, rfl, ho⟩ := mm_s_inv hx
  unfold mm_dup at ho
  split at ho
  · next v R9 =>
    split at ho
    · next hc =>
      cases ho
      intro ws H locs ls st hH hS hL hl
      obtain ⟨w, st', rfl, hv, hl'⟩ := hl
      exact hrow H locs ls st' w (hv.cat.trans hc) (kk ws H locs ls _ hH hS hL (mm_l.pv hv (mm_l.pv hv hl')))
    · cases ho
  · cases ho
theorem mx_pop {j : Nat} (hrow : ∀ (H : Heap) (locs : List Loc) (ls : Array Slot) (st : List Value) (w : Value), w.category = 1 → W p l e R s m args below meth c H locs k n Z (F0 m j ls st) → W p l e R s m args below meth c H locs k n Z (F0 m pc ls (w :: st)))
    (hx : mm_s M L (mm_pop S) = some (M', L', S')) (kk : mm_At l R p e s m args below meth c D A sa al k n Z (mm_nL Y) M' L' S' j) : mm_At l R p e s m args below meth c D A sa al k n Z (mm_nL Y) M L S pc := by
  obtain ⟨rfl, rfl, ho⟩ := mm_s_inv hx
  unfold mm_pop at ho
  split at ho
  · next v R9 =>
    split at ho
    · next hc =>
      cases ho
      intro ws H locs ls st hH hS hL hl
      obtain ⟨w, st', rfl, hv, hl'⟩ := hl
      exact hrow H locs ls st' w (hv.cat.trans hc) (kk ws H locs ls _ hH hS hL hl')
    · cases ho
  · cases ho
theorem mx_dup2 {j : Nat} (hrow : ∀ (H : Heap) (locs : List Loc) (ls : Array Slot) (st : List Value) (w u : Value), w.category = 1 → u.category = 1 → W p l e R s m args below meth c H locs k n Z (F0 m j ls (w :: u :: w :: u :: st)) → W p l e R s m args below meth c H locs k n Z (F0 m pc ls (w :: u :: st)))
    (hx : mm_s M L (mm_dup2 S) = some (M', L', S')) (kk : mm_At l R p e s m args below meth c D A sa al k n Z (mm_nL Y) M' L' S' j) : mm_At l R p e s m args below meth c D A sa al k n Z (mm_nL Y) M L S pc := by
  obtain ⟨rfl, rfl, ho⟩ := mm_s_inv hx
  unfold mm_dup2 at ho
  split at ho
  · next v u R9 =>
    split at ho
    · next hc =>
      split at ho
      · next hc2 =>
        cases ho
        intro ws H locs ls st hH hS hL hl
        obtain ⟨w, st', rfl, hv, hl'⟩ := hl
        obtain ⟨w2, st2, rfl, hv2, hl2⟩ := hl'
        exact hrow H locs ls st2 w w2 (hv.cat.trans hc) (hv2.cat.trans hc2) (kk ws H locs ls _ hH hS hL (mm_l.pv hv (mm_l.pv hv2 (mm_l.pv hv (mm_l.pv hv2 hl2)))))
      · cases ho
    · cases ho
  · cases ho
theorem mx_inc {i j : Nat} {z : Int32} {nL : Nat} (hrow : ∀ (H : Heap) (locs : List Loc) (ls : Array Slot) (st : List Value) (x : Int32) (q : Nat), lv_has ls nL (mm_ls ls) → (mm_ls ls)[q]? = some (i, .int x) → i < nL → (∀ ls' : Array Slot, lv_has ls' nL ((i, Value.int (x + z)) :: (mm_ls ls).filter (fun q => !(q.1 == i) && !(q.1 + 1 == i && q.2.category == 2))) → W p l e R s m args below meth c H locs k n Z (F0 m j ls' st)) → W p l e R s m args below meth c H locs k n Z (F0 m pc ls st))
    (hx : mm_inc L i z = some L') (kk : mm_At l R p e s m args below meth c D A sa al k n Z nL M L' S j) : mm_At l R p e s m args below meth c D A sa al k n Z nL M L S pc := by
  unfold mm_inc at hx
  split at hx
  · next x hg =>
    intro ws H locs ls st hH hS hL hl
    obtain ⟨w, h1, h2⟩ := hL.2.2.2 i _ (mm_get_inv hg)
    have h2' : w = .int x := h2
    subst h2'
    obtain ⟨q, hq⟩ := List.getElem?_of_mem (mm_ls_mem h1)
    refine hrow H locs ls st x q (mm_ls_has hL.2.1 hL.2.2.1) hq (by rw [← hL.1]; exact (mm_set_inv hx).1) (fun ls' h' => ?_)
    exact kk ws H locs ls' _ hH hS (hL.set hx rfl h') hl
  · cases hx
set_option maxHeartbeats 4000000 in
theorem mx_all {q : mm_In} (hC : mm_Cx sc Y D A sa p s m args meth c) (hY : mm_okY Y) (hq : (pc, q) ∈ mm_tab Y) (hx : mm_x q M L S = some (M', L', S')) (kk : mm_At l R p e s m args below meth c D A sa al k n Z (mm_nL Y) M' L' S' q.2.1) : mm_At l R p e s m args below meth c D A sa al k n Z (mm_nL Y) M L S pc := by
  have hd := hY.1 _ hq
  have ho := hY.2.1 _ hq
  have hex := hC.1
  have hb := hC.2.1
  obtain ⟨i, nx, aux, v⟩ := q
  dsimp only at hd ho kk
  cases i
  case iconst i =>
    simp only [mm_ok, Bool.and_eq_true, decide_eq_true_eq] at ho
    obtain ⟨h1, h2⟩ := ho
    simp only [mm_x, Option.some.injEq, Prod.mk.injEq] at hx
    obtain ⟨rfl, rfl, rfl⟩ := hx
    subst h2
    exact mx_p (fun H locs ls st kk => lv_iconst hex hb hd h1 kk) kk
  case bipush i =>
    simp only [mm_ok, Bool.and_eq_true, decide_eq_true_eq] at ho
    obtain ⟨h1, h2⟩ := ho
    simp only [mm_x, Option.some.injEq, Prod.mk.injEq] at hx
    obtain ⟨rfl, rfl, rfl⟩ := hx
    subst h2
    exact mx_p (fun H locs ls st kk => lv_bipush hex hb hd h1 kk) kk
  case sipush i =>
    simp only [mm_ok, Bool.and_eq_true, decide_eq_true_eq] at ho
    obtain ⟨h1, h2⟩ := ho
    simp only [mm_x, Option.some.injEq, Prod.mk.injEq] at hx
    obtain ⟨rfl, rfl, rfl⟩ := hx
    subst h2
    exact mx_p (fun H locs ls st kk => lv_sipush hex hb hd h1 kk) kk
  case lconst i =>
    simp only [mm_ok, decide_eq_true_eq] at ho
    simp only [mm_x, Option.some.injEq, Prod.mk.injEq] at hx
    obtain ⟨rfl, rfl, rfl⟩ := hx
    subst ho
    exact fun ws H locs ls st hH hS hL hl => lv_lconst hex hb hd rfl (kk ws H locs ls _ hH hS hL (hl.pg _))
  case iload_n i =>
    simp only [mm_ok, decide_eq_true_eq] at ho
    subst ho
    exact mx_ldi (fun H locs ls st x h kk => lv_iload_n hex hb hd rfl h kk) hx kk
  case iload i =>
    simp only [mm_ok, decide_eq_true_eq] at ho
    subst ho
    exact mx_ldi (fun H locs ls st x h kk => lv_iload hex hb hd h kk) hx kk
  case lload_n i =>
    simp only [mm_ok, decide_eq_true_eq] at ho
    subst ho
    exact mx_ldl (fun H locs ls st x h kk => lv_lload_n hex hb hd rfl h kk) hx kk
  case aload_n i =>
    simp only [mm_ok, decide_eq_true_eq] at ho
    subst ho
    exact mx_lda (fun H locs ls st x h kk => lv_aload_n hex hb hd rfl h kk) hx kk
  case aload i =>
    simp only [mm_ok, decide_eq_true_eq] at ho
    subst ho
    exact mx_lda (fun H locs ls st x h kk => lv_aload hex hb hd h kk) hx kk
  case istore_n i =>
    simp only [mm_ok, decide_eq_true_eq] at ho
    subst ho
    exact mx_sti (fun H locs ls st x h1 h2 kk => lv_istore_n hex hb hd rfl h1 h2 rfl kk) hx kk
  case istore i =>
    simp only [mm_ok, decide_eq_true_eq] at ho
    subst ho
    exact mx_sti (fun H locs ls st x h1 h2 kk => lv_istore hex hb hd h1 h2 rfl kk) hx kk
  case astore_n i =>
    simp only [mm_ok, decide_eq_true_eq] at ho
    subst ho
    exact mx_sta (fun H locs ls st x h1 h2 kk => lv_astore_n hex hb hd rfl h1 h2 rfl kk) hx kk
  case astore i =>
    simp only [mm_ok, decide_eq_true_eq] at ho
    subst ho
    exact mx_sta (fun H locs ls st x h1 h2 kk => lv_astore hex hb hd h1 h2 rfl kk) hx kk
  case iinc i z =>
    simp only [mm_ok, Bool.and_eq_true, decide_eq_true_eq] at ho
    obtain ⟨h1, h2⟩ := ho
    subst h2
    simp only [mm_x] at hx
    split at hx
    · next L9 h9 =>
      cases hx
      exact mx_inc (fun H locs ls st x q g1 g2 g3 kk => lv_iinc hex hb hd g1 g2 (by rw [h1]) g3 rfl kk) h9 kk
    · cases hx
  case iadd =>
    simp only [mm_ok, decide_eq_true_eq] at ho
    subst ho
    exact mx_b (fun H locs ls st x y kk => lv_iadd hex hb hd kk) hx kk
  case isub =>
    simp only [mm_ok, decide_eq_true_eq] at ho
    subst ho
    exact mx_b (fun H locs ls st x y kk => lv_isub hex hb hd kk) hx kk
  case imul =>
    simp only [mm_ok, decide_eq_true_eq] at ho
    subst ho
    exact mx_b (fun H locs ls st x y kk => lv_imul hex hb hd kk) hx kk
  case iand =>
    simp only [mm_ok, decide_eq_true_eq] at ho
    subst ho
    exact mx_b (fun H locs ls st x y kk => lv_iand hex hb hd kk) hx kk
  case land =>
    simp only [mm_ok, decide_eq_true_eq] at ho
    subst ho
    exact mx_bl (fun H locs ls st x y kk => lv_land hex hb hd kk) hx kk
  case lor =>
    simp only [mm_ok, decide_eq_true_eq] at ho
    subst ho
    exact mx_bl (fun H locs ls st x y kk => lv_lor hex hb hd kk) hx kk
  case lshl =>
    simp only [mm_ok, decide_eq_true_eq] at ho
    subst ho
    exact mx_sh (fun H locs ls st x y kk => lv_lshl hex hb hd rfl kk) hx kk
  case lshr =>
    simp only [mm_ok, decide_eq_true_eq] at ho
    subst ho
    exact mx_sh (fun H locs ls st x y kk => lv_lshr hex hb hd rfl kk) hx kk
  case lushr =>
    simp only [mm_ok, decide_eq_true_eq] at ho
    subst ho
    exact mx_sh (fun H locs ls st x y kk => lv_lushr hex hb hd rfl kk) hx kk
  case l2i =>
    simp only [mm_ok, decide_eq_true_eq] at ho
    subst ho
    exact mx_l2i (fun H locs ls st x kk => lv_l2i hex hb hd rfl kk) hx kk
  case i2l =>
    simp only [mm_ok, decide_eq_true_eq] at ho
    subst ho
    exact mx_i2l (fun H locs ls st x kk => lv_i2l hex hb hd rfl kk) hx kk
  case lcmp =>
    simp only [mm_ok, decide_eq_true_eq] at ho
    subst ho
    exact mx_lc (fun H locs ls st x y kk => W.lcmp hex hb hd kk) hx kk
  case dup =>
    simp only [mm_ok, decide_eq_true_eq] at ho
    subst ho
    exact mx_dup (fun H locs ls st w h kk => lv_dup hex hb hd h kk) hx kk
  case dup2 =>
    simp only [mm_ok, decide_eq_true_eq] at ho
    subst ho
    exact mx_dup2 (fun H locs ls st w u h1 h2 kk => lv_dup2_11 hex hb hd h1 h2 kk) hx kk
  case pop =>
    simp only [mm_ok, decide_eq_true_eq] at ho
    subst ho
    exact mx_pop (fun H locs ls st w h kk => lv_pop hex hb hd h kk) hx kk
  case goto off =>
    simp only [mm_ok, decide_eq_true_eq] at ho
    simp only [mm_x, Option.some.injEq, Prod.mk.injEq] at hx
    obtain ⟨rfl, rfl, rfl⟩ := hx
    exact fun ws H locs ls st hH hS hL hl => lv_goto hex hb hd ho (kk ws H locs ls st hH hS hL hl)
  case getfield ix =>
    simp only [mm_ok, Bool.and_eq_true, decide_eq_true_eq] at ho
    exact mx_get hC ho.1 hd ho.2 hx kk
  case putfield ix =>
    simp only [mm_ok, Bool.and_eq_true, decide_eq_true_eq] at ho
    simp only [mm_x] at hx
    split at hx
    · next M9 S9 h9 =>
      cases hx
      exact mx_put hC hY.2.2.1 ho.1.1 ho.1.2 hd ho.2 h9 kk
    · cases hx
  all_goals (simp only [mm_x] at hx; cases hx)
theorem mx_run (hC : mm_Cx sc Y D A sa p s m args meth c) (hY : mm_okY Y) : ∀ (i : Nat) {pc pc' : Nat} {M M' : mm_M} {L L' : mm_L} {S S' : List Value}, mm_run i (mm_tab Y) pc M L S = some (pc', M', L', S') → mm_At l R p e s m args below meth c D A sa al k n Z (mm_nL Y) M' L' S' pc' → mm_At l R p e s m args below meth c D A sa al k n Z (mm_nL Y) M L S pc := by
  intro i
  induction i with
  | zero => intro pc pc' M M' L L' S S' h kk; cases h; exact kk
  | succ i ih =>
    intro pc pc' M M' L L' S S' h kk
    unfold mm_run at h
    split at h
    · cases h
    · next q hq =>
      split at h
      · cases h
      · next M9 L9 S9 hx => exact mx_all hC hY (mm_at_mem hq) hx (ih h kk)
end
/-- from pc on, with M, L, S and k cells of n slots made: the method ends in Q -/
def mm_Go (l : Launch) (sc : Nat × (Nat → Int32)) (Y : mm_Y) (k n : Nat) (M : mm_M) (L : mm_L) (S : List Value) (pc : Nat) (Q : mm_O → mm_M → Prop) : Prop :=
  mm_okY Y → ∀ (p : Program) (e : Env) (s : State) (m : MethodId) (args : Array Value) (below : List Frame) (meth : Method) (c : Code) (D : va_G) (A : Nat → Prop) (sa : Nat) (al0 al : List Nat), mm_Cx sc Y D A sa p s m args meth c → mm_e al0 al →
    mm_At l (mm_rm Y) p e s m args below meth c D A sa al k n (vx_MQ below (mm_Qc D A al0 sa Q) (mm_XC D A al0 sa Q) args s (mm_rm Y).cells (mm_rm Y).slots A) (mm_nL Y) M L S pc
section
variable {l : Launch} {sc : Nat × (Nat → Int32)} {Y : mm_Y} {k n : Nat} {M M' : mm_M} {L L' : mm_L} {S S' : List Value} {pc pc' : Nat} {Q : mm_O → mm_M → Prop}
theorem mg_run (i : Nat) (h : mm_run i (mm_tab Y) pc M L S = some (pc', M', L', S')) (kk : mm_Go l sc Y k n M' L' S' pc' Q) : mm_Go l sc Y k n M L S pc Q :=
  fun hY p e s m args below meth c D A sa al0 al hC he => mx_run hC hY i h (kk hY p e s m args below meth c D A sa al0 al hC he)
/-! branches -/
def mm_cc (o : Jvm.ClassFile.Cond) (x y : Int32) : Prop := match o with
  | .eq => x = y
  | .ne => ¬ x = y
  | .lt => x < y
  | .ge => y ≤ x
  | .gt => y < x
  | .le => x ≤ y
theorem mg_icmp {o : Jvm.ClassFile.Cond} {off : Int} {nx tg : Nat} {v x y : Int32} (hq : mm_at (mm_tab Y) pc = some (.if_icmp o off, nx, tg, v)) (kt : mm_cc o x y → mm_Go l sc Y k n M L S tg Q) (kf : ¬ mm_cc o x y → mm_Go l sc Y k n M L S nx Q) : mm_Go l sc Y k n M L (.int y :: .int x :: S) pc Q := by
  intro hY p e s m args below meth c D A sa al0 al hC he ws H locs ls st hH hS hL hl
  have hm := mm_at_mem hq
  have hd := hY.1 _ hm
  have ho := hY.2.1 _ hm
  have hex := hC.1
  have hb := hC.2.1
  simp only [mm_ok, Bool.and_eq_true, decide_eq_true_eq] at ho
  obtain ⟨h1, h2⟩ := ho
  subst h2
  obtain ⟨st1, rfl, hl1⟩ := hl.i
  obtain ⟨st2, rfl, hl2⟩ := hl1.i
  have kt' : mm_cc o x y → W p l e (mm_rm Y) s m args below meth c H locs k n (vx_MQ below (mm_Qc D A al0 sa Q) (mm_XC D A al0 sa Q) args s (mm_rm Y).cells (mm_rm Y).slots A) (F0 m tg ls st2) := fun h => kt h hY p e s m args below meth c D A sa al0 al hC he ws H locs ls st2 hH hS hL hl2
  have kf' : ¬ mm_cc o x y → W p l e (mm_rm Y) s m args below meth c H locs k n (vx_MQ below (mm_Qc D A al0 sa Q) (mm_XC D A al0 sa Q) args s (mm_rm Y).cells (mm_rm Y).slots A) (F0 m (pc + 3) ls st2) := fun h => kf h hY p e s m args below meth c D A sa al0 al hC he ws H locs ls st2 hH hS hL hl2
  cases o
  · exact lv_icmp_eq hex hb hd h1 kt' kf'
  · exact lv_icmp_ne hex hb hd h1 kt' (fun h => kf' (fun h9 => h9 h))
  · exact lv_icmp_lt hex hb hd h1 kt' kf'
  · exact lv_icmp_ge hex hb hd h1 kt' kf'
  · exact lv_icmp_gt hex hb hd h1 kt' kf'
  · exact lv_icmp_le hex hb hd h1 kt' kf'
theorem mg_if {o : Jvm.ClassFile.Cond} {off : Int} {nx tg : Nat} {v x : Int32} (hq : mm_at (mm_tab Y) pc = some (.ifCond o off, nx, tg, v)) (kt : mm_cc o x 0 → mm_Go l sc Y k n M L S tg Q) (kf : ¬ mm_cc o x 0 → mm_Go l sc Y k n M L S nx Q) : mm_Go l sc Y k n M L (.int x :: S) pc Q := by
  intro hY p e s m args below meth c D A sa al0 al hC he ws H locs ls st hH hS hL hl
  have hm := mm_at_mem hq
  have hd := hY.1 _ hm
  have ho := hY.2.1 _ hm
  have hex := hC.1
  have hb := hC.2.1
  simp only [mm_ok, Bool.and_eq_true, decide_eq_true_eq] at ho
  obtain ⟨h1, h2⟩ := ho
  subst h2
  obtain ⟨st2, rfl, hl2⟩ := hl.i
  have kt' : mm_cc o x 0 → W p l e (mm_rm Y) s m args below meth c H locs k n (vx_MQ below (mm_Qc D A al0 sa Q) (mm_XC D A al0 sa Q) args s (mm_rm Y).cells (mm_rm Y).slots A) (F0 m tg ls st2) := fun h => kt h hY p e s m args below meth c D A sa al0 al hC he ws H locs ls st2 hH hS hL hl2
  have kf' : ¬ mm_cc o x 0 → W p l e (mm_rm Y) s m args below meth c H locs k n (vx_MQ below (mm_Qc D A al0 sa Q) (mm_XC D A al0 sa Q) args s (mm_rm Y).cells (mm_rm Y).slots A) (F0 m (pc + 3) ls st2) := fun h => kf h hY p e s m args below meth c D A sa al0 al hC he ws H locs ls st2 hH hS hL hl2
  cases o
  · exact lv_if_eq hex hb hd h1 kt' kf'
  · exact lv_if_ne hex hb hd h1 kt' (fun h => kf' (fun h9 => h9 h))
  · exact lv_if_lt hex hb hd h1 kt' kf'
  · exact lv_if_ge hex hb hd h1 kt' kf'
  · exact lv_if_gt hex hb hd h1 kt' kf'
  · exact lv_if_le hex hb hd h1 kt' kf'
end
