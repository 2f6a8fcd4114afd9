/-! Rules with natural numbers; fields of cells that are known by a hypothesis. -/
def mm_cN (o : Jvm.ClassFile.Cond) (a b : Nat) : Prop := match o with
  | .eq => a = b
  | .ne => ¬ a = b
  | .lt => a < b
  | .ge => b ≤ a
  | .gt => b < a
  | .le => a ≤ b
theorem mm_cN_ok {o : Jvm.ClassFile.Cond} {a b : Nat} (ha : a < 2 ^ 31) (hb : b < 2 ^ 31) : mm_cc o (nI a) (nI b) ↔ mm_cN o a b := by
  cases o
  · exact nI_eq ha hb
  · exact not_congr (nI_eq ha hb)
  · exact nI_ltI ha hb
  · exact nI_leI hb ha
  · exact nI_ltI hb ha
  · exact nI_leI ha hb
section
variable {l : Launch} {sc : Nat × (Nat → Int32)} {Y : mm_Y} {k n : Nat} {M M' : mm_M} {L L' : mm_L} {S S' : List Value} {pc : Nat} {Q : mm_O → mm_M → Prop}
theorem mg_x {q : mm_In} (hq : mm_at (mm_tab Y) pc = some q) (hx : mm_x q M L S = some (M', L', S')) (kk : mm_Go l sc Y k n M' L' S' q.2.1 Q) : mm_Go l sc Y k n M L S pc Q :=
  fun hY p e s m args below meth c D A sa al0 al hC he => mx_all hC hY (mm_at_mem hq) hx (kk hY p e s m args below meth c D A sa al0 al hC he)
theorem mg_icmpN {o : Jvm.ClassFile.Cond} {off : Int} {nx tg a b : Nat} {v : Int32} (hq : mm_at (mm_tab Y) pc = some (.if_icmp o off, nx, tg, v)) (ha : a < 2 ^ 31) (hb : b < 2 ^ 31) (kt : mm_cN o a b → mm_Go l sc Y k n M L S tg Q) (kf : ¬ mm_cN o a b → mm_Go l sc Y k n M L S nx Q) : mm_Go l sc Y k n M L (.int (nI b) :: .int (nI a) :: S) pc Q :=
  mg_icmp hq (fun h => kt ((mm_cN_ok ha hb).mp h)) (fun h => kf (fun h9 => h ((mm_cN_ok ha hb).mpr h9)))
theorem mg_ifN {o : Jvm.ClassFile.Cond} {off : Int} {nx tg a : Nat} {v : Int32} (hq : mm_at (mm_tab Y) pc = some (.ifCond o off, nx, tg, v)) (ha : a < 2 ^ 31) (kt : mm_cN o a 0 → mm_Go l sc Y k n M L S tg Q) (kf : ¬ mm_cN o a 0 → mm_Go l sc Y k n M L S nx Q) : mm_Go l sc Y k n M L (.int (nI a) :: S) pc Q :=
  mg_if hq (fun h => kt ((mm_cN_ok ha (by decide)).mp h)) (fun h => kf (fun h9 => h ((mm_cN_ok ha (by decide)).mpr h9)))
theorem mg_addN {nx aux a b : Nat} {v : Int32} (hq : mm_at (mm_tab Y) pc = some (.iadd, nx, aux, v)) (kk : mm_Go l sc Y k n M L (.int (nI (a + b)) :: S) nx Q) : mm_Go l sc Y k n M L (.int (nI b) :: .int (nI a) :: S) pc Q := by
  refine mg_x (M' := M) (L' := L) (S' := .int (nI a + nI b) :: S) hq rfl ?_
  rw [nI_add]; exact kk
theorem mg_subN {nx aux a b : Nat} {v : Int32} (hq : mm_at (mm_tab Y) pc = some (.isub, nx, aux, v)) (h : b ≤ a) (kk : mm_Go l sc Y k n M L (.int (nI (a - b)) :: S) nx Q) : mm_Go l sc Y k n M L (.int (nI b) :: .int (nI a) :: S) pc Q := by
  refine mg_x (M' := M) (L' := L) (S' := .int (nI a - nI b) :: S) hq rfl ?_
  rw [pk_sub h]; exact kk
theorem mg_mulN {nx aux a b : Nat} {v : Int32} (hq : mm_at (mm_tab Y) pc = some (.imul, nx, aux, v)) (kk : mm_Go l sc Y k n M L (.int (nI (a * b)) :: S) nx Q) : mm_Go l sc Y k n M L (.int (nI b) :: .int (nI a) :: S) pc Q := by
  refine mg_x (M' := M) (L' := L) (S' := .int (nI a * nI b) :: S) hq rfl ?_
  rw [pk_mul]; exact kk
theorem mg_incN {i nx aux a b : Nat} {z : Int} (hq : mm_at (mm_tab Y) pc = some (.iinc i z, nx, aux, nI b)) (hg : mm_get L i = some (.int (nI a))) (hs : mm_set L i (.int (nI (a + b))) = some L') (kk : mm_Go l sc Y k n M L' S nx Q) : mm_Go l sc Y k n M L S pc Q := by
  refine mg_x (M' := M) (L' := L') (S' := S) hq ?_ kk
  show (match mm_inc L i (nI b) with | some L' => some (M, L', S) | none => none) = _
  unfold mm_inc
  rw [hg]
  show (match mm_set L i (.int (nI a + nI b)) with | some L' => some (M, L', S) | none => none) = _
  rw [nI_add, hs]
theorem mg_decN {i nx aux a : Nat} {z : Int} (hq : mm_at (mm_tab Y) pc = some (.iinc i z, nx, aux, -1)) (hg : mm_get L i = some (.int (nI (a + 1)))) (hs : mm_set L i (.int (nI a)) = some L') (kk : mm_Go l sc Y k n M L' S nx Q) : mm_Go l sc Y k n M L S pc Q := by
  refine mg_x (M' := M) (L' := L') (S' := S) hq ?_ kk
  show (match mm_inc L i (-1) with | some L' => some (M, L', S) | none => none) = _
  unfold mm_inc
  rw [hg]
  show (match mm_set L i (.int (nI (a + 1) + -1)) with | some L' => some (M, L', S) | none => none) = _
  rw [pk_m1, hs]
theorem mg_get {ix nx j cn ix2 ci kf a : Nat} {v : Int32} {fs : List Value} {w : Value} (hq : mm_at (mm_tab Y) pc = some (.getfield ix, nx, j, v)) (hf : mm_fu[j]? = some (cn, ix2, ci, kf)) (hM : M[a]? = some (.inr (ci, fs))) (hv : fs[kf]? = some w) (kk : mm_Go l sc Y k n M L (w :: S) nx Q) : mm_Go l sc Y k n M L (.ref a :: S) pc Q := by
  refine mg_x (M' := M) (L' := L) (S' := w :: S) hq ?_ kk
  show mm_s M L (mm_gf M (.ref a :: S) j) = _
  have hb : Nat.beq ci ci = true := Nat.beq_refl ci
  simp only [mm_gf, hf, mm_ob, hM, hb, hv, mm_s]
theorem mg_put {ix nx j cn ix2 ci kf a : Nat} {v : Int32} {fs : List Value} {w : Value} (hq : mm_at (mm_tab Y) pc = some (.putfield ix, nx, j, v)) (hf : mm_fu[j]? = some (cn, ix2, ci, kf)) (hM : M[a]? = some (.inr (ci, fs))) (hl : Nat.blt kf fs.length = true) (hw : mm_fit (mm_tf ci kf) w = true) (kk : mm_Go l sc Y k n (M.set a (.inr (ci, fs.set kf w))) L S nx Q) : mm_Go l sc Y k n M L (w :: .ref a :: S) pc Q := by
  refine mg_x (M' := M.set a (.inr (ci, fs.set kf w))) (L' := L) (S' := S) hq ?_ kk
  show (match mm_pf M (w :: .ref a :: S) j with | some (M', S') => some (M', L, S') | none => none) = _
  have hb : Nat.beq ci ci = true := Nat.beq_refl ci
  simp only [mm_pf, hf, mm_ob, hM, hb, hl, hw]
theorem mg_ildN {nx aux N a j : Nat} {v : Int32} {f : Nat → Int32} (hq : mm_at (mm_tab Y) pc = some (.iaload, nx, aux, v)) (hM : M[a]? = some (.inl (0, N, .inl f))) (hN : N < 2 ^ 31) (hj : j < N) (kk : mm_Go l sc Y k n M L (.int (f j) :: S) nx Q) : mm_Go l sc Y k n M L (.int (nI j) :: .ref a :: S) pc Q :=
  mg_iald hq hM (vp_in_nI hj hN) (by rw [nI_clamp (Nat.lt_trans hj hN)]; exact kk)
theorem mg_istN {nx aux N a j : Nat} {v z : Int32} {f : Nat → Int32} (hq : mm_at (mm_tab Y) pc = some (.iastore, nx, aux, v)) (hM : M[a]? = some (.inl (0, N, .inl f))) (hN : N < 2 ^ 31) (hj : j < N) (kk : mm_Go l sc Y k n (M.set a (.inl (0, N, .inl (upd f j z)))) L S nx Q) : mm_Go l sc Y k n M L (.int z :: .int (nI j) :: .ref a :: S) pc Q :=
  mg_iast hq hM (vp_in_nI hj hN) (by rw [nI_clamp (Nat.lt_trans hj hN)]; exact kk)
end
