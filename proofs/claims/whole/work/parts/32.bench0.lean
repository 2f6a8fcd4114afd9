/-! The bench's constructor. -/
section
variable {l : Launch} {sc : Nat × (Nat → Int32)} {Y : mm_Y} {k n : Nat} {M : mm_M} {L : mm_L} {S : List Value} {pc : Nat} {Q : mm_O → mm_M → Prop}
theorem mg_aldN {nx aux N a i j : Nat} {v : Int32} {f : Nat → Option Nat} (hq : mm_at (mm_tab Y) pc = some (.aaload, nx, aux, v)) (hM : M[a]? = some (.inl (2, N, .inr (.inr (.inr (.inr f)))))) (hN : N < 2 ^ 31) (hj : j < N) (hf : f j = some i) (kk : mm_Go l sc Y k n M L (.ref i :: S) nx Q) : mm_Go l sc Y k n M L (.int (nI j) :: .ref a :: S) pc Q :=
  mg_aald hq hM (vp_in_nI hj hN) (by rw [nI_clamp (Nat.lt_trans hj hN)]; exact hf) kk
theorem mg_astN {nx aux N a i j : Nat} {v : Int32} {f : Nat → Option Nat} {fs : List Value} (hq : mm_at (mm_tab Y) pc = some (.aastore, nx, aux, v)) (hM : M[a]? = some (.inl (2, N, .inr (.inr (.inr (.inr f)))))) (hN : N < 2 ^ 31) (hi : M[i]? = some (.inr (mm_cT, fs))) (hj : j < N) (kk : mm_Go l sc Y k n (M.set a (.inl (2, N, .inr (.inr (.inr (.inr (va_up f j (some i)))))))) L S nx Q) : mm_Go l sc Y k n M L (.ref i :: .int (nI j) :: .ref a :: S) pc Q :=
  mg_aast hq hM hi (vp_in_nI hj hN) (by rw [nI_clamp (Nat.lt_trans hj hN)]; exact kk)
end
section
variable {l : Launch} {sc : Nat × (Nat → Int32)} {Q : mm_O → mm_M → Prop}
theorem lb_iter {i k n : Nat} (hi : i < 12) (h1 : k + 2 ≤ 75) (h2 : n + 2003 ≤ 69366) (kk : mm_Go l sc Y_LB_init (k + 2) (n + 2003) (lb_i (i + 1)) [some (.ref 0), some (.int (nI (i + 1)))] [] 15 Q) : mm_Go l sc Y_LB_init k n (lb_i i) [some (.ref 0), some (.int (nI i))] [] 15 Q := by
  obtain ⟨e1, e2, e3⟩ := lb_i_ok i
  refine mg_run 2 rfl ?_
  refine mg_ge rfl (by omega) (by decide) (fun h => absurd h (by omega)) (fun h => ?_)
  refine mg_run 1 rfl ?_
  refine mg_get rfl rfl e2 rfl ?_
  refine mg_run 1 rfl ?_
  refine mg_new rfl rfl (Nat.ble_eq.mpr (show k + 1 ≤ 75 by omega)) (Nat.ble_eq.mpr (show n + 3 ≤ 69366 by omega)) ?_
  refine mg_run 1 rfl ?_
  have hst : mm_chk (k + 1) (n + (mm_df 6).length) (mm_rm Y_LB_init) (mm_rm Y_Te_init) (mm_nL Y_Te_init) (([Value.ref (lb_i i).length, .int (nI i), .ref 1].map fun v => v.category).sum) = true := by
    simp only [mm_chk, Bool.and_eq_true, Nat.ble_eq]
    exact ⟨⟨⟨⟨by decide, by decide⟩, show k + 1 + 1 ≤ 75 by omega⟩, show n + 3 + 2000 ≤ 69366 by omega⟩, Nat.le_of_ble_eq_true rfl⟩
  refine mg_callI [] rfl rfl rfl rfl rfl hst (c_Te_init (mm_at_new _ _) ?_)
  have a1 : (te_new (lb_i i ++ [.inr (6, mm_df 6)]) (lb_i i).length)[1]? = some (.inl (2, 12, .inr (.inr (.inr (.inr (lb_f i)))))) := te_new_at (by omega) (mm_at_app e3)
  have a2 : (te_new (lb_i i ++ [.inr (6, mm_df 6)]) (lb_i i).length)[(lb_i i).length]? = some (.inr (6, [.ref (lb_i i ++ ([.inr (6, mm_df 6)] : mm_M)).length, .int 0, .int 0])) := mm_at_set _ (mm_at_app (mm_at_new _ _))
  refine mg_astN rfl a1 (by decide) a2 hi ?_
  refine mg_incN rfl rfl rfl ?_
  refine mg_run 1 rfl ?_
  exact kk
theorem ta_new_at {M : mm_M} {t i : Nat} (hi : ¬ t = i) {e : va_E} (h : M[i]? = some e) : (ta_new M t)[i]? = some e := mm_at_ne hi (mm_at_app h)
theorem de_new_at {M : mm_M} {t i : Nat} (hi : ¬ t = i) {e : va_E} (h : M[i]? = some e) : (de_new M t)[i]? = some e := mm_at_ne hi (mm_at_app (mm_at_ne hi (mm_at_app h)))
theorem gra_new_at {M : mm_M} {t i : Nat} (hi : ¬ t = i) {e : va_E} (h : M[i]? = some e) : (gra_new M t)[i]? = some e := mm_at_ne hi (mm_at_app (mm_at_ne hi (mm_at_app h)))
theorem bu_new_at {M : mm_M} {t i : Nat} (hi : ¬ t = i) {e : va_E} (h : M[i]? = some e) : (bu_new M t)[i]? = some e := mm_at_ne hi (mm_at_app (mm_at_ne hi (mm_at_app h)))
theorem mm_ilt {M : mm_M} {i : Nat} {e : va_E} (h : M[i]? = some e) : ¬ M.length = i := by
  have := (List.getElem?_eq_some_iff.mp h).1
  omega
theorem re_new_at {M : mm_M} {t i : Nat} (hi : ¬ t = i) {e : va_E} (h : M[i]? = some e) : (re_new M t)[i]? = some e := by
  have h1 := mm_at_ne (e := .inr (4, [.ref M.length, .null, .null, .int 0])) hi (de_new_at (mm_ilt h) (mm_at_app (x := [.inr (2, mm_df 2)]) h))
  have h2 := fun f => mm_at_ne (e := f) hi (te_new_at (mm_ilt h1) (mm_at_app (x := [.inr (6, mm_df 6)]) h1))
  exact mm_at_ne hi (mm_at_ne hi (te_new_at (mm_ilt (h2 _)) (mm_at_app (h2 _))))
theorem ab_new_at {M : mm_M} {t i : Nat} (hi : ¬ t = i) {e : va_E} (h : M[i]? = some e) : (ab_new M t)[i]? = some e := by
  have h1 := fun f => mm_at_ne (e := f) hi (mm_at_app (x := [mm_z 2001]) h)
  have h2 := fun f g => mm_at_ne (e := g) hi (mm_at_app (x := [mm_z 2001]) (h1 f))
  have h3 := fun f g k => mm_at_ne (e := k) hi (te_new_at (mm_ilt (h2 f g)) (mm_at_app (x := [.inr (6, mm_df 6)]) (h2 f g)))
  exact mm_at_ne hi (te_new_at (mm_ilt (h3 _ _ _)) (mm_at_app (h3 _ _ _)))
theorem lb_za : lb_a[0]? = some (.inr (7, [.ref 1, .null, .null, .null, .null, .null, .null, .null, .int 0])) := (lb_i_ok 12).2.1
theorem lb_la : lb_a.length = 26 := rfl
theorem lb_nb : (te_new (lb_a ++ [.inr (6, mm_df 6)]) 26)[0]? = some (.inr (7, [.ref 1, .null, .null, .null, .null, .null, .null, .null, .int 0])) := te_new_at (by decide) (mm_at_app lb_za)
theorem lb_zb : lb_b[0]? = some (.inr (7, [.ref 1, .ref 26, .null, .null, .null, .null, .null, .null, .int 0])) := mm_at_set _ lb_nb
theorem lb_tb {L : mm_L} (hL : mm_get L 0 = some (.ref 0)) (kk : mm_Go l sc Y_LB_init 27 26051 lb_b L [] 51 Q) : mm_Go l sc Y_LB_init 25 24048 lb_a L [] 40 Q := by
  refine mg_x (M' := lb_a) (L' := L) (S' := [.ref 0]) rfl (by show mm_s lb_a L (mm_lda L [] 0) = _; unfold mm_lda; rw [hL]; rfl) ?_
  refine mg_new rfl rfl rfl rfl ?_
  refine mg_run 1 rfl ?_
  refine mg_callI [] rfl rfl rfl rfl rfl rfl (c_Te_init (mm_at_new _ _) ?_)
  rw [lb_la]
  refine mg_put rfl rfl lb_nb rfl rfl ?_
  exact kk
theorem lb_lb : lb_b.length = 28 := rfl
theorem lb_nc : (ta_new (lb_b ++ [.inr (5, mm_df 5)]) 28)[0]? = some (.inr (7, [.ref 1, .ref 26, .null, .null, .null, .null, .null, .null, .int 0])) := ta_new_at (by decide) (mm_at_app lb_zb)
theorem lb_zc : lb_c[0]? = some (.inr (7, [.ref 1, .ref 26, .ref 28, .null, .null, .null, .null, .null, .int 0])) := mm_at_set _ lb_nc
theorem lb_tc {L : mm_L} (hL : mm_get L 0 = some (.ref 0)) (kk : mm_Go l sc Y_LB_init 29 26453 lb_c L [] 62 Q) : mm_Go l sc Y_LB_init 27 26051 lb_b L [] 51 Q := by
  refine mg_x (M' := lb_b) (L' := L) (S' := [.ref 0]) rfl (by show mm_s lb_b L (mm_lda L [] 0) = _; unfold mm_lda; rw [hL]; rfl) ?_
  refine mg_new rfl rfl rfl rfl ?_
  refine mg_run 1 rfl ?_
  refine mg_callI [] rfl rfl rfl rfl rfl rfl (c_Ta_init (mm_at_new _ _) ?_)
  rw [lb_lb]
  refine mg_put rfl rfl lb_nc rfl rfl ?_
  exact kk
theorem lb_lc : lb_c.length = 30 := rfl
theorem lb_nd : (gra_new (lb_c ++ [.inr (3, mm_df 3)]) 30)[0]? = some (.inr (7, [.ref 1, .ref 26, .ref 28, .null, .null, .null, .null, .null, .int 0])) := gra_new_at (by decide) (mm_at_app lb_zc)
theorem lb_zd : lb_d[0]? = some (.inr (7, [.ref 1, .ref 26, .ref 28, .ref 30, .null, .null, .null, .null, .int 0])) := mm_at_set _ lb_nd
theorem lb_td {L : mm_L} (hL : mm_get L 0 = some (.ref 0)) (kk : mm_Go l sc Y_LB_init 32 26879 lb_d L [] 73 Q) : mm_Go l sc Y_LB_init 29 26453 lb_c L [] 62 Q := by
  refine mg_x (M' := lb_c) (L' := L) (S' := [.ref 0]) rfl (by show mm_s lb_c L (mm_lda L [] 0) = _; unfold mm_lda; rw [hL]; rfl) ?_
  refine mg_new rfl rfl rfl rfl ?_
  refine mg_run 1 rfl ?_
  refine mg_callI [] rfl rfl rfl rfl rfl rfl (c_Gr_init (mm_at_new _ _) ?_)
  rw [lb_lc]
  refine mg_put rfl rfl lb_nd rfl rfl ?_
  exact kk
theorem lb_ld : lb_d.length = 33 := rfl
theorem lb_ne : (bu_new (lb_d ++ [.inr (1, mm_df 1)]) 33)[0]? = some (.inr (7, [.ref 1, .ref 26, .ref 28, .ref 30, .null, .null, .null, .null, .int 0])) := bu_new_at (by decide) (mm_at_app lb_zd)
theorem lb_ze : lb_e[0]? = some (.inr (7, [.ref 1, .ref 26, .ref 28, .ref 30, .ref 33, .null, .null, .null, .int 0])) := mm_at_set _ lb_ne
theorem lb_te {L : mm_L} (hL : mm_get L 0 = some (.ref 0)) (kk : mm_Go l sc Y_LB_init 35 27303 lb_e L [] 84 Q) : mm_Go l sc Y_LB_init 32 26879 lb_d L [] 73 Q := by
  refine mg_x (M' := lb_d) (L' := L) (S' := [.ref 0]) rfl (by show mm_s lb_d L (mm_lda L [] 0) = _; unfold mm_lda; rw [hL]; rfl) ?_
  refine mg_new rfl rfl rfl rfl ?_
  refine mg_run 1 rfl ?_
  refine mg_callI [] rfl rfl rfl rfl rfl rfl (c_Bu_init (mm_at_new _ _) ?_)
  rw [lb_ld]
  refine mg_put rfl rfl lb_ne rfl rfl ?_
  exact kk
theorem lb_le : lb_e.length = 36 := rfl
theorem lb_ng : (de_new (lb_e ++ [.inr (2, mm_df 2)]) 36)[0]? = some (.inr (7, [.ref 1, .ref 26, .ref 28, .ref 30, .ref 33, .null, .null, .null, .int 0])) := de_new_at (by decide) (mm_at_app lb_ze)
theorem lb_zg : lb_g[0]? = some (.inr (7, [.ref 1, .ref 26, .ref 28, .ref 30, .ref 33, .ref 36, .null, .null, .int 0])) := mm_at_set _ lb_ng
theorem lb_tg {L : mm_L} (hL : mm_get L 0 = some (.ref 0)) (kk : mm_Go l sc Y_LB_init 38 31307 lb_g L [] 95 Q) : mm_Go l sc Y_LB_init 35 27303 lb_e L [] 84 Q := by
  refine mg_x (M' := lb_e) (L' := L) (S' := [.ref 0]) rfl (by show mm_s lb_e L (mm_lda L [] 0) = _; unfold mm_lda; rw [hL]; rfl) ?_
  refine mg_new rfl rfl rfl rfl ?_
  refine mg_run 1 rfl ?_
  refine mg_callI [] rfl rfl rfl rfl rfl rfl (c_De_init (mm_at_new _ _) ?_)
  rw [lb_le]
  refine mg_put rfl rfl lb_ng rfl rfl ?_
  exact kk
theorem lb_lg : lb_g.length = 39 := rfl
theorem lb_nh : (re_new (lb_g ++ [.inr (4, mm_df 4)]) 39)[0]? = some (.inr (7, [.ref 1, .ref 26, .ref 28, .ref 30, .ref 33, .ref 36, .null, .null, .int 0])) := re_new_at (by decide) (mm_at_app lb_zg)
theorem lb_zh : lb_h[0]? = some (.inr (7, [.ref 1, .ref 26, .ref 28, .ref 30, .ref 33, .ref 36, .ref 39, .null, .int 0])) := mm_at_set _ lb_nh
theorem lb_th {L : mm_L} (hL : mm_get L 0 = some (.ref 0)) (kk : mm_Go l sc Y_LB_init 46 39321 lb_h L [] 106 Q) : mm_Go l sc Y_LB_init 38 31307 lb_g L [] 95 Q := by
  refine mg_x (M' := lb_g) (L' := L) (S' := [.ref 0]) rfl (by show mm_s lb_g L (mm_lda L [] 0) = _; unfold mm_lda; rw [hL]; rfl) ?_
  refine mg_new rfl rfl rfl rfl ?_
  refine mg_run 1 rfl ?_
  refine mg_callI [] rfl rfl rfl rfl rfl rfl (c_Re_init (mm_at_new _ _) ?_)
  rw [lb_lg]
  refine mg_put rfl rfl lb_nh rfl rfl ?_
  exact kk
theorem lb_lh : lb_h.length = 47 := lb_len.2.2.2.2.2.2.1
theorem lb_nk : (ab_new (lb_h ++ [.inr (0, mm_df 0)]) 47)[0]? = some (.inr (7, [.ref 1, .ref 26, .ref 28, .ref 30, .ref 33, .ref 36, .ref 39, .null, .int 0])) := ab_new_at (by decide) (mm_at_app lb_zh)
theorem lb_zk : lb_k[0]? = some (.inr (7, [.ref 1, .ref 26, .ref 28, .ref 30, .ref 33, .ref 36, .ref 39, .ref 47, .int 0])) := mm_at_set _ lb_nk
theorem lb_tk {L : mm_L} (hL : mm_get L 0 = some (.ref 0)) (kk : mm_Go l sc Y_LB_init 53 47333 lb_k L [] 117 Q) : mm_Go l sc Y_LB_init 46 39321 lb_h L [] 106 Q := by
  refine mg_x (M' := lb_h) (L' := L) (S' := [.ref 0]) rfl (by show mm_s lb_h L (mm_lda L [] 0) = _; unfold mm_lda; rw [hL]; rfl) ?_
  refine mg_new rfl rfl rfl rfl ?_
  refine mg_run 1 rfl ?_
  refine mg_callI [] rfl rfl rfl rfl rfl rfl (c_Ab_init (mm_at_new _ _) ?_)
  rw [lb_lh]
  refine mg_put rfl rfl lb_nk rfl rfl ?_
  exact kk
theorem c_LB_init (hQ : Q (.inl none) lb_M) : mm_Ct l sc Y_LB_init [.inr (7, mm_df 7)] [.ref 0] Q := by
  refine mm_by k_LB_init w_LB_init rfl rfl ?_
  refine mg_run 1 rfl ?_
  refine mg_oinit rfl rfl rfl ?_
  refine mg_run 2 rfl ?_
  refine mg_newT rfl rfl (by decide) rfl rfl ?_
  refine mg_put rfl rfl rfl rfl rfl ?_
  refine mg_run 2 rfl ?_
  refine lb_iter (i := 0) (by decide) (by decide) (by decide) ?_
  refine lb_iter (i := 1) (by decide) (by decide) (by decide) ?_
  refine lb_iter (i := 2) (by decide) (by decide) (by decide) ?_
  refine lb_iter (i := 3) (by decide) (by decide) (by decide) ?_
  refine lb_iter (i := 4) (by decide) (by decide) (by decide) ?_
  refine lb_iter (i := 5) (by decide) (by decide) (by decide) ?_
  refine lb_iter (i := 6) (by decide) (by decide) (by decide) ?_
  refine lb_iter (i := 7) (by decide) (by decide) (by decide) ?_
  refine lb_iter (i := 8) (by decide) (by decide) (by decide) ?_
  refine lb_iter (i := 9) (by decide) (by decide) (by decide) ?_
  refine lb_iter (i := 10) (by decide) (by decide) (by decide) ?_
  refine lb_iter (i := 11) (by decide) (by decide) (by decide) ?_
  refine mg_run 2 rfl ?_
  refine mg_ge rfl (by decide) (by decide) (fun h => ?_) (fun h => absurd h (by decide))
  refine lb_tb rfl ?_
  refine lb_tc rfl ?_
  refine lb_td rfl ?_
  refine lb_te rfl ?_
  refine lb_tg rfl ?_
  refine lb_th rfl ?_
  refine lb_tk rfl ?_
  refine mg_run 2 rfl ?_
  refine mg_put rfl rfl lb_zk rfl rfl ?_
  exact mg_vr rfl rfl rfl rfl hQ
end
