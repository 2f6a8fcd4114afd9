/-! The reference: reading an abstraction's names. -/
theorem rd_sk_id {tp : List Nat} {m i : Nat} (h : m = 0 ∨ ¬ tp.getD i 0 = 32) : rd_sk tp m i = i := by
  cases m with
  | zero => rfl
  | succ m => rw [rd_sk, if_neg (h.resolve_left (by omega))]
section
variable {l : Launch} {sc : Nat × (Nat → Int32)} {M0 M : mm_M} {Q : mm_O → mm_M → Prop} {x : Nat → Int32} {A : Nat → Nat → Int32} {tp : List Nat} {i k nb : Nat} {am : Nat → Nat} {nm : Nat → Int32} {Ls L : lx_L} {sg : List Nat} {be kd : Nat}
theorem tx_is.name (h : tx_is tp x A i k nb am Ls nm) {v : Int32} {i' : Nat} : tx_is tp (upd (upd x 19 (nI (k + 1))) 21 (nI i')) (aup A 10 (upd (A 10) k v)) i' (k + 1) nb am Ls (upd nm k v) := by
  have f : fx [19, 21] x (upd (upd x 19 (nI (k + 1))) 21 (nI i')) := (fx.up (by decide) _ _).tr (fx.up (by decide) _ _)
  have g : fa [10] A (aup A 10 (upd (A 10) k v)) := fa.up (by decide) _ _
  obtain ⟨⟨t1, t2, t3⟩, h21, h20, ⟨w1, w2⟩, ⟨k1, k2⟩, ⟨l1, l2, l3⟩, n⟩ := h
  refine ⟨⟨(f 22 (by decide)).trans t1, t2, fun j hj => by rw [g 0 (by decide)]; exact t3 j hj⟩, pk_us, (f 20 (by decide)).trans h20, ⟨(f 23 (by decide)).trans w1, (f 3 (by decide)).trans w2⟩, ⟨?_, fun j hj => ?_⟩, ⟨(f 17 (by decide)).trans l1, lx_is_fr Ls (fun _ _ => rfl) (fun j _ => by rw [g 8 (by decide), g 9 (by decide)]; exact ⟨rfl, rfl⟩) l2, fun hle => lx_bg_fr Ls (fun j _ => by rw [g 7 (by decide)]) (l3 hle)⟩, n.fr f g (by decide) (by decide) (by decide)⟩
  · rw [pk_un (by decide), pk_us]
  · rw [aup_s]
    by_cases e : j = k
    · subst e
      rw [pk_us, pk_us]
    · rw [pk_un e, pk_un e]
      exact k2 j (by omega)
/-- behind a failure among the names -/
theorem lp_Mo_absF (h : mo_is M0 M x A) (h23 : x 23 = nI 1) {t s p q : Nat} (h17 : x 17 = nI t) (ht : t < 422) (h10 : x 10 = nI s) (h21 : x 21 = nI p)
    (hQ : ∀ M' x' A', mo_is M0 M' x' A' → fx [17, 21] x x' → ta A A' → Q (.inl none) M') : mm_Go l sc Y_Mo_abstraction 0 0 M [some (.ref 54), some (.int (nI q))] [] 12 Q := by
  refine mg_run 1 rfl ?_
  refine mg_get rfl rfl h.2.1 rfl ?_
  rw [h23]
  refine mg_zne rfl (by decide) (fun _ => ?_) (fun c => absurd c (by decide))
  refine mg_run 2 rfl ?_
  refine mg_get rfl rfl h.2.1 rfl ?_
  rw [h21]
  refine mg_run 1 rfl ?_
  refine mg_addN rfl ?_
  refine mr_put rfl rfl h rfl rfl rfl (fun M1 q1 => ?_)
  refine mg_run 2 rfl ?_
  refine mg_callV [.int (nI q)] rfl rfl rfl q1.2.1 rfl rfl rfl rfl (c_Mo_openRaw q1 (by rw [pk_un (by decide)]; exact h17) ht (by rw [pk_un (by decide)]; exact h10) (fun M2 q2 => ?_))
  refine mg_vr rfl rfl rfl rfl (hQ M2 _ _ q2 ((fx.up (by decide) _ _).tr (fx.up (by decide) _ _)) (((fa.up (by decide) _ _).tr (fa.up (by decide) _ _)).tr (fa.up (by decide) _ _)))
/-- a failure among the names at p -/
theorem lp_Mo_absG (h : mo_is M0 M x A) {p : Nat} (ht : tx_is tp x A p k nb am ((sg, be, kd) :: L) nm) (hlen : L.length ≤ 400) {q : Nat}
    (hN : ∀ M' x' A', mo_is M0 M' x' A' → tf x x' → ta A A' → x' 23 = nI 1 → x' 3 = nI p → Q (.inl none) M') : mm_Go l sc Y_Mo_abstraction 0 0 M [some (.ref 54), some (.int (nI q))] [] 42 Q := by
  obtain ⟨⟨t1, t2, t3⟩, h21, h20, ⟨w1, w2⟩, ⟨k1, k2⟩, ⟨l1, l2, l3⟩, n⟩ := ht
  have l1 : x 17 = nI (L.length + 1) := l1
  obtain ⟨b, b1, b2, b3, b4, b5, b6⟩ := id n
  refine mg_run 2 rfl ?_
  refine mg_get rfl rfl h.2.1 rfl ?_
  rw [h21]
  refine mg_callV [.int (nI p)] rfl rfl rfl h.2.1 rfl rfl rfl rfl (c_Mo_fail h w1 (fun M1 q1 => ?_))
  refine mg_run 1 rfl ?_
  have f1 : fx [3, 23] x (upd (upd x 23 (nI 1)) 3 (nI p)) := (fx.up (by decide) _ _).tr (fx.up (by decide) _ _)
  have e23 : upd (upd x 23 (nI 1)) 3 (nI p) 23 = nI 1 := by rw [pk_un (by decide), pk_us]
  refine lp_Mo_absF q1 e23 ((f1 17 (by decide)).trans l1) (by omega) ((f1 10 (by decide)).trans b4) ((f1 21 (by decide)).trans h21) (fun M2 x2 A2 q2 f2 g2 => hN M2 x2 A2 q2 ((f1.wk (by decide)).tr (f2.wk (by decide))) g2 ?_ ?_)
  · rw [f2 23 (by decide)]
    exact e23
  · rw [f2 3 (by decide), pk_us]
theorem lp_Mo_absL {nm0 : Nat → Int32} {op : List Nat} {k0 K : Nat} (hb : ∀ j, tp.getD j 0 < 256) (hn : tp.length ≤ 400) : ∀ m p q st (M : mm_M) (x : Nat → Int32) (A : Nat → Nat → Int32) (sg : List Nat) (nm : Nat → Int32), mo_is M0 M x A → tx_is tp x A p (k0 + q) nb am ((sg, be, kd) :: L) nm → wq 3 sg [K] = some [k0 + q] → lx_ok am (p + 1) ((sg, be, kd) :: L) → rd_T tp nm0 (tp.length - p) p st am ((sg, be, kd) :: L) nm (k0 + q) op 1 → k0 + q ≤ p → p ≤ tp.length → tp.length - p ≤ m → (st = if q = 0 then 1 else 2) →
    (∀ M' x' A' i' q' sg' nm', mo_is M0 M' x' A' → tf x x' → ta A A' → p < i' → i' ≤ tp.length → 1 ≤ q' → k0 + q' ≤ i' → wq 3 sg' [K] = some [k0 + q'] → tx_is tp x' A' i' (k0 + q') nb (nup am i' 0) (([], i', q' + 1) :: (sg', be, kd) :: L) nm' → rd_T tp nm0 (tp.length - i') i' 0 (nup am i' 0) (([], i', q' + 1) :: (sg', be, kd) :: L) nm' (k0 + q') op 0 → gr_w tp (tp.length - p) p (st, lx_ar ((sg, be, kd) :: L), be, am) = gr_w tp (tp.length - i') i' (0, lx_ar ((sg, be, kd) :: L), i', nup am i' 0) → Q (.inl none) M') →
    (∀ M' x' A' j, mo_is M0 M' x' A' → tf x x' → ta A A' → x' 23 = nI 1 → x' 3 = nI j → gr_w tp (tp.length - p) p (st, lx_ar ((sg, be, kd) :: L), be, am) = .inl j → Q (.inl none) M') →
    mm_Go l sc Y_Mo_abstraction 0 0 M [some (.ref 54), some (.int (nI q))] [] 12 Q := by
  intro m
  induction m with
  | zero =>
    intro p q st M x A sg nm h ht hW hok hT hk hp hm hst hQ hN
    have ep : p = tp.length := by omega
    have hlen : L.length < 401 := by
      have := lx_ok_len _ _ hok
      rw [List.length_cons] at this
      omega
    have hlen4 : L.length < 400 ∨ L.length = 400 := by omega
    have hw : gr_w tp (tp.length - p) p (st, lx_ar ((sg, be, kd) :: L), be, am) = .inl tp.length := by
      rw [show tp.length - p = 0 by omega, gr_w_0, if_neg ?_, ep]
      show ¬ gr_end st _ _ _ = true
      unfold gr_end
      rw [hst]
      split <;> simp
    have hskp : rd_sk tp (tp.length - p) p = tp.length := by rw [rd_sk_id (Or.inl (by omega)), ep]
    refine mg_run 1 rfl ?_
    refine mg_get rfl rfl h.2.1 rfl ?_
    rw [ht.2.2.2.1.1]
    refine mg_zne rfl (by decide) (fun c => absurd c (by decide)) (fun _ => ?_)
    have rest : ∀ (M1 : mm_M) (x1 : Nat → Int32), mo_is M0 M1 x1 A → fx [21] x x1 → tx_is tp x1 A tp.length (k0 + q) nb am ((sg, be, kd) :: L) nm → mm_Go l sc Y_Mo_abstraction 0 0 M1 [some (.ref 54), some (.int (nI q))] [] 32 Q := by
      intro M1 x1 q1 f1 u1
      refine mg_run 1 rfl ?_
      refine mg_callV [] rfl rfl rfl q1.2.1 rfl rfl rfl rfl (c_Mo_see hb q1 u1 (Nat.le_refl _) (fun c => absurd c (by rw [rd_sk_id (Or.inl (by omega))]; omega)) (fun _ M2 x2 q2 f2 u2 => ?_))
      refine mg_callS [.int (-1)] rfl rfl rfl rfl rfl rfl (c_Mo_isLetter (fun c => absurd c (by unfold is_let; decide)) (fun _ => ?_))
      refine mg_zne rfl (by decide) (fun c => absurd c (by decide)) (fun _ => ?_)
      refine lp_Mo_absG q2 u2 (by
        have := lx_ok_len _ _ hok
        rw [List.length_cons] at this
        omega) (fun M3 x3 A3 q3 f3 g3 e1 e2 => hN M3 x3 A3 tp.length q3 (((f1.tr f2).wk (by decide)).tr f3) g3 e1 e2 hw)
    refine mg_run 1 rfl ?_
    by_cases c0 : q = 0
    · subst c0
      refine mg_zeq rfl (by decide) (fun _ => ?_) (fun c => absurd c (by decide))
      exact rest M x h (fx.rf _ _) (by rw [← ep]; exact ht)
    · refine mg_zeq rfl (by omega) (fun c => absurd c c0) (fun _ => ?_)
      refine mg_run 1 rfl ?_
      refine mg_callV [] rfl rfl rfl h.2.1 rfl rfl rfl rfl (c_Mo_see hb h ht hp (fun c => absurd c (by rw [hskp]; omega)) (fun _ M1 x1 q1 f1 u1 => ?_))
      refine mg_run 1 rfl ?_
      refine mg_icmp rfl (fun c => absurd (show (-1 : Int32) = nI 46 from c) (by decide)) (fun _ => ?_)
      exact rest M1 x1 q1 f1 u1
  | succ m ih =>
    intro p q st M x A sg nm h ht hW hok hT hk hp hm hst hQ hN
    have hlen : L.length < 401 := by
      have := lx_ok_len _ _ hok
      rw [List.length_cons] at this
      omega
    have hst3 : st < 3 := by rw [hst]; split <;> decide
    have hst12 : st = 1 ∨ st = 2 := by rw [hst]; split <;> simp
    obtain ⟨s1, s2, s3⟩ := rd_sk_ok (tp := tp) (tp.length - p) p
    have hw := rd_sk_w (tp := tp) (ar := lx_ar ((sg, be, kd) :: L)) (be := be) (am := am) hst3 (tp.length - p) p
    have hT2 := rd_sk_T hst3 (tp.length - p) p hT
    rw [show p + (tp.length - p) = tp.length by omega] at hw hT2 s2 s3
    generalize hr : rd_sk tp (tp.length - p) p = r at hw hT2 s1 s2 s3
    have hok2 : lx_ok am (r + 1) ((sg, be, kd) :: L) := lx_ok_wk hok (by omega)
    refine mg_run 1 rfl ?_
    refine mg_get rfl rfl h.2.1 rfl ?_
    rw [ht.2.2.2.1.1]
    refine mg_zne rfl (by decide) (fun c => absurd c (by decide)) (fun _ => ?_)
    refine mg_run 1 rfl ?_
    have hrr : r < tp.length → rd_sk tp (tp.length - r) r = r := fun hlt => rd_sk_id (Or.inr (s3 hlt))
    -- the end of the text
    have restN : r = tp.length → ∀ (M1 : mm_M) (x1 : Nat → Int32) (p1 : Nat), mo_is M0 M1 x1 A → fx [21] x x1 → tx_is tp x1 A p1 (k0 + q) nb am ((sg, be, kd) :: L) nm → p1 ≤ tp.length → rd_sk tp (tp.length - p1) p1 = tp.length → mm_Go l sc Y_Mo_abstraction 0 0 M1 [some (.ref 54), some (.int (nI q))] [] 32 Q := by
      intro er M1 x1 p1 q1 f1 u1 hp1 hs1
      refine mg_run 1 rfl ?_
      refine mg_callV [] rfl rfl rfl q1.2.1 rfl rfl rfl rfl (c_Mo_see hb q1 u1 hp1 (fun c => absurd c (by rw [hs1]; omega)) (fun _ M2 x2 q2 f2 u2 => ?_))
      refine mg_callS [.int (-1)] rfl rfl rfl rfl rfl rfl (c_Mo_isLetter (fun c => absurd c (by unfold is_let; decide)) (fun _ => ?_))
      refine mg_zne rfl (by decide) (fun c => absurd c (by decide)) (fun _ => ?_)
      refine lp_Mo_absG q2 u2 (by
        have := lx_ok_len _ _ hok
        rw [List.length_cons] at this
        have h7 := ht.1.2.1
        omega) (fun M3 x3 A3 q3 f3 g3 e1 e2 => hN M3 x3 A3 tp.length q3 (((f1.tr f2).wk (by decide)).tr f3) g3 e1 e2 ?_)
      rw [hw, er, Nat.sub_self, gr_w_0, if_neg ?_]
      show ¬ gr_end st _ _ _ = true
      unfold gr_end
      rcases hst12 with e | e <;> rw [e] <;> simp
    -- a character at r
    have restC : r < tp.length → ¬ (0 < q ∧ tp.getD r 0 = 46) → ∀ (M1 : mm_M) (x1 : Nat → Int32) (p1 : Nat), mo_is M0 M1 x1 A → fx [21] x x1 → tx_is tp x1 A p1 (k0 + q) nb am ((sg, be, kd) :: L) nm → p1 ≤ tp.length → rd_sk tp (tp.length - p1) p1 = r → mm_Go l sc Y_Mo_abstraction 0 0 M1 [some (.ref 54), some (.int (nI q))] [] 32 Q := by
      intro hlt hnd M1 x1 p1 q1 f1 u1 hp1 hs1
      have hbr := hb r
      have hsr := s3 hlt
      refine mg_run 1 rfl ?_
      refine mg_callV [] rfl rfl rfl q1.2.1 rfl rfl rfl rfl (c_Mo_see hb q1 u1 hp1 (fun _ M2 x2 q2 f2 u2 => ?_) (fun c => absurd c (by rw [hs1]; omega)))
      rw [hs1] at u2 ⊢
      refine mg_callS [.int (nI (tp.getD r 0))] rfl rfl rfl rfl rfl rfl (c_Mo_isLetter (fun c => ?_) (fun c => ?_))
      · have hc := (let_nI (by omega)).mp c
        refine mg_zne rfl (by decide) (fun _ => ?_) (fun c => absurd c (by decide))
        refine mg_run 1 rfl ?_
        refine mg_get rfl rfl q2.2.1 rfl ?_
        refine mg_run 1 rfl ?_
        refine mg_get rfl rfl q2.2.1 rfl ?_
        rw [u2.2.2.2.2.1.1]
        refine mg_run 1 rfl ?_
        refine mg_callV [] rfl rfl rfl q2.2.1 rfl rfl rfl rfl (c_Mo_see hb q2 u2 s2 (fun _ M3 x3 q3 f3 u3 => ?_) (fun c => absurd c (by rw [hrr hlt]; omega)))
        rw [hrr hlt] at u3 ⊢
        refine mr_ist 10 rfl q3 (by decide) (show k0 + q < 400 by omega) (fun M4 q4 => ?_)
        refine mg_run 2 rfl ?_
        refine mg_get rfl rfl q4.2.1 rfl ?_
        rw [u3.2.2.2.2.1.1]
        refine mg_run 1 rfl ?_
        refine mg_addN rfl ?_
        refine mr_put rfl rfl q4 rfl rfl rfl (fun M5 q5 => ?_)
        refine mg_incN rfl rfl rfl ?_
        refine mg_run 2 rfl ?_
        refine mg_get rfl rfl q5.2.1 rfl ?_
        rw [pk_un (by decide), u3.2.1]
        refine mg_run 1 rfl ?_
        refine mg_addN rfl ?_
        refine mr_put rfl rfl q5 rfl rfl rfl (fun M6 q6 => ?_)
        refine mg_run 2 rfl ?_
        have u6 := u3.name (v := nI (tp.getD r 0)) (i' := r + 1)
        refine mg_callV [.int (xc 92)] rfl rfl rfl q6.2.1 rfl rfl rfl rfl (tx_put q6 u6 (fun M7 x7 A7 q7 f7 g7 u7 => ?_))
        refine mg_run 1 rfl ?_
        have hg := gr_na (tp := tp) (i := r) (ar := lx_ar ((sg, be, kd) :: L)) (be := be) (am := am) hc hst12
        have em : tp.length - r = (tp.length - (r + 1)) + 1 := by omega
        have hT3 := hT2
        rw [em] at hT3
        have hT4 := rd_T_e hT3 hg (fun amF => bu_na hc)
        have F : tf x x7 := (((f1.tr f2).tr f3).wk (by decide)).tr ((((fx.up (by decide) _ _).tr (fx.up (by decide) _ _))).tr f7)
        have G : ta A A7 := (fa.up (by decide) _ _).tr g7
        have hw2 : gr_w tp (tp.length - p) p (st, lx_ar ((sg, be, kd) :: L), be, am) = gr_w tp (tp.length - (r + 1)) (r + 1) (2, lx_ar ((sg, be, kd) :: L), be, am) := by
          rw [hw, em]
          exact gr_w_s hg
        refine ih (r + 1) (q + 1) 2 M7 x7 A7 _ _ q7 u7 (wq_then hW (by rw [wq_92, wq]; rfl)) (lx_ok_wk hok (by omega)) hT4 (by omega) (by omega) (by omega) (by rw [if_neg (by omega)]) (fun M' x' A' i' q' sg' nm' a1 a2 a3 a4 a5 a6 a7 aW a8 a9 a10 => hQ M' x' A' i' q' sg' nm' a1 (F.tr a2) (G.tr a3) (by omega) a5 a6 a7 aW a8 a9 (hw2.trans a10)) (fun M' x' A' j a1 a2 a3 a4 a5 a6 => hN M' x' A' j a1 (F.tr a2) (G.tr a3) a4 a5 (hw2.trans a6))
      · have hc : ¬ (97 ≤ tp.getD r 0 ∧ tp.getD r 0 ≤ 122) := fun h9 => c ((let_nI (by omega)).mpr h9)
        refine mg_zne rfl (by decide) (fun c => absurd c (by decide)) (fun _ => ?_)
        have hg := gr_nn (tp := tp) (i := r) (st := st) (ar := lx_ar ((sg, be, kd) :: L)) (be := be) (am := am) hsr hst12 hc (fun h9 => hnd ⟨by
          have h91 := h9.1
          rw [hst] at h91
          split at h91
          · omega
          · omega, h9.2⟩)
        refine lp_Mo_absG q2 u2 (by
          have := lx_ok_len _ _ hok
          rw [List.length_cons] at this
          omega) (fun M3 x3 A3 q3 f3 g3 e1 e2 => hN M3 x3 A3 r q3 (((f1.tr f2).wk (by decide)).tr f3) g3 e1 e2 ?_)
        rw [hw, show tp.length - r = (tp.length - (r + 1)) + 1 by omega]
        exact gr_w_n hg
    by_cases c0 : q = 0
    · subst c0
      refine mg_zeq rfl (by decide) (fun _ => ?_) (fun c => absurd c (by decide))
      by_cases cr : r < tp.length
      · exact restC cr (fun h9 => absurd h9.1 (by decide)) M x p h (fx.rf _ _) ht hp hr
      · exact restN (by omega) M x p h (fx.rf _ _) ht hp (by rw [hr]; omega)
    · refine mg_zeq rfl (by omega) (fun c => absurd c c0) (fun _ => ?_)
      refine mg_run 1 rfl ?_
      refine mg_callV [] rfl rfl rfl h.2.1 rfl rfl rfl rfl (c_Mo_see hb h ht hp (fun cr M1 x1 q1 f1 u1 => ?_) (fun cr M1 x1 q1 f1 u1 => ?_))
      · rw [hr] at cr u1 ⊢
        have hbr := hb r
        refine mg_run 1 rfl ?_
        refine mg_eq rfl (by omega) (by decide) (fun c => ?_) (fun c => ?_)
        · have est : st = 2 := by rw [hst, if_neg c0]
          subst est
          refine mg_run 2 rfl ?_
          refine mg_get rfl rfl q1.2.1 rfl ?_
          rw [u1.2.1]
          refine mg_run 1 rfl ?_
          refine mg_addN rfl ?_
          refine mr_put rfl rfl q1 rfl rfl rfl (fun M2 q2 => ?_)
          refine mg_run 2 rfl ?_
          have f2 : fx [21] x1 (upd x1 21 (nI (r + 1))) := fx.up (by decide) _ _
          have u2 := u1.mv f2 pk_us
          have ekv : nI q = kv (q + 1) := by rw [kv_2 (by omega), Nat.add_sub_cancel]
          have hlt2 := lx_ok_lt _ _ hok2
          rw [ekv]
          refine mg_callV [.int (kv (q + 1))] rfl rfl rfl q2.2.1 rfl rfl rfl rfl (c_Mo_openTerm (be := r + 1) (kd := q + 1) q2 u2 (by rw [List.length_cons]; omega) hlt2 (fun M3 x3 A3 q3 f3 g3 u3 => ?_))
          have hg := gr_do (tp := tp) (i := r) (ar := lx_ar ((sg, be, kd) :: L)) (be := be) (am := am) c
          have em : tp.length - r = (tp.length - (r + 1)) + 1 := by omega
          have hT3 := hT2
          rw [em] at hT3
          have hT4 := rd_T_d (kd := q + 1) (by omega) hT3 hok2 hg (fun amF => bu_do c)
          refine mg_vr rfl rfl rfl rfl (hQ M3 x3 A3 (r + 1) q sg nm q3 (((f1.tr f2).wk (by decide)).tr f3) g3 (by omega) (by omega) (by omega) (by omega) hW u3 hT4 ?_)
          rw [hw, em]
          exact gr_w_s hg
        · refine restC cr (fun h9 => c h9.2) M1 x1 r q1 f1 u1 (by omega) (hrr cr)
      · refine mg_run 1 rfl ?_
        refine mg_icmp rfl (fun c => absurd (show (-1 : Int32) = nI 46 from c) (by decide)) (fun _ => ?_)
        rw [hr] at cr
        exact restN cr M1 x1 tp.length q1 f1 u1 (Nat.le_refl _) (rd_sk_id (Or.inl (by omega)))
theorem c_Mo_abstraction {nm0 : Nat → Int32} {op : List Nat} {K : Nat} (hb : ∀ j, tp.getD j 0 < 256) (hn : tp.length ≤ 400) (h : mo_is M0 M x A) (ht : tx_is tp x A i k nb am ((sg, be, kd) :: L) nm) (hW : wq 3 sg [K] = some [k]) (hok : lx_ok am (i + 1) ((sg, be, kd) :: L)) (hi : i < tp.length) (hk : k ≤ i) (hT : rd_T tp nm0 (tp.length - (i + 1)) (i + 1) 1 am ((sg, be, kd) :: L) nm k op 1)
    (hQ : ∀ M' x' A' i' q' sg' nm', mo_is M0 M' x' A' → tf x x' → ta A A' → i < i' → i' ≤ tp.length → 1 ≤ q' → k + q' ≤ i' → wq 3 sg' [K] = some [k + q'] → tx_is tp x' A' i' (k + q') nb (nup am i' 0) (([], i', q' + 1) :: (sg', be, kd) :: L) nm' → rd_T tp nm0 (tp.length - i') i' 0 (nup am i' 0) (([], i', q' + 1) :: (sg', be, kd) :: L) nm' (k + q') op 0 → gr_w tp (tp.length - (i + 1)) (i + 1) (1, lx_ar ((sg, be, kd) :: L), be, am) = gr_w tp (tp.length - i') i' (0, lx_ar ((sg, be, kd) :: L), i', nup am i' 0) → Q (.inl none) M')
    (hN : ∀ M' x' A' j, mo_is M0 M' x' A' → tf x x' → ta A A' → x' 23 = nI 1 → x' 3 = nI j → gr_w tp (tp.length - (i + 1)) (i + 1) (1, lx_ar ((sg, be, kd) :: L), be, am) = .inl j → Q (.inl none) M') : mm_Ct l sc Y_Mo_abstraction M [.ref 54] Q := by
  refine mm_by k_Mo_abstraction w_Mo_abstraction rfl rfl ?_
  refine mg_run 2 rfl ?_
  refine mg_get rfl rfl h.2.1 rfl ?_
  rw [ht.2.1]
  refine mg_run 1 rfl ?_
  refine mg_addN rfl ?_
  refine mr_put rfl rfl h rfl rfl rfl (fun M1 q1 => ?_)
  refine mg_run 2 rfl ?_
  have f1 : fx [21] x (upd x 21 (nI (i + 1))) := fx.up (by decide) _ _
  refine lp_Mo_absL (k0 := k) hb hn _ (i + 1) 0 1 M1 _ A sg nm q1 (ht.mv f1 pk_us) hW (lx_ok_wk hok (by omega)) hT (by omega) (by omega) (Nat.le_refl _) rfl (fun M' x' A' i' q' sg' nm' a1 a2 a3 a4 a5 a6 a7 aW a8 a9 a10 => hQ M' x' A' i' q' sg' nm' a1 ((f1.wk (by decide)).tr a2) a3 (by omega) a5 a6 a7 aW a8 a9 a10) (fun M' x' A' j a1 a2 a3 a4 a5 a6 => hN M' x' A' j a1 ((f1.wk (by decide)).tr a2) a3 a4 a5 a6)
end
