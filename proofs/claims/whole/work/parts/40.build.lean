/-! The builder over a whole text, and read. -/
def bu_go (tp : List Nat) (am : Nat → Nat) : Nat → Nat → (Nat → Int32) → Nat → List Nat → Nat → List Nat
  | 0, _, _, _, _, _ => []
  | m + 1, i, nm, k, op, na =>
    if tp.getD i 0 = 92 then bu_go tp am m (i + 1) nm k op 1
    else if tp.getD i 0 = 46 then List.replicate (am (i + 1) - 1) 64 ++ bu_go tp am m (i + 1) nm k op 0
    else if tp.getD i 0 = 40 then List.replicate (am (i + 1) - 1) 64 ++ bu_go tp am m (i + 1) nm k (if op.length < 20 then k :: op else op) na
    else if tp.getD i 0 = 41 then bu_go tp am m (i + 1) nm (op.headD k) op.tail na
    else if tp.getD i 0 = 35 then bu_num (ta_num tp i) ++ bu_go tp am m (i + 1) nm k op na
    else if 97 ≤ tp.getD i 0 ∧ tp.getD i 0 ≤ 122 then
      (if na = 0 then [bu_mean nm (tp.getD i 0) k k] ++ bu_go tp am m (i + 1) nm k op na else [92] ++ bu_go tp am m (i + 1) (upd nm k (nI (tp.getD i 0))) (k + 1) op na)
    else if tp.getD i 0 = 83 ∨ tp.getD i 0 = 75 ∨ tp.getD i 0 = 73 then [tp.getD i 0] ++ bu_go tp am m (i + 1) nm k op na
    else bu_go tp am m (i + 1) nm k op na
section
variable {l : Launch} {sc : Nat × (Nat → Int32)} {Q : mm_O → mm_M → Prop} {tp : List Nat} {sl : Nat → List Nat} {pl : Int32} {o st be : Nat} {ar : List Nat} {am : Nat → Nat}
theorem ta_num_le (hb : ∀ j, tp.getD j 0 < 256) (i : Nat) : ta_num tp i ≤ 10000 := by
  have h1 := hb (i + 1)
  have h2 := hb (i + 2)
  unfold ta_num
  split <;> omega
theorem lp_Bu_build (hb : ∀ j, tp.getD j 0 < 256) (hA : ∀ j, j ≤ tp.length → bg tp j → am j ≤ 400) (h35 : ∀ j, j < tp.length → tp.getD j 0 = 35 → 48 ≤ tp.getD (j + 1) 0) : ∀ m i nm k op na (x6 : Option Value) (M : mm_M) (bf : List Nat × Nat) (out : List Nat), lb_is M sl tp pl o → gr_is M st ar be am → bu_st M nm k op → te_is M 26 bf.1 bf.2 → wr bf out → na < 2 → k ≤ i → (∀ x ∈ op, x ≤ i) → tp.length - i = m → i ≤ tp.length →
    (∀ M' bf', lb_is M' sl tp pl o → te_is M' 26 bf'.1 bf'.2 → wr bf' (out ++ bu_go tp am m i nm k op na) → mm_on mm_bn M M' → Q (.inl none) M') →
    mm_Go l sc Y_Bu_build 0 0 M [some (.ref 33), some (.ref 28), some (.ref 30), some (.ref 26), some (.int (nI na)), some (.int (nI i)), x6] [] 30 Q := by
  intro m
  induction m with
  | zero =>
    intro i nm k op na x6 M bf out hI hG hB hT hw hna hk hop hm hi hQ
    have hta := hI.2.2.2.1
    obtain ⟨ft, t1, t2, t3, t4⟩ := id hta
    refine mg_run 2 rfl ?_
    refine mg_callV [] rfl rfl rfl t1 rfl rfl rfl rfl (c_Ta_length hta ?_)
    refine mg_ge rfl (by omega) (by omega) (fun _ => ?_) (fun h => absurd h (by omega))
    refine mg_vr rfl rfl rfl rfl ?_
    exact hQ M bf hI hT (by rw [bu_go, List.append_nil]; exact hw) (mm_on.rf _ M)
  | succ m ih =>
    intro i nm k op na x6 M bf out hI hG hB hT hw hna hk hop hm hi hQ
    have hta := hI.2.2.2.1
    obtain ⟨ft, t1, t2, t3, t4⟩ := id hta
    obtain ⟨f, w, ⟨g1, g2, g3⟩, -⟩ := id hG
    obtain ⟨br, ⟨b1, b2, b3⟩, hs, hl⟩ := id hB
    obtain ⟨fw, w1, -⟩ := id hT
    have hc := hb i
    refine mg_run 2 rfl ?_
    refine mg_callV [] rfl rfl rfl t1 rfl rfl rfl rfl (c_Ta_length hta ?_)
    refine mg_ge rfl (by omega) (by omega) (fun h => absurd h (by omega)) (fun hlt => ?_)
    refine mg_run 2 rfl ?_
    refine mg_callV [.int (nI i)] rfl rfl rfl t1 rfl rfl rfl rfl (c_Ta_at hta (by omega) ?_)
    have nxt : ∀ (nm' : Nat → Int32) (k' : Nat) (op' : List Nat) (na' : Nat) (M1 : mm_M) (bf1 : List Nat × Nat) (p : List Nat), lb_is M1 sl tp pl o → gr_is M1 st ar be am → bu_st M1 nm' k' op' → te_is M1 26 bf1.1 bf1.2 → wr bf1 (out ++ p) → na' < 2 → k' ≤ i + 1 → (∀ x ∈ op', x ≤ i + 1) → mm_on mm_bn M M1 → bu_go tp am (m + 1) i nm k op na = p ++ bu_go tp am m (i + 1) nm' k' op' na' →
        mm_Go l sc Y_Bu_build 0 0 M1 [some (.ref 33), some (.ref 28), some (.ref 30), some (.ref 26), some (.int (nI na')), some (.int (nI i)), some (.int (nI (tp.getD i 0)))] [] 206 Q := by
      intro nm' k' op' na' M1 bf1 p q1 q2 q3 q4 q5 q6 q7 q8 q9 q10
      refine mg_incN rfl rfl rfl ?_
      refine mg_run 1 rfl ?_
      refine ih (i + 1) nm' k' op' na' _ M1 bf1 (out ++ p) q1 q2 q3 q4 q5 q6 q7 q8 (by omega) (by omega) (fun M' bf' r1 r2 r3 r4 => hQ M' bf' r1 r2 ?_ (q9.tr r4))
      rw [q10, ← List.append_assoc]
      exact r3
    have hop1 : ∀ x ∈ op, x ≤ i + 1 := fun x hx => Nat.le_succ_of_le (hop x hx)
    have hw0 : wr bf (out ++ []) := by rw [List.append_nil]; exact hw
    have hon0 := mm_on.rf mm_bn M
    refine mg_run 3 rfl ?_
    refine mg_ne rfl (by omega) (by decide) (fun c1 => ?_) (fun c1 => ?_)
    · refine mg_run 2 rfl ?_
      refine mg_ne rfl (by omega) (by decide) (fun c2 => ?_) (fun c2 => ?_)
      · refine mg_run 2 rfl ?_
        refine mg_ne rfl (by omega) (by decide) (fun c3 => ?_) (fun c3 => ?_)
        · refine mg_run 2 rfl ?_
          refine mg_ne rfl (by omega) (by decide) (fun c4 => ?_) (fun c4 => ?_)
          · refine mg_run 2 rfl ?_
            refine mg_ne rfl (by omega) (by decide) (fun c5 => ?_) (fun c5 => ?_)
            · have com : ¬ (97 ≤ tp.getD i 0 ∧ tp.getD i 0 ≤ 122) → mm_Go l sc Y_Bu_build 0 0 M [some (.ref 33), some (.ref 28), some (.ref 30), some (.ref 26), some (.int (nI na)), some (.int (nI i)), some (.int (nI (tp.getD i 0)))] [] 171 Q := by
                intro c6
                refine mg_run 1 rfl ?_
                refine mg_callN [.int (nI (tp.getD i 0))] rfl rfl rfl rfl rfl (c_LB_isLetter (fun hL => ?_) (fun hL => ?_))
                · rw [let_nI (by omega)] at hL
                  exact absurd hL c6
                refine mg_zeq rfl (by decide) (fun _ => ?_) (fun h => absurd h (by decide))
                refine mg_run 1 rfl ?_
                refine mg_callN [.int (nI (tp.getD i 0))] rfl rfl rfl rfl rfl (c_LB_isCombinator (by omega) (fun hC => ?_) (fun hC => ?_))
                · refine mg_zeq rfl (by decide) (fun h => absurd h (by decide)) (fun _ => ?_)
                  refine mg_run 2 rfl ?_
                  refine mg_callV [.int (nI (tp.getD i 0))] rfl rfl rfl w1 rfl rfl rfl rfl (c_Te_add hT (fun M1 p1 p2 => ?_))
                  refine nxt nm k op na M1 _ [tp.getD i 0] (hI.work ⟨_, _, p1⟩ p2.te) (hG.keep p2.te (by decide)) (hB.keep p2.te (by decide)) p1 (hw.add _) hna (by omega) hop1 (p2.te.bn (by decide)) ?_
                  rw [bu_go, if_neg c1, if_neg c2, if_neg c3, if_neg c4, if_neg c5, if_neg c6]
                  exact if_pos hC
                · refine mg_zeq rfl (by decide) (fun _ => ?_) (fun h => absurd h (by decide))
                  refine nxt nm k op na M bf [] hI hG hB hT hw0 hna (by omega) hop1 hon0 ?_
                  rw [bu_go, if_neg c1, if_neg c2, if_neg c3, if_neg c4, if_neg c5, if_neg c6]
                  exact if_neg hC
              refine mg_run 1 rfl ?_
              refine mg_zeq rfl (by omega) (fun c7 => ?_) (fun c7 => ?_)
              · by_cases c6 : 97 ≤ tp.getD i 0 ∧ tp.getD i 0 ≤ 122
                · refine mg_run 1 rfl ?_
                  refine mg_callN [.int (nI (tp.getD i 0))] rfl rfl rfl rfl rfl (c_LB_isLetter (fun hL => ?_) (fun hL => ?_))
                  · refine mg_zeq rfl (by decide) (fun h => absurd h (by decide)) (fun _ => ?_)
                    refine mg_run 3 rfl ?_
                    refine mg_callV [.int (nI (tp.getD i 0))] rfl rfl rfl b1 rfl rfl rfl rfl (c_Bu_meaningOf hB (by omega) hc ?_)
                    refine mg_callV [.int (nI (bu_mean nm (tp.getD i 0) k k))] rfl rfl rfl w1 rfl rfl rfl rfl (c_Te_add hT (fun M1 p1 p2 => ?_))
                    refine mg_run 1 rfl ?_
                    refine nxt nm k op na M1 _ [bu_mean nm (tp.getD i 0) k k] (hI.work ⟨_, _, p1⟩ p2.te) (hG.keep p2.te (by decide)) (hB.keep p2.te (by decide)) p1 (hw.add _) hna (by omega) hop1 (p2.te.bn (by decide)) ?_
                    rw [bu_go, if_neg c1, if_neg c2, if_neg c3, if_neg c4, if_neg c5, if_pos c6, if_pos c7]
                  · exact absurd ((let_nI (by omega)).mpr c6) hL
                · exact com c6
              · refine mg_run 1 rfl ?_
                refine mg_callN [.int (nI (tp.getD i 0))] rfl rfl rfl rfl rfl (c_LB_isLetter (fun hL => ?_) (fun hL => ?_))
                · rw [let_nI (by omega)] at hL
                  refine mg_zeq rfl (by decide) (fun h => absurd h (by decide)) (fun _ => ?_)
                  refine mg_run 3 rfl ?_
                  refine mg_callV [.int (nI (tp.getD i 0)), .ref 26] rfl rfl rfl b1 rfl rfl rfl rfl (c_Bu_addAbstraction hB (by omega) hT hw (fun M0 M1 bf1 p1 p0 p2 p3 p4 p5 => ?_))
                  refine mg_run 1 rfl ?_
                  have I0 := hI.bu p0.bu p2
                  refine nxt _ (k + 1) op na M1 bf1 [92] (I0.work ⟨_, _, p3⟩ p5.te) ((hG.keep p2 (by decide)).keep p5.te (by decide)) p1 p3 p4 hna (by omega) hop1 ((p2.bn (by decide)).tr (p5.te.bn (by decide))) ?_
                  rw [bu_go, if_neg c1, if_neg c2, if_neg c3, if_neg c4, if_neg c5, if_pos hL, if_neg (by omega)]
                · rw [let_nI (by omega)] at hL
                  refine mg_zeq rfl (by decide) (fun _ => ?_) (fun h => absurd h (by decide))
                  exact com hL
            · refine mg_run 3 rfl ?_
              refine mg_callV [.int (nI i)] rfl rfl rfl t1 rfl rfl rfl rfl (c_Ta_numberBehind hta (by omega) hb (h35 i hlt c5) ?_)
              refine mg_run 1 rfl ?_
              refine mg_callV [.int (nI (ta_num tp i)), .ref 26] rfl rfl rfl b1 rfl rfl rfl rfl (c_Bu_addNumeral (ta_num_le hb i) hT hw (fun M1 bf1 p1 p3 p2 => ?_))
              refine mg_run 1 rfl ?_
              refine nxt nm k op na M1 bf1 (bu_num (ta_num tp i)) (hI.work ⟨_, _, p1⟩ p2.te) (hG.keep p2.te (by decide)) (hB.keep p2.te (by decide)) p1 p3 hna (by omega) hop1 (p2.te.bn (by decide)) ?_
              rw [bu_go, if_neg c1, if_neg c2, if_neg c3, if_neg c4, if_pos c5]
          · refine mg_run 1 rfl ?_
            refine mg_callV [] rfl rfl rfl b1 rfl rfl rfl rfl (c_Bu_closes hB (fun M1 p1 p0 p2 => ?_))
            refine mg_run 1 rfl ?_
            have B1 : bu_st M1 nm (op.headD k) op.tail := by
              cases op with
              | nil => exact p0 rfl
              | cons x op' => exact p1 x op' rfl
            have T1 := hT.keep p2 (mm_rg_n (by decide)) (mm_rg_n (by decide))
            refine nxt nm (op.headD k) op.tail na M1 bf [] (hI.bu B1.bu p2) (hG.keep p2 (by decide)) B1 T1 hw0 hna ?_ (fun x hx => hop1 x (List.mem_of_mem_tail hx)) (p2.bn (by decide)) ?_
            · cases op with
              | nil => show k ≤ i + 1; omega
              | cons x op' => exact hop1 x List.mem_cons_self
            · rw [bu_go, if_neg c1, if_neg c2, if_neg c3, if_pos c4]
              rfl
        · refine mg_run 1 rfl ?_
          refine mg_callV [] rfl rfl rfl b1 rfl rfl rfl rfl (c_Bu_opens hB (by omega) (fun M1 p1 p2 => ?_))
          have I1 := hI.bu p1.bu p2
          have G1 := hG.keep p2 (by decide)
          have T1 := hT.keep p2 (mm_rg_n (by decide)) (mm_rg_n (by decide))
          obtain ⟨f1, w', ⟨g1', -⟩, -⟩ := id G1
          obtain ⟨br1, ⟨b1', -⟩, -⟩ := id p1
          refine mg_run 4 rfl ?_
          refine mg_addN rfl ?_
          refine mg_callV [.int (nI (i + 1))] rfl rfl rfl g1' rfl rfl rfl rfl (c_Gr_atomsFrom G1 (by omega) ?_)
          refine mg_run 1 rfl ?_
          refine mg_callV [.int (nI (am (i + 1))), .ref 26] rfl rfl rfl b1' rfl rfl rfl rfl (c_Bu_addApplications (Nat.le_trans (hA (i + 1) hlt (bg_of (Or.inr c3))) (by decide)) T1 hw (fun M2 bf1 q1 q3 q2 => ?_))
          refine mg_run 1 rfl ?_
          refine nxt nm k _ na M2 bf1 (List.replicate (am (i + 1) - 1) 64) (I1.work ⟨_, _, q1⟩ q2.te) (G1.keep q2.te (by decide)) (p1.keep q2.te (by decide)) q1 q3 hna (by omega) ?_ ((p2.bn (by decide)).tr (q2.te.bn (by decide))) ?_
          · intro x hx
            by_cases c9 : op.length < 20
            · rw [if_pos c9] at hx
              rcases List.mem_cons.mp hx with rfl | hx
              · omega
              · exact hop1 x hx
            · rw [if_neg c9] at hx
              exact hop1 x hx
          · rw [bu_go, if_neg c1, if_neg c2, if_pos c3]
      · refine mg_run 6 rfl ?_
        refine mg_addN rfl ?_
        refine mg_callV [.int (nI (i + 1))] rfl rfl rfl g1 rfl rfl rfl rfl (c_Gr_atomsFrom hG (by omega) ?_)
        refine mg_run 1 rfl ?_
        refine mg_callV [.int (nI (am (i + 1))), .ref 26] rfl rfl rfl b1 rfl rfl rfl rfl (c_Bu_addApplications (Nat.le_trans (hA (i + 1) hlt (bg_of (Or.inl c2))) (by decide)) hT hw (fun M2 bf1 q1 q3 q2 => ?_))
        refine mg_run 1 rfl ?_
        refine nxt nm k op 0 M2 bf1 (List.replicate (am (i + 1) - 1) 64) (hI.work ⟨_, _, q1⟩ q2.te) (hG.keep q2.te (by decide)) (hB.keep q2.te (by decide)) q1 q3 (by decide) (by omega) hop1 (q2.te.bn (by decide)) ?_
        rw [bu_go, if_neg c1, if_pos c2]
    · refine mg_run 3 rfl ?_
      refine nxt nm k op 1 M bf [] hI hG hB hT hw0 (by decide) (by omega) hop1 hon0 ?_
      rw [bu_go, if_pos c1]
      rfl
/-- the row of a right text -/
def te_bt (tp : List Nat) (am : Nat → Nat) (nm : Nat → Int32) : List Nat := List.replicate (am 0 - 1) 64 ++ bu_go tp am tp.length 0 nm 0 [] 0
theorem c_Bu_build {M : mm_M} (hb : ∀ j, tp.getD j 0 < 256) (hA : ∀ j, j ≤ tp.length → bg tp j → am j ≤ 400) (h35 : ∀ j, j < tp.length → tp.getD j 0 = 35 → 48 ≤ tp.getD (j + 1) 0) (hI : lb_is M sl tp pl o) (hG : gr_is M st ar be am)
    (hQ : ∀ nm M' bf', lb_is M' sl tp pl o → te_is M' 26 bf'.1 bf'.2 → wr bf' (te_bt tp am nm) → mm_on mm_bn M M' → Q (.inl none) M') : mm_Ct l sc Y_Bu_build M [.ref 33, .ref 28, .ref 30, .ref 26] Q := by
  obtain ⟨kx, ox, nm, br, b1, b2, b3⟩ := hI.2.2.2.2.2.1
  refine mm_by k_Bu_build w_Bu_build rfl rfl ?_
  refine mg_run 2 rfl ?_
  refine mg_put rfl rfl b1 rfl rfl ?_
  have a1 := mm_at_set (.inr (1, [.ref 34, .ref 35, .int (nI 0), .int ox])) b1
  have a2 : (M.set 33 (.inr (1, [.ref 34, .ref 35, .int (nI 0), .int ox])))[34]? = _ := mm_at_ne (by decide) b2
  have a3 : (M.set 33 (.inr (1, [.ref 34, .ref 35, .int (nI 0), .int ox])))[35]? = _ := mm_at_ne (by decide) b3
  refine mg_run 2 rfl ?_
  refine mg_put rfl rfl a1 rfl rfl ?_
  have B2 : bu_st ((M.set 33 (.inr (1, [.ref 34, .ref 35, .int (nI 0), .int ox]))).set 33 (.inr (1, [.ref 34, .ref 35, .int (nI 0), .int (nI 0)]))) nm 0 [] := ⟨br, ⟨mm_at_set _ a1, mm_at_ne (by decide) a2, mm_at_ne (by decide) a3⟩, fun j hj => absurd hj (Nat.not_lt_zero j), Nat.zero_le _⟩
  have hon : mm_on (mm_rg 33 35) M ((M.set 33 (.inr (1, [.ref 34, .ref 35, .int (nI 0), .int ox]))).set 33 (.inr (1, [.ref 34, .ref 35, .int (nI 0), .int (nI 0)]))) := (on_33 _).tr (on_33 _)
  have I2 := hI.bu B2.bu hon
  have G2 := hG.keep hon (by decide)
  obtain ⟨rw0, gw0, hw0⟩ := I2.2.2.1
  obtain ⟨fw, w1, -⟩ := id hw0
  refine mg_run 1 rfl ?_
  refine mg_callV [] rfl rfl rfl w1 rfl rfl rfl rfl (c_Te_clear hw0 (fun M3 p1 p2 => ?_))
  have I3 := I2.work ⟨_, _, p1⟩ p2.te
  have G3 := G2.keep p2.te (by decide)
  have B3 := B2.keep p2.te (by decide)
  obtain ⟨f3, w3, ⟨g1, -⟩, -⟩ := id G3
  obtain ⟨br3, ⟨c1, -⟩, -⟩ := id B3
  refine mg_run 3 rfl ?_
  refine mg_callV [.int (nI 0)] rfl rfl rfl g1 rfl rfl rfl rfl (c_Gr_atomsFrom G3 (by decide) ?_)
  refine mg_run 1 rfl ?_
  refine mg_callV [.int (nI (am 0)), .ref 26] rfl rfl rfl c1 rfl rfl rfl rfl (c_Bu_addApplications (bf := ([], 0)) (Nat.le_trans (hA 0 (Nat.zero_le _) (Or.inl rfl)) (by decide)) p1 wr0 (fun M4 bf1 q1 q3 q2 => ?_))
  refine mg_run 4 rfl ?_
  refine lp_Bu_build hb hA h35 _ 0 nm 0 [] 0 none M4 bf1 _ (I3.work ⟨_, _, q1⟩ q2.te) (G3.keep q2.te (by decide)) (B3.keep q2.te (by decide)) q1 q3 (by decide) (Nat.le_refl _) (fun x hx => absurd hx List.not_mem_nil) rfl (Nat.zero_le _) (fun M' bf' r1 r2 r3 r4 => ?_)
  exact hQ nm M' bf' r1 r2 r3 ((((hon.bn (by decide)).tr (p2.te.bn (by decide))).tr (q2.te.bn (by decide))).tr r4)
end
