/-! Branches over natural numbers, a rule a condition. -/
section
variable {l : Launch} {sc : Nat × (Nat → Int32)} {Y : mm_Y} {k n : Nat} {M : mm_M} {L : mm_L} {S : List Value} {pc : Nat} {Q : mm_O → mm_M → Prop} {off : Int} {nx tg a b : Nat} {v : Int32}
theorem mg_eq (hq : mm_at (mm_tab Y) pc = some (.if_icmp .eq off, nx, tg, v)) (ha : a < 2 ^ 31) (hb : b < 2 ^ 31) (kt : a = b → mm_Go l sc Y k n M L S tg Q) (kf : ¬ a = b → mm_Go l sc Y k n M L S nx Q) : mm_Go l sc Y k n M L (.int (nI b) :: .int (nI a) :: S) pc Q := mg_icmpN hq ha hb kt kf
theorem mg_ne (hq : mm_at (mm_tab Y) pc = some (.if_icmp .ne off, nx, tg, v)) (ha : a < 2 ^ 31) (hb : b < 2 ^ 31) (kt : ¬ a = b → mm_Go l sc Y k n M L S tg Q) (kf : a = b → mm_Go l sc Y k n M L S nx Q) : mm_Go l sc Y k n M L (.int (nI b) :: .int (nI a) :: S) pc Q := mg_icmpN hq ha hb kt (fun h => kf (Decidable.not_not.mp h))
theorem mg_lt (hq : mm_at (mm_tab Y) pc = some (.if_icmp .lt off, nx, tg, v)) (ha : a < 2 ^ 31) (hb : b < 2 ^ 31) (kt : a < b → mm_Go l sc Y k n M L S tg Q) (kf : b ≤ a → mm_Go l sc Y k n M L S nx Q) : mm_Go l sc Y k n M L (.int (nI b) :: .int (nI a) :: S) pc Q := mg_icmpN hq ha hb kt (fun h => kf (Nat.le_of_not_lt h))
theorem mg_ge (hq : mm_at (mm_tab Y) pc = some (.if_icmp .ge off, nx, tg, v)) (ha : a < 2 ^ 31) (hb : b < 2 ^ 31) (kt : b ≤ a → mm_Go l sc Y k n M L S tg Q) (kf : a < b → mm_Go l sc Y k n M L S nx Q) : mm_Go l sc Y k n M L (.int (nI b) :: .int (nI a) :: S) pc Q := mg_icmpN hq ha hb kt (fun h => kf (Nat.lt_of_not_le h))
theorem mg_gt (hq : mm_at (mm_tab Y) pc = some (.if_icmp .gt off, nx, tg, v)) (ha : a < 2 ^ 31) (hb : b < 2 ^ 31) (kt : b < a → mm_Go l sc Y k n M L S tg Q) (kf : a ≤ b → mm_Go l sc Y k n M L S nx Q) : mm_Go l sc Y k n M L (.int (nI b) :: .int (nI a) :: S) pc Q := mg_icmpN hq ha hb kt (fun h => kf (Nat.le_of_not_lt h))
theorem mg_le (hq : mm_at (mm_tab Y) pc = some (.if_icmp .le off, nx, tg, v)) (ha : a < 2 ^ 31) (hb : b < 2 ^ 31) (kt : a ≤ b → mm_Go l sc Y k n M L S tg Q) (kf : b < a → mm_Go l sc Y k n M L S nx Q) : mm_Go l sc Y k n M L (.int (nI b) :: .int (nI a) :: S) pc Q := mg_icmpN hq ha hb kt (fun h => kf (Nat.lt_of_not_le h))
theorem mg_zeq (hq : mm_at (mm_tab Y) pc = some (.ifCond .eq off, nx, tg, v)) (ha : a < 2 ^ 31) (kt : a = 0 → mm_Go l sc Y k n M L S tg Q) (kf : 0 < a → mm_Go l sc Y k n M L S nx Q) : mm_Go l sc Y k n M L (.int (nI a) :: S) pc Q := mg_ifN hq ha kt (fun h => kf (Nat.pos_of_ne_zero h))
theorem mg_zne (hq : mm_at (mm_tab Y) pc = some (.ifCond .ne off, nx, tg, v)) (ha : a < 2 ^ 31) (kt : 0 < a → mm_Go l sc Y k n M L S tg Q) (kf : a = 0 → mm_Go l sc Y k n M L S nx Q) : mm_Go l sc Y k n M L (.int (nI a) :: S) pc Q := mg_ifN hq ha (fun h => kt (Nat.pos_of_ne_zero h)) (fun h => kf (Decidable.not_not.mp h))
theorem mg_zlt (hq : mm_at (mm_tab Y) pc = some (.ifCond .lt off, nx, tg, v)) (ha : a < 2 ^ 31) (kf : mm_Go l sc Y k n M L S nx Q) : mm_Go l sc Y k n M L (.int (nI a) :: S) pc Q := mg_ifN hq ha (fun h => absurd h (Nat.not_lt_zero a)) (fun _ => kf)
theorem mg_zge (hq : mm_at (mm_tab Y) pc = some (.ifCond .ge off, nx, tg, v)) (ha : a < 2 ^ 31) (kt : mm_Go l sc Y k n M L S tg Q) : mm_Go l sc Y k n M L (.int (nI a) :: S) pc Q := mg_ifN hq ha (fun _ => kt) (fun h => absurd (Nat.zero_le a) h)
theorem mg_zgt (hq : mm_at (mm_tab Y) pc = some (.ifCond .gt off, nx, tg, v)) (ha : a < 2 ^ 31) (kt : 0 < a → mm_Go l sc Y k n M L S tg Q) (kf : a = 0 → mm_Go l sc Y k n M L S nx Q) : mm_Go l sc Y k n M L (.int (nI a) :: S) pc Q := mg_ifN hq ha kt (fun h => kf (Nat.eq_zero_of_not_pos h))
theorem mg_zle (hq : mm_at (mm_tab Y) pc = some (.ifCond .le off, nx, tg, v)) (ha : a < 2 ^ 31) (kt : a = 0 → mm_Go l sc Y k n M L S tg Q) (kf : 0 < a → mm_Go l sc Y k n M L S nx Q) : mm_Go l sc Y k n M L (.int (nI a) :: S) pc Q := mg_ifN hq ha (fun h => kt (Nat.le_zero.mp h)) (fun h => kf (Nat.lt_of_not_le h))
/-- a number below nothing: the loop that counts down has ended -/
theorem mg_zgeM {v9 : Int32} (hq : mm_at (mm_tab Y) pc = some (.ifCond .ge off, nx, tg, v9)) (kf : mm_Go l sc Y k n M L S nx Q) : mm_Go l sc Y k n M L (.int (-1) :: S) pc Q := mg_if hq (fun h => absurd (show (0 : Int32) ≤ -1 from h) (by decide)) (fun _ => kf)
theorem mg_zltM {v9 : Int32} (hq : mm_at (mm_tab Y) pc = some (.ifCond .lt off, nx, tg, v9)) (kt : mm_Go l sc Y k n M L S tg Q) : mm_Go l sc Y k n M L (.int (-1) :: S) pc Q := mg_if hq (fun _ => kt) (fun h => absurd (show (-1 : Int32) < 0 by decide) h)
end
/-! ends and beginnings, their numbers looked at by rfl -/
section
variable {l : Launch} {sc : Nat × (Nat → Int32)} {Y : mm_Y} {k n : Nat} {M : mm_M} {L : mm_L} {pc : Nat} {Q : mm_O → mm_M → Prop} {nx aux i : Nat} {v x : Int32} {nm : String}
theorem mg_ir (hq : mm_at (mm_tab Y) pc = some (.ireturn, nx, aux, v)) (hr : mm_ret Y = some .int) (hk : Nat.ble k (mm_rm Y).cells = true) (hn : Nat.ble n (mm_rm Y).slots = true) (hQ : Q (.inl (some (.int x))) M) : mm_Go l sc Y k n M L [.int x] pc Q := mg_iret hq hr (Nat.le_of_ble_eq_true hk) (Nat.le_of_ble_eq_true hn) hQ
theorem mg_zr (hq : mm_at (mm_tab Y) pc = some (.ireturn, nx, aux, v)) (hr : mm_ret Y = some .boolean) (hx : x = nI 0 ∨ x = nI 1) (hk : Nat.ble k (mm_rm Y).cells = true) (hn : Nat.ble n (mm_rm Y).slots = true) (hQ : Q (.inl (some (.int x))) M) : mm_Go l sc Y k n M L [.int x] pc Q := mg_zret hq hr hx (Nat.le_of_ble_eq_true hk) (Nat.le_of_ble_eq_true hn) hQ
theorem mg_vr (hq : mm_at (mm_tab Y) pc = some (.return_, nx, aux, v)) (hr : mm_ret Y = none) (hk : Nat.ble k (mm_rm Y).cells = true) (hn : Nat.ble n (mm_rm Y).slots = true) (hQ : Q (.inl none) M) : mm_Go l sc Y k n M L [] pc Q := mg_vret hq hr (Nat.le_of_ble_eq_true hk) (Nat.le_of_ble_eq_true hn) hQ
theorem mg_ar (hq : mm_at (mm_tab Y) pc = some (.areturn, nx, aux, v)) (hr : mm_ret Y = some (.object nm)) (hk : Nat.ble k (mm_rm Y).cells = true) (hn : Nat.ble n (mm_rm Y).slots = true) (hQ : Q (.inl (some (.ref i))) M) : mm_Go l sc Y k n M L [.ref i] pc Q := mg_aret hq hr (Nat.le_of_ble_eq_true hk) (Nat.le_of_ble_eq_true hn) hQ
theorem mm_by (hY : mm_okY Y) (hcw : mm_cw Y ∈ mm_tbl) (hh : mm_hh Y = []) {vs : List Value} (hn : Nat.ble (mm_args vs).length (mm_nL Y) = true) (kk : mm_Go l sc Y 0 0 M (mm_ent (mm_nL Y) vs) [] 0 Q) : mm_Ct l sc Y M vs Q := mm_of hY hcw hh (Nat.le_of_ble_eq_true hn) kk
end
/-! numbers of any sign -/
theorem i32_lt (x : Int32) {n : Nat} (hn : n < 2 ^ 31) : x < nI n ↔ x.toInt < (n : Int) := by rw [Int32.lt_iff_toInt_lt, nI_toInt hn]
theorem i32_gt (x : Int32) {n : Nat} (hn : n < 2 ^ 31) : nI n < x ↔ (n : Int) < x.toInt := by rw [Int32.lt_iff_toInt_lt, nI_toInt hn]
theorem i32_le (x : Int32) {n : Nat} (hn : n < 2 ^ 31) : x ≤ nI n ↔ x.toInt ≤ (n : Int) := by rw [Int32.le_iff_toInt_le, nI_toInt hn]
theorem i32_ge (x : Int32) {n : Nat} (hn : n < 2 ^ 31) : nI n ≤ x ↔ (n : Int) ≤ x.toInt := by rw [Int32.le_iff_toInt_le, nI_toInt hn]
theorem i32_neg (x : Int32) : x < 0 ↔ x.toInt < 0 := by rw [Int32.lt_iff_toInt_lt]; rfl
/-- a number between two naturals is a natural -/
theorem i32_nat {x : Int32} (h : 0 ≤ x.toInt) : ∃ j : Nat, j < 2 ^ 31 ∧ x = nI j ∧ (j : Int) = x.toInt := by
  obtain ⟨j, h1, h2⟩ := nI_of (x := x) (fun h9 => by rw [i32_neg] at h9; omega)
  exact ⟨j, h1, h2, by rw [h2, nI_toInt h1]⟩
