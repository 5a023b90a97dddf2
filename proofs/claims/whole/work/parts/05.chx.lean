section
variable {B : Nat → Nat → Bool} {L : Nat → Nat} {e l : Nat → Int32}
theorem bw_m1i {m i : Nat} (h : i < m) : nI m - 1 - nI i = nI (m - 1 - i) := by
  have e : nI m - 1 = nI (m - 1) := by
    rw [show m = (m - 1) + 1 from by omega, nI_pred]
    rfl
  rw [e, pk_sub (by omega)]
theorem bw_shI (i : Nat) (k : Int32) (hi : i < 2 ^ 31) : ((nI i).toInt64 + k.toInt64).toInt = (i : Int) + k.toInt := by
  have h1 := Int32.toInt_lt k
  have h2 := Int32.le_toInt k
  rw [Int64.toInt_add, Int32.toInt_toInt64, Int32.toInt_toInt64, nI_toInt hi]
  exact Int.bmod_eq_of_le (by omega) (by omega)
/-- the turn of ROTATE, made positive -/
def bw_tn (k : Int32) (m : Nat) : Nat := (k.toInt.tmod (m : Int) + m).toNat
theorem bw_tnb (k : Int32) {m : Nat} (h0 : 0 < m) : bw_tn k m < 2 * m ∧ (bw_tn k m : Int) = k.toInt.tmod (m : Int) + m := by
  have hb := tmod_bounds (a := k.toInt) (M := (m : Int)) (by omega)
  unfold bw_tn
  omega
theorem bw_tnE (k : Int32) {m : Nat} (h0 : 0 < m) (hm : m ≤ 256) : k - k / nI m * nI m + nI m = nI (bw_tn k m) := by
  have hb := tmod_bounds (a := k.toInt) (M := (m : Int)) (by omega)
  have ht := bw_tnb k h0
  apply Int32.toInt_inj.mp
  rw [Int32.toInt_add, rem_toInt, nI_toInt (by omega), nI_toInt (by omega), ht.2]
  exact Int.bmod_eq_of_le (by omega) (by omega)
theorem bw_emod_of {z r : Int} {m : Nat} (q : Int) (h : z = r + m * q) (h0 : 0 ≤ r) (h1 : r < m) : z % (m : Int) = r := by
  rw [h, Int.add_mul_emod_self_left, Int.emod_eq_of_lt h0 h1]
theorem bw_tmq (z : Int) (m : Nat) : z = z.tmod (m : Int) + m * z.tdiv (m : Int) := by
  have := Int.tmod_add_mul_tdiv z (m : Int)
  omega
theorem bw_rotX (k : Int32) {m : Nat} (i : Nat) (h0 : 0 < m) : (i + bw_tn k m) % m = (((i : Int) + k.toInt) % (m : Int)).toNat := by
  have ht := bw_tnb k h0
  have hq := bw_tmq k.toInt m
  have e : ((i : Int) + k.toInt) % (m : Int) = (((i + bw_tn k m) % m : Nat) : Int) := by
    have e1 : (((i + bw_tn k m) % m : Nat) : Int) = ((i : Int) + k.toInt + (m : Int) * (1 - k.toInt.tdiv (m : Int))) % (m : Int) := by
      rw [Int.natCast_emod]
      congr 1
      rw [Int.natCast_add, ht.2, Int.mul_sub]
      omega
    rw [e1, Int.add_mul_emod_self_left]
  rw [e, Int.toNat_natCast]

theorem bx_not (hP : bw_P B L e l) {a : Nat} (ha : a < 6) (r : Nat → Int32) {post : Int32 → SX → Prop} (h : ∀ r', (∀ i, i < L a → r' i = bw_i (!B a i)) → post (nI (L a)) (e, l, r')) : wpX_buildNot post (e, l, r) (nI a) := by
  obtain ⟨hL, hl, he, hb⟩ := hP a ha
  unfold wpX_buildNot
  dsimp only
  refine ⟨vp_in_nI ha (by omega), nm_r (e' := nI (L a)) (by rw [nI_clamp (by omega), hl]) ?_⟩
  refine loop_0 (fun n' i s => wX_buildNot_9 post (nI a) (nI (L a)) n' (nI i) e l s) (fun i s => ∀ j, j < i → s j = bw_i (!B a j)) (L a) r (fun j hj => absurd hj (by omega)) ?_ ?_
  · intro n' s hI
    exact br_t (nI_le (Nat.le_refl _) (by omega)) (h _ hI)
  · intro n' i s hi hI k
    exact br_f (nI_ge hi (by omega)) (bx_elN hP ha s (by omega) (bw_c (fun z => bw_st true (by omega) bw_nar1 (k _ (bw_upd (F := fun j => !B a j) hI (by rw [z]; rfl)))) (fun z => bw_st false (by omega) bw_nar0 (k _ (bw_upd (F := fun j => !B a j) hI (by rw [z]; rfl))))))
theorem bx_rev (hP : bw_P B L e l) {a : Nat} (ha : a < 6) (r : Nat → Int32) {post : Int32 → SX → Prop} (h : ∀ r', (∀ i, i < L a → r' i = bw_i (B a (L a - 1 - i))) → post (nI (L a)) (e, l, r')) : wpX_buildReverse post (e, l, r) (nI a) := by
  obtain ⟨hL, hl, he, hb⟩ := hP a ha
  unfold wpX_buildReverse
  dsimp only
  refine ⟨vp_in_nI ha (by omega), nm_r (e' := nI (L a)) (by rw [nI_clamp (by omega), hl]) ?_⟩
  refine loop_0 (fun n' i s => wX_buildReverse_9 post (nI a) (nI (L a)) n' (nI i) e l s) (fun i s => ∀ j, j < i → s j = bw_i (B a (L a - 1 - j))) (L a) r (fun j hj => absurd hj (by omega)) ?_ ?_
  · intro n' s hI
    exact br_t (nI_le (Nat.le_refl _) (by omega)) (h _ hI)
  · intro n' i s hi hI k
    refine br_f (nI_ge hi (by omega)) ?_
    rw [bw_m1i hi]
    exact bx_elN hP ha s (by omega) (bw_st (B a (L a - 1 - i)) (by omega) (bw_nar _) (k _ (bw_upd (F := fun j => B a (L a - 1 - j)) hI rfl)))
theorem bx_rot (hP : bw_P B L e l) {a : Nat} (ha : a < 6) (kk : Int32) (r : Nat → Int32) {post : Int32 → SX → Prop} (h : ∀ r', (∀ i, i < L a → r' i = bw_i (B a (((((i : Nat) : Int) + kk.toInt) % ((L a : Nat) : Int)).toNat))) → post (nI (L a)) (e, l, r')) : wpX_buildRotate post (e, l, r) (nI a) kk := by
  obtain ⟨hL, hl, he, hb⟩ := hP a ha
  unfold wpX_buildRotate
  dsimp only
  refine ⟨vp_in_nI ha (by omega), nm_r (e' := nI (L a)) (by rw [nI_clamp (by omega), hl]) ?_⟩
  by_cases h0 : L a = 0
  · refine br_t (by rw [h0]; rfl) ?_
    have := h r (fun i hi => absurd hi (by omega))
    rw [h0] at this
    exact this
  refine br_f (nI_ne0 (by omega) (by omega)) ⟨nI_ne0 (by omega) (by omega), nm_r (bw_tnE kk (by omega) hL) ?_⟩
  refine loop_0 (fun n' i s => wX_buildRotate_23 post (nI a) (nI (L a)) (nI (bw_tn kk (L a))) n' (nI i) e l s) (fun i s => ∀ j, j < i → s j = bw_i (B a (((((j : Nat) : Int) + kk.toInt) % ((L a : Nat) : Int)).toNat))) (L a) r (fun j hj => absurd hj (by omega)) ?_ ?_
  · intro n' s hI
    exact br_t (nI_le (Nat.le_refl _) (by omega)) (h _ hI)
  · intro n' i s hi hI k
    refine br_f (nI_ge hi (by omega)) ⟨nI_ne0 (by omega) (by omega), ?_⟩
    have ht := bw_tnb kk (m := L a) (by omega)
    have hm := Nat.mod_lt (i + bw_tn kk (L a)) (y := L a) (by omega)
    rw [nI_add, pk_rem (by omega) (by omega) (by omega)]
    exact bx_elN hP ha s (by omega) (bw_st (B a ((i + bw_tn kk (L a)) % L a)) (by omega) (bw_nar _) (k _ (bw_upd (F := fun j => B a ((((j : Nat) : Int) + kk.toInt) % ((L a : Nat) : Int)).toNat) hI (by rw [bw_rotX kk i (by omega)]))))
theorem bx_shi (hP : bw_P B L e l) {a : Nat} (ha : a < 6) (kk : Int32) (r : Nat → Int32) {post : Int32 → SX → Prop} (h : ∀ r', (∀ i, i < L a → r' i = bw_i (bw_z (B a) (((i : Nat) : Int) + kk.toInt))) → post (nI (L a)) (e, l, r')) : wpX_buildShift post (e, l, r) (nI a) kk := by
  obtain ⟨hL, hl, he, hb⟩ := hP a ha
  unfold wpX_buildShift
  dsimp only
  refine ⟨vp_in_nI ha (by omega), nm_r (e' := nI (L a)) (by rw [nI_clamp (by omega), hl]) ?_⟩
  refine loop_0 (fun n' i s => wX_buildShift_10 post (nI a) kk (nI (L a)) n' (nI i) e l s) (fun i s => ∀ j, j < i → s j = bw_i (bw_z (B a) (((j : Nat) : Int) + kk.toInt))) (L a) r (fun j hj => absurd hj (by omega)) ?_ ?_
  · intro n' s hI
    exact br_t (nI_le (Nat.le_refl _) (by omega)) (h _ hI)
  · intro n' i s hi hI k
    exact br_f (nI_ge hi (by omega)) (bx_el hP ha s ((i : Int) + kk.toInt) (bw_shI i kk (by omega)) (bw_st (bw_z (B a) ((i : Int) + kk.toInt)) (by omega) (bw_nar _) (k _ (bw_upd (F := fun j => bw_z (B a) (((j : Nat) : Int) + kk.toInt)) hI rfl))))
theorem bx_tak (hP : bw_P B L e l) {a : Nat} (ha : a < 6) {n : Nat} (hn : n ≤ 256) (r : Nat → Int32) {post : Int32 → SX → Prop} (h : ∀ r', (∀ i, i < n → r' i = bw_i (B a i)) → post (nI n) (e, l, r')) : wpX_buildTake post (e, l, r) (nI a) (nI n) := by
  unfold wpX_buildTake
  dsimp only
  refine br_f (nI_pos (by omega)) (br_t (nI_le (b := 256) hn (by decide)) ?_)
  refine loop_0 (fun n' i s => wX_buildTake_16 post (nI a) (nI n) n' (nI i) e l s) (fun i s => ∀ j, j < i → s j = bw_i (B a j)) n r (fun j hj => absurd hj (by omega)) ?_ ?_
  · intro n' s hI
    exact br_t (nI_le (Nat.le_refl _) (by omega)) (h _ hI)
  · intro n' i s hi hI k
    exact br_f (nI_ge hi (by omega)) (bx_elN hP ha s (by omega) (bw_st (B a i) (by omega) (bw_nar _) (k _ (bw_upd (F := fun j => B a j) hI rfl))))
theorem bx_str (hP : bw_P B L e l) {a : Nat} (ha : a < 6) {n : Nat} (h0 : 0 < n) (hn : n ≤ 256) (hs : L a * n ≤ 256) (r : Nat → Int32) {post : Int32 → SX → Prop} (h : ∀ r', (∀ i, i < L a * n → r' i = bw_i (B a (i / n))) → post (nI (L a * n)) (e, l, r')) : wpX_buildStretch post (e, l, r) (nI a) (nI n) := by
  obtain ⟨hL, hl, he, hb⟩ := hP a ha
  unfold wpX_buildStretch
  dsimp only
  refine br_f (nI_nlt (b := 1) h0 (by omega)) (br_t (nI_le (b := 256) hn (by decide)) ⟨vp_in_nI ha (by omega), nm_r (e' := nI (L a * n)) (by rw [nI_clamp (by omega), hl, pk_mul]) (br_t (nI_le (b := 256) hs (by decide)) ?_)⟩)
  refine loop_0 (fun n' i s => wX_buildStretch_37 post (nI a) (nI n) (nI (L a * n)) n' (nI i) e l s) (fun i s => ∀ j, j < i → s j = bw_i (B a (j / n))) (L a * n) r (fun j hj => absurd hj (by omega)) ?_ ?_
  · intro n' s hI
    exact br_t (nI_le (Nat.le_refl _) (by omega)) (h _ hI)
  · intro n' i s hi hI k
    refine br_f (nI_ge hi (by omega)) ⟨nI_ne0 h0 (by omega), ?_⟩
    have hd := Nat.div_le_self i n
    rw [pk_div (by omega) h0 (by omega)]
    exact bx_elN hP ha s (by omega) (bw_st (B a (i / n)) (by omega) (bw_nar _) (k _ (bw_upd (F := fun j => B a (j / n)) hI rfl)))

theorem bx_sca (hP : bw_P B L e l) {a : Nat} (ha : a < 6) (r : Nat → Int32) {post : Int32 → SX → Prop} (h : ∀ r', (∀ i, i < L a → r' i = bw_i (decide (bw_cn (B a) (i + 1) = i + 1))) → post (nI (L a)) (e, l, r')) : wpX_buildScanAnd post (e, l, r) (nI a) := by
  obtain ⟨hL, hl, he, hb⟩ := hP a ha
  unfold wpX_buildScanAnd
  dsimp only
  refine ⟨vp_in_nI ha (by omega), nm_r (e' := nI (L a)) (by rw [nI_clamp (by omega), hl]) ?_⟩
  refine loop_0 (fun n' i (s : Int32 × (Nat → Int32)) => wX_buildScanAnd_12 post (nI a) (nI (L a)) n' s.1 (nI i) e l s.2) (fun i s => s.1 = bw_i (decide (bw_cn (B a) i = i)) ∧ ∀ j, j < i → s.2 j = bw_i (decide (bw_cn (B a) (j + 1) = j + 1))) (L a) (bw_i (decide (bw_cn (B a) 0 = 0)), r) ⟨rfl, fun j hj => absurd hj (by omega)⟩ ?_ ?_
  · intro n' s hI
    exact br_t (nI_le (Nat.le_refl _) (by omega)) (h _ hI.2)
  · intro n' i s hi hI k
    obtain ⟨c, s⟩ := s
    obtain ⟨hc, hI⟩ := hI
    dsimp only at hc hI ⊢
    subst hc
    have fin : ∀ b : Bool, b = (decide (bw_cn (B a) (i + 1) = i + 1)) → wX_buildScanAnd_38 post (wX_buildScanAnd_12 post (nI a) (nI (L a)) n') (nI a) (nI (L a)) (nI i) (bw_i b) e l s := by
      intro b hb
      exact bw_st b (by omega) (bw_nar b) (k (bw_i b, upd s i (bw_i b)) ⟨by rw [hb], bw_upd (F := fun j => decide (bw_cn (B a) (j + 1) = j + 1)) hI hb⟩)
    have hle := bw_cn_le (B a) i
    refine br_f (nI_ge hi (by omega)) (bx_elN hP ha s (by omega) ?_)
    refine bw_c (fun z => fin false ?_) (fun z => bw_c (fun y => fin false ?_) (fun y => fin true ?_))
    · rw [bw_cnF z, decide_eq_false (by omega)]
    · have y := of_decide_eq_false y
      rw [bw_cnT z, decide_eq_false (by omega)]
    · have y := of_decide_eq_true y
      rw [bw_cnT z, decide_eq_true (by omega)]
theorem bx_sco (hP : bw_P B L e l) {a : Nat} (ha : a < 6) (r : Nat → Int32) {post : Int32 → SX → Prop} (h : ∀ r', (∀ i, i < L a → r' i = bw_i (decide (0 < bw_cn (B a) (i + 1)))) → post (nI (L a)) (e, l, r')) : wpX_buildScanOr post (e, l, r) (nI a) := by
  obtain ⟨hL, hl, he, hb⟩ := hP a ha
  unfold wpX_buildScanOr
  dsimp only
  refine ⟨vp_in_nI ha (by omega), nm_r (e' := nI (L a)) (by rw [nI_clamp (by omega), hl]) ?_⟩
  refine loop_0 (fun n' i (s : Int32 × (Nat → Int32)) => wX_buildScanOr_12 post (nI a) (nI (L a)) n' s.1 (nI i) e l s.2) (fun i s => s.1 = bw_i (decide (0 < bw_cn (B a) i)) ∧ ∀ j, j < i → s.2 j = bw_i (decide (0 < bw_cn (B a) (j + 1)))) (L a) (bw_i (decide (0 < bw_cn (B a) 0)), r) ⟨rfl, fun j hj => absurd hj (by omega)⟩ ?_ ?_
  · intro n' s hI
    exact br_t (nI_le (Nat.le_refl _) (by omega)) (h _ hI.2)
  · intro n' i s hi hI k
    obtain ⟨c, s⟩ := s
    obtain ⟨hc, hI⟩ := hI
    dsimp only at hc hI ⊢
    subst hc
    have fin : ∀ b : Bool, b = (decide (0 < bw_cn (B a) (i + 1))) → wX_buildScanOr_38 post (wX_buildScanOr_12 post (nI a) (nI (L a)) n') (nI a) (nI (L a)) (nI i) (bw_i b) e l s := by
      intro b hb
      exact bw_st b (by omega) (bw_nar b) (k (bw_i b, upd s i (bw_i b)) ⟨by rw [hb], bw_upd (F := fun j => decide (0 < bw_cn (B a) (j + 1))) hI hb⟩)
    have hle := bw_cn_le (B a) i
    refine br_f (nI_ge hi (by omega)) (bx_elN hP ha s (by omega) ?_)
    refine bw_c (fun z => bw_c (fun y => fin false ?_) (fun y => fin true ?_)) (fun z => fin true ?_)
    · have y := of_decide_eq_false y
      rw [bw_cnF z, decide_eq_false (by omega)]
    · have y := of_decide_eq_true y
      rw [bw_cnF z, decide_eq_true (by omega)]
    · rw [bw_cnT z, decide_eq_true (by omega)]
theorem bx_scx (hP : bw_P B L e l) {a : Nat} (ha : a < 6) (r : Nat → Int32) {post : Int32 → SX → Prop} (h : ∀ r', (∀ i, i < L a → r' i = bw_i (decide (bw_cn (B a) (i + 1) % 2 = 1))) → post (nI (L a)) (e, l, r')) : wpX_buildScanXor post (e, l, r) (nI a) := by
  obtain ⟨hL, hl, he, hb⟩ := hP a ha
  unfold wpX_buildScanXor
  dsimp only
  refine ⟨vp_in_nI ha (by omega), nm_r (e' := nI (L a)) (by rw [nI_clamp (by omega), hl]) ?_⟩
  refine loop_0 (fun n' i (s : Int32 × (Nat → Int32)) => wX_buildScanXor_12 post (nI a) (nI (L a)) n' s.1 (nI i) e l s.2) (fun i s => s.1 = bw_i (decide (bw_cn (B a) i % 2 = 1)) ∧ ∀ j, j < i → s.2 j = bw_i (decide (bw_cn (B a) (j + 1) % 2 = 1))) (L a) (bw_i (decide (bw_cn (B a) 0 % 2 = 1)), r) ⟨rfl, fun j hj => absurd hj (by omega)⟩ ?_ ?_
  · intro n' s hI
    exact br_t (nI_le (Nat.le_refl _) (by omega)) (h _ hI.2)
  · intro n' i s hi hI k
    obtain ⟨c, s⟩ := s
    obtain ⟨hc, hI⟩ := hI
    dsimp only at hc hI ⊢
    subst hc
    have fin : ∀ b : Bool, b = (decide (bw_cn (B a) (i + 1) % 2 = 1)) → wX_buildScanXor_35 post (wX_buildScanXor_12 post (nI a) (nI (L a)) n') (nI a) (nI (L a)) (nI i) (bw_i b) e l s := by
      intro b hb
      exact bw_st b (by omega) (bw_nar b) (k (bw_i b, upd s i (bw_i b)) ⟨by rw [hb], bw_upd (F := fun j => decide (bw_cn (B a) (j + 1) % 2 = 1)) hI hb⟩)
    have hle := bw_cn_le (B a) i
    refine br_f (nI_ge hi (by omega)) (bx_elN hP ha s (by omega) ?_)
    refine bw_ceq (fun z => fin false ?_) (fun z => fin true ?_)
    · cases y : B a i
      · rw [y] at z
        have z := of_decide_eq_false z.symm
        rw [bw_cnF y, decide_eq_false z]
      · rw [y] at z
        have z := of_decide_eq_true z.symm
        rw [bw_cnT y, decide_eq_false (by omega)]
    · cases y : B a i
      · rw [y] at z
        have z2 : bw_cn (B a) i % 2 = 1 := by
          by_cases q : bw_cn (B a) i % 2 = 1
          · exact q
          · exact absurd (decide_eq_false q).symm z
        rw [bw_cnF y, decide_eq_true z2]
      · rw [y] at z
        have z2 : ¬ bw_cn (B a) i % 2 = 1 := fun q => z (decide_eq_true q).symm
        rw [bw_cnT y, decide_eq_true (by omega)]
end
