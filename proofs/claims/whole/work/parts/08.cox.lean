def bw_op (c : Nat) (x y : Bool) : Bool := if c = 0 then x && y else if c = 1 then x || y else x != y
theorem bw_op0 (x y : Bool) : bw_op 0 x y = (x && y) := rfl
theorem bw_op1 (x y : Bool) : bw_op 1 x y = (x || y) := rfl
theorem bw_op2 (x y : Bool) : bw_op 2 x y = (x != y) := rfl
theorem bx_op {c : Nat} (hc : c < 3) {x y : Bool} {post : Int32 → Prop} (h : post (bw_i (bw_op c x y))) : wpX_bitwise post (nI c) (bw_i x) (bw_i y) := by
  rcases (by omega : c = 0 ∨ c = 1 ∨ c = 2) with rfl | rfl | rfl
  · exact br_t rfl (bw_c (fun q => by subst q; exact h) (fun q => bw_c (fun z => by subst q; subst z; exact h) (fun z => by subst q; subst z; exact h)))
  · exact br_f (by decide) (br_t rfl (bw_c (fun q => bw_c (fun z => by subst q; subst z; exact h) (fun z => by subst q; subst z; exact h)) (fun q => by subst q; exact h)))
  · refine br_f (by decide) (br_f (by decide) (bw_ceq (fun q => ?_) (fun q => ?_)))
    · subst q; cases x <;> exact h
    · cases x <;> cases y <;> first | exact absurd rfl q | exact h
/-- the carry into place i -/
def bw_cy (f g : Nat → Bool) : Nat → Bool
  | 0 => false
  | i + 1 => if f i = g i then f i else bw_cy f g i
theorem bw_cyE {f g : Nat → Bool} {i : Nat} (h : f i = g i) : bw_cy f g (i + 1) = f i := if_pos h
theorem bw_cyN {f g : Nat → Bool} {i : Nat} (h : ¬ f i = g i) : bw_cy f g (i + 1) = bw_cy f g i := if_neg h
theorem bw_2i (i : Nat) : 2 * nI i = nI (2 * i) := pk_mul 2 i
section
variable {B : Nat → Nat → Bool} {L : Nat → Nat} {e l : Nat → Int32}
theorem bx_bwb (hP : bw_P B L e l) {a b : Nat} (ha : a < 6) (hb : b < 6) (hE : L b = L a) {c : Nat} (hc : c < 3) (r : Nat → Int32) {post : Int32 → SX → Prop} (h : ∀ r', (∀ i, i < L a → r' i = bw_i (bw_op c (B a i) (B b i))) → post (nI (L a)) (e, l, r')) : wpX_buildBitwise post (e, l, r) (nI c) (nI a) (nI b) := by
  have hL := (hP a ha).1
  unfold wpX_buildBitwise
  dsimp only
  refine ⟨vp_in_nI ha (by omega), nm_r (e' := nI (L a)) (by rw [nI_clamp (by omega), (hP a ha).2.1]) ⟨vp_in_nI hb (by omega), br_t (by rw [nI_clamp (by omega), (hP b hb).2.1, hE]) ?_⟩⟩
  refine loop_0 (fun n' i s => wX_buildBitwise_25 post (nI c) (nI a) (nI b) (nI (L a)) n' (nI i) e l s) (fun i s => ∀ j, j < i → s j = bw_i (bw_op c (B a j) (B b j))) (L a) r (fun j hj => absurd hj (by omega)) ?_ ?_
  · intro n' s hI
    exact br_t (nI_le (Nat.le_refl _) (by omega)) (h _ hI)
  · intro n' i s hi hI k
    exact br_f (nI_ge hi (by omega)) (bx_elN hP ha s (by omega) (bx_elN hP hb s (by omega) (bx_op hc (bw_st (bw_op c (B a i) (B b i)) (by omega) (bw_nar _) (k _ (bw_upd (F := fun j => bw_op c (B a j) (B b j)) hI rfl))))))
theorem bx_bwn (hP : bw_P B L e l) {a b : Nat} (ha : a < 6) (hb : b < 6) (hE : ¬ L b = L a) {c : Int32} (r : Nat → Int32) {post : Int32 → SX → Prop} (h : post (-3) (e, l, r)) : wpX_buildBitwise post (e, l, r) c (nI a) (nI b) := by
  have hL := (hP a ha).1
  have hM := (hP b hb).1
  unfold wpX_buildBitwise
  dsimp only
  refine ⟨vp_in_nI ha (by omega), nm_r (e' := nI (L a)) (by rw [nI_clamp (by omega), (hP a ha).2.1]) ⟨vp_in_nI hb (by omega), br_f ?_ h⟩⟩
  rw [nI_clamp (by omega), (hP b hb).2.1, nI_eq (by omega) (by omega)]
  exact hE
theorem bx_pls (hP : bw_P B L e l) {a b : Nat} (ha : a < 6) (hb : b < 6) (hE : L b = L a) (r : Nat → Int32) {post : Int32 → SX → Prop} (h : ∀ r', (∀ i, i < L a → r' i = bw_i ((B a i != B b i) != bw_cy (B a) (B b) i)) → post (nI (L a)) (e, l, r')) : wpX_buildPlus post (e, l, r) (nI a) (nI b) := by
  have hL := (hP a ha).1
  unfold wpX_buildPlus
  dsimp only
  refine ⟨vp_in_nI ha (by omega), nm_r (e' := nI (L a)) (by rw [nI_clamp (by omega), (hP a ha).2.1]) ⟨vp_in_nI hb (by omega), br_t (by rw [nI_clamp (by omega), (hP b hb).2.1, hE]) ?_⟩⟩
  refine loop_0 (fun n' i (s : Int32 × (Nat → Int32)) => wX_buildPlus_26 post (nI a) (nI b) (nI (L a)) n' s.1 (nI i) e l s.2) (fun i s => s.1 = bw_i (bw_cy (B a) (B b) i) ∧ ∀ j, j < i → s.2 j = bw_i ((B a j != B b j) != bw_cy (B a) (B b) j)) (L a) (bw_i (bw_cy (B a) (B b) 0), r) ⟨rfl, fun j hj => absurd hj (by omega)⟩ ?_ ?_
  · intro n' s hI
    exact br_t (nI_le (Nat.le_refl _) (by omega)) (h _ hI.2)
  · intro n' i s hi hI k
    obtain ⟨c, s⟩ := s
    obtain ⟨hc, hI⟩ := hI
    dsimp only at hc hI ⊢
    subst hc
    have fin : ∀ d o : Bool, o = ((B a i != B b i) != bw_cy (B a) (B b) i) → d = (B a i != B b i) → wX_buildPlus_84 post (wX_buildPlus_26 post (nI a) (nI b) (nI (L a)) n') (nI a) (nI b) (nI (L a)) (bw_i (bw_cy (B a) (B b) i)) (nI i) (bw_i (B a i)) (bw_i d) (bw_i o) (nI i) e l s := by
      intro d o ho hd
      refine ⟨vp_in_nI (by omega) (by omega), nm_r (e' := upd s i (bw_i o)) (by rw [nI_clamp (by omega), bw_nar]) (bw_c (fun z => nm_r (nI_1 i) (k (bw_i (B a i), upd s i (bw_i o)) ⟨?_, bw_upd (F := fun j => (B a j != B b j) != bw_cy (B a) (B b) j) hI ho⟩)) (fun z => nm_r (nI_1 i) (k (bw_i (bw_cy (B a) (B b) i), upd s i (bw_i o)) ⟨?_, bw_upd (F := fun j => (B a j != B b j) != bw_cy (B a) (B b) j) hI ho⟩)))⟩
      · have q : B a i = B b i := by
          rw [z] at hd
          cases x : B a i <;> cases y : B b i <;> rw [x, y] at hd <;> first | rfl | exact absurd hd (by decide)
        rw [bw_cyE q]
      · have q : ¬ B a i = B b i := by
          rw [z] at hd
          cases x : B a i <;> cases y : B b i <;> rw [x, y] at hd <;> first | decide | exact absurd hd (by decide)
        rw [bw_cyN q]
    have fin2 : ∀ d : Bool, d = (B a i != B b i) → wX_buildPlus_64 post (wX_buildPlus_26 post (nI a) (nI b) (nI (L a)) n') (nI a) (nI b) (nI (L a)) (bw_i (bw_cy (B a) (B b) i)) (nI i) (bw_i (B a i)) (bw_i d) e l s := by
      intro d hd
      refine bw_ceq (fun z => fin d false ?_ hd) (fun z => fin d true ?_ hd)
      · rw [← hd, z]; cases bw_cy (B a) (B b) i <;> rfl
      · rw [← hd]; revert z; cases d <;> cases bw_cy (B a) (B b) i <;> decide
    refine br_f (nI_ge hi (by omega)) (bx_elN hP ha s (by omega) (bx_elN hP hb s (by omega) (bw_ceq (fun z => fin2 false ?_) (fun z => fin2 true ?_))))
    · rw [z]; cases B b i <;> rfl
    · revert z; cases B a i <;> cases B b i <;> decide
theorem bx_pln (hP : bw_P B L e l) {a b : Nat} (ha : a < 6) (hb : b < 6) (hE : ¬ L b = L a) (r : Nat → Int32) {post : Int32 → SX → Prop} (h : post (-3) (e, l, r)) : wpX_buildPlus post (e, l, r) (nI a) (nI b) := by
  have hL := (hP a ha).1
  have hM := (hP b hb).1
  unfold wpX_buildPlus
  dsimp only
  refine ⟨vp_in_nI ha (by omega), nm_r (e' := nI (L a)) (by rw [nI_clamp (by omega), (hP a ha).2.1]) ⟨vp_in_nI hb (by omega), br_f ?_ h⟩⟩
  rw [nI_clamp (by omega), (hP b hb).2.1, nI_eq (by omega) (by omega)]
  exact hE
theorem bx_joi (hP : bw_P B L e l) {a b : Nat} (ha : a < 6) (hb : b < 6) (hE : L a + L b ≤ 256) (r : Nat → Int32) {post : Int32 → SX → Prop} (h : ∀ r', (∀ i, i < L a + L b → r' i = bw_i (if i < L a then B a i else B b (i - L a))) → post (nI (L a + L b)) (e, l, r')) : wpX_buildJoin post (e, l, r) (nI a) (nI b) := by
  unfold wpX_buildJoin
  dsimp only
  refine ⟨vp_in_nI ha (by omega), nm_r (e' := nI (L a)) (by rw [nI_clamp (by omega), (hP a ha).2.1]) ⟨vp_in_nI hb (by omega), nm_r (e' := nI (L a + L b)) (by rw [nI_clamp (by omega), (hP b hb).2.1, nI_add]) (br_t (nI_le (b := 256) hE (by decide)) ?_)⟩⟩
  refine loop_0 (fun n' i s => wX_buildJoin_31 post (nI a) (nI b) (nI (L a)) (nI (L a + L b)) n' (nI i) e l s) (fun i s => ∀ j, j < i → s j = bw_i (if j < L a then B a j else B b (j - L a))) (L a + L b) r (fun j hj => absurd hj (by omega)) ?_ ?_
  · intro n' s hI
    exact br_t (nI_le (Nat.le_refl _) (by omega)) (h _ hI)
  · intro n' i s hi hI k
    refine br_f (nI_ge hi (by omega)) ?_
    by_cases q : L a ≤ i
    · refine br_t (nI_le q (by omega)) ?_
      rw [pk_sub q]
      exact bx_elN hP hb s (by omega) (bw_st (B b (i - L a)) (by omega) (bw_nar _) (k _ (bw_upd (F := fun j => if j < L a then B a j else B b (j - L a)) hI (if_neg (by omega)).symm)))
    · exact br_f (nI_ge (by omega) (by omega)) (bx_elN hP ha s (by omega) (bw_st (B a i) (by omega) (bw_nar _) (k _ (bw_upd (F := fun j => if j < L a then B a j else B b (j - L a)) hI (if_pos (by omega)).symm))))
theorem bx_jon (hP : bw_P B L e l) {a b : Nat} (ha : a < 6) (hb : b < 6) (hE : ¬ L a + L b ≤ 256) (r : Nat → Int32) {post : Int32 → SX → Prop} (h : post (-3) (e, l, r)) : wpX_buildJoin post (e, l, r) (nI a) (nI b) := by
  have hL := (hP a ha).1
  have hM := (hP b hb).1
  unfold wpX_buildJoin
  dsimp only
  exact ⟨vp_in_nI ha (by omega), nm_r (e' := nI (L a)) (by rw [nI_clamp (by omega), (hP a ha).2.1]) ⟨vp_in_nI hb (by omega), nm_r (e' := nI (L a + L b)) (by rw [nI_clamp (by omega), (hP b hb).2.1, nI_add]) (br_f (nI_ge (a := 256) (by omega) (by omega)) h)⟩⟩
/-- COMPRESS: the element of b at the place of the j-th true one of a -/
def bw_cf (f g : Nat → Bool) (j : Nat) : Bool := bw_z g (bw_pl f (nI j) 256 0).toInt
theorem bw_cfA {f g : Nat → Bool} {i : Nat} (hi : i < 256) (hf : f i = true) : bw_cf f g (bw_cn f i) = g i := by
  unfold bw_cf
  rw [bw_pl_at hf (by omega) 256 0 (by omega) (by omega), nI_toInt (by omega), bw_zN]
theorem bx_com (hP : bw_P B L e l) {a b : Nat} (ha : a < 6) (hb : b < 6) (hE : L b = L a) (r : Nat → Int32) {post : Int32 → SX → Prop} (h : ∀ r', (∀ i, i < bw_cn (B a) 256 → r' i = bw_i (bw_cf (B a) (B b) i)) → post (nI (bw_cn (B a) 256)) (e, l, r')) : wpX_buildCompress post (e, l, r) (nI a) (nI b) := by
  have hL := (hP a ha).1
  unfold wpX_buildCompress
  dsimp only
  refine ⟨vp_in_nI ha (by omega), nm_r (e' := nI (L a)) (by rw [nI_clamp (by omega), (hP a ha).2.1]) ⟨vp_in_nI hb (by omega), br_t (by rw [nI_clamp (by omega), (hP b hb).2.1, hE]) ?_⟩⟩
  have eN : bw_cn (B a) 256 = bw_cn (B a) (L a) := bw_cn_end hL (fun i h1 _ => (hP a ha).2.2.2 i h1)
  rw [eN] at h
  refine loop_0 (fun n' i (s : Int32 × (Nat → Int32)) => wX_buildCompress_26 post (nI a) (nI b) (nI (L a)) n' s.1 (nI i) e l s.2) (fun i s => s.1 = nI (bw_cn (B a) i) ∧ ∀ j, j < bw_cn (B a) i → s.2 j = bw_i (bw_cf (B a) (B b) j)) (L a) (nI 0, r) ⟨rfl, fun j hj => absurd hj (Nat.not_lt_zero j)⟩ ?_ ?_
  · intro n' s hI
    obtain ⟨c, s⟩ := s
    obtain ⟨hc, hI⟩ := hI
    dsimp only at hc hI ⊢
    subst hc
    exact br_t (nI_le (Nat.le_refl _) (by omega)) (h _ hI)
  · intro n' i s hi hI k
    obtain ⟨c, s⟩ := s
    obtain ⟨hc, hI⟩ := hI
    dsimp only at hc hI ⊢
    subst hc
    have hle := bw_cn_le (B a) i
    refine br_f (nI_ge hi (by omega)) (bx_elN hP ha s (by omega) (bw_c (fun z => nm_r (nI_1 i) (k (nI (bw_cn (B a) i), s) ?_)) (fun z => bx_elN hP hb s (by omega) ⟨vp_in_nI (by omega) (by omega), nm_r (e' := upd s (bw_cn (B a) i) (bw_i (B b i))) (by rw [nI_clamp (by omega), bw_nar]) (nm_r (nI_1 _) (nm_r (nI_1 i) (k (nI (bw_cn (B a) i + 1), upd s (bw_cn (B a) i) (bw_i (B b i))) ?_)))⟩)))
    · rw [bw_cnF z]
      exact ⟨rfl, hI⟩
    · rw [bw_cnT z]
      exact ⟨rfl, bw_upd (F := fun j => bw_cf (B a) (B b) j) hI (bw_cfA (by omega) z).symm⟩
theorem bx_con (hP : bw_P B L e l) {a b : Nat} (ha : a < 6) (hb : b < 6) (hE : ¬ L b = L a) (r : Nat → Int32) {post : Int32 → SX → Prop} (h : post (-3) (e, l, r)) : wpX_buildCompress post (e, l, r) (nI a) (nI b) := by
  have hL := (hP a ha).1
  have hM := (hP b hb).1
  unfold wpX_buildCompress
  dsimp only
  refine ⟨vp_in_nI ha (by omega), nm_r (e' := nI (L a)) (by rw [nI_clamp (by omega), (hP a ha).2.1]) ⟨vp_in_nI hb (by omega), br_f ?_ h⟩⟩
  rw [nI_clamp (by omega), (hP b hb).2.1, nI_eq (by omega) (by omega)]
  exact hE
theorem bx_ctA (hP : bw_P B L e l) {a : Nat} (ha : a < 6) (r : Nat → Int32) {post : Int32 → Prop} (h : post (nI (bw_cn (B a) 256))) : wpX_countTrue post (e, l, r) (nI a) 0 (nI (L a) - 1) := by
  have hL := (hP a ha).1
  refine bx_cnt (first := 0) hP ha r (by decide) hL (last := nI (L a) - 1) ?_ ?_
  · intro i hi
    by_cases q : L a = 0
    · rw [q, show nI 0 - 1 = -1 from by decide, Int32.lt_iff_toInt_lt, nI_toInt hi, show (-1 : Int32).toInt = -1 from by decide]
      omega
    · rw [show nI (L a) - 1 = nI (L a - 1) from by
        rw [show L a = (L a - 1) + 1 from by omega, nI_pred]
        rfl, nI_ltI (by omega) hi]
      omega
  · rw [bw_cn_congr (g := B a) (fun i _ => ?_)]
    · exact h
    · rw [decide_eq_true (p := 0 ≤ i) (by omega), Bool.true_and]
      by_cases q : i < L a
      · rw [decide_eq_true q, Bool.true_and]
      · rw [decide_eq_false q, Bool.false_and, (hP a ha).2.2.2 i (by omega)]
theorem bx_exp (hP : bw_P B L e l) {a b : Nat} (ha : a < 6) (hb : b < 6) (hE : L b = bw_cn (B a) 256) (r : Nat → Int32) {post : Int32 → SX → Prop} (h : ∀ r', (∀ i, i < L a → r' i = bw_i (B a i && B b (bw_cn (B a) i))) → post (nI (L a)) (e, l, r')) : wpX_buildExpand post (e, l, r) (nI a) (nI b) := by
  have hL := (hP a ha).1
  unfold wpX_buildExpand
  dsimp only
  refine ⟨vp_in_nI ha (by omega), nm_r (e' := nI (L a)) (by rw [nI_clamp (by omega), (hP a ha).2.1]) (bx_ctA hP ha r ⟨vp_in_nI hb (by omega), br_t (by rw [nI_clamp (by omega), (hP b hb).2.1, hE]) ?_⟩)⟩
  refine loop_0 (fun n' i (s : Int32 × (Nat → Int32)) => wX_buildExpand_38 post (nI a) (nI b) (nI (L a)) n' s.1 (nI i) e l s.2) (fun i s => s.1 = nI (bw_cn (B a) i) ∧ ∀ j, j < i → s.2 j = bw_i (B a j && B b (bw_cn (B a) j))) (L a) (nI 0, r) ⟨rfl, fun j hj => absurd hj (Nat.not_lt_zero j)⟩ ?_ ?_
  · intro n' s hI
    exact br_t (nI_le (Nat.le_refl _) (by omega)) (h _ hI.2)
  · intro n' i s hi hI k
    obtain ⟨c, s⟩ := s
    obtain ⟨hc, hI⟩ := hI
    dsimp only at hc hI ⊢
    subst hc
    have hle := bw_cn_le (B a) i
    refine br_f (nI_ge hi (by omega)) ⟨vp_in_nI (by omega) (by omega), nm_r (e' := upd s i (bw_i false)) (by rw [nI_clamp (by omega), bw_nar0]) (bx_elN hP ha _ (by omega) (bw_c (fun z => nm_r (nI_1 i) (k (nI (bw_cn (B a) i), upd s i (bw_i false)) ⟨?_, ?_⟩)) (fun z => bx_elN hP hb _ (by omega) ⟨vp_in_nI (by omega) (by omega), nm_r (e' := upd (upd s i (bw_i false)) i (bw_i (B b (bw_cn (B a) i)))) (by rw [nI_clamp (by omega), bw_nar]) (nm_r (nI_1 _) (nm_r (nI_1 i) (k (nI (bw_cn (B a) i + 1), upd (upd s i (bw_i false)) i (bw_i (B b (bw_cn (B a) i)))) ⟨?_, ?_⟩)))⟩)))⟩
    · rw [bw_cnF z]
    · exact bw_upd (F := fun j => B a j && B b (bw_cn (B a) j)) hI (by rw [z, Bool.false_and])
    · rw [bw_cnT z]
    · refine bw_upd (F := fun j => B a j && B b (bw_cn (B a) j)) (fun j hj => ?_) (by rw [z, Bool.true_and])
      rw [pk_un (by omega)]
      exact hI j hj
theorem bx_exn (hP : bw_P B L e l) {a b : Nat} (ha : a < 6) (hb : b < 6) (hE : ¬ L b = bw_cn (B a) 256) (r : Nat → Int32) {post : Int32 → SX → Prop} (h : post (-3) (e, l, r)) : wpX_buildExpand post (e, l, r) (nI a) (nI b) := by
  have hM := (hP b hb).1
  have hle := bw_cn_le (B a) 256
  unfold wpX_buildExpand
  dsimp only
  refine ⟨vp_in_nI ha (by omega), nm_r (e' := nI (L a)) (by rw [nI_clamp (by omega), (hP a ha).2.1]) (bx_ctA hP ha r ⟨vp_in_nI hb (by omega), br_f ?_ h⟩)⟩
  rw [nI_clamp (by omega), (hP b hb).2.1, nI_eq (by omega) (by omega)]
  exact hE
theorem bx_mes (hP : bw_P B L e l) {a b : Nat} (ha : a < 6) (hb : b < 6) (hE : L b = L a) (hS : L a + L b ≤ 256) (r : Nat → Int32) {post : Int32 → SX → Prop} (h : ∀ r', (∀ i, i < L a + L b → r' i = bw_i (if i % 2 = 0 then B a (i / 2) else B b (i / 2))) → post (nI (L a + L b)) (e, l, r')) : wpX_buildMesh post (e, l, r) (nI a) (nI b) := by
  unfold wpX_buildMesh
  dsimp only
  refine ⟨vp_in_nI ha (by omega), nm_r (e' := nI (L a)) (by rw [nI_clamp (by omega), (hP a ha).2.1]) ⟨vp_in_nI hb (by omega), nm_r (e' := nI (L a + L b)) (by rw [nI_clamp (by omega), (hP b hb).2.1, nI_add]) ⟨vp_in_nI hb (by omega), br_t (by rw [nI_clamp (by omega), (hP b hb).2.1, hE]) (br_t (nI_le (b := 256) hS (by decide)) ?_)⟩⟩⟩
  refine loop_0 (fun n' i s => wX_buildMesh_41 post (nI a) (nI b) (nI (L a)) (nI (L a + L b)) n' (nI i) e l s) (fun i s => ∀ j, j < 2 * i → s j = bw_i (if j % 2 = 0 then B a (j / 2) else B b (j / 2))) (L a) r (fun j hj => absurd hj (by omega)) ?_ ?_
  · intro n' s hI
    exact br_t (nI_le (Nat.le_refl _) (by omega)) (h _ (fun i hi => hI i (by omega)))
  · intro n' i s hi hI k
    refine br_f (nI_ge hi (by omega)) ?_
    rw [bw_2i, nI_1]
    refine bx_elN hP ha s (by omega) ⟨vp_in_nI (by omega) (by omega), nm_r (e' := upd s (2 * i) (bw_i (B a i))) (by rw [nI_clamp (by omega), bw_nar]) (bx_elN hP hb _ (by omega) ⟨vp_in_nI (by omega) (by omega), nm_r (e' := upd (upd s (2 * i) (bw_i (B a i))) (2 * i + 1) (bw_i (B b i))) (by rw [nI_clamp (by omega), bw_nar]) (nm_r (nI_1 i) (k _ ?_))⟩)⟩
    have h1 := bw_upd (F := fun j => if j % 2 = 0 then B a (j / 2) else B b (j / 2)) (b := B a i) hI (by
      rw [if_pos (by omega), show 2 * i / 2 = i from by omega])
    have h2 := bw_upd (F := fun j => if j % 2 = 0 then B a (j / 2) else B b (j / 2)) (i := 2 * i + 1) (b := B b i) h1 (by
      rw [if_neg (by omega), show (2 * i + 1) / 2 = i from by omega])
    exact fun j hj => h2 j (by omega)
theorem bx_men (hP : bw_P B L e l) {a b : Nat} (ha : a < 6) (hb : b < 6) (hE : ¬ L b = L a ∨ ¬ L a + L b ≤ 256) (r : Nat → Int32) {post : Int32 → SX → Prop} (h : post (-3) (e, l, r)) : wpX_buildMesh post (e, l, r) (nI a) (nI b) := by
  have hL := (hP a ha).1
  have hM := (hP b hb).1
  unfold wpX_buildMesh
  dsimp only
  refine ⟨vp_in_nI ha (by omega), nm_r (e' := nI (L a)) (by rw [nI_clamp (by omega), (hP a ha).2.1]) ⟨vp_in_nI hb (by omega), nm_r (e' := nI (L a + L b)) (by rw [nI_clamp (by omega), (hP b hb).2.1, nI_add]) ⟨vp_in_nI hb (by omega), ?_⟩⟩⟩
  rw [nI_clamp (by omega), (hP b hb).2.1, nI_eq (by omega) (by omega)]
  exact br_c (fun z => br_f (nI_ge (a := 256) (by omega) (by omega)) h) (fun _ => h)
end
