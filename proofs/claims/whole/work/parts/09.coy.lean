theorem bw_dnM (i : Nat) : nI i - 1 = bw_dn i := by
  rw [← bw_dnS, Int32.sub_eq_add_neg]
section
variable {B : Nat → Nat → Bool} {L : Nat → Nat} {e l : Nat → Int32}
theorem by_cyl (hP : bw_P B L e l) {a b : Nat} (ha : a < 6) (hb : b < 6) (w : Nat → Int32) {post : Int32 → Prop} : ∀ d, d ≤ 256 → post (bw_i (bw_cy (B a) (B b) d)) → wY_carry_5 post (nI a) (nI b) e l w (d + 1) (bw_dn d) := by
  intro d
  induction d with
  | zero => intro _ h; exact br_t (by decide) h
  | succ d ih =>
    intro hd h
    refine br_f (nI_pos (by omega)) (by_elN hP ha w (by omega) (by_elN hP hb w (by omega) (bw_ceq (fun z => by_elN hP ha w (by omega) ⟨bw_narr _, ?_⟩) (fun z => nm_r (bw_dnS d) (ih (by omega) ?_)))))
    · rw [bw_cyE z] at h; exact h
    · rw [bw_cyN z] at h; exact h
theorem by_cy (hP : bw_P B L e l) {a b : Nat} (ha : a < 6) (hb : b < 6) (w : Nat → Int32) {i : Nat} (hi : i ≤ 256) {post : Int32 → Prop} (h : post (bw_i (bw_cy (B a) (B b) i))) : wpY_carry post (e, l, w) (nI a) (nI b) (nI i) := by
  unfold wpY_carry
  dsimp only
  exact nm_r (bw_dnM i) ⟨i + 1, by_cyl hP ha hb w i hi h⟩
theorem by_m0 (hP : bw_P B L e l) {a b : Nat} (ha : a < 6) (hb : b < 6) (w : Nat → Int32) {i : Nat} (hi : i < 256) {post : Int32 → Prop} (h : post (bw_i (bw_op 0 (B a i) (B b i)))) : wpY_mixed post (e, l, w) 0 (nI a) (nI b) (nI i) := by
  rw [bw_op0] at h
  unfold wpY_mixed
  dsimp only
  refine ⟨vp_in_nI ha (by omega), nm_e (by_elN hP ha w (by omega) (by_elN hP hb w (by omega) (br_t rfl (bw_c (fun q => ?_) (fun q => bw_c (fun z => ?_) (fun z => ?_))))))⟩
  · rw [q, Bool.false_and] at h; exact h
  · rw [z, Bool.and_false] at h; exact h
  · rw [q, z] at h; exact h
theorem by_m1 (hP : bw_P B L e l) {a b : Nat} (ha : a < 6) (hb : b < 6) (w : Nat → Int32) {i : Nat} (hi : i < 256) {post : Int32 → Prop} (h : post (bw_i (bw_op 1 (B a i) (B b i)))) : wpY_mixed post (e, l, w) 1 (nI a) (nI b) (nI i) := by
  rw [bw_op1] at h
  unfold wpY_mixed
  dsimp only
  refine ⟨vp_in_nI ha (by omega), nm_e (by_elN hP ha w (by omega) (by_elN hP hb w (by omega) (br_f (by decide) (br_t rfl (bw_c (fun q => bw_c (fun z => ?_) (fun z => ?_)) (fun q => ?_))))))⟩
  · rw [q, z] at h; exact h
  · rw [z, Bool.or_true] at h; exact h
  · rw [q, Bool.true_or] at h; exact h
theorem bw_neF {x y : Bool} (h : x = y) : (x != y) = false := by subst h; cases x <;> rfl
theorem bw_neT {x y : Bool} (h : ¬ x = y) : (x != y) = true := by cases x <;> cases y <;> first | rfl | exact absurd rfl h
theorem by_m2 (hP : bw_P B L e l) {a b : Nat} (ha : a < 6) (hb : b < 6) (w : Nat → Int32) {i : Nat} (hi : i < 256) {post : Int32 → Prop} (h : post (bw_i (bw_op 2 (B a i) (B b i)))) : wpY_mixed post (e, l, w) 2 (nI a) (nI b) (nI i) := by
  rw [bw_op2] at h
  unfold wpY_mixed
  dsimp only
  refine ⟨vp_in_nI ha (by omega), nm_e (by_elN hP ha w (by omega) (by_elN hP hb w (by omega) (br_f (by decide) (br_f (by decide) (br_t rfl (bw_ceq (fun q => ?_) (fun q => ?_)))))))⟩
  · rw [bw_neF q] at h; exact h
  · rw [bw_neT q] at h; exact h
theorem by_m3 (hP : bw_P B L e l) {a b : Nat} (ha : a < 6) (hb : b < 6) (w : Nat → Int32) {i : Nat} (hi : i < 256) {post : Int32 → Prop} (h : post (bw_i ((B a i != B b i) != bw_cy (B a) (B b) i))) : wpY_mixed post (e, l, w) 3 (nI a) (nI b) (nI i) := by
  unfold wpY_mixed
  dsimp only
  have fin : ∀ d : Bool, d = (B a i != B b i) → wY_mixed_114 post (bw_i (bw_cy (B a) (B b) i)) (bw_i d) e l w := by
    intro d hd
    rw [← hd] at h
    refine bw_ceq (fun q => ?_) (fun q => ?_)
    · rw [bw_neF q] at h; exact h
    · rw [bw_neT q] at h; exact h
  exact ⟨vp_in_nI ha (by omega), nm_e (by_elN hP ha w (by omega) (by_elN hP hb w (by omega) (br_f (by decide) (br_f (by decide) (br_f (by decide) (br_t rfl (by_cy hP ha hb w (by omega) (bw_ceq (fun q => fin false (bw_neF q).symm) (fun q => fin true (bw_neT q).symm)))))))))⟩
theorem by_m4 (hP : bw_P B L e l) {a b : Nat} (ha : a < 6) (hb : b < 6) (w : Nat → Int32) {i : Nat} (hi : i < 256) {post : Int32 → Prop} (h : post (bw_i (if i < L a then B a i else B b (i - L a)))) : wpY_mixed post (e, l, w) 4 (nI a) (nI b) (nI i) := by
  have hL := (hP a ha).1
  unfold wpY_mixed
  dsimp only
  refine ⟨vp_in_nI ha (by omega), nm_r (e' := nI (L a)) (by rw [nI_clamp (by omega), (hP a ha).2.1]) (by_elN hP ha w (by omega) (by_elN hP hb w (by omega) (br_f (by decide) (br_f (by decide) (br_f (by decide) (br_f (by decide) (br_t rfl ?_)))))))⟩
  by_cases q : L a ≤ i
  · rw [if_neg (by omega)] at h
    refine br_t (nI_le q (by omega)) ?_
    rw [pk_sub q]
    exact by_elN hP hb w (by omega) ⟨bw_narr _, h⟩
  · rw [if_pos (by omega)] at h
    exact br_f (nI_ge (by omega) (by omega)) ⟨bw_narr _, h⟩
theorem by_m5 (hP : bw_P B L e l) {a b : Nat} (ha : a < 6) (hb : b < 6) (w : Nat → Int32) {i : Nat} (hi : i < 256) {post : Int32 → Prop} (h : post (bw_i (bw_cf (B a) (B b) i))) : wpY_mixed post (e, l, w) 5 (nI a) (nI b) (nI i) := by
  unfold wpY_mixed
  dsimp only
  exact ⟨vp_in_nI ha (by omega), nm_e (by_elN hP ha w (by omega) (by_elN hP hb w (by omega) (br_f (by decide) (br_f (by decide) (br_f (by decide) (br_f (by decide) (br_f (by decide) (br_f (by decide) (br_f (by decide) (by_pl hP ha w (by_el hP hb w _ (Int32.toInt_toInt64 _) ⟨bw_narr _, h⟩)))))))))))⟩
theorem by_m6 (hP : bw_P B L e l) {a b : Nat} (ha : a < 6) (hb : b < 6) (w : Nat → Int32) {i : Nat} (hi : i < 256) {post : Int32 → Prop} (h : post (bw_i (B a i && B b (bw_cn (B a) i)))) : wpY_mixed post (e, l, w) 6 (nI a) (nI b) (nI i) := by
  have hle := bw_cn_le (B a) i
  unfold wpY_mixed
  dsimp only
  refine ⟨vp_in_nI ha (by omega), nm_e (by_elN hP ha w (by omega) (by_elN hP hb w (by omega) (br_f (by decide) (br_f (by decide) (br_f (by decide) (br_f (by decide) (br_f (by decide) (br_t rfl (by_upTo hP ha w (by omega) (bw_c (fun q => ?_) (fun q => ?_)))))))))))⟩
  · rw [q, Bool.false_and] at h; exact h
  · rw [q, Bool.true_and] at h
    rw [bw_cnT q, nI_pred]
    refine by_elN hP hb w (by omega) (bw_c (fun z => ?_) (fun z => ?_))
    · rw [z] at h; exact h
    · rw [z] at h; exact h
theorem bw_div2 {c : Nat} (hc : c < 2 ^ 31) : nI c / 2 = nI (c / 2) := pk_div (d := 2) hc (by decide) (by decide)
theorem by_m7 (hP : bw_P B L e l) {a b : Nat} (ha : a < 6) (hb : b < 6) (w : Nat → Int32) {i : Nat} (hi : i < 256) {post : Int32 → Prop} (h : post (bw_i (if i % 2 = 0 then B a (i / 2) else B b (i / 2)))) : wpY_mixed post (e, l, w) 7 (nI a) (nI b) (nI i) := by
  unfold wpY_mixed
  dsimp only
  refine ⟨vp_in_nI ha (by omega), nm_e (by_elN hP ha w (by omega) (by_elN hP hb w (by omega) (br_f (by decide) (br_f (by decide) (br_f (by decide) (br_f (by decide) (br_f (by decide) (br_f (by decide) (br_t rfl ⟨by decide, ?_⟩)))))))))⟩
  rw [bw_rem2 (by omega), bw_div2 (by omega)]
  by_cases q : i % 2 = 0
  · rw [if_pos q] at h
    exact br_t (by rw [q]; rfl) ⟨by decide, by_elN hP ha w (by omega) ⟨bw_narr _, h⟩⟩
  · rw [if_neg q] at h
    exact br_f (nI_ne0 (by omega) (by omega)) ⟨by decide, by_elN hP hb w (by omega) ⟨bw_narr _, h⟩⟩
theorem by_sz (hP : bw_P B L e l) {a b : Nat} (ha : a < 6) (hb : b < 6) (w : Nat → Int32) {c : Int32} {post : Int32 → Prop}
    (h : ((c = 4 → (((nI (L a) + nI (L b)) ≤ 256 → (post (nI (L a) + nI (L b)))) ∧ (¬ (nI (L a) + nI (L b)) ≤ 256 → (post (-3))))) ∧ (¬ c = 4 → ((c = 6 → ((nI (L b) = nI (bw_cn (B a) 256) → (post (nI (L a)))) ∧ (¬ nI (L b) = nI (bw_cn (B a) 256) → (post (-3))))) ∧ (¬ c = 6 → ((nI (L a) = nI (L b) → ((c = 7 → (((nI (L a) + nI (L b)) ≤ 256 → (post (nI (L a) + nI (L b)))) ∧ (¬ (nI (L a) + nI (L b)) ≤ 256 → (post (-3))))) ∧ (¬ c = 7 → ((c = 5 → (post (nI (bw_cn (B a) 256)))) ∧ (¬ c = 5 → (post (nI (L a)))))))) ∧ (¬ nI (L a) = nI (L b) → (post (-3))))))))) : wpY_size post (e, l, w) c (nI a) (nI b) := by
  unfold wpY_size
  dsimp only
  exact ⟨vp_in_nI ha (by omega), nm_r (e' := nI (L a)) (by rw [nI_clamp (by omega), (hP a ha).2.1]) ⟨vp_in_nI hb (by omega), nm_r (e' := nI (L b)) (by rw [nI_clamp (by omega), (hP b hb).2.1]) (by_upTo (i0 := 255) hP ha w (by decide) h)⟩⟩
theorem by_sE (hP : bw_P B L e l) {a b : Nat} (ha : a < 6) (hb : b < 6) (hE : L b = L a) {c : Int32} (h4 : ¬ c = 4) (h6 : ¬ c = 6) (h7 : ¬ c = 7) (h5 : ¬ c = 5) (w : Nat → Int32) {post : Int32 → Prop} (h : post (nI (L a))) : wpY_size post (e, l, w) c (nI a) (nI b) :=
  by_sz hP ha hb w (br_f h4 (br_f h6 (br_t (by rw [hE]) (br_f h7 (br_f h5 h)))))
theorem by_sEN (hP : bw_P B L e l) {a b : Nat} (ha : a < 6) (hb : b < 6) (hE : ¬ L b = L a) {c : Int32} (h4 : ¬ c = 4) (h6 : ¬ c = 6) (w : Nat → Int32) {post : Int32 → Prop} (h : post (-3)) : wpY_size post (e, l, w) c (nI a) (nI b) := by
  have hL := (hP a ha).1
  have hM := (hP b hb).1
  exact by_sz hP ha hb w (br_f h4 (br_f h6 (br_f (fun z => hE ((nI_eq (by omega) (by omega)).mp z).symm) h)))
theorem by_s4 (hP : bw_P B L e l) {a b : Nat} (ha : a < 6) (hb : b < 6) (hE : L a + L b ≤ 256) (w : Nat → Int32) {post : Int32 → Prop} (h : post (nI (L a + L b))) : wpY_size post (e, l, w) 4 (nI a) (nI b) := by
  refine by_sz hP ha hb w (br_t rfl ?_)
  rw [nI_add]
  exact br_t (nI_le (b := 256) hE (by decide)) h
theorem by_s4N (hP : bw_P B L e l) {a b : Nat} (ha : a < 6) (hb : b < 6) (hE : ¬ L a + L b ≤ 256) (w : Nat → Int32) {post : Int32 → Prop} (h : post (-3)) : wpY_size post (e, l, w) 4 (nI a) (nI b) := by
  have hL := (hP a ha).1
  have hM := (hP b hb).1
  refine by_sz hP ha hb w (br_t rfl ?_)
  rw [nI_add]
  exact br_f (nI_ge (a := 256) (by omega) (by omega)) h
theorem by_s5 (hP : bw_P B L e l) {a b : Nat} (ha : a < 6) (hb : b < 6) (hE : L b = L a) (w : Nat → Int32) {post : Int32 → Prop} (h : post (nI (bw_cn (B a) 256))) : wpY_size post (e, l, w) 5 (nI a) (nI b) :=
  by_sz hP ha hb w (br_f (by decide) (br_f (by decide) (br_t (by rw [hE]) (br_f (by decide) (br_t rfl h)))))
theorem by_s6 (hP : bw_P B L e l) {a b : Nat} (ha : a < 6) (hb : b < 6) (hE : L b = bw_cn (B a) 256) (w : Nat → Int32) {post : Int32 → Prop} (h : post (nI (L a))) : wpY_size post (e, l, w) 6 (nI a) (nI b) :=
  by_sz hP ha hb w (br_f (by decide) (br_t rfl (br_t (by rw [hE]) h)))
theorem by_s6N (hP : bw_P B L e l) {a b : Nat} (ha : a < 6) (hb : b < 6) (hE : ¬ L b = bw_cn (B a) 256) (w : Nat → Int32) {post : Int32 → Prop} (h : post (-3)) : wpY_size post (e, l, w) 6 (nI a) (nI b) := by
  have hM := (hP b hb).1
  have hle := bw_cn_le (B a) 256
  exact by_sz hP ha hb w (br_f (by decide) (br_t rfl (br_f (fun z => hE ((nI_eq (by omega) (by omega)).mp z)) h)))
theorem by_s7 (hP : bw_P B L e l) {a b : Nat} (ha : a < 6) (hb : b < 6) (hE : L b = L a) (hS : L a + L b ≤ 256) (w : Nat → Int32) {post : Int32 → Prop} (h : post (nI (L a + L b))) : wpY_size post (e, l, w) 7 (nI a) (nI b) := by
  refine by_sz hP ha hb w (br_f (by decide) (br_f (by decide) (br_t (by rw [hE]) (br_t rfl ?_))))
  rw [nI_add]
  exact br_t (nI_le (b := 256) hS (by decide)) h
theorem by_s7N (hP : bw_P B L e l) {a b : Nat} (ha : a < 6) (hb : b < 6) (hE : L b = L a) (hS : ¬ L a + L b ≤ 256) (w : Nat → Int32) {post : Int32 → Prop} (h : post (-3)) : wpY_size post (e, l, w) 7 (nI a) (nI b) := by
  have hL := (hP a ha).1
  have hM := (hP b hb).1
  refine by_sz hP ha hb w (br_f (by decide) (br_f (by decide) (br_t (by rw [hE]) (br_t rfl ?_))))
  rw [nI_add]
  exact br_f (nI_ge (a := 256) (by omega) (by omega)) h
theorem by_cmS (hP : bw_P B L e l) {t a b : Nat} (ht : t < 6) (ha : a < 6) (hb : b < 6) {c : Int32} (hc0 : ¬ c < 0) (hc7 : c ≤ 7) {n : Nat} (hn : n ≤ 256) (F : Nat → Bool) (hs : ∀ (w : Nat → Int32) (post : Int32 → Prop), post (nI n) → wpY_size post (e, l, w) c (nI a) (nI b))
    (hF : ∀ (w : Nat → Int32) (i : Nat) (post : Int32 → Prop), i < n → post (bw_i (F i)) → wpY_mixed post (e, l, w) c (nI a) (nI b) (nI i)) (w : Nat → Int32) {post : Int32 → SY → Prop}
    (h : ∀ e' l' w', bw_P (bw_sB B t n F) (bw_sL L t n) e' l' → post (nI n) (e', l', w')) : wpY_combine post (e, l, w) (nI t) c (nI a) (nI b) := by
  unfold wpY_combine
  dsimp only
  refine by_iv ht (br_t rfl (by_iv ha (br_t rfl (by_iv hb (br_t rfl (br_f hc0 (br_t hc7 (hs w _ (br_t (nI_pos' (by omega)) ?_)))))))))
  refine loop_0 (fun n' i s => wY_combine_61 post (nI t) c (nI a) (nI b) (nI n) n' (nI i) e l s) (fun i s => ∀ j, j < i → s j = bw_i (F j)) n w (fun j hj => absurd hj (by omega)) ?_ ?_
  · intro n' s hI
    exact br_t (nI_le (Nat.le_refl _) (by omega)) (by_bec hP ht hn F hI (fun e' l' q => h e' l' s q))
  · intro n' i s hi hI k
    exact br_f (nI_ge hi (by omega)) (hF s i _ hi (bw_st (F i) (by omega) (bw_nar _) (k _ (bw_upd (F := F) hI rfl))))
theorem by_cmN {t a b : Nat} (ht : t < 6) (ha : a < 6) (hb : b < 6) {c : Int32} (hc0 : ¬ c < 0) (hc7 : c ≤ 7) (hs : ∀ (w : Nat → Int32) (post : Int32 → Prop), post (-3) → wpY_size post (e, l, w) c (nI a) (nI b)) (w : Nat → Int32) {post : Int32 → SY → Prop} (h : post (-3) (e, l, w)) : wpY_combine post (e, l, w) (nI t) c (nI a) (nI b) := by
  unfold wpY_combine
  dsimp only
  exact by_iv ht (br_t rfl (by_iv ha (br_t rfl (by_iv hb (br_t rfl (br_f hc0 (br_t hc7 (hs w _ (br_f (by decide) h)))))))))
end
