section
variable {B : Nat → Nat → Bool} {L : Nat → Nat} {e l : Nat → Int32}
theorem bw_rem2 {c : Nat} (hc : c < 2 ^ 31) : nI c - nI c / 2 * 2 = nI (c % 2) := pk_rem (d := 2) hc (by decide) (by decide)
theorem by_e0 (hP : bw_P B L e l) {a : Nat} (ha : a < 6) (k : Int32) (w : Nat → Int32) {i : Nat} (hi : i < 256) {post : Int32 → Prop} (h : post (bw_i (!B a i))) : wpY_element post (e, l, w) 0 (nI a) k (nI i) := by
  unfold wpY_element
  dsimp only
  refine ⟨vp_in_nI ha (by omega), nm_e (br_t rfl (by_elN hP ha w (by omega) (bw_c (fun z => ?_) (fun z => ?_))))⟩
  · rw [z] at h; exact h
  · rw [z] at h; exact h
theorem by_e1 (hP : bw_P B L e l) {a : Nat} (ha : a < 6) (k : Int32) (w : Nat → Int32) {i : Nat} (hi : i < L a) {post : Int32 → Prop} (h : post (bw_i (B a (L a - 1 - i)))) : wpY_element post (e, l, w) 1 (nI a) k (nI i) := by
  obtain ⟨hL, hl, he, hb⟩ := hP a ha
  unfold wpY_element
  dsimp only
  refine ⟨vp_in_nI ha (by omega), nm_r (e' := nI (L a)) (by rw [nI_clamp (by omega), hl]) (br_f (by decide) (br_t rfl ?_))⟩
  rw [bw_m1i hi]
  exact by_elN hP ha w (by omega) ⟨bw_narr _, h⟩
theorem by_e2 (hP : bw_P B L e l) {a : Nat} (ha : a < 6) (k : Int32) (w : Nat → Int32) {i : Nat} (hi : i < L a) {post : Int32 → Prop} (h : post (bw_i (B a ((((i : Nat) : Int) + k.toInt) % ((L a : Nat) : Int)).toNat))) : wpY_element post (e, l, w) 2 (nI a) k (nI i) := by
  obtain ⟨hL, hl, he, hb⟩ := hP a ha
  unfold wpY_element
  dsimp only
  have hm : (nI (L a)).toInt64.toInt = (L a : Int) := by rw [Int32.toInt_toInt64, nI_toInt (by omega)]
  have h0 : ¬ (nI (L a)).toInt64 = 0 := by
    intro q
    rw [q, show (0 : Int64).toInt = 0 from by decide] at hm
    omega
  refine ⟨vp_in_nI ha (by omega), nm_r (e' := nI (L a)) (by rw [nI_clamp (by omega), hl]) (br_f (by decide) (br_f (by decide) (br_t rfl (br_f (nI_nle (by omega) (by omega)) ⟨h0, ?_⟩))))⟩
  intro x ex
  have hx : x.toInt = ((i : Int) + k.toInt).tmod (L a : Int) := by rw [ex, Jvm.Kit.i64_rem, bw_shI i k (by omega), hm]
  have hb2 := tmod_bounds (a := (i : Int) + k.toInt) (M := (L a : Int)) (by omega)
  have hq := bw_tmq ((i : Int) + k.toInt) (L a)
  by_cases c : 0 ≤ x
  · refine br_t c ?_
    rw [Int64.le_iff_toInt_le, show (0 : Int64).toInt = 0 from by decide, hx] at c
    refine by_el hP ha w _ hx ⟨bw_narr _, ?_⟩
    have e1 := bw_emod_of _ hq c hb2.2
    rw [e1] at h
    unfold bw_z
    rw [if_neg (by omega)]
    exact h
  · refine br_f c ?_
    rw [Int64.le_iff_toInt_le, show (0 : Int64).toInt = 0 from by decide, hx] at c
    refine by_el hP ha w (((i : Int) + k.toInt).tmod (L a : Int) + (L a : Int)) ?_ ⟨bw_narr _, ?_⟩
    · rw [Int64.toInt_add, hx, hm]
      exact Int.bmod_eq_of_le (by omega) (by omega)
    · have e1 := bw_emod_of (z := (i : Int) + k.toInt) (r := ((i : Int) + k.toInt).tmod (L a : Int) + (L a : Int)) (m := L a) (((i : Int) + k.toInt).tdiv (L a : Int) - 1) (by rw [Int.mul_sub]; omega) (by omega) (by omega)
      rw [e1] at h
      unfold bw_z
      rw [if_neg (by omega)]
      exact h
theorem by_e3 (hP : bw_P B L e l) {a : Nat} (ha : a < 6) (k : Int32) (w : Nat → Int32) {i : Nat} (hi : i < 256) {post : Int32 → Prop} (h : post (bw_i (bw_z (B a) (((i : Nat) : Int) + k.toInt)))) : wpY_element post (e, l, w) 3 (nI a) k (nI i) := by
  unfold wpY_element
  dsimp only
  exact ⟨vp_in_nI ha (by omega), nm_e (br_f (by decide) (br_f (by decide) (br_f (by decide) (br_t rfl (by_el hP ha w _ (bw_shI i k (by omega)) ⟨bw_narr _, h⟩)))))⟩
theorem by_e4 (hP : bw_P B L e l) {a : Nat} (ha : a < 6) (k : Int32) (w : Nat → Int32) {i : Nat} (hi : i < 256) {post : Int32 → Prop} (h : post (bw_i (B a i))) : wpY_element post (e, l, w) 4 (nI a) k (nI i) := by
  unfold wpY_element
  dsimp only
  exact ⟨vp_in_nI ha (by omega), nm_e (br_f (by decide) (br_f (by decide) (br_f (by decide) (br_f (by decide) (br_t rfl (by_elN hP ha w (by omega) ⟨bw_narr _, h⟩))))))⟩
theorem by_e5 (hP : bw_P B L e l) {a : Nat} (ha : a < 6) {k : Nat} (h0 : 0 < k) (hk : k ≤ 256) (w : Nat → Int32) {i : Nat} (hi : i < 256) {post : Int32 → Prop} (h : post (bw_i (B a (i / k)))) : wpY_element post (e, l, w) 5 (nI a) (nI k) (nI i) := by
  unfold wpY_element
  dsimp only
  have hd := Nat.div_le_self i k
  refine ⟨vp_in_nI ha (by omega), nm_e (br_f (by decide) (br_f (by decide) (br_f (by decide) (br_f (by decide) (br_f (by decide) (br_t rfl (br_f (nI_nle h0 (by omega)) ⟨nI_ne0 h0 (by omega), ?_⟩)))))))⟩
  rw [pk_div (by omega) h0 (by omega)]
  exact by_elN hP ha w (by omega) ⟨bw_narr _, h⟩
theorem by_e6 (hP : bw_P B L e l) {a : Nat} (ha : a < 6) (k : Int32) (w : Nat → Int32) {i : Nat} (hi : i < 256) {post : Int32 → Prop} (h : post (bw_i (decide (bw_cn (B a) (i + 1) = i + 1)))) : wpY_element post (e, l, w) 6 (nI a) k (nI i) := by
  unfold wpY_element
  dsimp only
  have hle := bw_cn_le (B a) (i + 1)
  refine ⟨vp_in_nI ha (by omega), nm_e (br_f (by decide) (br_f (by decide) (br_f (by decide) (br_f (by decide) (br_f (by decide) (br_f (by decide) (by_upTo hP ha w (by omega) (br_t rfl ?_))))))))⟩
  rw [nI_1]
  by_cases q : bw_cn (B a) (i + 1) = i + 1
  · rw [decide_eq_true q] at h
    exact br_t (by rw [q]) h
  · rw [decide_eq_false q] at h
    exact br_f (fun z => q ((nI_eq (by omega) (by omega)).mp z)) h
theorem by_e7 (hP : bw_P B L e l) {a : Nat} (ha : a < 6) (k : Int32) (w : Nat → Int32) {i : Nat} (hi : i < 256) {post : Int32 → Prop} (h : post (bw_i (decide (0 < bw_cn (B a) (i + 1))))) : wpY_element post (e, l, w) 7 (nI a) k (nI i) := by
  unfold wpY_element
  dsimp only
  have hle := bw_cn_le (B a) (i + 1)
  refine ⟨vp_in_nI ha (by omega), nm_e (br_f (by decide) (br_f (by decide) (br_f (by decide) (br_f (by decide) (br_f (by decide) (br_f (by decide) (by_upTo hP ha w (by omega) (br_f (by decide) (br_t rfl ?_)))))))))⟩
  by_cases q : 0 < bw_cn (B a) (i + 1)
  · rw [decide_eq_true q] at h
    exact br_f (nI_nle q (by omega)) h
  · rw [decide_eq_false q] at h
    exact br_t (nI_le (b := 0) (by omega) (by decide)) h
theorem by_e8 (hP : bw_P B L e l) {a : Nat} (ha : a < 6) (k : Int32) (w : Nat → Int32) {i : Nat} (hi : i < 256) {post : Int32 → Prop} (h : post (bw_i (decide (bw_cn (B a) (i + 1) % 2 = 1)))) : wpY_element post (e, l, w) 8 (nI a) k (nI i) := by
  unfold wpY_element
  dsimp only
  have hle := bw_cn_le (B a) (i + 1)
  refine ⟨vp_in_nI ha (by omega), nm_e (br_f (by decide) (br_f (by decide) (br_f (by decide) (br_f (by decide) (br_f (by decide) (br_f (by decide) (by_upTo hP ha w (by omega) (br_f (by decide) (br_f (by decide) ⟨by decide, ?_⟩)))))))))⟩
  rw [bw_rem2 (by omega)]
  by_cases q : bw_cn (B a) (i + 1) % 2 = 1
  · rw [decide_eq_true q] at h
    exact br_t (by rw [q]; rfl) h
  · rw [decide_eq_false q] at h
    exact br_f (fun z => q ((nI_eq (b := 1) (by omega) (by omega)).mp z)) h
theorem by_chl (hP : bw_P B L e l) {t : Nat} (ht : t < 6) {n : Nat} (hn : n ≤ 256) (F : Nat → Bool) {c a k : Int32} (hF : ∀ (w : Nat → Int32) (i : Nat) (post : Int32 → Prop), i < n → post (bw_i (F i)) → wpY_element post (e, l, w) c a k (nI i)) (w : Nat → Int32) {post : Int32 → SY → Prop}
    (h : ∀ e' l' w', bw_P (bw_sB B t n F) (bw_sL L t n) e' l' → post (nI n) (e', l', w')) : ∃ n107 : Nat, wY_change_107 post (nI t) c a k (nI n) n107 0 e l w := by
  refine loop_0 (fun n' i s => wY_change_107 post (nI t) c a k (nI n) n' (nI i) e l s) (fun i s => ∀ j, j < i → s j = bw_i (F j)) n w (fun j hj => absurd hj (by omega)) ?_ ?_
  · intro n' s hI
    exact br_t (nI_le (Nat.le_refl _) (by omega)) (by_bec hP ht hn F hI (fun e' l' q => h e' l' s q))
  · intro n' i s hi hI k
    exact br_f (nI_ge hi (by omega)) (hF s i _ hi (bw_st (F i) (by omega) (bw_nar _) (k _ (bw_upd (F := F) hI rfl))))
end
/-- the class builds n elements F -/
def bw_XS (B : Nat → Nat → Bool) (L : Nat → Nat) (W : (Int32 → SX → Prop) → SX → Prop) (n : Nat) (F : Nat → Bool) : Prop :=
  ∀ (e l r : Nat → Int32) (post : Int32 → SX → Prop), bw_P B L e l → (∀ r', (∀ i, i < n → r' i = bw_i (F i)) → post (nI n) (e, l, r')) → W post (e, l, r)
def bw_XN (B : Nat → Nat → Bool) (L : Nat → Nat) (W : (Int32 → SX → Prop) → SX → Prop) : Prop :=
  ∀ (e l r : Nat → Int32) (post : Int32 → SX → Prop), bw_P B L e l → post (-3) (e, l, r) → W post (e, l, r)
/-- the reference's vector t becomes n elements F -/
def bw_YS (B : Nat → Nat → Bool) (L : Nat → Nat) (W : (Int32 → SY → Prop) → SY → Nat → Prop) (n : Nat) (F : Nat → Bool) : Prop :=
  ∀ (t : Nat) (e l w : Nat → Int32) (post : Int32 → SY → Prop), t < 6 → bw_P B L e l → (∀ e' l' w', bw_P (bw_sB B t n F) (bw_sL L t n) e' l' → post (nI n) (e', l', w')) → W post (e, l, w) t
def bw_YN (B : Nat → Nat → Bool) (L : Nat → Nat) (W : (Int32 → SY → Prop) → SY → Nat → Prop) : Prop :=
  ∀ (t : Nat) (e l w : Nat → Int32) (post : Int32 → SY → Prop), t < 6 → bw_P B L e l → post (-3) (e, l, w) → W post (e, l, w) t
/-- one outcome on both sides -/
def bw_O (B : Nat → Nat → Bool) (L : Nat → Nat) (WX : (Int32 → SX → Prop) → SX → Prop) (WY : (Int32 → SY → Prop) → SY → Nat → Prop) : Prop :=
  (∃ n F, n ≤ 256 ∧ bw_XS B L WX n F ∧ bw_YS B L WY n F) ∨ (bw_XN B L WX ∧ bw_YN B L WY)
