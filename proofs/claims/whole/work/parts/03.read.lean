/-- how many of the first n are true -/
def bw_cn (f : Nat → Bool) : Nat → Nat
  | 0 => 0
  | n + 1 => bw_cn f n + (if f n = true then 1 else 0)
theorem bw_cnT {f : Nat → Bool} {n : Nat} (h : f n = true) : bw_cn f (n + 1) = bw_cn f n + 1 := by
  show bw_cn f n + (if f n = true then 1 else 0) = _
  rw [if_pos h]
theorem bw_cnF {f : Nat → Bool} {n : Nat} (h : f n = false) : bw_cn f (n + 1) = bw_cn f n := by
  show bw_cn f n + (if f n = true then 1 else 0) = _
  rw [if_neg (by rw [h]; decide)]
  rfl
theorem bw_cn_le (f : Nat → Bool) (n : Nat) : bw_cn f n ≤ n := by
  induction n with
  | zero => exact Nat.le_refl _
  | succ n ih =>
    cases h : f n
    · rw [bw_cnF h]; omega
    · rw [bw_cnT h]; omega
theorem bw_cn_congr {f g : Nat → Bool} {n : Nat} (h : ∀ i, i < n → f i = g i) : bw_cn f n = bw_cn g n := by
  induction n with
  | zero => rfl
  | succ n ih =>
    have e := ih (fun i hi => h i (by omega))
    cases hf : f n
    · rw [bw_cnF hf, bw_cnF (by rw [← h n (by omega)]; exact hf), e]
    · rw [bw_cnT hf, bw_cnT (by rw [← h n (by omega)]; exact hf), e]
theorem bw_cn_mono (f : Nat → Bool) {a b : Nat} (h : a ≤ b) : bw_cn f a ≤ bw_cn f b := by
  induction b with
  | zero => obtain rfl : a = 0 := by omega
            exact Nat.le_refl _
  | succ b ih =>
    by_cases q : a = b + 1
    · subst q; exact Nat.le_refl _
    · have := ih (by omega)
      cases hf : f b
      · rw [bw_cnF hf]; omega
      · rw [bw_cnT hf]; omega
theorem bw_cn_0 {f : Nat → Bool} {a : Nat} (h : ∀ i, i < a → f i = false) : bw_cn f a = 0 := by
  induction a with
  | zero => rfl
  | succ a ih => rw [bw_cnF (h a (by omega))]; exact ih (fun i hi => h i (by omega))
theorem bw_cn_end {f : Nat → Bool} {a b : Nat} (hab : a ≤ b) (h : ∀ i, a ≤ i → i < b → f i = false) : bw_cn f b = bw_cn f a := by
  induction b with
  | zero => obtain rfl : a = 0 := by omega
            rfl
  | succ b ih =>
    by_cases q : a = b + 1
    · subst q; rfl
    · rw [bw_cnF (h b (by omega) (by omega))]
      exact ih (by omega) (fun i h1 h2 => h i h1 (by omega))
/-- all of them from i on, k in a row -/
def bw_all (f : Nat → Bool) (i k : Nat) : Prop := ∀ j, i ≤ j → j < i + k → f j = true
theorem bw_cn_win {f : Nat → Bool} (i k : Nat) (n : Nat) : ∀ d, d ≤ k → i + d ≤ n → bw_cn (fun j => decide (i ≤ j) && decide (j < i + d) && f j) n ≤ d ∧ (bw_cn (fun j => decide (i ≤ j) && decide (j < i + d) && f j) n = d ↔ bw_all f i d) := by
  intro d
  induction d with
  | zero =>
    intro _ _
    have e : bw_cn (fun j => decide (i ≤ j) && decide (j < i + 0) && f j) n = 0 := bw_cn_0 (fun j _ => by
      by_cases h : i ≤ j
      · rw [decide_eq_false (p := j < i + 0) (by omega), Bool.and_false, Bool.false_and]
      · rw [decide_eq_false (p := i ≤ j) h, Bool.false_and, Bool.false_and])
    rw [e]
    exact ⟨Nat.le_refl _, fun _ j h1 h2 => absurd h2 (by omega), fun _ => rfl⟩
  | succ d ih =>
    intro hd hn
    have ih := ih (by omega) (by omega)
    have e1 : bw_cn (fun j => decide (i ≤ j) && decide (j < i + (d + 1)) && f j) n = bw_cn (fun j => decide (i ≤ j) && decide (j < i + (d + 1)) && f j) (i + d + 1) := bw_cn_end (by omega) (fun j h1 h2 => by
      rw [decide_eq_false (p := j < i + (d + 1)) (by omega), Bool.and_false, Bool.false_and])
    have e2 : bw_cn (fun j => decide (i ≤ j) && decide (j < i + d) && f j) n = bw_cn (fun j => decide (i ≤ j) && decide (j < i + d) && f j) (i + d) := bw_cn_end (by omega) (fun j h1 h2 => by
      rw [decide_eq_false (p := j < i + d) (by omega), Bool.and_false, Bool.false_and])
    have e3 : bw_cn (fun j => decide (i ≤ j) && decide (j < i + (d + 1)) && f j) (i + d) = bw_cn (fun j => decide (i ≤ j) && decide (j < i + d) && f j) (i + d) := bw_cn_congr (fun j hj => by
      rw [decide_eq_true (p := j < i + (d + 1)) (by omega), decide_eq_true (p := j < i + d) (by omega)])
    rw [e2] at ih
    rw [e1]
    cases hf : f (i + d)
    · rw [bw_cnF (by rw [hf, Bool.and_false]), e3]
      refine ⟨by omega, fun q => absurd q (by omega), fun q => ?_⟩
      have := q (i + d) (by omega) (by omega)
      rw [hf] at this
      exact absurd this (by decide)
    · rw [bw_cnT (by rw [hf, Bool.and_true, decide_eq_true (p := i ≤ i + d) (by omega), decide_eq_true (p := i + d < i + (d + 1)) (by omega)]; rfl), e3]
      refine ⟨by omega, fun q j h1 h2 => ?_, fun q => ?_⟩
      · by_cases z : j = i + d
        · subst z; exact hf
        · exact ih.2.mp (by omega) j h1 (by omega)
      · have := ih.2.mpr (fun j h1 h2 => q j h1 (by omega))
        omega
section
variable {B : Nat → Nat → Bool} {L : Nat → Nat} {e l : Nat → Int32}
theorem bx_cnt (hP : bw_P B L e l) {v : Nat} (hv : v < 6) (w : Nat → Int32) {first b : Nat} (hf : first < 2 ^ 31) (hb : b ≤ 256) {last : Int32} (hl : ∀ i : Nat, i < 2 ^ 31 → (last < nI i ↔ b ≤ i)) {post : Int32 → Prop}
    (h : post (nI (bw_cn (fun i => decide (first ≤ i) && decide (i < b) && B v i) 256))) : wpX_countTrue post (e, l, w) (nI v) (nI first) last := by
  unfold wpX_countTrue
  dsimp only
  by_cases q : b ≤ first
  · refine ⟨1, br_t ((hl first hf).mpr q) ?_⟩
    rw [bw_cn_0 (fun i _ => by
      by_cases z : first ≤ i
      · rw [decide_eq_false (p := i < b) (by omega), Bool.and_false, Bool.false_and]
      · rw [decide_eq_false (p := first ≤ i) z, Bool.false_and, Bool.false_and])] at h
    exact h
  · refine pk_loop (fun n' i (s : Int32) => wX_countTrue_6 post (nI v) last e l w n' s (nI i)) (fun i s => first ≤ i ∧ s = nI (bw_cn (fun i => decide (first ≤ i) && decide (i < b) && B v i) i)) b first 0 (by omega) ⟨Nat.le_refl _, ?_⟩ ?_ ?_
    · rw [bw_cn_0 (fun i hi => by rw [decide_eq_false (p := first ≤ i) (by omega), Bool.false_and, Bool.false_and])]
      rfl
    · intro n' s hI
      refine br_t ((hl b (by omega)).mpr (Nat.le_refl _)) ?_
      rw [hI.2, ← bw_cn_end (b := 256) hb (fun i h1 h2 => by rw [decide_eq_false (p := i < b) (by omega), Bool.and_false, Bool.false_and])]
      exact h
    · intro n' i s hi hI k
      refine br_f (fun z => absurd ((hl i (by omega)).mp z) (by omega)) (bx_elN hP hv w (by omega) (bw_c (fun z => nm_r (nI_1 i) (k _ ⟨by omega, ?_⟩)) (fun z => nm_r (e' := nI (bw_cn (fun i => decide (first ≤ i) && decide (i < b) && B v i) i + 1)) ?_ (nm_r (nI_1 i) (k _ ⟨by omega, ?_⟩)))))
      · rw [hI.2, bw_cnF (by rw [z, Bool.and_false])]
      · rw [hI.2, nI_1]
      · rw [bw_cnT (by rw [z, Bool.and_true, decide_eq_true (p := first ≤ i) hI.1, decide_eq_true (p := i < b) hi]; rfl)]
theorem by_upTo (hP : bw_P B L e l) {v : Nat} (hv : v < 6) (w : Nat → Int32) {i0 : Nat} (hi0 : i0 < 2 ^ 30) {post : Int32 → Prop} (h : post (nI (bw_cn (B v) (i0 + 1)))) : wpY_upTo post (e, l, w) (nI v) (nI i0) := by
  unfold wpY_upTo
  dsimp only
  refine loop_0 (fun n' i (s : Int32) => wY_upTo_5 post (nI v) (nI i0) e l w n' s (nI i)) (fun i s => s = nI (bw_cn (B v) i)) (i0 + 1) 0 rfl ?_ ?_
  · intro n' s hI
    refine br_t (nI_lt (by omega) (by omega)) ?_
    rw [hI]
    exact h
  · intro n' i s hi hI k
    refine br_f (nI_nlt (by omega) (by omega)) (by_elN hP hv w (by omega) (bw_c (fun z => nm_r (nI_1 i) (k _ ?_)) (fun z => nm_r (e' := nI (bw_cn (B v) i + 1)) ?_ (nm_r (nI_1 i) (k _ ?_)))))
    · rw [hI, bw_cnF z]
    · rw [hI, nI_1]
    · rw [bw_cnT z]
/-- what count answers -/
def bw_ct (f : Nat → Bool) (a b : Int) : Nat := bw_cn (fun i => decide (a ≤ (i : Int)) && decide ((i : Int) ≤ b) && f i) 256
theorem bw_nlt (i : Nat) (x : Int32) (hi : i < 2 ^ 31) : nI i < x ↔ (i : Int) < x.toInt := by rw [Int32.lt_iff_toInt_lt, nI_toInt hi]
theorem bw_ltn (i : Nat) (x : Int32) (hi : i < 2 ^ 31) : x < nI i ↔ x.toInt < (i : Int) := by rw [Int32.lt_iff_toInt_lt, nI_toInt hi]
theorem by_cnt (hP : bw_P B L e l) {v : Nat} (hv : v < 6) (w : Nat → Int32) {a b : Int32} {post : Int32 → Prop} (h : post (nI (bw_ct (B v) a.toInt b.toInt))) : wpY_count post (e, l, w) (nI v) a b := by
  unfold wpY_count
  dsimp only
  refine by_iv hv (br_t rfl ?_)
  refine loop_0 (fun n' i (s : Int32) => wY_count_16 post (nI v) a b e l w n' s (nI i)) (fun i s => s = nI (bw_cn (fun i => decide (a.toInt ≤ (i : Int)) && decide ((i : Int) ≤ b.toInt) && B v i) i)) 256 0 rfl ?_ ?_
  · intro n' s hI
    refine br_t (nI_le (a := 256) (Nat.le_refl _) (by omega)) ?_
    rw [hI]
    exact h
  · intro n' i s hi hI k
    refine br_f (nI_ge (b := 256) hi (by omega)) ?_
    by_cases h1 : nI i < a
    · refine br_t h1 (nm_r (nI_1 i) (k _ ?_))
      rw [bw_nlt i a (by omega)] at h1
      rw [hI, bw_cnF (by rw [decide_eq_false (p := a.toInt ≤ (i : Int)) (by omega), Bool.false_and, Bool.false_and])]
    · refine br_f h1 ?_
      by_cases h2 : b < nI i
      · refine br_t h2 (nm_r (nI_1 i) (k _ ?_))
        rw [bw_ltn i b (by omega)] at h2
        rw [hI, bw_cnF (by rw [decide_eq_false (p := (i : Int) ≤ b.toInt) (by omega), Bool.and_false, Bool.false_and])]
      · refine br_f h2 (by_elN hP hv w (by omega) (bw_c (fun z => nm_r (nI_1 i) (k _ ?_)) (fun z => nm_r (e' := nI (bw_cn (fun i => decide (a.toInt ≤ (i : Int)) && decide ((i : Int) ≤ b.toInt) && B v i) i + 1)) ?_ (nm_r (nI_1 i) (k _ ?_)))))
        · rw [hI, bw_cnF (by rw [z, Bool.and_false])]
        · rw [hI, nI_1]
        · rw [bw_nlt i a (by omega)] at h1
          rw [bw_ltn i b (by omega)] at h2
          rw [bw_cnT (by rw [z, Bool.and_true, decide_eq_true (p := a.toInt ≤ (i : Int)) (by omega), decide_eq_true (p := (i : Int) ≤ b.toInt) (by omega)]; rfl)]
/-- what place answers: the search from i on, d places more -/
def bw_pl (f : Nat → Bool) (q : Int32) : Nat → Nat → Int32
  | 0, _ => -4
  | d + 1, i => if f i = true then (if nI (bw_cn f i) = q then nI i else bw_pl f q d (i + 1)) else bw_pl f q d (i + 1)
theorem bw_plF {f : Nat → Bool} {q : Int32} {d i : Nat} (h : f i = false) : bw_pl f q (d + 1) i = bw_pl f q d (i + 1) := if_neg (by rw [h]; decide)
theorem bw_plT {f : Nat → Bool} {q : Int32} {d i : Nat} (h : f i = true) (h2 : nI (bw_cn f i) = q) : bw_pl f q (d + 1) i = nI i := by
  show (if f i = true then _ else _) = _
  rw [if_pos h, if_pos h2]
theorem bw_plN {f : Nat → Bool} {q : Int32} {d i : Nat} (h : f i = true) (h2 : ¬ nI (bw_cn f i) = q) : bw_pl f q (d + 1) i = bw_pl f q d (i + 1) := by
  show (if f i = true then _ else _) = _
  rw [if_pos h, if_neg h2]
theorem bw_pl_none {f : Nat → Bool} {q : Int32} : ∀ d i, (∀ j, i ≤ j → f j = false) → bw_pl f q d i = -4 := by
  intro d
  induction d with
  | zero => intro i _; rfl
  | succ d ih =>
    intro i h
    rw [bw_plF (h i (Nat.le_refl _))]
    exact ih (i + 1) (fun j hj => h j (by omega))
theorem bw_pl_at {f : Nat → Bool} {p : Nat} (hp : f p = true) (h31 : p < 2 ^ 31) : ∀ d i, i ≤ p → p < i + d → bw_pl f (nI (bw_cn f p)) d i = nI p := by
  intro d
  induction d with
  | zero => intro i h1 h2; omega
  | succ d ih =>
    intro i h1 h2
    by_cases q : i = p
    · subst q; exact bw_plT hp rfl
    · cases hf : f i
      · rw [bw_plF hf]; exact ih (i + 1) (by omega) (by omega)
      · rw [bw_plN hf]
        · exact ih (i + 1) (by omega) (by omega)
        · have a1 := bw_cn_mono f (a := i + 1) (b := p) (by omega)
          rw [bw_cnT hf] at a1
          have a2 := bw_cn_le f p
          rw [nI_eq (by omega) (by omega)]
          omega
theorem bx_pl (hP : bw_P B L e l) {v : Nat} (hv : v < 6) (w : Nat → Int32) {q : Int32} {post : Int32 → Prop} (h : post (bw_pl (B v) q 256 0)) : ∃ n14 : Nat, wX_place_14 post (nI v) q e l w n14 0 0 := by
  obtain ⟨hL, hl, he, hb⟩ := hP v hv
  refine loop_0 (fun n' i (s : Int32) => wX_place_14 post (nI v) q e l w n' s (nI i)) (fun i s => s = nI (bw_cn (B v) i) ∧ bw_pl (B v) q (256 - i) i = bw_pl (B v) q 256 0) (L v) 0 ⟨rfl, rfl⟩ ?_ ?_
  · intro n' s hI
    refine ⟨vp_in_nI hv (by omega), ?_⟩
    rw [nI_clamp (by omega), hl]
    refine br_t (nI_le (Nat.le_refl _) (by omega)) ?_
    rw [← hI.2, bw_pl_none _ _ hb] at h
    exact h
  · intro n' i s hi hI k
    refine ⟨vp_in_nI hv (by omega), ?_⟩
    rw [nI_clamp (by omega), hl]
    have e256 : 256 - i = (256 - (i + 1)) + 1 := by omega
    rw [e256] at hI
    refine br_f (nI_ge hi (by omega)) (bx_elN hP hv w (by omega) (bw_c (fun z => nm_r (nI_1 i) (k _ ⟨?_, ?_⟩)) (fun z => ?_)))
    · rw [hI.1, bw_cnF z]
    · rw [← hI.2, bw_plF z]
    · by_cases z2 : nI (bw_cn (B v) i) = q
      · refine br_t (by rw [hI.1]; exact z2) ?_
        rw [← hI.2, bw_plT z z2] at h
        exact h
      · refine br_f (by rw [hI.1]; exact z2) (nm_r (e' := nI (bw_cn (B v) i + 1)) (by rw [hI.1, nI_1]) (nm_r (nI_1 i) (k _ ⟨?_, ?_⟩)))
        · rw [bw_cnT z]
        · rw [← hI.2, bw_plN z z2]
theorem by_pl (hP : bw_P B L e l) {v : Nat} (hv : v < 6) (w : Nat → Int32) {q : Int32} {post : Int32 → Prop} (h : post (bw_pl (B v) q 256 0)) : wpY_place post (e, l, w) (nI v) q := by
  unfold wpY_place
  dsimp only
  refine by_iv hv (br_t rfl ?_)
  refine loop_0 (fun n' i (s : Int32) => wY_place_15 post (nI v) q e l w n' s (nI i)) (fun i s => s = nI (bw_cn (B v) i) ∧ bw_pl (B v) q (256 - i) i = bw_pl (B v) q 256 0) 256 0 ⟨rfl, rfl⟩ ?_ ?_
  · intro n' s hI
    refine br_t (nI_le (a := 256) (Nat.le_refl _) (by omega)) ?_
    rw [← hI.2] at h
    exact h
  · intro n' i s hi hI k
    have e256 : 256 - i = (256 - (i + 1)) + 1 := by omega
    rw [e256] at hI
    refine br_f (nI_ge (b := 256) hi (by omega)) (by_elN hP hv w (by omega) (bw_c (fun z => nm_r (nI_1 i) (k _ ⟨?_, ?_⟩)) (fun z => ?_)))
    · rw [hI.1, bw_cnF z]
    · rw [← hI.2, bw_plF z]
    · by_cases z2 : nI (bw_cn (B v) i) = q
      · refine br_t (by rw [hI.1]; exact z2) ?_
        rw [← hI.2, bw_plT z z2] at h
        exact h
      · refine br_f (by rw [hI.1]; exact z2) (nm_r (e' := nI (bw_cn (B v) i + 1)) (by rw [hI.1, nI_1]) (nm_r (nI_1 i) (k _ ⟨?_, ?_⟩)))
        · rw [bw_cnT z]
        · rw [← hI.2, bw_plN z z2]
end
