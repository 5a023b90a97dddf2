/-- what findRun answers: the first start of k in a row at or behind a -/
def bw_FR (f : Nat → Bool) (a k : Nat) (r : Int32) : Prop :=
  (∃ i, a ≤ i ∧ r = nI i ∧ bw_all f i k ∧ ∀ s, a ≤ s → s < i → ¬ bw_all f s k) ∨ (r = -4 ∧ ∀ s, a ≤ s → ¬ bw_all f s k)
theorem bw_FR_u {f : Nat → Bool} {a k : Nat} {r r' : Int32} (h1 : bw_FR f a k r) (h2 : bw_FR f a k r') : r' = r := by
  rcases h1 with ⟨i, a1, a2, a3, a4⟩ | ⟨a2, a3⟩
  · rcases h2 with ⟨j, b1, b2, b3, b4⟩ | ⟨b2, b3⟩
    · have e : i = j := by
        by_cases c1 : i < j
        · exact absurd a3 (b4 i a1 c1)
        · by_cases c2 : j < i
          · exact absurd b3 (a4 j b1 c2)
          · omega
      rw [a2, b2, e]
    · exact absurd a3 (b3 i a1)
  · rcases h2 with ⟨j, b1, b2, b3, b4⟩ | ⟨b2, b3⟩
    · exact absurd b3 (a3 j b1)
    · rw [a2, b2]
theorem bw_sub1 {i k c : Nat} (h : i + 1 = c + k) : nI i - nI k + 1 = nI c := by
  have e : nI i + 1 = nI c + nI k := by rw [nI_1, nI_add, h]
  have e2 : nI i - nI k + 1 = nI i + 1 - nI k := by
    rw [Int32.sub_eq_add_neg, Int32.sub_eq_add_neg, Int32.add_assoc, Int32.add_assoc, Int32.add_comm (-nI k) 1]
  rw [e2, e, Int32.add_sub_cancel]
theorem bw_cmpTo (i k : Nat) (hi : i < 2 ^ 20) (hk : k < 2 ^ 20) (h0 : 0 < k) : (nI i + nI k - 1).toInt = (i : Int) + k - 1 := by
  have e : nI i + nI k - 1 = nI (i + k - 1) := by
    rw [nI_add, show i + k = (i + k - 1) + 1 from by omega, nI_pred]
    rfl
  rw [e, nI_toInt (by omega)]
  omega
section
variable {B : Nat → Nat → Bool} {L : Nat → Nat} {e l : Nat → Int32}
theorem bx_fr (hP : bw_P B L e l) {v : Nat} (hv : v < 6) (w : Nat → Int32) {a k : Nat} (ha : a < 2 ^ 31) (h0 : 0 < k) (hk : k ≤ 256) {post : Int32 → Prop} (h : ∀ r, bw_FR (B v) a k r → post r) : ∃ n37 : Nat, wX_findRun_37 post (nI v) (nI k) e l w n37 0 (nI a) := by
  obtain ⟨hL, hl, he, hb⟩ := hP v hv
  by_cases q : L v ≤ a
  · refine ⟨1, vp_in_nI hv (by omega), ?_⟩
    rw [nI_clamp (by omega), hl]
    refine br_t (nI_le q ha) (h _ (Or.inr ⟨rfl, fun s hs z => ?_⟩))
    have := z s (Nat.le_refl _) (by omega)
    rw [hb s (by omega)] at this
    exact absurd this (by decide)
  · refine pk_loop (fun n' i (s : Int32) => wX_findRun_37 post (nI v) (nI k) e l w n' s (nI i)) (fun i s => ∃ t, s = nI t ∧ t < k ∧ a + t ≤ i ∧ (∀ j, i - t ≤ j → j < i → B v j = true) ∧ (a + t = i ∨ B v (i - t - 1) = false) ∧ (∀ s, a ≤ s → s + k ≤ i → ¬ bw_all (B v) s k)) (L v) a 0 (by omega) ⟨0, rfl, h0, by omega, fun j h1 h2 => absurd h2 (by omega), Or.inl rfl, fun s h1 h2 => absurd h2 (by omega)⟩ ?_ ?_
    · intro n' s hI
      obtain ⟨t, rfl, ht, hat, hin, hbe, hno⟩ := hI
      refine ⟨vp_in_nI hv (by omega), ?_⟩
      rw [nI_clamp (by omega), hl]
      refine br_t (nI_le (Nat.le_refl _) (by omega)) (h _ (Or.inr ⟨rfl, fun s hs z => ?_⟩))
      by_cases c : s + k ≤ L v
      · exact hno s hs c z
      · have := z (s + k - 1) (by omega) (by omega)
        rw [hb _ (by omega)] at this
        exact absurd this (by decide)
    · intro n' i s hi hI kk
      obtain ⟨t, rfl, ht, hat, hin, hbe, hno⟩ := hI
      refine ⟨vp_in_nI hv (by omega), ?_⟩
      rw [nI_clamp (by omega), hl]
      refine br_f (nI_ge hi (by omega)) (bx_elN hP hv w (by omega) (bw_c (fun z => ?_) (fun z => ?_)))
      · refine br_f (fun c => nI_ne0 h0 (by omega) c.symm) (nm_r (nI_1 i) (kk _ ⟨0, rfl, h0, by omega, fun j h1 h2 => absurd h2 (by omega), Or.inr ?_, fun s h1 h2 c => ?_⟩))
        · rw [show i + 1 - 0 - 1 = i from by omega]
          exact z
        · by_cases d : s + k ≤ i
          · exact hno s h1 d c
          · have := c i (by omega) (by omega)
            rw [z] at this
            exact absurd this (by decide)
      · by_cases d : t + 1 = k
        · refine br_t (by rw [nI_1, d]) (h _ (Or.inl ⟨i + 1 - k, by omega, bw_sub1 (by omega), fun j h1 h2 => ?_, fun s h1 h2 => hno s h1 (by omega)⟩))
          by_cases c : j = i
          · subst c; exact z
          · exact hin j (by omega) (by omega)
        · refine br_f (fun c => d ?_) (nm_r (nI_1 i) (kk _ ⟨t + 1, nI_1 t, by omega, by omega, fun j h1 h2 => ?_, ?_, fun s h1 h2 c => ?_⟩))
          · rw [nI_1, nI_eq (by omega) (by omega)] at c
            exact c
          · by_cases c : j = i
            · subst c; exact z
            · exact hin j (by omega) (by omega)
          · rcases hbe with c | c
            · exact Or.inl (by omega)
            · refine Or.inr ?_
              rw [show i + 1 - (t + 1) - 1 = i - t - 1 from by omega]
              exact c
          · by_cases f : s + k ≤ i
            · exact hno s h1 f c
            · rcases hbe with g | g
              · omega
              · have := c (i - t - 1) (by omega) (by omega)
                rw [g] at this
                exact absurd this (by decide)
theorem by_fr (hP : bw_P B L e l) {v : Nat} (hv : v < 6) (w : Nat → Int32) {a k : Nat} (ha : a < 2 ^ 31) (h0 : 0 < k) (hk : k ≤ 256) {post : Int32 → Prop} (h : ∀ r, bw_FR (B v) a k r → post r) : ∃ n28 : Nat, wY_findRun_28 post (nI v) (nI a) (nI k) e l w n28 0 := by
  obtain ⟨hL, hl, he, hb⟩ := hP v hv
  have ex : (256 : Int32) - nI k = nI (256 - k) := pk_sub (a := 256) hk
  refine loop_0 (fun n' i (_ : Unit) => wY_findRun_28 post (nI v) (nI a) (nI k) e l w n' (nI i)) (fun i _ => ∀ s, a ≤ s → s < i → ¬ bw_all (B v) s k) (256 - k + 1) () (fun s _ hs => absurd hs (by omega)) ?_ ?_
  · intro n' s hI
    refine br_t (by rw [ex]; exact nI_lt (by omega) (by omega)) (h _ (Or.inr ⟨rfl, fun s hs z => ?_⟩))
    by_cases c : s < 256 - k + 1
    · exact hI s hs c z
    · have := z (s + k - 1) (by omega) (by omega)
      rw [hb _ (by omega)] at this
      exact absurd this (by decide)
  · intro n' i u hi hI kk
    refine br_f (by rw [ex]; exact nI_nlt (by omega) (by omega)) (br_f (nI_pos ha) ?_)
    by_cases c : i < a
    · exact br_t (nI_lt c ha) (nm_r (nI_1 i) (kk () (fun s h1 h2 => absurd h2 (by omega))))
    · refine br_f (nI_nlt (by omega) (by omega)) (by_cnt hP hv w ?_)
      have key : bw_ct (B v) (nI i).toInt (nI i + nI k - 1).toInt = bw_cn (fun j => decide (i ≤ j) && decide (j < i + k) && B v j) 256 := by
        rw [bw_cmpTo i k (by omega) (by omega) h0, nI_toInt (by omega)]
        refine bw_cn_congr (fun j _ => ?_)
        rw [show decide ((i : Int) ≤ (j : Int)) = decide (i ≤ j) from decide_eq_decide.mpr (by omega), show decide ((j : Int) ≤ (i : Int) + k - 1) = decide (j < i + k) from decide_eq_decide.mpr (by omega)]
      have W := bw_cn_win (f := B v) i k 256 k (Nat.le_refl _) (by omega)
      rw [key]
      by_cases d : bw_all (B v) i k
      · exact br_t (by rw [W.2.mpr d]) (h _ (Or.inl ⟨i, by omega, rfl, d, hI⟩))
      · refine br_f (fun z => d (W.2.mp ((nI_eq (by omega) (by omega)).mp z))) (nm_r (nI_1 i) (kk () (fun s h1 h2 => ?_)))
        by_cases g : s = i
        · subst g; exact d
        · exact hI s h1 (by omega)
theorem by_frn (w : Nat → Int32) {v : Nat} {x : Int32} (hx : x < 0) {k : Nat} (h0 : 0 < k) (hk : k ≤ 256) {post : Int32 → Prop} (h : post (-4)) : ∃ n28 : Nat, wY_findRun_28 post (nI v) x (nI k) e l w n28 0 := by
  have ex : (256 : Int32) - nI k = nI (256 - k) := pk_sub (a := 256) hk
  refine loop_0 (fun n' i (_ : Unit) => wY_findRun_28 post (nI v) x (nI k) e l w n' (nI i)) (fun i _ => True) (256 - k + 1) () trivial ?_ ?_
  · intro n' s hI
    exact br_t (by rw [ex]; exact nI_lt (by omega) (by omega)) h
  · intro n' i u hi hI kk
    exact br_f (by rw [ex]; exact nI_nlt (by omega) (by omega)) (br_t hx (nm_r (nI_1 i) (kk () trivial)))
/-- what compare answers: the first d places, from the highest down -/
def bw_cp (f g : Nat → Bool) : Nat → Int32
  | 0 => 0
  | d + 1 => if f d = g d then bw_cp f g d else if f d = true then 1 else -1
theorem bw_cpE {f g : Nat → Bool} {d : Nat} (h : f d = g d) : bw_cp f g (d + 1) = bw_cp f g d := if_pos h
theorem bw_cp1 {f g : Nat → Bool} {d : Nat} (h : ¬ f d = g d) (h2 : f d = true) : bw_cp f g (d + 1) = 1 := by
  show (if f d = g d then _ else _) = _
  rw [if_neg h, if_pos h2]
theorem bw_cp0 {f g : Nat → Bool} {d : Nat} (h : ¬ f d = g d) (h2 : f d = false) : bw_cp f g (d + 1) = -1 := by
  show (if f d = g d then _ else _) = _
  rw [if_neg h, if_neg (by rw [h2]; decide)]
def bw_dn (d : Nat) : Int32 := match d with
  | 0 => -1
  | d + 1 => nI d
theorem bw_dnS (d : Nat) : nI d + (-1) = bw_dn d := by
  cases d with
  | zero => decide
  | succ d => exact pk_m1 d
theorem bx_cp (hP : bw_P B L e l) {a b : Nat} (ha : a < 6) (hb : b < 6) (w : Nat → Int32) {post : Int32 → Prop} : ∀ d, d ≤ 256 → post (bw_cp (B a) (B b) d) → wX_compare_20 post (nI a) (nI b) e l w (d + 1) (bw_dn d) := by
  intro d
  induction d with
  | zero => intro _ h; exact br_t (by decide) h
  | succ d ih =>
    intro hd h
    refine br_f (nI_pos (by omega)) (bx_elN hP ha w (by omega) (bx_elN hP hb w (by omega) (bw_ceq (fun z => nm_r (bw_dnS d) (ih (by omega) ?_)) (fun z => bw_c (fun y => ?_) (fun y => ?_)))))
    · rw [bw_cpE z] at h; exact h
    · rw [bw_cp0 z y] at h; exact h
    · rw [bw_cp1 z y] at h; exact h
theorem by_cp (hP : bw_P B L e l) {a b : Nat} (ha : a < 6) (hb : b < 6) (w : Nat → Int32) {post : Int32 → Prop} : ∀ d, d ≤ 256 → post (bw_cp (B a) (B b) d) → wY_compare_22 post (nI a) (nI b) e l w (d + 1) (bw_dn d) := by
  intro d
  induction d with
  | zero => intro _ h; exact br_t (by decide) h
  | succ d ih =>
    intro hd h
    refine br_f (nI_pos (by omega)) (by_elN hP ha w (by omega) (by_elN hP hb w (by omega) (bw_ceq (fun z => nm_r (bw_dnS d) (ih (by omega) ?_)) (fun z => by_elN hP ha w (by omega) (bw_c (fun y => ?_) (fun y => ?_))))))
    · rw [bw_cpE z] at h; exact h
    · rw [bw_cp0 z y] at h; exact h
    · rw [bw_cp1 z y] at h; exact h
theorem bx_mk (hP : bw_P B L e l) {v : Nat} (hv : v < 6) {n : Nat} (hn : n ≤ 256) (r : Nat → Int32) {post : Int32 → SX → Prop} (h : ∀ e' l' r', bw_P (bw_sB B v n (fun _ => false)) (bw_sL L v n) e' l' → post (nI n) (e', l', r')) : ∃ n25 : Nat, wX_make_25 post (nI v) (nI n) n25 0 e l r := by
  refine loop_0 (fun n' i s => wX_make_25 post (nI v) (nI n) n' (nI i) e l s) (fun i s => ∀ j, j < i → s j = bw_i ((fun _ => false) j)) n r (fun j hj => absurd hj (by omega)) ?_ ?_
  · intro n' s hI
    exact br_t (nI_le (Nat.le_refl _) (by omega)) (bx_rep hP hv hn (fun _ => false) hI (fun e' l' q => h e' l' s q))
  · intro n' i s hi hI k
    exact br_f (nI_ge hi (by omega)) (bw_st false (by omega) bw_nar0 (k _ (bw_upd (F := fun _ => false) hI rfl)))
theorem by_mk (hP : bw_P B L e l) {v : Nat} (hv : v < 6) {n : Nat} (hn : n ≤ 256) (r : Nat → Int32) {post : Int32 → SY → Prop} (h : ∀ e' l' r', bw_P (bw_sB B v n (fun _ => false)) (bw_sL L v n) e' l' → post (nI n) (e', l', r')) : ∃ n26 : Nat, wY_make_26 post (nI v) (nI n) n26 0 e l r := by
  refine loop_0 (fun n' i s => wY_make_26 post (nI v) (nI n) n' (nI i) e l s) (fun i s => ∀ j, j < i → s j = bw_i ((fun _ => false) j)) 256 r (fun j hj => absurd hj (by omega)) ?_ ?_
  · intro n' s hI
    exact br_t (nI_le (a := 256) (Nat.le_refl _) (by omega)) (by_bec hP hv hn (fun _ => false) (fun i hi => hI i (by omega)) (fun e' l' q => h e' l' s q))
  · intro n' i s hi hI k
    exact br_f (nI_ge (b := 256) hi (by omega)) (bw_st false (by omega) bw_nar0 (k _ (bw_upd (F := fun _ => false) hI rfl)))
def bw_pB (B : Nat → Nat → Bool) (v o n : Nat) (g : Nat → Bool) : Nat → Nat → Bool := fun v' i => if v' = v ∧ o ≤ i ∧ i < o + n then g (i - o) else B v' i
theorem bw_putP {e' : Nat → Int32} (hP : bw_P B L e l) {v o n : Nat} (hv : v < 6) (hn : o + n ≤ L v) {g : Nat → Bool} (h1 : ∀ j, j < n → e' (v * 256 + o + j) = bw_i (g j)) (h2 : ∀ j, (j < v * 256 + o ∨ v * 256 + o + n ≤ j) → e' j = e j) : bw_P (bw_pB B v o n g) L e' l := by
  intro v' hv'
  obtain ⟨a1, a2, a3, a4⟩ := hP v' hv'
  refine ⟨a1, a2, fun i hi => ?_, fun i hi => ?_⟩
  · unfold bw_pB
    by_cases q : v' = v ∧ o ≤ i ∧ i < o + n
    · rw [if_pos q, ← h1 (i - o) (by omega), q.1]
      exact congrArg e' (by omega)
    · rw [if_neg q, h2 _ ?_]
      · exact a3 i hi
      · by_cases z : v' = v
        · subst z; omega
        · have b1 := (hP v hv).1
          omega
  · unfold bw_pB
    rw [if_neg, a4 i hi]
    intro q
    obtain ⟨q1, q2, q3⟩ := q
    subst q1
    omega
def bw_bit (x : Int32) (j : Nat) : Bool := decide (((x >>> (nI j &&& 31)) &&& 1) = 1)
theorem bx_put (hP : bw_P B L e l) {v o n : Nat} (hv : v < 6) (hn : o + n ≤ L v) (x : Int32) (r : Nat → Int32) {post : Int32 → SX → Prop} (h : ∀ e', bw_P (bw_pB B v o n (bw_bit x)) L e' l → post (nI n) (e', l, r)) : ∃ n54 : Nat, wX_put_54 post (nI n) x (nI (v * 256 + o)) n54 0 e l r := by
  have hL := (hP v hv).1
  refine loop_0 (fun n' i s => wX_put_54 post (nI n) x (nI (v * 256 + o)) n' (nI i) s l r) (fun i s => (∀ j, j < i → s (v * 256 + o + j) = bw_i (bw_bit x j)) ∧ (∀ j, (j < v * 256 + o ∨ v * 256 + o + n ≤ j) → s j = e j)) n e ⟨fun j hj => absurd hj (by omega), fun j _ => rfl⟩ ?_ ?_
  · intro n' s hI
    exact br_t (nI_le (Nat.le_refl _) (by omega)) (h _ (bw_putP hP hv hn hI.1 hI.2))
  · intro n' i s hi hI k
    have fin : ∀ (y : Int32), vp_nar .boolean y = bw_i (bw_bit x i) → vp_in (nI (v * 256 + o) + nI i) 1536 ∧ ∀ a : Nat → Int32, a = upd s (nI (v * 256 + o) + nI i).toNatClampNeg (vp_nar .boolean y) → ∀ y : Int32, y = nI i + 1 → wX_put_54 post (nI n) x (nI (v * 256 + o)) n' y a l r := by
      intro y hy
      rw [nI_add]
      refine ⟨vp_in_nI (by omega) (by omega), nm_r (e' := upd s (v * 256 + o + i) (bw_i (bw_bit x i))) (by rw [nI_clamp (by omega), hy]) (nm_r (nI_1 i) (k _ ⟨bw_updO hI.1 rfl, fun j hj => ?_⟩))⟩
      rw [pk_un (by omega)]
      exact hI.2 j hj
    refine br_f (nI_ge hi (by omega)) (br_c (fun z => fin 1 ?_) (fun z => fin 0 ?_))
    · rw [show bw_bit x i = true from decide_eq_true z]; exact bw_nar1
    · rw [show bw_bit x i = false from decide_eq_false z]; exact bw_nar0
theorem by_put (hP : bw_P B L e l) {v o n : Nat} (hv : v < 6) (hn : o + n ≤ L v) (x : Int32) (r : Nat → Int32) {post : Int32 → SY → Prop} (h : ∀ e', bw_P (bw_pB B v o n (bw_bit x)) L e' l → post (nI n) (e', l, r)) : ∃ n46 : Nat, wY_put_46 post (nI v) (nI o) (nI n) x n46 0 e l r := by
  have hL := (hP v hv).1
  refine loop_0 (fun n' i s => wY_put_46 post (nI v) (nI o) (nI n) x n' (nI i) s l r) (fun i s => (∀ j, j < i → s (v * 256 + o + j) = bw_i (bw_bit x j)) ∧ (∀ j, (j < v * 256 + o ∨ v * 256 + o + n ≤ j) → s j = e j)) n e ⟨fun j hj => absurd hj (by omega), fun j _ => rfl⟩ ?_ ?_
  · intro n' s hI
    exact br_t (nI_le (Nat.le_refl _) (by omega)) (h _ (bw_putP hP hv hn hI.1 hI.2))
  · intro n' i s hi hI k
    have fin : ∀ (y : Int32), vp_nar .boolean y = bw_i (bw_bit x i) → vp_in (nI v * 256 + nI o + nI i) 1536 ∧ ∀ a : Nat → Int32, a = upd s (nI v * 256 + nI o + nI i).toNatClampNeg (vp_nar .boolean y) → ∀ y : Int32, y = nI i + 1 → wY_put_46 post (nI v) (nI o) (nI n) x n' y a l r := by
      intro y hy
      rw [bw_ix, nI_add]
      refine ⟨vp_in_nI (by omega) (by omega), nm_r (e' := upd s (v * 256 + o + i) (bw_i (bw_bit x i))) (by rw [nI_clamp (by omega), hy]) (nm_r (nI_1 i) (k _ ⟨bw_updO hI.1 rfl, fun j hj => ?_⟩))⟩
      rw [pk_un (by omega)]
      exact hI.2 j hj
    refine br_f (nI_ge hi (by omega)) (br_c (fun z => fin 1 ?_) (fun z => fin 0 ?_))
    · rw [show bw_bit x i = true from decide_eq_true z]; exact bw_nar1
    · rw [show bw_bit x i = false from decide_eq_false z]; exact bw_nar0
end
