section
theorem pk_us {f : Nat → Int32} {k : Nat} {x : Int32} : upd f k x k = x := if_pos rfl
theorem pk_un {f : Nat → Int32} {k j : Nat} {x : Int32} (h : j ≠ k) : upd f k x j = f j := if_neg h
theorem pk_sub {a b : Nat} (h : b ≤ a) : nI a - nI b = nI (a - b) := by
  obtain ⟨c, rfl⟩ : ∃ c, a = c + b := ⟨a - b, by omega⟩
  rw [← nI_add, Int32.add_sub_cancel, Nat.add_sub_cancel]
theorem pk_m1 (n : Nat) : nI (n + 1) + (-1) = nI n := by
  rw [← nI_1, Int32.add_assoc, show (1 : Int32) + (-1) = 0 from rfl, Int32.add_zero]
theorem pk_mul (a b : Nat) : nI a * nI b = nI (a * b) := (Int32.ofNat_mul a b).symm
theorem pk_div {a d : Nat} (ha : a < 2 ^ 31) (h0 : 0 < d) (hd : d < 2 ^ 31) : nI a / nI d = nI (a / d) := by
  apply Int32.toInt_inj.mp
  rw [lg_idiv_nonneg (by rw [nI_toInt ha]; omega) (by rw [nI_toInt hd]; omega), nI_toInt ha, nI_toInt hd, nI_toInt (Nat.lt_of_le_of_lt (Nat.div_le_self a d) ha)]
  first | rfl | exact (Int.natCast_ediv _ _).symm
theorem pk_rem {a d : Nat} (ha : a < 2 ^ 31) (h0 : 0 < d) (hd : d < 2 ^ 31) : nI a - nI a / nI d * nI d = nI (a % d) := by
  rw [pk_div ha h0 hd, pk_mul, pk_sub (Nat.div_mul_le_self a d)]
  exact congrArg nI (by have := Nat.div_add_mod' a d; omega)
theorem pk_sub_toInt {a b : Nat} (ha : a < 2 ^ 30) (hb : b < 2 ^ 30) : (nI a - nI b).toInt = (a : Int) - b := by
  rw [Int32.toInt_sub, nI_toInt (by omega), nI_toInt (by omega)]
  exact Int.bmod_eq_of_le (by omega) (by omega)
theorem pk_ix (x : Int32) {n : Nat} (hn : n < 2 ^ 31) : x < 0 ∨ nI n ≤ x ∨ ∃ j : Nat, j < n ∧ x = nI j := by
  by_cases h : x < 0
  · exact Or.inl h
  · obtain ⟨j, hj, rfl⟩ := nI_of h
    by_cases h2 : j < n
    · exact Or.inr (Or.inr ⟨j, h2, rfl⟩)
    · exact Or.inr (Or.inl (nI_le (by omega) hj))
theorem pk_le {x y : Int32} {A B : Prop} (a b : Nat) (f : a ≤ b → A) (g : b < a → B) (hx : x = nI a := by rfl) (hy : y = nI b := by rfl) (ha : a < 2 ^ 31 := by omega) (hb : b < 2 ^ 31 := by omega) : (x ≤ y → A) ∧ (¬ x ≤ y → B) := by
  subst hx hy
  rw [nI_leI ha hb]
  exact ⟨f, fun z => g (by omega)⟩
theorem pk_lt {x y : Int32} {A B : Prop} (a b : Nat) (f : a < b → A) (g : b ≤ a → B) (hx : x = nI a := by rfl) (hy : y = nI b := by rfl) (ha : a < 2 ^ 31 := by omega) (hb : b < 2 ^ 31 := by omega) : (x < y → A) ∧ (¬ x < y → B) := by
  subst hx hy
  rw [nI_ltI ha hb]
  exact ⟨f, fun z => g (by omega)⟩
theorem pk_eq {x y : Int32} {A B : Prop} (a b : Nat) (f : a = b → A) (g : a ≠ b → B) (hx : x = nI a := by rfl) (hy : y = nI b := by rfl) (ha : a < 2 ^ 31 := by omega) (hb : b < 2 ^ 31 := by omega) : (x = y → A) ∧ (¬ x = y → B) := by
  subst hx hy
  rw [nI_eq ha hb]
  exact ⟨f, g⟩
theorem pk_in {x : Int32} (n N : Nat) (h : n < N) (hx : x = nI n := by rfl) (hN : N < 2 ^ 31 := by omega) : vp_in x N := by
  subst hx
  exact vp_in_nI h hN
theorem pk_cl {x : Int32} (n : Nat) (hx : x = nI n := by rfl) (h : n < 2 ^ 31 := by omega) : x.toNatClampNeg = n := by
  subst hx
  exact nI_clamp h
theorem pk_lT {n : Nat} (h : n < 2 ^ 63) : (lN n).toInt = (n : Int) := lg_ofNat_toInt h
theorem pk_lLT {a b : Nat} (ha : a < 2 ^ 63) (hb : b < 2 ^ 63) : lN a < lN b ↔ a < b := by
  rw [Int64.lt_iff_toInt_lt, pk_lT ha, pk_lT hb]; omega
theorem pk_lLE {a b : Nat} (ha : a < 2 ^ 63) (hb : b < 2 ^ 63) : lN a ≤ lN b ↔ a ≤ b := by
  rw [Int64.le_iff_toInt_le, pk_lT ha, pk_lT hb]; omega
theorem pk_lEQ {a b : Nat} (ha : a < 2 ^ 63) (hb : b < 2 ^ 63) : lN a = lN b ↔ a = b := by
  rw [← Int64.toInt_inj, pk_lT ha, pk_lT hb]; omega
theorem pk_lOf {x : Int64} (h : ¬ x < 0) : ∃ k : Nat, k < 2 ^ 63 ∧ x = lN k := by
  rw [Int64.lt_iff_toInt_lt] at h
  have h0 : (0 : Int64).toInt = 0 := by decide
  have hx := Int64.toInt_lt x
  refine ⟨x.toInt.toNat, by omega, Int64.toInt_inj.mp ?_⟩
  rw [pk_lT (by omega)]
  omega
theorem pk_loop {σ : Type} (W : Nat → Nat → σ → Prop) (I : Nat → σ → Prop) (e i0 : Nat) (s : σ) (hi : i0 ≤ e) (h0 : I i0 s) (hx : ∀ n s, I e s → W (n + 1) e s)
    (hs : ∀ n i s, i < e → I i s → (∀ s', I (i + 1) s' → W n (i + 1) s') → W (n + 1) i s) : ∃ n, W n i0 s :=
  ⟨e + 1, loop_i W I e hx hs (e + 1) i0 s hi (by omega) h0⟩
theorem pk_least (P : Nat → Prop) (h : ∃ k, P k) : ∃ k, P k ∧ ∀ j, j < k → ¬ P j := by
  obtain ⟨k, hk⟩ := h
  induction k using Nat.strongRecOn with
  | ind k ih =>
    by_cases e : ∃ j, j < k ∧ P j
    · obtain ⟨j, hj, pj⟩ := e
      exact ih j hj pj
    · exact ⟨k, hk, fun j hj pj => e ⟨j, hj, pj⟩⟩
end
section
/-- a boolean as the arrays hold it -/
def bw_i (b : Bool) : Int32 := if b = true then 1 else 0
theorem bw_nar (b : Bool) : vp_nar .boolean (bw_i b) = bw_i b := by cases b <;> decide
theorem bw_nar0 : vp_nar .boolean 0 = bw_i false := by decide
theorem bw_nar1 : vp_nar .boolean 1 = bw_i true := by decide
theorem bw_narr (b : Bool) : narrow .boolean (.int (bw_i b)) = .int (bw_i b) := by cases b <;> rfl
theorem bw_c {b : Bool} {A B : Prop} (f : b = false → A) (g : b = true → B) : (bw_i b = 0 → A) ∧ (¬ bw_i b = 0 → B) := by
  cases b
  · exact ⟨fun _ => f rfl, fun h => absurd rfl h⟩
  · exact ⟨fun h => absurd h (by decide), fun _ => g rfl⟩
theorem bw_inj {b c : Bool} : bw_i b = bw_i c ↔ b = c := by cases b <;> cases c <;> decide
theorem bw_ceq {b c : Bool} {A B : Prop} (f : b = c → A) (g : ¬ b = c → B) : (bw_i b = bw_i c → A) ∧ (¬ bw_i b = bw_i c → B) :=
  ⟨fun h => f (bw_inj.mp h), fun h => g (fun z => h (bw_inj.mpr z))⟩
/-- the element at an integer place, false below 0 -/
def bw_z (f : Nat → Bool) (z : Int) : Bool := if z < 0 then false else f z.toNat
theorem bw_zN (f : Nat → Bool) (n : Nat) : bw_z f (n : Int) = f n := by
  unfold bw_z
  rw [if_neg (by omega), Int.toNat_natCast]
theorem bw_zneg (f : Nat → Bool) {z : Int} (h : z < 0) : bw_z f z = false := if_pos h
/-- the picture of a state: lengths L, elements B -/
def bw_P (B : Nat → Nat → Bool) (L : Nat → Nat) (e l : Nat → Int32) : Prop :=
  ∀ v, v < 6 → L v ≤ 256 ∧ l v = nI (L v) ∧ (∀ i, i < L v → e (v * 256 + i) = bw_i (B v i)) ∧ (∀ i, L v ≤ i → B v i = false)
def bw_sB (B : Nat → Nat → Bool) (v n : Nat) (F : Nat → Bool) : Nat → Nat → Bool := fun v' i => if v' = v then (decide (i < n) && F i) else B v' i
def bw_sL (L : Nat → Nat) (v n : Nat) : Nat → Nat := fun v' => if v' = v then n else L v'
theorem bw_256 : (256 : Int32) = nI 256 := rfl
theorem bw_ix (v i : Nat) : nI v * 256 + nI i = nI (v * 256 + i) := by rw [bw_256, pk_mul, nI_add]
theorem bw_ix0 (v : Nat) : nI v * 256 = nI (v * 256) := by rw [bw_256, pk_mul]
theorem bw_upd {s : Nat → Int32} {i : Nat} {F : Nat → Bool} {b : Bool} (h : ∀ j, j < i → s j = bw_i (F j)) (hb : b = F i) : ∀ j, j < i + 1 → upd s i (bw_i b) j = bw_i (F j) := by
  subst hb
  intro j hj
  by_cases e : j = i
  · subst e; exact pk_us
  · rw [pk_un e]; exact h j (by omega)
theorem bw_updO {s : Nat → Int32} {o i : Nat} {F : Nat → Bool} {b : Bool} (h : ∀ j, j < i → s (o + j) = bw_i (F j)) (hb : b = F i) : ∀ j, j < i + 1 → upd s (o + i) (bw_i b) (o + j) = bw_i (F j) := by
  subst hb
  intro j hj
  by_cases e : j = i
  · subst e; exact pk_us
  · rw [pk_un (by omega)]; exact h j (by omega)
theorem bw_st {s : Nat → Int32} {i : Nat} {x : Int32} {Q : Int32 → (Nat → Int32) → Prop} (b : Bool) (hi : i < 256) (hx : vp_nar .boolean x = bw_i b) (h : Q (nI (i + 1)) (upd s i (bw_i b))) :
    vp_in (nI i) 256 ∧ ∀ a : Nat → Int32, a = upd s (nI i).toNatClampNeg (vp_nar .boolean x) → ∀ y : Int32, y = nI i + 1 → Q y a :=
  ⟨vp_in_nI hi (by omega), nm_r (e' := upd s i (bw_i b)) (by rw [nI_clamp (by omega), hx]) (nm_r (nI_1 i) h)⟩
theorem bw_setP {B : Nat → Nat → Bool} {L : Nat → Nat} {e l e' : Nat → Int32} (hP : bw_P B L e l) {v : Nat} (hv : v < 6) {n : Nat} (hn : n ≤ 256) {F : Nat → Bool}
    (h1 : ∀ j, j < n → e' (v * 256 + j) = bw_i (F j)) (h2 : ∀ j, (j < v * 256 ∨ v * 256 + 256 ≤ j) → e' j = e j) : bw_P (bw_sB B v n F) (bw_sL L v n) e' (upd l v (nI n)) := by
  intro v' hv'
  by_cases q : v' = v
  · subst q
    have eL : bw_sL L v' n v' = n := if_pos rfl
    rw [eL]
    refine ⟨hn, pk_us, fun i hi => ?_, fun i hi => ?_⟩
    · rw [h1 i hi]
      unfold bw_sB
      rw [if_pos rfl, decide_eq_true hi, Bool.true_and]
    · unfold bw_sB
      rw [if_pos rfl, decide_eq_false (by omega), Bool.false_and]
  · have eL : bw_sL L v n v' = L v' := if_neg q
    obtain ⟨a1, a2, a3, a4⟩ := hP v' hv'
    rw [eL]
    refine ⟨a1, by rw [pk_un q]; exact a2, fun i hi => ?_, fun i hi => ?_⟩
    · rw [h2 _ (by omega), a3 i hi]
      unfold bw_sB
      rw [if_neg q]
    · unfold bw_sB
      rw [if_neg q]
      exact a4 i hi
theorem bw_vec (p : Int32) : (∃ v, v < 6 ∧ p = nI v) ∨ ((∀ post : Int32 → Prop, post 0 → wpX_isVector post p) ∧ (∀ (post : Int32 → Prop) (e l w : Nat → Int32), post 1 → wpY_bad post (e, l, w) p)) := by
  rcases pk_ix p (n := 6) (by decide) with h | h | h
  · exact Or.inr ⟨fun _ q => br_t h q, fun _ _ _ _ q => br_t h q⟩
  · have hh := Int32.le_iff_toInt_le.mp h
    rw [show (nI 6).toInt = 6 from by decide] at hh
    have h0 : ¬ p < 0 := by
      rw [Int32.lt_iff_toInt_lt, show (0 : Int32).toInt = 0 from by decide]
      omega
    have h5 : ¬ p ≤ 5 := by
      rw [Int32.le_iff_toInt_le, show (5 : Int32).toInt = 5 from by decide]
      omega
    exact Or.inr ⟨fun _ q => br_f h0 (br_t h q), fun _ _ _ _ q => br_f h0 (br_f h5 q)⟩
  · exact Or.inl h
theorem bx_iv {post : Int32 → Prop} {v : Nat} (hv : v < 6) (h : post 1) : wpX_isVector post (nI v) :=
  br_f (nI_pos (by omega)) (br_f (nI_ge (b := 6) hv (by decide)) h)
theorem by_iv {post : Int32 → Prop} {e l w : Nat → Int32} {v : Nat} (hv : v < 6) (h : post 0) : wpY_bad post (e, l, w) (nI v) :=
  br_f (nI_pos (by omega)) (br_t (nI_le (b := 5) (by omega) (by decide)) h)
theorem bx_el {B : Nat → Nat → Bool} {L : Nat → Nat} {e l : Nat → Int32} (hP : bw_P B L e l) {v : Nat} (hv : v < 6) (w : Nat → Int32) {p1 : Int64} {post : Int32 → Prop} (z : Int) (hz : p1.toInt = z) (h : post (bw_i (bw_z (B v) z))) : wpX_element post (e, l, w) (nI v) p1 := by
  obtain ⟨hL, hl, he, hb⟩ := hP v hv
  unfold wpX_element
  dsimp only
  by_cases h0 : p1 < 0
  · refine br_t h0 ?_
    rw [Int64.lt_iff_toInt_lt, show (0 : Int64).toInt = 0 from by decide, hz] at h0
    rw [bw_zneg _ h0] at h
    exact h
  · obtain ⟨k, hk, rfl⟩ := pk_lOf h0
    rw [pk_lT hk] at hz
    subst hz
    rw [bw_zN] at h
    refine br_f h0 ⟨vp_in_nI hv (by omega), ?_⟩
    rw [nI_clamp (by omega), hl, nI_l (by omega)]
    by_cases h2 : L v ≤ k
    · refine br_t ((pk_lLE (by omega) hk).mpr h2) ?_
      rw [hb k h2] at h
      exact h
    · refine br_f (fun q => h2 ((pk_lLE (by omega) hk).mp q)) ?_
      rw [lN_i, bw_ix]
      refine ⟨vp_in_nI (by omega) (by omega), ?_⟩
      rw [nI_clamp (by omega), he k (by omega)]
      exact bw_c (fun q => by rw [q] at h; exact h) (fun q => by rw [q] at h; exact h)
theorem bx_elN {B : Nat → Nat → Bool} {L : Nat → Nat} {e l : Nat → Int32} (hP : bw_P B L e l) {v : Nat} (hv : v < 6) (w : Nat → Int32) {i : Nat} {post : Int32 → Prop} (hi : i < 2 ^ 31) (h : post (bw_i (B v i))) : wpX_element post (e, l, w) (nI v) (nI i).toInt64 :=
  bx_el hP hv w (i : Int) (by rw [nI_l hi, lN_toInt hi]) (by rw [bw_zN]; exact h)
theorem by_el {B : Nat → Nat → Bool} {L : Nat → Nat} {e l : Nat → Int32} (hP : bw_P B L e l) {v : Nat} (hv : v < 6) (w : Nat → Int32) {p1 : Int64} {post : Int32 → Prop} (z : Int) (hz : p1.toInt = z) (h : post (bw_i (bw_z (B v) z))) : wpY_at post (e, l, w) (nI v) p1 := by
  obtain ⟨hL, hl, he, hb⟩ := hP v hv
  unfold wpY_at
  dsimp only
  by_cases h0 : p1 < 0
  · refine br_t h0 ?_
    rw [Int64.lt_iff_toInt_lt, show (0 : Int64).toInt = 0 from by decide, hz] at h0
    rw [bw_zneg _ h0] at h
    exact h
  · obtain ⟨k, hk, rfl⟩ := pk_lOf h0
    rw [pk_lT hk] at hz
    subst hz
    rw [bw_zN] at h
    refine br_f h0 ⟨vp_in_nI hv (by omega), ?_⟩
    rw [nI_clamp (by omega), hl, nI_l (by omega)]
    by_cases h2 : L v ≤ k
    · refine br_t ((pk_lLE (by omega) hk).mpr h2) ?_
      rw [hb k h2] at h
      exact h
    · refine br_f (fun q => h2 ((pk_lLE (by omega) hk).mp q)) ?_
      rw [lN_i, bw_ix]
      refine ⟨vp_in_nI (by omega) (by omega), ?_⟩
      rw [nI_clamp (by omega), he k (by omega)]
      exact bw_c (fun q => by rw [q] at h; exact h) (fun q => by rw [q] at h; exact h)
theorem by_elN {B : Nat → Nat → Bool} {L : Nat → Nat} {e l : Nat → Int32} (hP : bw_P B L e l) {v : Nat} (hv : v < 6) (w : Nat → Int32) {i : Nat} {post : Int32 → Prop} (hi : i < 2 ^ 31) (h : post (bw_i (B v i))) : wpY_at post (e, l, w) (nI v) (nI i).toInt64 :=
  by_el hP hv w (i : Int) (by rw [nI_l hi, lN_toInt hi]) (by rw [bw_zN]; exact h)
theorem bx_rep {B : Nat → Nat → Bool} {L : Nat → Nat} {e l : Nat → Int32} (hP : bw_P B L e l) {v : Nat} (hv : v < 6) {n : Nat} (hn : n ≤ 256) (F : Nat → Bool) {r : Nat → Int32} (hr : ∀ i, i < n → r i = bw_i (F i)) {post : Int32 → SX → Prop}
    (h : ∀ e' l', bw_P (bw_sB B v n F) (bw_sL L v n) e' l' → post (nI n) (e', l', r)) : wpX_replace post (e, l, r) (nI v) (nI n) := by
  unfold wpX_replace
  dsimp only
  refine br_t (nI_pos' (by omega)) (nm_r (bw_ix0 v) ?_)
  refine loop_0 (fun n' i s => wX_replace_15 post (nI v) (nI n) (nI (v * 256)) n' (nI i) s l r) (fun i s => (∀ j, j < i → s (v * 256 + j) = bw_i (F j)) ∧ (∀ j, (j < v * 256 ∨ v * 256 + 256 ≤ j) → s j = e j)) n e ⟨fun j hj => absurd hj (by omega), fun j _ => rfl⟩ ?_ ?_
  · intro n' s hI
    exact br_t (nI_le (Nat.le_refl _) (by omega)) ⟨vp_in_nI hv (by omega), nm_r (e' := upd l v (nI n)) (by rw [nI_clamp (by omega)]) (h _ _ (bw_setP hP hv hn hI.1 hI.2))⟩
  · intro n' i s hi hI k
    refine br_f (nI_ge hi (by omega)) ⟨vp_in_nI (by omega) (by omega), ?_⟩
    rw [nI_add]
    refine ⟨vp_in_nI (by omega) (by omega), nm_r (e' := upd s (v * 256 + i) (bw_i (F i))) (by rw [nI_clamp (by omega), nI_clamp (by omega), hr i hi, bw_nar]) (nm_r (nI_1 i) (k _ ⟨bw_updO hI.1 rfl, fun j hj => ?_⟩))⟩
    rw [pk_un (by omega)]
    exact hI.2 j hj
theorem bx_rep3 {e l r : Nat → Int32} {v : Nat} {x : Int32} (hx : ¬ 0 ≤ x) {post : Int32 → SX → Prop} (h : post x (e, l, r)) : wpX_replace post (e, l, r) (nI v) x := br_f hx h
theorem by_bec {B : Nat → Nat → Bool} {L : Nat → Nat} {e l : Nat → Int32} (hP : bw_P B L e l) {v : Nat} (hv : v < 6) {n : Nat} (hn : n ≤ 256) (F : Nat → Bool) {r : Nat → Int32} (hr : ∀ i, i < n → r i = bw_i (F i)) {post : Int32 → SY → Prop}
    (h : ∀ e' l', bw_P (bw_sB B v n F) (bw_sL L v n) e' l' → post (nI n) (e', l', r)) : wpY_become post (e, l, r) (nI v) (nI n) := by
  unfold wpY_become
  dsimp only
  refine loop_0 (fun n' i s => wY_become_2 post (nI v) (nI n) n' (nI i) s l r) (fun i s => (∀ j, j < i → s (v * 256 + j) = bw_i (decide (j < n) && F j)) ∧ (∀ j, (j < v * 256 ∨ v * 256 + 256 ≤ j) → s j = e j)) 256 e ⟨fun j hj => absurd hj (by omega), fun j _ => rfl⟩ ?_ ?_
  · intro n' s hI
    exact br_t (nI_le (a := 256) (Nat.le_refl _) (by omega)) ⟨vp_in_nI hv (by omega), nm_r (e' := upd l v (nI n)) (by rw [nI_clamp (by omega)]) (h _ _ (bw_setP hP hv hn (fun j hj => by rw [hI.1 j (by omega), decide_eq_true hj, Bool.true_and]) hI.2))⟩
  · intro n' i s hi hI k
    have fin : ∀ (x : Int32), vp_nar .boolean x = bw_i (decide (i < n) && F i) → vp_in (nI v * 256 + nI i) 1536 ∧ ∀ a : Nat → Int32, a = upd s (nI v * 256 + nI i).toNatClampNeg (vp_nar .boolean x) → ∀ y : Int32, y = nI i + 1 → wY_become_2 post (nI v) (nI n) n' y a l r := by
      intro x hx
      rw [bw_ix]
      refine ⟨vp_in_nI (by omega) (by omega), nm_r (e' := upd s (v * 256 + i) (bw_i (decide (i < n) && F i))) (by rw [nI_clamp (by omega), hx]) (nm_r (nI_1 i) (k _ ⟨bw_updO hI.1 rfl, fun j hj => ?_⟩))⟩
      rw [pk_un (by omega)]
      exact hI.2 j hj
    refine br_f (nI_ge (b := 256) hi (by omega)) ?_
    by_cases q : n ≤ i
    · refine br_t (nI_le q (by omega)) (fin 0 ?_)
      rw [decide_eq_false (by omega), Bool.false_and]
      exact bw_nar0
    · refine br_f (nI_ge (by omega) (by omega)) ⟨vp_in_nI (by omega) (by omega), ?_⟩
      rw [nI_clamp (by omega), hr i (by omega)]
      refine bw_c (fun z => fin 0 ?_) (fun z => fin 1 ?_)
      · rw [z, Bool.and_false]
        exact bw_nar0
      · rw [z, decide_eq_true (by omega), Bool.true_and]
        exact bw_nar1
end
section
/-- how many of the first n are true -/
def bw_cn (f : Nat → Bool) : Nat → Nat
  | 0 => 0
  | n + 1 => bw_cn f n + (if f n = true then 1 else 0)
theorem bw_cnT {f : Nat → Bool} {n : Nat} (h : f n = true) : bw_cn f (n + 1) = bw_cn f n + 1 := by
  show bw_cn f n + (if f n = true then 1 else 0) = _
  rw [if_pos h]
theorem bw_cnF {f : Nat → Bool} {n : Nat} (h : f n = false) : bw_cn f (n + 1) = bw_cn f n := by
  show bw_cn f n + (if f n = true then 1 else 0) = _
  rw [if_neg (by rw [h]; decide)]
  rfl
theorem bw_cn_le (f : Nat → Bool) (n : Nat) : bw_cn f n ≤ n := by
  induction n with
  | zero => exact Nat.le_refl _
  | succ n ih =>
    cases h : f n
    · rw [bw_cnF h]; omega
    · rw [bw_cnT h]; omega
theorem bw_cn_congr {f g : Nat → Bool} {n : Nat} (h : ∀ i, i < n → f i = g i) : bw_cn f n = bw_cn g n := by
  induction n with
  | zero => rfl
  | succ n ih =>
    have e := ih (fun i hi => h i (by omega))
    cases hf : f n
    · rw [bw_cnF hf, bw_cnF (by rw [← h n (by omega)]; exact hf), e]
    · rw [bw_cnT hf, bw_cnT (by rw [← h n (by omega)]; exact hf), e]
theorem bw_cn_mono (f : Nat → Bool) {a b : Nat} (h : a ≤ b) : bw_cn f a ≤ bw_cn f b := by
  induction b with
  | zero => obtain rfl : a = 0 := by omega
            exact Nat.le_refl _
  | succ b ih =>
    by_cases q : a = b + 1
    · subst q; exact Nat.le_refl _
    · have := ih (by omega)
      cases hf : f b
      · rw [bw_cnF hf]; omega
      · rw [bw_cnT hf]; omega
theorem bw_cn_0 {f : Nat → Bool} {a : Nat} (h : ∀ i, i < a → f i = false) : bw_cn f a = 0 := by
  induction a with
  | zero => rfl
  | succ a ih => rw [bw_cnF (h a (by omega))]; exact ih (fun i hi => h i (by omega))
theorem bw_cn_end {f : Nat → Bool} {a b : Nat} (hab : a ≤ b) (h : ∀ i, a ≤ i → i < b → f i = false) : bw_cn f b = bw_cn f a := by
  induction b with
  | zero => obtain rfl : a = 0 := by omega
            rfl
  | succ b ih =>
    by_cases q : a = b + 1
    · subst q; rfl
    · rw [bw_cnF (h b (by omega) (by omega))]
      exact ih (by omega) (fun i h1 h2 => h i h1 (by omega))
/-- all of them from i on, k in a row -/
def bw_all (f : Nat → Bool) (i k : Nat) : Prop := ∀ j, i ≤ j → j < i + k → f j = true
theorem bw_cn_win {f : Nat → Bool} (i k : Nat) (n : Nat) : ∀ d, d ≤ k → i + d ≤ n → bw_cn (fun j => decide (i ≤ j) && decide (j < i + d) && f j) n ≤ d ∧ (bw_cn (fun j => decide (i ≤ j) && decide (j < i + d) && f j) n = d ↔ bw_all f i d) := by
  intro d
  induction d with
  | zero =>
    intro _ _
    have e : bw_cn (fun j => decide (i ≤ j) && decide (j < i + 0) && f j) n = 0 := bw_cn_0 (fun j _ => by
      by_cases h : i ≤ j
      · rw [decide_eq_false (p := j < i + 0) (by omega), Bool.and_false, Bool.false_and]
      · rw [decide_eq_false (p := i ≤ j) h, Bool.false_and, Bool.false_and])
    rw [e]
    exact ⟨Nat.le_refl _, fun _ j h1 h2 => absurd h2 (by omega), fun _ => rfl⟩
  | succ d ih =>
    intro hd hn
    have ih := ih (by omega) (by omega)
    have e1 : bw_cn (fun j => decide (i ≤ j) && decide (j < i + (d + 1)) && f j) n = bw_cn (fun j => decide (i ≤ j) && decide (j < i + (d + 1)) && f j) (i + d + 1) := bw_cn_end (by omega) (fun j h1 h2 => by
      rw [decide_eq_false (p := j < i + (d + 1)) (by omega), Bool.and_false, Bool.false_and])
    have e2 : bw_cn (fun j => decide (i ≤ j) && decide (j < i + d) && f j) n = bw_cn (fun j => decide (i ≤ j) && decide (j < i + d) && f j) (i + d) := bw_cn_end (by omega) (fun j h1 h2 => by
      rw [decide_eq_false (p := j < i + d) (by omega), Bool.and_false, Bool.false_and])
    have e3 : bw_cn (fun j => decide (i ≤ j) && decide (j < i + (d + 1)) && f j) (i + d) = bw_cn (fun j => decide (i ≤ j) && decide (j < i + d) && f j) (i + d) := bw_cn_congr (fun j hj => by
      rw [decide_eq_true (p := j < i + (d + 1)) (by omega), decide_eq_true (p := j < i + d) (by omega)])
    rw [e2] at ih
    rw [e1]
    cases hf : f (i + d)
    · rw [bw_cnF (by rw [hf, Bool.and_false]), e3]
      refine ⟨by omega, fun q => absurd q (by omega), fun q => ?_⟩
      have := q (i + d) (by omega) (by omega)
      rw [hf] at this
      exact absurd this (by decide)
    · rw [bw_cnT (by rw [hf, Bool.and_true, decide_eq_true (p := i ≤ i + d) (by omega), decide_eq_true (p := i + d < i + (d + 1)) (by omega)]; rfl), e3]
      refine ⟨by omega, fun q j h1 h2 => ?_, fun q => ?_⟩
      · by_cases z : j = i + d
        · subst z; exact hf
        · exact ih.2.mp (by omega) j h1 (by omega)
      · have := ih.2.mpr (fun j h1 h2 => q j h1 (by omega))
        omega
section
variable {B : Nat → Nat → Bool} {L : Nat → Nat} {e l : Nat → Int32}
theorem bx_cnt (hP : bw_P B L e l) {v : Nat} (hv : v < 6) (w : Nat → Int32) {first b : Nat} (hf : first < 2 ^ 31) (hb : b ≤ 256) {last : Int32} (hl : ∀ i : Nat, i < 2 ^ 31 → (last < nI i ↔ b ≤ i)) {post : Int32 → Prop}
    (h : post (nI (bw_cn (fun i => decide (first ≤ i) && decide (i < b) && B v i) 256))) : wpX_countTrue post (e, l, w) (nI v) (nI first) last := by
  unfold wpX_countTrue
  dsimp only
  by_cases q : b ≤ first
  · refine ⟨1, br_t ((hl first hf).mpr q) ?_⟩
    rw [bw_cn_0 (fun i _ => by
      by_cases z : first ≤ i
      · rw [decide_eq_false (p := i < b) (by omega), Bool.and_false, Bool.false_and]
      · rw [decide_eq_false (p := first ≤ i) z, Bool.false_and, Bool.false_and])] at h
    exact h
  · refine pk_loop (fun n' i (s : Int32) => wX_countTrue_6 post (nI v) last e l w n' s (nI i)) (fun i s => first ≤ i ∧ s = nI (bw_cn (fun i => decide (first ≤ i) && decide (i < b) && B v i) i)) b first 0 (by omega) ⟨Nat.le_refl _, ?_⟩ ?_ ?_
    · rw [bw_cn_0 (fun i hi => by rw [decide_eq_false (p := first ≤ i) (by omega), Bool.false_and, Bool.false_and])]
      rfl
    · intro n' s hI
      refine br_t ((hl b (by omega)).mpr (Nat.le_refl _)) ?_
      rw [hI.2, ← bw_cn_end (b := 256) hb (fun i h1 h2 => by rw [decide_eq_false (p := i < b) (by omega), Bool.and_false, Bool.false_and])]
      exact h
    · intro n' i s hi hI k
      refine br_f (fun z => absurd ((hl i (by omega)).mp z) (by omega)) (bx_elN hP hv w (by omega) (bw_c (fun z => nm_r (nI_1 i) (k _ ⟨by omega, ?_⟩)) (fun z => nm_r (e' := nI (bw_cn (fun i => decide (first ≤ i) && decide (i < b) && B v i) i + 1)) ?_ (nm_r (nI_1 i) (k _ ⟨by omega, ?_⟩)))))
      · rw [hI.2, bw_cnF (by rw [z, Bool.and_false])]
      · rw [hI.2, nI_1]
      · rw [bw_cnT (by rw [z, Bool.and_true, decide_eq_true (p := first ≤ i) hI.1, decide_eq_true (p := i < b) hi]; rfl)]
theorem by_upTo (hP : bw_P B L e l) {v : Nat} (hv : v < 6) (w : Nat → Int32) {i0 : Nat} (hi0 : i0 < 2 ^ 30) {post : Int32 → Prop} (h : post (nI (bw_cn (B v) (i0 + 1)))) : wpY_upTo post (e, l, w) (nI v) (nI i0) := by
  unfold wpY_upTo
  dsimp only
  refine loop_0 (fun n' i (s : Int32) => wY_upTo_5 post (nI v) (nI i0) e l w n' s (nI i)) (fun i s => s = nI (bw_cn (B v) i)) (i0 + 1) 0 rfl ?_ ?_
  · intro n' s hI
    refine br_t (nI_lt (by omega) (by omega)) ?_
    rw [hI]
    exact h
  · intro n' i s hi hI k
    refine br_f (nI_nlt (by omega) (by omega)) (by_elN hP hv w (by omega) (bw_c (fun z => nm_r (nI_1 i) (k _ ?_)) (fun z => nm_r (e' := nI (bw_cn (B v) i + 1)) ?_ (nm_r (nI_1 i) (k _ ?_)))))
    · rw [hI, bw_cnF z]
    · rw [hI, nI_1]
    · rw [bw_cnT z]
/-- what count answers -/
def bw_ct (f : Nat → Bool) (a b : Int) : Nat := bw_cn (fun i => decide (a ≤ (i : Int)) && decide ((i : Int) ≤ b) && f i) 256
theorem bw_nlt (i : Nat) (x : Int32) (hi : i < 2 ^ 31) : nI i < x ↔ (i : Int) < x.toInt := by rw [Int32.lt_iff_toInt_lt, nI_toInt hi]
theorem bw_ltn (i : Nat) (x : Int32) (hi : i < 2 ^ 31) : x < nI i ↔ x.toInt < (i : Int) := by rw [Int32.lt_iff_toInt_lt, nI_toInt hi]
theorem by_cnt (hP : bw_P B L e l) {v : Nat} (hv : v < 6) (w : Nat → Int32) {a b : Int32} {post : Int32 → Prop} (h : post (nI (bw_ct (B v) a.toInt b.toInt))) : wpY_count post (e, l, w) (nI v) a b := by
  unfold wpY_count
  dsimp only
  refine by_iv hv (br_t rfl ?_)
  refine loop_0 (fun n' i (s : Int32) => wY_count_16 post (nI v) a b e l w n' s (nI i)) (fun i s => s = nI (bw_cn (fun i => decide (a.toInt ≤ (i : Int)) && decide ((i : Int) ≤ b.toInt) && B v i) i)) 256 0 rfl ?_ ?_
  · intro n' s hI
    refine br_t (nI_le (a := 256) (Nat.le_refl _) (by omega)) ?_
    rw [hI]
    exact h
  · intro n' i s hi hI k
    refine br_f (nI_ge (b := 256) hi (by omega)) ?_
    by_cases h1 : nI i < a
    · refine br_t h1 (nm_r (nI_1 i) (k _ ?_))
      rw [bw_nlt i a (by omega)] at h1
      rw [hI, bw_cnF (by rw [decide_eq_false (p := a.toInt ≤ (i : Int)) (by omega), Bool.false_and, Bool.false_and])]
    · refine br_f h1 ?_
      by_cases h2 : b < nI i
      · refine br_t h2 (nm_r (nI_1 i) (k _ ?_))
        rw [bw_ltn i b (by omega)] at h2
        rw [hI, bw_cnF (by rw [decide_eq_false (p := (i : Int) ≤ b.toInt) (by omega), Bool.and_false, Bool.false_and])]
      · refine br_f h2 (by_elN hP hv w (by omega) (bw_c (fun z => nm_r (nI_1 i) (k _ ?_)) (fun z => nm_r (e' := nI (bw_cn (fun i => decide (a.toInt ≤ (i : Int)) && decide ((i : Int) ≤ b.toInt) && B v i) i + 1)) ?_ (nm_r (nI_1 i) (k _ ?_)))))
        · rw [hI, bw_cnF (by rw [z, Bool.and_false])]
        · rw [hI, nI_1]
        · rw [bw_nlt i a (by omega)] at h1
          rw [bw_ltn i b (by omega)] at h2
          rw [bw_cnT (by rw [z, Bool.and_true, decide_eq_true (p := a.toInt ≤ (i : Int)) (by omega), decide_eq_true (p := (i : Int) ≤ b.toInt) (by omega)]; rfl)]
/-- what place answers: the search from i on, d places more -/
def bw_pl (f : Nat → Bool) (q : Int32) : Nat → Nat → Int32
  | 0, _ => -4
  | d + 1, i => if f i = true then (if nI (bw_cn f i) = q then nI i else bw_pl f q d (i + 1)) else bw_pl f q d (i + 1)
theorem bw_plF {f : Nat → Bool} {q : Int32} {d i : Nat} (h : f i = false) : bw_pl f q (d + 1) i = bw_pl f q d (i + 1) := if_neg (by rw [h]; decide)
theorem bw_plT {f : Nat → Bool} {q : Int32} {d i : Nat} (h : f i = true) (h2 : nI (bw_cn f i) = q) : bw_pl f q (d + 1) i = nI i := by
  show (if f i = true then _ else _) = _
  rw [if_pos h, if_pos h2]
theorem bw_plN {f : Nat → Bool} {q : Int32} {d i : Nat} (h : f i = true) (h2 : ¬ nI (bw_cn f i) = q) : bw_pl f q (d + 1) i = bw_pl f q d (i + 1) := by
  show (if f i = true then _ else _) = _
  rw [if_pos h, if_neg h2]
theorem bw_pl_none {f : Nat → Bool} {q : Int32} : ∀ d i, (∀ j, i ≤ j → f j = false) → bw_pl f q d i = -4 := by
  intro d
  induction d with
  | zero => intro i _; rfl
  | succ d ih =>
    intro i h
    rw [bw_plF (h i (Nat.le_refl _))]
    exact ih (i + 1) (fun j hj => h j (by omega))
theorem bw_pl_at {f : Nat → Bool} {p : Nat} (hp : f p = true) (h31 : p < 2 ^ 31) : ∀ d i, i ≤ p → p < i + d → bw_pl f (nI (bw_cn f p)) d i = nI p := by
  intro d
  induction d with
  | zero => intro i h1 h2; omega
  | succ d ih =>
    intro i h1 h2
    by_cases q : i = p
    · subst q; exact bw_plT hp rfl
    · cases hf : f i
      · rw [bw_plF hf]; exact ih (i + 1) (by omega) (by omega)
      · rw [bw_plN hf]
        · exact ih (i + 1) (by omega) (by omega)
        · have a1 := bw_cn_mono f (a := i + 1) (b := p) (by omega)
          rw [bw_cnT hf] at a1
          have a2 := bw_cn_le f p
          rw [nI_eq (by omega) (by omega)]
          omega
theorem bx_pl (hP : bw_P B L e l) {v : Nat} (hv : v < 6) (w : Nat → Int32) {q : Int32} {post : Int32 → Prop} (h : post (bw_pl (B v) q 256 0)) : ∃ n14 : Nat, wX_place_14 post (nI v) q e l w n14 0 0 := by
  obtain ⟨hL, hl, he, hb⟩ := hP v hv
  refine loop_0 (fun n' i (s : Int32) => wX_place_14 post (nI v) q e l w n' s (nI i)) (fun i s => s = nI (bw_cn (B v) i) ∧ bw_pl (B v) q (256 - i) i = bw_pl (B v) q 256 0) (L v) 0 ⟨rfl, rfl⟩ ?_ ?_
  · intro n' s hI
    refine ⟨vp_in_nI hv (by omega), ?_⟩
    rw [nI_clamp (by omega), hl]
    refine br_t (nI_le (Nat.le_refl _) (by omega)) ?_
    rw [← hI.2, bw_pl_none _ _ hb] at h
    exact h
  · intro n' i s hi hI k
    refine ⟨vp_in_nI hv (by omega), ?_⟩
    rw [nI_clamp (by omega), hl]
    have e256 : 256 - i = (256 - (i + 1)) + 1 := by omega
    rw [e256] at hI
    refine br_f (nI_ge hi (by omega)) (bx_elN hP hv w (by omega) (bw_c (fun z => nm_r (nI_1 i) (k _ ⟨?_, ?_⟩)) (fun z => ?_)))
    · rw [hI.1, bw_cnF z]
    · rw [← hI.2, bw_plF z]
    · by_cases z2 : nI (bw_cn (B v) i) = q
      · refine br_t (by rw [hI.1]; exact z2) ?_
        rw [← hI.2, bw_plT z z2] at h
        exact h
      · refine br_f (by rw [hI.1]; exact z2) (nm_r (e' := nI (bw_cn (B v) i + 1)) (by rw [hI.1, nI_1]) (nm_r (nI_1 i) (k _ ⟨?_, ?_⟩)))
        · rw [bw_cnT z]
        · rw [← hI.2, bw_plN z z2]
theorem by_pl (hP : bw_P B L e l) {v : Nat} (hv : v < 6) (w : Nat → Int32) {q : Int32} {post : Int32 → Prop} (h : post (bw_pl (B v) q 256 0)) : wpY_place post (e, l, w) (nI v) q := by
  unfold wpY_place
  dsimp only
  refine by_iv hv (br_t rfl ?_)
  refine loop_0 (fun n' i (s : Int32) => wY_place_15 post (nI v) q e l w n' s (nI i)) (fun i s => s = nI (bw_cn (B v) i) ∧ bw_pl (B v) q (256 - i) i = bw_pl (B v) q 256 0) 256 0 ⟨rfl, rfl⟩ ?_ ?_
  · intro n' s hI
    refine br_t (nI_le (a := 256) (Nat.le_refl _) (by omega)) ?_
    rw [← hI.2] at h
    exact h
  · intro n' i s hi hI k
    have e256 : 256 - i = (256 - (i + 1)) + 1 := by omega
    rw [e256] at hI
    refine br_f (nI_ge (b := 256) hi (by omega)) (by_elN hP hv w (by omega) (bw_c (fun z => nm_r (nI_1 i) (k _ ⟨?_, ?_⟩)) (fun z => ?_)))
    · rw [hI.1, bw_cnF z]
    · rw [← hI.2, bw_plF z]
    · by_cases z2 : nI (bw_cn (B v) i) = q
      · refine br_t (by rw [hI.1]; exact z2) ?_
        rw [← hI.2, bw_plT z z2] at h
        exact h
      · refine br_f (by rw [hI.1]; exact z2) (nm_r (e' := nI (bw_cn (B v) i + 1)) (by rw [hI.1, nI_1]) (nm_r (nI_1 i) (k _ ⟨?_, ?_⟩)))
        · rw [bw_cnT z]
        · rw [← hI.2, bw_plN z z2]
end
end
section
/-- what findRun answers: the first start of k in a row at or behind a -/
def bw_FR (f : Nat → Bool) (a k : Nat) (r : Int32) : Prop :=
  (∃ i, a ≤ i ∧ r = nI i ∧ bw_all f i k ∧ ∀ s, a ≤ s → s < i → ¬ bw_all f s k) ∨ (r = -4 ∧ ∀ s, a ≤ s → ¬ bw_all f s k)
theorem bw_FR_u {f : Nat → Bool} {a k : Nat} {r r' : Int32} (h1 : bw_FR f a k r) (h2 : bw_FR f a k r') : r' = r := by
  rcases h1 with ⟨i, a1, a2, a3, a4⟩ | ⟨a2, a3⟩
  · rcases h2 with ⟨j, b1, b2, b3, b4⟩ | ⟨b2, b3⟩
    · have e : i = j := by
        by_cases c1 : i < j
        · exact absurd a3 (b4 i a1 c1)
        · by_cases c2 : j < i
          · exact absurd b3 (a4 j b1 c2)
          · omega
      rw [a2, b2, e]
    · exact absurd a3 (b3 i a1)
  · rcases h2 with ⟨j, b1, b2, b3, b4⟩ | ⟨b2, b3⟩
    · exact absurd b3 (a3 j b1)
    · rw [a2, b2]
theorem bw_sub1 {i k c : Nat} (h : i + 1 = c + k) : nI i - nI k + 1 = nI c := by
  have e : nI i + 1 = nI c + nI k := by rw [nI_1, nI_add, h]
  have e2 : nI i - nI k + 1 = nI i + 1 - nI k := by
    rw [Int32.sub_eq_add_neg, Int32.sub_eq_add_neg, Int32.add_assoc, Int32.add_assoc, Int32.add_comm (-nI k) 1]
  rw [e2, e, Int32.add_sub_cancel]
theorem bw_cmpTo (i k : Nat) (hi : i < 2 ^ 20) (hk : k < 2 ^ 20) (h0 : 0 < k) : (nI i + nI k - 1).toInt = (i : Int) + k - 1 := by
  have e : nI i + nI k - 1 = nI (i + k - 1) := by
    rw [nI_add, show i + k = (i + k - 1) + 1 from by omega, nI_pred]
    rfl
  rw [e, nI_toInt (by omega)]
  omega
section
variable {B : Nat → Nat → Bool} {L : Nat → Nat} {e l : Nat → Int32}
theorem bx_fr (hP : bw_P B L e l) {v : Nat} (hv : v < 6) (w : Nat → Int32) {a k : Nat} (ha : a < 2 ^ 31) (h0 : 0 < k) (hk : k ≤ 256) {post : Int32 → Prop} (h : ∀ r, bw_FR (B v) a k r → post r) : ∃ n37 : Nat, wX_findRun_37 post (nI v) (nI k) e l w n37 0 (nI a) := by
  obtain ⟨hL, hl, he, hb⟩ := hP v hv
  by_cases q : L v ≤ a
  · refine ⟨1, vp_in_nI hv (by omega), ?_⟩
    rw [nI_clamp (by omega), hl]
    refine br_t (nI_le q ha) (h _ (Or.inr ⟨rfl, fun s hs z => ?_⟩))
    have := z s (Nat.le_refl _) (by omega)
    rw [hb s (by omega)] at this
    exact absurd this (by decide)
  · refine pk_loop (fun n' i (s : Int32) => wX_findRun_37 post (nI v) (nI k) e l w n' s (nI i)) (fun i s => ∃ t, s = nI t ∧ t < k ∧ a + t ≤ i ∧ (∀ j, i - t ≤ j → j < i → B v j = true) ∧ (a + t = i ∨ B v (i - t - 1) = false) ∧ (∀ s, a ≤ s → s + k ≤ i → ¬ bw_all (B v) s k)) (L v) a 0 (by omega) ⟨0, rfl, h0, by omega, fun j h1 h2 => absurd h2 (by omega), Or.inl rfl, fun s h1 h2 => absurd h2 (by omega)⟩ ?_ ?_
    · intro n' s hI
      obtain ⟨t, rfl, ht, hat, hin, hbe, hno⟩ := hI
      refine ⟨vp_in_nI hv (by omega), ?_⟩
      rw [nI_clamp (by omega), hl]
      refine br_t (nI_le (Nat.le_refl _) (by omega)) (h _ (Or.inr ⟨rfl, fun s hs z => ?_⟩))
      by_cases c : s + k ≤ L v
      · exact hno s hs c z
      · have := z (s + k - 1) (by omega) (by omega)
        rw [hb _ (by omega)] at this
        exact absurd this (by decide)
    · intro n' i s hi hI kk
      obtain ⟨t, rfl, ht, hat, hin, hbe, hno⟩ := hI
      refine ⟨vp_in_nI hv (by omega), ?_⟩
      rw [nI_clamp (by omega), hl]
      refine br_f (nI_ge hi (by omega)) (bx_elN hP hv w (by omega) (bw_c (fun z => ?_) (fun z => ?_)))
      · refine br_f (fun c => nI_ne0 h0 (by omega) c.symm) (nm_r (nI_1 i) (kk _ ⟨0, rfl, h0, by omega, fun j h1 h2 => absurd h2 (by omega), Or.inr ?_, fun s h1 h2 c => ?_⟩))
        · rw [show i + 1 - 0 - 1 = i from by omega]
          exact z
        · by_cases d : s + k ≤ i
          · exact hno s h1 d c
          · have := c i (by omega) (by omega)
            rw [z] at this
            exact absurd this (by decide)
      · by_cases d : t + 1 = k
        · refine br_t (by rw [nI_1, d]) (h _ (Or.inl ⟨i + 1 - k, by omega, bw_sub1 (by omega), fun j h1 h2 => ?_, fun s h1 h2 => hno s h1 (by omega)⟩))
          by_cases c : j = i
          · subst c; exact z
          · exact hin j (by omega) (by omega)
        · refine br_f (fun c => d ?_) (nm_r (nI_1 i) (kk _ ⟨t + 1, nI_1 t, by omega, by omega, fun j h1 h2 => ?_, ?_, fun s h1 h2 c => ?_⟩))
          · rw [nI_1, nI_eq (by omega) (by omega)] at c
            exact c
          · by_cases c : j = i
            · subst c; exact z
            · exact hin j (by omega) (by omega)
          · rcases hbe with c | c
            · exact Or.inl (by omega)
            · refine Or.inr ?_
              rw [show i + 1 - (t + 1) - 1 = i - t - 1 from by omega]
              exact c
          · by_cases f : s + k ≤ i
            · exact hno s h1 f c
            · rcases hbe with g | g
              · omega
              · have := c (i - t - 1) (by omega) (by omega)
                rw [g] at this
                exact absurd this (by decide)
theorem by_fr (hP : bw_P B L e l) {v : Nat} (hv : v < 6) (w : Nat → Int32) {a k : Nat} (ha : a < 2 ^ 31) (h0 : 0 < k) (hk : k ≤ 256) {post : Int32 → Prop} (h : ∀ r, bw_FR (B v) a k r → post r) : ∃ n28 : Nat, wY_findRun_28 post (nI v) (nI a) (nI k) e l w n28 0 := by
  obtain ⟨hL, hl, he, hb⟩ := hP v hv
  have ex : (256 : Int32) - nI k = nI (256 - k) := pk_sub (a := 256) hk
  refine loop_0 (fun n' i (_ : Unit) => wY_findRun_28 post (nI v) (nI a) (nI k) e l w n' (nI i)) (fun i _ => ∀ s, a ≤ s → s < i → ¬ bw_all (B v) s k) (256 - k + 1) () (fun s _ hs => absurd hs (by omega)) ?_ ?_
  · intro n' s hI
    refine br_t (by rw [ex]; exact nI_lt (by omega) (by omega)) (h _ (Or.inr ⟨rfl, fun s hs z => ?_⟩))
    by_cases c : s < 256 - k + 1
    · exact hI s hs c z
    · have := z (s + k - 1) (by omega) (by omega)
      rw [hb _ (by omega)] at this
      exact absurd this (by decide)
  · intro n' i u hi hI kk
    refine br_f (by rw [ex]; exact nI_nlt (by omega) (by omega)) (br_f (nI_pos ha) ?_)
    by_cases c : i < a
    · exact br_t (nI_lt c ha) (nm_r (nI_1 i) (kk () (fun s h1 h2 => absurd h2 (by omega))))
    · refine br_f (nI_nlt (by omega) (by omega)) (by_cnt hP hv w ?_)
      have key : bw_ct (B v) (nI i).toInt (nI i + nI k - 1).toInt = bw_cn (fun j => decide (i ≤ j) && decide (j < i + k) && B v j) 256 := by
        rw [bw_cmpTo i k (by omega) (by omega) h0, nI_toInt (by omega)]
        refine bw_cn_congr (fun j _ => ?_)
        rw [show decide ((i : Int) ≤ (j : Int)) = decide (i ≤ j) from decide_eq_decide.mpr (by omega), show decide ((j : Int) ≤ (i : Int) + k - 1) = decide (j < i + k) from decide_eq_decide.mpr (by omega)]
      have W := bw_cn_win (f := B v) i k 256 k (Nat.le_refl _) (by omega)
      rw [key]
      by_cases d : bw_all (B v) i k
      · exact br_t (by rw [W.2.mpr d]) (h _ (Or.inl ⟨i, by omega, rfl, d, hI⟩))
      · refine br_f (fun z => d (W.2.mp ((nI_eq (by omega) (by omega)).mp z))) (nm_r (nI_1 i) (kk () (fun s h1 h2 => ?_)))
        by_cases g : s = i
        · subst g; exact d
        · exact hI s h1 (by omega)
theorem by_frn (w : Nat → Int32) {v : Nat} {x : Int32} (hx : x < 0) {k : Nat} (h0 : 0 < k) (hk : k ≤ 256) {post : Int32 → Prop} (h : post (-4)) : ∃ n28 : Nat, wY_findRun_28 post (nI v) x (nI k) e l w n28 0 := by
  have ex : (256 : Int32) - nI k = nI (256 - k) := pk_sub (a := 256) hk
  refine loop_0 (fun n' i (_ : Unit) => wY_findRun_28 post (nI v) x (nI k) e l w n' (nI i)) (fun i _ => True) (256 - k + 1) () trivial ?_ ?_
  · intro n' s hI
    exact br_t (by rw [ex]; exact nI_lt (by omega) (by omega)) h
  · intro n' i u hi hI kk
    exact br_f (by rw [ex]; exact nI_nlt (by omega) (by omega)) (br_t hx (nm_r (nI_1 i) (kk () trivial)))
/-- what compare answers: the first d places, from the highest down -/
def bw_cp (f g : Nat → Bool) : Nat → Int32
  | 0 => 0
  | d + 1 => if f d = g d then bw_cp f g d else if f d = true then 1 else -1
theorem bw_cpE {f g : Nat → Bool} {d : Nat} (h : f d = g d) : bw_cp f g (d + 1) = bw_cp f g d := if_pos h
theorem bw_cp1 {f g : Nat → Bool} {d : Nat} (h : ¬ f d = g d) (h2 : f d = true) : bw_cp f g (d + 1) = 1 := by
  show (if f d = g d then _ else _) = _
  rw [if_neg h, if_pos h2]
theorem bw_cp0 {f g : Nat → Bool} {d : Nat} (h : ¬ f d = g d) (h2 : f d = false) : bw_cp f g (d + 1) = -1 := by
  show (if f d = g d then _ else _) = _
  rw [if_neg h, if_neg (by rw [h2]; decide)]
def bw_dn (d : Nat) : Int32 := match d with
  | 0 => -1
  | d + 1 => nI d
theorem bw_dnS (d : Nat) : nI d + (-1) = bw_dn d := by
  cases d with
  | zero => decide
  | succ d => exact pk_m1 d
theorem bx_cp (hP : bw_P B L e l) {a b : Nat} (ha : a < 6) (hb : b < 6) (w : Nat → Int32) {post : Int32 → Prop} : ∀ d, d ≤ 256 → post (bw_cp (B a) (B b) d) → wX_compare_20 post (nI a) (nI b) e l w (d + 1) (bw_dn d) := by
  intro d
  induction d with
  | zero => intro _ h; exact br_t (by decide) h
  | succ d ih =>
    intro hd h
    refine br_f (nI_pos (by omega)) (bx_elN hP ha w (by omega) (bx_elN hP hb w (by omega) (bw_ceq (fun z => nm_r (bw_dnS d) (ih (by omega) ?_)) (fun z => bw_c (fun y => ?_) (fun y => ?_)))))
    · rw [bw_cpE z] at h; exact h
    · rw [bw_cp0 z y] at h; exact h
    · rw [bw_cp1 z y] at h; exact h
theorem by_cp (hP : bw_P B L e l) {a b : Nat} (ha : a < 6) (hb : b < 6) (w : Nat → Int32) {post : Int32 → Prop} : ∀ d, d ≤ 256 → post (bw_cp (B a) (B b) d) → wY_compare_22 post (nI a) (nI b) e l w (d + 1) (bw_dn d) := by
  intro d
  induction d with
  | zero => intro _ h; exact br_t (by decide) h
  | succ d ih =>
    intro hd h
    refine br_f (nI_pos (by omega)) (by_elN hP ha w (by omega) (by_elN hP hb w (by omega) (bw_ceq (fun z => nm_r (bw_dnS d) (ih (by omega) ?_)) (fun z => by_elN hP ha w (by omega) (bw_c (fun y => ?_) (fun y => ?_))))))
    · rw [bw_cpE z] at h; exact h
    · rw [bw_cp0 z y] at h; exact h
    · rw [bw_cp1 z y] at h; exact h
theorem bx_mk (hP : bw_P B L e l) {v : Nat} (hv : v < 6) {n : Nat} (hn : n ≤ 256) (r : Nat → Int32) {post : Int32 → SX → Prop} (h : ∀ e' l' r', bw_P (bw_sB B v n (fun _ => false)) (bw_sL L v n) e' l' → post (nI n) (e', l', r')) : ∃ n25 : Nat, wX_make_25 post (nI v) (nI n) n25 0 e l r := by
  refine loop_0 (fun n' i s => wX_make_25 post (nI v) (nI n) n' (nI i) e l s) (fun i s => ∀ j, j < i → s j = bw_i ((fun _ => false) j)) n r (fun j hj => absurd hj (by omega)) ?_ ?_
  · intro n' s hI
    exact br_t (nI_le (Nat.le_refl _) (by omega)) (bx_rep hP hv hn (fun _ => false) hI (fun e' l' q => h e' l' s q))
  · intro n' i s hi hI k
    exact br_f (nI_ge hi (by omega)) (bw_st false (by omega) bw_nar0 (k _ (bw_upd (F := fun _ => false) hI rfl)))
theorem by_mk (hP : bw_P B L e l) {v : Nat} (hv : v < 6) {n : Nat} (hn : n ≤ 256) (r : Nat → Int32) {post : Int32 → SY → Prop} (h : ∀ e' l' r', bw_P (bw_sB B v n (fun _ => false)) (bw_sL L v n) e' l' → post (nI n) (e', l', r')) : ∃ n26 : Nat, wY_make_26 post (nI v) (nI n) n26 0 e l r := by
  refine loop_0 (fun n' i s => wY_make_26 post (nI v) (nI n) n' (nI i) e l s) (fun i s => ∀ j, j < i → s j = bw_i ((fun _ => false) j)) 256 r (fun j hj => absurd hj (by omega)) ?_ ?_
  · intro n' s hI
    exact br_t (nI_le (a := 256) (Nat.le_refl _) (by omega)) (by_bec hP hv hn (fun _ => false) (fun i hi => hI i (by omega)) (fun e' l' q => h e' l' s q))
  · intro n' i s hi hI k
    exact br_f (nI_ge (b := 256) hi (by omega)) (bw_st false (by omega) bw_nar0 (k _ (bw_upd (F := fun _ => false) hI rfl)))
def bw_pB (B : Nat → Nat → Bool) (v o n : Nat) (g : Nat → Bool) : Nat → Nat → Bool := fun v' i => if v' = v ∧ o ≤ i ∧ i < o + n then g (i - o) else B v' i
theorem bw_putP {e' : Nat → Int32} (hP : bw_P B L e l) {v o n : Nat} (hv : v < 6) (hn : o + n ≤ L v) {g : Nat → Bool} (h1 : ∀ j, j < n → e' (v * 256 + o + j) = bw_i (g j)) (h2 : ∀ j, (j < v * 256 + o ∨ v * 256 + o + n ≤ j) → e' j = e j) : bw_P (bw_pB B v o n g) L e' l := by
  intro v' hv'
  obtain ⟨a1, a2, a3, a4⟩ := hP v' hv'
  refine ⟨a1, a2, fun i hi => ?_, fun i hi => ?_⟩
  · unfold bw_pB
    by_cases q : v' = v ∧ o ≤ i ∧ i < o + n
    · rw [if_pos q, ← h1 (i - o) (by omega), q.1]
      exact congrArg e' (by omega)
    · rw [if_neg q, h2 _ ?_]
      · exact a3 i hi
      · by_cases z : v' = v
        · subst z; omega
        · have b1 := (hP v hv).1
          omega
  · unfold bw_pB
    rw [if_neg, a4 i hi]
    intro q
    obtain ⟨q1, q2, q3⟩ := q
    subst q1
    omega
def bw_bit (x : Int32) (j : Nat) : Bool := decide (((x >>> (nI j &&& 31)) &&& 1) = 1)
theorem bx_put (hP : bw_P B L e l) {v o n : Nat} (hv : v < 6) (hn : o + n ≤ L v) (x : Int32) (r : Nat → Int32) {post : Int32 → SX → Prop} (h : ∀ e', bw_P (bw_pB B v o n (bw_bit x)) L e' l → post (nI n) (e', l, r)) : ∃ n54 : Nat, wX_put_54 post (nI n) x (nI (v * 256 + o)) n54 0 e l r := by
  have hL := (hP v hv).1
  refine loop_0 (fun n' i s => wX_put_54 post (nI n) x (nI (v * 256 + o)) n' (nI i) s l r) (fun i s => (∀ j, j < i → s (v * 256 + o + j) = bw_i (bw_bit x j)) ∧ (∀ j, (j < v * 256 + o ∨ v * 256 + o + n ≤ j) → s j = e j)) n e ⟨fun j hj => absurd hj (by omega), fun j _ => rfl⟩ ?_ ?_
  · intro n' s hI
    exact br_t (nI_le (Nat.le_refl _) (by omega)) (h _ (bw_putP hP hv hn hI.1 hI.2))
  · intro n' i s hi hI k
    have fin : ∀ (y : Int32), vp_nar .boolean y = bw_i (bw_bit x i) → vp_in (nI (v * 256 + o) + nI i) 1536 ∧ ∀ a : Nat → Int32, a = upd s (nI (v * 256 + o) + nI i).toNatClampNeg (vp_nar .boolean y) → ∀ y : Int32, y = nI i + 1 → wX_put_54 post (nI n) x (nI (v * 256 + o)) n' y a l r := by
      intro y hy
      rw [nI_add]
      refine ⟨vp_in_nI (by omega) (by omega), nm_r (e' := upd s (v * 256 + o + i) (bw_i (bw_bit x i))) (by rw [nI_clamp (by omega), hy]) (nm_r (nI_1 i) (k _ ⟨bw_updO hI.1 rfl, fun j hj => ?_⟩))⟩
      rw [pk_un (by omega)]
      exact hI.2 j hj
    refine br_f (nI_ge hi (by omega)) (br_c (fun z => fin 1 ?_) (fun z => fin 0 ?_))
    · rw [show bw_bit x i = true from decide_eq_true z]; exact bw_nar1
    · rw [show bw_bit x i = false from decide_eq_false z]; exact bw_nar0
theorem by_put (hP : bw_P B L e l) {v o n : Nat} (hv : v < 6) (hn : o + n ≤ L v) (x : Int32) (r : Nat → Int32) {post : Int32 → SY → Prop} (h : ∀ e', bw_P (bw_pB B v o n (bw_bit x)) L e' l → post (nI n) (e', l, r)) : ∃ n46 : Nat, wY_put_46 post (nI v) (nI o) (nI n) x n46 0 e l r := by
  have hL := (hP v hv).1
  refine loop_0 (fun n' i s => wY_put_46 post (nI v) (nI o) (nI n) x n' (nI i) s l r) (fun i s => (∀ j, j < i → s (v * 256 + o + j) = bw_i (bw_bit x j)) ∧ (∀ j, (j < v * 256 + o ∨ v * 256 + o + n ≤ j) → s j = e j)) n e ⟨fun j hj => absurd hj (by omega), fun j _ => rfl⟩ ?_ ?_
  · intro n' s hI
    exact br_t (nI_le (Nat.le_refl _) (by omega)) (h _ (bw_putP hP hv hn hI.1 hI.2))
  · intro n' i s hi hI k
    have fin : ∀ (y : Int32), vp_nar .boolean y = bw_i (bw_bit x i) → vp_in (nI v * 256 + nI o + nI i) 1536 ∧ ∀ a : Nat → Int32, a = upd s (nI v * 256 + nI o + nI i).toNatClampNeg (vp_nar .boolean y) → ∀ y : Int32, y = nI i + 1 → wY_put_46 post (nI v) (nI o) (nI n) x n' y a l r := by
      intro y hy
      rw [bw_ix, nI_add]
      refine ⟨vp_in_nI (by omega) (by omega), nm_r (e' := upd s (v * 256 + o + i) (bw_i (bw_bit x i))) (by rw [nI_clamp (by omega), hy]) (nm_r (nI_1 i) (k _ ⟨bw_updO hI.1 rfl, fun j hj => ?_⟩))⟩
      rw [pk_un (by omega)]
      exact hI.2 j hj
    refine br_f (nI_ge hi (by omega)) (br_c (fun z => fin 1 ?_) (fun z => fin 0 ?_))
    · rw [show bw_bit x i = true from decide_eq_true z]; exact bw_nar1
    · rw [show bw_bit x i = false from decide_eq_false z]; exact bw_nar0
end
end
section
section
variable {B : Nat → Nat → Bool} {L : Nat → Nat} {e l : Nat → Int32}
theorem bw_m1i {m i : Nat} (h : i < m) : nI m - 1 - nI i = nI (m - 1 - i) := by
  have e : nI m - 1 = nI (m - 1) := by
    rw [show m = (m - 1) + 1 from by omega, nI_pred]
    rfl
  rw [e, pk_sub (by omega)]
theorem bw_shI (i : Nat) (k : Int32) (hi : i < 2 ^ 31) : ((nI i).toInt64 + k.toInt64).toInt = (i : Int) + k.toInt := by
  have h1 := Int32.toInt_lt k
  have h2 := Int32.le_toInt k
  rw [Int64.toInt_add, Int32.toInt_toInt64, Int32.toInt_toInt64, nI_toInt hi]
  exact Int.bmod_eq_of_le (by omega) (by omega)
/-- the turn of ROTATE, made positive -/
def bw_tn (k : Int32) (m : Nat) : Nat := (k.toInt.tmod (m : Int) + m).toNat
theorem bw_tnb (k : Int32) {m : Nat} (h0 : 0 < m) : bw_tn k m < 2 * m ∧ (bw_tn k m : Int) = k.toInt.tmod (m : Int) + m := by
  have hb := tmod_bounds (a := k.toInt) (M := (m : Int)) (by omega)
  unfold bw_tn
  omega
theorem bw_tnE (k : Int32) {m : Nat} (h0 : 0 < m) (hm : m ≤ 256) : k - k / nI m * nI m + nI m = nI (bw_tn k m) := by
  have hb := tmod_bounds (a := k.toInt) (M := (m : Int)) (by omega)
  have ht := bw_tnb k h0
  apply Int32.toInt_inj.mp
  rw [Int32.toInt_add, rem_toInt, nI_toInt (by omega), nI_toInt (by omega), ht.2]
  exact Int.bmod_eq_of_le (by omega) (by omega)
theorem bw_emod_of {z r : Int} {m : Nat} (q : Int) (h : z = r + m * q) (h0 : 0 ≤ r) (h1 : r < m) : z % (m : Int) = r := by
  rw [h, Int.add_mul_emod_self_left, Int.emod_eq_of_lt h0 h1]
theorem bw_tmq (z : Int) (m : Nat) : z = z.tmod (m : Int) + m * z.tdiv (m : Int) := by
  have := Int.tmod_add_mul_tdiv z (m : Int)
  omega
theorem bw_rotX (k : Int32) {m : Nat} (i : Nat) (h0 : 0 < m) : (i + bw_tn k m) % m = (((i : Int) + k.toInt) % (m : Int)).toNat := by
  have ht := bw_tnb k h0
  have hq := bw_tmq k.toInt m
  have e : ((i : Int) + k.toInt) % (m : Int) = (((i + bw_tn k m) % m : Nat) : Int) := by
    have e1 : (((i + bw_tn k m) % m : Nat) : Int) = ((i : Int) + k.toInt + (m : Int) * (1 - k.toInt.tdiv (m : Int))) % (m : Int) := by
      rw [Int.natCast_emod]
      congr 1
      rw [Int.natCast_add, ht.2, Int.mul_sub]
      omega
    rw [e1, Int.add_mul_emod_self_left]
  rw [e, Int.toNat_natCast]

theorem bx_not (hP : bw_P B L e l) {a : Nat} (ha : a < 6) (r : Nat → Int32) {post : Int32 → SX → Prop} (h : ∀ r', (∀ i, i < L a → r' i = bw_i (!B a i)) → post (nI (L a)) (e, l, r')) : wpX_buildNot post (e, l, r) (nI a) := by
  obtain ⟨hL, hl, he, hb⟩ := hP a ha
  unfold wpX_buildNot
  dsimp only
  refine ⟨vp_in_nI ha (by omega), nm_r (e' := nI (L a)) (by rw [nI_clamp (by omega), hl]) ?_⟩
  refine loop_0 (fun n' i s => wX_buildNot_9 post (nI a) (nI (L a)) n' (nI i) e l s) (fun i s => ∀ j, j < i → s j = bw_i (!B a j)) (L a) r (fun j hj => absurd hj (by omega)) ?_ ?_
  · intro n' s hI
    exact br_t (nI_le (Nat.le_refl _) (by omega)) (h _ hI)
  · intro n' i s hi hI k
    exact br_f (nI_ge hi (by omega)) (bx_elN hP ha s (by omega) (bw_c (fun z => bw_st true (by omega) bw_nar1 (k _ (bw_upd (F := fun j => !B a j) hI (by rw [z]; rfl)))) (fun z => bw_st false (by omega) bw_nar0 (k _ (bw_upd (F := fun j => !B a j) hI (by rw [z]; rfl))))))
theorem bx_rev (hP : bw_P B L e l) {a : Nat} (ha : a < 6) (r : Nat → Int32) {post : Int32 → SX → Prop} (h : ∀ r', (∀ i, i < L a → r' i = bw_i (B a (L a - 1 - i))) → post (nI (L a)) (e, l, r')) : wpX_buildReverse post (e, l, r) (nI a) := by
  obtain ⟨hL, hl, he, hb⟩ := hP a ha
  unfold wpX_buildReverse
  dsimp only
  refine ⟨vp_in_nI ha (by omega), nm_r (e' := nI (L a)) (by rw [nI_clamp (by omega), hl]) ?_⟩
  refine loop_0 (fun n' i s => wX_buildReverse_9 post (nI a) (nI (L a)) n' (nI i) e l s) (fun i s => ∀ j, j < i → s j = bw_i (B a (L a - 1 - j))) (L a) r (fun j hj => absurd hj (by omega)) ?_ ?_
  · intro n' s hI
    exact br_t (nI_le (Nat.le_refl _) (by omega)) (h _ hI)
  · intro n' i s hi hI k
    refine br_f (nI_ge hi (by omega)) ?_
    rw [bw_m1i hi]
    exact bx_elN hP ha s (by omega) (bw_st (B a (L a - 1 - i)) (by omega) (bw_nar _) (k _ (bw_upd (F := fun j => B a (L a - 1 - j)) hI rfl)))
theorem bx_rot (hP : bw_P B L e l) {a : Nat} (ha : a < 6) (kk : Int32) (r : Nat → Int32) {post : Int32 → SX → Prop} (h : ∀ r', (∀ i, i < L a → r' i = bw_i (B a (((((i : Nat) : Int) + kk.toInt) % ((L a : Nat) : Int)).toNat))) → post (nI (L a)) (e, l, r')) : wpX_buildRotate post (e, l, r) (nI a) kk := by
  obtain ⟨hL, hl, he, hb⟩ := hP a ha
  unfold wpX_buildRotate
  dsimp only
  refine ⟨vp_in_nI ha (by omega), nm_r (e' := nI (L a)) (by rw [nI_clamp (by omega), hl]) ?_⟩
  by_cases h0 : L a = 0
  · refine br_t (by rw [h0]; rfl) ?_
    have := h r (fun i hi => absurd hi (by omega))
    rw [h0] at this
    exact this
  refine br_f (nI_ne0 (by omega) (by omega)) ⟨nI_ne0 (by omega) (by omega), nm_r (bw_tnE kk (by omega) hL) ?_⟩
  refine loop_0 (fun n' i s => wX_buildRotate_23 post (nI a) (nI (L a)) (nI (bw_tn kk (L a))) n' (nI i) e l s) (fun i s => ∀ j, j < i → s j = bw_i (B a (((((j : Nat) : Int) + kk.toInt) % ((L a : Nat) : Int)).toNat))) (L a) r (fun j hj => absurd hj (by omega)) ?_ ?_
  · intro n' s hI
    exact br_t (nI_le (Nat.le_refl _) (by omega)) (h _ hI)
  · intro n' i s hi hI k
    refine br_f (nI_ge hi (by omega)) ⟨nI_ne0 (by omega) (by omega), ?_⟩
    have ht := bw_tnb kk (m := L a) (by omega)
    have hm := Nat.mod_lt (i + bw_tn kk (L a)) (y := L a) (by omega)
    rw [nI_add, pk_rem (by omega) (by omega) (by omega)]
    exact bx_elN hP ha s (by omega) (bw_st (B a ((i + bw_tn kk (L a)) % L a)) (by omega) (bw_nar _) (k _ (bw_upd (F := fun j => B a ((((j : Nat) : Int) + kk.toInt) % ((L a : Nat) : Int)).toNat) hI (by rw [bw_rotX kk i (by omega)]))))
theorem bx_shi (hP : bw_P B L e l) {a : Nat} (ha : a < 6) (kk : Int32) (r : Nat → Int32) {post : Int32 → SX → Prop} (h : ∀ r', (∀ i, i < L a → r' i = bw_i (bw_z (B a) (((i : Nat) : Int) + kk.toInt))) → post (nI (L a)) (e, l, r')) : wpX_buildShift post (e, l, r) (nI a) kk := by
  obtain ⟨hL, hl, he, hb⟩ := hP a ha
  unfold wpX_buildShift
  dsimp only
  refine ⟨vp_in_nI ha (by omega), nm_r (e' := nI (L a)) (by rw [nI_clamp (by omega), hl]) ?_⟩
  refine loop_0 (fun n' i s => wX_buildShift_10 post (nI a) kk (nI (L a)) n' (nI i) e l s) (fun i s => ∀ j, j < i → s j = bw_i (bw_z (B a) (((j : Nat) : Int) + kk.toInt))) (L a) r (fun j hj => absurd hj (by omega)) ?_ ?_
  · intro n' s hI
    exact br_t (nI_le (Nat.le_refl _) (by omega)) (h _ hI)
  · intro n' i s hi hI k
    exact br_f (nI_ge hi (by omega)) (bx_el hP ha s ((i : Int) + kk.toInt) (bw_shI i kk (by omega)) (bw_st (bw_z (B a) ((i : Int) + kk.toInt)) (by omega) (bw_nar _) (k _ (bw_upd (F := fun j => bw_z (B a) (((j : Nat) : Int) + kk.toInt)) hI rfl))))
theorem bx_tak (hP : bw_P B L e l) {a : Nat} (ha : a < 6) {n : Nat} (hn : n ≤ 256) (r : Nat → Int32) {post : Int32 → SX → Prop} (h : ∀ r', (∀ i, i < n → r' i = bw_i (B a i)) → post (nI n) (e, l, r')) : wpX_buildTake post (e, l, r) (nI a) (nI n) := by
  unfold wpX_buildTake
  dsimp only
  refine br_f (nI_pos (by omega)) (br_t (nI_le (b := 256) hn (by decide)) ?_)
  refine loop_0 (fun n' i s => wX_buildTake_16 post (nI a) (nI n) n' (nI i) e l s) (fun i s => ∀ j, j < i → s j = bw_i (B a j)) n r (fun j hj => absurd hj (by omega)) ?_ ?_
  · intro n' s hI
    exact br_t (nI_le (Nat.le_refl _) (by omega)) (h _ hI)
  · intro n' i s hi hI k
    exact br_f (nI_ge hi (by omega)) (bx_elN hP ha s (by omega) (bw_st (B a i) (by omega) (bw_nar _) (k _ (bw_upd (F := fun j => B a j) hI rfl))))
theorem bx_str (hP : bw_P B L e l) {a : Nat} (ha : a < 6) {n : Nat} (h0 : 0 < n) (hn : n ≤ 256) (hs : L a * n ≤ 256) (r : Nat → Int32) {post : Int32 → SX → Prop} (h : ∀ r', (∀ i, i < L a * n → r' i = bw_i (B a (i / n))) → post (nI (L a * n)) (e, l, r')) : wpX_buildStretch post (e, l, r) (nI a) (nI n) := by
  obtain ⟨hL, hl, he, hb⟩ := hP a ha
  unfold wpX_buildStretch
  dsimp only
  refine br_f (nI_nlt (b := 1) h0 (by omega)) (br_t (nI_le (b := 256) hn (by decide)) ⟨vp_in_nI ha (by omega), nm_r (e' := nI (L a * n)) (by rw [nI_clamp (by omega), hl, pk_mul]) (br_t (nI_le (b := 256) hs (by decide)) ?_)⟩)
  refine loop_0 (fun n' i s => wX_buildStretch_37 post (nI a) (nI n) (nI (L a * n)) n' (nI i) e l s) (fun i s => ∀ j, j < i → s j = bw_i (B a (j / n))) (L a * n) r (fun j hj => absurd hj (by omega)) ?_ ?_
  · intro n' s hI
    exact br_t (nI_le (Nat.le_refl _) (by omega)) (h _ hI)
  · intro n' i s hi hI k
    refine br_f (nI_ge hi (by omega)) ⟨nI_ne0 h0 (by omega), ?_⟩
    have hd := Nat.div_le_self i n
    rw [pk_div (by omega) h0 (by omega)]
    exact bx_elN hP ha s (by omega) (bw_st (B a (i / n)) (by omega) (bw_nar _) (k _ (bw_upd (F := fun j => B a (j / n)) hI rfl)))

theorem bx_sca (hP : bw_P B L e l) {a : Nat} (ha : a < 6) (r : Nat → Int32) {post : Int32 → SX → Prop} (h : ∀ r', (∀ i, i < L a → r' i = bw_i (decide (bw_cn (B a) (i + 1) = i + 1))) → post (nI (L a)) (e, l, r')) : wpX_buildScanAnd post (e, l, r) (nI a) := by
  obtain ⟨hL, hl, he, hb⟩ := hP a ha
  unfold wpX_buildScanAnd
  dsimp only
  refine ⟨vp_in_nI ha (by omega), nm_r (e' := nI (L a)) (by rw [nI_clamp (by omega), hl]) ?_⟩
  refine loop_0 (fun n' i (s : Int32 × (Nat → Int32)) => wX_buildScanAnd_12 post (nI a) (nI (L a)) n' s.1 (nI i) e l s.2) (fun i s => s.1 = bw_i (decide (bw_cn (B a) i = i)) ∧ ∀ j, j < i → s.2 j = bw_i (decide (bw_cn (B a) (j + 1) = j + 1))) (L a) (bw_i (decide (bw_cn (B a) 0 = 0)), r) ⟨rfl, fun j hj => absurd hj (by omega)⟩ ?_ ?_
  · intro n' s hI
    exact br_t (nI_le (Nat.le_refl _) (by omega)) (h _ hI.2)
  · intro n' i s hi hI k
    obtain ⟨c, s⟩ := s
    obtain ⟨hc, hI⟩ := hI
    dsimp only at hc hI ⊢
    subst hc
    have fin : ∀ b : Bool, b = (decide (bw_cn (B a) (i + 1) = i + 1)) → wX_buildScanAnd_38 post (wX_buildScanAnd_12 post (nI a) (nI (L a)) n') (nI a) (nI (L a)) (nI i) (bw_i b) e l s := by
      intro b hb
      exact bw_st b (by omega) (bw_nar b) (k (bw_i b, upd s i (bw_i b)) ⟨by rw [hb], bw_upd (F := fun j => decide (bw_cn (B a) (j + 1) = j + 1)) hI hb⟩)
    have hle := bw_cn_le (B a) i
    refine br_f (nI_ge hi (by omega)) (bx_elN hP ha s (by omega) ?_)
    refine bw_c (fun z => fin false ?_) (fun z => bw_c (fun y => fin false ?_) (fun y => fin true ?_))
    · rw [bw_cnF z, decide_eq_false (by omega)]
    · have y := of_decide_eq_false y
      rw [bw_cnT z, decide_eq_false (by omega)]
    · have y := of_decide_eq_true y
      rw [bw_cnT z, decide_eq_true (by omega)]
theorem bx_sco (hP : bw_P B L e l) {a : Nat} (ha : a < 6) (r : Nat → Int32) {post : Int32 → SX → Prop} (h : ∀ r', (∀ i, i < L a → r' i = bw_i (decide (0 < bw_cn (B a) (i + 1)))) → post (nI (L a)) (e, l, r')) : wpX_buildScanOr post (e, l, r) (nI a) := by
  obtain ⟨hL, hl, he, hb⟩ := hP a ha
  unfold wpX_buildScanOr
  dsimp only
  refine ⟨vp_in_nI ha (by omega), nm_r (e' := nI (L a)) (by rw [nI_clamp (by omega), hl]) ?_⟩
  refine loop_0 (fun n' i (s : Int32 × (Nat → Int32)) => wX_buildScanOr_12 post (nI a) (nI (L a)) n' s.1 (nI i) e l s.2) (fun i s => s.1 = bw_i (decide (0 < bw_cn (B a) i)) ∧ ∀ j, j < i → s.2 j = bw_i (decide (0 < bw_cn (B a) (j + 1)))) (L a) (bw_i (decide (0 < bw_cn (B a) 0)), r) ⟨rfl, fun j hj => absurd hj (by omega)⟩ ?_ ?_
  · intro n' s hI
    exact br_t (nI_le (Nat.le_refl _) (by omega)) (h _ hI.2)
  · intro n' i s hi hI k
    obtain ⟨c, s⟩ := s
    obtain ⟨hc, hI⟩ := hI
    dsimp only at hc hI ⊢
    subst hc
    have fin : ∀ b : Bool, b = (decide (0 < bw_cn (B a) (i + 1))) → wX_buildScanOr_38 post (wX_buildScanOr_12 post (nI a) (nI (L a)) n') (nI a) (nI (L a)) (nI i) (bw_i b) e l s := by
      intro b hb
      exact bw_st b (by omega) (bw_nar b) (k (bw_i b, upd s i (bw_i b)) ⟨by rw [hb], bw_upd (F := fun j => decide (0 < bw_cn (B a) (j + 1))) hI hb⟩)
    have hle := bw_cn_le (B a) i
    refine br_f (nI_ge hi (by omega)) (bx_elN hP ha s (by omega) ?_)
    refine bw_c (fun z => bw_c (fun y => fin false ?_) (fun y => fin true ?_)) (fun z => fin true ?_)
    · have y := of_decide_eq_false y
      rw [bw_cnF z, decide_eq_false (by omega)]
    · have y := of_decide_eq_true y
      rw [bw_cnF z, decide_eq_true (by omega)]
    · rw [bw_cnT z, decide_eq_true (by omega)]
theorem bx_scx (hP : bw_P B L e l) {a : Nat} (ha : a < 6) (r : Nat → Int32) {post : Int32 → SX → Prop} (h : ∀ r', (∀ i, i < L a → r' i = bw_i (decide (bw_cn (B a) (i + 1) % 2 = 1))) → post (nI (L a)) (e, l, r')) : wpX_buildScanXor post (e, l, r) (nI a) := by
  obtain ⟨hL, hl, he, hb⟩ := hP a ha
  unfold wpX_buildScanXor
  dsimp only
  refine ⟨vp_in_nI ha (by omega), nm_r (e' := nI (L a)) (by rw [nI_clamp (by omega), hl]) ?_⟩
  refine loop_0 (fun n' i (s : Int32 × (Nat → Int32)) => wX_buildScanXor_12 post (nI a) (nI (L a)) n' s.1 (nI i) e l s.2) (fun i s => s.1 = bw_i (decide (bw_cn (B a) i % 2 = 1)) ∧ ∀ j, j < i → s.2 j = bw_i (decide (bw_cn (B a) (j + 1) % 2 = 1))) (L a) (bw_i (decide (bw_cn (B a) 0 % 2 = 1)), r) ⟨rfl, fun j hj => absurd hj (by omega)⟩ ?_ ?_
  · intro n' s hI
    exact br_t (nI_le (Nat.le_refl _) (by omega)) (h _ hI.2)
  · intro n' i s hi hI k
    obtain ⟨c, s⟩ := s
    obtain ⟨hc, hI⟩ := hI
    dsimp only at hc hI ⊢
    subst hc
    have fin : ∀ b : Bool, b = (decide (bw_cn (B a) (i + 1) % 2 = 1)) → wX_buildScanXor_35 post (wX_buildScanXor_12 post (nI a) (nI (L a)) n') (nI a) (nI (L a)) (nI i) (bw_i b) e l s := by
      intro b hb
      exact bw_st b (by omega) (bw_nar b) (k (bw_i b, upd s i (bw_i b)) ⟨by rw [hb], bw_upd (F := fun j => decide (bw_cn (B a) (j + 1) % 2 = 1)) hI hb⟩)
    have hle := bw_cn_le (B a) i
    refine br_f (nI_ge hi (by omega)) (bx_elN hP ha s (by omega) ?_)
    refine bw_ceq (fun z => fin false ?_) (fun z => fin true ?_)
    · cases y : B a i
      · rw [y] at z
        have z := of_decide_eq_false z.symm
        rw [bw_cnF y, decide_eq_false z]
      · rw [y] at z
        have z := of_decide_eq_true z.symm
        rw [bw_cnT y, decide_eq_false (by omega)]
    · cases y : B a i
      · rw [y] at z
        have z2 : bw_cn (B a) i % 2 = 1 := by
          by_cases q : bw_cn (B a) i % 2 = 1
          · exact q
          · exact absurd (decide_eq_false q).symm z
        rw [bw_cnF y, decide_eq_true z2]
      · rw [y] at z
        have z2 : ¬ bw_cn (B a) i % 2 = 1 := fun q => z (decide_eq_true q).symm
        rw [bw_cnT y, decide_eq_true (by omega)]
end
end
section
section
variable {B : Nat → Nat → Bool} {L : Nat → Nat} {e l : Nat → Int32}
theorem bw_rem2 {c : Nat} (hc : c < 2 ^ 31) : nI c - nI c / 2 * 2 = nI (c % 2) := pk_rem (d := 2) hc (by decide) (by decide)
theorem by_e0 (hP : bw_P B L e l) {a : Nat} (ha : a < 6) (k : Int32) (w : Nat → Int32) {i : Nat} (hi : i < 256) {post : Int32 → Prop} (h : post (bw_i (!B a i))) : wpY_element post (e, l, w) 0 (nI a) k (nI i) := by
  unfold wpY_element
  dsimp only
  refine ⟨vp_in_nI ha (by omega), nm_e (br_t rfl (by_elN hP ha w (by omega) (bw_c (fun z => ?_) (fun z => ?_))))⟩
  · rw [z] at h; exact h
  · rw [z] at h; exact h
theorem by_e1 (hP : bw_P B L e l) {a : Nat} (ha : a < 6) (k : Int32) (w : Nat → Int32) {i : Nat} (hi : i < L a) {post : Int32 → Prop} (h : post (bw_i (B a (L a - 1 - i)))) : wpY_element post (e, l, w) 1 (nI a) k (nI i) := by
  obtain ⟨hL, hl, he, hb⟩ := hP a ha
  unfold wpY_element
  dsimp only
  refine ⟨vp_in_nI ha (by omega), nm_r (e' := nI (L a)) (by rw [nI_clamp (by omega), hl]) (br_f (by decide) (br_t rfl ?_))⟩
  rw [bw_m1i hi]
  exact by_elN hP ha w (by omega) ⟨bw_narr _, h⟩
theorem by_e2 (hP : bw_P B L e l) {a : Nat} (ha : a < 6) (k : Int32) (w : Nat → Int32) {i : Nat} (hi : i < L a) {post : Int32 → Prop} (h : post (bw_i (B a ((((i : Nat) : Int) + k.toInt) % ((L a : Nat) : Int)).toNat))) : wpY_element post (e, l, w) 2 (nI a) k (nI i) := by
  obtain ⟨hL, hl, he, hb⟩ := hP a ha
  unfold wpY_element
  dsimp only
  have hm : (nI (L a)).toInt64.toInt = (L a : Int) := by rw [Int32.toInt_toInt64, nI_toInt (by omega)]
  have h0 : ¬ (nI (L a)).toInt64 = 0 := by
    intro q
    rw [q, show (0 : Int64).toInt = 0 from by decide] at hm
    omega
  refine ⟨vp_in_nI ha (by omega), nm_r (e' := nI (L a)) (by rw [nI_clamp (by omega), hl]) (br_f (by decide) (br_f (by decide) (br_t rfl (br_f (nI_nle (by omega) (by omega)) ⟨h0, ?_⟩))))⟩
  intro x ex
  have hx : x.toInt = ((i : Int) + k.toInt).tmod (L a : Int) := by rw [ex, Jvm.Kit.i64_rem, bw_shI i k (by omega), hm]
  have hb2 := tmod_bounds (a := (i : Int) + k.toInt) (M := (L a : Int)) (by omega)
  have hq := bw_tmq ((i : Int) + k.toInt) (L a)
  by_cases c : 0 ≤ x
  · refine br_t c ?_
    rw [Int64.le_iff_toInt_le, show (0 : Int64).toInt = 0 from by decide, hx] at c
    refine by_el hP ha w _ hx ⟨bw_narr _, ?_⟩
    have e1 := bw_emod_of _ hq c hb2.2
    rw [e1] at h
    unfold bw_z
    rw [if_neg (by omega)]
    exact h
  · refine br_f c ?_
    rw [Int64.le_iff_toInt_le, show (0 : Int64).toInt = 0 from by decide, hx] at c
    refine by_el hP ha w (((i : Int) + k.toInt).tmod (L a : Int) + (L a : Int)) ?_ ⟨bw_narr _, ?_⟩
    · rw [Int64.toInt_add, hx, hm]
      exact Int.bmod_eq_of_le (by omega) (by omega)
    · have e1 := bw_emod_of (z := (i : Int) + k.toInt) (r := ((i : Int) + k.toInt).tmod (L a : Int) + (L a : Int)) (m := L a) (((i : Int) + k.toInt).tdiv (L a : Int) - 1) (by rw [Int.mul_sub]; omega) (by omega) (by omega)
      rw [e1] at h
      unfold bw_z
      rw [if_neg (by omega)]
      exact h
theorem by_e3 (hP : bw_P B L e l) {a : Nat} (ha : a < 6) (k : Int32) (w : Nat → Int32) {i : Nat} (hi : i < 256) {post : Int32 → Prop} (h : post (bw_i (bw_z (B a) (((i : Nat) : Int) + k.toInt)))) : wpY_element post (e, l, w) 3 (nI a) k (nI i) := by
  unfold wpY_element
  dsimp only
  exact ⟨vp_in_nI ha (by omega), nm_e (br_f (by decide) (br_f (by decide) (br_f (by decide) (br_t rfl (by_el hP ha w _ (bw_shI i k (by omega)) ⟨bw_narr _, h⟩)))))⟩
theorem by_e4 (hP : bw_P B L e l) {a : Nat} (ha : a < 6) (k : Int32) (w : Nat → Int32) {i : Nat} (hi : i < 256) {post : Int32 → Prop} (h : post (bw_i (B a i))) : wpY_element post (e, l, w) 4 (nI a) k (nI i) := by
  unfold wpY_element
  dsimp only
  exact ⟨vp_in_nI ha (by omega), nm_e (br_f (by decide) (br_f (by decide) (br_f (by decide) (br_f (by decide) (br_t rfl (by_elN hP ha w (by omega) ⟨bw_narr _, h⟩))))))⟩
theorem by_e5 (hP : bw_P B L e l) {a : Nat} (ha : a < 6) {k : Nat} (h0 : 0 < k) (hk : k ≤ 256) (w : Nat → Int32) {i : Nat} (hi : i < 256) {post : Int32 → Prop} (h : post (bw_i (B a (i / k)))) : wpY_element post (e, l, w) 5 (nI a) (nI k) (nI i) := by
  unfold wpY_element
  dsimp only
  have hd := Nat.div_le_self i k
  refine ⟨vp_in_nI ha (by omega), nm_e (br_f (by decide) (br_f (by decide) (br_f (by decide) (br_f (by decide) (br_f (by decide) (br_t rfl (br_f (nI_nle h0 (by omega)) ⟨nI_ne0 h0 (by omega), ?_⟩)))))))⟩
  rw [pk_div (by omega) h0 (by omega)]
  exact by_elN hP ha w (by omega) ⟨bw_narr _, h⟩
theorem by_e6 (hP : bw_P B L e l) {a : Nat} (ha : a < 6) (k : Int32) (w : Nat → Int32) {i : Nat} (hi : i < 256) {post : Int32 → Prop} (h : post (bw_i (decide (bw_cn (B a) (i + 1) = i + 1)))) : wpY_element post (e, l, w) 6 (nI a) k (nI i) := by
  unfold wpY_element
  dsimp only
  have hle := bw_cn_le (B a) (i + 1)
  refine ⟨vp_in_nI ha (by omega), nm_e (br_f (by decide) (br_f (by decide) (br_f (by decide) (br_f (by decide) (br_f (by decide) (br_f (by decide) (by_upTo hP ha w (by omega) (br_t rfl ?_))))))))⟩
  rw [nI_1]
  by_cases q : bw_cn (B a) (i + 1) = i + 1
  · rw [decide_eq_true q] at h
    exact br_t (by rw [q]) h
  · rw [decide_eq_false q] at h
    exact br_f (fun z => q ((nI_eq (by omega) (by omega)).mp z)) h
theorem by_e7 (hP : bw_P B L e l) {a : Nat} (ha : a < 6) (k : Int32) (w : Nat → Int32) {i : Nat} (hi : i < 256) {post : Int32 → Prop} (h : post (bw_i (decide (0 < bw_cn (B a) (i + 1))))) : wpY_element post (e, l, w) 7 (nI a) k (nI i) := by
  unfold wpY_element
  dsimp only
  have hle := bw_cn_le (B a) (i + 1)
  refine ⟨vp_in_nI ha (by omega), nm_e (br_f (by decide) (br_f (by decide) (br_f (by decide) (br_f (by decide) (br_f (by decide) (br_f (by decide) (by_upTo hP ha w (by omega) (br_f (by decide) (br_t rfl ?_)))))))))⟩
  by_cases q : 0 < bw_cn (B a) (i + 1)
  · rw [decide_eq_true q] at h
    exact br_f (nI_nle q (by omega)) h
  · rw [decide_eq_false q] at h
    exact br_t (nI_le (b := 0) (by omega) (by decide)) h
theorem by_e8 (hP : bw_P B L e l) {a : Nat} (ha : a < 6) (k : Int32) (w : Nat → Int32) {i : Nat} (hi : i < 256) {post : Int32 → Prop} (h : post (bw_i (decide (bw_cn (B a) (i + 1) % 2 = 1)))) : wpY_element post (e, l, w) 8 (nI a) k (nI i) := by
  unfold wpY_element
  dsimp only
  have hle := bw_cn_le (B a) (i + 1)
  refine ⟨vp_in_nI ha (by omega), nm_e (br_f (by decide) (br_f (by decide) (br_f (by decide) (br_f (by decide) (br_f (by decide) (br_f (by decide) (by_upTo hP ha w (by omega) (br_f (by decide) (br_f (by decide) ⟨by decide, ?_⟩)))))))))⟩
  rw [bw_rem2 (by omega)]
  by_cases q : bw_cn (B a) (i + 1) % 2 = 1
  · rw [decide_eq_true q] at h
    exact br_t (by rw [q]; rfl) h
  · rw [decide_eq_false q] at h
    exact br_f (fun z => q ((nI_eq (b := 1) (by omega) (by omega)).mp z)) h
theorem by_chl (hP : bw_P B L e l) {t : Nat} (ht : t < 6) {n : Nat} (hn : n ≤ 256) (F : Nat → Bool) {c a k : Int32} (hF : ∀ (w : Nat → Int32) (i : Nat) (post : Int32 → Prop), i < n → post (bw_i (F i)) → wpY_element post (e, l, w) c a k (nI i)) (w : Nat → Int32) {post : Int32 → SY → Prop}
    (h : ∀ e' l' w', bw_P (bw_sB B t n F) (bw_sL L t n) e' l' → post (nI n) (e', l', w')) : ∃ n107 : Nat, wY_change_107 post (nI t) c a k (nI n) n107 0 e l w := by
  refine loop_0 (fun n' i s => wY_change_107 post (nI t) c a k (nI n) n' (nI i) e l s) (fun i s => ∀ j, j < i → s j = bw_i (F j)) n w (fun j hj => absurd hj (by omega)) ?_ ?_
  · intro n' s hI
    exact br_t (nI_le (Nat.le_refl _) (by omega)) (by_bec hP ht hn F hI (fun e' l' q => h e' l' s q))
  · intro n' i s hi hI k
    exact br_f (nI_ge hi (by omega)) (hF s i _ hi (bw_st (F i) (by omega) (bw_nar _) (k _ (bw_upd (F := F) hI rfl))))
end
/-- the class builds n elements F -/
def bw_XS (B : Nat → Nat → Bool) (L : Nat → Nat) (W : (Int32 → SX → Prop) → SX → Prop) (n : Nat) (F : Nat → Bool) : Prop :=
  ∀ (e l r : Nat → Int32) (post : Int32 → SX → Prop), bw_P B L e l → (∀ r', (∀ i, i < n → r' i = bw_i (F i)) → post (nI n) (e, l, r')) → W post (e, l, r)
def bw_XN (B : Nat → Nat → Bool) (L : Nat → Nat) (W : (Int32 → SX → Prop) → SX → Prop) : Prop :=
  ∀ (e l r : Nat → Int32) (post : Int32 → SX → Prop), bw_P B L e l → post (-3) (e, l, r) → W post (e, l, r)
/-- the reference's vector t becomes n elements F -/
def bw_YS (B : Nat → Nat → Bool) (L : Nat → Nat) (W : (Int32 → SY → Prop) → SY → Nat → Prop) (n : Nat) (F : Nat → Bool) : Prop :=
  ∀ (t : Nat) (e l w : Nat → Int32) (post : Int32 → SY → Prop), t < 6 → bw_P B L e l → (∀ e' l' w', bw_P (bw_sB B t n F) (bw_sL L t n) e' l' → post (nI n) (e', l', w')) → W post (e, l, w) t
def bw_YN (B : Nat → Nat → Bool) (L : Nat → Nat) (W : (Int32 → SY → Prop) → SY → Nat → Prop) : Prop :=
  ∀ (t : Nat) (e l w : Nat → Int32) (post : Int32 → SY → Prop), t < 6 → bw_P B L e l → post (-3) (e, l, w) → W post (e, l, w) t
/-- one outcome on both sides -/
def bw_O (B : Nat → Nat → Bool) (L : Nat → Nat) (WX : (Int32 → SX → Prop) → SX → Prop) (WY : (Int32 → SY → Prop) → SY → Nat → Prop) : Prop :=
  (∃ n F, n ≤ 256 ∧ bw_XS B L WX n F ∧ bw_YS B L WY n F) ∨ (bw_XN B L WX ∧ bw_YN B L WY)
end
section
section
variable {B : Nat → Nat → Bool} {L : Nat → Nat} {e l : Nat → Int32}
theorem bw_o0 {a : Nat} (ha : a < 6) (hL : L a ≤ 256) (k : Int32) : bw_O B L (fun post u => wpX_buildChange post u 0 (nI a) k) (fun post u t => wpY_change post u (nI t) 0 (nI a) k) := by
  refine Or.inl ⟨L a, fun i => !B a i, hL, ?_, ?_⟩
  · intro e l r post hP h
    unfold wpX_buildChange
    dsimp only
    exact br_f (by decide) (br_f (by decide) (br_t rfl (bx_not hP ha r h)))
  · intro t e l w post ht hP h
    unfold wpY_change
    dsimp only
    exact by_iv ht (br_t rfl (by_iv ha (br_t rfl (br_f (by decide) (br_t (by decide) ⟨vp_in_nI ha (by omega), nm_r (e' := nI (L a)) (by rw [nI_clamp (by omega), (hP a ha).2.1]) (br_f (by decide) (br_f (by decide) (by_chl hP ht hL (fun i => !B a i) (fun w i post hi q => by_e0 hP ha k w (by omega) q) w h)))⟩)))))
theorem bw_o1 {a : Nat} (ha : a < 6) (hL : L a ≤ 256) (k : Int32) : bw_O B L (fun post u => wpX_buildChange post u 1 (nI a) k) (fun post u t => wpY_change post u (nI t) 1 (nI a) k) := by
  refine Or.inl ⟨L a, fun i => B a (L a - 1 - i), hL, ?_, ?_⟩
  · intro e l r post hP h
    unfold wpX_buildChange
    dsimp only
    exact br_f (by decide) (br_f (by decide) (br_f (by decide) (br_t rfl (bx_rev hP ha r h))))
  · intro t e l w post ht hP h
    unfold wpY_change
    dsimp only
    exact by_iv ht (br_t rfl (by_iv ha (br_t rfl (br_f (by decide) (br_t (by decide) ⟨vp_in_nI ha (by omega), nm_r (e' := nI (L a)) (by rw [nI_clamp (by omega), (hP a ha).2.1]) (br_f (by decide) (br_f (by decide) (by_chl hP ht hL (fun i => B a (L a - 1 - i)) (fun w i post hi q => by_e1 hP ha k w hi q) w h)))⟩)))))
theorem bw_o2 {a : Nat} (ha : a < 6) (hL : L a ≤ 256) (k : Int32) : bw_O B L (fun post u => wpX_buildChange post u 2 (nI a) k) (fun post u t => wpY_change post u (nI t) 2 (nI a) k) := by
  refine Or.inl ⟨L a, fun i => B a ((((i : Nat) : Int) + k.toInt) % ((L a : Nat) : Int)).toNat, hL, ?_, ?_⟩
  · intro e l r post hP h
    unfold wpX_buildChange
    dsimp only
    exact br_f (by decide) (br_f (by decide) (br_f (by decide) (br_f (by decide) (br_t rfl (bx_rot hP ha k r h)))))
  · intro t e l w post ht hP h
    unfold wpY_change
    dsimp only
    exact by_iv ht (br_t rfl (by_iv ha (br_t rfl (br_f (by decide) (br_t (by decide) ⟨vp_in_nI ha (by omega), nm_r (e' := nI (L a)) (by rw [nI_clamp (by omega), (hP a ha).2.1]) (br_f (by decide) (br_f (by decide) (by_chl hP ht hL (fun i => B a ((((i : Nat) : Int) + k.toInt) % ((L a : Nat) : Int)).toNat) (fun w i post hi q => by_e2 hP ha k w hi q) w h)))⟩)))))
theorem bw_o3 {a : Nat} (ha : a < 6) (hL : L a ≤ 256) (k : Int32) : bw_O B L (fun post u => wpX_buildChange post u 3 (nI a) k) (fun post u t => wpY_change post u (nI t) 3 (nI a) k) := by
  refine Or.inl ⟨L a, fun i => bw_z (B a) (((i : Nat) : Int) + k.toInt), hL, ?_, ?_⟩
  · intro e l r post hP h
    unfold wpX_buildChange
    dsimp only
    exact br_f (by decide) (br_f (by decide) (br_f (by decide) (br_f (by decide) (br_f (by decide) (br_t rfl (bx_shi hP ha k r h))))))
  · intro t e l w post ht hP h
    unfold wpY_change
    dsimp only
    exact by_iv ht (br_t rfl (by_iv ha (br_t rfl (br_f (by decide) (br_t (by decide) ⟨vp_in_nI ha (by omega), nm_r (e' := nI (L a)) (by rw [nI_clamp (by omega), (hP a ha).2.1]) (br_f (by decide) (br_f (by decide) (by_chl hP ht hL (fun i => bw_z (B a) (((i : Nat) : Int) + k.toInt)) (fun w i post hi q => by_e3 hP ha k w (by omega) q) w h)))⟩)))))
theorem bw_o6 {a : Nat} (ha : a < 6) (hL : L a ≤ 256) (k : Int32) : bw_O B L (fun post u => wpX_buildChange post u 6 (nI a) k) (fun post u t => wpY_change post u (nI t) 6 (nI a) k) := by
  refine Or.inl ⟨L a, fun i => decide (bw_cn (B a) (i + 1) = i + 1), hL, ?_, ?_⟩
  · intro e l r post hP h
    unfold wpX_buildChange
    dsimp only
    exact br_f (by decide) (br_f (by decide) (br_f (by decide) (br_f (by decide) (br_f (by decide) (br_f (by decide) (br_f (by decide) (br_f (by decide) (br_t rfl (bx_sca hP ha r h)))))))))
  · intro t e l w post ht hP h
    unfold wpY_change
    dsimp only
    exact by_iv ht (br_t rfl (by_iv ha (br_t rfl (br_f (by decide) (br_t (by decide) ⟨vp_in_nI ha (by omega), nm_r (e' := nI (L a)) (by rw [nI_clamp (by omega), (hP a ha).2.1]) (br_f (by decide) (br_f (by decide) (by_chl hP ht hL (fun i => decide (bw_cn (B a) (i + 1) = i + 1)) (fun w i post hi q => by_e6 hP ha k w (by omega) q) w h)))⟩)))))
theorem bw_o7 {a : Nat} (ha : a < 6) (hL : L a ≤ 256) (k : Int32) : bw_O B L (fun post u => wpX_buildChange post u 7 (nI a) k) (fun post u t => wpY_change post u (nI t) 7 (nI a) k) := by
  refine Or.inl ⟨L a, fun i => decide (0 < bw_cn (B a) (i + 1)), hL, ?_, ?_⟩
  · intro e l r post hP h
    unfold wpX_buildChange
    dsimp only
    exact br_f (by decide) (br_f (by decide) (br_f (by decide) (br_f (by decide) (br_f (by decide) (br_f (by decide) (br_f (by decide) (br_f (by decide) (br_f (by decide) (br_t rfl (bx_sco hP ha r h))))))))))
  · intro t e l w post ht hP h
    unfold wpY_change
    dsimp only
    exact by_iv ht (br_t rfl (by_iv ha (br_t rfl (br_f (by decide) (br_t (by decide) ⟨vp_in_nI ha (by omega), nm_r (e' := nI (L a)) (by rw [nI_clamp (by omega), (hP a ha).2.1]) (br_f (by decide) (br_f (by decide) (by_chl hP ht hL (fun i => decide (0 < bw_cn (B a) (i + 1))) (fun w i post hi q => by_e7 hP ha k w (by omega) q) w h)))⟩)))))
theorem bw_o8 {a : Nat} (ha : a < 6) (hL : L a ≤ 256) (k : Int32) : bw_O B L (fun post u => wpX_buildChange post u 8 (nI a) k) (fun post u t => wpY_change post u (nI t) 8 (nI a) k) := by
  refine Or.inl ⟨L a, fun i => decide (bw_cn (B a) (i + 1) % 2 = 1), hL, ?_, ?_⟩
  · intro e l r post hP h
    unfold wpX_buildChange
    dsimp only
    exact br_f (by decide) (br_f (by decide) (br_f (by decide) (br_f (by decide) (br_f (by decide) (br_f (by decide) (br_f (by decide) (br_f (by decide) (br_f (by decide) (br_f (by decide) (br_t rfl (bx_scx hP ha r h)))))))))))
  · intro t e l w post ht hP h
    unfold wpY_change
    dsimp only
    exact by_iv ht (br_t rfl (by_iv ha (br_t rfl (br_f (by decide) (br_t (by decide) ⟨vp_in_nI ha (by omega), nm_r (e' := nI (L a)) (by rw [nI_clamp (by omega), (hP a ha).2.1]) (br_f (by decide) (br_f (by decide) (by_chl hP ht hL (fun i => decide (bw_cn (B a) (i + 1) % 2 = 1)) (fun w i post hi q => by_e8 hP ha k w (by omega) q) w h)))⟩)))))
theorem bw_o4 {a : Nat} (ha : a < 6) (k : Int32) : bw_O B L (fun post u => wpX_buildChange post u 4 (nI a) k) (fun post u t => wpY_change post u (nI t) 4 (nI a) k) := by
  by_cases h0 : k < 0
  · refine Or.inr ⟨?_, ?_⟩
    · intro e l r post hP h
      unfold wpX_buildChange
      dsimp only
      exact br_f (by decide) (br_f (by decide) (br_f (by decide) (br_f (by decide) (br_f (by decide) (br_f (by decide) (br_t rfl (br_t h0 h)))))))
    · intro t e l w post ht hP h
      unfold wpY_change
      dsimp only
      exact by_iv ht (br_t rfl (by_iv ha (br_t rfl (br_f (by decide) (br_t (by decide) ⟨vp_in_nI ha (by omega), nm_e (br_t rfl (br_t h0 h))⟩)))))
  · by_cases h2 : k ≤ 256
    · obtain ⟨n, hn, rfl⟩ := nI_of2 (M := 256) (n := 256) (by decide) h0 h2
      refine Or.inl ⟨n, B a, hn, ?_, ?_⟩
      · intro e l r post hP h
        unfold wpX_buildChange
        dsimp only
        exact br_f (by decide) (br_f (by decide) (br_f (by decide) (br_f (by decide) (br_f (by decide) (br_f (by decide) (br_t rfl (bx_tak hP ha hn r h)))))))
      · intro t e l w post ht hP h
        unfold wpY_change
        dsimp only
        exact by_iv ht (br_t rfl (by_iv ha (br_t rfl (br_f (by decide) (br_t (by decide) ⟨vp_in_nI ha (by omega), nm_e (br_t rfl (br_f h0 (br_t h2 (br_f (by decide) (by_chl hP ht hn (B a) (fun w i post hi q => by_e4 hP ha (nI n) w (by omega) q) w h)))))⟩)))))
    · refine Or.inr ⟨?_, ?_⟩
      · intro e l r post hP h
        unfold wpX_buildChange
        dsimp only
        exact br_f (by decide) (br_f (by decide) (br_f (by decide) (br_f (by decide) (br_f (by decide) (br_f (by decide) (br_t rfl (br_f h0 (br_f h2 h))))))))
      · intro t e l w post ht hP h
        unfold wpY_change
        dsimp only
        exact by_iv ht (br_t rfl (by_iv ha (br_t rfl (br_f (by decide) (br_t (by decide) ⟨vp_in_nI ha (by omega), nm_e (br_t rfl (br_f h0 (br_f h2 h)))⟩)))))
theorem bw_gt {x y : Int32} (h : ¬ x ≤ y) : y < x := Int32.not_le.mp h
theorem bw_o5 {a : Nat} (ha : a < 6) (hL : L a ≤ 256) (k : Int32) : bw_O B L (fun post u => wpX_buildChange post u 5 (nI a) k) (fun post u t => wpY_change post u (nI t) 5 (nI a) k) := by
  by_cases h1 : k < 1
  · refine Or.inr ⟨?_, ?_⟩
    · intro e l r post hP h
      unfold wpX_buildChange
      dsimp only
      exact br_f (by decide) (br_f (by decide) (br_f (by decide) (br_f (by decide) (br_f (by decide) (br_f (by decide) (br_f (by decide) (br_t rfl (br_t h1 h))))))))
    · intro t e l w post ht hP h
      unfold wpY_change
      dsimp only
      exact by_iv ht (br_t rfl (by_iv ha (br_t rfl (br_f (by decide) (br_t (by decide) ⟨vp_in_nI ha (by omega), nm_e (br_f (by decide) (br_t rfl (br_t h1 h)))⟩)))))
  · by_cases h2 : k ≤ 256
    · have h0 : ¬ k < 0 := fun q => h1 (Int32.lt_trans q (by decide))
      obtain ⟨n, hn, rfl⟩ := nI_of2 (M := 256) (n := 256) (by decide) h0 h2
      have hn0 : 0 < n := by
        by_cases q : n = 0
        · subst q; exact absurd (by decide) h1
        · omega
      have h3 : ¬ (256 : Int32) < nI n := nI_nlt (b := n) (a := 256) hn (by decide)
      have hb2 : L a * n ≤ 65536 := Nat.mul_le_mul hL hn
      by_cases h4 : L a * n ≤ 256
      · refine Or.inl ⟨L a * n, fun i => B a (i / n), h4, ?_, ?_⟩
        · intro e l r post hP h
          unfold wpX_buildChange
          dsimp only
          exact br_f (by decide) (br_f (by decide) (br_f (by decide) (br_f (by decide) (br_f (by decide) (br_f (by decide) (br_f (by decide) (br_t rfl (bx_str hP ha hn0 hn h4 r h))))))))
        · intro t e l w post ht hP h
          unfold wpY_change
          dsimp only
          refine by_iv ht (br_t rfl (by_iv ha (br_t rfl (br_f (by decide) (br_t (by decide) ⟨vp_in_nI ha (by omega), nm_r (e' := nI (L a)) (by rw [nI_clamp (by omega), (hP a ha).2.1]) (br_f (by decide) (br_t rfl (br_f h1 (br_f h3 ?_))))⟩)))))
          rw [pk_mul]
          exact br_t (nI_le (b := 256) h4 (by decide)) (nm_e (by_chl hP ht h4 (fun i => B a (i / n)) (fun w i post hi q => by_e5 hP ha hn0 hn w (by omega) q) w h))
      · refine Or.inr ⟨?_, ?_⟩
        · intro e l r post hP h
          unfold wpX_buildChange
          dsimp only
          exact br_f (by decide) (br_f (by decide) (br_f (by decide) (br_f (by decide) (br_f (by decide) (br_f (by decide) (br_f (by decide) (br_t rfl (br_f h1 (br_t h2 ⟨vp_in_nI ha (by omega), nm_r (e' := nI (L a * n)) (by rw [nI_clamp (by omega), (hP a ha).2.1, pk_mul]) (br_f (nI_ge (a := 256) (by omega) (by omega)) h)⟩)))))))))
        · intro t e l w post ht hP h
          unfold wpY_change
          dsimp only
          refine by_iv ht (br_t rfl (by_iv ha (br_t rfl (br_f (by decide) (br_t (by decide) ⟨vp_in_nI ha (by omega), nm_r (e' := nI (L a)) (by rw [nI_clamp (by omega), (hP a ha).2.1]) (br_f (by decide) (br_t rfl (br_f h1 (br_f h3 ?_))))⟩)))))
          rw [pk_mul]
          exact br_f (nI_ge (a := 256) (by omega) (by omega)) h
    · refine Or.inr ⟨?_, ?_⟩
      · intro e l r post hP h
        unfold wpX_buildChange
        dsimp only
        exact br_f (by decide) (br_f (by decide) (br_f (by decide) (br_f (by decide) (br_f (by decide) (br_f (by decide) (br_f (by decide) (br_t rfl (br_f h1 (br_f h2 h)))))))))
      · intro t e l w post ht hP h
        unfold wpY_change
        dsimp only
        exact by_iv ht (br_t rfl (by_iv ha (br_t rfl (br_f (by decide) (br_t (by decide) ⟨vp_in_nI ha (by omega), nm_e (br_f (by decide) (br_t rfl (br_f h1 (br_t (bw_gt h2) h))))⟩)))))
end
end
section
def bw_op (c : Nat) (x y : Bool) : Bool := if c = 0 then x && y else if c = 1 then x || y else x != y
theorem bw_op0 (x y : Bool) : bw_op 0 x y = (x && y) := rfl
theorem bw_op1 (x y : Bool) : bw_op 1 x y = (x || y) := rfl
theorem bw_op2 (x y : Bool) : bw_op 2 x y = (x != y) := rfl
theorem bx_op {c : Nat} (hc : c < 3) {x y : Bool} {post : Int32 → Prop} (h : post (bw_i (bw_op c x y))) : wpX_bitwise post (nI c) (bw_i x) (bw_i y) := by
  rcases (by omega : c = 0 ∨ c = 1 ∨ c = 2) with rfl | rfl | rfl
  · exact br_t rfl (bw_c (fun q => by subst q; exact h) (fun q => bw_c (fun z => by subst q; subst z; exact h) (fun z => by subst q; subst z; exact h)))
  · exact br_f (by decide) (br_t rfl (bw_c (fun q => bw_c (fun z => by subst q; subst z; exact h) (fun z => by subst q; subst z; exact h)) (fun q => by subst q; exact h)))
  · refine br_f (by decide) (br_f (by decide) (bw_ceq (fun q => ?_) (fun q => ?_)))
    · subst q; cases x <;> exact h
    · cases x <;> cases y <;> first | exact absurd rfl q | exact h
/-- the carry into place i -/
def bw_cy (f g : Nat → Bool) : Nat → Bool
  | 0 => false
  | i + 1 => if f i = g i then f i else bw_cy f g i
theorem bw_cyE {f g : Nat → Bool} {i : Nat} (h : f i = g i) : bw_cy f g (i + 1) = f i := if_pos h
theorem bw_cyN {f g : Nat → Bool} {i : Nat} (h : ¬ f i = g i) : bw_cy f g (i + 1) = bw_cy f g i := if_neg h
theorem bw_2i (i : Nat) : 2 * nI i = nI (2 * i) := pk_mul 2 i
section
variable {B : Nat → Nat → Bool} {L : Nat → Nat} {e l : Nat → Int32}
theorem bx_bwb (hP : bw_P B L e l) {a b : Nat} (ha : a < 6) (hb : b < 6) (hE : L b = L a) {c : Nat} (hc : c < 3) (r : Nat → Int32) {post : Int32 → SX → Prop} (h : ∀ r', (∀ i, i < L a → r' i = bw_i (bw_op c (B a i) (B b i))) → post (nI (L a)) (e, l, r')) : wpX_buildBitwise post (e, l, r) (nI c) (nI a) (nI b) := by
  have hL := (hP a ha).1
  unfold wpX_buildBitwise
  dsimp only
  refine ⟨vp_in_nI ha (by omega), nm_r (e' := nI (L a)) (by rw [nI_clamp (by omega), (hP a ha).2.1]) ⟨vp_in_nI hb (by omega), br_t (by rw [nI_clamp (by omega), (hP b hb).2.1, hE]) ?_⟩⟩
  refine loop_0 (fun n' i s => wX_buildBitwise_25 post (nI c) (nI a) (nI b) (nI (L a)) n' (nI i) e l s) (fun i s => ∀ j, j < i → s j = bw_i (bw_op c (B a j) (B b j))) (L a) r (fun j hj => absurd hj (by omega)) ?_ ?_
  · intro n' s hI
    exact br_t (nI_le (Nat.le_refl _) (by omega)) (h _ hI)
  · intro n' i s hi hI k
    exact br_f (nI_ge hi (by omega)) (bx_elN hP ha s (by omega) (bx_elN hP hb s (by omega) (bx_op hc (bw_st (bw_op c (B a i) (B b i)) (by omega) (bw_nar _) (k _ (bw_upd (F := fun j => bw_op c (B a j) (B b j)) hI rfl))))))
theorem bx_bwn (hP : bw_P B L e l) {a b : Nat} (ha : a < 6) (hb : b < 6) (hE : ¬ L b = L a) {c : Int32} (r : Nat → Int32) {post : Int32 → SX → Prop} (h : post (-3) (e, l, r)) : wpX_buildBitwise post (e, l, r) c (nI a) (nI b) := by
  have hL := (hP a ha).1
  have hM := (hP b hb).1
  unfold wpX_buildBitwise
  dsimp only
  refine ⟨vp_in_nI ha (by omega), nm_r (e' := nI (L a)) (by rw [nI_clamp (by omega), (hP a ha).2.1]) ⟨vp_in_nI hb (by omega), br_f ?_ h⟩⟩
  rw [nI_clamp (by omega), (hP b hb).2.1, nI_eq (by omega) (by omega)]
  exact hE
theorem bx_pls (hP : bw_P B L e l) {a b : Nat} (ha : a < 6) (hb : b < 6) (hE : L b = L a) (r : Nat → Int32) {post : Int32 → SX → Prop} (h : ∀ r', (∀ i, i < L a → r' i = bw_i ((B a i != B b i) != bw_cy (B a) (B b) i)) → post (nI (L a)) (e, l, r')) : wpX_buildPlus post (e, l, r) (nI a) (nI b) := by
  have hL := (hP a ha).1
  unfold wpX_buildPlus
  dsimp only
  refine ⟨vp_in_nI ha (by omega), nm_r (e' := nI (L a)) (by rw [nI_clamp (by omega), (hP a ha).2.1]) ⟨vp_in_nI hb (by omega), br_t (by rw [nI_clamp (by omega), (hP b hb).2.1, hE]) ?_⟩⟩
  refine loop_0 (fun n' i (s : Int32 × (Nat → Int32)) => wX_buildPlus_26 post (nI a) (nI b) (nI (L a)) n' s.1 (nI i) e l s.2) (fun i s => s.1 = bw_i (bw_cy (B a) (B b) i) ∧ ∀ j, j < i → s.2 j = bw_i ((B a j != B b j) != bw_cy (B a) (B b) j)) (L a) (bw_i (bw_cy (B a) (B b) 0), r) ⟨rfl, fun j hj => absurd hj (by omega)⟩ ?_ ?_
  · intro n' s hI
    exact br_t (nI_le (Nat.le_refl _) (by omega)) (h _ hI.2)
  · intro n' i s hi hI k
    obtain ⟨c, s⟩ := s
    obtain ⟨hc, hI⟩ := hI
    dsimp only at hc hI ⊢
    subst hc
    have fin : ∀ d o : Bool, o = ((B a i != B b i) != bw_cy (B a) (B b) i) → d = (B a i != B b i) → wX_buildPlus_84 post (wX_buildPlus_26 post (nI a) (nI b) (nI (L a)) n') (nI a) (nI b) (nI (L a)) (bw_i (bw_cy (B a) (B b) i)) (nI i) (bw_i (B a i)) (bw_i d) (bw_i o) (nI i) e l s := by
      intro d o ho hd
      refine ⟨vp_in_nI (by omega) (by omega), nm_r (e' := upd s i (bw_i o)) (by rw [nI_clamp (by omega), bw_nar]) (bw_c (fun z => nm_r (nI_1 i) (k (bw_i (B a i), upd s i (bw_i o)) ⟨?_, bw_upd (F := fun j => (B a j != B b j) != bw_cy (B a) (B b) j) hI ho⟩)) (fun z => nm_r (nI_1 i) (k (bw_i (bw_cy (B a) (B b) i), upd s i (bw_i o)) ⟨?_, bw_upd (F := fun j => (B a j != B b j) != bw_cy (B a) (B b) j) hI ho⟩)))⟩
      · have q : B a i = B b i := by
          rw [z] at hd
          cases x : B a i <;> cases y : B b i <;> rw [x, y] at hd <;> first | rfl | exact absurd hd (by decide)
        rw [bw_cyE q]
      · have q : ¬ B a i = B b i := by
          rw [z] at hd
          cases x : B a i <;> cases y : B b i <;> rw [x, y] at hd <;> first | decide | exact absurd hd (by decide)
        rw [bw_cyN q]
    have fin2 : ∀ d : Bool, d = (B a i != B b i) → wX_buildPlus_64 post (wX_buildPlus_26 post (nI a) (nI b) (nI (L a)) n') (nI a) (nI b) (nI (L a)) (bw_i (bw_cy (B a) (B b) i)) (nI i) (bw_i (B a i)) (bw_i d) e l s := by
      intro d hd
      refine bw_ceq (fun z => fin d false ?_ hd) (fun z => fin d true ?_ hd)
      · rw [← hd, z]; cases bw_cy (B a) (B b) i <;> rfl
      · rw [← hd]; revert z; cases d <;> cases bw_cy (B a) (B b) i <;> decide
    refine br_f (nI_ge hi (by omega)) (bx_elN hP ha s (by omega) (bx_elN hP hb s (by omega) (bw_ceq (fun z => fin2 false ?_) (fun z => fin2 true ?_))))
    · rw [z]; cases B b i <;> rfl
    · revert z; cases B a i <;> cases B b i <;> decide
theorem bx_pln (hP : bw_P B L e l) {a b : Nat} (ha : a < 6) (hb : b < 6) (hE : ¬ L b = L a) (r : Nat → Int32) {post : Int32 → SX → Prop} (h : post (-3) (e, l, r)) : wpX_buildPlus post (e, l, r) (nI a) (nI b) := by
  have hL := (hP a ha).1
  have hM := (hP b hb).1
  unfold wpX_buildPlus
  dsimp only
  refine ⟨vp_in_nI ha (by omega), nm_r (e' := nI (L a)) (by rw [nI_clamp (by omega), (hP a ha).2.1]) ⟨vp_in_nI hb (by omega), br_f ?_ h⟩⟩
  rw [nI_clamp (by omega), (hP b hb).2.1, nI_eq (by omega) (by omega)]
  exact hE
theorem bx_joi (hP : bw_P B L e l) {a b : Nat} (ha : a < 6) (hb : b < 6) (hE : L a + L b ≤ 256) (r : Nat → Int32) {post : Int32 → SX → Prop} (h : ∀ r', (∀ i, i < L a + L b → r' i = bw_i (if i < L a then B a i else B b (i - L a))) → post (nI (L a + L b)) (e, l, r')) : wpX_buildJoin post (e, l, r) (nI a) (nI b) := by
  unfold wpX_buildJoin
  dsimp only
  refine ⟨vp_in_nI ha (by omega), nm_r (e' := nI (L a)) (by rw [nI_clamp (by omega), (hP a ha).2.1]) ⟨vp_in_nI hb (by omega), nm_r (e' := nI (L a + L b)) (by rw [nI_clamp (by omega), (hP b hb).2.1, nI_add]) (br_t (nI_le (b := 256) hE (by decide)) ?_)⟩⟩
  refine loop_0 (fun n' i s => wX_buildJoin_31 post (nI a) (nI b) (nI (L a)) (nI (L a + L b)) n' (nI i) e l s) (fun i s => ∀ j, j < i → s j = bw_i (if j < L a then B a j else B b (j - L a))) (L a + L b) r (fun j hj => absurd hj (by omega)) ?_ ?_
  · intro n' s hI
    exact br_t (nI_le (Nat.le_refl _) (by omega)) (h _ hI)
  · intro n' i s hi hI k
    refine br_f (nI_ge hi (by omega)) ?_
    by_cases q : L a ≤ i
    · refine br_t (nI_le q (by omega)) ?_
      rw [pk_sub q]
      exact bx_elN hP hb s (by omega) (bw_st (B b (i - L a)) (by omega) (bw_nar _) (k _ (bw_upd (F := fun j => if j < L a then B a j else B b (j - L a)) hI (if_neg (by omega)).symm)))
    · exact br_f (nI_ge (by omega) (by omega)) (bx_elN hP ha s (by omega) (bw_st (B a i) (by omega) (bw_nar _) (k _ (bw_upd (F := fun j => if j < L a then B a j else B b (j - L a)) hI (if_pos (by omega)).symm))))
theorem bx_jon (hP : bw_P B L e l) {a b : Nat} (ha : a < 6) (hb : b < 6) (hE : ¬ L a + L b ≤ 256) (r : Nat → Int32) {post : Int32 → SX → Prop} (h : post (-3) (e, l, r)) : wpX_buildJoin post (e, l, r) (nI a) (nI b) := by
  have hL := (hP a ha).1
  have hM := (hP b hb).1
  unfold wpX_buildJoin
  dsimp only
  exact ⟨vp_in_nI ha (by omega), nm_r (e' := nI (L a)) (by rw [nI_clamp (by omega), (hP a ha).2.1]) ⟨vp_in_nI hb (by omega), nm_r (e' := nI (L a + L b)) (by rw [nI_clamp (by omega), (hP b hb).2.1, nI_add]) (br_f (nI_ge (a := 256) (by omega) (by omega)) h)⟩⟩
/-- COMPRESS: the element of b at the place of the j-th true one of a -/
def bw_cf (f g : Nat → Bool) (j : Nat) : Bool := bw_z g (bw_pl f (nI j) 256 0).toInt
theorem bw_cfA {f g : Nat → Bool} {i : Nat} (hi : i < 256) (hf : f i = true) : bw_cf f g (bw_cn f i) = g i := by
  unfold bw_cf
  rw [bw_pl_at hf (by omega) 256 0 (by omega) (by omega), nI_toInt (by omega), bw_zN]
theorem bx_com (hP : bw_P B L e l) {a b : Nat} (ha : a < 6) (hb : b < 6) (hE : L b = L a) (r : Nat → Int32) {post : Int32 → SX → Prop} (h : ∀ r', (∀ i, i < bw_cn (B a) 256 → r' i = bw_i (bw_cf (B a) (B b) i)) → post (nI (bw_cn (B a) 256)) (e, l, r')) : wpX_buildCompress post (e, l, r) (nI a) (nI b) := by
  have hL := (hP a ha).1
  unfold wpX_buildCompress
  dsimp only
  refine ⟨vp_in_nI ha (by omega), nm_r (e' := nI (L a)) (by rw [nI_clamp (by omega), (hP a ha).2.1]) ⟨vp_in_nI hb (by omega), br_t (by rw [nI_clamp (by omega), (hP b hb).2.1, hE]) ?_⟩⟩
  have eN : bw_cn (B a) 256 = bw_cn (B a) (L a) := bw_cn_end hL (fun i h1 _ => (hP a ha).2.2.2 i h1)
  rw [eN] at h
  refine loop_0 (fun n' i (s : Int32 × (Nat → Int32)) => wX_buildCompress_26 post (nI a) (nI b) (nI (L a)) n' s.1 (nI i) e l s.2) (fun i s => s.1 = nI (bw_cn (B a) i) ∧ ∀ j, j < bw_cn (B a) i → s.2 j = bw_i (bw_cf (B a) (B b) j)) (L a) (nI 0, r) ⟨rfl, fun j hj => absurd hj (Nat.not_lt_zero j)⟩ ?_ ?_
  · intro n' s hI
    obtain ⟨c, s⟩ := s
    obtain ⟨hc, hI⟩ := hI
    dsimp only at hc hI ⊢
    subst hc
    exact br_t (nI_le (Nat.le_refl _) (by omega)) (h _ hI)
  · intro n' i s hi hI k
    obtain ⟨c, s⟩ := s
    obtain ⟨hc, hI⟩ := hI
    dsimp only at hc hI ⊢
    subst hc
    have hle := bw_cn_le (B a) i
    refine br_f (nI_ge hi (by omega)) (bx_elN hP ha s (by omega) (bw_c (fun z => nm_r (nI_1 i) (k (nI (bw_cn (B a) i), s) ?_)) (fun z => bx_elN hP hb s (by omega) ⟨vp_in_nI (by omega) (by omega), nm_r (e' := upd s (bw_cn (B a) i) (bw_i (B b i))) (by rw [nI_clamp (by omega), bw_nar]) (nm_r (nI_1 _) (nm_r (nI_1 i) (k (nI (bw_cn (B a) i + 1), upd s (bw_cn (B a) i) (bw_i (B b i))) ?_)))⟩)))
    · rw [bw_cnF z]
      exact ⟨rfl, hI⟩
    · rw [bw_cnT z]
      exact ⟨rfl, bw_upd (F := fun j => bw_cf (B a) (B b) j) hI (bw_cfA (by omega) z).symm⟩
theorem bx_con (hP : bw_P B L e l) {a b : Nat} (ha : a < 6) (hb : b < 6) (hE : ¬ L b = L a) (r : Nat → Int32) {post : Int32 → SX → Prop} (h : post (-3) (e, l, r)) : wpX_buildCompress post (e, l, r) (nI a) (nI b) := by
  have hL := (hP a ha).1
  have hM := (hP b hb).1
  unfold wpX_buildCompress
  dsimp only
  refine ⟨vp_in_nI ha (by omega), nm_r (e' := nI (L a)) (by rw [nI_clamp (by omega), (hP a ha).2.1]) ⟨vp_in_nI hb (by omega), br_f ?_ h⟩⟩
  rw [nI_clamp (by omega), (hP b hb).2.1, nI_eq (by omega) (by omega)]
  exact hE
theorem bx_ctA (hP : bw_P B L e l) {a : Nat} (ha : a < 6) (r : Nat → Int32) {post : Int32 → Prop} (h : post (nI (bw_cn (B a) 256))) : wpX_countTrue post (e, l, r) (nI a) 0 (nI (L a) - 1) := by
  have hL := (hP a ha).1
  refine bx_cnt (first := 0) hP ha r (by decide) hL (last := nI (L a) - 1) ?_ ?_
  · intro i hi
    by_cases q : L a = 0
    · rw [q, show nI 0 - 1 = -1 from by decide, Int32.lt_iff_toInt_lt, nI_toInt hi, show (-1 : Int32).toInt = -1 from by decide]
      omega
    · rw [show nI (L a) - 1 = nI (L a - 1) from by
        rw [show L a = (L a - 1) + 1 from by omega, nI_pred]
        rfl, nI_ltI (by omega) hi]
      omega
  · rw [bw_cn_congr (g := B a) (fun i _ => ?_)]
    · exact h
    · rw [decide_eq_true (p := 0 ≤ i) (by omega), Bool.true_and]
      by_cases q : i < L a
      · rw [decide_eq_true q, Bool.true_and]
      · rw [decide_eq_false q, Bool.false_and, (hP a ha).2.2.2 i (by omega)]
theorem bx_exp (hP : bw_P B L e l) {a b : Nat} (ha : a < 6) (hb : b < 6) (hE : L b = bw_cn (B a) 256) (r : Nat → Int32) {post : Int32 → SX → Prop} (h : ∀ r', (∀ i, i < L a → r' i = bw_i (B a i && B b (bw_cn (B a) i))) → post (nI (L a)) (e, l, r')) : wpX_buildExpand post (e, l, r) (nI a) (nI b) := by
  have hL := (hP a ha).1
  unfold wpX_buildExpand
  dsimp only
  refine ⟨vp_in_nI ha (by omega), nm_r (e' := nI (L a)) (by rw [nI_clamp (by omega), (hP a ha).2.1]) (bx_ctA hP ha r ⟨vp_in_nI hb (by omega), br_t (by rw [nI_clamp (by omega), (hP b hb).2.1, hE]) ?_⟩)⟩
  refine loop_0 (fun n' i (s : Int32 × (Nat → Int32)) => wX_buildExpand_38 post (nI a) (nI b) (nI (L a)) n' s.1 (nI i) e l s.2) (fun i s => s.1 = nI (bw_cn (B a) i) ∧ ∀ j, j < i → s.2 j = bw_i (B a j && B b (bw_cn (B a) j))) (L a) (nI 0, r) ⟨rfl, fun j hj => absurd hj (Nat.not_lt_zero j)⟩ ?_ ?_
  · intro n' s hI
    exact br_t (nI_le (Nat.le_refl _) (by omega)) (h _ hI.2)
  · intro n' i s hi hI k
    obtain ⟨c, s⟩ := s
    obtain ⟨hc, hI⟩ := hI
    dsimp only at hc hI ⊢
    subst hc
    have hle := bw_cn_le (B a) i
    refine br_f (nI_ge hi (by omega)) ⟨vp_in_nI (by omega) (by omega), nm_r (e' := upd s i (bw_i false)) (by rw [nI_clamp (by omega), bw_nar0]) (bx_elN hP ha _ (by omega) (bw_c (fun z => nm_r (nI_1 i) (k (nI (bw_cn (B a) i), upd s i (bw_i false)) ⟨?_, ?_⟩)) (fun z => bx_elN hP hb _ (by omega) ⟨vp_in_nI (by omega) (by omega), nm_r (e' := upd (upd s i (bw_i false)) i (bw_i (B b (bw_cn (B a) i)))) (by rw [nI_clamp (by omega), bw_nar]) (nm_r (nI_1 _) (nm_r (nI_1 i) (k (nI (bw_cn (B a) i + 1), upd (upd s i (bw_i false)) i (bw_i (B b (bw_cn (B a) i)))) ⟨?_, ?_⟩)))⟩)))⟩
    · rw [bw_cnF z]
    · exact bw_upd (F := fun j => B a j && B b (bw_cn (B a) j)) hI (by rw [z, Bool.false_and])
    · rw [bw_cnT z]
    · refine bw_upd (F := fun j => B a j && B b (bw_cn (B a) j)) (fun j hj => ?_) (by rw [z, Bool.true_and])
      rw [pk_un (by omega)]
      exact hI j hj
theorem bx_exn (hP : bw_P B L e l) {a b : Nat} (ha : a < 6) (hb : b < 6) (hE : ¬ L b = bw_cn (B a) 256) (r : Nat → Int32) {post : Int32 → SX → Prop} (h : post (-3) (e, l, r)) : wpX_buildExpand post (e, l, r) (nI a) (nI b) := by
  have hM := (hP b hb).1
  have hle := bw_cn_le (B a) 256
  unfold wpX_buildExpand
  dsimp only
  refine ⟨vp_in_nI ha (by omega), nm_r (e' := nI (L a)) (by rw [nI_clamp (by omega), (hP a ha).2.1]) (bx_ctA hP ha r ⟨vp_in_nI hb (by omega), br_f ?_ h⟩)⟩
  rw [nI_clamp (by omega), (hP b hb).2.1, nI_eq (by omega) (by omega)]
  exact hE
theorem bx_mes (hP : bw_P B L e l) {a b : Nat} (ha : a < 6) (hb : b < 6) (hE : L b = L a) (hS : L a + L b ≤ 256) (r : Nat → Int32) {post : Int32 → SX → Prop} (h : ∀ r', (∀ i, i < L a + L b → r' i = bw_i (if i % 2 = 0 then B a (i / 2) else B b (i / 2))) → post (nI (L a + L b)) (e, l, r')) : wpX_buildMesh post (e, l, r) (nI a) (nI b) := by
  unfold wpX_buildMesh
  dsimp only
  refine ⟨vp_in_nI ha (by omega), nm_r (e' := nI (L a)) (by rw [nI_clamp (by omega), (hP a ha).2.1]) ⟨vp_in_nI hb (by omega), nm_r (e' := nI (L a + L b)) (by rw [nI_clamp (by omega), (hP b hb).2.1, nI_add]) ⟨vp_in_nI hb (by omega), br_t (by rw [nI_clamp (by omega), (hP b hb).2.1, hE]) (br_t (nI_le (b := 256) hS (by decide)) ?_)⟩⟩⟩
  refine loop_0 (fun n' i s => wX_buildMesh_41 post (nI a) (nI b) (nI (L a)) (nI (L a + L b)) n' (nI i) e l s) (fun i s => ∀ j, j < 2 * i → s j = bw_i (if j % 2 = 0 then B a (j / 2) else B b (j / 2))) (L a) r (fun j hj => absurd hj (by omega)) ?_ ?_
  · intro n' s hI
    exact br_t (nI_le (Nat.le_refl _) (by omega)) (h _ (fun i hi => hI i (by omega)))
  · intro n' i s hi hI k
    refine br_f (nI_ge hi (by omega)) ?_
    rw [bw_2i, nI_1]
    refine bx_elN hP ha s (by omega) ⟨vp_in_nI (by omega) (by omega), nm_r (e' := upd s (2 * i) (bw_i (B a i))) (by rw [nI_clamp (by omega), bw_nar]) (bx_elN hP hb _ (by omega) ⟨vp_in_nI (by omega) (by omega), nm_r (e' := upd (upd s (2 * i) (bw_i (B a i))) (2 * i + 1) (bw_i (B b i))) (by rw [nI_clamp (by omega), bw_nar]) (nm_r (nI_1 i) (k _ ?_))⟩)⟩
    have h1 := bw_upd (F := fun j => if j % 2 = 0 then B a (j / 2) else B b (j / 2)) (b := B a i) hI (by
      rw [if_pos (by omega), show 2 * i / 2 = i from by omega])
    have h2 := bw_upd (F := fun j => if j % 2 = 0 then B a (j / 2) else B b (j / 2)) (i := 2 * i + 1) (b := B b i) h1 (by
      rw [if_neg (by omega), show (2 * i + 1) / 2 = i from by omega])
    exact fun j hj => h2 j (by omega)
theorem bx_men (hP : bw_P B L e l) {a b : Nat} (ha : a < 6) (hb : b < 6) (hE : ¬ L b = L a ∨ ¬ L a + L b ≤ 256) (r : Nat → Int32) {post : Int32 → SX → Prop} (h : post (-3) (e, l, r)) : wpX_buildMesh post (e, l, r) (nI a) (nI b) := by
  have hL := (hP a ha).1
  have hM := (hP b hb).1
  unfold wpX_buildMesh
  dsimp only
  refine ⟨vp_in_nI ha (by omega), nm_r (e' := nI (L a)) (by rw [nI_clamp (by omega), (hP a ha).2.1]) ⟨vp_in_nI hb (by omega), nm_r (e' := nI (L a + L b)) (by rw [nI_clamp (by omega), (hP b hb).2.1, nI_add]) ⟨vp_in_nI hb (by omega), ?_⟩⟩⟩
  rw [nI_clamp (by omega), (hP b hb).2.1, nI_eq (by omega) (by omega)]
  exact br_c (fun z => br_f (nI_ge (a := 256) (by omega) (by omega)) h) (fun _ => h)
end
end
section
theorem bw_dnM (i : Nat) : nI i - 1 = bw_dn i := by
  rw [← bw_dnS, Int32.sub_eq_add_neg]
section
variable {B : Nat → Nat → Bool} {L : Nat → Nat} {e l : Nat → Int32}
theorem by_cyl (hP : bw_P B L e l) {a b : Nat} (ha : a < 6) (hb : b < 6) (w : Nat → Int32) {post : Int32 → Prop} : ∀ d, d ≤ 256 → post (bw_i (bw_cy (B a) (B b) d)) → wY_carry_5 post (nI a) (nI b) e l w (d + 1) (bw_dn d) := by
  intro d
  induction d with
  | zero => intro _ h; exact br_t (by decide) h
  | succ d ih =>
    intro hd h
    refine br_f (nI_pos (by omega)) (by_elN hP ha w (by omega) (by_elN hP hb w (by omega) (bw_ceq (fun z => by_elN hP ha w (by omega) ⟨bw_narr _, ?_⟩) (fun z => nm_r (bw_dnS d) (ih (by omega) ?_)))))
    · rw [bw_cyE z] at h; exact h
    · rw [bw_cyN z] at h; exact h
theorem by_cy (hP : bw_P B L e l) {a b : Nat} (ha : a < 6) (hb : b < 6) (w : Nat → Int32) {i : Nat} (hi : i ≤ 256) {post : Int32 → Prop} (h : post (bw_i (bw_cy (B a) (B b) i))) : wpY_carry post (e, l, w) (nI a) (nI b) (nI i) := by
  unfold wpY_carry
  dsimp only
  exact nm_r (bw_dnM i) ⟨i + 1, by_cyl hP ha hb w i hi h⟩
theorem by_m0 (hP : bw_P B L e l) {a b : Nat} (ha : a < 6) (hb : b < 6) (w : Nat → Int32) {i : Nat} (hi : i < 256) {post : Int32 → Prop} (h : post (bw_i (bw_op 0 (B a i) (B b i)))) : wpY_mixed post (e, l, w) 0 (nI a) (nI b) (nI i) := by
  rw [bw_op0] at h
  unfold wpY_mixed
  dsimp only
  refine ⟨vp_in_nI ha (by omega), nm_e (by_elN hP ha w (by omega) (by_elN hP hb w (by omega) (br_t rfl (bw_c (fun q => ?_) (fun q => bw_c (fun z => ?_) (fun z => ?_))))))⟩
  · rw [q, Bool.false_and] at h; exact h
  · rw [z, Bool.and_false] at h; exact h
  · rw [q, z] at h; exact h
theorem by_m1 (hP : bw_P B L e l) {a b : Nat} (ha : a < 6) (hb : b < 6) (w : Nat → Int32) {i : Nat} (hi : i < 256) {post : Int32 → Prop} (h : post (bw_i (bw_op 1 (B a i) (B b i)))) : wpY_mixed post (e, l, w) 1 (nI a) (nI b) (nI i) := by
  rw [bw_op1] at h
  unfold wpY_mixed
  dsimp only
  refine ⟨vp_in_nI ha (by omega), nm_e (by_elN hP ha w (by omega) (by_elN hP hb w (by omega) (br_f (by decide) (br_t rfl (bw_c (fun q => bw_c (fun z => ?_) (fun z => ?_)) (fun q => ?_))))))⟩
  · rw [q, z] at h; exact h
  · rw [z, Bool.or_true] at h; exact h
  · rw [q, Bool.true_or] at h; exact h
theorem bw_neF {x y : Bool} (h : x = y) : (x != y) = false := by subst h; cases x <;> rfl
theorem bw_neT {x y : Bool} (h : ¬ x = y) : (x != y) = true := by cases x <;> cases y <;> first | rfl | exact absurd rfl h
theorem by_m2 (hP : bw_P B L e l) {a b : Nat} (ha : a < 6) (hb : b < 6) (w : Nat → Int32) {i : Nat} (hi : i < 256) {post : Int32 → Prop} (h : post (bw_i (bw_op 2 (B a i) (B b i)))) : wpY_mixed post (e, l, w) 2 (nI a) (nI b) (nI i) := by
  rw [bw_op2] at h
  unfold wpY_mixed
  dsimp only
  refine ⟨vp_in_nI ha (by omega), nm_e (by_elN hP ha w (by omega) (by_elN hP hb w (by omega) (br_f (by decide) (br_f (by decide) (br_t rfl (bw_ceq (fun q => ?_) (fun q => ?_)))))))⟩
  · rw [bw_neF q] at h; exact h
  · rw [bw_neT q] at h; exact h
theorem by_m3 (hP : bw_P B L e l) {a b : Nat} (ha : a < 6) (hb : b < 6) (w : Nat → Int32) {i : Nat} (hi : i < 256) {post : Int32 → Prop} (h : post (bw_i ((B a i != B b i) != bw_cy (B a) (B b) i))) : wpY_mixed post (e, l, w) 3 (nI a) (nI b) (nI i) := by
  unfold wpY_mixed
  dsimp only
  have fin : ∀ d : Bool, d = (B a i != B b i) → wY_mixed_114 post (bw_i (bw_cy (B a) (B b) i)) (bw_i d) e l w := by
    intro d hd
    rw [← hd] at h
    refine bw_ceq (fun q => ?_) (fun q => ?_)
    · rw [bw_neF q] at h; exact h
    · rw [bw_neT q] at h; exact h
  exact ⟨vp_in_nI ha (by omega), nm_e (by_elN hP ha w (by omega) (by_elN hP hb w (by omega) (br_f (by decide) (br_f (by decide) (br_f (by decide) (br_t rfl (by_cy hP ha hb w (by omega) (bw_ceq (fun q => fin false (bw_neF q).symm) (fun q => fin true (bw_neT q).symm)))))))))⟩
theorem by_m4 (hP : bw_P B L e l) {a b : Nat} (ha : a < 6) (hb : b < 6) (w : Nat → Int32) {i : Nat} (hi : i < 256) {post : Int32 → Prop} (h : post (bw_i (if i < L a then B a i else B b (i - L a)))) : wpY_mixed post (e, l, w) 4 (nI a) (nI b) (nI i) := by
  have hL := (hP a ha).1
  unfold wpY_mixed
  dsimp only
  refine ⟨vp_in_nI ha (by omega), nm_r (e' := nI (L a)) (by rw [nI_clamp (by omega), (hP a ha).2.1]) (by_elN hP ha w (by omega) (by_elN hP hb w (by omega) (br_f (by decide) (br_f (by decide) (br_f (by decide) (br_f (by decide) (br_t rfl ?_)))))))⟩
  by_cases q : L a ≤ i
  · rw [if_neg (by omega)] at h
    refine br_t (nI_le q (by omega)) ?_
    rw [pk_sub q]
    exact by_elN hP hb w (by omega) ⟨bw_narr _, h⟩
  · rw [if_pos (by omega)] at h
    exact br_f (nI_ge (by omega) (by omega)) ⟨bw_narr _, h⟩
theorem by_m5 (hP : bw_P B L e l) {a b : Nat} (ha : a < 6) (hb : b < 6) (w : Nat → Int32) {i : Nat} (hi : i < 256) {post : Int32 → Prop} (h : post (bw_i (bw_cf (B a) (B b) i))) : wpY_mixed post (e, l, w) 5 (nI a) (nI b) (nI i) := by
  unfold wpY_mixed
  dsimp only
  exact ⟨vp_in_nI ha (by omega), nm_e (by_elN hP ha w (by omega) (by_elN hP hb w (by omega) (br_f (by decide) (br_f (by decide) (br_f (by decide) (br_f (by decide) (br_f (by decide) (br_f (by decide) (br_f (by decide) (by_pl hP ha w (by_el hP hb w _ (Int32.toInt_toInt64 _) ⟨bw_narr _, h⟩)))))))))))⟩
theorem by_m6 (hP : bw_P B L e l) {a b : Nat} (ha : a < 6) (hb : b < 6) (w : Nat → Int32) {i : Nat} (hi : i < 256) {post : Int32 → Prop} (h : post (bw_i (B a i && B b (bw_cn (B a) i)))) : wpY_mixed post (e, l, w) 6 (nI a) (nI b) (nI i) := by
  have hle := bw_cn_le (B a) i
  unfold wpY_mixed
  dsimp only
  refine ⟨vp_in_nI ha (by omega), nm_e (by_elN hP ha w (by omega) (by_elN hP hb w (by omega) (br_f (by decide) (br_f (by decide) (br_f (by decide) (br_f (by decide) (br_f (by decide) (br_t rfl (by_upTo hP ha w (by omega) (bw_c (fun q => ?_) (fun q => ?_)))))))))))⟩
  · rw [q, Bool.false_and] at h; exact h
  · rw [q, Bool.true_and] at h
    rw [bw_cnT q, nI_pred]
    refine by_elN hP hb w (by omega) (bw_c (fun z => ?_) (fun z => ?_))
    · rw [z] at h; exact h
    · rw [z] at h; exact h
theorem bw_div2 {c : Nat} (hc : c < 2 ^ 31) : nI c / 2 = nI (c / 2) := pk_div (d := 2) hc (by decide) (by decide)
theorem by_m7 (hP : bw_P B L e l) {a b : Nat} (ha : a < 6) (hb : b < 6) (w : Nat → Int32) {i : Nat} (hi : i < 256) {post : Int32 → Prop} (h : post (bw_i (if i % 2 = 0 then B a (i / 2) else B b (i / 2)))) : wpY_mixed post (e, l, w) 7 (nI a) (nI b) (nI i) := by
  unfold wpY_mixed
  dsimp only
  refine ⟨vp_in_nI ha (by omega), nm_e (by_elN hP ha w (by omega) (by_elN hP hb w (by omega) (br_f (by decide) (br_f (by decide) (br_f (by decide) (br_f (by decide) (br_f (by decide) (br_f (by decide) (br_t rfl ⟨by decide, ?_⟩)))))))))⟩
  rw [bw_rem2 (by omega), bw_div2 (by omega)]
  by_cases q : i % 2 = 0
  · rw [if_pos q] at h
    exact br_t (by rw [q]; rfl) ⟨by decide, by_elN hP ha w (by omega) ⟨bw_narr _, h⟩⟩
  · rw [if_neg q] at h
    exact br_f (nI_ne0 (by omega) (by omega)) ⟨by decide, by_elN hP hb w (by omega) ⟨bw_narr _, h⟩⟩
theorem by_sz (hP : bw_P B L e l) {a b : Nat} (ha : a < 6) (hb : b < 6) (w : Nat → Int32) {c : Int32} {post : Int32 → Prop}
    (h : ((c = 4 → (((nI (L a) + nI (L b)) ≤ 256 → (post (nI (L a) + nI (L b)))) ∧ (¬ (nI (L a) + nI (L b)) ≤ 256 → (post (-3))))) ∧ (¬ c = 4 → ((c = 6 → ((nI (L b) = nI (bw_cn (B a) 256) → (post (nI (L a)))) ∧ (¬ nI (L b) = nI (bw_cn (B a) 256) → (post (-3))))) ∧ (¬ c = 6 → ((nI (L a) = nI (L b) → ((c = 7 → (((nI (L a) + nI (L b)) ≤ 256 → (post (nI (L a) + nI (L b)))) ∧ (¬ (nI (L a) + nI (L b)) ≤ 256 → (post (-3))))) ∧ (¬ c = 7 → ((c = 5 → (post (nI (bw_cn (B a) 256)))) ∧ (¬ c = 5 → (post (nI (L a)))))))) ∧ (¬ nI (L a) = nI (L b) → (post (-3))))))))) : wpY_size post (e, l, w) c (nI a) (nI b) := by
  unfold wpY_size
  dsimp only
  exact ⟨vp_in_nI ha (by omega), nm_r (e' := nI (L a)) (by rw [nI_clamp (by omega), (hP a ha).2.1]) ⟨vp_in_nI hb (by omega), nm_r (e' := nI (L b)) (by rw [nI_clamp (by omega), (hP b hb).2.1]) (by_upTo (i0 := 255) hP ha w (by decide) h)⟩⟩
theorem by_sE (hP : bw_P B L e l) {a b : Nat} (ha : a < 6) (hb : b < 6) (hE : L b = L a) {c : Int32} (h4 : ¬ c = 4) (h6 : ¬ c = 6) (h7 : ¬ c = 7) (h5 : ¬ c = 5) (w : Nat → Int32) {post : Int32 → Prop} (h : post (nI (L a))) : wpY_size post (e, l, w) c (nI a) (nI b) :=
  by_sz hP ha hb w (br_f h4 (br_f h6 (br_t (by rw [hE]) (br_f h7 (br_f h5 h)))))
theorem by_sEN (hP : bw_P B L e l) {a b : Nat} (ha : a < 6) (hb : b < 6) (hE : ¬ L b = L a) {c : Int32} (h4 : ¬ c = 4) (h6 : ¬ c = 6) (w : Nat → Int32) {post : Int32 → Prop} (h : post (-3)) : wpY_size post (e, l, w) c (nI a) (nI b) := by
  have hL := (hP a ha).1
  have hM := (hP b hb).1
  exact by_sz hP ha hb w (br_f h4 (br_f h6 (br_f (fun z => hE ((nI_eq (by omega) (by omega)).mp z).symm) h)))
theorem by_s4 (hP : bw_P B L e l) {a b : Nat} (ha : a < 6) (hb : b < 6) (hE : L a + L b ≤ 256) (w : Nat → Int32) {post : Int32 → Prop} (h : post (nI (L a + L b))) : wpY_size post (e, l, w) 4 (nI a) (nI b) := by
  refine by_sz hP ha hb w (br_t rfl ?_)
  rw [nI_add]
  exact br_t (nI_le (b := 256) hE (by decide)) h
theorem by_s4N (hP : bw_P B L e l) {a b : Nat} (ha : a < 6) (hb : b < 6) (hE : ¬ L a + L b ≤ 256) (w : Nat → Int32) {post : Int32 → Prop} (h : post (-3)) : wpY_size post (e, l, w) 4 (nI a) (nI b) := by
  have hL := (hP a ha).1
  have hM := (hP b hb).1
  refine by_sz hP ha hb w (br_t rfl ?_)
  rw [nI_add]
  exact br_f (nI_ge (a := 256) (by omega) (by omega)) h
theorem by_s5 (hP : bw_P B L e l) {a b : Nat} (ha : a < 6) (hb : b < 6) (hE : L b = L a) (w : Nat → Int32) {post : Int32 → Prop} (h : post (nI (bw_cn (B a) 256))) : wpY_size post (e, l, w) 5 (nI a) (nI b) :=
  by_sz hP ha hb w (br_f (by decide) (br_f (by decide) (br_t (by rw [hE]) (br_f (by decide) (br_t rfl h)))))
theorem by_s6 (hP : bw_P B L e l) {a b : Nat} (ha : a < 6) (hb : b < 6) (hE : L b = bw_cn (B a) 256) (w : Nat → Int32) {post : Int32 → Prop} (h : post (nI (L a))) : wpY_size post (e, l, w) 6 (nI a) (nI b) :=
  by_sz hP ha hb w (br_f (by decide) (br_t rfl (br_t (by rw [hE]) h)))
theorem by_s6N (hP : bw_P B L e l) {a b : Nat} (ha : a < 6) (hb : b < 6) (hE : ¬ L b = bw_cn (B a) 256) (w : Nat → Int32) {post : Int32 → Prop} (h : post (-3)) : wpY_size post (e, l, w) 6 (nI a) (nI b) := by
  have hM := (hP b hb).1
  have hle := bw_cn_le (B a) 256
  exact by_sz hP ha hb w (br_f (by decide) (br_t rfl (br_f (fun z => hE ((nI_eq (by omega) (by omega)).mp z)) h)))
theorem by_s7 (hP : bw_P B L e l) {a b : Nat} (ha : a < 6) (hb : b < 6) (hE : L b = L a) (hS : L a + L b ≤ 256) (w : Nat → Int32) {post : Int32 → Prop} (h : post (nI (L a + L b))) : wpY_size post (e, l, w) 7 (nI a) (nI b) := by
  refine by_sz hP ha hb w (br_f (by decide) (br_f (by decide) (br_t (by rw [hE]) (br_t rfl ?_))))
  rw [nI_add]
  exact br_t (nI_le (b := 256) hS (by decide)) h
theorem by_s7N (hP : bw_P B L e l) {a b : Nat} (ha : a < 6) (hb : b < 6) (hE : L b = L a) (hS : ¬ L a + L b ≤ 256) (w : Nat → Int32) {post : Int32 → Prop} (h : post (-3)) : wpY_size post (e, l, w) 7 (nI a) (nI b) := by
  have hL := (hP a ha).1
  have hM := (hP b hb).1
  refine by_sz hP ha hb w (br_f (by decide) (br_f (by decide) (br_t (by rw [hE]) (br_t rfl ?_))))
  rw [nI_add]
  exact br_f (nI_ge (a := 256) (by omega) (by omega)) h
theorem by_cmS (hP : bw_P B L e l) {t a b : Nat} (ht : t < 6) (ha : a < 6) (hb : b < 6) {c : Int32} (hc0 : ¬ c < 0) (hc7 : c ≤ 7) {n : Nat} (hn : n ≤ 256) (F : Nat → Bool) (hs : ∀ (w : Nat → Int32) (post : Int32 → Prop), post (nI n) → wpY_size post (e, l, w) c (nI a) (nI b))
    (hF : ∀ (w : Nat → Int32) (i : Nat) (post : Int32 → Prop), i < n → post (bw_i (F i)) → wpY_mixed post (e, l, w) c (nI a) (nI b) (nI i)) (w : Nat → Int32) {post : Int32 → SY → Prop}
    (h : ∀ e' l' w', bw_P (bw_sB B t n F) (bw_sL L t n) e' l' → post (nI n) (e', l', w')) : wpY_combine post (e, l, w) (nI t) c (nI a) (nI b) := by
  unfold wpY_combine
  dsimp only
  refine by_iv ht (br_t rfl (by_iv ha (br_t rfl (by_iv hb (br_t rfl (br_f hc0 (br_t hc7 (hs w _ (br_t (nI_pos' (by omega)) ?_)))))))))
  refine loop_0 (fun n' i s => wY_combine_61 post (nI t) c (nI a) (nI b) (nI n) n' (nI i) e l s) (fun i s => ∀ j, j < i → s j = bw_i (F j)) n w (fun j hj => absurd hj (by omega)) ?_ ?_
  · intro n' s hI
    exact br_t (nI_le (Nat.le_refl _) (by omega)) (by_bec hP ht hn F hI (fun e' l' q => h e' l' s q))
  · intro n' i s hi hI k
    exact br_f (nI_ge hi (by omega)) (hF s i _ hi (bw_st (F i) (by omega) (bw_nar _) (k _ (bw_upd (F := F) hI rfl))))
theorem by_cmN {t a b : Nat} (ht : t < 6) (ha : a < 6) (hb : b < 6) {c : Int32} (hc0 : ¬ c < 0) (hc7 : c ≤ 7) (hs : ∀ (w : Nat → Int32) (post : Int32 → Prop), post (-3) → wpY_size post (e, l, w) c (nI a) (nI b)) (w : Nat → Int32) {post : Int32 → SY → Prop} (h : post (-3) (e, l, w)) : wpY_combine post (e, l, w) (nI t) c (nI a) (nI b) := by
  unfold wpY_combine
  dsimp only
  exact by_iv ht (br_t rfl (by_iv ha (br_t rfl (by_iv hb (br_t rfl (br_f hc0 (br_t hc7 (hs w _ (br_f (by decide) h)))))))))
end
end
section
section
variable {B : Nat → Nat → Bool} {L : Nat → Nat} {e l : Nat → Int32}
theorem bw_k0 {a b : Nat} (ha : a < 6) (hb : b < 6) (hL : L a ≤ 256) : bw_O B L (fun post u => wpX_buildCombination post u 0 (nI a) (nI b)) (fun post u t => wpY_combine post u (nI t) 0 (nI a) (nI b)) := by
  by_cases hE : L b = L a
  · skip
    refine Or.inl ⟨L a, fun i => bw_op 0 (B a i) (B b i), hL, ?_, ?_⟩
    · intro e l r post hP h
      unfold wpX_buildCombination
      dsimp only
      exact br_f (by decide) (br_f (by decide) (br_t rfl (bx_bwb (c := 0) hP ha hb hE (by decide) r h)))
    · intro t e l w post ht hP h
      exact by_cmS hP ht ha hb (by decide) (by decide) hL (fun i => bw_op 0 (B a i) (B b i)) (fun w post q => by_sE hP ha hb hE (by decide) (by decide) (by decide) (by decide) w q) (fun w i post hi q => by_m0 hP ha hb w (by omega) q) w h
  · skip
    refine Or.inr ⟨?_, ?_⟩
    · intro e l r post hP h
      unfold wpX_buildCombination
      dsimp only
      exact br_f (by decide) (br_f (by decide) (br_t rfl (bx_bwn hP ha hb hE r h)))
    · intro t e l w post ht hP h
      exact by_cmN ht ha hb (by decide) (by decide) (fun w post q => by_sEN hP ha hb hE (by decide) (by decide) w q) w h
theorem bw_k1 {a b : Nat} (ha : a < 6) (hb : b < 6) (hL : L a ≤ 256) : bw_O B L (fun post u => wpX_buildCombination post u 1 (nI a) (nI b)) (fun post u t => wpY_combine post u (nI t) 1 (nI a) (nI b)) := by
  by_cases hE : L b = L a
  · skip
    refine Or.inl ⟨L a, fun i => bw_op 1 (B a i) (B b i), hL, ?_, ?_⟩
    · intro e l r post hP h
      unfold wpX_buildCombination
      dsimp only
      exact br_f (by decide) (br_f (by decide) (br_f (by decide) (br_t rfl (bx_bwb (c := 1) hP ha hb hE (by decide) r h))))
    · intro t e l w post ht hP h
      exact by_cmS hP ht ha hb (by decide) (by decide) hL (fun i => bw_op 1 (B a i) (B b i)) (fun w post q => by_sE hP ha hb hE (by decide) (by decide) (by decide) (by decide) w q) (fun w i post hi q => by_m1 hP ha hb w (by omega) q) w h
  · skip
    refine Or.inr ⟨?_, ?_⟩
    · intro e l r post hP h
      unfold wpX_buildCombination
      dsimp only
      exact br_f (by decide) (br_f (by decide) (br_f (by decide) (br_t rfl (bx_bwn hP ha hb hE r h))))
    · intro t e l w post ht hP h
      exact by_cmN ht ha hb (by decide) (by decide) (fun w post q => by_sEN hP ha hb hE (by decide) (by decide) w q) w h
theorem bw_k2 {a b : Nat} (ha : a < 6) (hb : b < 6) (hL : L a ≤ 256) : bw_O B L (fun post u => wpX_buildCombination post u 2 (nI a) (nI b)) (fun post u t => wpY_combine post u (nI t) 2 (nI a) (nI b)) := by
  by_cases hE : L b = L a
  · skip
    refine Or.inl ⟨L a, fun i => bw_op 2 (B a i) (B b i), hL, ?_, ?_⟩
    · intro e l r post hP h
      unfold wpX_buildCombination
      dsimp only
      exact br_f (by decide) (br_f (by decide) (br_f (by decide) (br_f (by decide) (br_t rfl (bx_bwb (c := 2) hP ha hb hE (by decide) r h)))))
    · intro t e l w post ht hP h
      exact by_cmS hP ht ha hb (by decide) (by decide) hL (fun i => bw_op 2 (B a i) (B b i)) (fun w post q => by_sE hP ha hb hE (by decide) (by decide) (by decide) (by decide) w q) (fun w i post hi q => by_m2 hP ha hb w (by omega) q) w h
  · skip
    refine Or.inr ⟨?_, ?_⟩
    · intro e l r post hP h
      unfold wpX_buildCombination
      dsimp only
      exact br_f (by decide) (br_f (by decide) (br_f (by decide) (br_f (by decide) (br_t rfl (bx_bwn hP ha hb hE r h)))))
    · intro t e l w post ht hP h
      exact by_cmN ht ha hb (by decide) (by decide) (fun w post q => by_sEN hP ha hb hE (by decide) (by decide) w q) w h
theorem bw_k3 {a b : Nat} (ha : a < 6) (hb : b < 6) (hL : L a ≤ 256) : bw_O B L (fun post u => wpX_buildCombination post u 3 (nI a) (nI b)) (fun post u t => wpY_combine post u (nI t) 3 (nI a) (nI b)) := by
  by_cases hE : L b = L a
  · skip
    refine Or.inl ⟨L a, fun i => ((B a i != B b i) != bw_cy (B a) (B b) i), hL, ?_, ?_⟩
    · intro e l r post hP h
      unfold wpX_buildCombination
      dsimp only
      exact br_f (by decide) (br_f (by decide) (br_f (by decide) (br_f (by decide) (br_f (by decide) (br_t rfl (bx_pls hP ha hb hE r h))))))
    · intro t e l w post ht hP h
      exact by_cmS hP ht ha hb (by decide) (by decide) hL (fun i => ((B a i != B b i) != bw_cy (B a) (B b) i)) (fun w post q => by_sE hP ha hb hE (by decide) (by decide) (by decide) (by decide) w q) (fun w i post hi q => by_m3 hP ha hb w (by omega) q) w h
  · skip
    refine Or.inr ⟨?_, ?_⟩
    · intro e l r post hP h
      unfold wpX_buildCombination
      dsimp only
      exact br_f (by decide) (br_f (by decide) (br_f (by decide) (br_f (by decide) (br_f (by decide) (br_t rfl (bx_pln hP ha hb hE r h))))))
    · intro t e l w post ht hP h
      exact by_cmN ht ha hb (by decide) (by decide) (fun w post q => by_sEN hP ha hb hE (by decide) (by decide) w q) w h
theorem bw_k4 {a b : Nat} (ha : a < 6) (hb : b < 6) (hL : L a ≤ 256) : bw_O B L (fun post u => wpX_buildCombination post u 4 (nI a) (nI b)) (fun post u t => wpY_combine post u (nI t) 4 (nI a) (nI b)) := by
  by_cases hE : L a + L b ≤ 256
  · skip
    refine Or.inl ⟨L a + L b, fun i => if i < L a then B a i else B b (i - L a), hE, ?_, ?_⟩
    · intro e l r post hP h
      unfold wpX_buildCombination
      dsimp only
      exact br_f (by decide) (br_f (by decide) (br_f (by decide) (br_f (by decide) (br_f (by decide) (br_f (by decide) (br_t rfl (bx_joi hP ha hb hE r h)))))))
    · intro t e l w post ht hP h
      exact by_cmS hP ht ha hb (by decide) (by decide) hE (fun i => if i < L a then B a i else B b (i - L a)) (fun w post q => by_s4 hP ha hb hE w q) (fun w i post hi q => by_m4 hP ha hb w (by omega) q) w h
  · skip
    refine Or.inr ⟨?_, ?_⟩
    · intro e l r post hP h
      unfold wpX_buildCombination
      dsimp only
      exact br_f (by decide) (br_f (by decide) (br_f (by decide) (br_f (by decide) (br_f (by decide) (br_f (by decide) (br_t rfl (bx_jon hP ha hb hE r h)))))))
    · intro t e l w post ht hP h
      exact by_cmN ht ha hb (by decide) (by decide) (fun w post q => by_s4N hP ha hb hE w q) w h
theorem bw_k5 {a b : Nat} (ha : a < 6) (hb : b < 6) (hL : L a ≤ 256) : bw_O B L (fun post u => wpX_buildCombination post u 5 (nI a) (nI b)) (fun post u t => wpY_combine post u (nI t) 5 (nI a) (nI b)) := by
  by_cases hE : L b = L a
  · skip
    refine Or.inl ⟨bw_cn (B a) 256, fun i => bw_cf (B a) (B b) i, (bw_cn_le _ _), ?_, ?_⟩
    · intro e l r post hP h
      unfold wpX_buildCombination
      dsimp only
      exact br_f (by decide) (br_f (by decide) (br_f (by decide) (br_f (by decide) (br_f (by decide) (br_f (by decide) (br_f (by decide) (br_t rfl (bx_com hP ha hb hE r h))))))))
    · intro t e l w post ht hP h
      exact by_cmS hP ht ha hb (by decide) (by decide) (bw_cn_le _ _) (fun i => bw_cf (B a) (B b) i) (fun w post q => by_s5 hP ha hb hE w q) (fun w i post hi q => by_m5 hP ha hb w (Nat.lt_of_lt_of_le hi (bw_cn_le _ _)) q) w h
  · skip
    refine Or.inr ⟨?_, ?_⟩
    · intro e l r post hP h
      unfold wpX_buildCombination
      dsimp only
      exact br_f (by decide) (br_f (by decide) (br_f (by decide) (br_f (by decide) (br_f (by decide) (br_f (by decide) (br_f (by decide) (br_t rfl (bx_con hP ha hb hE r h))))))))
    · intro t e l w post ht hP h
      exact by_cmN ht ha hb (by decide) (by decide) (fun w post q => by_sEN hP ha hb hE (by decide) (by decide) w q) w h
theorem bw_k6 {a b : Nat} (ha : a < 6) (hb : b < 6) (hL : L a ≤ 256) : bw_O B L (fun post u => wpX_buildCombination post u 6 (nI a) (nI b)) (fun post u t => wpY_combine post u (nI t) 6 (nI a) (nI b)) := by
  by_cases hE : L b = bw_cn (B a) 256
  · skip
    refine Or.inl ⟨L a, fun i => (B a i && B b (bw_cn (B a) i)), hL, ?_, ?_⟩
    · intro e l r post hP h
      unfold wpX_buildCombination
      dsimp only
      exact br_f (by decide) (br_f (by decide) (br_f (by decide) (br_f (by decide) (br_f (by decide) (br_f (by decide) (br_f (by decide) (br_f (by decide) (br_t rfl (bx_exp hP ha hb hE r h)))))))))
    · intro t e l w post ht hP h
      exact by_cmS hP ht ha hb (by decide) (by decide) hL (fun i => (B a i && B b (bw_cn (B a) i))) (fun w post q => by_s6 hP ha hb hE w q) (fun w i post hi q => by_m6 hP ha hb w (by omega) q) w h
  · skip
    refine Or.inr ⟨?_, ?_⟩
    · intro e l r post hP h
      unfold wpX_buildCombination
      dsimp only
      exact br_f (by decide) (br_f (by decide) (br_f (by decide) (br_f (by decide) (br_f (by decide) (br_f (by decide) (br_f (by decide) (br_f (by decide) (br_t rfl (bx_exn hP ha hb hE r h)))))))))
    · intro t e l w post ht hP h
      exact by_cmN ht ha hb (by decide) (by decide) (fun w post q => by_s6N hP ha hb hE w q) w h
theorem bw_k7 {a b : Nat} (ha : a < 6) (hb : b < 6) (hL : L a ≤ 256) : bw_O B L (fun post u => wpX_buildCombination post u 7 (nI a) (nI b)) (fun post u t => wpY_combine post u (nI t) 7 (nI a) (nI b)) := by
  by_cases hE : L b = L a
  · skip
    by_cases hS : L a + L b ≤ 256
    · skip
      refine Or.inl ⟨L a + L b, fun i => if i % 2 = 0 then B a (i / 2) else B b (i / 2), hS, ?_, ?_⟩
      · intro e l r post hP h
        unfold wpX_buildCombination
        dsimp only
        exact br_f (by decide) (br_f (by decide) (br_f (by decide) (br_f (by decide) (br_f (by decide) (br_f (by decide) (br_f (by decide) (br_f (by decide) (br_f (by decide) (br_t rfl (bx_mes hP ha hb hE hS r h))))))))))
      · intro t e l w post ht hP h
        exact by_cmS hP ht ha hb (by decide) (by decide) hS (fun i => if i % 2 = 0 then B a (i / 2) else B b (i / 2)) (fun w post q => by_s7 hP ha hb hE hS w q) (fun w i post hi q => by_m7 hP ha hb w (by omega) q) w h
    · skip
      refine Or.inr ⟨?_, ?_⟩
      · intro e l r post hP h
        unfold wpX_buildCombination
        dsimp only
        exact br_f (by decide) (br_f (by decide) (br_f (by decide) (br_f (by decide) (br_f (by decide) (br_f (by decide) (br_f (by decide) (br_f (by decide) (br_f (by decide) (br_t rfl (bx_men hP ha hb (Or.inr hS) r h))))))))))
      · intro t e l w post ht hP h
        exact by_cmN ht ha hb (by decide) (by decide) (fun w post q => by_s7N hP ha hb hE hS w q) w h
  · skip
    refine Or.inr ⟨?_, ?_⟩
    · intro e l r post hP h
      unfold wpX_buildCombination
      dsimp only
      exact br_f (by decide) (br_f (by decide) (br_f (by decide) (br_f (by decide) (br_f (by decide) (br_f (by decide) (br_f (by decide) (br_f (by decide) (br_f (by decide) (br_t rfl (bx_men hP ha hb (Or.inl hE) r h))))))))))
    · intro t e l w post ht hP h
      exact by_cmN ht ha hb (by decide) (by decide) (fun w post q => by_sEN hP ha hb hE (by decide) (by decide) w q) w h
end
end
section
theorem bw_lastm {m : Nat} (hm : m ≤ 256) : ∀ i : Nat, i < 2 ^ 31 → (nI m - 1 < nI i ↔ m ≤ i) := by
  intro i hi
  by_cases q : m = 0
  · rw [q, show nI 0 - 1 = -1 from by decide, Int32.lt_iff_toInt_lt, nI_toInt hi, show (-1 : Int32).toInt = -1 from by decide]
    omega
  · rw [show nI m - 1 = nI (m - 1) from by
      rw [show m = (m - 1) + 1 from by omega, nI_pred]
      rfl, nI_ltI (by omega) hi]
    omega
section
variable {B : Nat → Nat → Bool} {L : Nat → Nat} {e l : Nat → Int32}
theorem bx_c18 (hP : bw_P B L e l) {v : Nat} (hv : v < 6) (w : Nat → Int32) {first : Nat} (hf : first < 2 ^ 31) (to : Int32) {post : Int32 → Prop} (h : post (nI (bw_cn (fun i => decide (first ≤ i) && decide ((i : Int) ≤ to.toInt) && B v i) 256))) : wX_count_18 post (nI v) to (nI first) e l w := by
  obtain ⟨hL, hl, he, hb⟩ := hP v hv
  refine ⟨vp_in_nI hv (by omega), ?_⟩
  rw [nI_clamp (by omega), hl]
  by_cases q : nI (L v) ≤ to
  · refine br_t q ⟨vp_in_nI hv (by omega), bx_cnt hP hv w hf hL (bw_lastm hL) ?_⟩
    rw [Int32.le_iff_toInt_le, nI_toInt (by omega)] at q
    rw [bw_cn_congr (g := fun i => decide (first ≤ i) && decide ((i : Int) ≤ to.toInt) && B v i) (fun i _ => ?_)]
    · exact h
    · by_cases z : i < L v
      · rw [decide_eq_true z, decide_eq_true (p := (i : Int) ≤ to.toInt) (by omega)]
      · rw [hb i (by omega), Bool.and_false, Bool.and_false]
  · refine br_f q ?_
    rw [Int32.le_iff_toInt_le, nI_toInt (by omega)] at q
    refine bx_cnt (b := (to.toInt + 1).toNat) hP hv w hf (by omega) (fun i hi => ?_) ?_
    · rw [bw_ltn i to hi]
      omega
    · rw [bw_cn_congr (g := fun i => decide (first ≤ i) && decide ((i : Int) ≤ to.toInt) && B v i) (fun i _ => ?_)]
      · exact h
      · rw [show decide (i < (to.toInt + 1).toNat) = decide ((i : Int) ≤ to.toInt) from decide_eq_decide.mpr (by omega)]
theorem bx_ct (hP : bw_P B L e l) {v : Nat} (hv : v < 6) (w : Nat → Int32) {a b : Int32} {post : Int32 → Prop} (h : post (nI (bw_ct (B v) a.toInt b.toInt))) : wpX_count post (e, l, w) (nI v) a b := by
  unfold wpX_count
  dsimp only
  unfold bw_ct at h
  refine bx_iv hv (br_f (by decide) ?_)
  by_cases q : 0 ≤ a
  · refine br_t q ?_
    obtain ⟨j, hj, rfl⟩ := nI_of (x := a) (Int32.not_lt.mpr q)
    refine bx_c18 hP hv w hj b ?_
    rw [bw_cn_congr (g := fun i => decide (j ≤ i) && decide ((i : Int) ≤ b.toInt) && B v i) (fun i _ => ?_)] at h
    · exact h
    · rw [nI_toInt hj, show decide ((j : Int) ≤ (i : Int)) = decide (j ≤ i) from decide_eq_decide.mpr (by omega)]
  · refine br_f q ?_
    rw [Int32.le_iff_toInt_le, show (0 : Int32).toInt = 0 from by decide] at q
    refine bx_c18 (first := 0) hP hv w (by decide) b ?_
    rw [bw_cn_congr (g := fun i => decide (0 ≤ i) && decide ((i : Int) ≤ b.toInt) && B v i) (fun i _ => ?_)] at h
    · exact h
    · rw [decide_eq_true (p := a.toInt ≤ (i : Int)) (by omega), decide_eq_true (p := 0 ≤ i) (by omega)]
end
end
section
/-- one picture (lengths and elements) of both states -/
def i_Rel (k : Nat) (u : SX) (v : SY) : Prop := ∃ B L, bw_P B L u.1 u.2.1 ∧ bw_P B L v.1 v.2.1
theorem i_up {k : Nat} {u : SX} {v : SY} (h : i_Rel k u v) : i_Rel (k + 5) u v := h
theorem i_vc0 : wpX_init (fun u => wpY_init (fun v => i_Rel 0 u v)) := by
  refine ⟨fun _ _ => false, fun _ => 0, ?_, ?_⟩
  · exact fun v _ => ⟨Nat.zero_le _, rfl, fun i hi => absurd hi (Nat.not_lt_zero i), fun i _ => rfl⟩
  · exact fun v _ => ⟨Nat.zero_le _, rfl, fun i hi => absurd hi (Nat.not_lt_zero i), fun i _ => rfl⟩
theorem i_vc_make {k : Nat} {u : SX} {v : SY} (I : i_Rel k u v) (hk : k + 5 ≤ 2560) (v1 : Int32) (v2 : Int32) : wpX_make (fun r u' => wpY_make (fun r' v' => r' = r ∧ i_Rel (k + 5) u' v') v v1 v2) u v1 v2 := by
  obtain ⟨e, l, r⟩ := u
  obtain ⟨e2, l2, w⟩ := v
  obtain ⟨B, L, hX, hY⟩ := I
  dsimp only at hX hY
  have RR : i_Rel (k + 5) (e, l, r) (e2, l2, w) := ⟨B, L, hX, hY⟩
  unfold wpX_make wpY_make
  dsimp only
  rcases bw_vec v1 with ⟨v, hv, rfl⟩ | ⟨bx, b2⟩
  · refine bx_iv hv (br_f (by decide) ?_)
    by_cases h0 : v2 < 0
    · exact br_t h0 (by_iv hv (br_t rfl (br_t h0 ⟨rfl, RR⟩)))
    · by_cases h2 : v2 ≤ 256
      · obtain ⟨n, hn, rfl⟩ := nI_of2 (M := 256) (n := 256) (by decide) h0 h2
        exact br_f h0 (br_t h2 (bx_mk hX hv hn r (fun e' l' r' q => by_iv hv (br_t rfl (br_f h0 (br_t h2 (by_mk hY hv hn w (fun e2' l2' w' q2 => ⟨rfl, _, _, q, q2⟩))))))))
      · exact br_f h0 (br_f h2 (by_iv hv (br_t rfl (br_f h0 (br_f h2 ⟨rfl, RR⟩)))))
  · exact bx _ (br_t rfl (b2 _ _ _ _ (br_f (by decide) ⟨rfl, RR⟩)))
theorem i_vc_put {k : Nat} {u : SX} {v : SY} (I : i_Rel k u v) (hk : k + 5 ≤ 2560) (v1 : Int32) (v2 : Int32) (v3 : Int32) (v4 : Int32) : wpX_put (fun r u' => wpY_put (fun r' v' => r' = r ∧ i_Rel (k + 5) u' v') v v1 v2 v3 v4) u v1 v2 v3 v4 := by
  obtain ⟨e, l, r⟩ := u
  obtain ⟨e2, l2, w⟩ := v
  obtain ⟨B, L, hX, hY⟩ := I
  dsimp only at hX hY
  have RR : i_Rel (k + 5) (e, l, r) (e2, l2, w) := ⟨B, L, hX, hY⟩
  unfold wpX_put wpY_put
  dsimp only
  rcases bw_vec v1 with ⟨v, hv, rfl⟩ | ⟨bx, b2⟩
  · refine bx_iv hv (br_f (by decide) ?_)
    by_cases h1 : v3 < 1
    · exact br_t h1 (by_iv hv (br_t rfl (br_t h1 ⟨rfl, RR⟩)))
    · by_cases h2 : v3 ≤ 32
      · have h0 : ¬ v3 < 0 := fun q => h1 (Int32.lt_trans q (by decide))
        obtain ⟨n, hn, rfl⟩ := nI_of2 (M := 32) (n := 32) (by decide) h0 h2
        refine br_f h1 (br_t h2 ?_)
        by_cases h3 : v2 < 0
        · exact br_t h3 (by_iv hv (br_t rfl (br_f h1 (br_t h2 (br_t h3 ⟨rfl, RR⟩)))))
        · obtain ⟨o, ho, rfl⟩ := nI_of h3
          have hL := (hX v hv).1
          have c1 : l (nI v).toNatClampNeg = nI (L v) := by rw [nI_clamp (by omega), (hX v hv).2.1]
          have c2 : l2 (nI v).toNatClampNeg = nI (L v) := by rw [nI_clamp (by omega), (hY v hv).2.1]
          have c3 : nI o ≤ nI (L v) - nI n ↔ o + n ≤ L v := by
            rw [Int32.le_iff_toInt_le, pk_sub_toInt (by omega) (by omega), nI_toInt ho]
            omega
          rw [c1, c2]
          by_cases h4 : o + n ≤ L v
          · refine br_f h3 ⟨vp_in_nI hv (by omega), br_t (c3.mpr h4) (nm_r (bw_ix v o) (bx_put hX hv h4 v4 r (fun e' q => by_iv hv (br_t rfl (br_f h1 (br_t h2 (br_f h3 ⟨vp_in_nI hv (by omega), br_t (c3.mpr h4) (by_put hY hv h4 v4 w (fun e2' q2 => ⟨rfl, _, _, q, q2⟩))⟩)))))))⟩
          · exact br_f h3 ⟨vp_in_nI hv (by omega), br_f (fun z => h4 (c3.mp z)) (by_iv hv (br_t rfl (br_f h1 (br_t h2 (br_f h3 ⟨vp_in_nI hv (by omega), br_f (fun z => h4 (c3.mp z)) ⟨rfl, RR⟩⟩)))))⟩
      · exact br_f h1 (br_f h2 (by_iv hv (br_t rfl (br_f h1 (br_f h2 ⟨rfl, RR⟩)))))
  · exact bx _ (br_t rfl (b2 _ _ _ _ (br_f (by decide) ⟨rfl, RR⟩)))
theorem i_vc_change {k : Nat} {u : SX} {v : SY} (I : i_Rel k u v) (hk : k + 5 ≤ 2560) (v1 : Int32) (v2 : Int32) (v3 : Int32) (v4 : Int32) : wpX_change (fun r u' => wpY_change (fun r' v' => r' = r ∧ i_Rel (k + 5) u' v') v v1 v2 v3 v4) u v1 v2 v3 v4 := by
  obtain ⟨e, l, r⟩ := u
  obtain ⟨e2, l2, w⟩ := v
  obtain ⟨B, L, hX, hY⟩ := I
  dsimp only at hX hY
  have RR : i_Rel (k + 5) (e, l, r) (e2, l2, w) := ⟨B, L, hX, hY⟩
  rcases bw_vec v1 with ⟨t, ht, rfl⟩ | ⟨bx, b2⟩
  · rcases bw_vec v3 with ⟨a, ha, rfl⟩ | ⟨bx, b2⟩
    · have hL := (hX a ha).1
      rcases pk_ix v2 (n := 9) (by decide) with h | h | ⟨c, hc, rfl⟩
      · unfold wpX_change wpY_change
        dsimp only
        exact bx_iv ht (br_f (by decide) (bx_iv ha (br_f (by decide) (br_t h (bx_rep3 (by decide) (by_iv ht (br_t rfl (by_iv ha (br_t rfl (br_t h ⟨rfl, RR⟩))))))))))
      · have hh := Int32.le_iff_toInt_le.mp h
        rw [show (nI 9).toInt = 9 from by decide] at hh
        have h0 : ¬ v2 < 0 := by
          rw [Int32.lt_iff_toInt_lt, show (0 : Int32).toInt = 0 from by decide]
          omega
        have h8 : (8 : Int32) < v2 := by
          rw [Int32.lt_iff_toInt_lt, show (8 : Int32).toInt = 8 from by decide]
          omega
        unfold wpX_change wpY_change
        dsimp only
        exact bx_iv ht (br_f (by decide) (bx_iv ha (br_f (by decide) (br_f h0 (br_t h8 (bx_rep3 (by decide) (by_iv ht (br_t rfl (by_iv ha (br_t rfl (br_f h0 (br_f (Int32.not_le.mpr h8) ⟨rfl, RR⟩))))))))))))
      · have O : bw_O B L (fun post u => wpX_buildChange post u (nI c) (nI a) v4) (fun post u t => wpY_change post u (nI t) (nI c) (nI a) v4) := by
          rcases (by omega : c = 0 ∨ c = 1 ∨ c = 2 ∨ c = 3 ∨ c = 4 ∨ c = 5 ∨ c = 6 ∨ c = 7 ∨ c = 8) with rfl | rfl | rfl | rfl | rfl | rfl | rfl | rfl | rfl
          · exact bw_o0 ha hL v4
          · exact bw_o1 ha hL v4
          · exact bw_o2 ha hL v4
          · exact bw_o3 ha hL v4
          · exact bw_o4 ha v4
          · exact bw_o5 ha hL v4
          · exact bw_o6 ha hL v4
          · exact bw_o7 ha hL v4
          · exact bw_o8 ha hL v4
        unfold wpX_change
        dsimp only
        rcases O with ⟨n, F, hn, xs, ys⟩ | ⟨xn, yn⟩
        · exact bx_iv ht (br_f (by decide) (bx_iv ha (br_f (by decide) (xs e l r _ hX (fun r' hr => bx_rep hX ht hn F hr (fun e' l' q => ys t e2 l2 w _ ht hY (fun e2' l2' w' q2 => ⟨rfl, _, _, q, q2⟩)))))))
        · exact bx_iv ht (br_f (by decide) (bx_iv ha (br_f (by decide) (xn e l r _ hX (bx_rep3 (by decide) (yn t e2 l2 w _ ht hY ⟨rfl, RR⟩))))))
    · unfold wpX_change wpY_change
      dsimp only
      exact bx_iv ht (br_f (by decide) (bx _ (br_t rfl (by_iv ht (br_t rfl (b2 _ _ _ _ (br_f (by decide) ⟨rfl, RR⟩)))))))
  · unfold wpX_change wpY_change
    dsimp only
    exact bx _ (br_t rfl (b2 _ _ _ _ (br_f (by decide) ⟨rfl, RR⟩)))
theorem i_vc_combine {k : Nat} {u : SX} {v : SY} (I : i_Rel k u v) (hk : k + 5 ≤ 2560) (v1 : Int32) (v2 : Int32) (v3 : Int32) (v4 : Int32) : wpX_combine (fun r u' => wpY_combine (fun r' v' => r' = r ∧ i_Rel (k + 5) u' v') v v1 v2 v3 v4) u v1 v2 v3 v4 := by
  obtain ⟨e, l, r⟩ := u
  obtain ⟨e2, l2, w⟩ := v
  obtain ⟨B, L, hX, hY⟩ := I
  dsimp only at hX hY
  have RR : i_Rel (k + 5) (e, l, r) (e2, l2, w) := ⟨B, L, hX, hY⟩
  rcases bw_vec v1 with ⟨t, ht, rfl⟩ | ⟨bx, b2⟩
  · rcases bw_vec v3 with ⟨a, ha, rfl⟩ | ⟨bx, b2⟩
    · rcases bw_vec v4 with ⟨b, hb, rfl⟩ | ⟨bx, b2⟩
      · have hL := (hX a ha).1
        rcases pk_ix v2 (n := 8) (by decide) with h | h | ⟨c, hc, rfl⟩
        · unfold wpX_combine wpY_combine
          dsimp only
          exact bx_iv ht (br_f (by decide) (bx_iv ha (br_f (by decide) (bx_iv hb (br_f (by decide) (br_t h (bx_rep3 (by decide) (by_iv ht (br_t rfl (by_iv ha (br_t rfl (by_iv hb (br_t rfl (br_t h ⟨rfl, RR⟩))))))))))))))
        · have hh := Int32.le_iff_toInt_le.mp h
          rw [show (nI 8).toInt = 8 from by decide] at hh
          have h0 : ¬ v2 < 0 := by
            rw [Int32.lt_iff_toInt_lt, show (0 : Int32).toInt = 0 from by decide]
            omega
          have h8 : (7 : Int32) < v2 := by
            rw [Int32.lt_iff_toInt_lt, show (7 : Int32).toInt = 7 from by decide]
            omega
          unfold wpX_combine wpY_combine
          dsimp only
          exact bx_iv ht (br_f (by decide) (bx_iv ha (br_f (by decide) (bx_iv hb (br_f (by decide) (br_f h0 (br_t h8 (bx_rep3 (by decide) (by_iv ht (br_t rfl (by_iv ha (br_t rfl (by_iv hb (br_t rfl (br_f h0 (br_f (Int32.not_le.mpr h8) ⟨rfl, RR⟩))))))))))))))))
        · have O : bw_O B L (fun post u => wpX_buildCombination post u (nI c) (nI a) (nI b)) (fun post u t => wpY_combine post u (nI t) (nI c) (nI a) (nI b)) := by
            rcases (by omega : c = 0 ∨ c = 1 ∨ c = 2 ∨ c = 3 ∨ c = 4 ∨ c = 5 ∨ c = 6 ∨ c = 7) with rfl | rfl | rfl | rfl | rfl | rfl | rfl | rfl
            · exact bw_k0 ha hb hL
            · exact bw_k1 ha hb hL
            · exact bw_k2 ha hb hL
            · exact bw_k3 ha hb hL
            · exact bw_k4 ha hb hL
            · exact bw_k5 ha hb hL
            · exact bw_k6 ha hb hL
            · exact bw_k7 ha hb hL
          unfold wpX_combine
          dsimp only
          rcases O with ⟨n, F, hn, xs, ys⟩ | ⟨xn, yn⟩
          · exact bx_iv ht (br_f (by decide) (bx_iv ha (br_f (by decide) (bx_iv hb (br_f (by decide) (xs e l r _ hX (fun r' hr => bx_rep hX ht hn F hr (fun e' l' q => ys t e2 l2 w _ ht hY (fun e2' l2' w' q2 => ⟨rfl, _, _, q, q2⟩)))))))))
          · exact bx_iv ht (br_f (by decide) (bx_iv ha (br_f (by decide) (bx_iv hb (br_f (by decide) (xn e l r _ hX (bx_rep3 (by decide) (yn t e2 l2 w _ ht hY ⟨rfl, RR⟩))))))))
      · unfold wpX_combine wpY_combine
        dsimp only
        exact bx_iv ht (br_f (by decide) (bx_iv ha (br_f (by decide) (bx _ (br_t rfl (by_iv ht (br_t rfl (by_iv ha (br_t rfl (b2 _ _ _ _ (br_f (by decide) ⟨rfl, RR⟩)))))))))))
    · unfold wpX_combine wpY_combine
      dsimp only
      exact bx_iv ht (br_f (by decide) (bx _ (br_t rfl (by_iv ht (br_t rfl (b2 _ _ _ _ (br_f (by decide) ⟨rfl, RR⟩)))))))
  · unfold wpX_combine wpY_combine
    dsimp only
    exact bx _ (br_t rfl (b2 _ _ _ _ (br_f (by decide) ⟨rfl, RR⟩)))
theorem i_vc_length {k : Nat} {u : SX} {v : SY} (I : i_Rel k u v) (hk : k + 5 ≤ 2560) (v1 : Int32) : wpX_length (fun r => wpY_length (fun r' => r' = r ∧ i_Rel (k + 5) u v) v v1) u v1 := by
  obtain ⟨e, l, r⟩ := u
  obtain ⟨e2, l2, w⟩ := v
  obtain ⟨B, L, hX, hY⟩ := I
  dsimp only at hX hY
  have RR : i_Rel (k + 5) (e, l, r) (e2, l2, w) := ⟨B, L, hX, hY⟩
  unfold wpX_length wpY_length
  dsimp only
  rcases bw_vec v1 with ⟨v, hv, rfl⟩ | ⟨bx, b2⟩
  · refine bx_iv hv (br_f (by decide) ⟨vp_in_nI hv (by omega), by_iv hv (br_t rfl ⟨vp_in_nI hv (by omega), ?_, RR⟩)⟩)
    rw [nI_clamp (by omega), (hX v hv).2.1, (hY v hv).2.1]
  · exact bx _ (br_t rfl (b2 _ _ _ _ (br_f (by decide) ⟨rfl, RR⟩)))
theorem i_vc_get {k : Nat} {u : SX} {v : SY} (I : i_Rel k u v) (hk : k + 5 ≤ 2560) (v1 : Int32) (v2 : Int32) : wpX_get (fun r => wpY_get (fun r' => r' = r ∧ i_Rel (k + 5) u v) v v1 v2) u v1 v2 := by
  obtain ⟨e, l, r⟩ := u
  obtain ⟨e2, l2, w⟩ := v
  obtain ⟨B, L, hX, hY⟩ := I
  dsimp only at hX hY
  have RR : i_Rel (k + 5) (e, l, r) (e2, l2, w) := ⟨B, L, hX, hY⟩
  unfold wpX_get wpY_get
  dsimp only
  rcases bw_vec v1 with ⟨v, hv, rfl⟩ | ⟨bx, b2⟩
  · refine bx_iv hv (br_f (by decide) (bx_el hX hv r v2.toInt (Int32.toInt_toInt64 _) (bw_c (fun q => ?_) (fun q => ?_))))
    · refine by_iv hv (br_t rfl (by_el hY hv w v2.toInt (Int32.toInt_toInt64 _) (bw_c (fun z => ⟨rfl, RR⟩) (fun z => ?_))))
      rw [q] at z
      exact absurd z (by decide)
    · refine by_iv hv (br_t rfl (by_el hY hv w v2.toInt (Int32.toInt_toInt64 _) (bw_c (fun z => ?_) (fun z => ⟨rfl, RR⟩))))
      rw [q] at z
      exact absurd z (by decide)
  · exact bx _ (br_t rfl (b2 _ _ _ _ (br_f (by decide) ⟨rfl, RR⟩)))
theorem i_vc_count {k : Nat} {u : SX} {v : SY} (I : i_Rel k u v) (hk : k + 5 ≤ 2560) (v1 : Int32) (v2 : Int32) (v3 : Int32) : wpX_count (fun r => wpY_count (fun r' => r' = r ∧ i_Rel (k + 5) u v) v v1 v2 v3) u v1 v2 v3 := by
  obtain ⟨e, l, r⟩ := u
  obtain ⟨e2, l2, w⟩ := v
  obtain ⟨B, L, hX, hY⟩ := I
  dsimp only at hX hY
  have RR : i_Rel (k + 5) (e, l, r) (e2, l2, w) := ⟨B, L, hX, hY⟩
  rcases bw_vec v1 with ⟨v, hv, rfl⟩ | ⟨bx, b2⟩
  · exact bx_ct hX hv r (by_cnt hY hv w ⟨rfl, RR⟩)
  · unfold wpX_count wpY_count
    dsimp only
    exact bx _ (br_t rfl (b2 _ _ _ _ (br_f (by decide) ⟨rfl, RR⟩)))
theorem i_vc_place {k : Nat} {u : SX} {v : SY} (I : i_Rel k u v) (hk : k + 5 ≤ 2560) (v1 : Int32) (v2 : Int32) : wpX_place (fun r => wpY_place (fun r' => r' = r ∧ i_Rel (k + 5) u v) v v1 v2) u v1 v2 := by
  obtain ⟨e, l, r⟩ := u
  obtain ⟨e2, l2, w⟩ := v
  obtain ⟨B, L, hX, hY⟩ := I
  dsimp only at hX hY
  have RR : i_Rel (k + 5) (e, l, r) (e2, l2, w) := ⟨B, L, hX, hY⟩
  rcases bw_vec v1 with ⟨v, hv, rfl⟩ | ⟨bx, b2⟩
  · unfold wpX_place
    dsimp only
    exact bx_iv hv (br_f (by decide) (bx_pl hX hv r (by_pl hY hv w ⟨rfl, RR⟩)))
  · unfold wpX_place wpY_place
    dsimp only
    exact bx _ (br_t rfl (b2 _ _ _ _ (br_f (by decide) ⟨rfl, RR⟩)))
theorem i_vc_findRun {k : Nat} {u : SX} {v : SY} (I : i_Rel k u v) (hk : k + 5 ≤ 2560) (v1 : Int32) (v2 : Int32) (v3 : Int32) : wpX_findRun (fun r => wpY_findRun (fun r' => r' = r ∧ i_Rel (k + 5) u v) v v1 v2 v3) u v1 v2 v3 := by
  obtain ⟨e, l, r⟩ := u
  obtain ⟨e2, l2, w⟩ := v
  obtain ⟨B, L, hX, hY⟩ := I
  dsimp only at hX hY
  have RR : i_Rel (k + 5) (e, l, r) (e2, l2, w) := ⟨B, L, hX, hY⟩
  unfold wpX_findRun wpY_findRun
  dsimp only
  rcases bw_vec v1 with ⟨v, hv, rfl⟩ | ⟨bx, b2⟩
  · refine bx_iv hv (br_f (by decide) ?_)
    by_cases h1 : v3 < 1
    · exact br_t h1 (by_iv hv (br_t rfl (br_t h1 ⟨rfl, RR⟩)))
    · by_cases h2 : v3 ≤ 256
      · have h0 : ¬ v3 < 0 := fun q => h1 (Int32.lt_trans q (by decide))
        obtain ⟨n, hn, rfl⟩ := nI_of2 (M := 256) (n := 256) (by decide) h0 h2
        have hn0 : 0 < n := by
          by_cases q : n = 0
          · subst q; exact absurd (by decide) h1
          · omega
        refine br_f h1 (br_t h2 ?_)
        by_cases h3 : 0 ≤ v2
        · obtain ⟨a, ha, rfl⟩ := nI_of (x := v2) (Int32.not_lt.mpr h3)
          exact br_t h3 (bx_fr hX hv r ha hn0 hn (fun x hx => by_iv hv (br_t rfl (br_f h1 (br_t h2 (by_fr hY hv w ha hn0 hn (fun y hy => ⟨bw_FR_u hx hy, RR⟩)))))))
        · exact br_f h3 (by_iv hv (br_t rfl (br_f h1 (br_t h2 (by_frn w (Int32.not_le.mp h3) hn0 hn ⟨rfl, RR⟩)))))
      · exact br_f h1 (br_f h2 (by_iv hv (br_t rfl (br_f h1 (br_f h2 ⟨rfl, RR⟩)))))
  · exact bx _ (br_t rfl (b2 _ _ _ _ (br_f (by decide) ⟨rfl, RR⟩)))
theorem i_vc_compare {k : Nat} {u : SX} {v : SY} (I : i_Rel k u v) (hk : k + 5 ≤ 2560) (v1 : Int32) (v2 : Int32) : wpX_compare (fun r => wpY_compare (fun r' => r' = r ∧ i_Rel (k + 5) u v) v v1 v2) u v1 v2 := by
  obtain ⟨e, l, r⟩ := u
  obtain ⟨e2, l2, w⟩ := v
  obtain ⟨B, L, hX, hY⟩ := I
  dsimp only at hX hY
  have RR : i_Rel (k + 5) (e, l, r) (e2, l2, w) := ⟨B, L, hX, hY⟩
  unfold wpX_compare wpY_compare
  dsimp only
  rcases bw_vec v1 with ⟨a, ha, rfl⟩ | ⟨bx, b2⟩
  · rcases bw_vec v2 with ⟨b, hb, rfl⟩ | ⟨bx, b2⟩
    · exact bx_iv ha (br_f (by decide) (bx_iv hb (br_f (by decide) ⟨256 + 1, bx_cp hX ha hb r 256 (Nat.le_refl _) (by_iv ha (br_t rfl (by_iv hb (br_t rfl ⟨256 + 1, by_cp hY ha hb w 256 (Nat.le_refl _) ⟨rfl, RR⟩⟩))))⟩)))
    · exact bx_iv ha (br_f (by decide) (bx _ (br_t rfl (by_iv ha (br_t rfl (b2 _ _ _ _ (br_f (by decide) ⟨rfl, RR⟩)))))))
  · exact bx _ (br_t rfl (b2 _ _ _ _ (br_f (by decide) ⟨rfl, RR⟩)))
end
