section
theorem pk_us {f : Nat → Int32} {k : Nat} {x : Int32} : upd f k x k = x := if_pos rfl
theorem pk_un {f : Nat → Int32} {k j : Nat} {x : Int32} (h : j ≠ k) : upd f k x j = f j := if_neg h
theorem pk_sub {a b : Nat} (h : b ≤ a) : nI a - nI b = nI (a - b) := by
  obtain ⟨c, rfl⟩ : ∃ c, a = c + b := ⟨a - b, by omega⟩
  rw [← nI_add, Int32.add_sub_cancel, Nat.add_sub_cancel]
theorem pk_m1 (n : Nat) : nI (n + 1) + (-1) = nI n := by
  rw [← nI_1, Int32.add_assoc, show (1 : Int32) + (-1) = 0 from rfl, Int32.add_zero]
theorem pk_mul (a b : Nat) : nI a * nI b = nI (a * b) := (Int32.ofNat_mul a b).symm
theorem pk_div {a d : Nat} (ha : a < 2 ^ 31) (h0 : 0 < d) (hd : d < 2 ^ 31) : nI a / nI d = nI (a / d) := by
  apply Int32.toInt_inj.mp
  rw [lg_idiv_nonneg (by rw [nI_toInt ha]; omega) (by rw [nI_toInt hd]; omega), nI_toInt ha, nI_toInt hd, nI_toInt (Nat.lt_of_le_of_lt (Nat.div_le_self a d) ha)]
  first | rfl | exact (Int.natCast_ediv _ _).symm
theorem pk_rem {a d : Nat} (ha : a < 2 ^ 31) (h0 : 0 < d) (hd : d < 2 ^ 31) : nI a - nI a / nI d * nI d = nI (a % d) := by
  rw [pk_div ha h0 hd, pk_mul, pk_sub (Nat.div_mul_le_self a d)]
  exact congrArg nI (by have := Nat.div_add_mod' a d; omega)
theorem pk_sub_toInt {a b : Nat} (ha : a < 2 ^ 30) (hb : b < 2 ^ 30) : (nI a - nI b).toInt = (a : Int) - b := by
  rw [Int32.toInt_sub, nI_toInt (by omega), nI_toInt (by omega)]
  exact Int.bmod_eq_of_le (by omega) (by omega)
theorem pk_ix (x : Int32) {n : Nat} (hn : n < 2 ^ 31) : x < 0 ∨ nI n ≤ x ∨ ∃ j : Nat, j < n ∧ x = nI j := by
  by_cases h : x < 0
  · exact Or.inl h
  · obtain ⟨j, hj, rfl⟩ := nI_of h
    by_cases h2 : j < n
    · exact Or.inr (Or.inr ⟨j, h2, rfl⟩)
    · exact Or.inr (Or.inl (nI_le (by omega) hj))
theorem pk_le {x y : Int32} {A B : Prop} (a b : Nat) (f : a ≤ b → A) (g : b < a → B) (hx : x = nI a := by rfl) (hy : y = nI b := by rfl) (ha : a < 2 ^ 31 := by omega) (hb : b < 2 ^ 31 := by omega) : (x ≤ y → A) ∧ (¬ x ≤ y → B) := by
  subst hx hy
  rw [nI_leI ha hb]
  exact ⟨f, fun z => g (by omega)⟩
theorem pk_lt {x y : Int32} {A B : Prop} (a b : Nat) (f : a < b → A) (g : b ≤ a → B) (hx : x = nI a := by rfl) (hy : y = nI b := by rfl) (ha : a < 2 ^ 31 := by omega) (hb : b < 2 ^ 31 := by omega) : (x < y → A) ∧ (¬ x < y → B) := by
  subst hx hy
  rw [nI_ltI ha hb]
  exact ⟨f, fun z => g (by omega)⟩
theorem pk_eq {x y : Int32} {A B : Prop} (a b : Nat) (f : a = b → A) (g : a ≠ b → B) (hx : x = nI a := by rfl) (hy : y = nI b := by rfl) (ha : a < 2 ^ 31 := by omega) (hb : b < 2 ^ 31 := by omega) : (x = y → A) ∧ (¬ x = y → B) := by
  subst hx hy
  rw [nI_eq ha hb]
  exact ⟨f, g⟩
theorem pk_in {x : Int32} (n N : Nat) (h : n < N) (hx : x = nI n := by rfl) (hN : N < 2 ^ 31 := by omega) : vp_in x N := by
  subst hx
  exact vp_in_nI h hN
theorem pk_cl {x : Int32} (n : Nat) (hx : x = nI n := by rfl) (h : n < 2 ^ 31 := by omega) : x.toNatClampNeg = n := by
  subst hx
  exact nI_clamp h
theorem pk_lT {n : Nat} (h : n < 2 ^ 63) : (lN n).toInt = (n : Int) := lg_ofNat_toInt h
theorem pk_lLT {a b : Nat} (ha : a < 2 ^ 63) (hb : b < 2 ^ 63) : lN a < lN b ↔ a < b := by
  rw [Int64.lt_iff_toInt_lt, pk_lT ha, pk_lT hb]; omega
theorem pk_lLE {a b : Nat} (ha : a < 2 ^ 63) (hb : b < 2 ^ 63) : lN a ≤ lN b ↔ a ≤ b := by
  rw [Int64.le_iff_toInt_le, pk_lT ha, pk_lT hb]; omega
theorem pk_lEQ {a b : Nat} (ha : a < 2 ^ 63) (hb : b < 2 ^ 63) : lN a = lN b ↔ a = b := by
  rw [← Int64.toInt_inj, pk_lT ha, pk_lT hb]; omega
theorem pk_lOf {x : Int64} (h : ¬ x < 0) : ∃ k : Nat, k < 2 ^ 63 ∧ x = lN k := by
  rw [Int64.lt_iff_toInt_lt] at h
  have h0 : (0 : Int64).toInt = 0 := by decide
  have hx := Int64.toInt_lt x
  refine ⟨x.toInt.toNat, by omega, Int64.toInt_inj.mp ?_⟩
  rw [pk_lT (by omega)]
  omega
theorem pk_loop {σ : Type} (W : Nat → Nat → σ → Prop) (I : Nat → σ → Prop) (e i0 : Nat) (s : σ) (hi : i0 ≤ e) (h0 : I i0 s) (hx : ∀ n s, I e s → W (n + 1) e s)
    (hs : ∀ n i s, i < e → I i s → (∀ s', I (i + 1) s' → W n (i + 1) s') → W (n + 1) i s) : ∃ n, W n i0 s :=
  ⟨e + 1, loop_i W I e hx hs (e + 1) i0 s hi (by omega) h0⟩
theorem pk_least (P : Nat → Prop) (h : ∃ k, P k) : ∃ k, P k ∧ ∀ j, j < k → ¬ P j := by
  obtain ⟨k, hk⟩ := h
  induction k using Nat.strongRecOn with
  | ind k ih =>
    by_cases e : ∃ j, j < k ∧ P j
    · obtain ⟨j, hj, pj⟩ := e
      exact ih j hj pj
    · exact ⟨k, hk, fun j hj pj => e ⟨j, hj, pj⟩⟩
end
section
/-- a boolean as the arrays hold it -/
def bw_i (b : Bool) : Int32 := if b = true then 1 else 0
theorem bw_nar (b : Bool) : vp_nar .boolean (bw_i b) = bw_i b := by cases b <;> decide
theorem bw_nar0 : vp_nar .boolean 0 = bw_i false := by decide
theorem bw_nar1 : vp_nar .boolean 1 = bw_i true := by decide
theorem bw_narr (b : Bool) : narrow .boolean (.int (bw_i b)) = .int (bw_i b) := by cases b <;> rfl
theorem bw_c {b : Bool} {A B : Prop} (f : b = false → A) (g : b = true → B) : (bw_i b = 0 → A) ∧ (¬ bw_i b = 0 → B) := by
  cases b
  · exact ⟨fun _ => f rfl, fun h => absurd rfl h⟩
  · exact ⟨fun h => absurd h (by decide), fun _ => g rfl⟩
theorem bw_inj {b c : Bool} : bw_i b = bw_i c ↔ b = c := by cases b <;> cases c <;> decide
theorem bw_ceq {b c : Bool} {A B : Prop} (f : b = c → A) (g : ¬ b = c → B) : (bw_i b = bw_i c → A) ∧ (¬ bw_i b = bw_i c → B) :=
  ⟨fun h => f (bw_inj.mp h), fun h => g (fun z => h (bw_inj.mpr z))⟩
/-- the element at an integer place, false below 0 -/
def bw_z (f : Nat → Bool) (z : Int) : Bool := if z < 0 then false else f z.toNat
theorem bw_zN (f : Nat → Bool) (n : Nat) : bw_z f (n : Int) = f n := by
  unfold bw_z
  rw [if_neg (by omega), Int.toNat_natCast]
theorem bw_zneg (f : Nat → Bool) {z : Int} (h : z < 0) : bw_z f z = false := if_pos h
/-- the picture of a state: lengths L, elements B -/
def bw_P (B : Nat → Nat → Bool) (L : Nat → Nat) (e l : Nat → Int32) : Prop :=
  ∀ v, v < 6 → L v ≤ 256 ∧ l v = nI (L v) ∧ (∀ i, i < L v → e (v * 256 + i) = bw_i (B v i)) ∧ (∀ i, L v ≤ i → B v i = false)
def bw_sB (B : Nat → Nat → Bool) (v n : Nat) (F : Nat → Bool) : Nat → Nat → Bool := fun v' i => if v' = v then (decide (i < n) && F i) else B v' i
def bw_sL (L : Nat → Nat) (v n : Nat) : Nat → Nat := fun v' => if v' = v then n else L v'
theorem bw_256 : (256 : Int32) = nI 256 := rfl
theorem bw_ix (v i : Nat) : nI v * 256 + nI i = nI (v * 256 + i) := by rw [bw_256, pk_mul, nI_add]
theorem bw_ix0 (v : Nat) : nI v * 256 = nI (v * 256) := by rw [bw_256, pk_mul]
theorem bw_upd {s : Nat → Int32} {i : Nat} {F : Nat → Bool} {b : Bool} (h : ∀ j, j < i → s j = bw_i (F j)) (hb : b = F i) : ∀ j, j < i + 1 → upd s i (bw_i b) j = bw_i (F j) := by
  subst hb
  intro j hj
  by_cases e : j = i
  · subst e; exact pk_us
  · rw [pk_un e]; exact h j (by omega)
theorem bw_updO {s : Nat → Int32} {o i : Nat} {F : Nat → Bool} {b : Bool} (h : ∀ j, j < i → s (o + j) = bw_i (F j)) (hb : b = F i) : ∀ j, j < i + 1 → upd s (o + i) (bw_i b) (o + j) = bw_i (F j) := by
  subst hb
  intro j hj
  by_cases e : j = i
  · subst e; exact pk_us
  · rw [pk_un (by omega)]; exact h j (by omega)
theorem bw_st {s : Nat → Int32} {i : Nat} {x : Int32} {Q : Int32 → (Nat → Int32) → Prop} (b : Bool) (hi : i < 256) (hx : vp_nar .boolean x = bw_i b) (h : Q (nI (i + 1)) (upd s i (bw_i b))) :
    vp_in (nI i) 256 ∧ ∀ a : Nat → Int32, a = upd s (nI i).toNatClampNeg (vp_nar .boolean x) → ∀ y : Int32, y = nI i + 1 → Q y a :=
  ⟨vp_in_nI hi (by omega), nm_r (e' := upd s i (bw_i b)) (by rw [nI_clamp (by omega), hx]) (nm_r (nI_1 i) h)⟩
theorem bw_setP {B : Nat → Nat → Bool} {L : Nat → Nat} {e l e' : Nat → Int32} (hP : bw_P B L e l) {v : Nat} (hv : v < 6) {n : Nat} (hn : n ≤ 256) {F : Nat → Bool}
    (h1 : ∀ j, j < n → e' (v * 256 + j) = bw_i (F j)) (h2 : ∀ j, (j < v * 256 ∨ v * 256 + 256 ≤ j) → e' j = e j) : bw_P (bw_sB B v n F) (bw_sL L v n) e' (upd l v (nI n)) := by
  intro v' hv'
  by_cases q : v' = v
  · subst q
    have eL : bw_sL L v' n v' = n := if_pos rfl
    rw [eL]
    refine ⟨hn, pk_us, fun i hi => ?_, fun i hi => ?_⟩
    · rw [h1 i hi]
      unfold bw_sB
      rw [if_pos rfl, decide_eq_true hi, Bool.true_and]
    · unfold bw_sB
      rw [if_pos rfl, decide_eq_false (by omega), Bool.false_and]
  · have eL : bw_sL L v n v' = L v' := if_neg q
    obtain ⟨a1, a2, a3, a4⟩ := hP v' hv'
    rw [eL]
    refine ⟨a1, by rw [pk_un q]; exact a2, fun i hi => ?_, fun i hi => ?_⟩
    · rw [h2 _ (by omega), a3 i hi]
      unfold bw_sB
      rw [if_neg q]
    · unfold bw_sB
      rw [if_neg q]
      exact a4 i hi
theorem bw_vec (p : Int32) : (∃ v, v < 6 ∧ p = nI v) ∨ ((∀ post : Int32 → Prop, post 0 → wpX_isVector post p) ∧ (∀ (post : Int32 → Prop) (e l w : Nat → Int32), post 1 → wpY_bad post (e, l, w) p)) := by
  rcases pk_ix p (n := 6) (by decide) with h | h | h
  · exact Or.inr ⟨fun _ q => br_t h q, fun _ _ _ _ q => br_t h q⟩
  · have hh := Int32.le_iff_toInt_le.mp h
    rw [show (nI 6).toInt = 6 from by decide] at hh
    have h0 : ¬ p < 0 := by
      rw [Int32.lt_iff_toInt_lt, show (0 : Int32).toInt = 0 from by decide]
      omega
    have h5 : ¬ p ≤ 5 := by
      rw [Int32.le_iff_toInt_le, show (5 : Int32).toInt = 5 from by decide]
      omega
    exact Or.inr ⟨fun _ q => br_f h0 (br_t h q), fun _ _ _ _ q => br_f h0 (br_f h5 q)⟩
  · exact Or.inl h
theorem bx_iv {post : Int32 → Prop} {v : Nat} (hv : v < 6) (h : post 1) : wpX_isVector post (nI v) :=
  br_f (nI_pos (by omega)) (br_f (nI_ge (b := 6) hv (by decide)) h)
theorem by_iv {post : Int32 → Prop} {e l w : Nat → Int32} {v : Nat} (hv : v < 6) (h : post 0) : wpY_bad post (e, l, w) (nI v) :=
  br_f (nI_pos (by omega)) (br_t (nI_le (b := 5) (by omega) (by decide)) h)
theorem bx_el {B : Nat → Nat → Bool} {L : Nat → Nat} {e l : Nat → Int32} (hP : bw_P B L e l) {v : Nat} (hv : v < 6) (w : Nat → Int32) {p1 : Int64} {post : Int32 → Prop} (z : Int) (hz : p1.toInt = z) (h : post (bw_i (bw_z (B v) z))) : wpX_element post (e, l, w) (nI v) p1 := by
  obtain ⟨hL, hl, he, hb⟩ := hP v hv
  unfold wpX_element
  dsimp only
  by_cases h0 : p1 < 0
  · refine br_t h0 ?_
    rw [Int64.lt_iff_toInt_lt, show (0 : Int64).toInt = 0 from by decide, hz] at h0
    rw [bw_zneg _ h0] at h
    exact h
  · obtain ⟨k, hk, rfl⟩ := pk_lOf h0
    rw [pk_lT hk] at hz
    subst hz
    rw [bw_zN] at h
    refine br_f h0 ⟨vp_in_nI hv (by omega), ?_⟩
    rw [nI_clamp (by omega), hl, nI_l (by omega)]
    by_cases h2 : L v ≤ k
    · refine br_t ((pk_lLE (by omega) hk).mpr h2) ?_
      rw [hb k h2] at h
      exact h
    · refine br_f (fun q => h2 ((pk_lLE (by omega) hk).mp q)) ?_
      rw [lN_i, bw_ix]
      refine ⟨vp_in_nI (by omega) (by omega), ?_⟩
      rw [nI_clamp (by omega), he k (by omega)]
      exact bw_c (fun q => by rw [q] at h; exact h) (fun q => by rw [q] at h; exact h)
theorem bx_elN {B : Nat → Nat → Bool} {L : Nat → Nat} {e l : Nat → Int32} (hP : bw_P B L e l) {v : Nat} (hv : v < 6) (w : Nat → Int32) {i : Nat} {post : Int32 → Prop} (hi : i < 2 ^ 31) (h : post (bw_i (B v i))) : wpX_element post (e, l, w) (nI v) (nI i).toInt64 :=
  bx_el hP hv w (i : Int) (by rw [nI_l hi, lN_toInt hi]) (by rw [bw_zN]; exact h)
theorem by_el {B : Nat → Nat → Bool} {L : Nat → Nat} {e l : Nat → Int32} (hP : bw_P B L e l) {v : Nat} (hv : v < 6) (w : Nat → Int32) {p1 : Int64} {post : Int32 → Prop} (z : Int) (hz : p1.toInt = z) (h : post (bw_i (bw_z (B v) z))) : wpY_at post (e, l, w) (nI v) p1 := by
  obtain ⟨hL, hl, he, hb⟩ := hP v hv
  unfold wpY_at
  dsimp only
  by_cases h0 : p1 < 0
  · refine br_t h0 ?_
    rw [Int64.lt_iff_toInt_lt, show (0 : Int64).toInt = 0 from by decide, hz] at h0
    rw [bw_zneg _ h0] at h
    exact h
  · obtain ⟨k, hk, rfl⟩ := pk_lOf h0
    rw [pk_lT hk] at hz
    subst hz
    rw [bw_zN] at h
    refine br_f h0 ⟨vp_in_nI hv (by omega), ?_⟩
    rw [nI_clamp (by omega), hl, nI_l (by omega)]
    by_cases h2 : L v ≤ k
    · refine br_t ((pk_lLE (by omega) hk).mpr h2) ?_
      rw [hb k h2] at h
      exact h
    · refine br_f (fun q => h2 ((pk_lLE (by omega) hk).mp q)) ?_
      rw [lN_i, bw_ix]
      refine ⟨vp_in_nI (by omega) (by omega), ?_⟩
      rw [nI_clamp (by omega), he k (by omega)]
      exact bw_c (fun q => by rw [q] at h; exact h) (fun q => by rw [q] at h; exact h)
theorem by_elN {B : Nat → Nat → Bool} {L : Nat → Nat} {e l : Nat → Int32} (hP : bw_P B L e l) {v : Nat} (hv : v < 6) (w : Nat → Int32) {i : Nat} {post : Int32 → Prop} (hi : i < 2 ^ 31) (h : post (bw_i (B v i))) : wpY_at post (e, l, w) (nI v) (nI i).toInt64 :=
  by_el hP hv w (i : Int) (by rw [nI_l hi, lN_toInt hi]) (by rw [bw_zN]; exact h)
theorem bx_rep {B : Nat → Nat → Bool} {L : Nat → Nat} {e l : Nat → Int32} (hP : bw_P B L e l) {v : Nat} (hv : v < 6) {n : Nat} (hn : n ≤ 256) (F : Nat → Bool) {r : Nat → Int32} (hr : ∀ i, i < n → r i = bw_i (F i)) {post : Int32 → SX → Prop}
    (h : ∀ e' l', bw_P (bw_sB B v n F) (bw_sL L v n) e' l' → post (nI n) (e', l', r)) : wpX_replace post (e, l, r) (nI v) (nI n) := by
  unfold wpX_replace
  dsimp only
  refine br_t (nI_pos' (by omega)) (nm_r (bw_ix0 v) ?_)
  refine loop_0 (fun n' i s => wX_replace_15 post (nI v) (nI n) (nI (v * 256)) n' (nI i) s l r) (fun i s => (∀ j, j < i → s (v * 256 + j) = bw_i (F j)) ∧ (∀ j, (j < v * 256 ∨ v * 256 + 256 ≤ j) → s j = e j)) n e ⟨fun j hj => absurd hj (by omega), fun j _ => rfl⟩ ?_ ?_
  · intro n' s hI
    exact br_t (nI_le (Nat.le_refl _) (by omega)) ⟨vp_in_nI hv (by omega), nm_r (e' := upd l v (nI n)) (by rw [nI_clamp (by omega)]) (h _ _ (bw_setP hP hv hn hI.1 hI.2))⟩
  · intro n' i s hi hI k
    refine br_f (nI_ge hi (by omega)) ⟨vp_in_nI (by omega) (by omega), ?_⟩
    rw [nI_add]
    refine ⟨vp_in_nI (by omega) (by omega), nm_r (e' := upd s (v * 256 + i) (bw_i (F i))) (by rw [nI_clamp (by omega), nI_clamp (by omega), hr i hi, bw_nar]) (nm_r (nI_1 i) (k _ ⟨bw_updO hI.1 rfl, fun j hj => ?_⟩))⟩
    rw [pk_un (by omega)]
    exact hI.2 j hj
theorem bx_rep3 {e l r : Nat → Int32} {v : Nat} {x : Int32} (hx : ¬ 0 ≤ x) {post : Int32 → SX → Prop} (h : post x (e, l, r)) : wpX_replace post (e, l, r) (nI v) x := br_f hx h
theorem by_bec {B : Nat → Nat → Bool} {L : Nat → Nat} {e l : Nat → Int32} (hP : bw_P B L e l) {v : Nat} (hv : v < 6) {n : Nat} (hn : n ≤ 256) (F : Nat → Bool) {r : Nat → Int32} (hr : ∀ i, i < n → r i = bw_i (F i)) {post : Int32 → SY → Prop}
    (h : ∀ e' l', bw_P (bw_sB B v n F) (bw_sL L v n) e' l' → post (nI n) (e', l', r)) : wpY_become post (e, l, r) (nI v) (nI n) := by
  unfold wpY_become
  dsimp only
  refine loop_0 (fun n' i s => wY_become_2 post (nI v) (nI n) n' (nI i) s l r) (fun i s => (∀ j, j < i → s (v * 256 + j) = bw_i (decide (j < n) && F j)) ∧ (∀ j, (j < v * 256 ∨ v * 256 + 256 ≤ j) → s j = e j)) 256 e ⟨fun j hj => absurd hj (by omega), fun j _ => rfl⟩ ?_ ?_
  · intro n' s hI
    exact br_t (nI_le (a := 256) (Nat.le_refl _) (by omega)) ⟨vp_in_nI hv (by omega), nm_r (e' := upd l v (nI n)) (by rw [nI_clamp (by omega)]) (h _ _ (bw_setP hP hv hn (fun j hj => by rw [hI.1 j (by omega), decide_eq_true hj, Bool.true_and]) hI.2))⟩
  · intro n' i s hi hI k
    have fin : ∀ (x : Int32), vp_nar .boolean x = bw_i (decide (i < n) && F i) → vp_in (nI v * 256 + nI i) 1536 ∧ ∀ a : Nat → Int32, a = upd s (nI v * 256 + nI i).toNatClampNeg (vp_nar .boolean x) → ∀ y : Int32, y = nI i + 1 → wY_become_2 post (nI v) (nI n) n' y a l r := by
      intro x hx
      rw [bw_ix]
      refine ⟨vp_in_nI (by omega) (by omega), nm_r (e' := upd s (v * 256 + i) (bw_i (decide (i < n) && F i))) (by rw [nI_clamp (by omega), hx]) (nm_r (nI_1 i) (k _ ⟨bw_updO hI.1 rfl, fun j hj => ?_⟩))⟩
      rw [pk_un (by omega)]
      exact hI.2 j hj
    refine br_f (nI_ge (b := 256) hi (by omega)) ?_
    by_cases q : n ≤ i
    · refine br_t (nI_le q (by omega)) (fin 0 ?_)
      rw [decide_eq_false (by omega), Bool.false_and]
      exact bw_nar0
    · refine br_f (nI_ge (by omega) (by omega)) ⟨vp_in_nI (by omega) (by omega), ?_⟩
      rw [nI_clamp (by omega), hr i (by omega)]
      refine bw_c (fun z => fin 0 ?_) (fun z => fin 1 ?_)
      · rw [z, Bool.and_false]
        exact bw_nar0
      · rw [z, decide_eq_true (by omega), Bool.true_and]
        exact bw_nar1
end
