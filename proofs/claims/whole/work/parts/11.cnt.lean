theorem bw_lastm {m : Nat} (hm : m ≤ 256) : ∀ i : Nat, i < 2 ^ 31 → (nI m - 1 < nI i ↔ m ≤ i) := by
  intro i hi
  by_cases q : m = 0
  · rw [q, show nI 0 - 1 = -1 from by decide, Int32.lt_iff_toInt_lt, nI_toInt hi, show (-1 : Int32).toInt = -1 from by decide]
    omega
  · rw [show nI m - 1 = nI (m - 1) from by
      rw [show m = (m - 1) + 1 from by omega, nI_pred]
      rfl, nI_ltI (by omega) hi]
    omega
section
variable {B : Nat → Nat → Bool} {L : Nat → Nat} {e l : Nat → Int32}
theorem bx_c18 (hP : bw_P B L e l) {v : Nat} (hv : v < 6) (w : Nat → Int32) {first : Nat} (hf : first < 2 ^ 31) (to : Int32) {post : Int32 → Prop} (h : post (nI (bw_cn (fun i => decide (first ≤ i) && decide ((i : Int) ≤ to.toInt) && B v i) 256))) : wX_count_18 post (nI v) to (nI first) e l w := by
  obtain ⟨hL, hl, he, hb⟩ := hP v hv
  refine ⟨vp_in_nI hv (by omega), ?_⟩
  rw [nI_clamp (by omega), hl]
  by_cases q : nI (L v) ≤ to
  · refine br_t q ⟨vp_in_nI hv (by omega), bx_cnt hP hv w hf hL (bw_lastm hL) ?_⟩
    rw [Int32.le_iff_toInt_le, nI_toInt (by omega)] at q
    rw [bw_cn_congr (g := fun i => decide (first ≤ i) && decide ((i : Int) ≤ to.toInt) && B v i) (fun i _ => ?_)]
    · exact h
    · by_cases z : i < L v
      · rw [decide_eq_true z, decide_eq_true (p := (i : Int) ≤ to.toInt) (by omega)]
      · rw [hb i (by omega), Bool.and_false, Bool.and_false]
  · refine br_f q ?_
    rw [Int32.le_iff_toInt_le, nI_toInt (by omega)] at q
    refine bx_cnt (b := (to.toInt + 1).toNat) hP hv w hf (by omega) (fun i hi => ?_) ?_
    · rw [bw_ltn i to hi]
      omega
    · rw [bw_cn_congr (g := fun i => decide (first ≤ i) && decide ((i : Int) ≤ to.toInt) && B v i) (fun i _ => ?_)]
      · exact h
      · rw [show decide (i < (to.toInt + 1).toNat) = decide ((i : Int) ≤ to.toInt) from decide_eq_decide.mpr (by omega)]
theorem bx_ct (hP : bw_P B L e l) {v : Nat} (hv : v < 6) (w : Nat → Int32) {a b : Int32} {post : Int32 → Prop} (h : post (nI (bw_ct (B v) a.toInt b.toInt))) : wpX_count post (e, l, w) (nI v) a b := by
  unfold wpX_count
  dsimp only
  unfold bw_ct at h
  refine bx_iv hv (br_f (by decide) ?_)
  by_cases q : 0 ≤ a
  · refine br_t q ?_
    obtain ⟨j, hj, rfl⟩ := nI_of (x := a) (Int32.not_lt.mpr q)
    refine bx_c18 hP hv w hj b ?_
    rw [bw_cn_congr (g := fun i => decide (j ≤ i) && decide ((i : Int) ≤ b.toInt) && B v i) (fun i _ => ?_)] at h
    · exact h
    · rw [nI_toInt hj, show decide ((j : Int) ≤ (i : Int)) = decide (j ≤ i) from decide_eq_decide.mpr (by omega)]
  · refine br_f q ?_
    rw [Int32.le_iff_toInt_le, show (0 : Int32).toInt = 0 from by decide] at q
    refine bx_c18 (first := 0) hP hv w (by decide) b ?_
    rw [bw_cn_congr (g := fun i => decide (0 ≤ i) && decide ((i : Int) ≤ b.toInt) && B v i) (fun i _ => ?_)] at h
    · exact h
    · rw [decide_eq_true (p := a.toInt ≤ (i : Int)) (by omega), decide_eq_true (p := 0 ≤ i) (by omega)]
end
