section
variable {B : Nat → Nat → Bool} {L : Nat → Nat} {e l : Nat → Int32}
theorem bw_o0 {a : Nat} (ha : a < 6) (hL : L a ≤ 256) (k : Int32) : bw_O B L (fun post u => wpX_buildChange post u 0 (nI a) k) (fun post u t => wpY_change post u (nI t) 0 (nI a) k) := by
  refine Or.inl ⟨L a, fun i => !B a i, hL, ?_, ?_⟩
  · intro e l r post hP h
    unfold wpX_buildChange
    dsimp only
    exact br_f (by decide) (br_f (by decide) (br_t rfl (bx_not hP ha r h)))
  · intro t e l w post ht hP h
    unfold wpY_change
    dsimp only
    exact by_iv ht (br_t rfl (by_iv ha (br_t rfl (br_f (by decide) (br_t (by decide) ⟨vp_in_nI ha (by omega), nm_r (e' := nI (L a)) (by rw [nI_clamp (by omega), (hP a ha).2.1]) (br_f (by decide) (br_f (by decide) (by_chl hP ht hL (fun i => !B a i) (fun w i post hi q => by_e0 hP ha k w (by omega) q) w h)))⟩)))))
theorem bw_o1 {a : Nat} (ha : a < 6) (hL : L a ≤ 256) (k : Int32) : bw_O B L (fun post u => wpX_buildChange post u 1 (nI a) k) (fun post u t => wpY_change post u (nI t) 1 (nI a) k) := by
  refine Or.inl ⟨L a, fun i => B a (L a - 1 - i), hL, ?_, ?_⟩
  · intro e l r post hP h
    unfold wpX_buildChange
    dsimp only
    exact br_f (by decide) (br_f (by decide) (br_f (by decide) (br_t rfl (bx_rev hP ha r h))))
  · intro t e l w post ht hP h
    unfold wpY_change
    dsimp only
    exact by_iv ht (br_t rfl (by_iv ha (br_t rfl (br_f (by decide) (br_t (by decide) ⟨vp_in_nI ha (by omega), nm_r (e' := nI (L a)) (by rw [nI_clamp (by omega), (hP a ha).2.1]) (br_f (by decide) (br_f (by decide) (by_chl hP ht hL (fun i => B a (L a - 1 - i)) (fun w i post hi q => by_e1 hP ha k w hi q) w h)))⟩)))))
theorem bw_o2 {a : Nat} (ha : a < 6) (hL : L a ≤ 256) (k : Int32) : bw_O B L (fun post u => wpX_buildChange post u 2 (nI a) k) (fun post u t => wpY_change post u (nI t) 2 (nI a) k) := by
  refine Or.inl ⟨L a, fun i => B a ((((i : Nat) : Int) + k.toInt) % ((L a : Nat) : Int)).toNat, hL, ?_, ?_⟩
  · intro e l r post hP h
    unfold wpX_buildChange
    dsimp only
    exact br_f (by decide) (br_f (by decide) (br_f (by decide) (br_f (by decide) (br_t rfl (bx_rot hP ha k r h)))))
  · intro t e l w post ht hP h
    unfold wpY_change
    dsimp only
    exact by_iv ht (br_t rfl (by_iv ha (br_t rfl (br_f (by decide) (br_t (by decide) ⟨vp_in_nI ha (by omega), nm_r (e' := nI (L a)) (by rw [nI_clamp (by omega), (hP a ha).2.1]) (br_f (by decide) (br_f (by decide) (by_chl hP ht hL (fun i => B a ((((i : Nat) : Int) + k.toInt) % ((L a : Nat) : Int)).toNat) (fun w i post hi q => by_e2 hP ha k w hi q) w h)))⟩)))))
theorem bw_o3 {a : Nat} (ha : a < 6) (hL : L a ≤ 256) (k : Int32) : bw_O B L (fun post u => wpX_buildChange post u 3 (nI a) k) (fun post u t => wpY_change post u (nI t) 3 (nI a) k) := by
  refine Or.inl ⟨L a, fun i => bw_z (B a) (((i : Nat) : Int) + k.toInt), hL, ?_, ?_⟩
  · intro e l r post hP h
    unfold wpX_buildChange
    dsimp only
    exact br_f (by decide) (br_f (by decide) (br_f (by decide) (br_f (by decide) (br_f (by decide) (br_t rfl (bx_shi hP ha k r h))))))
  · intro t e l w post ht hP h
    unfold wpY_change
    dsimp only
    exact by_iv ht (br_t rfl (by_iv ha (br_t rfl (br_f (by decide) (br_t (by decide) ⟨vp_in_nI ha (by omega), nm_r (e' := nI (L a)) (by rw [nI_clamp (by omega), (hP a ha).2.1]) (br_f (by decide) (br_f (by decide) (by_chl hP ht hL (fun i => bw_z (B a) (((i : Nat) : Int) + k.toInt)) (fun w i post hi q => by_e3 hP ha k w (by omega) q) w h)))⟩)))))
theorem bw_o6 {a : Nat} (ha : a < 6) (hL : L a ≤ 256) (k : Int32) : bw_O B L (fun post u => wpX_buildChange post u 6 (nI a) k) (fun post u t => wpY_change post u (nI t) 6 (nI a) k) := by
  refine Or.inl ⟨L a, fun i => decide (bw_cn (B a) (i + 1) = i + 1), hL, ?_, ?_⟩
  · intro e l r post hP h
    unfold wpX_buildChange
    dsimp only
    exact br_f (by decide) (br_f (by decide) (br_f (by decide) (br_f (by decide) (br_f (by decide) (br_f (by decide) (br_f (by decide) (br_f (by decide) (br_t rfl (bx_sca hP ha r h)))))))))
  · intro t e l w post ht hP h
    unfold wpY_change
    dsimp only
    exact by_iv ht (br_t rfl (by_iv ha (br_t rfl (br_f (by decide) (br_t (by decide) ⟨vp_in_nI ha (by omega), nm_r (e' := nI (L a)) (by rw [nI_clamp (by omega), (hP a ha).2.1]) (br_f (by decide) (br_f (by decide) (by_chl hP ht hL (fun i => decide (bw_cn (B a) (i + 1) = i + 1)) (fun w i post hi q => by_e6 hP ha k w (by omega) q) w h)))⟩)))))
theorem bw_o7 {a : Nat} (ha : a < 6) (hL : L a ≤ 256) (k : Int32) : bw_O B L (fun post u => wpX_buildChange post u 7 (nI a) k) (fun post u t => wpY_change post u (nI t) 7 (nI a) k) := by
  refine Or.inl ⟨L a, fun i => decide (0 < bw_cn (B a) (i + 1)), hL, ?_, ?_⟩
  · intro e l r post hP h
    unfold wpX_buildChange
    dsimp only
    exact br_f (by decide) (br_f (by decide) (br_f (by decide) (br_f (by decide) (br_f (by decide) (br_f (by decide) (br_f (by decide) (br_f (by decide) (br_f (by decide) (br_t rfl (bx_sco hP ha r h))))))))))
  · intro t e l w post ht hP h
    unfold wpY_change
    dsimp only
    exact by_iv ht (br_t rfl (by_iv ha (br_t rfl (br_f (by decide) (br_t (by decide) ⟨vp_in_nI ha (by omega), nm_r (e' := nI (L a)) (by rw [nI_clamp (by omega), (hP a ha).2.1]) (br_f (by decide) (br_f (by decide) (by_chl hP ht hL (fun i => decide (0 < bw_cn (B a) (i + 1))) (fun w i post hi q => by_e7 hP ha k w (by omega) q) w h)))⟩)))))
theorem bw_o8 {a : Nat} (ha : a < 6) (hL : L a ≤ 256) (k : Int32) : bw_O B L (fun post u => wpX_buildChange post u 8 (nI a) k) (fun post u t => wpY_change post u (nI t) 8 (nI a) k) := by
  refine Or.inl ⟨L a, fun i => decide (bw_cn (B a) (i + 1) % 2 = 1), hL, ?_, ?_⟩
  · intro e l r post hP h
    unfold wpX_buildChange
    dsimp only
    exact br_f (by decide) (br_f (by decide) (br_f (by decide) (br_f (by decide) (br_f (by decide) (br_f (by decide) (br_f (by decide) (br_f (by decide) (br_f (by decide) (br_f (by decide) (br_t rfl (bx_scx hP ha r h)))))))))))
  · intro t e l w post ht hP h
    unfold wpY_change
    dsimp only
    exact by_iv ht (br_t rfl (by_iv ha (br_t rfl (br_f (by decide) (br_t (by decide) ⟨vp_in_nI ha (by omega), nm_r (e' := nI (L a)) (by rw [nI_clamp (by omega), (hP a ha).2.1]) (br_f (by decide) (br_f (by decide) (by_chl hP ht hL (fun i => decide (bw_cn (B a) (i + 1) % 2 = 1)) (fun w i post hi q => by_e8 hP ha k w (by omega) q) w h)))⟩)))))
theorem bw_o4 {a : Nat} (ha : a < 6) (k : Int32) : bw_O B L (fun post u => wpX_buildChange post u 4 (nI a) k) (fun post u t => wpY_change post u (nI t) 4 (nI a) k) := by
  by_cases h0 : k < 0
  · refine Or.inr ⟨?_, ?_⟩
    · intro e l r post hP h
      unfold wpX_buildChange
      dsimp only
      exact br_f (by decide) (br_f (by decide) (br_f (by decide) (br_f (by decide) (br_f (by decide) (br_f (by decide) (br_t rfl (br_t h0 h)))))))
    · intro t e l w post ht hP h
      unfold wpY_change
      dsimp only
      exact by_iv ht (br_t rfl (by_iv ha (br_t rfl (br_f (by decide) (br_t (by decide) ⟨vp_in_nI ha (by omega), nm_e (br_t rfl (br_t h0 h))⟩)))))
  · by_cases h2 : k ≤ 256
    · obtain ⟨n, hn, rfl⟩ := nI_of2 (M := 256) (n := 256) (by decide) h0 h2
      refine Or.inl ⟨n, B a, hn, ?_, ?_⟩
      · intro e l r post hP h
        unfold wpX_buildChange
        dsimp only
        exact br_f (by decide) (br_f (by decide) (br_f (by decide) (br_f (by decide) (br_f (by decide) (br_f (by decide) (br_t rfl (bx_tak hP ha hn r h)))))))
      · intro t e l w post ht hP h
        unfold wpY_change
        dsimp only
        exact by_iv ht (br_t rfl (by_iv ha (br_t rfl (br_f (by decide) (br_t (by decide) ⟨vp_in_nI ha (by omega), nm_e (br_t rfl (br_f h0 (br_t h2 (br_f (by decide) (by_chl hP ht hn (B a) (fun w i post hi q => by_e4 hP ha (nI n) w (by omega) q) w h)))))⟩)))))
    · refine Or.inr ⟨?_, ?_⟩
      · intro e l r post hP h
        unfold wpX_buildChange
        dsimp only
        exact br_f (by decide) (br_f (by decide) (br_f (by decide) (br_f (by decide) (br_f (by decide) (br_f (by decide) (br_t rfl (br_f h0 (br_f h2 h))))))))
      · intro t e l w post ht hP h
        unfold wpY_change
        dsimp only
        exact by_iv ht (br_t rfl (by_iv ha (br_t rfl (br_f (by decide) (br_t (by decide) ⟨vp_in_nI ha (by omega), nm_e (br_t rfl (br_f h0 (br_f h2 h)))⟩)))))
theorem bw_gt {x y : Int32} (h : ¬ x ≤ y) : y < x := Int32.not_le.mp h
theorem bw_o5 {a : Nat} (ha : a < 6) (hL : L a ≤ 256) (k : Int32) : bw_O B L (fun post u => wpX_buildChange post u 5 (nI a) k) (fun post u t => wpY_change post u (nI t) 5 (nI a) k) := by
  by_cases h1 : k < 1
  · refine Or.inr ⟨?_, ?_⟩
    · intro e l r post hP h
      unfold wpX_buildChange
      dsimp only
      exact br_f (by decide) (br_f (by decide) (br_f (by decide) (br_f (by decide) (br_f (by decide) (br_f (by decide) (br_f (by decide) (br_t rfl (br_t h1 h))))))))
    · intro t e l w post ht hP h
      unfold wpY_change
      dsimp only
      exact by_iv ht (br_t rfl (by_iv ha (br_t rfl (br_f (by decide) (br_t (by decide) ⟨vp_in_nI ha (by omega), nm_e (br_f (by decide) (br_t rfl (br_t h1 h)))⟩)))))
  · by_cases h2 : k ≤ 256
    · have h0 : ¬ k < 0 := fun q => h1 (Int32.lt_trans q (by decide))
      obtain ⟨n, hn, rfl⟩ := nI_of2 (M := 256) (n := 256) (by decide) h0 h2
      have hn0 : 0 < n := by
        by_cases q : n = 0
        · subst q; exact absurd (by decide) h1
        · omega
      have h3 : ¬ (256 : Int32) < nI n := nI_nlt (b := n) (a := 256) hn (by decide)
      have hb2 : L a * n ≤ 65536 := Nat.mul_le_mul hL hn
      by_cases h4 : L a * n ≤ 256
      · refine Or.inl ⟨L a * n, fun i => B a (i / n), h4, ?_, ?_⟩
        · intro e l r post hP h
          unfold wpX_buildChange
          dsimp only
          exact br_f (by decide) (br_f (by decide) (br_f (by decide) (br_f (by decide) (br_f (by decide) (br_f (by decide) (br_f (by decide) (br_t rfl (bx_str hP ha hn0 hn h4 r h))))))))
        · intro t e l w post ht hP h
          unfold wpY_change
          dsimp only
          refine by_iv ht (br_t rfl (by_iv ha (br_t rfl (br_f (by decide) (br_t (by decide) ⟨vp_in_nI ha (by omega), nm_r (e' := nI (L a)) (by rw [nI_clamp (by omega), (hP a ha).2.1]) (br_f (by decide) (br_t rfl (br_f h1 (br_f h3 ?_))))⟩)))))
          rw [pk_mul]
          exact br_t (nI_le (b := 256) h4 (by decide)) (nm_e (by_chl hP ht h4 (fun i => B a (i / n)) (fun w i post hi q => by_e5 hP ha hn0 hn w (by omega) q) w h))
      · refine Or.inr ⟨?_, ?_⟩
        · intro e l r post hP h
          unfold wpX_buildChange
          dsimp only
          exact br_f (by decide) (br_f (by decide) (br_f (by decide) (br_f (by decide) (br_f (by decide) (br_f (by decide) (br_f (by decide) (br_t rfl (br_f h1 (br_t h2 ⟨vp_in_nI ha (by omega), nm_r (e' := nI (L a * n)) (by rw [nI_clamp (by omega), (hP a ha).2.1, pk_mul]) (br_f (nI_ge (a := 256) (by omega) (by omega)) h)⟩)))))))))
        · intro t e l w post ht hP h
          unfold wpY_change
          dsimp only
          refine by_iv ht (br_t rfl (by_iv ha (br_t rfl (br_f (by decide) (br_t (by decide) ⟨vp_in_nI ha (by omega), nm_r (e' := nI (L a)) (by rw [nI_clamp (by omega), (hP a ha).2.1]) (br_f (by decide) (br_t rfl (br_f h1 (br_f h3 ?_))))⟩)))))
          rw [pk_mul]
          exact br_f (nI_ge (a := 256) (by omega) (by omega)) h
    · refine Or.inr ⟨?_, ?_⟩
      · intro e l r post hP h
        unfold wpX_buildChange
        dsimp only
        exact br_f (by decide) (br_f (by decide) (br_f (by decide) (br_f (by decide) (br_f (by decide) (br_f (by decide) (br_f (by decide) (br_t rfl (br_f h1 (br_f h2 h)))))))))
      · intro t e l w post ht hP h
        unfold wpY_change
        dsimp only
        exact by_iv ht (br_t rfl (by_iv ha (br_t rfl (br_f (by decide) (br_t (by decide) ⟨vp_in_nI ha (by omega), nm_e (br_f (by decide) (br_t rfl (br_f h1 (br_t (bw_gt h2) h))))⟩)))))
end
