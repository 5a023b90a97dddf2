section
variable {B : Nat → Nat → Bool} {L : Nat → Nat} {e l : Nat → Int32}
theorem bw_k0 {a b : Nat} (ha : a < 6) (hb : b < 6) (hL : L a ≤ 256) : bw_O B L (fun post u => wpX_buildCombination post u 0 (nI a) (nI b)) (fun post u t => wpY_combine post u (nI t) 0 (nI a) (nI b)) := by
  by_cases hE : L b = L a
  · skip
    refine Or.inl ⟨L a, fun i => bw_op 0 (B a i) (B b i), hL, ?_, ?_⟩
    · intro e l r post hP h
      unfold wpX_buildCombination
      dsimp only
      exact br_f (by decide) (br_f (by decide) (br_t rfl (bx_bwb (c := 0) hP ha hb hE (by decide) r h)))
    · intro t e l w post ht hP h
      exact by_cmS hP ht ha hb (by decide) (by decide) hL (fun i => bw_op 0 (B a i) (B b i)) (fun w post q => by_sE hP ha hb hE (by decide) (by decide) (by decide) (by decide) w q) (fun w i post hi q => by_m0 hP ha hb w (by omega) q) w h
  · skip
    refine Or.inr ⟨?_, ?_⟩
    · intro e l r post hP h
      unfold wpX_buildCombination
      dsimp only
      exact br_f (by decide) (br_f (by decide) (br_t rfl (bx_bwn hP ha hb hE r h)))
    · intro t e l w post ht hP h
      exact by_cmN ht ha hb (by decide) (by decide) (fun w post q => by_sEN hP ha hb hE (by decide) (by decide) w q) w h
theorem bw_k1 {a b : Nat} (ha : a < 6) (hb : b < 6) (hL : L a ≤ 256) : bw_O B L (fun post u => wpX_buildCombination post u 1 (nI a) (nI b)) (fun post u t => wpY_combine post u (nI t) 1 (nI a) (nI b)) := by
  by_cases hE : L b = L a
  · skip
    refine Or.inl ⟨L a, fun i => bw_op 1 (B a i) (B b i), hL, ?_, ?_⟩
    · intro e l r post hP h
      unfold wpX_buildCombination
      dsimp only
      exact br_f (by decide) (br_f (by decide) (br_f (by decide) (br_t rfl (bx_bwb (c := 1) hP ha hb hE (by decide) r h))))
    · intro t e l w post ht hP h
      exact by_cmS hP ht ha hb (by decide) (by decide) hL (fun i => bw_op 1 (B a i) (B b i)) (fun w post q => by_sE hP ha hb hE (by decide) (by decide) (by decide) (by decide) w q) (fun w i post hi q => by_m1 hP ha hb w (by omega) q) w h
  · skip
    refine Or.inr ⟨?_, ?_⟩
    · intro e l r post hP h
      unfold wpX_buildCombination
      dsimp only
      exact br_f (by decide) (br_f (by decide) (br_f (by decide) (br_t rfl (bx_bwn hP ha hb hE r h))))
    · intro t e l w post ht hP h
      exact by_cmN ht ha hb (by decide) (by decide) (fun w post q => by_sEN hP ha hb hE (by decide) (by decide) w q) w h
theorem bw_k2 {a b : Nat} (ha : a < 6) (hb : b < 6) (hL : L a ≤ 256) : bw_O B L (fun post u => wpX_buildCombination post u 2 (nI a) (nI b)) (fun post u t => wpY_combine post u (nI t) 2 (nI a) (nI b)) := by
  by_cases hE : L b = L a
  · skip
    refine Or.inl ⟨L a, fun i => bw_op 2 (B a i) (B b i), hL, ?_, ?_⟩
    · intro e l r post hP h
      unfold wpX_buildCombination
      dsimp only
      exact br_f (by decide) (br_f (by decide) (br_f (by decide) (br_f (by decide) (br_t rfl (bx_bwb (c := 2) hP ha hb hE (by decide) r h)))))
    · intro t e l w post ht hP h
      exact by_cmS hP ht ha hb (by decide) (by decide) hL (fun i => bw_op 2 (B a i) (B b i)) (fun w post q => by_sE hP ha hb hE (by decide) (by decide) (by decide) (by decide) w q) (fun w i post hi q => by_m2 hP ha hb w (by omega) q) w h
  · skip
    refine Or.inr ⟨?_, ?_⟩
    · intro e l r post hP h
      unfold wpX_buildCombination
      dsimp only
      exact br_f (by decide) (br_f (by decide) (br_f (by decide) (br_f (by decide) (br_t rfl (bx_bwn hP ha hb hE r h)))))
    · intro t e l w post ht hP h
      exact by_cmN ht ha hb (by decide) (by decide) (fun w post q => by_sEN hP ha hb hE (by decide) (by decide) w q) w h
theorem bw_k3 {a b : Nat} (ha : a < 6) (hb : b < 6) (hL : L a ≤ 256) : bw_O B L (fun post u => wpX_buildCombination post u 3 (nI a) (nI b)) (fun post u t => wpY_combine post u (nI t) 3 (nI a) (nI b)) := by
  by_cases hE : L b = L a
  · skip
    refine Or.inl ⟨L a, fun i => ((B a i != B b i) != bw_cy (B a) (B b) i), hL, ?_, ?_⟩
    · intro e l r post hP h
      unfold wpX_buildCombination
      dsimp only
      exact br_f (by decide) (br_f (by decide) (br_f (by decide) (br_f (by decide) (br_f (by decide) (br_t rfl (bx_pls hP ha hb hE r h))))))
    · intro t e l w post ht hP h
      exact by_cmS hP ht ha hb (by decide) (by decide) hL (fun i => ((B a i != B b i) != bw_cy (B a) (B b) i)) (fun w post q => by_sE hP ha hb hE (by decide) (by decide) (by decide) (by decide) w q) (fun w i post hi q => by_m3 hP ha hb w (by omega) q) w h
  · skip
    refine Or.inr ⟨?_, ?_⟩
    · intro e l r post hP h
      unfold wpX_buildCombination
      dsimp only
      exact br_f (by decide) (br_f (by decide) (br_f (by decide) (br_f (by decide) (br_f (by decide) (br_t rfl (bx_pln hP ha hb hE r h))))))
    · intro t e l w post ht hP h
      exact by_cmN ht ha hb (by decide) (by decide) (fun w post q => by_sEN hP ha hb hE (by decide) (by decide) w q) w h
theorem bw_k4 {a b : Nat} (ha : a < 6) (hb : b < 6) (hL : L a ≤ 256) : bw_O B L (fun post u => wpX_buildCombination post u 4 (nI a) (nI b)) (fun post u t => wpY_combine post u (nI t) 4 (nI a) (nI b)) := by
  by_cases hE : L a + L b ≤ 256
  · skip
    refine Or.inl ⟨L a + L b, fun i => if i < L a then B a i else B b (i - L a), hE, ?_, ?_⟩
    · intro e l r post hP h
      unfold wpX_buildCombination
      dsimp only
      exact br_f (by decide) (br_f (by decide) (br_f (by decide) (br_f (by decide) (br_f (by decide) (br_f (by decide) (br_t rfl (bx_joi hP ha hb hE r h)))))))
    · intro t e l w post ht hP h
      exact by_cmS hP ht ha hb (by decide) (by decide) hE (fun i => if i < L a then B a i else B b (i - L a)) (fun w post q => by_s4 hP ha hb hE w q) (fun w i post hi q => by_m4 hP ha hb w (by omega) q) w h
  · skip
    refine Or.inr ⟨?_, ?_⟩
    · intro e l r post hP h
      unfold wpX_buildCombination
      dsimp only
      exact br_f (by decide) (br_f (by decide) (br_f (by decide) (br_f (by decide) (br_f (by decide) (br_f (by decide) (br_t rfl (bx_jon hP ha hb hE r h)))))))
    · intro t e l w post ht hP h
      exact by_cmN ht ha hb (by decide) (by decide) (fun w post q => by_s4N hP ha hb hE w q) w h
theorem bw_k5 {a b : Nat} (ha : a < 6) (hb : b < 6) (hL : L a ≤ 256) : bw_O B L (fun post u => wpX_buildCombination post u 5 (nI a) (nI b)) (fun post u t => wpY_combine post u (nI t) 5 (nI a) (nI b)) := by
  by_cases hE : L b = L a
  · skip
    refine Or.inl ⟨bw_cn (B a) 256, fun i => bw_cf (B a) (B b) i, (bw_cn_le _ _), ?_, ?_⟩
    · intro e l r post hP h
      unfold wpX_buildCombination
      dsimp only
      exact br_f (by decide) (br_f (by decide) (br_f (by decide) (br_f (by decide) (br_f (by decide) (br_f (by decide) (br_f (by decide) (br_t rfl (bx_com hP ha hb hE r h))))))))
    · intro t e l w post ht hP h
      exact by_cmS hP ht ha hb (by decide) (by decide) (bw_cn_le _ _) (fun i => bw_cf (B a) (B b) i) (fun w post q => by_s5 hP ha hb hE w q) (fun w i post hi q => by_m5 hP ha hb w (Nat.lt_of_lt_of_le hi (bw_cn_le _ _)) q) w h
  · skip
    refine Or.inr ⟨?_, ?_⟩
    · intro e l r post hP h
      unfold wpX_buildCombination
      dsimp only
      exact br_f (by decide) (br_f (by decide) (br_f (by decide) (br_f (by decide) (br_f (by decide) (br_f (by decide) (br_f (by decide) (br_t rfl (bx_con hP ha hb hE r h))))))))
    · intro t e l w post ht hP h
      exact by_cmN ht ha hb (by decide) (by decide) (fun w post q => by_sEN hP ha hb hE (by decide) (by decide) w q) w h
theorem bw_k6 {a b : Nat} (ha : a < 6) (hb : b < 6) (hL : L a ≤ 256) : bw_O B L (fun post u => wpX_buildCombination post u 6 (nI a) (nI b)) (fun post u t => wpY_combine post u (nI t) 6 (nI a) (nI b)) := by
  by_cases hE : L b = bw_cn (B a) 256
  · skip
    refine Or.inl ⟨L a, fun i => (B a i && B b (bw_cn (B a) i)), hL, ?_, ?_⟩
    · intro e l r post hP h
      unfold wpX_buildCombination
      dsimp only
      exact br_f (by decide) (br_f (by decide) (br_f (by decide) (br_f (by decide) (br_f (by decide) (br_f (by decide) (br_f (by decide) (br_f (by decide) (br_t rfl (bx_exp hP ha hb hE r h)))))))))
    · intro t e l w post ht hP h
      exact by_cmS hP ht ha hb (by decide) (by decide) hL (fun i => (B a i && B b (bw_cn (B a) i))) (fun w post q => by_s6 hP ha hb hE w q) (fun w i post hi q => by_m6 hP ha hb w (by omega) q) w h
  · skip
    refine Or.inr ⟨?_, ?_⟩
    · intro e l r post hP h
      unfold wpX_buildCombination
      dsimp only
      exact br_f (by decide) (br_f (by decide) (br_f (by decide) (br_f (by decide) (br_f (by decide) (br_f (by decide) (br_f (by decide) (br_f (by decide) (br_t rfl (bx_exn hP ha hb hE r h)))))))))
    · intro t e l w post ht hP h
      exact by_cmN ht ha hb (by decide) (by decide) (fun w post q => by_s6N hP ha hb hE w q) w h
theorem bw_k7 {a b : Nat} (ha : a < 6) (hb : b < 6) (hL : L a ≤ 256) : bw_O B L (fun post u => wpX_buildCombination post u 7 (nI a) (nI b)) (fun post u t => wpY_combine post u (nI t) 7 (nI a) (nI b)) := by
  by_cases hE : L b = L a
  · skip
    by_cases hS : L a + L b ≤ 256
    · skip
      refine Or.inl ⟨L a + L b, fun i => if i % 2 = 0 then B a (i / 2) else B b (i / 2), hS, ?_, ?_⟩
      · intro e l r post hP h
        unfold wpX_buildCombination
        dsimp only
        exact br_f (by decide) (br_f (by decide) (br_f (by decide) (br_f (by decide) (br_f (by decide) (br_f (by decide) (br_f (by decide) (br_f (by decide) (br_f (by decide) (br_t rfl (bx_mes hP ha hb hE hS r h))))))))))
      · intro t e l w post ht hP h
        exact by_cmS hP ht ha hb (by decide) (by decide) hS (fun i => if i % 2 = 0 then B a (i / 2) else B b (i / 2)) (fun w post q => by_s7 hP ha hb hE hS w q) (fun w i post hi q => by_m7 hP ha hb w (by omega) q) w h
    · skip
      refine Or.inr ⟨?_, ?_⟩
      · intro e l r post hP h
        unfold wpX_buildCombination
        dsimp only
        exact br_f (by decide) (br_f (by decide) (br_f (by decide) (br_f (by decide) (br_f (by decide) (br_f (by decide) (br_f (by decide) (br_f (by decide) (br_f (by decide) (br_t rfl (bx_men hP ha hb (Or.inr hS) r h))))))))))
      · intro t e l w post ht hP h
        exact by_cmN ht ha hb (by decide) (by decide) (fun w post q => by_s7N hP ha hb hE hS w q) w h
  · skip
    refine Or.inr ⟨?_, ?_⟩
    · intro e l r post hP h
      unfold wpX_buildCombination
      dsimp only
      exact br_f (by decide) (br_f (by decide) (br_f (by decide) (br_f (by decide) (br_f (by decide) (br_f (by decide) (br_f (by decide) (br_f (by decide) (br_f (by decide) (br_t rfl (bx_men hP ha hb (Or.inl hE) r h))))))))))
    · intro t e l w post ht hP h
      exact by_cmN ht ha hb (by decide) (by decide) (fun w post q => by_sEN hP ha hb hE (by decide) (by decide) w q) w h
end
