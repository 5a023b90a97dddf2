/-- one picture (lengths and elements) of both states -/
def i_Rel (k : Nat) (u : SX) (v : SY) : Prop := ∃ B L, bw_P B L u.1 u.2.1 ∧ bw_P B L v.1 v.2.1
theorem i_up {k : Nat} {u : SX} {v : SY} (h : i_Rel k u v) : i_Rel (k + 5) u v := h
theorem i_vc0 : wpX_init (fun u => wpY_init (fun v => i_Rel 0 u v)) := by
  refine ⟨fun _ _ => false, fun _ => 0, ?_, ?_⟩
  · exact fun v _ => ⟨Nat.zero_le _, rfl, fun i hi => absurd hi (Nat.not_lt_zero i), fun i _ => rfl⟩
  · exact fun v _ => ⟨Nat.zero_le _, rfl, fun i hi => absurd hi (Nat.not_lt_zero i), fun i _ => rfl⟩
theorem i_vc_make {k : Nat} {u : SX} {v : SY} (I : i_Rel k u v) (hk : k + 5 ≤ 2560) (v1 : Int32) (v2 : Int32) : wpX_make (fun r u' => wpY_make (fun r' v' => r' = r ∧ i_Rel (k + 5) u' v') v v1 v2) u v1 v2 := by
  obtain ⟨e, l, r⟩ := u
  obtain ⟨e2, l2, w⟩ := v
  obtain ⟨B, L, hX, hY⟩ := I
  dsimp only at hX hY
  have RR : i_Rel (k + 5) (e, l, r) (e2, l2, w) := ⟨B, L, hX, hY⟩
  unfold wpX_make wpY_make
  dsimp only
  rcases bw_vec v1 with ⟨v, hv, rfl⟩ | ⟨bx, b2⟩
  · refine bx_iv hv (br_f (by decide) ?_)
    by_cases h0 : v2 < 0
    · exact br_t h0 (by_iv hv (br_t rfl (br_t h0 ⟨rfl, RR⟩)))
    · by_cases h2 : v2 ≤ 256
      · obtain ⟨n, hn, rfl⟩ := nI_of2 (M := 256) (n := 256) (by decide) h0 h2
        exact br_f h0 (br_t h2 (bx_mk hX hv hn r (fun e' l' r' q => by_iv hv (br_t rfl (br_f h0 (br_t h2 (by_mk hY hv hn w (fun e2' l2' w' q2 => ⟨rfl, _, _, q, q2⟩))))))))
      · exact br_f h0 (br_f h2 (by_iv hv (br_t rfl (br_f h0 (br_f h2 ⟨rfl, RR⟩)))))
  · exact bx _ (br_t rfl (b2 _ _ _ _ (br_f (by decide) ⟨rfl, RR⟩)))
theorem i_vc_put {k : Nat} {u : SX} {v : SY} (I : i_Rel k u v) (hk : k + 5 ≤ 2560) (v1 : Int32) (v2 : Int32) (v3 : Int32) (v4 : Int32) : wpX_put (fun r u' => wpY_put (fun r' v' => r' = r ∧ i_Rel (k + 5) u' v') v v1 v2 v3 v4) u v1 v2 v3 v4 := by
  obtain ⟨e, l, r⟩ := u
  obtain ⟨e2, l2, w⟩ := v
  obtain ⟨B, L, hX, hY⟩ := I
  dsimp only at hX hY
  have RR : i_Rel (k + 5) (e, l, r) (e2, l2, w) := ⟨B, L, hX, hY⟩
  unfold wpX_put wpY_put
  dsimp only
  rcases bw_vec v1 with ⟨v, hv, rfl⟩ | ⟨bx, b2⟩
  · refine bx_iv hv (br_f (by decide) ?_)
    by_cases h1 : v3 < 1
    · exact br_t h1 (by_iv hv (br_t rfl (br_t h1 ⟨rfl, RR⟩)))
    · by_cases h2 : v3 ≤ 32
      · have h0 : ¬ v3 < 0 := fun q => h1 (Int32.lt_trans q (by decide))
        obtain ⟨n, hn, rfl⟩ := nI_of2 (M := 32) (n := 32) (by decide) h0 h2
        refine br_f h1 (br_t h2 ?_)
        by_cases h3 : v2 < 0
        · exact br_t h3 (by_iv hv (br_t rfl (br_f h1 (br_t h2 (br_t h3 ⟨rfl, RR⟩)))))
        · obtain ⟨o, ho, rfl⟩ := nI_of h3
          have hL := (hX v hv).1
          have c1 : l (nI v).toNatClampNeg = nI (L v) := by rw [nI_clamp (by omega), (hX v hv).2.1]
          have c2 : l2 (nI v).toNatClampNeg = nI (L v) := by rw [nI_clamp (by omega), (hY v hv).2.1]
          have c3 : nI o ≤ nI (L v) - nI n ↔ o + n ≤ L v := by
            rw [Int32.le_iff_toInt_le, pk_sub_toInt (by omega) (by omega), nI_toInt ho]
            omega
          rw [c1, c2]
          by_cases h4 : o + n ≤ L v
          · refine br_f h3 ⟨vp_in_nI hv (by omega), br_t (c3.mpr h4) (nm_r (bw_ix v o) (bx_put hX hv h4 v4 r (fun e' q => by_iv hv (br_t rfl (br_f h1 (br_t h2 (br_f h3 ⟨vp_in_nI hv (by omega), br_t (c3.mpr h4) (by_put hY hv h4 v4 w (fun e2' q2 => ⟨rfl, _, _, q, q2⟩))⟩)))))))⟩
          · exact br_f h3 ⟨vp_in_nI hv (by omega), br_f (fun z => h4 (c3.mp z)) (by_iv hv (br_t rfl (br_f h1 (br_t h2 (br_f h3 ⟨vp_in_nI hv (by omega), br_f (fun z => h4 (c3.mp z)) ⟨rfl, RR⟩⟩)))))⟩
      · exact br_f h1 (br_f h2 (by_iv hv (br_t rfl (br_f h1 (br_f h2 ⟨rfl, RR⟩)))))
  · exact bx _ (br_t rfl (b2 _ _ _ _ (br_f (by decide) ⟨rfl, RR⟩)))
theorem i_vc_change {k : Nat} {u : SX} {v : SY} (I : i_Rel k u v) (hk : k + 5 ≤ 2560) (v1 : Int32) (v2 : Int32) (v3 : Int32) (v4 : Int32) : wpX_change (fun r u' => wpY_change (fun r' v' => r' = r ∧ i_Rel (k + 5) u' v') v v1 v2 v3 v4) u v1 v2 v3 v4 := by
  obtain ⟨e, l, r⟩ := u
  obtain ⟨e2, l2, w⟩ := v
  obtain ⟨B, L, hX, hY⟩ := I
  dsimp only at hX hY
  have RR : i_Rel (k + 5) (e, l, r) (e2, l2, w) := ⟨B, L, hX, hY⟩
  rcases bw_vec v1 with ⟨t, ht, rfl⟩ | ⟨bx, b2⟩
  · rcases bw_vec v3 with ⟨a, ha, rfl⟩ | ⟨bx, b2⟩
    · have hL := (hX a ha).1
      rcases pk_ix v2 (n := 9) (by decide) with h | h | ⟨c, hc, rfl⟩
      · unfold wpX_change wpY_change
        dsimp only
        exact bx_iv ht (br_f (by decide) (bx_iv ha (br_f (by decide) (br_t h (bx_rep3 (by decide) (by_iv ht (br_t rfl (by_iv ha (br_t rfl (br_t h ⟨rfl, RR⟩))))))))))
      · have hh := Int32.le_iff_toInt_le.mp h
        rw [show (nI 9).toInt = 9 from by decide] at hh
        have h0 : ¬ v2 < 0 := by
          rw [Int32.lt_iff_toInt_lt, show (0 : Int32).toInt = 0 from by decide]
          omega
        have h8 : (8 : Int32) < v2 := by
          rw [Int32.lt_iff_toInt_lt, show (8 : Int32).toInt = 8 from by decide]
          omega
        unfold wpX_change wpY_change
        dsimp only
        exact bx_iv ht (br_f (by decide) (bx_iv ha (br_f (by decide) (br_f h0 (br_t h8 (bx_rep3 (by decide) (by_iv ht (br_t rfl (by_iv ha (br_t rfl (br_f h0 (br_f (Int32.not_le.mpr h8) ⟨rfl, RR⟩))))))))))))
      · have O : bw_O B L (fun post u => wpX_buildChange post u (nI c) (nI a) v4) (fun post u t => wpY_change post u (nI t) (nI c) (nI a) v4) := by
          rcases (by omega : c = 0 ∨ c = 1 ∨ c = 2 ∨ c = 3 ∨ c = 4 ∨ c = 5 ∨ c = 6 ∨ c = 7 ∨ c = 8) with rfl | rfl | rfl | rfl | rfl | rfl | rfl | rfl | rfl
          · exact bw_o0 ha hL v4
          · exact bw_o1 ha hL v4
          · exact bw_o2 ha hL v4
          · exact bw_o3 ha hL v4
          · exact bw_o4 ha v4
          · exact bw_o5 ha hL v4
          · exact bw_o6 ha hL v4
          · exact bw_o7 ha hL v4
          · exact bw_o8 ha hL v4
        unfold wpX_change
        dsimp only
        rcases O with ⟨n, F, hn, xs, ys⟩ | ⟨xn, yn⟩
        · exact bx_iv ht (br_f (by decide) (bx_iv ha (br_f (by decide) (xs e l r _ hX (fun r' hr => bx_rep hX ht hn F hr (fun e' l' q => ys t e2 l2 w _ ht hY (fun e2' l2' w' q2 => ⟨rfl, _, _, q, q2⟩)))))))
        · exact bx_iv ht (br_f (by decide) (bx_iv ha (br_f (by decide) (xn e l r _ hX (bx_rep3 (by decide) (yn t e2 l2 w _ ht hY ⟨rfl, RR⟩))))))
    · unfold wpX_change wpY_change
      dsimp only
      exact bx_iv ht (br_f (by decide) (bx _ (br_t rfl (by_iv ht (br_t rfl (b2 _ _ _ _ (br_f (by decide) ⟨rfl, RR⟩)))))))
  · unfold wpX_change wpY_change
    dsimp only
    exact bx _ (br_t rfl (b2 _ _ _ _ (br_f (by decide) ⟨rfl, RR⟩)))
theorem i_vc_combine {k : Nat} {u : SX} {v : SY} (I : i_Rel k u v) (hk : k + 5 ≤ 2560) (v1 : Int32) (v2 : Int32) (v3 : Int32) (v4 : Int32) : wpX_combine (fun r u' => wpY_combine (fun r' v' => r' = r ∧ i_Rel (k + 5) u' v') v v1 v2 v3 v4) u v1 v2 v3 v4 := by
  obtain ⟨e, l, r⟩ := u
  obtain ⟨e2, l2, w⟩ := v
  obtain ⟨B, L, hX, hY⟩ := I
  dsimp only at hX hY
  have RR : i_Rel (k + 5) (e, l, r) (e2, l2, w) := ⟨B, L, hX, hY⟩
  rcases bw_vec v1 with ⟨t, ht, rfl⟩ | ⟨bx, b2⟩
  · rcases bw_vec v3 with ⟨a, ha, rfl⟩ | ⟨bx, b2⟩
    · rcases bw_vec v4 with ⟨b, hb, rfl⟩ | ⟨bx, b2⟩
      · have hL := (hX a ha).1
        rcases pk_ix v2 (n := 8) (by decide) with h | h | ⟨c, hc, rfl⟩
        · unfold wpX_combine wpY_combine
          dsimp only
          exact bx_iv ht (br_f (by decide) (bx_iv ha (br_f (by decide) (bx_iv hb (br_f (by decide) (br_t h (bx_rep3 (by decide) (by_iv ht (br_t rfl (by_iv ha (br_t rfl (by_iv hb (br_t rfl (br_t h ⟨rfl, RR⟩))))))))))))))
        · have hh := Int32.le_iff_toInt_le.mp h
          rw [show (nI 8).toInt = 8 from by decide] at hh
          have h0 : ¬ v2 < 0 := by
            rw [Int32.lt_iff_toInt_lt, show (0 : Int32).toInt = 0 from by decide]
            omega
          have h8 : (7 : Int32) < v2 := by
            rw [Int32.lt_iff_toInt_lt, show (7 : Int32).toInt = 7 from by decide]
            omega
          unfold wpX_combine wpY_combine
          dsimp only
          exact bx_iv ht (br_f (by decide) (bx_iv ha (br_f (by decide) (bx_iv hb (br_f (by decide) (br_f h0 (br_t h8 (bx_rep3 (by decide) (by_iv ht (br_t rfl (by_iv ha (br_t rfl (by_iv hb (br_t rfl (br_f h0 (br_f (Int32.not_le.mpr h8) ⟨rfl, RR⟩))))))))))))))))
        · have O : bw_O B L (fun post u => wpX_buildCombination post u (nI c) (nI a) (nI b)) (fun post u t => wpY_combine post u (nI t) (nI c) (nI a) (nI b)) := by
            rcases (by omega : c = 0 ∨ c = 1 ∨ c = 2 ∨ c = 3 ∨ c = 4 ∨ c = 5 ∨ c = 6 ∨ c = 7) with rfl | rfl | rfl | rfl | rfl | rfl | rfl | rfl
            · exact bw_k0 ha hb hL
            · exact bw_k1 ha hb hL
            · exact bw_k2 ha hb hL
            · exact bw_k3 ha hb hL
            · exact bw_k4 ha hb hL
            · exact bw_k5 ha hb hL
            · exact bw_k6 ha hb hL
            · exact bw_k7 ha hb hL
          unfold wpX_combine
          dsimp only
          rcases O with ⟨n, F, hn, xs, ys⟩ | ⟨xn, yn⟩
          · exact bx_iv ht (br_f (by decide) (bx_iv ha (br_f (by decide) (bx_iv hb (br_f (by decide) (xs e l r _ hX (fun r' hr => bx_rep hX ht hn F hr (fun e' l' q => ys t e2 l2 w _ ht hY (fun e2' l2' w' q2 => ⟨rfl, _, _, q, q2⟩)))))))))
          · exact bx_iv ht (br_f (by decide) (bx_iv ha (br_f (by decide) (bx_iv hb (br_f (by decide) (xn e l r _ hX (bx_rep3 (by decide) (yn t e2 l2 w _ ht hY ⟨rfl, RR⟩))))))))
      · unfold wpX_combine wpY_combine
        dsimp only
        exact bx_iv ht (br_f (by decide) (bx_iv ha (br_f (by decide) (bx _ (br_t rfl (by_iv ht (br_t rfl (by_iv ha (br_t rfl (b2 _ _ _ _ (br_f (by decide) ⟨rfl, RR⟩)))))))))))
    · unfold wpX_combine wpY_combine
      dsimp only
      exact bx_iv ht (br_f (by decide) (bx _ (br_t rfl (by_iv ht (br_t rfl (b2 _ _ _ _ (br_f (by decide) ⟨rfl, RR⟩)))))))
  · unfold wpX_combine wpY_combine
    dsimp only
    exact bx _ (br_t rfl (b2 _ _ _ _ (br_f (by decide) ⟨rfl, RR⟩)))
theorem i_vc_length {k : Nat} {u : SX} {v : SY} (I : i_Rel k u v) (hk : k + 5 ≤ 2560) (v1 : Int32) : wpX_length (fun r => wpY_length (fun r' => r' = r ∧ i_Rel (k + 5) u v) v v1) u v1 := by
  obtain ⟨e, l, r⟩ := u
  obtain ⟨e2, l2, w⟩ := v
  obtain ⟨B, L, hX, hY⟩ := I
  dsimp only at hX hY
  have RR : i_Rel (k + 5) (e, l, r) (e2, l2, w) := ⟨B, L, hX, hY⟩
  unfold wpX_length wpY_length
  dsimp only
  rcases bw_vec v1 with ⟨v, hv, rfl⟩ | ⟨bx, b2⟩
  · refine bx_iv hv (br_f (by decide) ⟨vp_in_nI hv (by omega), by_iv hv (br_t rfl ⟨vp_in_nI hv (by omega), ?_, RR⟩)⟩)
    rw [nI_clamp (by omega), (hX v hv).2.1, (hY v hv).2.1]
  · exact bx _ (br_t rfl (b2 _ _ _ _ (br_f (by decide) ⟨rfl, RR⟩)))
theorem i_vc_get {k : Nat} {u : SX} {v : SY} (I : i_Rel k u v) (hk : k + 5 ≤ 2560) (v1 : Int32) (v2 : Int32) : wpX_get (fun r => wpY_get (fun r' => r' = r ∧ i_Rel (k + 5) u v) v v1 v2) u v1 v2 := by
  obtain ⟨e, l, r⟩ := u
  obtain ⟨e2, l2, w⟩ := v
  obtain ⟨B, L, hX, hY⟩ := I
  dsimp only at hX hY
  have RR : i_Rel (k + 5) (e, l, r) (e2, l2, w) := ⟨B, L, hX, hY⟩
  unfold wpX_get wpY_get
  dsimp only
  rcases bw_vec v1 with ⟨v, hv, rfl⟩ | ⟨bx, b2⟩
  · refine bx_iv hv (br_f (by decide) (bx_el hX hv r v2.toInt (Int32.toInt_toInt64 _) (bw_c (fun q => ?_) (fun q => ?_))))
    · refine by_iv hv (br_t rfl (by_el hY hv w v2.toInt (Int32.toInt_toInt64 _) (bw_c (fun z => ⟨rfl, RR⟩) (fun z => ?_))))
      rw [q] at z
      exact absurd z (by decide)
    · refine by_iv hv (br_t rfl (by_el hY hv w v2.toInt (Int32.toInt_toInt64 _) (bw_c (fun z => ?_) (fun z => ⟨rfl, RR⟩))))
      rw [q] at z
      exact absurd z (by decide)
  · exact bx _ (br_t rfl (b2 _ _ _ _ (br_f (by decide) ⟨rfl, RR⟩)))
theorem i_vc_count {k : Nat} {u : SX} {v : SY} (I : i_Rel k u v) (hk : k + 5 ≤ 2560) (v1 : Int32) (v2 : Int32) (v3 : Int32) : wpX_count (fun r => wpY_count (fun r' => r' = r ∧ i_Rel (k + 5) u v) v v1 v2 v3) u v1 v2 v3 := by
  obtain ⟨e, l, r⟩ := u
  obtain ⟨e2, l2, w⟩ := v
  obtain ⟨B, L, hX, hY⟩ := I
  dsimp only at hX hY
  have RR : i_Rel (k + 5) (e, l, r) (e2, l2, w) := ⟨B, L, hX, hY⟩
  rcases bw_vec v1 with ⟨v, hv, rfl⟩ | ⟨bx, b2⟩
  · exact bx_ct hX hv r (by_cnt hY hv w ⟨rfl, RR⟩)
  · unfold wpX_count wpY_count
    dsimp only
    exact bx _ (br_t rfl (b2 _ _ _ _ (br_f (by decide) ⟨rfl, RR⟩)))
theorem i_vc_place {k : Nat} {u : SX} {v : SY} (I : i_Rel k u v) (hk : k + 5 ≤ 2560) (v1 : Int32) (v2 : Int32) : wpX_place (fun r => wpY_place (fun r' => r' = r ∧ i_Rel (k + 5) u v) v v1 v2) u v1 v2 := by
  obtain ⟨e, l, r⟩ := u
  obtain ⟨e2, l2, w⟩ := v
  obtain ⟨B, L, hX, hY⟩ := I
  dsimp only at hX hY
  have RR : i_Rel (k + 5) (e, l, r) (e2, l2, w) := ⟨B, L, hX, hY⟩
  rcases bw_vec v1 with ⟨v, hv, rfl⟩ | ⟨bx, b2⟩
  · unfold wpX_place
    dsimp only
    exact bx_iv hv (br_f (by decide) (bx_pl hX hv r (by_pl hY hv w ⟨rfl, RR⟩)))
  · unfold wpX_place wpY_place
    dsimp only
    exact bx _ (br_t rfl (b2 _ _ _ _ (br_f (by decide) ⟨rfl, RR⟩)))
theorem i_vc_findRun {k : Nat} {u : SX} {v : SY} (I : i_Rel k u v) (hk : k + 5 ≤ 2560) (v1 : Int32) (v2 : Int32) (v3 : Int32) : wpX_findRun (fun r => wpY_findRun (fun r' => r' = r ∧ i_Rel (k + 5) u v) v v1 v2 v3) u v1 v2 v3 := by
  obtain ⟨e, l, r⟩ := u
  obtain ⟨e2, l2, w⟩ := v
  obtain ⟨B, L, hX, hY⟩ := I
  dsimp only at hX hY
  have RR : i_Rel (k + 5) (e, l, r) (e2, l2, w) := ⟨B, L, hX, hY⟩
  unfold wpX_findRun wpY_findRun
  dsimp only
  rcases bw_vec v1 with ⟨v, hv, rfl⟩ | ⟨bx, b2⟩
  · refine bx_iv hv (br_f (by decide) ?_)
    by_cases h1 : v3 < 1
    · exact br_t h1 (by_iv hv (br_t rfl (br_t h1 ⟨rfl, RR⟩)))
    · by_cases h2 : v3 ≤ 256
      · have h0 : ¬ v3 < 0 := fun q => h1 (Int32.lt_trans q (by decide))
        obtain ⟨n, hn, rfl⟩ := nI_of2 (M := 256) (n := 256) (by decide) h0 h2
        have hn0 : 0 < n := by
          by_cases q : n = 0
          · subst q; exact absurd (by decide) h1
          · omega
        refine br_f h1 (br_t h2 ?_)
        by_cases h3 : 0 ≤ v2
        · obtain ⟨a, ha, rfl⟩ := nI_of (x := v2) (Int32.not_lt.mpr h3)
          exact br_t h3 (bx_fr hX hv r ha hn0 hn (fun x hx => by_iv hv (br_t rfl (br_f h1 (br_t h2 (by_fr hY hv w ha hn0 hn (fun y hy => ⟨bw_FR_u hx hy, RR⟩)))))))
        · exact br_f h3 (by_iv hv (br_t rfl (br_f h1 (br_t h2 (by_frn w (Int32.not_le.mp h3) hn0 hn ⟨rfl, RR⟩)))))
      · exact br_f h1 (br_f h2 (by_iv hv (br_t rfl (br_f h1 (br_f h2 ⟨rfl, RR⟩)))))
  · exact bx _ (br_t rfl (b2 _ _ _ _ (br_f (by decide) ⟨rfl, RR⟩)))
theorem i_vc_compare {k : Nat} {u : SX} {v : SY} (I : i_Rel k u v) (hk : k + 5 ≤ 2560) (v1 : Int32) (v2 : Int32) : wpX_compare (fun r => wpY_compare (fun r' => r' = r ∧ i_Rel (k + 5) u v) v v1 v2) u v1 v2 := by
  obtain ⟨e, l, r⟩ := u
  obtain ⟨e2, l2, w⟩ := v
  obtain ⟨B, L, hX, hY⟩ := I
  dsimp only at hX hY
  have RR : i_Rel (k + 5) (e, l, r) (e2, l2, w) := ⟨B, L, hX, hY⟩
  unfold wpX_compare wpY_compare
  dsimp only
  rcases bw_vec v1 with ⟨a, ha, rfl⟩ | ⟨bx, b2⟩
  · rcases bw_vec v2 with ⟨b, hb, rfl⟩ | ⟨bx, b2⟩
    · exact bx_iv ha (br_f (by decide) (bx_iv hb (br_f (by decide) ⟨256 + 1, bx_cp hX ha hb r 256 (Nat.le_refl _) (by_iv ha (br_t rfl (by_iv hb (br_t rfl ⟨256 + 1, by_cp hY ha hb w 256 (Nat.le_refl _) ⟨rfl, RR⟩⟩))))⟩)))
    · exact bx_iv ha (br_f (by decide) (bx _ (br_t rfl (by_iv ha (br_t rfl (b2 _ _ _ _ (br_f (by decide) ⟨rfl, RR⟩)))))))
  · exact bx _ (br_t rfl (b2 _ _ _ _ (br_f (by decide) ⟨rfl, RR⟩)))
