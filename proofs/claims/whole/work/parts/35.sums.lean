/-! Sums over the goers; the steps of all; a second lamp -/
theorem mSums {g : Sg} {n : Nat} {x1 : Int32} {f : Nat → Int32} (hn : n ≤ 7) (hs : g.1 0 = nI n) (hf : ∀ (kb : Int32 → Int32 → Int32 → Sg → Option (Int32 × Sg)) (acc : Int32) (j : Nat), j < n → B_X7_sums_94 kb x1 acc (nI j) g = kb x1 (acc + f j) (nI (j + 1)) g) : ∀ (d j fu : Nat), j + d = n → d < fu → lup3 B_X7_sums_94 fu x1 (sumL f (List.range j)) (nI j) g = some (sumL f (List.range n), g) := by
  intro d
  induction d with
  | zero =>
    intro j fu hj hfu
    obtain ⟨fu, rfl⟩ : ∃ t, fu = t + 1 := ⟨fu - 1, by omega⟩
    obtain rfl : j = n := by omega
    rw [lup3_s]
    unfold B_X7_sums_94
    rw [hs, if_pos (nI_le (by omega) (by omega))]
  | succ d ih =>
    intro j fu hj hfu
    obtain ⟨fu, rfl⟩ : ∃ t, fu = t + 1 := ⟨fu - 1, by omega⟩
    rw [lup3_s, hf _ _ j (by omega), ← sumL_app, ← List.range_succ]
    exact ih (j + 1) fu (by omega) (by omega)
theorem mSums1 {g : Sg} {n : Nat} (hn : n ≤ 7) (hs : g.1 0 = nI n) : lup3 B_X7_sums_94 FU 1 0 0 g = some (sumL (fun i => g.2 16 i) (List.range n), g) := by
  refine mSums (f := fun i => g.2 16 i) hn hs (fun kb acc j hj => ?_) n 0 FU (by omega) (by unfold FU; omega)
  unfold B_X7_sums_94
  rw [hs, if_neg (nI_ge hj (by omega)), if_pos rfl, chk_ok (vpN (by omega) (by decide)), lt_eq, rdN _ _ (by omega), nI_1]
theorem mSums2 {g : Sg} {n : Nat} (hn : n ≤ 7) (hs : g.1 0 = nI n) : lup3 B_X7_sums_94 FU 2 0 0 g = some (sumL (fun i => g.2 17 i) (List.range n), g) := by
  refine mSums (f := fun i => g.2 17 i) hn hs (fun kb acc j hj => ?_) n 0 FU (by omega) (by unfold FU; omega)
  unfold B_X7_sums_94
  rw [hs, if_neg (nI_ge hj (by omega)), if_neg (by decide), if_pos rfl, chk_ok (vpN (by omega) (by decide)), lt_eq, rdN _ _ (by omega), nI_1]
theorem mSums5 {g : Sg} {n : Nat} (hn : n ≤ 7) (hs : g.1 0 = nI n) : lup3 B_X7_sums_94 FU 5 0 0 g = some (sumL (fun i => if g.2 19 i = -9 then (0 : Int32) else 1) (List.range n), g) := by
  refine mSums (f := fun i => if g.2 19 i = -9 then (0 : Int32) else 1) hn hs (fun kb acc j hj => ?_) n 0 FU (by omega) (by unfold FU; omega)
  unfold B_X7_sums_94
  rw [hs, if_neg (nI_ge hj (by omega)), if_neg (by decide), if_neg (by decide), chk_ok (vpN (by omega) (by decide)), rdN _ _ (by omega), nI_1]
  by_cases e : g.2 19 j = -9
  · rw [if_pos e]; show _ = kb 5 (acc + if g.2 19 j = -9 then 0 else 1) _ g; rw [if_pos e]
  · rw [if_neg e]; show _ = kb 5 (acc + if g.2 19 j = -9 then 0 else 1) _ g; rw [if_neg e]
theorem seq7 {V : Vw} {n : Nat} {sk : Nat → Bool} (h : VOK V n) : ∀ i, i ∈ seqH V sk n 12 → i < 7 := fun i hi => by
  have := (memH hi).1
  have := h.1
  omega
theorem within06 (x : Int32) (g : Sg) (h : V_X7_within x 0 6 g = 0) : x ≠ 0 ∧ x ≠ 1 ∧ x ≠ 2 ∧ x ≠ 3 ∧ x ≠ 4 ∧ x ≠ 5 ∧ x ≠ 6 := by
  refine ⟨?_, ?_, ?_, ?_, ?_, ?_, ?_⟩ <;> (intro e; subst e; exact absurd h (by rw [within_e]; decide))
theorem within06' (x : Int32) (g : Sg) (h : ¬ V_X7_within x 0 6 g = 0) : x = 0 ∨ x = 1 ∨ x = 2 ∨ x = 3 ∨ x = 4 ∨ x = 5 ∨ x = 6 := by
  rw [within_e] at h
  by_cases c1 : x < 0
  · rw [if_pos c1] at h; exact absurd rfl h
  · rw [if_neg c1] at h
    by_cases c2 : 6 < x
    · rw [if_pos c2] at h; exact absurd rfl h
    · rw [i_lt, T_0] at c1
      rw [i_lt] at c2
      have h3 : (6 : Int32).toInt = 6 := rfl
      rw [h3] at c2
      rcases (show x.toInt = 0 ∨ x.toInt = 1 ∨ x.toInt = 2 ∨ x.toInt = 3 ∨ x.toInt = 4 ∨ x.toInt = 5 ∨ x.toInt = 6 by omega) with h | h | h | h | h | h | h
      · exact Or.inl (i_eq h)
      · exact Or.inr (Or.inl (i_eq h))
      · exact Or.inr (Or.inr (Or.inl (i_eq h)))
      · exact Or.inr (Or.inr (Or.inr (Or.inl (i_eq h))))
      · exact Or.inr (Or.inr (Or.inr (Or.inr (Or.inl (i_eq h)))))
      · exact Or.inr (Or.inr (Or.inr (Or.inr (Or.inr (Or.inl (i_eq h))))))
      · exact Or.inr (Or.inr (Or.inr (Or.inr (Or.inr (Or.inr (i_eq h))))))
theorem op_sums (gc gm : Sg) (x : Int32) (r : Rel gc gm) : Ans Rel (M_X6_sums x gc) (M_X7_sums x gm) := by
  have r0 := r
  obtain ⟨⟨n, rA⟩, -⟩ := r
  unfold M_X6_sums M_X7_sums
  have hV := rA.1
  have hn := rA.1.1
  have hmem : ∀ i, i ∈ List.range n → i ∈ seqH (mv gm) no n 12 := fun i hi => mem_seqH (List.mem_range.mp hi) (hV.h (List.mem_range.mp hi))
  obtain ⟨v, gc1, gm1, e1, B, F, e2, R, G⟩ := both rA
  obtain ⟨b0, b1, b2, b3, b4⟩ := B.2.1.2.2.1
  have nd := nodupH (mv gm) no n 12 (by decide)
  obtain ⟨s1, s2, s3, s4⟩ := runW_sums (mv gm) 1 (-1) _ nd
  have hs : gm1.1 0 = nI n := (G.2 0 (by omega)).trans rA.2.2.1
  rw [e1, bI_some]
  by_cases c : V_X7_within x 0 6 gm = 0
  · obtain ⟨d0, d1, d2, d3, d4, d5, d6⟩ := within06 x gm c
    rw [if_pos c, if_neg d0, if_neg d1, if_neg d2, if_neg d3, if_neg d4, if_neg d5, if_neg d6]
    exact ref_ansQ r0 F.q (QM.rf gm) (-2) 2 (vpl (by decide)) (by decide)
  · rw [if_neg c, e2, bV_some]
    rcases within06' x gm c with rfl | rfl | rfl | rfl | rfl | rfl | rfl
    · rw [if_pos rfl, if_pos rfl, mCost (G.mv) nd (seq7 hV) R.1, bI_some, b0]
      exact Ans.q r0 F.q G.q
    · rw [if_neg (by decide), if_pos rfl, if_neg (by decide), if_neg (by decide), if_neg (by decide), if_neg (by decide), mSums1 hn hs, b1, s2, sum_hours _ _ n (fun i hi => hV.h hi), sumL_congr _ (fun i hi => ((R.1.1.2.2.2 i (hmem i hi)).1).symm)]
      exact Ans.q r0 F.q G.q
    · rw [if_neg (by decide), if_neg (by decide), if_pos rfl, if_neg (by decide), if_neg (by decide), if_neg (by decide), if_neg (by decide), mSums2 hn hs, b2, s3, sum_hours _ _ n (fun i hi => hV.h hi), sumL_congr _ (fun i hi => ((R.1.1.2.2.2 i (hmem i hi)).2.1).symm)]
      exact Ans.q r0 F.q G.q
    · rw [if_neg (by decide), if_neg (by decide), if_neg (by decide), if_pos rfl, if_neg (by decide), if_pos rfl, cFL]
      have w1 : gc1.2 35 0 = _ := B.2.1.2.1.1
      have w2 : gm1.2 14 0 = _ := R.1.1.2.1.1
      have w3 : rd gm1 14 0 = gm1.2 14 0 := rdN gm1 14 (i := 0) (by decide)
      rw [w3, w1, w2]
      exact Ans.q r0 F.q G.q
    · rw [if_neg (by decide), if_neg (by decide), if_neg (by decide), if_neg (by decide), if_pos rfl, if_neg (by decide), if_neg (by decide), if_pos rfl]
      have w0 : V_X5_oilLeft gc1 = gc1.2 36 0 := rat_l gc1 36 2 0 0 (by decide) (vpl (by decide)) (by decide)
      have w1 : gc1.2 36 0 = _ := B.2.1.2.1.2.1
      have w2 : gm1.2 15 0 = _ := R.1.1.2.1.2.1
      have w3 : rd gm1 15 0 = gm1.2 15 0 := rdN gm1 15 (i := 0) (by decide)
      rw [w0, w3, w1, w2]
      exact Ans.q r0 F.q G.q
    · rw [if_neg (by decide), if_neg (by decide), if_neg (by decide), if_neg (by decide), if_neg (by decide), if_pos rfl, if_neg (by decide), if_neg (by decide), if_neg (by decide), if_neg (by decide), mSums5 hn hs, b3, s4, sum_hours _ _ n (fun i hi => hV.h hi), sumL_congr _ (fun i hi => ((R.1.1.2.2.2 i (hmem i hi)).2.2.2).symm)]
      exact Ans.q r0 F.q G.q
    · rw [if_neg (by decide), if_neg (by decide), if_neg (by decide), if_neg (by decide), if_neg (by decide), if_neg (by decide), if_pos rfl, if_neg (by decide), if_neg (by decide), if_neg (by decide), if_pos rfl, b4, R.1.1.2.2.1]
      exact Ans.q r0 F.q G.q
theorem cSteps {g : Sg} {a n : Nat} (hn : n ≤ 7) (hs : g.1 a = nI n) : ∀ (d j fu : Nat), j + d = n → d < fu → lup2 (B_X0_allSteps_4 a) fu (sumL (fun i => iabs (cv g a 3 i - cv g a 4 i)) (List.range j)) (nI j) g = some (sumL (fun i => iabs (cv g a 3 i - cv g a 4 i)) (List.range n), g) := by
  intro d
  induction d with
  | zero =>
    intro j fu hj hfu
    obtain ⟨fu, rfl⟩ : ∃ t, fu = t + 1 := ⟨fu - 1, by omega⟩
    obtain rfl : j = n := by omega
    rw [lup2_s]
    unfold B_X0_allSteps_4
    rw [hs, if_pos (nI_le (by omega) (by omega))]
  | succ d ih =>
    intro j fu hj hfu
    obtain ⟨fu, rfl⟩ : ∃ t, fu = t + 1 := ⟨fu - 1, by omega⟩
    have e := ih (j + 1) fu (by omega) (by omega)
    rw [List.range_succ, sumL_app] at e
    rw [lup2_s]
    generalize lup2 (B_X0_allSteps_4 a) fu = self at e ⊢
    unfold B_X0_allSteps_4
    rw [hs, if_neg (nI_ge (show j < n by omega) (by omega)), lt_eq, cSt _ _ (by omega), nI_1]
    exact e
theorem mSteps {g : Sg} {n : Nat} (hn : n ≤ 7) (hs : g.1 0 = nI n) : ∀ (d j fu : Nat), j + d = n → d < fu → lup2 B_X7_count_72 fu (sumL (fun i => iabs (mv g 3 i - mv g 4 i)) (List.range j)) (nI j) g = some (sumL (fun i => iabs (mv g 3 i - mv g 4 i)) (List.range n), g) := by
  intro d
  induction d with
  | zero =>
    intro j fu hj hfu
    obtain ⟨fu, rfl⟩ : ∃ t, fu = t + 1 := ⟨fu - 1, by omega⟩
    obtain rfl : j = n := by omega
    rw [lup2_s]
    unfold B_X7_count_72
    rw [hs, if_pos (nI_le (by omega) (by omega))]
  | succ d ih =>
    intro j fu hj hfu
    obtain ⟨fu, rfl⟩ : ∃ t, fu = t + 1 := ⟨fu - 1, by omega⟩
    have e := ih (j + 1) fu (by omega) (by omega)
    rw [List.range_succ, sumL_app] at e
    rw [lup2_s]
    generalize lup2 B_X7_count_72 fu = self at e ⊢
    unfold B_X7_count_72
    rw [hs, if_neg (nI_ge (show j < n by omega) (by omega)), chk_ok (vpN (by omega) (by decide)), chk_ok (vpN (by omega) (by decide)), lt_eq, rdN _ _ (by omega), rdN _ _ (by omega), nI_1]
    exact e
theorem op_count (gc gm : Sg) (x : Int32) (r : Rel gc gm) : Ans Rel (M_X6_count x gc) (M_X7_count x gm) := by
  have r0 := r
  obtain ⟨⟨n, rA⟩, rL, rR, rF, rI⟩ := r
  obtain ⟨r1, r2, r3, r4, r5, -⟩ := rA
  have hn := r1.1
  have q : cv gc 3 0 = gm.2 6 := congrFun r5 0
  have rd6 : ∀ k, k < 3 → rd gm 6 (nI k) = gm.2 6 k := fun k hk => rdN gm 6 (by omega)
  unfold M_X6_count M_X7_count
  rw [cPump, cOil, cDark, q]
  by_cases c0 : x = 0
  · rw [if_pos c0, if_pos c0, r2, r3]; exact Ans.q r0 (QC.rf gc) (QM.rf gm)
  rw [if_neg c0, if_neg c0]
  by_cases c1 : x = 1
  · rw [if_pos c1, if_pos c1]; exact Ans.q2 r0 (QC.rf gc) (QM.rf gm) (rd6 0 (by decide)).symm
  rw [if_neg c1, if_neg c1]
  by_cases c2 : x = 2
  · rw [if_pos c2, if_pos c2]; exact Ans.q2 r0 (QC.rf gc) (QM.rf gm) (rd6 1 (by decide)).symm
  rw [if_neg c2, if_neg c2]
  by_cases c3 : x = 3
  · rw [if_pos c3, if_pos c3]; exact Ans.q2 r0 (QC.rf gc) (QM.rf gm) (rd6 2 (by decide)).symm
  rw [if_neg c3, if_neg c3]
  by_cases c4 : x = 4
  · rw [if_pos c4, if_pos c4]
    have e1 : M_X0_allSteps 3 gc = _ := cSteps (a := 3) hn r2 n 0 FU (by omega) (by unfold FU; omega)
    have e2 : lup2 B_X7_count_72 FU 0 0 gm = _ := mSteps hn r3 n 0 FU (by omega) (by unfold FU; omega)
    rw [e1, e2, bI_some, r5]
    exact Ans.q r0 (QC.rf gc) (QM.rf gm)
  rw [if_neg c4, if_neg c4]
  by_cases c5 : x = 5
  · rw [if_pos c5, if_pos c5]
    obtain ⟨k, -, k2, k3, -⟩ := rR
    rw [k2, k3]; exact Ans.q r0 (QC.rf gc) (QM.rf gm)
  rw [if_neg c5, if_neg c5]
  by_cases c6 : x = 6
  · rw [if_pos c6, if_pos c6]
    obtain ⟨k, -, k2, k3, -⟩ := rL
    rw [k2, k3]; exact Ans.q r0 (QC.rf gc) (QM.rf gm)
  rw [if_neg c6, if_neg c6, within_e]
  have t10 : (10 : Int32).toInt = 10 := rfl
  have t11 : (11 : Int32).toInt = 11 := rfl
  have t16 : (16 : Int32).toInt = 16 := rfl
  by_cases d1 : x ≤ 10
  · have d1' : x < 11 := by rw [i_le, t10] at d1; rw [i_lt, t11]; omega
    rw [if_pos d1, if_pos d1', if_pos rfl]
    exact Ans.q r0 (QC.rf gc) (QM.rf gm)
  · have d1' : ¬ x < 11 := by rw [i_le, t10] at d1; rw [i_lt, t11]; omega
    rw [if_neg d1, if_neg d1']
    by_cases d2 : 16 < x
    · rw [if_pos d2, if_pos d2, if_pos rfl]
      exact Ans.q r0 (QC.rf gc) (QM.rf gm)
    · rw [if_neg d2, if_neg d2, if_neg (by decide)]
      rw [i_le, t10] at d1
      rw [i_lt, t16] at d2
      have e : (x - 10).toInt = x.toInt - 10 := by rw [T_sub (by rw [t10]; omega) (by rw [t10]; omega), t10]
      obtain ⟨j, hj, ej⟩ := i_rg (x := x - 10) (k := 7) (by decide) (by rw [e]; omega) (by rw [e]; show _ < (7 : Int); omega)
      rw [ej, chk_ok (vpN hj (by decide)), rdN _ _ (by omega), rat7 _ _ hj, rF j hj]
      exact Ans.q r0 (QC.rf gc) (QM.rf gm)
