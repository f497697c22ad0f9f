def GoM (V : Vw) (m i : Nat) (g h : Sg) : Prop :=
  h.2 16 = upd (g.2 16) i (wD V m (lmp (g.2 14) (g.2 15)) i) ∧ h.2 17 = upd (g.2 17) i (wL V m (lmp (g.2 14) (g.2 15)) i) ∧ h.2 18 = upd (g.2 18) i (g.2 14 0) ∧ h.2 19 = upd (g.2 19) i (if pTk V m (lmp (g.2 14) (g.2 15)) i = -1 then -9 else pTk V m (lmp (g.2 14) (g.2 15)) i) ∧ h.2 14 = wC V m (lmp (g.2 14) (g.2 15)) i ∧ h.2 15 = wO V m (lmp (g.2 14) (g.2 15)) i ∧ h.1 7 = (if pTk V m (lmp (g.2 14) (g.2 15)) i = -1 then g.1 7 else nI i) ∧ (∀ j, (j < 14 ∨ 19 < j) → h.2 j = g.2 j) ∧ (∀ j, j ≠ 7 → h.1 j = g.1 j)
theorem m62 {g : Sg} {i : Nat} (hi : i < 7) : B_X7_goes_62 (nI i) g = some (sF (sF g 19 (upd (g.2 19) i (-9))) 16 (upd (g.2 16) i (g.2 16 i + iabs (g.2 3 i - g.2 4 i)))) := by
  unfold B_X7_goes_62
  simp only [chk_ok (vpN hi (by decide)), lt_eq, rdN _ _ (show i < 1000 by omega), wrN _ _ (show i < 1000 by omega), mWD hi, bV_some, sF2, Nat.reduceEqDiff, if_false]
theorem mNr_or (m : Nat) (c o : Nat → Int32) (f : Int32) : mNr m c o f = -9 ∨ mNr m c o f = 0 ∨ (mNr m c o f = 1 ∧ m ≠ 1) := by
  unfold mNr
  (repeat' split) <;> simp_all
theorem mGo {g : Sg} {i m : Nat} (hi : i < 7) (hm : m = 1 ∨ m = 2) (h6 : g.1 6 = nI m) (hv : VG (mv g) i) (hb : BdW m (lmp (g.2 14) (g.2 15))) : ∃ h, M_X7_goes (nI i) g = some h ∧ GoM (mv g) m i g h := by
  obtain ⟨g3, hg3⟩ : ∃ g3, g3 = sF (sF (sF g 16 (upd (g.2 16) i 0)) 17 (upd (g.2 17) i 0)) 18 (upd (g.2 18) i (g.2 14 0)) := ⟨_, rfl⟩
  have e3 : wr (wr (wr g 16 (nI i) 0) 17 (nI i) 0) 18 (nI i) (rd (wr (wr g 16 (nI i) 0) 17 (nI i) 0) 14 0) = g3 := by
    rw [wrN _ _ (show i < 1000 by omega), wrN _ _ (show i < 1000 by omega), wrN _ _ (show i < 1000 by omega), hg3]
    rfl
  have q16 : g3.2 16 = upd (g.2 16) i 0 := by rw [hg3]; rfl
  have q17 : g3.2 17 = upd (g.2 17) i 0 := by rw [hg3]; rfl
  have q18 : g3.2 18 = upd (g.2 18) i (g.2 14 0) := by rw [hg3]; rfl
  have q : ∀ j, j ≠ 16 → j ≠ 17 → j ≠ 18 → g3.2 j = g.2 j := fun j h1 h2 h3 => by rw [hg3, sF2, if_neg h3, sF2, if_neg h2, sF2, if_neg h1]
  have p1 : g3.1 = g.1 := by rw [hg3]; rfl
  have qv : mv g3 = mv g := mv_fr (fun j hj => q j (by omega) (by omega) (by omega))
  have q14 := q 14 (by decide) (by decide) (by decide)
  have q15 := q 15 (by decide) (by decide) (by decide)
  have q19 := q 19 (by decide) (by decide) (by decide)
  have q3 := q 3 (by decide) (by decide) (by decide)
  have q4 := q 4 (by decide) (by decide) (by decide)
  have hor := mNr_or m (g.2 14) (g.2 15) (mv g 3 i)
  have hpor := pTk_or (mv g) m (lmp (g.2 14) (g.2 15)) i
  rw [goes_e, chk_ok (vpN hi (by decide)), chk_ok (vpN hi (by decide)), chk_ok (vpN hi (by decide)), e3, mNear hi hm (by rw [p1]; exact h6), bI_some, q14, q15, q3]
  have ht := mTk_eq (m := m) (g.2 14) (g.2 15) hv
  unfold mTk at ht
  rw [mv3] at ht hor
  unfold GoM wD wL wC wO
  generalize mNr m (g.2 14) (g.2 15) (g.2 3 i) = r at hor ht ⊢
  generalize pTk (mv g) m (lmp (g.2 14) (g.2 15)) i = t at hpor ht ⊢
  -- none has it
  have dark : t = -1 → ∃ h, B_X7_goes_62 (nI i) g3 = some h ∧ h.2 16 = upd (g.2 16) i (iabs (mv g 3 i - mv g 4 i)) ∧ h.2 17 = upd (g.2 17) i 0 ∧ h.2 18 = upd (g.2 18) i (g.2 14 0) ∧ h.2 19 = upd (g.2 19) i (-9) ∧ h.2 14 = g.2 14 ∧ h.2 15 = g.2 15 ∧ h.1 7 = g.1 7 ∧ (∀ j, (j < 14 ∨ 19 < j) → h.2 j = g.2 j) ∧ (∀ j, j ≠ 7 → h.1 j = g.1 j) := by
    intro _
    rw [m62 hi]
    refine ⟨_, rfl, ?_, q17, q18, ?_, q14, q15, ?_, fun j hj => ?_, fun j hj => ?_⟩
    · show upd (g3.2 16) i (g3.2 16 i + iabs (g3.2 3 i - g3.2 4 i)) = _
      rw [q16, upd_at, upd_up, q3, q4, Int32.zero_add, mv3, mv4]
    · show upd (g3.2 19) i (-9) = _
      rw [q19]
    · show g3.1 7 = _
      rw [p1]
    · rw [sF2, if_neg (by omega), sF2, if_neg (by omega)]
      exact q j (by omega) (by omega) (by omega)
    · show g3.1 j = _
      rw [p1]
  by_cases hr : r = -9
  · rw [if_pos hr] at ht
    have ht := ht.symm
    rw [if_pos hr]
    simp only [if_pos ht]
    exact dark ht
  · rw [if_neg hr] at ht
    have hv2 : vp_in r 2 := by
      rcases hor with h | h | ⟨h, -⟩
      · exact absurd h hr
      · rw [h]; exact vpl (by decide)
      · rw [h]; exact vpl (by decide)
    rw [if_neg hr, chk_ok hv2, chk_ok (vpN hi (by decide)), mFet hi, bI_some, rdN _ _ (show i < 1000 by omega), qv, q3, show rd g3 14 r = g.2 14 (ix r) by rw [← q14]; rfl]
    by_cases hc : iabs (g.2 14 (ix r) - g.2 3 i) ≤ pFet (mv g) i
    · rw [if_pos hc] at ht
      subst ht
      have hr1 : ¬ r = -1 := by
        rcases hor with h | h | ⟨h, -⟩
        · exact absurd h hr
        · rw [h]; decide
        · rw [h]; decide
      have b14 : rg 39 (g.2 14 (ix r)) ∧ rg 200 (g.2 15 (ix r)) := by
        rcases hor with h | h | ⟨h, hm1⟩
        · exact absurd h hr
        · rw [h, iz0]; exact ⟨hb.1, hb.2.1⟩
        · rw [h, iz1]; exact hb.2.2 hm1
      rw [if_pos hc]
      simp only [if_neg hr1]
      have hk := pCar_b hv b14.1
      have ek : mCar (mv g) i (g.2 14 (ix r)) = pCar (mv g) i (g.2 14 (ix r)) := mCar_eq hv b14.1
      have fin : ∀ h : Sg, HasR i r g3 h → h.2 18 = upd (g.2 18) i (g.2 14 0) ∧ h.2 19 = upd (g.2 19) i r ∧ h.1 7 = nI i ∧ (∀ j, (j < 14 ∨ 19 < j) → h.2 j = g.2 j) ∧ (∀ j, j ≠ 7 → h.1 j = g.1 j) := by
        intro h hR
        obtain ⟨r1, r2, r3, r4⟩ := hR
        refine ⟨?_, ?_, r3, fun j hj => ?_, fun j hj => ?_⟩
        · rw [r2 18 (by decide) (by decide) (by decide) (by decide) (by decide), q18]
        · rw [r1, q19]
        · rw [r2 j (by omega) (by omega) (by omega) (by omega) (by omega)]; exact q j (by omega) (by omega) (by omega)
        · rw [r4 j hj, p1]
      have hP : ∀ (b : Int32) (h : Sg), rg 39 b → b = pBrg (mv g) i (pCar (mv g) i (g.2 14 (ix r))) → HasP (mv g) i r (pCar (mv g) i (g.2 14 (ix r))) b g3 h → h.2 16 = upd (g.2 16) i (pWo (mv g) i (g.2 14 (ix r)) + pWl (mv g) i (g.2 14 (ix r)) - imin (pWl (mv g) i (g.2 14 (ix r))) (g.2 15 (ix r))) ∧ h.2 17 = upd (g.2 17) i (imin (pWl (mv g) i (g.2 14 (ix r))) (g.2 15 (ix r))) ∧ h.2 14 = upd (g.2 14) (ix r) (pBrg (mv g) i (pCar (mv g) i (g.2 14 (ix r)))) ∧ h.2 15 = upd (g.2 15) (ix r) (g.2 15 (ix r) - imin (pWl (mv g) i (g.2 14 (ix r))) (g.2 15 (ix r))) := by
        intro b h hbb eb hH
        obtain ⟨s1, s2, s3, s4⟩ := hH
        rw [q16, q14, q15, upd_at, upd_up] at s1
        rw [q17, q14, q15, upd_at, upd_up] at s2
        rw [q14] at s3
        rw [q14, q15] at s4
        obtain ⟨a1, a2, a3⟩ := ar2 (c := g.2 14 (ix r)) (f := mv g 3 i) (t := mv g 4 i) (k := pCar (mv g) i (g.2 14 (ix r))) (b := b) (o := g.2 15 (ix r)) b14.1 hv.2.2.2.1 hv.2.2.2.2 hk hbb b14.2
        rw [a1] at s1
        rw [a2] at s2
        rw [a3] at s4
        subst eb
        exact ⟨s1, s2, s3, s4⟩
      by_cases k3 : g.2 1 i = 3
      · obtain ⟨h, e, H, hR⟩ := hasM_3 (g := g3) hi hv2 (by rw [q 1 (by decide) (by decide) (by decide)]; exact k3)
        rw [qv, q14, ek, q 6 (by decide) (by decide) (by decide)] at H
        obtain ⟨f1, f2, f3, f4, f5⟩ := fin h hR
        obtain ⟨s1, s2, s3, s4⟩ := hP (g.2 6 0) h hv.1 (by unfold pBrg; rw [mv1, if_pos k3, mv0]) H
        exact ⟨h, e, s1, s2, f1, f2, s3, s4, f3, f4, f5⟩
      · by_cases k4 : g.2 1 i = 4
        · obtain ⟨h, e, H, hR⟩ := hasM_4 (g := g3) hi hv2 (by rw [q 1 (by decide) (by decide) (by decide)]; exact k4)
          rw [qv, q14, ek, q3] at H
          obtain ⟨f1, f2, f3, f4, f5⟩ := fin h hR
          obtain ⟨s1, s2, s3, s4⟩ := hP (g.2 3 i) h hv.2.2.2.1 (by unfold pBrg; rw [mv1, if_neg k3, if_pos k4, mv3]) H
          exact ⟨h, e, s1, s2, f1, f2, s3, s4, f3, f4, f5⟩
        · obtain ⟨h, e, H, hR⟩ := hasM_0 (g := g3) hi hv2 (by rw [q 1 (by decide) (by decide) (by decide)]; exact k3) (by rw [q 1 (by decide) (by decide) (by decide)]; exact k4)
          rw [qv, q14, ek] at H
          obtain ⟨f1, f2, f3, f4, f5⟩ := fin h hR
          obtain ⟨s1, s2, s3, s4⟩ := H
          rw [q16, q14, q15, upd_at, upd_up] at s1
          rw [q17, q14, q15, upd_at, upd_up] at s2
          rw [q14] at s3
          rw [q14, q15] at s4
          have eb : pBrg (mv g) i (pCar (mv g) i (g.2 14 (ix r))) = pCar (mv g) i (g.2 14 (ix r)) := by unfold pBrg; rw [mv1, if_neg k3, if_neg k4]
          obtain ⟨a1, a2, a3⟩ := ar1 (c := g.2 14 (ix r)) (f := mv g 3 i) (t := mv g 4 i) (k := pCar (mv g) i (g.2 14 (ix r))) (o := g.2 15 (ix r)) b14.1 hv.2.2.2.1 hv.2.2.2.2 hk b14.2
          rw [a1] at s1
          rw [a2] at s2
          rw [a3] at s4
          have w1 : h.2 16 = upd (g.2 16) i (pWo (mv g) i (g.2 14 (ix r)) + pWl (mv g) i (g.2 14 (ix r)) - imin (pWl (mv g) i (g.2 14 (ix r))) (g.2 15 (ix r))) := by unfold pWl pWo; rw [eb]; exact s1
          have w2 : h.2 17 = upd (g.2 17) i (imin (pWl (mv g) i (g.2 14 (ix r))) (g.2 15 (ix r))) := by unfold pWl; rw [eb]; exact s2
          have w3 : h.2 14 = upd (g.2 14) (ix r) (pBrg (mv g) i (pCar (mv g) i (g.2 14 (ix r)))) := by rw [eb]; exact s3
          have w4 : h.2 15 = upd (g.2 15) (ix r) (g.2 15 (ix r) - imin (pWl (mv g) i (g.2 14 (ix r))) (g.2 15 (ix r))) := by unfold pWl; rw [eb]; exact s4
          exact ⟨h, e, w1, w2, f1, f2, w3, w4, f3, f4, f5⟩
    · rw [if_neg hc] at ht
      have ht := ht.symm
      rw [if_neg hc]
      simp only [if_pos ht]
      exact dark ht
