theorem lup0_s {β : Type} (B : (Sg → Option β) → Sg → Option β) (n : Nat) (g : Sg) : lup0 B (n + 1) g = B (lup0 B n) g := rfl
theorem lup1_s {β : Type} (B : (Int32 → Sg → Option β) → Int32 → Sg → Option β) (n : Nat) (x0 : Int32) (g : Sg) : lup1 B (n + 1) x0 g = B (lup1 B n) x0 g := rfl
theorem lup2_s {β : Type} (B : (Int32 → Int32 → Sg → Option β) → Int32 → Int32 → Sg → Option β) (n : Nat) (x0 x1 : Int32) (g : Sg) : lup2 B (n + 1) x0 x1 g = B (lup2 B n) x0 x1 g := rfl
theorem lup3_s {β : Type} (B : (Int32 → Int32 → Int32 → Sg → Option β) → Int32 → Int32 → Int32 → Sg → Option β) (n : Nat) (x0 x1 x2 : Int32) (g : Sg) : lup3 B (n + 1) x0 x1 x2 g = B (lup3 B n) x0 x1 x2 g := rfl
theorem lup4_s {β : Type} (B : (Int32 → Int32 → Int32 → Int32 → Sg → Option β) → Int32 → Int32 → Int32 → Int32 → Sg → Option β) (n : Nat) (x0 x1 x2 x3 : Int32) (g : Sg) : lup4 B (n + 1) x0 x1 x2 x3 g = B (lup4 B n) x0 x1 x2 x3 g := rfl
theorem lup5_s {β : Type} (B : (Int32 → Int32 → Int32 → Int32 → Int32 → Sg → Option β) → Int32 → Int32 → Int32 → Int32 → Int32 → Sg → Option β) (n : Nat) (x0 x1 x2 x3 x4 : Int32) (g : Sg) : lup5 B (n + 1) x0 x1 x2 x3 x4 g = B (lup5 B n) x0 x1 x2 x3 x4 g := rfl
theorem lup6_s {β : Type} (B : (Int32 → Int32 → Int32 → Int32 → Int32 → Int32 → Sg → Option β) → Int32 → Int32 → Int32 → Int32 → Int32 → Int32 → Sg → Option β) (n : Nat) (x0 x1 x2 x3 x4 x5 : Int32) (g : Sg) : lup6 B (n + 1) x0 x1 x2 x3 x4 x5 g = B (lup6 B n) x0 x1 x2 x3 x4 x5 g := rfl
theorem lup7_s {β : Type} (B : (Int32 → Int32 → Int32 → Int32 → Int32 → Int32 → Int32 → Sg → Option β) → Int32 → Int32 → Int32 → Int32 → Int32 → Int32 → Int32 → Sg → Option β) (n : Nat) (x0 x1 x2 x3 x4 x5 x6 : Int32) (g : Sg) : lup7 B (n + 1) x0 x1 x2 x3 x4 x5 x6 g = B (lup7 B n) x0 x1 x2 x3 x4 x5 x6 g := rfl
theorem FU_s : FU = 999 + 1 := rfl
theorem i01 : (0 : Int32) + 1 = 1 := by decide
theorem i11 : (1 : Int32) + 1 = 2 := by decide
theorem iz0 : ix 0 = 0 := by decide
theorem iz1 : ix 1 = 1 := by decide
theorem pTk_congr {V : Vw} {m : Nat} {W U : Wk} {i : Nat} (h40 : W 4 0 = U 4 0) (h50 : W 5 0 = U 5 0) (h : m ≠ 1 → W 4 1 = U 4 1 ∧ W 5 1 = U 5 1) : pTk V m W i = pTk V m U i := by
  unfold pTk
  by_cases hm : m = 1
  · rw [if_pos hm, if_pos hm, h40, h50]
  · obtain ⟨h1, h2⟩ := h hm
    rw [if_neg hm, if_neg hm, h40, h50, h1, h2]
theorem cTk_step (a : Nat) (self : Int32 → Int32 → Int32 → Int32 → Sg → Option (Int32 × Sg)) (x3 x4 x5 x6 : Int32) (g : Sg) : B_X5_lampThatHeHas_24 a self x3 x4 x5 x6 g = (if (g.1 26) ≤ x6 then some (x4, g) else if (rat g 36 2 x6) ≤ 0 then self x3 x4 x5 (x6 + 1) g else if x5 ≤ iabs ((rat g 35 2 x6) - x3) then self x3 x4 x5 (x6 + 1) g else self x3 x6 (iabs ((rat g 35 2 x6) - x3)) (x6 + 1) g) := rfl
/-- the lamp that he has, told by D -/
theorem cTk {a : Nat} {g : Sg} {i m : Nat} (hi : i < 7) (hm : m = 1 ∨ m = 2) (h26 : g.1 26 = nI m) : M_X5_lampThatHeHas a (nI i) g = some (pTk (cv g a) m (fun k => if k = 4 then g.2 35 else g.2 36) i, g) := by
  have e0 : rat g 36 2 0 = g.2 36 0 := rat_l g 36 2 0 0 (by decide) (vpl (by decide)) (by decide)
  have e1 : rat g 36 2 1 = g.2 36 1 := rat_l g 36 2 1 1 (by decide) (vpl (by decide)) (by decide)
  have f0 : rat g 35 2 0 = g.2 35 0 := rat_l g 35 2 0 0 (by decide) (vpl (by decide)) (by decide)
  have f1 : rat g 35 2 1 = g.2 35 1 := rat_l g 35 2 1 1 (by decide) (vpl (by decide)) (by decide)
  have n10 : ¬ nI 1 ≤ 0 := by decide
  have n11 : nI 1 ≤ 1 := by decide
  have n20 : ¬ nI 2 ≤ 0 := by decide
  have n21 : ¬ nI 2 ≤ 1 := by decide
  have n22 : nI 2 ≤ 2 := by decide
  have hV : rat g (a + 4) 7 (nI i) = cv g a 3 i := rat7 g (a + 4) hi
  unfold M_X5_lampThatHeHas lt
  rw [hV, cFet g a hi]
  show lup4 (B_X5_lampThatHeHas_24 a) (996 + 1 + 1 + 1 + 1) _ _ _ _ _ = _
  generalize 996 = f
  unfold pTk
  rcases hm with rfl | rfl
  · simp only [lup4_s, cTk_step, h26, n10, n11, i01, e0, f0, if_true, if_false]
    by_cases c1 : g.2 36 0 ≤ 0 <;> by_cases c2 : pFet (cv g a) i + 1 ≤ iabs (g.2 35 0 - cv g a 3 i) <;> simp [c1, c2]
  · simp only [lup4_s, cTk_step, h26, n20, n21, n22, i01, i11, e0, f0, e1, f1, if_true, if_false]
    by_cases c1 : g.2 36 0 ≤ 0 <;> by_cases c2 : pFet (cv g a) i + 1 ≤ iabs (g.2 35 0 - cv g a 3 i) <;> by_cases c3 : g.2 36 1 ≤ 0 <;> by_cases c4 : pFet (cv g a) i + 1 ≤ iabs (g.2 35 1 - cv g a 3 i) <;> by_cases c5 : iabs (g.2 35 0 - cv g a 3 i) ≤ iabs (g.2 35 1 - cv g a 3 i) <;> simp [c1, c2, c3, c4, c5]
/-- one goes, told by D -/
theorem cFL (g : Sg) : V_X5_firstLamp g = g.2 35 0 := rat_l g 35 2 0 0 (by decide) (vpl (by decide)) (by decide)
theorem cSt (g : Sg) (a : Nat) {i : Nat} (hi : i < 7) : V_X0_stepsOf a (nI i) g = iabs (cv g a 3 i - cv g a 4 i) := by
  unfold V_X0_stepsOf
  simp only [rat7 _ _ hi, cv3, cv4]
abbrev lmp (c o : Nat → Int32) : Wk := fun k => if k = 4 then c else o
theorem rat_t (g : Sg) (k : Nat) {t : Int32} (ht : vp_in t 2) : rat g k 2 t = g.2 k (ix t) := rat_in (by decide) ht
theorem rput_t (g : Sg) (k : Nat) {t : Int32} (ht : vp_in t 2) (x : Int32) : rput g k 2 t x = sF g k (upd (g.2 k) (ix t) x) := rput_in (by decide) ht
theorem lt_eq {α β : Type} (x : α) (k : α → Option β) : lt x k = k x := (Eq.refl (lt x k)).trans rfl
theorem go_e (a : Nat) (x : Int32) (g : Sg) : M_X5_go a x g = bI (M_X5_lampThatHeHas a x (rput g 30 7 x (V_X5_firstLamp g))) (fun r_2 g_3 => if r_2 = -1 then B_X5_go_40 a x (U_X5_goInTheDark a x g_3) else B_X5_go_40 a x (U_X5_goWithLamp a x r_2 g_3)) := by
  unfold M_X5_go
  simp only [lt_eq]
theorem dark_e (a : Nat) {g : Sg} {i : Nat} (hi : i < 7) : U_X5_goInTheDark a (nI i) g = sF (sF (sF g 27 (upd (g.2 27) i (iabs (cv g a 3 i - cv g a 4 i)))) 28 (upd (g.2 28) i 0)) 31 (upd (g.2 31) i 0) := by
  unfold U_X5_goInTheDark
  simp only [rput7 _ _ hi, cSt _ _ hi, sF2, Nat.reduceEqDiff, if_false]
def Go40 (V : Vw) (i k : Nat) (g h : Sg) : Prop :=
  h.2 29 = upd (g.2 29) i (g.2 27 i * pDst V i) ∧ h.2 32 = upd (g.2 32) k (nI i) ∧ h.2 33 = upd (g.2 33) k (g.2 35 0) ∧ (∀ j, j ≠ 29 → j ≠ 32 → j ≠ 33 → h.2 j = g.2 j) ∧
  h.1 27 = nI (k + 1) ∧ h.1 28 = g.1 28 + g.2 27 i * pDst V i ∧ h.1 29 = g.1 29 + g.2 27 i ∧ h.1 30 = g.1 30 + g.2 28 i ∧ (∀ j, (j < 27 ∨ 30 < j) → h.1 j = g.1 j)
theorem go40 {a : Nat} (ha : a ≤ 17) {g : Sg} {i k : Nat} (hi : i < 7) (hk : k < 7) (h27 : g.1 27 = nI k) : ∃ h, B_X5_go_40 a (nI i) g = some h ∧ Go40 (cv g a) i k g h := by
  refine ⟨sI (sF (sF (sI (sI (sI (sF g 29 (upd (g.2 29) i (g.2 27 i * pDst (cv g a) i))) 28 (g.1 28 + g.2 27 i * pDst (cv g a) i)) 29 (g.1 29 + g.2 27 i)) 30 (g.1 30 + g.2 28 i)) 32 (upd (g.2 32) k (nI i))) 33 (upd (g.2 33) k (g.2 35 0))) 27 (nI (k + 1)), ?_, ?_⟩
  · unfold B_X5_go_40 lt
    simp only [rput7 _ _ hi, rat7 _ _ hi, cDst _ _ hi, cv_sF ha, cv_sI, sF1, sF2, sI1, sI2, h27, rput7 _ _ hk, cFL, Nat.reduceLeDiff, Nat.reduceEqDiff, if_true, if_false, nI_1]
  · refine ⟨rfl, rfl, rfl, fun j h1 h2 h3 => ?_, rfl, rfl, rfl, rfl, fun j hj => ?_⟩
    · simp only [sF2, sI2, if_neg h1, if_neg h2, if_neg h3]
    · have d1 : j ≠ 27 := by omega
      have d2 : j ≠ 28 := by omega
      have d3 : j ≠ 29 := by omega
      have d4 : j ≠ 30 := by omega
      simp only [sI1, sF1, if_neg d1, if_neg d2, if_neg d3, if_neg d4]
def GoL (V : Vw) (i : Nat) (t : Int32) (g h : Sg) : Prop :=
  h.2 27 = upd (g.2 27) i (pWo V i (g.2 35 (ix t)) + pWl V i (g.2 35 (ix t)) - imin (pWl V i (g.2 35 (ix t))) (g.2 36 (ix t))) ∧ h.2 28 = upd (g.2 28) i (imin (pWl V i (g.2 35 (ix t))) (g.2 36 (ix t))) ∧ h.2 31 = upd (g.2 31) i 1 ∧ h.2 35 = upd (g.2 35) (ix t) (pBrg V i (pCar V i (g.2 35 (ix t)))) ∧ h.2 36 = upd (g.2 36) (ix t) (g.2 36 (ix t) - imin (pWl V i (g.2 35 (ix t))) (g.2 36 (ix t))) ∧ (∀ j, j ≠ 27 → j ≠ 28 → j ≠ 31 → j ≠ 35 → j ≠ 36 → h.2 j = g.2 j) ∧
  h.1 31 = g.1 31 + 1 ∧ h.1 32 = nI i ∧ (∀ j, j ≠ 31 → j ≠ 32 → h.1 j = g.1 j)
theorem lamp_e (a : Nat) {g : Sg} {i : Nat} {t : Int32} (hi : i < 7) (hv : vp_in t 2) : GoL (cv g a) i t g (U_X5_goWithLamp a (nI i) t g) := by
  have e : U_X5_goWithLamp a (nI i) t g = sI (sI (sF (sF (sF (sF (sF g 27 (upd (g.2 27) i (pWo (cv g a) i (g.2 35 (ix t)) + pWl (cv g a) i (g.2 35 (ix t)) - imin (pWl (cv g a) i (g.2 35 (ix t))) (g.2 36 (ix t))))) 28 (upd (g.2 28) i (imin (pWl (cv g a) i (g.2 35 (ix t))) (g.2 36 (ix t))))) 31 (upd (g.2 31) i 1)) 35 (upd (g.2 35) (ix t) (pBrg (cv g a) i (pCar (cv g a) i (g.2 35 (ix t)))))) 36 (upd (g.2 36) (ix t) (g.2 36 (ix t) - imin (pWl (cv g a) i (g.2 35 (ix t))) (g.2 36 (ix t))))) 31 (g.1 31 + 1)) 32 (nI i) := by
    unfold U_X5_goWithLamp pWo pWl
    simp only [rput7 _ _ hi, rat7 _ _ hi, rput_t _ _ hv, rat_t _ _ hv, cCar _ _ hi, cBrg _ _ hi, sF1, sF2, sI1, sI2, cv3, cv4, Nat.reduceEqDiff, if_true, if_false]
  rw [e]
  refine ⟨rfl, rfl, rfl, rfl, rfl, fun j h1 h2 h3 h4 h5 => ?_, rfl, rfl, fun j h1 h2 => ?_⟩
  · simp only [sF2, sI2, if_neg h1, if_neg h2, if_neg h3, if_neg h4, if_neg h5]
  · simp only [sI1, sF1, if_neg h1, if_neg h2]
def GoC (V : Vw) (m i k : Nat) (g h : Sg) : Prop :=
  h.2 27 = upd (g.2 27) i (wD V m (lmp (g.2 35) (g.2 36)) i) ∧ h.2 28 = upd (g.2 28) i (wL V m (lmp (g.2 35) (g.2 36)) i) ∧ h.2 29 = upd (g.2 29) i (wD V m (lmp (g.2 35) (g.2 36)) i * pDst V i) ∧ h.2 30 = upd (g.2 30) i (g.2 35 0) ∧ h.2 31 = upd (g.2 31) i (wH V m (lmp (g.2 35) (g.2 36)) i) ∧ h.2 32 = upd (g.2 32) k (nI i) ∧ h.2 33 = upd (g.2 33) k (wC V m (lmp (g.2 35) (g.2 36)) i 0) ∧ h.2 35 = wC V m (lmp (g.2 35) (g.2 36)) i ∧ h.2 36 = wO V m (lmp (g.2 35) (g.2 36)) i ∧
  h.1 27 = nI (k + 1) ∧ h.1 28 = g.1 28 + wD V m (lmp (g.2 35) (g.2 36)) i * pDst V i ∧ h.1 29 = g.1 29 + wD V m (lmp (g.2 35) (g.2 36)) i ∧ h.1 30 = g.1 30 + wL V m (lmp (g.2 35) (g.2 36)) i ∧ h.1 31 = g.1 31 + wH V m (lmp (g.2 35) (g.2 36)) i ∧ h.1 32 = (if pTk V m (lmp (g.2 35) (g.2 36)) i = -1 then g.1 32 else nI i) ∧
  (∀ j, (j < 27 ∨ j = 34 ∨ 36 < j) → h.2 j = g.2 j) ∧ (∀ j, (j < 27 ∨ 32 < j) → h.1 j = g.1 j)
theorem upd_at (f : Nat → Int32) (k : Nat) (x : Int32) : upd f k x k = x := if_pos rfl
theorem upd_ne (f : Nat → Int32) {k j : Nat} (x : Int32) (h : j ≠ k) : upd f k x j = f j := if_neg h
set_option maxHeartbeats 4000000 in
theorem cGo {a : Nat} (ha : isAl a) {g : Sg} {i m k : Nat} (hi : i < 7) (hk : k < 7) (hm : m = 1 ∨ m = 2) (h26 : g.1 26 = nI m) (h27 : g.1 27 = nI k) : ∃ h, M_X5_go a (nI i) g = some h ∧ GoC (cv g a) m i k g h := by
  have ha17 := al17 ha
  obtain ⟨g1, hg1⟩ : ∃ g1, g1 = sF g 30 (upd (g.2 30) i (g.2 35 0)) := ⟨_, rfl⟩
  have hT := cTk (a := a) (g := g1) hi hm (by rw [hg1]; exact h26)
  have hV : cv g1 a = cv g a := by rw [hg1]; exact cv_sF ha17 (by decide)
  have q1 : ∀ j, j ≠ 30 → g1.2 j = g.2 j := fun j hj => by rw [hg1, sF2, if_neg hj]
  have q30 : g1.2 30 = upd (g.2 30) i (g.2 35 0) := by rw [hg1]; rfl
  have p1 : g1.1 = g.1 := by rw [hg1]; rfl
  rw [hV, q1 35 (by decide), q1 36 (by decide)] at hT
  have hor := pTk_or (cv g a) m (lmp (g.2 35) (g.2 36)) i
  rw [go_e, rput7 _ _ hi, cFL, ← hg1, hT]
  unfold GoC wD wL wH wC wO
  generalize pTk (cv g a) m (lmp (g.2 35) (g.2 36)) i = t at hor ⊢
  show ∃ h, (if t = -1 then B_X5_go_40 a (nI i) (U_X5_goInTheDark a (nI i) g1) else B_X5_go_40 a (nI i) (U_X5_goWithLamp a (nI i) t g1)) = some h ∧ _
  by_cases ht : t = -1
  · simp only [if_pos ht]
    rw [dark_e a hi, hV]
    obtain ⟨h, e, r⟩ := go40 (a := a) (g := sF (sF (sF g1 27 (upd (g1.2 27) i (iabs (cv g a 3 i - cv g a 4 i)))) 28 (upd (g1.2 28) i 0)) 31 (upd (g1.2 31) i 0)) (k := k) ha17 hi hk (by rw [sF1, sF1, sF1, p1]; exact h27)
    rw [cv_sF ha17 (by decide), cv_sF ha17 (by decide), cv_sF ha17 (by decide), hV] at r
    unfold Go40 at r
    simp only [sF1, sF2, Nat.reduceEqDiff, if_true, if_false, upd_at, p1] at r
    obtain ⟨r1, r2, r3, r4, r5, r6, r7, r8, r9⟩ := r
    refine ⟨h, e, ?_, ?_, ?_, ?_, ?_, ?_, ?_, ?_, ?_, r5, r6, r7, r8, ?_, ?_, fun j hj => ?_, fun j hj => r9 j (by omega)⟩
    · rw [r4 27 (by decide) (by decide) (by decide), q1 27 (by decide)]; rfl
    · rw [r4 28 (by decide) (by decide) (by decide), q1 28 (by decide)]; rfl
    · rw [r1, q1 29 (by decide)]
    · rw [r4 30 (by decide) (by decide) (by decide)]; exact q30
    · rw [r4 31 (by decide) (by decide) (by decide), q1 31 (by decide)]; rfl
    · rw [r2, q1 32 (by decide)]
    · rw [r3, q1 33 (by decide), q1 35 (by decide)]; rfl
    · rw [r4 35 (by decide) (by decide) (by decide)]; exact q1 35 (by decide)
    · rw [r4 36 (by decide) (by decide) (by decide)]; exact q1 36 (by decide)
    · rw [r9 31 (by decide), Int32.add_zero]
    · exact r9 32 (by decide)
    · rw [r4 j (by omega) (by omega) (by omega), if_neg (show ¬ j = 31 by omega), if_neg (show ¬ j = 28 by omega), if_neg (show ¬ j = 27 by omega)]
      exact q1 j (by omega)
  · simp only [if_neg ht]
    have hv : vp_in t 2 := by
      rcases hor with h | h | ⟨h, -⟩
      · exact absurd h ht
      · rw [h]; exact vpl (by decide)
      · rw [h]; exact vpl (by decide)
    obtain ⟨g2, hg2⟩ : ∃ g2, g2 = U_X5_goWithLamp a (nI i) t g1 := ⟨_, rfl⟩
    have hL := lamp_e a (g := g1) hi hv
    rw [← hg2, hV] at hL
    rw [← hg2]
    unfold GoL at hL
    rw [q1 35 (by decide), q1 36 (by decide), p1] at hL
    obtain ⟨l1, l2, l3, l4, l5, l6, l7, l8, l9⟩ := hL
    have hV2 : cv g2 a = cv g a := by
      rw [← hV]
      exact cv_fr ha17 (fun j hj => l6 j (by omega) (by omega) (by omega) (by omega) (by omega))
    obtain ⟨h, e, r⟩ := go40 (a := a) (g := g2) (k := k) ha17 hi hk (by rw [l9 27 (by decide) (by decide)]; exact h27)
    rw [hV2] at r
    unfold Go40 at r
    rw [l1, l2, l4] at r
    simp only [upd_at] at r
    obtain ⟨r1, r2, r3, r4, r5, r6, r7, r8, r9⟩ := r
    have z : ∀ j, j ≠ 27 → j ≠ 28 → j ≠ 30 → j ≠ 31 → j ≠ 35 → j ≠ 36 → g2.2 j = g.2 j := fun j h1 h2 h3 h4 h5 h6 => (l6 j h1 h2 h4 h5 h6).trans (q1 j h3)
    refine ⟨h, e, ?_, ?_, ?_, ?_, ?_, ?_, ?_, ?_, ?_, r5, ?_, ?_, ?_, ?_, ?_, fun j hj => ?_, fun j hj => ?_⟩
    · rw [r4 27 (by decide) (by decide) (by decide), l1, q1 27 (by decide)]; rfl
    · rw [r4 28 (by decide) (by decide) (by decide), l2, q1 28 (by decide)]; rfl
    · rw [r1, z 29 (by decide) (by decide) (by decide) (by decide) (by decide) (by decide)]; rfl
    · rw [r4 30 (by decide) (by decide) (by decide), l6 30 (by decide) (by decide) (by decide) (by decide) (by decide)]; exact q30
    · rw [r4 31 (by decide) (by decide) (by decide), l3, q1 31 (by decide)]
    · rw [r2, z 32 (by decide) (by decide) (by decide) (by decide) (by decide) (by decide)]
    · rw [r3, z 33 (by decide) (by decide) (by decide) (by decide) (by decide) (by decide)]; rfl
    · rw [r4 35 (by decide) (by decide) (by decide), l4]; rfl
    · rw [r4 36 (by decide) (by decide) (by decide), l5]; rfl
    · rw [r6, l9 28 (by decide) (by decide)]; rfl
    · rw [r7, l9 29 (by decide) (by decide)]; rfl
    · rw [r8, l9 30 (by decide) (by decide)]; rfl
    · rw [r9 31 (by decide), l7]
    · rw [r9 32 (by decide), l8]
    · rw [r4 j (by omega) (by omega) (by omega)]
      exact z j (by omega) (by omega) (by omega) (by omega) (by omega) (by omega)
    · rw [r9 j (by omega), l9 j (by omega) (by omega)]
