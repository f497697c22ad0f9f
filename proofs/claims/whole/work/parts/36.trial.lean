/-! Bounds of a night's cost; trials -/
theorem rg_add {a b : Int} {x y : Int32} (hx : rg a x) (hy : rg b y) (h : a + b < 2147483648) : rg (a + b) (x + y) := by
  have e : (x + y).toInt = x.toInt + y.toInt := T_add (by have := hx.1; have := hy.1; omega) (by have := hx.2; have := hy.2; omega)
  exact ⟨by rw [e]; have := hx.1; have := hy.1; omega, by rw [e]; have := hx.2; have := hy.2; omega⟩
theorem rg_abs {x y : Int32} (hx : rg 39 x) (hy : rg 39 y) : rg 39 (iabs (x - y)) := by
  have e := T_absd (hx.up (by omega)) (hy.up (by omega))
  have a1 := hx.1
  have a2 := hx.2
  have b1 := hy.1
  have b2 := hy.2
  refine ⟨?_, ?_⟩ <;> (rw [e]; split <;> omega)
theorem rg_mul {a b : Int} {x y : Int32} (hx : rg a x) (hy : rg b y) (h : a * b < 2147483648) : rg (a * b) (x * y) := by
  have h1 : 0 ≤ x.toInt * y.toInt := Int.mul_nonneg hx.1 hy.1
  have h2 : x.toInt * y.toInt ≤ a * b := Int.mul_le_mul hx.2 hy.2 hy.1 (Int.le_trans hx.1 hx.2)
  have e : (x * y).toInt = x.toInt * y.toInt := T_mul (by omega) (by omega)
  exact ⟨by rw [e]; exact h1, by rw [e]; exact h2⟩
theorem wD_b {V : Vw} {m : Nat} {W : Wk} {i : Nat} (hv : VG V i) (hb : BdW m W) : rg 156 (wD V m W i) := by
  unfold wD
  by_cases e : pTk V m W i = -1
  · rw [if_pos e]
    exact (rg_abs hv.2.2.2.1 hv.2.2.2.2).up (by decide)
  · rw [if_neg e]
    have hx : rg 39 (W 4 (ix (pTk V m W i))) ∧ rg 200 (W 5 (ix (pTk V m W i))) := by
      rcases pTk_or V m W i with h | h | ⟨h, hm⟩
      · exact absurd h e
      · rw [h]; exact ⟨hb.1, hb.2.1⟩
      · rw [h]; exact hb.2.2 hm
    obtain ⟨hx, ho⟩ := hx
    generalize W 4 (ix (pTk V m W i)) = x at hx
    generalize W 5 (ix (pTk V m W i)) = o at ho
    have hw := pWl_b hv hx
    have hq : rg 78 (pWo V i x) := rg_add (a := 39) (b := 39) (rg_abs hx hv.2.2.2.1) (rg_abs hv.2.2.2.2 (pCar_b hv hx)) (by decide)
    have hs : rg 156 (pWo V i x + pWl V i x) := rg_add hq hw (by decide)
    have es : (pWo V i x + pWl V i x).toInt = (pWo V i x).toInt + (pWl V i x).toInt := T_add (by have := hq.1; have := hw.1; omega) (by have := hq.2; have := hw.2; omega)
    have em := T_min (pWl V i x) o
    have q1 := hq.1
    have q2 := hq.2
    have w1 := hw.1
    have w2 := hw.2
    have o1 := ho.1
    have m1 : 0 ≤ (imin (pWl V i x) o).toInt := by rw [em]; split <;> omega
    have m2 : (imin (pWl V i x) o).toInt ≤ (pWl V i x).toInt := by rw [em]; split <;> omega
    have e3 : (pWo V i x + pWl V i x - imin (pWl V i x) o).toInt = (pWo V i x).toInt + (pWl V i x).toInt - (imin (pWl V i x) o).toInt := by
      rw [T_sub (by rw [es]; omega) (by rw [es]; omega), es]
    exact ⟨by rw [e3]; omega, by rw [e3]; omega⟩
theorem nine {x : Int32} (h : rg 9 x) : x = 0 ∨ x = 1 ∨ x = 2 ∨ x = 3 ∨ x = 4 ∨ x = 5 ∨ x = 6 ∨ x = 7 ∨ x = 8 ∨ x = 9 := by
  obtain ⟨k, hk, -, rfl⟩ := rgN h
  rcases (show k = 0 ∨ k = 1 ∨ k = 2 ∨ k = 3 ∨ k = 4 ∨ k = 5 ∨ k = 6 ∨ k = 7 ∨ k = 8 ∨ k = 9 by omega) with rfl | rfl | rfl | rfl | rfl | rfl | rfl | rfl | rfl | rfl <;> decide
theorem pDst_b {V : Vw} {i : Nat} (h : rg 9 (V 0 2)) : rg 18 (pDst V i) := by
  unfold pDst rg
  rcases nine h with e | e | e | e | e | e | e | e | e | e <;> rw [e] <;> (repeat' split) <;> decide
theorem run_b {V : Vw} {m : Nat} {c1 : Int32} (hk : OKW V m c1) (h9 : rg 9 (V 0 2)) : ∀ gs : List Nat, gs.length ≤ 7 → VGall V gs → rg (2808 * gs.length) (runW V m c1 gs 9 1) := by
  refine runW_snoc_ind (P := fun gs => gs.length ≤ 7 → VGall V gs → rg (2808 * gs.length) (runW V m c1 gs 9 1)) (fun _ _ => ⟨Int.le_refl 0, Int.le_refl 0⟩) (fun gs i ih hl hv => ?_)
  rw [lenS] at hl ⊢
  have hv1 : VGall V gs := fun j hj => hv j (List.mem_append_left _ hj)
  have h1 := ih (by omega) hv1
  have h2 := (hv i (List.mem_append_right _ (List.mem_singleton.mpr rfl))).2
  rw [runW_app]
  show rg _ (runW V m c1 gs 9 1 + wD V m (runW V m c1 gs) i * pDst V i)
  have h3 : rg (156 * 18) (wD V m (runW V m c1 gs) i * pDst V i) := rg_mul (wD_b h2 (runW_bd hk gs hv1)) (pDst_b h9) (by decide)
  exact (rg_add h1 h3 (by omega)).up (by omega)
def co (V : Vw) (n m : Nat) (c1 : Int32) : Int32 := runW V m c1 (seqH V no n 12) 9 1
theorem seqG {V : Vw} {n : Nat} {sk : Nat → Bool} (h : VOK V n) : VGall V (seqH V sk n 12) := fun i hi => ⟨seq7 h i hi, h.g (memH hi).1⟩
theorem seqLen {V : Vw} {n : Nat} {sk : Nat → Bool} (h : VOK V n) : (seqH V sk n 12).length ≤ 7 := by
  have h := List.Nodup.length_le_of_subset (l₂ := List.range 7) (nodupH V sk n 12 (by decide)) (fun x hx => by rw [List.mem_range]; exact seq7 h x hx)
  rwa [List.length_range] at h
theorem co_b {V : Vw} {n m : Nat} {c1 : Int32} (h : VOK V n) (hk : OKW V m c1) : rg 19656 (co V n m c1) := (run_b hk h.2.2.2.1 _ (seqLen h) (seqG h)).up (by have := seqLen (sk := no) h; omega)
/-- the trial alley of D, over the state that the call began with -/
def Tr (V : Vw) (n : Nat) (c1 : Int32) (gc h : Sg) : Prop := cv h 17 = V ∧ h.1 17 = nI n ∧ h.1 18 = c1 ∧ ZA h 17 ∧ QC gc h
theorem Tr.by {V : Vw} {n : Nat} {c1 : Int32} {gc h : Sg} (t : Tr V n c1 gc h) (hn : n ≤ 7) : ∃ h1, M_X5_byHours 17 h = some (co V n (lampsOf c1) c1, h1) ∧ Tr V n c1 gc h1 ∧ AgC V (lampsOf c1) c1 (seqH V no n 12) h1 := by
  obtain ⟨t1, t2, t3, t4, t5⟩ := t
  obtain ⟨r, h1, e, B, F⟩ := cBy al_17 hn t2
  rw [t1, show h.1 (17 + 1) = c1 from t3] at B
  refine ⟨h1, ?_, ⟨(F.cv (by decide)).trans t1, (F.2 17 (by omega)).trans t2, (F.2 18 (by omega)).trans t3, t4.fr (fun j a b => F.1 j (by omega)), t5.trans F.q⟩, B.2.1⟩
  rw [e, B.1]; rfl
theorem Tr.sec {V : Vw} {n : Nat} {c1 : Int32} {gc h : Sg} (t : Tr V n c1 gc h) (x : Int32) : Tr V n x gc (sI h 18 x) := by
  obtain ⟨t1, t2, t3, t4, t5⟩ := t
  exact ⟨t1, t2, rfl, t4, t5.1, fun j hj => by rw [sI1, if_neg (by omega)]; exact t5.2.1 j hj, t5.2.2⟩
theorem tri2 {gc gm : Sg} {n : Nat} (r : RelA gc gm n) : ∃ h, U_X0_becomeLike 17 3 gc = h ∧ Tr (mv gm) n (-1) gc h := by
  obtain ⟨h, e, h1, h2, h3, h4, h5⟩ := tri r
  exact ⟨h, e, h1, h3, h4, h2, h5⟩
/-- the reference's, over the state that the call began with -/
def QW (g h : Sg) : Prop := (∀ j, (j = 0 ∨ j = 7 ∨ j = 9 ∨ j = 10 ∨ j = 11) → h.2 j = g.2 j) ∧ (∀ j, (j < 2 ∨ j = 3 ∨ j = 4) → h.1 j = g.1 j)
def Mt (V : Vw) (n : Nat) (gm h : Sg) : Prop := mv h = V ∧ h.1 0 = nI n ∧ QW gm h
theorem Mt.rf {gm : Sg} {n : Nat} (h : gm.1 0 = nI n) : Mt (mv gm) n gm gm := ⟨rfl, h, fun _ _ => rfl, fun _ _ => rfl⟩
theorem Mt.fr {V : Vw} {n : Nat} {gm h k : Sg} (t : Mt V n gm h) (F : FrM h k) : Mt V n gm k := ⟨F.mv.trans t.1, (F.2 0 (by omega)).trans t.2.1, fun j hj => (F.1 j (by omega)).trans (t.2.2.1 j hj), fun j hj => (F.2 j (by omega)).trans (t.2.2.2 j hj)⟩
theorem Mt.q {gm h : Sg} {n : Nat} (t : Mt (mv gm) n gm h) : QM gm h := by
  refine ⟨fun j hj => ?_, t.2.2.2⟩
  by_cases c : j = 0 ∨ 7 ≤ j
  · exact t.2.2.1 j (by omega)
  · have w : mv h j = mv gm j := congrFun t.1 j
    by_cases c6 : j = 6
    · subst c6
      exact congrFun t.1 0
    · have h0 : ¬ j = 0 := by omega
      have h6 : j < 6 := by omega
      simp only [mv, if_neg h0, if_pos h6] at w
      exact w
theorem Mt.cost {V : Vw} {n : Nat} {gm h : Sg} (t : Mt V n gm h) (hv : VOK V n) : ∃ h1, M_X7_costNow h = some (co V n 1 (-1), h1) ∧ Mt V n gm h1 := by
  obtain ⟨h1, e, R, F⟩ := mRunAll (-1) (n := n) (g := h) (by rw [t.1]; exact hv) t.2.1
  rw [t.1] at R
  refine ⟨h1, ?_, t.fr F⟩
  unfold M_X7_costNow
  rw [e, bV_some, mCost (F.mv.trans t.1) (nodupH V no n 12 (by decide)) (seq7 hv) R.1, bI_some]
  rfl
theorem Mt.two {V : Vw} {n : Nat} {gm h : Sg} {c : Int32} (t : Mt V n gm h) (hv : VOK V n) (hc : rg 39 c) : ∃ h1, M_X7_secondAt c h = some (co V n 1 (-1) - co V n 2 c, h1) ∧ Mt V n gm h1 := by
  obtain ⟨h0, e0, t0⟩ := t.cost hv
  obtain ⟨h1, e, R, F⟩ := mRunTwo (n := n) (g := h0) (c1 := c) (by rw [t0.1]; exact hv) t0.2.1 hc
  rw [t0.1] at R
  refine ⟨h1, ?_, t0.fr F⟩
  unfold M_X7_secondAt
  rw [e0, bI_some, e, bV_some, mCost (F.mv.trans t0.1) (nodupH V no n 12 (by decide)) (seq7 hv) R.1, bI_some]
  rfl
theorem lamps2 {c : Int32} (h : rg 39 c) : lampsOf c = 2 := by
  unfold lampsOf
  rw [if_neg]
  intro e
  have h1 := h.1
  rw [e] at h1
  exact absurd h1 (by decide)
theorem lamps1 : lampsOf (-1) = 1 := by decide
theorem op_second (gc gm : Sg) (x : Int32) (r : Rel gc gm) : Ans Rel (M_X6_second x gc) (M_X7_second x gm) := by
  have r0 := r
  obtain ⟨⟨n, rA⟩, -⟩ := r
  unfold M_X6_second M_X7_second
  rcases cell_or gc gm x with ⟨hx, h1, h2⟩ | ⟨h1, h2⟩
  · rw [if_neg h1, if_neg h2]
    have hv := rA.1
    obtain ⟨h, e, t⟩ := tri2 rA
    rw [lt_eq, e, lt_eq]
    have t1 := t.sec x
    obtain ⟨v1, g1, e1, B1, F1⟩ := cBy al_3 (g := sI h 18 x) (n := n) hv.1 (by rw [t1.2.2.2.2.2.1 3 (by omega)]; exact rA.2.1)
    have a3 : cv (sI h 18 x) 3 = mv gm := (t1.2.2.2.2.cv3).trans rA.2.2.2.2.1
    have b3 : (sI h 18 x).1 (3 + 1) = -1 := by rw [t1.2.2.2.2.2.1 4 (by omega)]; exact rA.2.2.2.1
    rw [a3, b3] at B1
    have t2 : Tr (mv gm) n x gc g1 := ⟨(F1.cv (by decide)).trans t1.1, (F1.2 17 (by omega)).trans t1.2.1, (F1.2 18 (by omega)).trans t1.2.2.1, t1.2.2.2.1.fr (fun j a b => F1.1 j (by omega)), t1.2.2.2.2.trans F1.q⟩
    obtain ⟨g2, e2, t3, -⟩ := t2.by hv.1
    obtain ⟨m1, em, tm⟩ := (Mt.rf rA.2.2.1).two hv hx
    rw [e1, bI_some, e2, bI_some, em, bI_some, lamps2 hx, B1.1]
    exact Ans.q r0 t3.2.2.2.2 tm.q
  · rw [if_pos h1, if_pos h2]
    exact refM_ans r0 (-1) 1 (vpl (by decide)) (by decide)
