/-! one goes, told by the reference: whole -/
def VG (V : Vw) (i : Nat) : Prop := rg 39 (V 0 0) ∧ rg 5 (V 1 i) ∧ rg 9 (V 2 i) ∧ rg 39 (V 3 i) ∧ rg 39 (V 4 i)
theorem VOK.g {V : Vw} {n i : Nat} (h : VOK V n) (hi : i < n) : VG V i := by
  obtain ⟨-, h2, -, -, h5⟩ := h
  obtain ⟨a, b, c, d, -⟩ := h5 i hi
  exact ⟨h2, a, b, c, d⟩
theorem pCar_b {V : Vw} {i : Nat} {x : Int32} (h : VG V i) (hx : rg 39 x) : rg 39 (pCar V i x) := by
  obtain ⟨-, -, h2, -, h4⟩ := h
  unfold rg at *
  unfold pCar
  have e1 : (V 4 i + V 2 i).toInt = (V 4 i).toInt + (V 2 i).toInt := T_add (by omega) (by omega)
  have e2 : (V 4 i - V 2 i).toInt = (V 4 i).toInt - (V 2 i).toInt := T_sub (by omega) (by omega)
  by_cases c1 : V 1 i = 1
  · rw [if_pos c1]
    by_cases c2 : V 4 i < x
    · rw [if_pos c2, T_min, e1]
      rw [i_lt] at c2
      split <;> omega
    · rw [if_neg c2, T_max, e2]
      rw [i_lt] at c2
      split <;> omega
  · rw [if_neg c1]
    by_cases c5 : V 1 i = 5
    · rw [if_pos c5]; exact hx
    · rw [if_neg c5]; exact h4
theorem pBrg_b {V : Vw} {i : Nat} {x : Int32} (h : VG V i) (hx : rg 39 x) : rg 39 (pBrg V i x) := by
  obtain ⟨h0, -, -, h3, -⟩ := h
  unfold pBrg
  by_cases c1 : V 1 i = 3
  · rw [if_pos c1]; exact h0
  · rw [if_neg c1]
    by_cases c2 : V 1 i = 4
    · rw [if_pos c2]; exact h3
    · rw [if_neg c2]; exact hx
theorem mCar_eq {V : Vw} {i : Nat} {x : Int32} (h : VG V i) (hx : rg 39 x) : mCar V i x = pCar V i x := by
  obtain ⟨-, -, h2, -, h4⟩ := h
  unfold mCar pCar
  by_cases c5 : V 1 i = 5
  · have c1 : ¬ V 1 i = 1 := by rw [c5]; decide
    rw [if_pos c5, if_neg c1, if_pos c5]
  · rw [if_neg c5]
    by_cases c1 : V 1 i = 1
    · rw [if_pos c1, if_pos c1]
      have e0 := T_absd (x := V 4 i) (y := x) (h4.up (by decide)) (hx.up (by decide))
      unfold rg at *
      have e1 : (V 4 i + V 2 i).toInt = (V 4 i).toInt + (V 2 i).toInt := T_add (by omega) (by omega)
      have e2 : (V 4 i - V 2 i).toInt = (V 4 i).toInt - (V 2 i).toInt := T_sub (by omega) (by omega)
      have e3 : (V 4 i - x).toInt = (V 4 i).toInt - x.toInt := T_sub (by omega) (by omega)
      by_cases c2 : V 2 i < iabs (V 4 i - x)
      · rw [if_pos c2]
        rw [i_lt, e0] at c2
        by_cases c3 : V 4 i - x ≤ 0
        · rw [if_pos c3]
          rw [i_le, e3, T_0] at c3
          have c4 : V 4 i < x := i_lt.mpr (by split at c2 <;> omega)
          rw [if_pos c4]
          apply i_eq
          rw [T_min, e1]
          split at c2 <;> split <;> omega
        · rw [if_neg c3]
          rw [i_le, e3, T_0] at c3
          have c4 : ¬ V 4 i < x := fun e => by rw [i_lt] at e; omega
          rw [if_neg c4]
          apply i_eq
          rw [T_max, e2]
          split at c2 <;> split <;> omega
      · rw [if_neg c2]
        rw [i_lt, e0] at c2
        by_cases c4 : V 4 i < x
        · rw [if_pos c4]
          rw [i_lt] at c4
          apply i_eq
          rw [T_min, e1]
          split at c2 <;> split <;> omega
        · rw [if_neg c4]
          rw [i_lt] at c4
          apply i_eq
          rw [T_max, e2]
          split at c2 <;> split <;> omega
    · rw [if_neg c1, if_neg c1, if_neg c5]
theorem pFet_b {V : Vw} {i : Nat} (h : VG V i) : rg 39 (pFet V i) := by
  obtain ⟨-, -, h2, -, -⟩ := h
  unfold pFet
  by_cases c1 : V 1 i = 1
  · rw [if_pos c1]; exact rg_lit 0 rfl (by decide) (by decide)
  · rw [if_neg c1]
    by_cases c2 : V 1 i = 2
    · rw [if_pos c2]; exact rg_lit 39 rfl (by decide) (by decide)
    · rw [if_neg c2]
      by_cases c3 : V 1 i = 3
      · rw [if_pos c3]
        unfold rg at *
        have e : (6 + V 2 i).toInt = 6 + (V 2 i).toInt := T_add (by show -2147483648 ≤ (6 : Int) + _; omega) (by show (6 : Int) + _ < _; omega)
        rw [e]; omega
      · rw [if_neg c3]; exact rg_lit 6 rfl (by decide) (by decide)
def BdW (m : Nat) (W : Wk) : Prop := rg 39 (W 4 0) ∧ rg 200 (W 5 0) ∧ (m ≠ 1 → rg 39 (W 4 1) ∧ rg 200 (W 5 1))
theorem fet_le {f d : Int32} (hf : rg 39 f) : (f + 1 ≤ d) ↔ ¬ d ≤ f := by
  unfold rg at hf
  have e : (f + 1).toInt = f.toInt + 1 := T_add (by show _ ≤ f.toInt + 1; omega) (by show f.toInt + 1 < _; omega)
  rw [i_le, i_le, e]
  omega
/-- which lamp, by the reference -/
def mTk (V : Vw) (m : Nat) (c o : Nat → Int32) (i : Nat) : Int32 := if mNr m c o (V 3 i) = -9 then -1 else if iabs (c (ix (mNr m c o (V 3 i))) - V 3 i) ≤ pFet V i then mNr m c o (V 3 i) else -1
theorem mTk_eq {V : Vw} {m i : Nat} (c o : Nat → Int32) (h : VG V i) : mTk V m c o i = pTk V m (lmp c o) i := by
  have hf := pFet_b h
  have d0 : ¬ (0 : Int32) = -9 := by decide
  have d1 : ¬ (1 : Int32) = -9 := by decide
  unfold mTk pTk mNr
  simp only [fet_le hf]
  show _ = if m = 1 then (if o 0 ≤ 0 then -1 else if ¬ iabs (c 0 - V 3 i) ≤ pFet V i then -1 else 0) else if o 0 ≤ 0 then (if o 1 ≤ 0 then -1 else if ¬ iabs (c 1 - V 3 i) ≤ pFet V i then -1 else 1) else if ¬ iabs (c 0 - V 3 i) ≤ pFet V i then (if o 1 ≤ 0 then -1 else if ¬ iabs (c 1 - V 3 i) ≤ pFet V i then -1 else 1) else (if o 1 ≤ 0 then 0 else if iabs (c 0 - V 3 i) ≤ iabs (c 1 - V 3 i) then 0 else 1)
  by_cases hm : m = 1
  · simp only [if_pos hm]
    by_cases c0 : o 0 ≤ 0 <;> by_cases p0 : iabs (c 0 - V 3 i) ≤ pFet V i <;> simp only [c0, p0, d0, iz0, if_true, if_false, not_true_eq_false, not_false_eq_true]
  · simp only [if_neg hm]
    by_cases c0 : o 0 ≤ 0 <;> by_cases c1 : o 1 ≤ 0 <;> by_cases p0 : iabs (c 0 - V 3 i) ≤ pFet V i <;> by_cases p1 : iabs (c 1 - V 3 i) ≤ pFet V i <;> by_cases c2 : iabs (c 0 - V 3 i) ≤ iabs (c 1 - V 3 i) <;> first
      | (simp only [c0, c1, p0, p1, c2, d0, d1, iz0, iz1, if_true, if_false, not_true_eq_false, not_false_eq_true]; done)
      | (exfalso; rw [i_le] at p0 p1 c2; omega)
/-- he who has the lamp t goes -/
def hasM (x1 r_4 : Int32) (g_7 : Sg) : Option Sg := chk x1 7 (lt (wr g_7 19 x1 r_4) (fun g_8 => lt (sI g_8 7 x1) (fun g_9 => chk x1 7 (chk r_4 2 (bV (M_X7_walksDark x1 (rd g_9 3 x1) (rd g_9 14 r_4) g_9) (fun g_10 => chk r_4 2 (bI (M_X7_carriedTo x1 (rd g_10 14 r_4) g_10) (fun r_11 g_12 => bV (M_X7_carries x1 r_4 r_11 g_12) (fun g_13 => chk r_4 2 (chk x1 7 (bV (M_X7_walksDark x1 (rd g_13 14 r_4) (rd g_13 4 x1) g_13) (fun g_14 => chk x1 7 ((if (rd g_14 1 x1) = 3 then bV (M_X7_carries x1 r_4 (rd g_14 6 0) g_14) (fun g_15 => B_X7_goes_173 x1 r_4 g_15) else B_X7_goes_173 x1 r_4 g_14))))))))))))))
theorem goes_e (x1 : Int32) (g : Sg) : M_X7_goes x1 g = chk x1 7 (chk x1 7 (chk x1 7 (bI (M_X7_nearer x1 (wr (wr (wr g 16 x1 0) 17 x1 0) 18 x1 (rd (wr (wr g 16 x1 0) 17 x1 0) 14 0))) (fun r_4 g_5 => if r_4 = (-9) then B_X7_goes_62 x1 g_5 else chk r_4 2 (chk x1 7 (bI (M_X7_fetches x1 g_5) (fun r_6 g_7 => if (iabs ((rd g_5 14 r_4) - (rd g_5 3 x1))) ≤ r_6 then hasM x1 r_4 g_7 else B_X7_goes_62 x1 g_7))))))) := by
  unfold M_X7_goes hasM
  simp only [lt_eq]
theorem upd_up (f : Nat → Int32) (k : Nat) (x y : Int32) : upd (upd f k x) k y = upd f k y := by
  funext j
  unfold upd
  by_cases h : j = k
  · rw [if_pos h, if_pos h]
  · rw [if_neg h, if_neg h, if_neg h]
/-- what he who has it leaves: one carry (to k), or a second one (on to b) -/
def HasQ (V : Vw) (i : Nat) (t k : Int32) (g h : Sg) : Prop :=
  h.2 16 = upd (g.2 16) i (g.2 16 i + iabs (V 3 i - g.2 14 (ix t)) + (iabs (g.2 14 (ix t) - k) - imin (iabs (g.2 14 (ix t) - k)) (g.2 15 (ix t))) + iabs (k - V 4 i)) ∧
  h.2 17 = upd (g.2 17) i (g.2 17 i + imin (iabs (g.2 14 (ix t) - k)) (g.2 15 (ix t))) ∧
  h.2 14 = upd (g.2 14) (ix t) k ∧ h.2 15 = upd (g.2 15) (ix t) (g.2 15 (ix t) - imin (iabs (g.2 14 (ix t) - k)) (g.2 15 (ix t)))
def HasP (V : Vw) (i : Nat) (t k b : Int32) (g h : Sg) : Prop :=
  h.2 16 = upd (g.2 16) i (g.2 16 i + iabs (V 3 i - g.2 14 (ix t)) + (iabs (g.2 14 (ix t) - k) - imin (iabs (g.2 14 (ix t) - k)) (g.2 15 (ix t))) + iabs (k - V 4 i) + (iabs (k - b) - imin (iabs (k - b)) (g.2 15 (ix t) - imin (iabs (g.2 14 (ix t) - k)) (g.2 15 (ix t))))) ∧
  h.2 17 = upd (g.2 17) i (g.2 17 i + imin (iabs (g.2 14 (ix t) - k)) (g.2 15 (ix t)) + imin (iabs (k - b)) (g.2 15 (ix t) - imin (iabs (g.2 14 (ix t) - k)) (g.2 15 (ix t)))) ∧
  h.2 14 = upd (g.2 14) (ix t) b ∧ h.2 15 = upd (g.2 15) (ix t) (g.2 15 (ix t) - imin (iabs (g.2 14 (ix t) - k)) (g.2 15 (ix t)) - imin (iabs (k - b)) (g.2 15 (ix t) - imin (iabs (g.2 14 (ix t) - k)) (g.2 15 (ix t))))
def HasR (i : Nat) (t : Int32) (g h : Sg) : Prop := h.2 19 = upd (g.2 19) i t ∧ (∀ j, j ≠ 14 → j ≠ 15 → j ≠ 16 → j ≠ 17 → j ≠ 19 → h.2 j = g.2 j) ∧ h.1 7 = nI i ∧ (∀ j, j ≠ 7 → h.1 j = g.1 j)
theorem hasM_3 {g : Sg} {i : Nat} {t : Int32} (hi : i < 7) (ht : vp_in t 2) (hk : g.2 1 i = 3) : ∃ h, hasM (nI i) t g = some h ∧ HasP (mv g) i t (mCar (mv g) i (g.2 14 (ix t))) (g.2 6 0) g h ∧ HasR i t g h := by
  have r : ∀ (g : Sg) (k : Nat), rd g k t = g.2 k (ix t) := fun _ _ => rfl
  have r0 : ∀ (g : Sg) (k : Nat), rd g k 0 = g.2 k 0 := fun g k => rdN g k (i := 0) (by decide)
  unfold hasM B_X7_goes_173
  simp only [chk_ok (vpN hi (by decide)), chk_ok ht, lt_eq, rdN _ _ (show i < 1000 by omega), wrN _ _ (show i < 1000 by omega), r, r0, mWD hi, bV_some, mCT hi, bI_some, mCr hi ht, sF2, sF1, sI2, sI1, Nat.reduceEqDiff, if_false, if_true, mv_sF, mv_sI, upd_at, upd_up, Nat.reduceLeDiff, hk, show ¬ (3 : Int32) = 4 by decide]
  refine ⟨_, rfl, ⟨rfl, rfl, rfl, rfl⟩, rfl, fun j h1 h2 h3 h4 h5 => ?_, rfl, fun j h1 => ?_⟩
  · simp only [sF2, sI2, if_neg h1, if_neg h2, if_neg h3, if_neg h4, if_neg h5]
  · simp only [sF1, sI1, if_neg h1]
theorem hasM_4 {g : Sg} {i : Nat} {t : Int32} (hi : i < 7) (ht : vp_in t 2) (hk : g.2 1 i = 4) : ∃ h, hasM (nI i) t g = some h ∧ HasP (mv g) i t (mCar (mv g) i (g.2 14 (ix t))) (g.2 3 i) g h ∧ HasR i t g h := by
  have r : ∀ (g : Sg) (k : Nat), rd g k t = g.2 k (ix t) := fun _ _ => rfl
  have r0 : ∀ (g : Sg) (k : Nat), rd g k 0 = g.2 k 0 := fun g k => rdN g k (i := 0) (by decide)
  unfold hasM B_X7_goes_173
  simp only [chk_ok (vpN hi (by decide)), chk_ok ht, lt_eq, rdN _ _ (show i < 1000 by omega), wrN _ _ (show i < 1000 by omega), r, r0, mWD hi, bV_some, mCT hi, bI_some, mCr hi ht, sF2, sF1, sI2, sI1, Nat.reduceEqDiff, if_false, if_true, mv_sF, mv_sI, upd_at, upd_up, Nat.reduceLeDiff, hk, show ¬ (4 : Int32) = 3 by decide]
  refine ⟨_, rfl, ⟨rfl, rfl, rfl, rfl⟩, rfl, fun j h1 h2 h3 h4 h5 => ?_, rfl, fun j h1 => ?_⟩
  · simp only [sF2, sI2, if_neg h1, if_neg h2, if_neg h3, if_neg h4, if_neg h5]
  · simp only [sF1, sI1, if_neg h1]
theorem hasM_0 {g : Sg} {i : Nat} {t : Int32} (hi : i < 7) (ht : vp_in t 2) (hk : ¬ g.2 1 i = 3) (hk4 : ¬ g.2 1 i = 4) : ∃ h, hasM (nI i) t g = some h ∧ HasQ (mv g) i t (mCar (mv g) i (g.2 14 (ix t))) g h ∧ HasR i t g h := by
  have r : ∀ (g : Sg) (k : Nat), rd g k t = g.2 k (ix t) := fun _ _ => rfl
  have r0 : ∀ (g : Sg) (k : Nat), rd g k 0 = g.2 k 0 := fun g k => rdN g k (i := 0) (by decide)
  unfold hasM B_X7_goes_173
  simp only [chk_ok (vpN hi (by decide)), chk_ok ht, lt_eq, rdN _ _ (show i < 1000 by omega), wrN _ _ (show i < 1000 by omega), r, r0, mWD hi, bV_some, mCT hi, bI_some, mCr hi ht, sF2, sF1, sI2, sI1, Nat.reduceEqDiff, if_false, if_true, mv_sF, mv_sI, upd_at, upd_up, Nat.reduceLeDiff, hk, hk4]
  refine ⟨_, rfl, ⟨rfl, rfl, rfl, rfl⟩, rfl, fun j h1 h2 h3 h4 h5 => ?_, rfl, fun j h1 => ?_⟩
  · simp only [sF2, sI2, if_neg h1, if_neg h2, if_neg h3, if_neg h4, if_neg h5]
  · simp only [sF1, sI1, if_neg h1]
