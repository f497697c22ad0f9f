/-! One goes, told by the reference -/
theorem rdN (g : Sg) (k : Nat) {i : Nat} (hi : i < 1000) : rd g k (nI i) = g.2 k i := by
  show g.2 k (ix (nI i)) = _
  rw [show ix (nI i) = i from nI_clamp (by omega)]
theorem wrN (g : Sg) (k : Nat) {i : Nat} (hi : i < 1000) (x : Int32) : wr g k (nI i) x = sF g k (upd (g.2 k) i x) := by
  show sF g k (upd (g.2 k) (ix (nI i)) x) = _
  rw [show ix (nI i) = i from nI_clamp (by omega)]
theorem vpN {i n : Nat} (hi : i < n) (hn : n < 2 ^ 31) : vp_in (nI i) n := vp_in_nI hi hn
theorem mv_fr {g h : Sg} (hf : ∀ j, j < 7 → h.2 j = g.2 j) : mv h = mv g := by
  funext k
  unfold mv
  by_cases hk : k = 0
  · rw [if_pos hk, if_pos hk]; exact hf 6 (by decide)
  · rw [if_neg hk, if_neg hk]
    by_cases hk6 : k < 6
    · rw [if_pos hk6, if_pos hk6]; exact hf _ (by omega)
    · rw [if_neg hk6, if_neg hk6]
theorem mv_sF {g : Sg} {k : Nat} {f : Nat → Int32} (hk : 7 ≤ k) : mv (sF g k f) = mv g := mv_fr (fun j hj => by rw [sF2, if_neg (by omega)])
theorem mv_sI {g : Sg} {k : Nat} {v : Int32} : mv (sI g k v) = mv g := rfl
theorem mFet {g : Sg} {i : Nat} (hi : i < 7) : M_X7_fetches (nI i) g = some (pFet (mv g) i, g) := by
  unfold M_X7_fetches pFet
  simp only [chk_ok (vpN hi (by decide)), rdN _ _ (show i < 1000 by omega), mv1, mv2]
  (repeat' split) <;> simp_all
theorem mCst {g : Sg} {i : Nat} (hi : i < 7) : M_X7_costs (nI i) g = some (pDst (mv g) i, g) := by
  unfold M_X7_costs pDst
  have e : rd g 6 2 = g.2 6 2 := rdN g 6 (i := 2) (by decide)
  simp only [chk_ok (vpN hi (by decide)), rdN _ _ (show i < 1000 by omega), mv1, mv0, e]
  (repeat' split) <;> simp_all
theorem mWD {g : Sg} {i : Nat} (hi : i < 7) (x y : Int32) : M_X7_walksDark (nI i) x y g = some (sF g 16 (upd (g.2 16) i (g.2 16 i + iabs (x - y)))) := by
  unfold M_X7_walksDark
  simp only [chk_ok (vpN hi (by decide)), lt_eq, rdN _ _ (show i < 1000 by omega), wrN _ _ (show i < 1000 by omega)]
def mCar (V : Vw) (i : Nat) (x : Int32) : Int32 := if V 1 i = 5 then x else if V 1 i = 1 then (if V 2 i < iabs (V 4 i - x) then (if V 4 i - x ≤ 0 then V 4 i + V 2 i else V 4 i - V 2 i) else x) else V 4 i
theorem mCT {g : Sg} {i : Nat} (hi : i < 7) (x : Int32) : M_X7_carriedTo (nI i) x g = some (mCar (mv g) i x, g) := by
  unfold M_X7_carriedTo mCar
  simp only [chk_ok (vpN hi (by decide)), lt_eq, rdN _ _ (show i < 1000 by omega), mv1, mv2, mv4]
  by_cases c5 : g.2 1 i = 5 <;> by_cases c1 : g.2 1 i = 1 <;> by_cases c2 : g.2 2 i < iabs (g.2 4 i - x) <;> by_cases c3 : g.2 4 i - x ≤ 0 <;> simp only [c5, c1, c2, c3, if_true, if_false, show ¬ (1 : Int32) = 5 by decide]
theorem mCr {g : Sg} {i : Nat} {t : Int32} (hi : i < 7) (ht : vp_in t 2) (x : Int32) : M_X7_carries (nI i) t x g = some (sF (sF (sF (sF g 15 (upd (g.2 15) (ix t) (g.2 15 (ix t) - imin (iabs (g.2 14 (ix t) - x)) (g.2 15 (ix t))))) 17 (upd (g.2 17) i (g.2 17 i + imin (iabs (g.2 14 (ix t) - x)) (g.2 15 (ix t))))) 16 (upd (g.2 16) i (g.2 16 i + (iabs (g.2 14 (ix t) - x) - imin (iabs (g.2 14 (ix t) - x)) (g.2 15 (ix t)))))) 14 (upd (g.2 14) (ix t) x)) := by
  have r : ∀ (g : Sg) (k : Nat), rd g k t = g.2 k (ix t) := fun _ _ => rfl
  have w : ∀ (g : Sg) (k : Nat) (y : Int32), wr g k t y = sF g k (upd (g.2 k) (ix t) y) := fun _ _ _ => rfl
  unfold M_X7_carries
  simp only [chk_ok (vpN hi (by decide)), chk_ok ht, lt_eq, rdN _ _ (show i < 1000 by omega), wrN _ _ (show i < 1000 by omega), r, w, sF2, Nat.reduceEqDiff, if_false]
theorem mNear_step (kb5 : Int32 → Int32 → Int32 → Sg → Option (Int32 × Sg)) {g : Sg} {i j l : Nat} (hi : i < 7) (hj : j < 2) (x2 : Int32) (hx : x2 = -9 ∨ (x2 = nI l ∧ l < 2)) : B_X7_nearer_5 kb5 (nI i) x2 (nI j) g = (if (g.1 6) ≤ nI j then some (x2, g) else if g.2 15 j ≤ 0 then kb5 (nI i) x2 (nI (j + 1)) g else if x2 = -9 then kb5 (nI i) (nI j) (nI (j + 1)) g else if iabs (g.2 14 l - g.2 3 i) ≤ iabs (g.2 14 j - g.2 3 i) then kb5 (nI i) x2 (nI (j + 1)) g else kb5 (nI i) (nI j) (nI (j + 1)) g) := by
  unfold B_X7_nearer_5
  simp only [chk_ok (vpN hi (by decide)), chk_ok (vpN hj (by decide)), rdN _ _ (show i < 1000 by omega), rdN _ _ (show j < 1000 by omega), nI_1]
  rcases hx with hx | ⟨hx, hl⟩
  · simp only [hx, if_true]
  · subst hx
    simp only [chk_ok (vpN hl (by decide)), rdN _ _ (show l < 1000 by omega)]
def mNr (m : Nat) (c o : Nat → Int32) (f : Int32) : Int32 :=
  if m = 1 then (if o 0 ≤ 0 then -9 else 0)
  else if o 0 ≤ 0 then (if o 1 ≤ 0 then -9 else 1)
  else (if o 1 ≤ 0 then 0 else if iabs (c 0 - f) ≤ iabs (c 1 - f) then 0 else 1)
theorem n0 : nI 0 = 0 := rfl
theorem n1 : nI 1 = 1 := rfl
theorem mNear {g : Sg} {i m : Nat} (hi : i < 7) (hm : m = 1 ∨ m = 2) (h6 : g.1 6 = nI m) : M_X7_nearer (nI i) g = some (mNr m (g.2 14) (g.2 15) (g.2 3 i), g) := by
  have n10 : ¬ nI 1 ≤ nI 0 := by decide
  have n11 : nI 1 ≤ nI 1 := by decide
  have n20 : ¬ nI 2 ≤ nI 0 := by decide
  have n21 : ¬ nI 2 ≤ nI 1 := by decide
  have n22 : nI 2 ≤ nI 2 := by decide
  have d9 : ¬ nI 0 = -9 := by decide
  have st2 : ∀ (kb5 : Int32 → Int32 → Int32 → Sg → Option (Int32 × Sg)) (x2 : Int32), g.1 6 = nI 2 → B_X7_nearer_5 kb5 (nI i) x2 (nI 2) g = some (x2, g) := by
    intro kb5 x2 h
    unfold B_X7_nearer_5
    rw [h, if_pos n22]
  unfold M_X7_nearer
  show lup3 B_X7_nearer_5 (996 + 1 + 1 + 1 + 1) (nI i) (-9) (nI 0) g = _
  generalize 996 = f
  unfold mNr
  rcases hm with rfl | rfl
  · rw [lup3_s, mNear_step _ (l := 0) hi (by decide) _ (Or.inl rfl), h6, if_neg n10, if_pos rfl, if_pos rfl]
    by_cases c0 : g.2 15 0 ≤ 0
    · rw [if_pos c0, if_pos c0, lup3_s, mNear_step _ (l := 0) hi (by decide) _ (Or.inl rfl), h6, if_pos n11]
    · rw [if_neg c0, if_neg c0, lup3_s, mNear_step _ (l := 0) hi (by decide) _ (Or.inr ⟨rfl, by decide⟩), h6, if_pos n11]
      rfl
  · have h6' := h6
    rw [if_neg (show ¬ (2 : Nat) = 1 by decide), lup3_s, mNear_step _ (l := 0) hi (by decide) _ (Or.inl rfl), h6, if_neg n20, if_pos rfl]
    by_cases c0 : g.2 15 0 ≤ 0
    · rw [if_pos c0, if_pos c0, lup3_s, mNear_step _ (l := 0) hi (by decide) _ (Or.inl rfl), h6, if_neg n21, if_pos rfl]
      by_cases c1 : g.2 15 1 ≤ 0
      · rw [if_pos c1, if_pos c1, lup3_s, st2 _ _ h6']
      · rw [if_neg c1, if_neg c1, lup3_s, st2 _ _ h6']; rfl
    · rw [if_neg c0, if_neg c0, lup3_s, mNear_step _ (l := 0) hi (by decide) _ (Or.inr ⟨rfl, by decide⟩), h6, if_neg n21, if_neg d9]
      by_cases c1 : g.2 15 1 ≤ 0
      · rw [if_pos c1, if_pos c1, lup3_s, st2 _ _ h6']; rfl
      · rw [if_neg c1, if_neg c1]
        by_cases c2 : iabs (g.2 14 0 - g.2 3 i) ≤ iabs (g.2 14 1 - g.2 3 i)
        · rw [if_pos c2, if_pos c2, lup3_s, st2 _ _ h6']; rfl
        · rw [if_neg c2, if_neg c2, lup3_s, st2 _ _ h6']; rfl
