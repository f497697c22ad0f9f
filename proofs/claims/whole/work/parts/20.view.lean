/-! What the goers' kinds mean, over a view V of an alley (0 setting, 1 kind, 2 figure, 3 from, 4 to, 5 hour) -/
theorem sF2 (g : Sg) (k : Nat) (f : Nat → Int32) (j : Nat) : (sF g k f).2 j = if j = k then f else g.2 j := rfl
theorem sF1 (g : Sg) (k : Nat) (f : Nat → Int32) : (sF g k f).1 = g.1 := rfl
theorem sI1 (g : Sg) (k : Nat) (v : Int32) (j : Nat) : (sI g k v).1 j = if j = k then v else g.1 j := rfl
theorem sI2 (g : Sg) (k : Nat) (v : Int32) : (sI g k v).2 = g.2 := rfl
def rg (b : Int) (x : Int32) : Prop := 0 ≤ x.toInt ∧ x.toInt ≤ b
abbrev Vw : Type := Nat → Nat → Int32
def VOK (V : Vw) (n : Nat) : Prop := n ≤ 7 ∧ rg 39 (V 0 0) ∧ rg 200 (V 0 1) ∧ rg 9 (V 0 2) ∧ ∀ i, i < n → rg 5 (V 1 i) ∧ rg 9 (V 2 i) ∧ rg 39 (V 3 i) ∧ rg 39 (V 4 i) ∧ rg 11 (V 5 i)
def cv (g : Sg) (a : Nat) : Vw := fun k => if k < 6 then g.2 (a + (k + 1)) else fun _ => 0
def mv (g : Sg) : Vw := fun k => if k = 0 then g.2 6 else if k < 6 then g.2 k else fun _ => 0
theorem cv0 (g : Sg) (a : Nat) : cv g a 0 = g.2 (a + 1) := rfl
theorem cv1 (g : Sg) (a : Nat) : cv g a 1 = g.2 (a + 2) := rfl
theorem cv2 (g : Sg) (a : Nat) : cv g a 2 = g.2 (a + 3) := rfl
theorem cv3 (g : Sg) (a : Nat) : cv g a 3 = g.2 (a + 4) := rfl
theorem cv4 (g : Sg) (a : Nat) : cv g a 4 = g.2 (a + 5) := rfl
theorem cv5 (g : Sg) (a : Nat) : cv g a 5 = g.2 (a + 6) := rfl
theorem mv0 (g : Sg) : mv g 0 = g.2 6 := rfl
theorem mv1 (g : Sg) : mv g 1 = g.2 1 := rfl
theorem mv2 (g : Sg) : mv g 2 = g.2 2 := rfl
theorem mv3 (g : Sg) : mv g 3 = g.2 3 := rfl
theorem mv4 (g : Sg) : mv g 4 = g.2 4 := rfl
theorem mv5 (g : Sg) : mv g 5 = g.2 5 := rfl
theorem cv_fr {g h : Sg} {a : Nat} (ha : a ≤ 17) (hf : ∀ j, j < 26 → h.2 j = g.2 j) : cv h a = cv g a := by
  funext k
  unfold cv
  by_cases hk : k < 6
  · rw [if_pos hk, if_pos hk]; exact hf _ (by omega)
  · rw [if_neg hk, if_neg hk]
theorem cv_sF {g : Sg} {k a : Nat} {f : Nat → Int32} (ha : a ≤ 17) (hk : 26 ≤ k) : cv (sF g k f) a = cv g a := cv_fr ha (fun j hj => by rw [sF2, if_neg (by omega)])
theorem cv_sI {g : Sg} {k a : Nat} {v : Int32} : cv (sI g k v) a = cv g a := rfl
theorem al17 {a : Nat} (ha : isAl a) : a ≤ 17 := by rcases ha with rfl | rfl | rfl <;> decide
def pFet (V : Vw) (i : Nat) : Int32 := if V 1 i = 1 then 0 else if V 1 i = 2 then 39 else if V 1 i = 3 then 6 + V 2 i else 6
def pDst (V : Vw) (i : Nat) : Int32 := if V 1 i = 1 then V 0 2 / 2 else if V 1 i = 2 then 2 * V 0 2 else if V 1 i = 3 then V 0 2 + 1 else if V 1 i = 4 then 0 else if V 1 i = 5 then 0 else V 0 2
def pCar (V : Vw) (i : Nat) (x : Int32) : Int32 := if V 1 i = 1 then (if V 4 i < x then imin x (V 4 i + V 2 i) else imax x (V 4 i - V 2 i)) else if V 1 i = 5 then x else V 4 i
def pBrg (V : Vw) (i : Nat) (x : Int32) : Int32 := if V 1 i = 3 then V 0 0 else if V 1 i = 4 then V 3 i else x
/-- a walk's state: 0 dark, 1 light, 2 stood, 3 had, 4 the lamps' cells, 5 their oil, 9 sums (1 cost, 2 dark, 3 light, 4 takers, 5 last) -/
abbrev Wk : Type := Nat → Nat → Int32
def pTk (V : Vw) (m : Nat) (W : Wk) (i : Nat) : Int32 :=
  if m = 1 then (if W 5 0 ≤ 0 then -1 else if pFet V i + 1 ≤ iabs (W 4 0 - V 3 i) then -1 else 0)
  else if W 5 0 ≤ 0 then (if W 5 1 ≤ 0 then -1 else if pFet V i + 1 ≤ iabs (W 4 1 - V 3 i) then -1 else 1)
  else if pFet V i + 1 ≤ iabs (W 4 0 - V 3 i) then (if W 5 1 ≤ 0 then -1 else if pFet V i + 1 ≤ iabs (W 4 1 - V 3 i) then -1 else 1)
  else (if W 5 1 ≤ 0 then 0 else if iabs (W 4 0 - V 3 i) ≤ iabs (W 4 1 - V 3 i) then 0 else 1)
/-- of one who has the lamp t: with it, without it, in light -/
def pWl (V : Vw) (i : Nat) (x : Int32) : Int32 := iabs (pCar V i x - x) + iabs (pBrg V i (pCar V i x) - pCar V i x)
def pWo (V : Vw) (i : Nat) (x : Int32) : Int32 := iabs (x - V 3 i) + iabs (V 4 i - pCar V i x)
def wD (V : Vw) (m : Nat) (W : Wk) (i : Nat) : Int32 := if pTk V m W i = -1 then iabs (V 3 i - V 4 i) else pWo V i (W 4 (ix (pTk V m W i))) + pWl V i (W 4 (ix (pTk V m W i))) - imin (pWl V i (W 4 (ix (pTk V m W i)))) (W 5 (ix (pTk V m W i)))
def wL (V : Vw) (m : Nat) (W : Wk) (i : Nat) : Int32 := if pTk V m W i = -1 then 0 else imin (pWl V i (W 4 (ix (pTk V m W i)))) (W 5 (ix (pTk V m W i)))
def wH (V : Vw) (m : Nat) (W : Wk) (i : Nat) : Int32 := if pTk V m W i = -1 then 0 else 1
def wC (V : Vw) (m : Nat) (W : Wk) (i : Nat) : Nat → Int32 := if pTk V m W i = -1 then W 4 else upd (W 4) (ix (pTk V m W i)) (pBrg V i (pCar V i (W 4 (ix (pTk V m W i)))))
def wO (V : Vw) (m : Nat) (W : Wk) (i : Nat) : Nat → Int32 := if pTk V m W i = -1 then W 5 else upd (W 5) (ix (pTk V m W i)) (W 5 (ix (pTk V m W i)) - imin (pWl V i (W 4 (ix (pTk V m W i)))) (W 5 (ix (pTk V m W i))))
def goW (V : Vw) (m : Nat) (W : Wk) (i : Nat) : Wk := fun k =>
  if k = 0 then upd (W 0) i (wD V m W i) else if k = 1 then upd (W 1) i (wL V m W i) else if k = 2 then upd (W 2) i (W 4 0) else if k = 3 then upd (W 3) i (wH V m W i)
  else if k = 4 then wC V m W i else if k = 5 then wO V m W i
  else fun j => if j = 1 then W 9 1 + wD V m W i * pDst V i else if j = 2 then W 9 2 + wD V m W i else if j = 3 then W 9 3 + wL V m W i else if j = 4 then W 9 4 + wH V m W i else if pTk V m W i = -1 then W 9 5 else nI i
theorem pTk_or (V : Vw) (m : Nat) (W : Wk) (i : Nat) : pTk V m W i = -1 ∨ pTk V m W i = 0 ∨ (pTk V m W i = 1 ∧ m ≠ 1) := by
  unfold pTk
  (repeat' split) <;> simp_all
/-- D's kinds -/
theorem rat7 (g : Sg) (k : Nat) {i : Nat} (hi : i < 7) : rat g k 7 (nI i) = g.2 k i := by
  rw [rat_in (by decide) (vp_in_nI hi (by decide))]
  show g.2 k (ix (nI i)) = _
  rw [show ix (nI i) = i from nI_clamp (by omega)]
theorem rput7 (g : Sg) (k : Nat) {i : Nat} (hi : i < 7) (x : Int32) : rput g k 7 (nI i) x = sF g k (upd (g.2 k) i x) := by
  rw [rput_in (by decide) (vp_in_nI hi (by decide))]
  show sF g k (upd (g.2 k) (ix (nI i)) x) = _
  rw [show ix (nI i) = i from nI_clamp (by omega)]
theorem rat_l (g : Sg) (k n : Nat) (i : Int32) (j : Nat) (hn : n < 2 ^ 31) (h : vp_in i n) (hj : ix i = j) : rat g k n i = g.2 k j := by
  rw [rat_in hn h]
  show g.2 k (ix i) = _
  rw [hj]
theorem rput_l (g : Sg) (k n : Nat) (i x : Int32) (j : Nat) (hn : n < 2 ^ 31) (h : vp_in i n) (hj : ix i = j) : rput g k n i x = sF g k (upd (g.2 k) j x) := by
  rw [rput_in hn h]
  show sF g k (upd (g.2 k) (ix i) x) = _
  rw [hj]
theorem cFet (g : Sg) (a : Nat) {i : Nat} (hi : i < 7) : V_X0_fetches a (nI i) g = pFet (cv g a) i := by
  unfold V_X0_fetches pFet
  simp only [rat7 _ _ hi]
  rfl
theorem cDark (g : Sg) (a : Nat) : V_X0_dark a g = cv g a 0 2 := rat_l g (a + 1) 3 2 2 (by decide) (vpl (by decide)) (by decide)
theorem cPump (g : Sg) (a : Nat) : V_X0_pump a g = cv g a 0 0 := rat_l g (a + 1) 3 0 0 (by decide) (vpl (by decide)) (by decide)
theorem cOil (g : Sg) (a : Nat) : V_X0_oil a g = cv g a 0 1 := rat_l g (a + 1) 3 1 1 (by decide) (vpl (by decide)) (by decide)
theorem cDst (g : Sg) (a : Nat) {i : Nat} (hi : i < 7) : V_X0_darkStepCosts a (nI i) g = pDst (cv g a) i := by
  unfold V_X0_darkStepCosts pDst
  simp only [rat7 _ _ hi, cDark]
  rfl
theorem cCar (g : Sg) (a : Nat) {i : Nat} (hi : i < 7) (x : Int32) : V_X0_carriesTo a (nI i) x g = pCar (cv g a) i x := by
  unfold V_X0_carriesTo pCar
  simp only [rat7 _ _ hi]
  rfl
theorem cBrg (g : Sg) (a : Nat) {i : Nat} (hi : i < 7) (x : Int32) : V_X0_bringsTo a (nI i) x g = pBrg (cv g a) i x := by
  unfold V_X0_bringsTo pBrg
  simp only [rat7 _ _ hi, cPump]
  rfl
