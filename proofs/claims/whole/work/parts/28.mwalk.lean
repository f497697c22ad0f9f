/-! The reference's walks -/
def VGall (V : Vw) (gs : List Nat) : Prop := ∀ i, i ∈ gs → i < 7 ∧ VG V i
theorem pWl_b {V : Vw} {i : Nat} {x : Int32} (h : VG V i) (hx : rg 39 x) : rg 78 (pWl V i x) := by
  have hk := pCar_b h hx
  have hb := pBrg_b h hk
  unfold pWl
  have e1 := T_absd (x := pCar V i x) (y := x) (hk.up (by decide)) (hx.up (by decide))
  have e2 := T_absd (x := pBrg V i (pCar V i x)) (y := pCar V i x) (hb.up (by decide)) (hk.up (by decide))
  unfold rg at *
  rw [T_add (by rw [e1, e2]; split <;> split <;> omega) (by rw [e1, e2]; split <;> split <;> omega), e1, e2]
  split <;> split <;> omega
theorem oil_b {w o : Int32} (hw : rg 78 w) (ho : rg 200 o) : rg 200 (o - imin w o) := by
  have e := T_min w o
  unfold rg at *
  rw [T_sub (by rw [e]; split <;> omega) (by rw [e]; split <;> omega), e]
  split <;> omega
theorem upd_b {b : Int} {f : Nat → Int32} {k : Nat} {x : Int32} {j : Nat} (hx : rg b x) (hf : rg b (f j)) : rg b (upd f k x j) := by
  unfold upd
  by_cases h : j = k
  · rw [if_pos h]; exact hx
  · rw [if_neg h]; exact hf
theorem goW_bd {V : Vw} {m : Nat} {W : Wk} {i : Nat} (hv : VG V i) (hb : BdW m W) : BdW m (goW V m W i) := by
  obtain ⟨b1, b2, b3⟩ := hb
  show rg 39 (wC V m W i 0) ∧ rg 200 (wO V m W i 0) ∧ (m ≠ 1 → rg 39 (wC V m W i 1) ∧ rg 200 (wO V m W i 1))
  unfold wC wO
  by_cases ht : pTk V m W i = -1
  · rw [if_pos ht, if_pos ht]; exact ⟨b1, b2, b3⟩
  · rw [if_neg ht, if_neg ht]
    have b14 : rg 39 (W 4 (ix (pTk V m W i))) ∧ rg 200 (W 5 (ix (pTk V m W i))) := by
      rcases pTk_or V m W i with h | h | ⟨h, hm1⟩
      · exact absurd h ht
      · rw [h, iz0]; exact ⟨b1, b2⟩
      · rw [h, iz1]; exact b3 hm1
    have c1 := pBrg_b hv (pCar_b hv b14.1)
    have c2 := oil_b (pWl_b hv b14.1) b14.2
    exact ⟨upd_b c1 b1, upd_b c2 b2, fun hm => ⟨upd_b c1 (b3 hm).1, upd_b c2 (b3 hm).2⟩⟩
theorem runW_snoc_ind {P : List Nat → Prop} (h0 : P []) (hs : ∀ gs i, P gs → P (gs ++ [i])) : ∀ gs, P gs := by
  intro gs
  have key : ∀ (n : Nat) (gs : List Nat), gs.length = n → P gs := by
    intro n
    induction n with
    | zero => intro gs h; rw [List.length_eq_zero_iff.mp h]; exact h0
    | succ n ih =>
      intro gs h
      have hne : gs ≠ [] := fun e => by rw [e] at h; cases h
      rw [← List.dropLast_concat_getLast hne]
      exact hs _ _ (ih _ (by rw [List.length_dropLast, h]; rfl))
  exact key gs.length gs rfl
def OKW (V : Vw) (m : Nat) (c1 : Int32) : Prop := rg 39 (V 0 0) ∧ rg 200 (V 0 1) ∧ (m ≠ 1 → rg 39 c1)
theorem runW_bd {V : Vw} {m : Nat} {c1 : Int32} (h : OKW V m c1) : ∀ gs, VGall V gs → BdW m (runW V m c1 gs) := by
  refine runW_snoc_ind (P := fun gs => VGall V gs → BdW m (runW V m c1 gs)) (fun _ => ⟨h.1, h.2.1, fun hm => ⟨h.2.2 hm, h.2.1⟩⟩) (fun gs i ih hg => ?_)
  rw [runW_app]
  exact goW_bd (hg i (List.mem_append_right _ (List.mem_singleton.mpr rfl))).2 (ih (fun j hj => hg j (List.mem_append_left _ hj)))
theorem Alk.bd {m : Nat} {W U : Wk} (h : Alk m W U) (hb : BdW m U) : BdW m W := ⟨by rw [h.1]; exact hb.1, by rw [h.2.1]; exact hb.2.1, fun hm => by rw [(h.2.2 hm).1, (h.2.2 hm).2]; exact hb.2.2 hm⟩
def Am (V : Vw) (m : Nat) (c1 : Int32) (gs : List Nat) (g : Sg) : Prop :=
  g.1 6 = nI m ∧ Alk m (lmp (g.2 14) (g.2 15)) (runW V m c1 gs) ∧ g.1 7 = runW V m c1 gs 9 5 ∧
  (∀ i, i ∈ gs → g.2 16 i = runW V m c1 gs 0 i ∧ g.2 17 i = runW V m c1 gs 1 i ∧ g.2 18 i = runW V m c1 gs 2 i ∧ (if g.2 19 i = -9 then (0 : Int32) else 1) = runW V m c1 gs 3 i)
def OrdM (gs : List Nat) (g : Sg) : Prop := g.1 5 = nI gs.length ∧ ∀ k, k < gs.length → g.2 13 k = nI (gs.getD k 0)
def FrG (g h : Sg) : Prop := (∀ j, (j < 14 ∨ 19 < j) → h.2 j = g.2 j) ∧ (∀ j, j ≠ 7 → h.1 j = g.1 j)
def FrM (g h : Sg) : Prop := (∀ j, (j < 13 ∨ 20 < j) → h.2 j = g.2 j) ∧ (∀ j, (j < 5 ∨ 7 < j) → h.1 j = g.1 j)
theorem FrM.rf (g : Sg) : FrM g g := ⟨fun _ _ => rfl, fun _ _ => rfl⟩
theorem FrM.trans {g h k : Sg} (a : FrM g h) (b : FrM h k) : FrM g k := ⟨fun j hj => (b.1 j hj).trans (a.1 j hj), fun j hj => (b.2 j hj).trans (a.2 j hj)⟩
theorem FrM.mv {g h : Sg} (f : FrM g h) : mv h = mv g := mv_fr (fun j hj => f.1 j (Or.inl (by omega)))
theorem FrG.M {g h : Sg} (f : FrG g h) : FrM g h := ⟨fun j hj => f.1 j (by omega), fun j hj => f.2 j (by omega)⟩
theorem Am.step {V : Vw} {m : Nat} {c1 : Int32} {gs : List Nat} {g : Sg} {i : Nat} (hm : m = 1 ∨ m = 2) (hV : mv g = V) (hA : Am V m c1 gs g) (hi : i < 7) (hv : VG V i) (hb : BdW m (runW V m c1 gs)) : ∃ h, M_X7_goes (nI i) g = some h ∧ Am V m c1 (gs ++ [i]) h ∧ FrG g h := by
  obtain ⟨a1, a2, a3, a4⟩ := hA
  obtain ⟨h, e, G⟩ := mGo hi hm a1 (by rw [hV]; exact hv) (a2.bd hb)
  rw [hV] at G
  unfold GoM at G
  obtain ⟨w1, w2, w3, w4⟩ := a2.all (V := V) i
  rw [w1, w2, a2.t i] at G
  obtain ⟨g1, g2, g3, g4, g5, g6, g7, g8, g9⟩ := G
  refine ⟨h, e, ⟨(g9 6 (by decide)).trans a1, ?_, ?_, fun x hx => ?_⟩, g8, g9⟩
  · rw [runW_app]
    refine ⟨?_, ?_, fun hm => ⟨?_, ?_⟩⟩
    · show h.2 14 0 = wC V m (runW V m c1 gs) i 0
      rw [g5]; exact w4.1
    · show h.2 15 0 = wO V m (runW V m c1 gs) i 0
      rw [g6]; exact w4.2.1
    · show h.2 14 1 = wC V m (runW V m c1 gs) i 1
      rw [g5]; exact (w4.2.2 hm).1
    · show h.2 15 1 = wO V m (runW V m c1 gs) i 1
      rw [g6]; exact (w4.2.2 hm).2
  · rw [g7, runW_app, a3]; rfl
  · rw [runW_app, g1, g2, g3, g4]
    show upd (g.2 16) i _ x = upd (runW V m c1 gs 0) i _ x ∧ upd (g.2 17) i _ x = upd (runW V m c1 gs 1) i _ x ∧ upd (g.2 18) i _ x = upd (runW V m c1 gs 2) i (runW V m c1 gs 4 0) x ∧ (if upd (g.2 19) i _ x = -9 then (0 : Int32) else 1) = upd (runW V m c1 gs 3) i _ x
    by_cases hxi : x = i
    · subst hxi
      simp only [upd_at]
      refine ⟨trivial, trivial, a2.1, ?_⟩
      unfold wH
      rcases pTk_or V m (runW V m c1 gs) x with e | e | ⟨e, -⟩ <;> rw [e] <;> decide
    · simp only [upd_ne _ _ hxi]
      rcases List.mem_append.mp hx with h1 | h1
      · exact a4 x h1
      · exact absurd (List.mem_singleton.mp h1) hxi
def mSetS (g : Sg) (x y : Int32) : Sg := sI (sF (sF (sI g 6 y) 14 (upd (upd (g.2 14) 0 (g.2 6 0)) 1 x)) 15 (upd (upd (g.2 15) 0 (g.2 6 1)) 1 (g.2 6 1))) 7 (-9)
theorem mSets12 (x y : Int32) (g : Sg) : ∃ h, B_X7_sets_12 x y g = some h ∧ h.1 6 = y ∧ h.1 7 = -9 ∧ h.2 14 0 = g.2 6 0 ∧ h.2 14 1 = x ∧ h.2 15 0 = g.2 6 1 ∧ h.2 15 1 = g.2 6 1 ∧ FrM g h := by
  have w0 : ∀ (g : Sg) (k : Nat) (v : Int32), wr g k 0 v = sF g k (upd (g.2 k) 0 v) := fun g k v => wrN g k (i := 0) (by decide) v
  have w1 : ∀ (g : Sg) (k : Nat) (v : Int32), wr g k 1 v = sF g k (upd (g.2 k) 1 v) := fun g k v => wrN g k (i := 1) (by decide) v
  have r0 : ∀ (g : Sg) (k : Nat), rd g k 0 = g.2 k 0 := fun g k => rdN g k (i := 0) (by decide)
  have r1 : ∀ (g : Sg) (k : Nat), rd g k 1 = g.2 k 1 := fun g k => rdN g k (i := 1) (by decide)
  unfold B_X7_sets_12
  simp only [lt_eq, w0, w1, r0, r1, sF2, sI2, Nat.reduceEqDiff, if_false, if_true]
  refine ⟨_, rfl, rfl, rfl, rfl, rfl, rfl, rfl, fun j hj => ?_, fun j hj => ?_⟩
  · simp only [sF2, sI2, if_neg (show ¬ j = 14 by omega), if_neg (show ¬ j = 15 by omega)]
  · simp only [sF1, sI1, if_neg (show ¬ j = 6 by omega), if_neg (show ¬ j = 7 by omega)]
theorem mSets1 (g : Sg) (c1 : Int32) : ∃ h, M_X7_sets (-9) g = some h ∧ Am (mv g) 1 c1 [] h ∧ FrM g h := by
  obtain ⟨h, e, h1, h2, h3, h4, h5, h6, F⟩ := mSets12 (-9) 1 g
  unfold M_X7_sets
  rw [if_pos rfl]
  exact ⟨h, e, ⟨h1, ⟨h3, h5, fun hm => absurd rfl hm⟩, h2, fun i hi => absurd hi List.not_mem_nil⟩, F⟩
theorem mSets2 (g : Sg) {x : Int32} (hx : ¬ x = -9) : ∃ h, M_X7_sets x g = some h ∧ Am (mv g) 2 x [] h ∧ FrM g h := by
  obtain ⟨h, e, h1, h2, h3, h4, h5, h6, F⟩ := mSets12 x 2 g
  unfold M_X7_sets
  rw [if_neg hx]
  exact ⟨h, e, ⟨h1, ⟨h3, h5, fun _ => ⟨h4, h6⟩⟩, h2, fun i hi => absurd hi List.not_mem_nil⟩, F⟩
