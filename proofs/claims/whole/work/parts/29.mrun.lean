/-! The reference's run by hours, and its cost -/
def AO (V : Vw) (m : Nat) (c1 : Int32) (gs : List Nat) (g : Sg) : Prop := Am V m c1 gs g ∧ OrdM gs g
theorem lenS (gs : List Nat) (j : Nat) : (gs ++ [j]).length = gs.length + 1 := by rw [List.length_append]; rfl
theorem OrdM.app {gs : List Nat} {g : Sg} {j : Nat} (h : ∀ k, k < gs.length → g.2 13 k = nI (gs.getD k 0)) : ∀ k, k < (gs ++ [j]).length → upd (g.2 13) gs.length (nI j) k = nI ((gs ++ [j]).getD k 0) := by
  intro k hk
  rw [List.length_append] at hk
  have hk : k < gs.length + 1 := hk
  by_cases hkl : k < gs.length
  · rw [upd_ne _ _ (by omega), getD_l hkl]; exact h k hkl
  · have e : k = gs.length := by omega
    subst e
    rw [upd_at, getD_e]
theorem mRun21 (kb12 : Int32 → Int32 → Sg → Option Sg) (kb21 : Int32 → Int32 → Int32 → Sg → Option Sg) (x1 x3 : Int32) {j : Nat} (hj : j < 1000) (g : Sg) : B_X7_run_21 kb12 kb21 x1 x3 (nI j) g = (if (g.1 0) ≤ nI j then B_X7_run_80 kb12 x1 x3 g else chk (nI j) 7 ((if g.2 5 j = x3 then (if nI j = x1 then kb21 x1 x3 (nI (j + 1)) g else bV (M_X7_goes (nI j) g) (fun g_3 => chk (g_3.1 5) 7 (kb21 x1 x3 (nI (j + 1)) (wr (sI g_3 5 ((g_3.1 5) + 1)) 13 (g_3.1 5) (nI j))))) else kb21 x1 x3 (nI (j + 1)) g))) := by
  unfold B_X7_run_21
  simp only [lt_eq, rdN _ _ hj, nI_1]
theorem mInner {V : Vw} {n m : Nat} {c1 x1 : Int32} {sk : Nat → Bool} (hm : m = 1 ∨ m = 2) (hok : VOK V n) (hw : OKW V m c1) (hsk : ∀ j, j < n → (nI j = x1 ↔ sk j = true)) (kb12 : Int32 → Int32 → Sg → Option Sg) {h : Nat} (hh : h < 12) : ∀ (d j f : Nat) (g : Sg), j + d = n → d < f → mv g = V → g.1 0 = nI n → AO V m c1 (seqH V sk n h ++ seqJ V sk h j) g → ∃ g1, lup3 (B_X7_run_21 kb12) f x1 (nI h) (nI j) g = B_X7_run_80 kb12 x1 (nI h) g1 ∧ AO V m c1 (seqH V sk n (h + 1)) g1 ∧ g1.2 20 = g.2 20 ∧ FrM g g1 := by
  have hn := hok.1
  intro d
  induction d with
  | zero =>
    intro j f g hj hf hV hs hA
    obtain ⟨f, rfl⟩ : ∃ t, f = t + 1 := ⟨f - 1, by omega⟩
    obtain rfl : j = n := by omega
    refine ⟨g, ?_, hA, rfl, FrM.rf g⟩
    rw [lup3_s, mRun21 _ _ _ _ (by omega), hs, if_pos (nI_le (Nat.le_refl _) (by omega))]
  | succ d ih =>
    intro j f g hj hf hV hs hA
    obtain ⟨f, rfl⟩ : ∃ t, f = t + 1 := ⟨f - 1, by omega⟩
    have e5 : g.2 5 j = V 5 j := by rw [← hV, mv5]
    rw [lup3_s, mRun21 _ _ _ _ (by omega), hs, if_neg (nI_ge (by omega) (by omega)), chk_ok (vpN (by omega) (by decide)), e5]
    by_cases hc : V 5 j = nI h
    · rw [if_pos hc]
      by_cases hx : nI j = x1
      · rw [if_pos hx]
        exact ih (j + 1) f g (by omega) (by omega) hV hs (by rw [seqJ_no (Or.inr ((hsk j (by omega)).mp hx))]; exact hA)
      · rw [if_neg hx]
        have hskf : sk j = false := by
          cases hb : sk j with
          | false => rfl
          | true => exact absurd ((hsk j (by omega)).mpr hb) hx
        have hlen := seq_len (V := V) (sk := sk) (n := n) hh (by omega) hc
        have hall : VGall V (seqH V sk n h ++ seqJ V sk h j) := fun i hi => by
          have hin : i < n := by
            rcases List.mem_append.mp hi with h1 | h1
            · exact (memH h1).1
            · have := (memJ h1).1; omega
          exact ⟨by omega, hok.g hin⟩
        obtain ⟨hAm, ho1, ho2⟩ := hA
        obtain ⟨g1, e1, A1, F1⟩ := Am.step hm hV hAm (i := j) (by omega) (hok.g (by omega)) (runW_bd hw _ hall)
        have e51 : g1.1 5 = nI (seqH V sk n h ++ seqJ V sk h j).length := (F1.2 5 (by decide)).trans ho1
        rw [e1, bV_some, e51, chk_ok (vpN (by omega) (by decide)), wrN _ _ (by omega), nI_1]
        obtain ⟨g2, e2, A2, k2, F2⟩ := ih (j + 1) f (sF (sI g1 5 (nI ((seqH V sk n h ++ seqJ V sk h j).length + 1))) 13 (upd (g1.2 13) (seqH V sk n h ++ seqJ V sk h j).length (nI j))) (by omega) (by omega) ((mv_sF (by decide)).trans (F1.M.mv.trans hV)) ((F1.2 0 (by decide)).trans hs) (by
          rw [seqJ_yes hc hskf, ← List.append_assoc]
          refine ⟨A1, ?_, OrdM.app (fun k hk => by rw [F1.1 13 (by omega)]; exact ho2 k hk)⟩
          exact congrArg nI (lenS _ _).symm)
        refine ⟨g2, e2, A2, k2.trans (F1.1 20 (by omega)), F1.M.trans (FrM.trans ⟨fun i hi => ?_, fun i hi => ?_⟩ F2)⟩
        · rw [sF2, if_neg (by omega)]; rfl
        · show (if i = 5 then _ else _) = _
          rw [if_neg (by omega)]
    · rw [if_neg hc]
      exact ih (j + 1) f g (by omega) (by omega) hV hs (by rw [seqJ_no (Or.inl hc)]; exact hA)
def RunM (V : Vw) (n m : Nat) (c1 : Int32) (sk : Nat → Bool) (g : Sg) : Prop := AO V m c1 (seqH V sk n 12) g ∧ ∀ h, h < 12 → g.2 20 h = runW V m c1 (seqH V sk n (h + 1)) 4 0
theorem mRun80 (kb12 : Int32 → Int32 → Sg → Option Sg) (x1 : Int32) {h : Nat} (hh : h < 12) (g : Sg) : B_X7_run_80 kb12 x1 (nI h) g = kb12 x1 (nI (h + 1)) (sF g 20 (upd (g.2 20) h (g.2 14 0))) := by
  have r0 : rd g 14 0 = g.2 14 0 := rdN g 14 (i := 0) (by decide)
  unfold B_X7_run_80
  rw [chk_ok (vpN hh (by decide)), lt_eq, wrN _ _ (by omega), nI_1, r0]
theorem mRun12 (kb12 : Int32 → Int32 → Sg → Option Sg) (x1 x3 : Int32) (g : Sg) : B_X7_run_12 kb12 x1 x3 g = if 12 ≤ x3 then some g else lup3 (B_X7_run_21 kb12) FU x1 x3 0 g := by
  unfold B_X7_run_12
  rfl
theorem mOuter {V : Vw} {n m : Nat} {c1 x1 : Int32} {sk : Nat → Bool} (hm : m = 1 ∨ m = 2) (hok : VOK V n) (hw : OKW V m c1) (hsk : ∀ j, j < n → (nI j = x1 ↔ sk j = true)) : ∀ (d h f : Nat) (g : Sg), h + d = 12 → d < f → mv g = V → g.1 0 = nI n → AO V m c1 (seqH V sk n h) g → (∀ k, k < h → g.2 20 k = runW V m c1 (seqH V sk n (k + 1)) 4 0) → ∃ g1, lup2 B_X7_run_12 f x1 (nI h) g = some g1 ∧ RunM V n m c1 sk g1 ∧ FrM g g1 := by
  intro d
  induction d with
  | zero =>
    intro h f g hj hf hV hs hA hE
    obtain ⟨f, rfl⟩ : ∃ t, f = t + 1 := ⟨f - 1, by omega⟩
    obtain rfl : h = 12 := by omega
    refine ⟨g, ?_, ⟨hA, hE⟩, FrM.rf g⟩
    rw [lup2_s, mRun12, nI12, if_pos (nI_le (Nat.le_refl _) (by omega))]
  | succ d ih =>
    intro h f g hj hf hV hs hA hE
    obtain ⟨f, rfl⟩ : ∃ t, f = t + 1 := ⟨f - 1, by omega⟩
    rw [lup2_s, mRun12, nI12, if_neg (nI_ge (by omega) (by omega))]
    obtain ⟨g1, e1, A1, k1, F1⟩ := mInner hm hok hw hsk (lup2 B_X7_run_12 f) (h := h) (by omega) n 0 FU g (by omega) (by have := hok.1; unfold FU; omega) hV hs (by rw [seqJ_0, List.append_nil]; exact hA)
    rw [nI_0] at e1
    rw [e1, mRun80 _ _ (by omega)]
    obtain ⟨g2, e2, B2, F2⟩ := ih (h + 1) f (sF g1 20 (upd (g1.2 20) h (g1.2 14 0))) (by omega) (by omega) ((mv_sF (by decide)).trans (F1.mv.trans hV)) ((F1.2 0 (by omega)).trans hs) A1 (fun k hk => by
      show upd (g1.2 20) h (g1.2 14 0) k = _
      by_cases hkh : k = h
      · subst hkh
        rw [upd_at]
        exact A1.1.2.1.1
      · rw [upd_ne _ _ hkh, k1]
        exact hE k (by omega))
    refine ⟨g2, e2, B2, F1.trans (FrM.trans ?_ F2)⟩
    exact ⟨fun j hj => by rw [sF2, if_neg (by omega)], fun j hj => rfl⟩
theorem mRunFrom {g : Sg} {n m : Nat} {c1 x1 x2 : Int32} {sk : Nat → Bool} (hm : m = 1 ∨ m = 2) (hok : VOK (mv g) n) (hw : OKW (mv g) m c1) (hs : g.1 0 = nI n) (hsk : ∀ j, j < n → (nI j = x1 ↔ sk j = true)) (hS : ∃ h, M_X7_sets x2 g = some h ∧ Am (mv g) m c1 [] h ∧ FrM g h) : ∃ g1, M_X7_run x1 x2 g = some g1 ∧ RunM (mv g) n m c1 sk g1 ∧ FrM g g1 := by
  obtain ⟨h, e, A, F⟩ := hS
  obtain ⟨g1, e1, R1, F1⟩ := mOuter hm hok hw hsk 12 0 FU (sI h 5 0) (by omega) (by unfold FU; omega) (F.mv) ((F.2 0 (by omega)).trans hs) ⟨A, rfl, fun k hk => absurd hk (Nat.not_lt_zero k)⟩ (fun k hk => absurd hk (Nat.not_lt_zero k))
  refine ⟨g1, ?_, R1, F.trans (FrM.trans (h := sI h 5 0) ⟨fun j hj => rfl, fun j hj => ?_⟩ F1)⟩
  · unfold M_X7_run
    rw [e, bV_some, lt_eq, ← nI_0]
    exact e1
  · rw [sI1, if_neg (by omega)]
theorem OKW1 {V : Vw} {n : Nat} (h : VOK V n) (c1 : Int32) : OKW V 1 c1 := ⟨h.2.1, h.2.2.1, fun hm => absurd rfl hm⟩
theorem OKW2 {V : Vw} {n : Nat} (h : VOK V n) {c1 : Int32} (hc : rg 39 c1) : OKW V 2 c1 := ⟨h.2.1, h.2.2.1, fun _ => hc⟩
theorem nm9 {j : Nat} (hj : j < 1000) : ¬ nI j = -9 := fun e => by
  have h := congrArg Int32.toInt e
  rw [nI_toInt (by omega)] at h
  have h9 : (-9 : Int32).toInt = -9 := by decide
  rw [h9] at h
  omega
/-- all by hours, one lamp -/
theorem mRunAll {g : Sg} {n : Nat} (c1 : Int32) (hok : VOK (mv g) n) (hs : g.1 0 = nI n) : ∃ g1, M_X7_run_ g = some g1 ∧ RunM (mv g) n 1 c1 no g1 ∧ FrM g g1 := by
  obtain ⟨g1, e1, R1, F1⟩ := mRunFrom (x1 := -9) (x2 := -9) (sk := no) (Or.inl rfl) hok (OKW1 hok c1) hs (fun j hj => ⟨fun e => absurd e (nm9 (by have := hok.1; omega)), fun e => by cases e⟩) (mSets1 g c1)
  refine ⟨g1, ?_, R1, F1⟩
  unfold M_X7_run_
  rw [e1, bV_some]
theorem mRunBut {g : Sg} {n i : Nat} (c1 : Int32) (hok : VOK (mv g) n) (hs : g.1 0 = nI n) (hi : i < 7) : ∃ g1, M_X7_run (nI i) (-9) g = some g1 ∧ RunM (mv g) n 1 c1 (fun j => decide (j = i)) g1 ∧ FrM g g1 :=
  mRunFrom (x1 := nI i) (x2 := -9) (Or.inl rfl) hok (OKW1 hok c1) hs (fun j hj => ⟨fun e => decide_eq_true (nI_eq' (by have := hok.1; omega) (by omega) e), fun e => by rw [of_decide_eq_true e]⟩) (mSets1 g c1)
theorem mRunTwo {g : Sg} {n : Nat} {c1 : Int32} (hok : VOK (mv g) n) (hs : g.1 0 = nI n) (hc : rg 39 c1) : ∃ g1, M_X7_run (-9) c1 g = some g1 ∧ RunM (mv g) n 2 c1 no g1 ∧ FrM g g1 :=
  mRunFrom (x1 := -9) (x2 := c1) (sk := no) (Or.inr rfl) hok (OKW2 hok hc) hs (fun j hj => ⟨fun e => absurd e (nm9 (by have := hok.1; omega)), fun e => by cases e⟩) (mSets2 g (fun e => by
    rw [e] at hc
    have h9 : (-9 : Int32).toInt = -9 := by decide
    unfold rg at hc
    omega))
/-! sums over the goers in a sequence -/
def sumL (f : Nat → Int32) (gs : List Nat) : Int32 := gs.foldl (fun a i => a + f i) 0
theorem sumL_app (f : Nat → Int32) (gs : List Nat) (i : Nat) : sumL f (gs ++ [i]) = sumL f gs + f i := by
  unfold sumL
  rw [List.foldl_append]
  rfl
theorem sumL_congr {f k : Nat → Int32} : ∀ gs : List Nat, (∀ i, i ∈ gs → f i = k i) → sumL f gs = sumL k gs := by
  refine runW_snoc_ind (P := fun gs => (∀ i, i ∈ gs → f i = k i) → sumL f gs = sumL k gs) (fun _ => rfl) (fun gs i ih h => ?_)
  rw [sumL_app, sumL_app, ih (fun j hj => h j (List.mem_append_left _ hj)), h i (List.mem_append_right _ (List.mem_singleton.mpr rfl))]
theorem runW_sums (V : Vw) (m : Nat) (c1 : Int32) : ∀ gs : List Nat, gs.Nodup → runW V m c1 gs 9 1 = sumL (fun i => runW V m c1 gs 0 i * pDst V i) gs ∧ runW V m c1 gs 9 2 = sumL (fun i => runW V m c1 gs 0 i) gs ∧ runW V m c1 gs 9 3 = sumL (fun i => runW V m c1 gs 1 i) gs ∧ runW V m c1 gs 9 4 = sumL (fun i => runW V m c1 gs 3 i) gs := by
  refine runW_snoc_ind (P := fun gs => gs.Nodup → runW V m c1 gs 9 1 = sumL (fun i => runW V m c1 gs 0 i * pDst V i) gs ∧ runW V m c1 gs 9 2 = sumL (fun i => runW V m c1 gs 0 i) gs ∧ runW V m c1 gs 9 3 = sumL (fun i => runW V m c1 gs 1 i) gs ∧ runW V m c1 gs 9 4 = sumL (fun i => runW V m c1 gs 3 i) gs) (fun _ => ⟨rfl, rfl, rfl, rfl⟩) (fun gs i ih h => ?_)
  obtain ⟨h1, -, h3⟩ := List.nodup_append.mp h
  obtain ⟨a1, a2, a3, a4⟩ := ih h1
  have hne : ∀ j, j ∈ gs → j ≠ i := fun j hj => h3 j hj i (List.mem_singleton.mpr rfl)
  have k0 : ∀ j, j ∈ gs → runW V m c1 (gs ++ [i]) 0 j = runW V m c1 gs 0 j := fun j hj => by rw [runW_app]; exact upd_ne _ _ (hne j hj)
  have k1 : ∀ j, j ∈ gs → runW V m c1 (gs ++ [i]) 1 j = runW V m c1 gs 1 j := fun j hj => by rw [runW_app]; exact upd_ne _ _ (hne j hj)
  have k3 : ∀ j, j ∈ gs → runW V m c1 (gs ++ [i]) 3 j = runW V m c1 gs 3 j := fun j hj => by rw [runW_app]; exact upd_ne _ _ (hne j hj)
  rw [sumL_app, sumL_app, sumL_app, sumL_app, sumL_congr gs (fun j hj => congrArg (· * pDst V j) (k0 j hj)), sumL_congr gs k0, sumL_congr gs k1, sumL_congr gs k3, ← a1, ← a2, ← a3, ← a4]
  rw [runW_app]
  refine ⟨?_, ?_, ?_, ?_⟩
  · show runW V m c1 gs 9 1 + wD V m (runW V m c1 gs) i * pDst V i = _ + upd (runW V m c1 gs 0) i _ i * pDst V i
    rw [upd_at]
  · show runW V m c1 gs 9 2 + wD V m (runW V m c1 gs) i = _ + upd (runW V m c1 gs 0) i _ i
    rw [upd_at]
  · show runW V m c1 gs 9 3 + wL V m (runW V m c1 gs) i = _ + upd (runW V m c1 gs 1) i _ i
    rw [upd_at]
  · show runW V m c1 gs 9 4 + wH V m (runW V m c1 gs) i = _ + upd (runW V m c1 gs 3) i _ i
    rw [upd_at]
/-- the reference's cost of a walk -/
theorem mCostStep (kb4 : Int32 → Int32 → Sg → Option (Int32 × Sg)) {V : Vw} {gs : List Nat} {g : Sg} {j : Nat} (hV : mv g = V) (hl : gs.length ≤ 7) (h7 : ∀ i, i ∈ gs → i < 7) (ho : OrdM gs g) (hj : j < gs.length) (acc : Int32) : B_X7_cost_4 kb4 acc (nI j) g = kb4 (acc + g.2 16 (gs.getD j 0) * pDst V (gs.getD j 0)) (nI (j + 1)) g := by
  have hm : gs.getD j 0 < 7 := by
    rw [List.getD_eq_getElem?_getD, List.getElem?_eq_getElem hj]
    exact h7 _ (List.getElem_mem hj)
  unfold B_X7_cost_4
  rw [ho.1, if_neg (nI_ge hj (by omega)), chk_ok (vpN (by omega) (by decide)), rdN _ _ (by omega), ho.2 j hj, chk_ok (vpN hm (by decide)), chk_ok (vpN (by omega) (by decide)), mCst hm, bI_some, lt_eq, rdN _ _ (by omega), nI_1, hV]
theorem mCostL {V : Vw} {gs : List Nat} {g : Sg} (hV : mv g = V) (hl : gs.length ≤ 7) (h7 : ∀ i, i ∈ gs → i < 7) (ho : OrdM gs g) : ∀ (d j f : Nat), j + d = gs.length → d < f → lup2 B_X7_cost_4 f (sumL (fun i => g.2 16 i * pDst V i) (gs.take j)) (nI j) g = some (sumL (fun i => g.2 16 i * pDst V i) gs, g) := by
  intro d
  induction d with
  | zero =>
    intro j f hj hf
    obtain ⟨f, rfl⟩ : ∃ t, f = t + 1 := ⟨f - 1, by omega⟩
    rw [lup2_s, List.take_of_length_le (by omega)]
    unfold B_X7_cost_4
    rw [ho.1, if_pos (nI_le (by omega) (by omega))]
  | succ d ih =>
    intro j f hj hf
    obtain ⟨f, rfl⟩ : ∃ t, f = t + 1 := ⟨f - 1, by omega⟩
    have hj' : j < gs.length := by omega
    have e := ih (j + 1) f (by omega) (by omega)
    rw [List.take_succ_eq_append_getElem hj', sumL_app] at e
    rw [lup2_s, mCostStep _ hV hl h7 ho hj']
    rw [List.getD_eq_getElem?_getD, List.getElem?_eq_getElem hj']
    exact e
theorem mCost {V : Vw} {m : Nat} {c1 : Int32} {gs : List Nat} {g : Sg} (hV : mv g = V) (hn : gs.Nodup) (h7 : ∀ i, i ∈ gs → i < 7) (hA : AO V m c1 gs g) : M_X7_cost g = some (runW V m c1 gs 9 1, g) := by
  have hl : gs.length ≤ 7 := by
    have h := List.Nodup.length_le_of_subset (l₂ := List.range 7) hn (fun x hx => by rw [List.mem_range]; exact h7 x hx)
    rwa [List.length_range] at h
  have e := mCostL hV hl h7 hA.2 gs.length 0 FU (by omega) (by unfold FU; omega)
  unfold M_X7_cost
  rw [← nI_0]
  refine Eq.trans e ?_
  rw [(runW_sums V m c1 gs hn).1, sumL_congr gs (fun i hi => congrArg (· * pDst V i) (hA.1.2.2.2 i hi).1)]
