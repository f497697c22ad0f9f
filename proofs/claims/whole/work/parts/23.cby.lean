/-! D's walks: by hours, in an order -/
abbrev no : Nat → Bool := fun _ => false
theorem nI_eq' {a b : Nat} (ha : a < 2 ^ 31) (hb : b < 2 ^ 31) (h : nI a = nI b) : a = b := (nI_eq ha hb).mp h
theorem bI_some {β : Type} (x : Int32) (g : Sg) (k : Int32 → Sg → Option β) : bI (some (x, g)) k = k x g := rfl
theorem bV_some {β : Type} (g : Sg) (k : Sg → Option β) : bV (some g) k = k g := rfl
theorem cBy15 (a : Nat) (kb7 : Int32 → Sg → Option (Int32 × Sg)) (kb15 : Int32 → Int32 → Sg → Option (Int32 × Sg)) (x2 x3 : Int32) (g : Sg) : B_X5_byHours_15 a kb7 kb15 x2 x3 g = if (g.1 a) ≤ x3 then B_X5_byHours_47 a kb7 x2 g else if (rat g (a + 6) 7 x3) = x2 then bV (M_X5_go a x3 g) (fun g_2 => kb15 x2 (x3 + 1) g_2) else kb15 x2 (x3 + 1) g := by
  unfold B_X5_byHours_15
  rfl
theorem cInner {a : Nat} (ha : isAl a) {V : Vw} {n m : Nat} {c1 : Int32} (hm : m = 1 ∨ m = 2) (hn : n ≤ 7) (kb7 : Int32 → Sg → Option (Int32 × Sg)) {h : Nat} (hh : h < 12) : ∀ (d j f : Nat) (g : Sg), j + d = n → d < f → cv g a = V → g.1 a = nI n → AgC V m c1 (seqH V no n h ++ seqJ V no h j) g → ∃ g1, lup2 (B_X5_byHours_15 a kb7) f (nI h) (nI j) g = B_X5_byHours_47 a kb7 (nI h) g1 ∧ AgC V m c1 (seqH V no n (h + 1)) g1 ∧ g1.2 34 = g.2 34 ∧ FrC g g1 := by
  have ha17 := al17 ha
  intro d
  induction d with
  | zero =>
    intro j f g hj hf hV hs hA
    obtain ⟨f, rfl⟩ : ∃ t, f = t + 1 := ⟨f - 1, by omega⟩
    obtain rfl : j = n := by omega
    refine ⟨g, ?_, hA, rfl, FrC.rf g⟩
    rw [lup2_s, cBy15, hs, if_pos (nI_le (Nat.le_refl _) (by omega))]
  | succ d ih =>
    intro j f g hj hf hV hs hA
    obtain ⟨f, rfl⟩ : ∃ t, f = t + 1 := ⟨f - 1, by omega⟩
    have e5 : rat g (a + 6) 7 (nI j) = V 5 j := by rw [rat7 g (a + 6) (by omega), ← hV, cv5]
    rw [lup2_s, cBy15, hs, if_neg (nI_ge (by omega) (by omega)), e5]
    by_cases hc : V 5 j = nI h
    · rw [if_pos hc]
      obtain ⟨g1, e1, A1, k1, F1⟩ := AgC.step ha hm hV hA (i := j) (by omega) (by have := seq_len (V := V) (sk := no) (n := n) hh (by omega) hc; omega)
      rw [e1, bV_some, nI_1]
      obtain ⟨g2, e2, A2, k2, F2⟩ := ih (j + 1) f g1 (by omega) (by omega) ((F1.cv ha17).trans hV) ((F1.2 a (Or.inl (by omega))).trans hs) (by rw [seqJ_yes hc rfl, ← List.append_assoc]; exact A1)
      exact ⟨g2, e2, A2, k2.trans k1, F1.trans F2⟩
    · rw [if_neg hc, nI_1]
      exact ih (j + 1) f g (by omega) (by omega) hV hs (by rw [seqJ_no (Or.inl hc)]; exact hA)
def ByC (V : Vw) (n m : Nat) (c1 r : Int32) (g : Sg) : Prop := r = runW V m c1 (seqH V no n 12) 9 1 ∧ AgC V m c1 (seqH V no n 12) g ∧ ∀ h, h < 12 → g.2 34 h = runW V m c1 (seqH V no n (h + 1)) 4 0
theorem cBy7 (a : Nat) (kb7 : Int32 → Sg → Option (Int32 × Sg)) (x2 : Int32) (g : Sg) : B_X5_byHours_7 a kb7 x2 g = if 12 ≤ x2 then some (g.1 28, g) else lup2 (B_X5_byHours_15 a kb7) FU x2 0 g := by
  unfold B_X5_byHours_7
  rfl
theorem cBy47 (a : Nat) (kb7 : Int32 → Sg → Option (Int32 × Sg)) (x2 : Int32) (g : Sg) : B_X5_byHours_47 a kb7 x2 g = kb7 (x2 + 1) (rput g 34 12 x2 (V_X5_firstLamp g)) := by
  unfold B_X5_byHours_47
  rw [lt_eq]
theorem AgC.s34 {V : Vw} {m : Nat} {c1 : Int32} {gs : List Nat} {g : Sg} (h : AgC V m c1 gs g) (f : Nat → Int32) : AgC V m c1 gs (sF g 34 f) := h
theorem nI12 : (12 : Int32) = nI 12 := rfl
theorem cOuter {a : Nat} (ha : isAl a) {V : Vw} {n m : Nat} {c1 : Int32} (hm : m = 1 ∨ m = 2) (hn : n ≤ 7) : ∀ (d h f : Nat) (g : Sg), h + d = 12 → d < f → cv g a = V → g.1 a = nI n → AgC V m c1 (seqH V no n h) g → (∀ k, k < h → g.2 34 k = runW V m c1 (seqH V no n (k + 1)) 4 0) → ∃ r g1, lup1 (B_X5_byHours_7 a) f (nI h) g = some (r, g1) ∧ ByC V n m c1 r g1 ∧ FrC g g1 := by
  have ha17 := al17 ha
  intro d
  induction d with
  | zero =>
    intro h f g hj hf hV hs hA hE
    obtain ⟨f, rfl⟩ : ∃ t, f = t + 1 := ⟨f - 1, by omega⟩
    obtain rfl : h = 12 := by omega
    refine ⟨g.1 28, g, ?_, ⟨hA.2.2.1.1, hA, hE⟩, FrC.rf g⟩
    rw [lup1_s, cBy7, nI12, if_pos (nI_le (Nat.le_refl _) (by omega))]
  | succ d ih =>
    intro h f g hj hf hV hs hA hE
    obtain ⟨f, rfl⟩ : ∃ t, f = t + 1 := ⟨f - 1, by omega⟩
    rw [lup1_s, cBy7, nI12, if_neg (nI_ge (by omega) (by omega))]
    obtain ⟨g1, e1, A1, k1, F1⟩ := cInner ha hm hn (lup1 (B_X5_byHours_7 a) f) (h := h) (by omega) n 0 FU g (by omega) (by unfold FU; omega) hV hs (by rw [seqJ_0, List.append_nil]; exact hA)
    rw [nI_0] at e1
    rw [e1, cBy47, nI_1]
    have hv : vp_in (nI h) 12 := vp_in_nI (by omega) (by decide)
    have hx : ix (nI h) = h := nI_clamp (by omega)
    rw [rput_l g1 34 12 (nI h) _ h (by decide) hv hx, cFL]
    obtain ⟨r, g2, e2, B2, F2⟩ := ih (h + 1) f (sF g1 34 (upd (g1.2 34) h (g1.2 35 0))) (by omega) (by omega) ((cv_sF ha17 (by decide)).trans ((F1.cv ha17).trans hV)) ((F1.2 a (Or.inl (by omega))).trans hs) (A1.s34 _) (fun k hk => by
      show upd (g1.2 34) h (g1.2 35 0) k = _
      by_cases hkh : k = h
      · subst hkh
        rw [upd_at]
        exact A1.2.1.1
      · rw [upd_ne _ _ hkh, k1]
        exact hE k (by omega))
    refine ⟨r, g2, e2, B2, F1.trans (FrC.trans ?_ F2)⟩
    exact ⟨fun j hj => by rw [sF2, if_neg (by omega)], fun j hj => rfl⟩
theorem cBy {a : Nat} (ha : isAl a) {g : Sg} {n : Nat} (hn : n ≤ 7) (hs : g.1 a = nI n) : ∃ r g1, M_X5_byHours a g = some (r, g1) ∧ ByC (cv g a) n (lampsOf (g.1 (a + 1))) (g.1 (a + 1)) r g1 ∧ FrC g g1 := by
  have ha17 := al17 ha
  obtain ⟨h, e, A, k, F⟩ := cBegin ha g
  obtain ⟨r, g1, e1, B1, F1⟩ := cOuter ha (lampsOf_or (g.1 (a + 1))) hn 12 0 FU h (by omega) (by unfold FU; omega) (F.cv ha17) ((F.2 a (Or.inl (by omega))).trans hs) A (fun k hk => absurd hk (Nat.not_lt_zero k))
  refine ⟨r, g1, ?_, B1, F.trans F1⟩
  unfold M_X5_byHours
  rw [e, bV_some, ← nI_0]
  exact e1
theorem cIn7 (a k1 n1 : Nat) (kb7 : Int32 → Sg → Option (Int32 × Sg)) (x3 : Int32) (g : Sg) : B_X5_inOrder_7 a k1 n1 kb7 x3 g = if (g.1 a) ≤ x3 then some (g.1 28, g) else bV (M_X5_go a (rat g k1 n1 x3) g) (fun g_2 => kb7 (x3 + 1) g_2) := by
  unfold B_X5_inOrder_7
  rfl
theorem cOrdL {a k1 : Nat} (ha : isAl a) (hk1 : 36 < k1) {V : Vw} {n m : Nat} {c1 : Int32} {q : Nat → Nat} (hm : m = 1 ∨ m = 2) (hn : n ≤ 7) (hq : ∀ i, i < n → q i < 7) : ∀ (d j f : Nat) (g : Sg), j + d = n → d < f → cv g a = V → g.1 a = nI n → (∀ i, i < n → g.2 k1 i = nI (q i)) → AgC V m c1 ((List.range j).map q) g → ∃ r g1, lup1 (B_X5_inOrder_7 a k1 7) f (nI j) g = some (r, g1) ∧ r = runW V m c1 ((List.range n).map q) 9 1 ∧ AgC V m c1 ((List.range n).map q) g1 ∧ FrC g g1 := by
  have ha17 := al17 ha
  intro d
  induction d with
  | zero =>
    intro j f g hj hf hV hs hp hA
    obtain ⟨f, rfl⟩ : ∃ t, f = t + 1 := ⟨f - 1, by omega⟩
    obtain rfl : j = n := by omega
    refine ⟨g.1 28, g, ?_, hA.2.2.1.1, hA, FrC.rf g⟩
    rw [lup1_s, cIn7, hs, if_pos (nI_le (Nat.le_refl _) (by omega))]
  | succ d ih =>
    intro j f g hj hf hV hs hp hA
    obtain ⟨f, rfl⟩ : ∃ t, f = t + 1 := ⟨f - 1, by omega⟩
    rw [lup1_s, cIn7, hs, if_neg (nI_ge (by omega) (by omega)), rat7 g k1 (i := j) (by omega), hp j (by omega)]
    obtain ⟨g1, e1, A1, k1', F1⟩ := AgC.step ha hm hV hA (i := q j) (hq j (by omega)) (by rw [List.length_map, List.length_range]; omega)
    rw [e1, bV_some, nI_1]
    obtain ⟨r, g2, e2, r2, A2, F2⟩ := ih (j + 1) f g1 (by omega) (by omega) ((F1.cv ha17).trans hV) ((F1.2 a (Or.inl (by omega))).trans hs) (fun i hi => by rw [F1.1 k1 (Or.inr hk1)]; exact hp i hi) (by rw [List.range_succ, List.map_append]; exact A1)
    exact ⟨r, g2, e2, r2, A2, F1.trans F2⟩
theorem cOrd {a k1 : Nat} (ha : isAl a) (hk1 : 36 < k1) {g : Sg} {n : Nat} {q : Nat → Nat} (hn : n ≤ 7) (hs : g.1 a = nI n) (hq : ∀ i, i < n → q i < 7) (hp : ∀ i, i < n → g.2 k1 i = nI (q i)) : ∃ r g1, M_X5_inOrder a k1 7 g = some (r, g1) ∧ r = runW (cv g a) (lampsOf (g.1 (a + 1))) (g.1 (a + 1)) ((List.range n).map q) 9 1 ∧ AgC (cv g a) (lampsOf (g.1 (a + 1))) (g.1 (a + 1)) ((List.range n).map q) g1 ∧ FrC g g1 := by
  have ha17 := al17 ha
  obtain ⟨h, e, A, k, F⟩ := cBegin ha g
  obtain ⟨r, g1, e1, r1, A1, F1⟩ := cOrdL ha hk1 (lampsOf_or (g.1 (a + 1))) hn hq n 0 FU h (by omega) (by unfold FU; omega) (F.cv ha17) ((F.2 a (Or.inl (by omega))).trans hs) (fun i hi => by rw [F.1 k1 (Or.inr hk1)]; exact hp i hi) A
  refine ⟨r, g1, ?_, r1, A1, F.trans F1⟩
  unfold M_X5_inOrder
  rw [e, bV_some, ← nI_0]
  exact e1
