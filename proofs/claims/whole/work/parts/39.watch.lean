/-! The least oil; the midwife; the watch -/
def lo (F : Nat → Int32) (t : Int32) : Nat → Nat
  | 0 => 200
  | d + 1 => if F (199 - d) = t then 199 - d else lo F t d
theorem lo_s (F : Nat → Int32) (t : Int32) (d : Nat) : lo F t (d + 1) = if F (199 - d) = t then 199 - d else lo F t d := rfl
theorem cLO {V : Vw} {n : Nat} (hv : VOK V n) {gc : Sg} (x : Int32) : ∀ (d k f : Nat) (h : Sg) (W : Vw), k + d = 200 → d < f → (∀ x, Up 0 1 W x = Up 0 1 V x) → Tr W n (-1) gc h → ∃ h1, lup2 B_X6_leastOil_37 f x (nI k) h = some (nI (lo (fun c => co (Up 0 1 V (nI c)) n 1 (-1)) x d), h1) ∧ QC gc h1 := by
  intro d
  induction d with
  | zero =>
    intro k f h W hk hf hW t
    obtain ⟨f, rfl⟩ : ∃ t, f = t + 1 := ⟨f - 1, by omega⟩
    obtain rfl : k = 200 := by omega
    rw [lup2_s]
    unfold B_X6_leastOil_37
    rw [if_pos (show (200 : Int32) ≤ nI 200 by decide)]
    exact ⟨h, rfl, t.2.2.2.2⟩
  | succ d ih =>
    intro k f h W hk hf hW t
    obtain ⟨f, rfl⟩ : ∃ t, f = t + 1 := ⟨f - 1, by omega⟩
    obtain rfl : k = 199 - d := by omega
    have e0 : M_X0_settle 17 1 (nI (199 - d)) h = _ := settle17 (h := h) (i := 1) (x := nI (199 - d)) (m := nI 200) (by decide) rfl (nlit (by omega) (by decide))
    have t0 := t.up (k := 0) (i := 1) (by decide) (by decide) (nI (199 - d))
    rw [hW] at t0
    obtain ⟨h1, e1, t1, -⟩ := t0.by hv.1
    rw [lamps1] at e1
    obtain ⟨h2, e2, q2⟩ := ih (199 - d + 1) f h1 (Up 0 1 V (nI (199 - d))) (by omega) (by omega) (fun x => Up_up 0 1 V _ x) t1
    rw [lup2_s, lo_s]
    generalize lup2 B_X6_leastOil_37 f = self at e2 ⊢
    unfold B_X6_leastOil_37
    rw [if_neg (show ¬ (200 : Int32) ≤ nI (199 - d) from (nI_ge (show 199 - d < 200 by omega) (by decide) : ¬ nI 200 ≤ nI (199 - d))), e0, bI_some, e1, bI_some, nI_1]
    by_cases c : co (Up 0 1 V (nI (199 - d))) n 1 (-1) = x
    · rw [if_pos c, if_pos c]
      exact ⟨h1, rfl, t1.2.2.2.2⟩
    · rw [if_neg c, if_neg c]
      exact ⟨h2, e2, q2⟩
theorem nI_m1 (k : Nat) (h : k < 1000) : nI (k + 1) + (-1) = nI k := by
  apply i_eq
  have t1 : (-1 : Int32).toInt = -1 := by decide
  rw [T_add (by rw [t1, T_nI (by omega)]; omega) (by rw [t1, T_nI (by omega)]; omega), t1, T_nI (by omega), T_nI (by omega)]
  omega
theorem mLO {V : Vw} {n : Nat} (hv : VOK V n) {gm : Sg} {x1 : Int32} (hx1 : x1 = V 0 1) (x : Int32) : ∀ (k d f : Nat) (h : Sg) (W : Vw), k + d = 200 → k < f → (∀ x, Up 0 1 W x = Up 0 1 V x) → Mt W n gm h → ∃ h1, lup4 B_X7_leastOil_30 f x1 x (nI (lo (fun c => co (Up 0 1 V (nI c)) n 1 (-1)) x d)) (nI k + (-1)) h = some (nI (lo (fun c => co (Up 0 1 V (nI c)) n 1 (-1)) x 200), h1) ∧ Mt V n gm h1 := by
  intro k
  induction k with
  | zero =>
    intro d f h W hk hf hW t
    obtain ⟨f, rfl⟩ : ∃ t, f = t + 1 := ⟨f - 1, by omega⟩
    obtain rfl : d = 200 := by omega
    rw [lup4_s]
    generalize lup4 B_X7_leastOil_30 f = self
    unfold B_X7_leastOil_30
    rw [if_pos (show nI 0 + (-1) < 0 by decide)]
    unfold B_X7_leastOil_60
    have t0 := t.up (k := 0) (i := 1) (by decide) (V 0 1)
    rw [hW, Up_id] at t0
    have w : wr h 6 1 x1 = sF h 6 (upd (h.2 6) 1 x1) := wrN h 6 (i := 1) (by decide) x1
    rw [lt_eq, w, hx1]
    exact ⟨_, rfl, t0⟩
  | succ k ih =>
    intro d f h W hk hf hW t
    obtain ⟨f, rfl⟩ : ∃ t, f = t + 1 := ⟨f - 1, by omega⟩
    rw [nI_m1 k (by omega)]
    obtain rfl : k = 199 - d := by omega
    have hv2 : VOK (Up 0 1 V (nI (199 - d))) n := hv.oil (rg_nI (by omega) (by omega))
    have t0 := t.up (k := 0) (i := 1) (by decide) (nI (199 - d))
    rw [hW] at t0
    have w : wr h 6 1 (nI (199 - d)) = sF h 6 (upd (h.2 6) 1 (nI (199 - d))) := wrN h 6 (i := 1) (by decide) _
    obtain ⟨h1, e1, t1⟩ := t0.cost hv2
    have e1 : M_X7_costNow (sF h 6 (upd (h.2 6) 1 (nI (199 - d)))) = _ := e1
    obtain ⟨h2, e2, t2⟩ := ih (d + 1) f h1 (Up 0 1 V (nI (199 - d))) (by omega) (by omega) (fun x => Up_up 0 1 V _ x) t1
    refine ⟨h2, ?_, t2⟩
    rw [lup4_s, ← e2, lo_s]
    generalize lup4 B_X7_leastOil_30 f = self
    unfold B_X7_leastOil_30
    rw [if_neg (nI_pos (by omega)), lt_eq, w, e1, bI_some]
    by_cases c : co (Up 0 1 V (nI (199 - d))) n 1 (-1) = x
    · rw [if_pos c, if_pos c]
    · rw [if_neg c, if_neg c]
theorem op_leastOil (gc gm : Sg) (r : Rel gc gm) : Ans Rel (M_X6_leastOil gc) (M_X7_leastOil gm) := by
  have r0 := r
  obtain ⟨⟨n, rA⟩, -⟩ := r
  have hv := rA.1
  obtain ⟨h, e, t⟩ := tri2 rA
  have hv0 : VOK (Up 0 1 (mv gm) (nI 200)) n := hv.oil (rg_nI (by omega) (by omega))
  have ea : M_X0_settle 17 1 200 h = _ := settle17 (h := h) (i := 1) (x := nI 200) (m := nI 200) (by decide) rfl (nlit (by omega) (by decide))
  have ta := t.up (k := 0) (i := 1) (by decide) (by decide) (nI 200)
  obtain ⟨h0, e0, t0, -⟩ := ta.by hv.1
  rw [lamps1] at e0
  obtain ⟨h1, e1, q1⟩ := cLO hv (co (Up 0 1 (mv gm) (nI 200)) n 1 (-1)) 200 0 FU h0 _ (by decide) (by unfold FU; omega) (fun x => Up_up 0 1 (mv gm) _ x) t0
  have e1 : lup2 B_X6_leastOil_37 FU (co (Up 0 1 (mv gm) (nI 200)) n 1 (-1)) 0 h0 = _ := e1
  have tb := (Mt.rf rA.2.2.1).up (k := 0) (i := 1) (by decide) (nI 200)
  obtain ⟨m0, em, tm⟩ := tb.cost hv0
  have em : M_X7_costNow (sF gm 6 (upd (gm.2 6) 1 (nI 200))) = _ := em
  have hx : rd gm 6 1 = mv gm 0 1 := rdN gm 6 (i := 1) (by decide)
  obtain ⟨m1, e2, t2⟩ := mLO hv hx (co (Up 0 1 (mv gm) (nI 200)) n 1 (-1)) 200 0 FU m0 _ (by decide) (by unfold FU; omega) (fun x => Up_up 0 1 (mv gm) _ x) tm
  have w : wr gm 6 1 200 = sF gm 6 (upd (gm.2 6) 1 (nI 200)) := wrN gm 6 (i := 1) (by decide) (nI 200)
  have e2 : lup4 B_X7_leastOil_30 FU (rd gm 6 1) (co (Up 0 1 (mv gm) (nI 200)) n 1 (-1)) 200 199 m0 = _ := e2
  unfold M_X6_leastOil M_X7_leastOil
  rw [lt_eq, e, ea, bI_some, e0, bI_some, e1, lt_eq, w, em, bI_some, e2]
  exact Ans.q r0 q1 t2.q
def mx (f : Nat → Int32) : Nat → Nat × Int32
  | 0 => (0, -1)
  | k + 1 => if f k ≤ (mx f k).2 then mx f k else (k, f k)
theorem mx_s (f : Nat → Int32) (k : Nat) : mx f (k + 1) = if f k ≤ (mx f k).2 then mx f k else (k, f k) := rfl
theorem mx_1 {f : Nat → Int32} (h : rg 39 (f 0)) : mx f 1 = (0, f 0) := by
  rw [mx_s, if_neg]
  intro e
  rw [i_le] at e
  have h1 : (mx f 0).2.toInt = -1 := (by decide : (-1 : Int32).toInt = -1)
  have h2 := h.1
  omega
theorem mx_b {f : Nat → Int32} {N : Nat} (h : rg 39 (f 0)) : ∀ k, 0 < k → k ≤ N → (mx f k).1 < k ∧ (mx f k).2 = f (mx f k).1
  | 0, h0, _ => absurd h0 (Nat.lt_irrefl 0)
  | 1, _, h1 => by rw [mx_1 h]; exact ⟨by omega, rfl⟩
  | k + 2, _, h2 => by
    obtain ⟨b, c⟩ := mx_b (N := N) h (k + 1) (by omega) (by omega)
    rw [mx_s]
    by_cases e : f (k + 1) ≤ (mx f (k + 1)).2
    · rw [if_pos e]; exact ⟨by omega, c⟩
    · rw [if_neg e]; exact ⟨by show k + 1 < k + 1 + 1; omega, rfl⟩
def lampE (V : Vw) (n h : Nat) : Int32 := runW V 1 (-1) (seqH V no n (h + 1)) 4 0
theorem lampE_b {V : Vw} {n : Nat} (hv : VOK V n) (h : Nat) : rg 39 (lampE V n h) := (runW_bd (OKW1 hv (-1)) (seqH V no n (h + 1)) (fun i hi => ⟨by have := (memH hi).1; have := hv.1; omega, hv.g (memH hi).1⟩)).1
theorem cMw {V : Vw} {n : Nat} {g : Sg} {x : Int32} (hE : ∀ h, h < 12 → g.2 34 h = lampE V n h) : ∀ (d k f : Nat), k + d = 12 → d < f → lup4 B_X6_midwife_32 f x (mx (fun h => iabs (lampE V n h - x)) k).2 (nI (mx (fun h => iabs (lampE V n h - x)) k).1) (nI k) g = some (nI (mx (fun h => iabs (lampE V n h - x)) 12).1, g) := by
  intro d
  induction d with
  | zero =>
    intro k f hk hf
    obtain ⟨f, rfl⟩ : ∃ t, f = t + 1 := ⟨f - 1, by omega⟩
    obtain rfl : k = 12 := by omega
    rw [lup4_s]
    unfold B_X6_midwife_32
    rw [if_pos (show (12 : Int32) ≤ nI 12 by decide)]
  | succ d ih =>
    intro k f hk hf
    obtain ⟨f, rfl⟩ : ∃ t, f = t + 1 := ⟨f - 1, by omega⟩
    have e := ih (k + 1) f (by omega) (by omega)
    rw [lup4_s, ← e]
    generalize lup4 B_X6_midwife_32 f = self
    unfold B_X6_midwife_32
    rw [if_neg (show ¬ (12 : Int32) ≤ nI k from (nI_ge (show k < 12 by omega) (by decide) : ¬ nI 12 ≤ nI k)), lt_eq, rat_l g 34 12 (nI k) k (by decide) (vpN (by omega) (by decide)) (nI_clamp (by omega)), hE k (by omega), nI_1, mx_s]
    by_cases c : iabs (lampE V n k - x) ≤ (mx (fun h => iabs (lampE V n h - x)) k).2
    · rw [if_pos c, if_pos c]
    · rw [if_neg c, if_neg c]
theorem mMw {V : Vw} {n : Nat} {g : Sg} {x : Int32} (h0 : rg 39 (iabs (lampE V n 0 - x))) (hE : ∀ h, h < 12 → g.2 20 h = lampE V n h) : ∀ (d k f : Nat), 0 < k → k + d = 12 → d < f → lup3 B_X7_midwife_21 f x (nI (mx (fun h => iabs (lampE V n h - x)) k).1) (nI k) g = some (nI (mx (fun h => iabs (lampE V n h - x)) 12).1, g) := by
  intro d
  induction d with
  | zero =>
    intro k f k0 hk hf
    obtain ⟨f, rfl⟩ : ∃ t, f = t + 1 := ⟨f - 1, by omega⟩
    obtain rfl : k = 12 := by omega
    rw [lup3_s]
    unfold B_X7_midwife_21
    rw [if_pos (show (12 : Int32) ≤ nI 12 by decide)]
  | succ d ih =>
    intro k f k0 hk hf
    obtain ⟨f, rfl⟩ : ∃ t, f = t + 1 := ⟨f - 1, by omega⟩
    have e := ih (k + 1) f (by omega) (by omega) (by omega)
    obtain ⟨b1, b2⟩ := mx_b (N := 12) (f := fun h => iabs (lampE V n h - x)) h0 k k0 (by omega)
    rw [lup3_s, ← e, mx_s]
    generalize lup3 B_X7_midwife_21 f = self
    unfold B_X7_midwife_21
    rw [if_neg (show ¬ (12 : Int32) ≤ nI k from (nI_ge (show k < 12 by omega) (by decide) : ¬ nI 12 ≤ nI k)), chk_ok (vpN (by omega) (by decide)), chk_ok (vpN (by omega) (by decide)), rdN _ _ (by omega), rdN _ _ (by omega), hE k (by omega), hE _ (by omega), nI_1]
    have b2 : (mx (fun h => iabs (lampE V n h - x)) k).2 = iabs (lampE V n (mx (fun h => iabs (lampE V n h - x)) k).1 - x) := b2
    rw [← b2]
    by_cases c : iabs (lampE V n k - x) ≤ (mx (fun h => iabs (lampE V n h - x)) k).2
    · rw [if_pos c, if_pos c]
    · rw [if_neg c, if_neg c]
theorem op_midwife (gc gm : Sg) (x : Int32) (r : Rel gc gm) : Ans Rel (M_X6_midwife x gc) (M_X7_midwife x gm) := by
  have r0 := r
  obtain ⟨⟨n, rA⟩, -⟩ := r
  unfold M_X6_midwife M_X7_midwife
  rcases cell_or gc gm x with ⟨hx, h1, h2⟩ | ⟨h1, h2⟩
  · rw [if_neg h1, if_neg h2]
    have hv := rA.1
    obtain ⟨v, gc1, gm1, e1, B, F, e2, R, G⟩ := both rA
    have h0 := rg_abs (lampE_b hv 0) hx
    have c1 : lup4 B_X6_midwife_32 FU x (-1) 0 0 gc1 = _ := cMw (V := mv gm) (n := n) (x := x) (g := gc1) B.2.2 12 0 FU (by decide) (by unfold FU; omega)
    have c2 := mMw (V := mv gm) (n := n) (x := x) (g := gm1) h0 R.2 11 1 FU (by decide) (by decide) (by unfold FU; omega)
    rw [mx_1 (f := fun h => iabs (lampE (mv gm) n h - x)) h0] at c2
    have c2 : lup3 B_X7_midwife_21 FU x 0 1 gm1 = _ := c2
    rw [e1, e2, bI_some, bV_some, c1, c2]
    exact Ans.q r0 F.q G.q
  · rw [if_pos h1, if_pos h2]
    exact ref_ans r0 (-1) 1 (vpl (by decide)) (by decide)
