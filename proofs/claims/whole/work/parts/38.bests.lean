/-! The best of the pump's places, of a goer's hours; the least oil -/
theorem settle17 {h : Sg} {i : Nat} {x m : Int32} (hi : i < 3) (hr : ratZ (nI i) = m) (hx : x ≤ m) : M_X0_settle 17 (nI i) x h = some (1, sF h (17 + (0 + 1)) (upd (h.2 (17 + (0 + 1))) i x)) := by
  unfold M_X0_settle
  rw [hr, if_pos hx, lt_eq, rput_l h (17 + 1) 3 (nI i) x i (by decide) (vpN hi (by decide)) (nI_clamp (by omega))]
theorem nlit {k N : Nat} (h : k ≤ N) (hN : N < 1000) : nI k ≤ nI N := nI_le h (by omega)
theorem cBP {V : Vw} {n : Nat} (hv : VOK V n) {gc : Sg} : ∀ (d k f : Nat) (h : Sg) (W : Vw), k + d = 40 → d < f → (∀ x, Up 0 0 W x = Up 0 0 V x) → Tr W n (-1) gc h → ∃ h1, lup3 B_X6_bestPump_18 f (nI (am (fun c => co (Up 0 0 V (nI c)) n 1 (-1)) k).1) (am (fun c => co (Up 0 0 V (nI c)) n 1 (-1)) k).2 (nI k) h = some (nI (am (fun c => co (Up 0 0 V (nI c)) n 1 (-1)) 40).1, h1) ∧ QC gc h1 := by
  intro d
  induction d with
  | zero =>
    intro k f h W hk hf hW t
    obtain ⟨f, rfl⟩ : ∃ t, f = t + 1 := ⟨f - 1, by omega⟩
    obtain rfl : k = 40 := by omega
    rw [lup3_s]
    unfold B_X6_bestPump_18
    rw [if_pos (show (40 : Int32) ≤ nI 40 by decide)]
    exact ⟨h, rfl, t.2.2.2.2⟩
  | succ d ih =>
    intro k f h W hk hf hW t
    obtain ⟨f, rfl⟩ : ∃ t, f = t + 1 := ⟨f - 1, by omega⟩
    have e0 : M_X0_settle 17 0 (nI k) h = _ := settle17 (h := h) (i := 0) (x := nI k) (m := nI 39) (by decide) rfl (nlit (by omega) (by decide))
    have t0 := t.up (k := 0) (i := 0) (by decide) (by decide) (nI k)
    rw [hW] at t0
    obtain ⟨h1, e1, t1, -⟩ := t0.by hv.1
    rw [lamps1] at e1
    obtain ⟨h2, e2, q2⟩ := ih (k + 1) f h1 (Up 0 0 V (nI k)) (by omega) (by omega) (fun x => Up_up 0 0 V _ x) t1
    refine ⟨h2, ?_, q2⟩
    rw [lup3_s, ← e2]
    generalize lup3 B_X6_bestPump_18 f = self
    unfold B_X6_bestPump_18
    rw [if_neg (show ¬ (40 : Int32) ≤ nI k from (nI_ge (show k < 40 by omega) (by decide) : ¬ nI 40 ≤ nI k)), e0, bI_some, e1, bI_some, nI_1, am_s]
    by_cases c : (am (fun c => co (Up 0 0 V (nI c)) n 1 (-1)) k).2 ≤ co (Up 0 0 V (nI k)) n 1 (-1)
    · rw [if_pos c, if_pos c]
    · rw [if_neg c, if_neg c]
theorem mBP {V : Vw} {n : Nat} (hv : VOK V n) {gm : Sg} {x1 : Int32} (hx1 : x1 = V 0 0) : ∀ (d k f : Nat) (h : Sg) (W : Vw), 0 < k → k + d = 40 → d < f → (∀ x, Up 0 0 W x = Up 0 0 V x) → Mt W n gm h → ∃ h1, lup4 B_X7_bestPump_14 f x1 (nI (am (fun c => co (Up 0 0 V (nI c)) n 1 (-1)) k).1) (am (fun c => co (Up 0 0 V (nI c)) n 1 (-1)) k).2 (nI k) h = some (nI (am (fun c => co (Up 0 0 V (nI c)) n 1 (-1)) 40).1, h1) ∧ Mt V n gm h1 := by
  intro d
  induction d with
  | zero =>
    intro k f h W k0 hk hf hW t
    obtain ⟨f, rfl⟩ : ∃ t, f = t + 1 := ⟨f - 1, by omega⟩
    obtain rfl : k = 40 := by omega
    rw [lup4_s]
    unfold B_X7_bestPump_14
    rw [if_pos (show (40 : Int32) ≤ nI 40 by decide)]
    unfold B_X7_bestPump_60
    have t0 := t.up (k := 0) (i := 0) (by decide) (V 0 0)
    rw [hW, Up_id] at t0
    have w : wr h 6 0 x1 = sF h 6 (upd (h.2 6) 0 x1) := wrN h 6 (i := 0) (by decide) x1
    rw [lt_eq, w, hx1]
    exact ⟨_, rfl, t0⟩
  | succ d ih =>
    intro k f h W k0 hk hf hW t
    obtain ⟨f, rfl⟩ : ∃ t, f = t + 1 := ⟨f - 1, by omega⟩
    have hv2 : ∀ c, c < 40 → VOK (Up 0 0 V (nI c)) n := fun c hc => hv.pump (rg_nI (by omega) (by omega))
    have hb : ∀ c, c < 40 → rg 19656 (co (Up 0 0 V (nI c)) n 1 (-1)) := fun c hc => co_b (hv2 c hc) (OKW1 (hv2 c hc) _)
    obtain ⟨b1, b2, b3⟩ := am_b hb k k0 (by omega)
    have t0 := t.up (k := 0) (i := 0) (by decide) (nI k)
    rw [hW] at t0
    have w : wr h 6 0 (nI k) = sF h 6 (upd (h.2 6) 0 (nI k)) := wrN h 6 (i := 0) (by decide) (nI k)
    obtain ⟨h1, e1, t1⟩ := t0.cost (hv2 k (by omega))
    have e1 : M_X7_costNow (sF h 6 (upd (h.2 6) 0 (nI k))) = _ := e1
    obtain ⟨h2, e2, t2⟩ := ih (k + 1) f h1 (Up 0 0 V (nI k)) (by omega) (by omega) (by omega) (fun x => Up_up 0 0 V _ x) t1
    refine ⟨h2, ?_, t2⟩
    rw [lup4_s, ← e2]
    generalize lup4 B_X7_bestPump_14 f = self
    unfold B_X7_bestPump_14
    rw [if_neg (show ¬ (40 : Int32) ≤ nI k from (nI_ge (show k < 40 by omega) (by decide) : ¬ nI 40 ≤ nI k)), lt_eq, w, e1, bI_some, if_neg (rg_0 b1), nI_1, am_s]
    by_cases c : (am (fun c => co (Up 0 0 V (nI c)) n 1 (-1)) k).2 ≤ co (Up 0 0 V (nI k)) n 1 (-1)
    · rw [if_pos c, if_neg (fun e => (nl.mp e) c)]
    · rw [if_neg c, if_pos (nl.mpr c)]
theorem op_bestPump (gc gm : Sg) (r : Rel gc gm) : Ans Rel (M_X6_bestPump gc) (M_X7_bestPump gm) := by
  have r0 := r
  obtain ⟨⟨n, rA⟩, -⟩ := r
  have hv := rA.1
  obtain ⟨h, e, t⟩ := tri2 rA
  obtain ⟨h1, e1, q1⟩ := cBP hv 40 0 FU h (mv gm) (by decide) (by unfold FU; omega) (fun _ => rfl) t
  have hv0 : VOK (Up 0 0 (mv gm) (nI 0)) n := hv.pump (rg_nI (by omega) (by omega))
  have b0 : rg 19656 (co (Up 0 0 (mv gm) (nI 0)) n 1 (-1)) := co_b hv0 (OKW1 hv0 _)
  have t0 := (Mt.rf rA.2.2.1).up (k := 0) (i := 0) (by decide) (nI 0)
  obtain ⟨m0, em, tm⟩ := t0.cost hv0
  have em : M_X7_costNow (sF gm 6 (upd (gm.2 6) 0 (nI 0))) = _ := em
  have hx : rd gm 6 0 = mv gm 0 0 := rdN gm 6 (i := 0) (by decide)
  obtain ⟨m1, e2, t2⟩ := mBP hv hx 39 1 999 m0 _ (by decide) (by decide) (by omega) (fun x => Up_up 0 0 (mv gm) _ x) tm
  rw [am_1 (f := fun c => co (Up 0 0 (mv gm) (nI c)) n 1 (-1)) b0] at e2
  have e3 : M_X7_bestPump gm = some (nI (am (fun c => co (Up 0 0 (mv gm) (nI c)) n 1 (-1)) 40).1, m1) := by
    rw [← e2]
    unfold M_X7_bestPump
    rw [FU_s, lup4_s]
    generalize lup4 B_X7_bestPump_14 999 = self
    unfold B_X7_bestPump_14
    have w : wr gm 6 0 0 = sF gm 6 (upd (gm.2 6) 0 (nI 0)) := wrN gm 6 (i := 0) (by decide) (nI 0)
    rw [if_neg (by decide), lt_eq, w, em, bI_some, if_pos (by decide)]
    rfl
  unfold M_X6_bestPump
  rw [e3, lt_eq, e]
  have e4 : lup3 B_X6_bestPump_18 FU 0 2147483647 0 h = _ := e1
  rw [e4]
  exact Ans.q r0 q1 t2.q
theorem cBH {V : Vw} {n i : Nat} (hv : VOK V n) (hi : i < 7) {gc : Sg} : ∀ (d k f : Nat) (h : Sg) (W : Vw), k + d = 12 → d < f → (∀ x, Up 5 i W x = Up 5 i V x) → Tr W n (-1) gc h → ∃ h1, lup4 B_X6_bestHour_36 f (nI i) (nI (am (fun c => co (Up 5 i V (nI c)) n 1 (-1)) k).1) (am (fun c => co (Up 5 i V (nI c)) n 1 (-1)) k).2 (nI k) h = some (nI (am (fun c => co (Up 5 i V (nI c)) n 1 (-1)) 12).1, h1) ∧ QC gc h1 := by
  intro d
  induction d with
  | zero =>
    intro k f h W hk hf hW t
    obtain ⟨f, rfl⟩ : ∃ t, f = t + 1 := ⟨f - 1, by omega⟩
    obtain rfl : k = 12 := by omega
    rw [lup4_s]
    unfold B_X6_bestHour_36
    rw [if_pos (show (12 : Int32) ≤ nI 12 by decide)]
    exact ⟨h, rfl, t.2.2.2.2⟩
  | succ d ih =>
    intro k f h W hk hf hW t
    obtain ⟨f, rfl⟩ : ∃ t, f = t + 1 := ⟨f - 1, by omega⟩
    have t0 := t.up (k := 5) (i := i) (by decide) (by rw [if_neg (by decide)]; exact hi) (nI k)
    rw [hW] at t0
    obtain ⟨h1, e1, t1, -⟩ := t0.by hv.1
    rw [lamps1] at e1
    have e1 : M_X5_byHours 17 (sF h 23 (upd (h.2 23) i (nI k))) = _ := e1
    obtain ⟨h2, e2, q2⟩ := ih (k + 1) f h1 (Up 5 i V (nI k)) (by omega) (by omega) (fun x => Up_up 5 i V _ x) t1
    refine ⟨h2, ?_, q2⟩
    rw [lup4_s, ← e2]
    generalize lup4 B_X6_bestHour_36 f = self
    unfold B_X6_bestHour_36
    rw [if_neg (show ¬ (12 : Int32) ≤ nI k from (nI_ge (show k < 12 by omega) (by decide) : ¬ nI 12 ≤ nI k)), lt_eq, rput7 _ _ hi, e1, bI_some, nI_1, am_s]
    by_cases c : (am (fun c => co (Up 5 i V (nI c)) n 1 (-1)) k).2 ≤ co (Up 5 i V (nI k)) n 1 (-1)
    · rw [if_pos c, if_pos c]
    · rw [if_neg c, if_neg c]
theorem mBH {V : Vw} {n i : Nat} (hv : VOK V n) (hi : i < 7) {gm : Sg} {x2 : Int32} (hx2 : x2 = V 5 i) : ∀ (d k f : Nat) (h : Sg) (W : Vw), 0 < k → k + d = 12 → d < f → (∀ x, Up 5 i W x = Up 5 i V x) → Mt W n gm h → ∃ h1, lup5 B_X7_bestHour_29 f (nI i) x2 (nI (am (fun c => co (Up 5 i V (nI c)) n 1 (-1)) k).1) (am (fun c => co (Up 5 i V (nI c)) n 1 (-1)) k).2 (nI k) h = some (nI (am (fun c => co (Up 5 i V (nI c)) n 1 (-1)) 12).1, h1) ∧ Mt V n gm h1 := by
  intro d
  induction d with
  | zero =>
    intro k f h W k0 hk hf hW t
    obtain ⟨f, rfl⟩ : ∃ t, f = t + 1 := ⟨f - 1, by omega⟩
    obtain rfl : k = 12 := by omega
    rw [lup5_s]
    unfold B_X7_bestHour_29
    rw [if_pos (show (12 : Int32) ≤ nI 12 by decide)]
    unfold B_X7_bestHour_78
    have t0 := t.up (k := 5) (i := i) (by decide) (V 5 i)
    rw [hW, Up_id] at t0
    rw [chk_ok (vpN hi (by decide)), lt_eq, wrN _ _ (by omega), hx2]
    exact ⟨_, rfl, t0⟩
  | succ d ih =>
    intro k f h W k0 hk hf hW t
    obtain ⟨f, rfl⟩ : ∃ t, f = t + 1 := ⟨f - 1, by omega⟩
    have hv2 : ∀ c, c < 12 → VOK (Up 5 i V (nI c)) n := fun c hc => hv.hr (rg_nI (by omega) (by omega))
    have hb : ∀ c, c < 12 → rg 19656 (co (Up 5 i V (nI c)) n 1 (-1)) := fun c hc => co_b (hv2 c hc) (OKW1 (hv2 c hc) _)
    obtain ⟨b1, b2, b3⟩ := am_b hb k k0 (by omega)
    have t0 := t.up (k := 5) (i := i) (by decide) (nI k)
    rw [hW] at t0
    obtain ⟨h1, e1, t1⟩ := t0.cost (hv2 k (by omega))
    have e1 : M_X7_costNow (sF h 5 (upd (h.2 5) i (nI k))) = _ := e1
    obtain ⟨h2, e2, t2⟩ := ih (k + 1) f h1 (Up 5 i V (nI k)) (by omega) (by omega) (by omega) (fun x => Up_up 5 i V _ x) t1
    refine ⟨h2, ?_, t2⟩
    rw [lup5_s, ← e2]
    generalize lup5 B_X7_bestHour_29 f = self
    unfold B_X7_bestHour_29
    rw [if_neg (show ¬ (12 : Int32) ≤ nI k from (nI_ge (show k < 12 by omega) (by decide) : ¬ nI 12 ≤ nI k)), chk_ok (vpN hi (by decide)), lt_eq, wrN _ _ (by omega), e1, bI_some, if_neg (rg_0 b1), nI_1, am_s]
    by_cases c : (am (fun c => co (Up 5 i V (nI c)) n 1 (-1)) k).2 ≤ co (Up 5 i V (nI k)) n 1 (-1)
    · rw [if_pos c, if_neg (fun e => (nl.mp e) c)]
    · rw [if_neg c, if_pos (nl.mpr c)]
theorem op_bestHour (gc gm : Sg) (x : Int32) (r : Rel gc gm) : Ans Rel (M_X6_bestHour x gc) (M_X7_bestHour x gm) := by
  have r0 := r
  obtain ⟨⟨n, rA⟩, -⟩ := r
  unfold M_X6_bestHour M_X7_bestHour
  rcases goer_or rA x with ⟨i, hi, rfl, h1, h2⟩ | ⟨h1, h2⟩
  · rw [if_neg h1, if_neg h2]
    have hv := rA.1
    have hi7 : i < 7 := by have := hv.1; omega
    obtain ⟨h, e, t⟩ := tri2 rA
    obtain ⟨h1, e1, q1⟩ := cBH hv hi7 12 0 FU h (mv gm) (by decide) (by unfold FU; omega) (fun _ => rfl) t
    have hv0 : VOK (Up 5 i (mv gm) (nI 0)) n := hv.hr (rg_nI (by omega) (by omega))
    have b0 : rg 19656 (co (Up 5 i (mv gm) (nI 0)) n 1 (-1)) := co_b hv0 (OKW1 hv0 _)
    have t0 := (Mt.rf rA.2.2.1).up (k := 5) (i := i) (by decide) (nI 0)
    obtain ⟨m0, em, tm⟩ := t0.cost hv0
    have em : M_X7_costNow (sF gm 5 (upd (gm.2 5) i (nI 0))) = _ := em
    have hx : rd gm 5 (nI i) = mv gm 5 i := rdN gm 5 (by omega)
    obtain ⟨m1, e2, t2⟩ := mBH hv hi7 hx 11 1 999 m0 _ (by decide) (by decide) (by omega) (fun x => Up_up 5 i (mv gm) _ x) tm
    rw [am_1 (f := fun c => co (Up 5 i (mv gm) (nI c)) n 1 (-1)) b0] at e2
    have e3 : lup5 B_X7_bestHour_29 FU (nI i) (rd gm 5 (nI i)) 0 (-1) 0 gm = some (nI (am (fun c => co (Up 5 i (mv gm) (nI c)) n 1 (-1)) 12).1, m1) := by
      rw [← e2, FU_s, lup5_s]
      generalize lup5 B_X7_bestHour_29 999 = self
      unfold B_X7_bestHour_29
      have w : wr gm 5 (nI i) 0 = sF gm 5 (upd (gm.2 5) i (nI 0)) := wrN gm 5 (by omega) (nI 0)
      rw [if_neg (by decide), chk_ok (vpN hi7 (by decide)), lt_eq, w, em, bI_some, if_pos (by decide)]
      rfl
    rw [chk_ok (vpN hi7 (by decide)), e3, lt_eq, e]
    have e4 : lup4 B_X6_bestHour_36 FU (nI i) 0 2147483647 0 h = _ := e1
    rw [e4]
    exact Ans.q r0 q1 t2.q
  · rw [if_pos h1, if_pos h2]
    exact ref_ans r0 (-1) 1 (vpl (by decide)) (by decide)
