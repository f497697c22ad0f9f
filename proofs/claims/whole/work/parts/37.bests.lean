/-! The best of the pump's places, of a goer's hours, of the second lamp's places; the least oil -/
/-- the first of the least -/
def am (f : Nat → Int32) : Nat → Nat × Int32
  | 0 => (0, 2147483647)
  | k + 1 => if (am f k).2 ≤ f k then am f k else (k, f k)
theorem am_s (f : Nat → Int32) (k : Nat) : am f (k + 1) = if (am f k).2 ≤ f k then am f k else (k, f k) := rfl
theorem am_1 {f : Nat → Int32} (h : rg 19656 (f 0)) : am f 1 = (0, f 0) := by
  rw [am_s, if_neg]
  intro e
  rw [i_le] at e
  have h1 : (am f 0).2.toInt = 2147483647 := rfl
  have h2 := h.2
  omega
theorem am_b {f : Nat → Int32} {N : Nat} (h : ∀ k, k < N → rg 19656 (f k)) : ∀ k, 0 < k → k ≤ N → rg 19656 (am f k).2 ∧ (am f k).1 < k ∧ (am f k).2 = f (am f k).1
  | 0, h0, _ => absurd h0 (Nat.lt_irrefl 0)
  | 1, _, h1 => by rw [am_1 (h 0 (by omega))]; exact ⟨h 0 (by omega), by omega, rfl⟩
  | k + 2, _, h2 => by
    obtain ⟨a, b, c⟩ := am_b h (k + 1) (by omega) (by omega)
    rw [am_s]
    by_cases e : (am f (k + 1)).2 ≤ f (k + 1)
    · rw [if_pos e]; exact ⟨a, by omega, c⟩
    · rw [if_neg e]; exact ⟨h (k + 1) (by omega), by show k + 1 < k + 1 + 1; omega, rfl⟩
theorem nl {x y : Int32} : y < x ↔ ¬ x ≤ y := by
  rw [i_lt, i_le]; omega
theorem rg_0 {b : Int} {x : Int32} (h : rg b x) : ¬ x < 0 := by
  rw [i_lt, T_0]; have := h.1; omega
/-- one number of an alley made another -/
def Up (k i : Nat) (V : Vw) (x : Int32) : Vw := fun j => if j = k then upd (V k) i x else V j
theorem Up_up (k i : Nat) (V : Vw) (x y : Int32) : Up k i (Up k i V x) y = Up k i V y := by
  funext j
  unfold Up
  by_cases e : j = k
  · rw [if_pos e, if_pos e, if_pos rfl, upd_up]
  · rw [if_neg e, if_neg e, if_neg e]
theorem Up_id (k i : Nat) (V : Vw) : Up k i V (V k i) = V := by
  funext j
  unfold Up
  by_cases e : j = k
  · rw [if_pos e, e]
    funext q
    unfold upd
    by_cases d : q = i
    · rw [if_pos d, d]
    · rw [if_neg d]
  · rw [if_neg e]
theorem Tr.up {V : Vw} {n : Nat} {c1 : Int32} {gc h : Sg} (t : Tr V n c1 gc h) {k i : Nat} (hk : k < 6) (hi : i < if k = 0 then 3 else 7) (x : Int32) : Tr (Up k i V x) n c1 gc (sF h (17 + (k + 1)) (upd (h.2 (17 + (k + 1))) i x)) := by
  obtain ⟨t1, t2, t3, t4, t5⟩ := t
  have hz : ZA (sF h (17 + (k + 1)) (upd (h.2 (17 + (k + 1))) i x)) 17 := by
    refine ⟨fun j hj => ?_, fun q h1 h2 j hj => ?_⟩
    · rw [sF2]
      by_cases e : k = 0
      · subst e
        rw [if_pos rfl] at hi
        rw [if_pos rfl, upd_ne _ _ (by omega)]
        exact t4.1 j hj
      · rw [if_neg (by omega)]; exact t4.1 j hj
    · rw [sF2]
      by_cases e : q = k + 1
      · subst e
        rw [if_neg (by omega)] at hi
        rw [if_pos rfl, upd_ne _ _ (by omega)]
        exact t4.2 (k + 1) h1 h2 j hj
      · rw [if_neg (by omega)]; exact t4.2 q h1 h2 j hj
  refine ⟨?_, t2, t3, hz, fun j hj => ?_, t5.2.1, fun _ => hz⟩
  · rw [cv_up hk, t1]
    have e : h.2 (17 + (k + 1)) = V k := by rw [← t1]; unfold cv; rw [if_pos hk]
    rw [e]; rfl
  · rw [sF2, if_neg (by omega)]; exact t5.1 j hj
theorem Mt.up {V : Vw} {n : Nat} {gm h : Sg} (t : Mt V n gm h) {k i : Nat} (hk : k < 6) (x : Int32) : Mt (Up k i V x) n gm (sF h (mk k) (upd (h.2 (mk k)) i x)) := by
  obtain ⟨t1, t2, t3⟩ := t
  have hm : 1 ≤ mk k ∧ mk k ≤ 6 := by unfold mk; split <;> omega
  refine ⟨?_, t2, fun j hj => ?_, t3.2⟩
  · rw [mv_up hk, t1]
    have e : h.2 (mk k) = V k := by
      rw [← t1]
      unfold mv mk
      by_cases h0 : k = 0
      · rw [if_pos h0, if_pos h0]
      · rw [if_neg h0, if_neg h0, if_pos hk]
    rw [e]; rfl
  · rw [sF2, if_neg (by omega)]; exact t3.1 j hj
theorem VOK.pump {V : Vw} {n : Nat} (h : VOK V n) {x : Int32} (hx : rg 39 x) : VOK (Up 0 0 V x) n := ⟨h.1, hx, h.2.2.1, h.2.2.2.1, h.2.2.2.2⟩
theorem VOK.oil {V : Vw} {n : Nat} (h : VOK V n) {x : Int32} (hx : rg 200 x) : VOK (Up 0 1 V x) n := ⟨h.1, h.2.1, hx, h.2.2.2.1, h.2.2.2.2⟩
theorem VOK.hr {V : Vw} {n i : Nat} (h : VOK V n) {x : Int32} (hx : rg 11 x) : VOK (Up 5 i V x) n := by
  refine ⟨h.1, h.2.1, h.2.2.1, h.2.2.2.1, fun j hj => ?_⟩
  obtain ⟨a, b, c, d, e⟩ := h.2.2.2.2 j hj
  refine ⟨a, b, c, d, ?_⟩
  show rg 11 (upd (V 5) i x j)
  by_cases q : j = i
  · subst q; rw [upd_at]; exact hx
  · rw [upd_ne _ _ q]; exact e
theorem rg_nI {b : Int} {k : Nat} (h : (k : Int) ≤ b) (hb : k < 1000) : rg b (nI k) := ⟨by rw [T_nI (by omega)]; omega, by rw [T_nI (by omega)]; omega⟩
/-- the second lamp's places, in D -/
theorem cBS {V : Vw} {n : Nat} (hv : VOK V n) {gc : Sg} : ∀ (d k f : Nat) (h : Sg) (c1 : Int32), k + d = 40 → d < f → Tr V n c1 gc h → ∃ h1, lup3 B_X6_bestSecond_18 f (nI (am (fun c => co V n 2 (nI c)) k).1) (am (fun c => co V n 2 (nI c)) k).2 (nI k) h = some (nI (am (fun c => co V n 2 (nI c)) 40).1, h1) ∧ QC gc h1 := by
  intro d
  induction d with
  | zero =>
    intro k f h c1 hk hf t
    obtain ⟨f, rfl⟩ : ∃ t, f = t + 1 := ⟨f - 1, by omega⟩
    obtain rfl : k = 40 := by omega
    rw [lup3_s]
    unfold B_X6_bestSecond_18
    rw [if_pos (show (40 : Int32) ≤ nI 40 by decide)]
    exact ⟨h, rfl, t.2.2.2.2⟩
  | succ d ih =>
    intro k f h c1 hk hf t
    obtain ⟨f, rfl⟩ : ∃ t, f = t + 1 := ⟨f - 1, by omega⟩
    have hc : rg 39 (nI k) := rg_nI (by omega) (by omega)
    obtain ⟨h1, e1, t1, -⟩ := (t.sec (nI k)).by hv.1
    rw [lamps2 hc] at e1
    obtain ⟨h2, e2, q2⟩ := ih (k + 1) f h1 (nI k) (by omega) (by omega) t1
    refine ⟨h2, ?_, q2⟩
    rw [lup3_s, ← e2]
    generalize lup3 B_X6_bestSecond_18 f = self
    unfold B_X6_bestSecond_18
    rw [if_neg (show ¬ (40 : Int32) ≤ nI k from (nI_ge (show k < 40 by omega) (by decide) : ¬ nI 40 ≤ nI k)), lt_eq, e1, bI_some, nI_1, am_s]
    by_cases c : (am (fun c => co V n 2 (nI c)) k).2 ≤ co V n 2 (nI k)
    · rw [if_pos c, if_pos c]
    · rw [if_neg c, if_neg c]
theorem subLe {a x y : Int32} (ha : rg 19656 a) (hx : rg 19656 x) (hy : rg 19656 y) : (a - x ≤ a - y) ↔ y ≤ x := by
  have a1 := ha.1
  have a2 := ha.2
  have x1 := hx.1
  have x2 := hx.2
  have y1 := hy.1
  have y2 := hy.2
  rw [i_le, i_le, T_sub (by omega) (by omega), T_sub (by omega) (by omega)]
  omega
theorem mBS {V : Vw} {n : Nat} (hv : VOK V n) {gm : Sg} : ∀ (d k f : Nat) (h : Sg), 0 < k → k + d = 40 → d < f → Mt V n gm h → ∃ h1, lup2 B_X7_bestSecond_4 f (nI (am (fun c => co V n 2 (nI c)) k).1) (nI k) h = some (nI (am (fun c => co V n 2 (nI c)) 40).1, h1) ∧ Mt V n gm h1 := by
  intro d
  induction d with
  | zero =>
    intro k f h k0 hk hf t
    obtain ⟨f, rfl⟩ : ∃ t, f = t + 1 := ⟨f - 1, by omega⟩
    obtain rfl : k = 40 := by omega
    rw [lup2_s]
    unfold B_X7_bestSecond_4
    rw [if_pos (show (40 : Int32) ≤ nI 40 by decide)]
    exact ⟨h, rfl, t⟩
  | succ d ih =>
    intro k f h k0 hk hf t
    obtain ⟨f, rfl⟩ : ∃ t, f = t + 1 := ⟨f - 1, by omega⟩
    have hb : ∀ c, c < 40 → rg 19656 (co V n 2 (nI c)) := fun c hc => co_b hv (OKW2 hv (rg_nI (by omega) (by omega)))
    obtain ⟨b1, b2, b3⟩ := am_b hb k k0 (by omega)
    have hc : rg 39 (nI k) := rg_nI (by omega) (by omega)
    have hd : rg 39 (nI (am (fun c => co V n 2 (nI c)) k).1) := rg_nI (by omega) (by omega)
    obtain ⟨h1, e1, t1⟩ := t.two hv hc
    obtain ⟨h2, e2, t2⟩ := t1.two hv hd
    obtain ⟨h3, e3, t3⟩ := ih (k + 1) f h2 (by omega) (by omega) (by omega) t2
    refine ⟨h3, ?_, t3⟩
    rw [lup2_s, ← e3]
    generalize lup2 B_X7_bestSecond_4 f = self
    unfold B_X7_bestSecond_4
    rw [if_neg (show ¬ (40 : Int32) ≤ nI k from (nI_ge (show k < 40 by omega) (by decide) : ¬ nI 40 ≤ nI k)), e1, bI_some, e2, bI_some, nI_1, am_s]
    have q := subLe (a := co V n 1 (-1)) (co_b hv (OKW1 hv _)) (hb k (by omega)) (hb _ (show (am (fun c => co V n 2 (nI c)) k).1 < 40 by omega))
    rw [← b3] at q
    by_cases c : (am (fun c => co V n 2 (nI c)) k).2 ≤ co V n 2 (nI k)
    · rw [if_pos c, if_pos (by rw [← b3]; exact q.mpr c)]
    · rw [if_neg c, if_neg (by rw [← b3]; exact fun e => c (q.mp e))]
theorem op_bestSecond (gc gm : Sg) (r : Rel gc gm) : Ans Rel (M_X6_bestSecond gc) (M_X7_bestSecond gm) := by
  have r0 := r
  obtain ⟨⟨n, rA⟩, -⟩ := r
  have hv := rA.1
  obtain ⟨h, e, t⟩ := tri2 rA
  obtain ⟨h1, e1, q1⟩ := cBS hv 40 0 FU h (-1) (by decide) (by unfold FU; omega) t
  have b0 : rg 19656 (co (mv gm) n 2 (nI 0)) := co_b hv (OKW2 hv (rg_nI (by omega) (by omega)))
  obtain ⟨m1, e2, t2⟩ := mBS hv 39 1 FU gm (by decide) (by decide) (by unfold FU; omega) (Mt.rf rA.2.2.1)
  rw [am_1 (f := fun c => co (mv gm) n 2 (nI c)) b0] at e2
  have e3 : M_X7_bestSecond gm = _ := e2
  unfold M_X6_bestSecond
  rw [e3, lt_eq, e]
  have e4 : lup3 B_X6_bestSecond_18 FU 0 2147483647 0 h = _ := e1
  rw [e4]
  exact Ans.q r0 q1 t2.q
