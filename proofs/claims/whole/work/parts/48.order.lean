/-! The next order, both -/
def swp (f : Nat → Int32) (a b : Nat) : Nat → Int32 := upd (upd f a (f b)) b (f a)
theorem cSwp {g : Sg} {a b : Nat} (ha : a < 7) (hb : b < 7) : U_X4_exchange 39 7 (nI a) (nI b) g = sF (sF g 39 (upd (g.2 39) a (g.2 39 b))) 39 (swp (g.2 39) a b) := by
  unfold U_X4_exchange swp
  simp only [rat7 _ _ ha, rat7 _ _ hb, rput7 _ _ ha, rput7 _ _ hb, sF2, if_true]
theorem mSwp {g : Sg} {a b : Nat} (ha : a < 7) (hb : b < 7) : M_X7_swap (nI a) (nI b) g = some (sF (sF g 22 (upd (g.2 22) a (g.2 22 b))) 22 (swp (g.2 22) a b)) := by
  unfold M_X7_swap swp
  simp only [chk_ok (vpN ha (by decide)), chk_ok (vpN hb (by decide)), lt_eq, rdN _ _ (show a < 1000 by omega), rdN _ _ (show b < 1000 by omega), wrN _ _ (show a < 1000 by omega), wrN _ _ (show b < 1000 by omega), sF2, if_true]
/-- the same order in both, and what else they leave alone -/
def Eo (n : Nat) (gc gm h m : Sg) : Prop := (∀ j, j < n → h.2 39 j = m.2 22 j) ∧ (∀ j, j ≠ 39 → h.2 j = gc.2 j) ∧ h.1 = gc.1 ∧ (∀ j, j ≠ 22 → m.2 j = gm.2 j) ∧ m.1 = gm.1
theorem Eo.sw {n : Nat} {gc gm h m : Sg} {a b : Nat} (e : Eo n gc gm h m) (ha : a < n) (hb : b < n) (hn : n ≤ 7) : ∃ h1 m1, U_X4_exchange 39 7 (nI a) (nI b) h = h1 ∧ M_X7_swap (nI a) (nI b) m = some m1 ∧ Eo n gc gm h1 m1 ∧ h1.2 39 = swp (h.2 39) a b := by
  refine ⟨_, _, cSwp (by omega) (by omega), mSwp (by omega) (by omega), ⟨fun j hj => ?_, fun j hj => by rw [sF2, if_neg hj, sF2, if_neg hj]; exact e.2.1 j hj, e.2.2.1, fun j hj => by rw [sF2, if_neg hj, sF2, if_neg hj]; exact e.2.2.2.1 j hj, e.2.2.2.2⟩, by rw [sF2, if_pos rfl]⟩
  rw [sF2, if_pos rfl, sF2, if_pos rfl]
  unfold swp upd
  rw [e.1 a ha, e.1 b hb, e.1 j hj]
theorem Eo.rev {n : Nat} {gc gm : Sg} (hn : n ≤ 7) : ∀ (d a b f : Nat) (h m : Sg), b + 1 ≤ a + d → a ≤ b + 1 → d < f → b < n → Eo n gc gm h m → ∃ h1 m1, lup2 B_X3_next_94 f (nI a) (nI (b + 1) + (-1)) h = some (1, h1) ∧ lup2 B_X7_nextOrder_86 f (nI a) (nI (b + 1) + (-1)) m = some (1, m1) ∧ Eo n gc gm h1 m1 := by
  intro d
  induction d with
  | zero =>
    intro a b f h m hd hab hf hb e
    obtain ⟨f, rfl⟩ : ∃ t, f = t + 1 := ⟨f - 1, by omega⟩
    rw [lup2_s, lup2_s, nI_m1 b (by omega)]
    generalize lup2 B_X3_next_94 f = l1
    generalize lup2 B_X7_nextOrder_86 f = l2
    unfold B_X3_next_94 B_X7_nextOrder_86
    rw [if_pos (nI_le (show b ≤ a by omega) (by omega)), if_pos (nI_le (show b ≤ a by omega) (by omega))]
    exact ⟨h, m, rfl, rfl, e⟩
  | succ d ih =>
    intro a b f h m hd hab hf hb e
    obtain ⟨f, rfl⟩ : ∃ t, f = t + 1 := ⟨f - 1, by omega⟩
    by_cases c : b ≤ a
    · rw [lup2_s, lup2_s, nI_m1 b (by omega)]
      generalize lup2 B_X3_next_94 f = l1
      generalize lup2 B_X7_nextOrder_86 f = l2
      unfold B_X3_next_94 B_X7_nextOrder_86
      rw [if_pos (nI_le c (by omega)), if_pos (nI_le c (by omega))]
      exact ⟨h, m, rfl, rfl, e⟩
    · obtain ⟨h1, m1, e1, e2, e3, -⟩ := e.sw (a := a) (b := b) (by omega) hb hn
      obtain ⟨b2, rfl⟩ : ∃ t, b = t + 1 := ⟨b - 1, by omega⟩
      obtain ⟨h2, m2, d1, d2, d3⟩ := ih (a + 1) b2 f h1 m1 (by omega) (by omega) (by omega) (by omega) e3
      refine ⟨h2, m2, ?_, ?_, d3⟩
      · rw [lup2_s, nI_m1 (b2 + 1) (by omega), ← d1]
        generalize lup2 B_X3_next_94 f = l1
        unfold B_X3_next_94
        rw [if_neg (nI_ge (show a < b2 + 1 by omega) (by omega)), lt_eq, e1, nI_1]
      · rw [lup2_s, nI_m1 (b2 + 1) (by omega), ← d2]
        generalize lup2 B_X7_nextOrder_86 f = l1
        unfold B_X7_nextOrder_86
        rw [if_neg (nI_ge (show a < b2 + 1 by omega) (by omega)), e2, bV_some, nI_1]
theorem nIm1 {n : Nat} (h : 0 < n) (hn : n < 1000) : nI n - 1 = nI (n - 1 + 1) + (-1) := by
  rw [nI_m1 (n - 1) (by omega)]
  apply i_eq
  have t1 : (1 : Int32).toInt = 1 := rfl
  rw [T_sub (by rw [t1, T_nI (by omega)]; omega) (by rw [t1, T_nI (by omega)]; omega), t1, T_nI (by omega), T_nI (by omega)]
  omega
theorem Eo.fin {n : Nat} {gc gm h m : Sg} (hn : n ≤ 7) (hs : gm.1 0 = nI n) {a b : Nat} (ha : a < n) (hb : b < n) (e : Eo n gc gm h m) : ∃ h1 m1, B_X3_next_75 (nI n) (nI a) (nI b) h = some (1, h1) ∧ B_X7_nextOrder_68 (nI a) (nI b) m = some (1, m1) ∧ Eo n gc gm h1 m1 := by
  obtain ⟨h1, m1, e1, e2, e3, -⟩ := e.sw ha hb hn
  obtain ⟨h2, m2, d1, d2, d3⟩ := Eo.rev hn n (a + 1) (n - 1) FU h1 m1 (by omega) (by omega) (by unfold FU; omega) (by omega) e3
  refine ⟨h2, m2, ?_, ?_, d3⟩
  · unfold B_X3_next_75
    rw [lt_eq, e1, nI_1, nIm1 (by omega) (by omega), d1]
  · unfold B_X7_nextOrder_68
    rw [e2, bV_some, e3.2.2.2.2, hs, nI_1, nIm1 (by omega) (by omega), d2]
theorem Eo.find {n : Nat} {gc gm : Sg} (hn : n ≤ 7) (hs : gm.1 0 = nI n) {a : Nat} : ∀ (d b f : Nat) (h m : Sg), b = a + 1 + d → b < n → d < f → Eo n gc gm h m → h.2 39 a ≤ h.2 39 (a + 1) → ∃ h1 m1, lup3 B_X3_next_45 f (nI n) (nI a) (nI b) h = some (1, h1) ∧ lup2 B_X7_nextOrder_47 f (nI a) (nI b) m = some (1, m1) ∧ Eo n gc gm h1 m1 := by
  intro d
  induction d with
  | zero =>
    intro b f h m hb hbn hf e hl
    obtain ⟨f, rfl⟩ : ∃ t, f = t + 1 := ⟨f - 1, by omega⟩
    obtain rfl : b = a + 1 := by omega
    obtain ⟨h1, m1, e1, e2, e3⟩ := e.fin hn hs (a := a) (b := a + 1) (by omega) hbn
    refine ⟨h1, m1, ?_, ?_, e3⟩
    · rw [lup3_s]
      generalize lup3 B_X3_next_45 f = l1
      unfold B_X3_next_45
      rw [if_neg (nI_ge (show a < a + 1 by omega) (by omega)), rat7 _ _ (show a < 7 by omega), rat7 _ _ (show a + 1 < 7 by omega), if_pos hl, e1]
    · rw [lup2_s]
      generalize lup2 B_X7_nextOrder_47 f = l1
      unfold B_X7_nextOrder_47
      rw [chk_ok (vpN (by omega) (by decide)), chk_ok (vpN (by omega) (by decide)), rdN _ _ (by omega), rdN _ _ (by omega), ← e.1 a (by omega), ← e.1 (a + 1) hbn, if_pos hl, e2]
  | succ d ih =>
    intro b f h m hb hbn hf e hl
    obtain ⟨f, rfl⟩ : ∃ t, f = t + 1 := ⟨f - 1, by omega⟩
    obtain ⟨c, rfl⟩ : ∃ c, b = c + 1 := ⟨b - 1, by omega⟩
    rw [lup3_s, lup2_s]
    obtain ⟨h2, m2, d1, d2, d3⟩ := ih c f h m (by omega) (by omega) (by omega) e hl
    obtain ⟨h1, m1, e1, e2, e3⟩ := e.fin hn hs (a := a) (b := c + 1) (by omega) hbn
    generalize lup3 B_X3_next_45 f = l1 at d1 ⊢
    generalize lup2 B_X7_nextOrder_47 f = l2 at d2 ⊢
    unfold B_X3_next_45 B_X7_nextOrder_47
    rw [if_neg (nI_ge (show a < c + 1 by omega) (by omega)), rat7 _ _ (show a < 7 by omega), rat7 _ _ (show c + 1 < 7 by omega), chk_ok (vpN (by omega) (by decide)), chk_ok (vpN (by omega) (by decide)), rdN _ _ (by omega), rdN _ _ (by omega), ← e.1 a (by omega), ← e.1 (c + 1) hbn, nI_m1 c (by omega)]
    by_cases q : h.2 39 a ≤ h.2 39 (c + 1)
    · rw [if_pos q, if_pos q]; exact ⟨h1, m1, e1, e2, e3⟩
    · rw [if_neg q, if_neg q]; exact ⟨h2, m2, d1, d2, d3⟩
theorem Eo.at {n : Nat} {gc gm : Sg} (hn : n ≤ 7) (hs : gm.1 0 = nI n) : ∀ (k f : Nat) (h m : Sg), (k = 0 ∨ k < n) → k < f → Eo n gc gm h m → ∃ r h1 m1, lup2 B_X3_next_4 f (nI n) (nI k + (-1)) h = some (r, h1) ∧ lup1 B_X7_nextOrder_7 f (nI k + (-1)) m = some (r, m1) ∧ Eo n gc gm h1 m1
  | 0, f, h, m, _, hf, e => by
    obtain ⟨f, rfl⟩ : ∃ t, f = t + 1 := ⟨f - 1, by omega⟩
    rw [lup2_s, lup1_s]
    generalize lup2 B_X3_next_4 f = l1
    generalize lup1 B_X7_nextOrder_7 f = l2
    unfold B_X3_next_4 B_X7_nextOrder_7
    rw [if_pos (show nI 0 + (-1) < 0 by decide), if_pos (show nI 0 + (-1) < 0 by decide)]
    unfold B_X3_next_35 B_X7_nextOrder_34
    rw [if_neg (show ¬ 0 ≤ nI 0 + (-1) by decide), if_neg (show ¬ 0 ≤ nI 0 + (-1) by decide)]
    exact ⟨0, h, m, rfl, rfl, e⟩
  | a + 1, f, h, m, hk, hf, e => by
    obtain ⟨f, rfl⟩ : ∃ t, f = t + 1 := ⟨f - 1, by omega⟩
    have ha : a + 1 < n := by omega
    obtain ⟨r2, h2, m2, d1, d2, d3⟩ := Eo.at hn hs a f h m (by omega) (by omega) e
    rw [lup2_s, lup1_s, nI_m1 a (by omega)]
    generalize lup2 B_X3_next_4 f = l1 at d1 ⊢
    generalize lup1 B_X7_nextOrder_7 f = l2 at d2 ⊢
    unfold B_X3_next_4 B_X7_nextOrder_7
    rw [if_neg (nI_pos (by omega)), if_neg (nI_pos (by omega)), nI_1, rat7 _ _ (show a < 7 by omega), rat7 _ _ (show a + 1 < 7 by omega), chk_ok (vpN (by omega) (by decide)), chk_ok (vpN (by omega) (by decide)), rdN _ _ (by omega), rdN _ _ (by omega), ← e.1 a (by omega), ← e.1 (a + 1) ha]
    by_cases q : h.2 39 a ≤ h.2 39 (a + 1)
    · rw [if_pos q, if_pos q]
      obtain ⟨h1, m1, e1, e2, e3⟩ := Eo.find hn hs (a := a) (n - 1 - (a + 1)) (n - 1) FU h m (by omega) (by omega) (by unfold FU; omega) e q
      unfold B_X3_next_35 B_X7_nextOrder_34
      rw [if_pos (nI_pos' (by omega)), if_pos (nI_pos' (by omega)), e.2.2.2.2, hs, nIm1 (by omega) (by omega), nI_m1 (n - 1) (by omega), e1, e2]
      exact ⟨1, h1, m1, rfl, rfl, e3⟩
    · rw [if_neg q, if_neg q]
      exact ⟨r2, h2, m2, d1, d2, d3⟩
theorem Eo.next {n : Nat} {gc gm h m : Sg} (hn : n ≤ 7) (h0 : 0 < n) (hs : gm.1 0 = nI n) (e : Eo n gc gm h m) : ∃ r h1 m1, M_X3_next (nI n) h = some (r, h1) ∧ M_X7_nextOrder m = some (r, m1) ∧ Eo n gc gm h1 m1 := by
  obtain ⟨r, h1, m1, e1, e2, e3⟩ := Eo.at hn hs (n - 1) FU h m (by omega) (by unfold FU; omega) e
  have e0 : nI n - 2 = nI (n - 1) + (-1) := by
    apply i_eq
    have t2 : (2 : Int32).toInt = 2 := rfl
    have t1 : (-1 : Int32).toInt = -1 := by decide
    rw [T_sub (by rw [t2, T_nI (by omega)]; omega) (by rw [t2, T_nI (by omega)]; omega), T_add (by rw [t1, T_nI (by omega)]; omega) (by rw [t1, T_nI (by omega)]; omega), t2, t1, T_nI (by omega), T_nI (by omega)]
    omega
  refine ⟨r, h1, m1, ?_, ?_, e3⟩
  · unfold M_X3_next
    rw [e0, e1]
  · unfold M_X7_nextOrder
    rw [e.2.2.2.2, hs, e0, e2]
