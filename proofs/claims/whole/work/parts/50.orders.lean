theorem getD_set {l : List Nat} {a x j : Nat} (ha : a < l.length) : (l.set a x).getD j 0 = if j = a then x else l.getD j 0 := by
  rw [List.getD_eq_getElem?_getD, List.getD_eq_getElem?_getD, List.getElem?_set]
  by_cases e : j = a
  · subst e
    rw [if_pos rfl, if_pos rfl, if_pos ha]; rfl
  · rw [if_neg (fun h => e h.symm), if_neg e]
theorem swL_get {l : List Nat} {a b j : Nat} (ha : a < l.length) (hb : b < l.length) : (swL l a b).getD j 0 = if j = b then l.getD a 0 else if j = a then l.getD b 0 else l.getD j 0 := by
  unfold swL
  rw [getD_set (by rw [List.length_set]; exact hb), getD_set ha]
theorem swL_len {l : List Nat} {a b : Nat} : (swL l a b).length = l.length := by
  unfold swL
  rw [List.length_set, List.length_set]
/-- D's order as a list -/
def Lo (n : Nat) (l : List Nat) (f : Nat → Int32) : Prop := l.length = n ∧ (∀ j, j < n → l.getD j 0 < n) ∧ ∀ j, j < n → f j = nI (l.getD j 0)
theorem Lo.sw {n : Nat} {l : List Nat} {f : Nat → Int32} (h : Lo n l f) {a b : Nat} (ha : a < n) (hb : b < n) : Lo n (swL l a b) (swp f a b) := by
  obtain ⟨h1, h2, h3⟩ := h
  refine ⟨by rw [swL_len]; exact h1, fun j hj => ?_, fun j hj => ?_⟩
  · rw [swL_get (by omega) (by omega)]
    split
    · exact h2 a ha
    · split
      · exact h2 b hb
      · exact h2 j hj
  · rw [swL_get (by omega) (by omega)]
    unfold swp upd
    by_cases e1 : j = b
    · rw [if_pos e1, if_pos e1]; exact h3 a ha
    · rw [if_neg e1, if_neg e1]
      by_cases e2 : j = a
      · rw [if_pos e2, if_pos e2]; exact h3 b hb
      · rw [if_neg e2, if_neg e2]; exact h3 j hj
theorem Lo.le {n : Nat} {l : List Nat} {f : Nat → Int32} (h : Lo n l f) (hn : n ≤ 7) {a b : Nat} (ha : a < n) (hb : b < n) : f a ≤ f b ↔ l.getD a 0 ≤ l.getD b 0 := by
  have p := h.2.1 a ha
  have q := h.2.1 b hb
  rw [h.2.2 a ha, h.2.2 b hb, nI_leI (by omega) (by omega)]
theorem cSwp2 {h : Sg} {a b : Nat} (ha : a < 7) (hb : b < 7) : (U_X4_exchange 39 7 (nI a) (nI b) h).2 39 = swp (h.2 39) a b := by
  rw [cSwp ha hb, sF2, if_pos rfl]
theorem Lo.rev {n : Nat} (hn : n ≤ 7) : ∀ (d a b f : Nat) (h : Sg) (l : List Nat), b + 1 ≤ a + d → a ≤ b + 1 → d < f → b < n → Lo n l (h.2 39) → ∃ h1, lup2 B_X3_next_94 f (nI a) (nI (b + 1) + (-1)) h = some (1, h1) ∧ Lo n (revL d a b l) (h1.2 39) := by
  intro d
  induction d with
  | zero =>
    intro a b f h l hd hab hf hb e
    obtain ⟨f, rfl⟩ : ∃ t, f = t + 1 := ⟨f - 1, by omega⟩
    rw [lup2_s, nI_m1 b (by omega)]
    generalize lup2 B_X3_next_94 f = l1
    unfold B_X3_next_94
    rw [if_pos (nI_le (show b ≤ a by omega) (by omega))]
    exact ⟨h, rfl, e⟩
  | succ d ih =>
    intro a b f h l hd hab hf hb e
    obtain ⟨f, rfl⟩ : ∃ t, f = t + 1 := ⟨f - 1, by omega⟩
    unfold revL
    by_cases c : b ≤ a
    · rw [if_pos c, lup2_s, nI_m1 b (by omega)]
      generalize lup2 B_X3_next_94 f = l1
      unfold B_X3_next_94
      rw [if_pos (nI_le c (by omega))]
      exact ⟨h, rfl, e⟩
    · obtain ⟨b2, rfl⟩ : ∃ t, b = t + 1 := ⟨b - 1, by omega⟩
      have e3 : Lo n (swL l a (b2 + 1)) ((U_X4_exchange 39 7 (nI a) (nI (b2 + 1)) h).2 39) := by rw [cSwp2 (by omega) (by omega)]; exact e.sw (by omega) hb
      obtain ⟨h2, d1, d3⟩ := ih (a + 1) b2 f _ _ (by omega) (by omega) (by omega) (by omega) e3
      rw [if_neg c, Nat.add_sub_cancel]
      refine ⟨h2, ?_, d3⟩
      rw [lup2_s, nI_m1 (b2 + 1) (by omega), ← d1]
      generalize lup2 B_X3_next_94 f = l1
      unfold B_X3_next_94
      rw [if_neg (nI_ge (show a < b2 + 1 by omega) (by omega)), lt_eq, nI_1]
theorem Lo.fin {n : Nat} (hn : n ≤ 7) {h : Sg} {l : List Nat} {a b : Nat} (ha : a < n) (hb : b < n) (e : Lo n l (h.2 39)) : ∃ h1, B_X3_next_75 (nI n) (nI a) (nI b) h = some (1, h1) ∧ Lo n (revL n (a + 1) (n - 1) (swL l a b)) (h1.2 39) := by
  have e3 : Lo n (swL l a b) ((U_X4_exchange 39 7 (nI a) (nI b) h).2 39) := by rw [cSwp2 (by omega) (by omega)]; exact e.sw ha hb
  obtain ⟨h2, d1, d3⟩ := Lo.rev hn n (a + 1) (n - 1) FU _ _ (by omega) (by omega) (by unfold FU; omega) (by omega) e3
  refine ⟨h2, ?_, d3⟩
  unfold B_X3_next_75
  rw [lt_eq, nI_1, nIm1 (by omega) (by omega), d1]
