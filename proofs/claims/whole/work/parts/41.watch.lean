/-! The watch -/
def nrP (V : Vw) (E : Int32) (j : Nat) : Prop := iabs (V 3 j - E) ≤ 3 ∨ iabs (V 4 j - E) ≤ 3
theorem abs_sw {x y : Int32} (hx : rg 39 x) (hy : rg 39 y) : iabs (x - y) = iabs (y - x) := by
  apply i_eq
  rw [T_absd (hx.up (by omega)) (hy.up (by omega)), T_absd (hy.up (by omega)) (hx.up (by omega))]
  split <;> split <;> omega
theorem le3 {x : Int32} : x < 4 ↔ x ≤ 3 := by
  rw [i_lt, i_le]
  show x.toInt < 4 ↔ x.toInt ≤ 3
  omega
theorem le3' {x : Int32} : 4 ≤ x ↔ ¬ x ≤ 3 := by
  rw [i_le, i_le]
  show 4 ≤ x.toInt ↔ ¬ x.toInt ≤ 3
  omega
theorem cAny {g : Sg} {n : Nat} {E : Int32} (hn : n ≤ 7) (hs : g.1 3 = nI n) : ∀ (d j f : Nat), j + d = n → d < f → ∃ b, lup3 (B_X0_anybodyWithin_2 3) f 3 E (nI j) g = some (b, g) ∧ ((b = 1 ∧ ∃ q, j ≤ q ∧ q < n ∧ nrP (cv g 3) E q) ∨ (b = 0 ∧ ∀ q, j ≤ q → q < n → ¬ nrP (cv g 3) E q)) := by
  intro d
  induction d with
  | zero =>
    intro j f hj hf
    obtain ⟨f, rfl⟩ : ∃ t, f = t + 1 := ⟨f - 1, by omega⟩
    obtain rfl : j = n := by omega
    rw [lup3_s]
    generalize lup3 (B_X0_anybodyWithin_2 3) f = self
    unfold B_X0_anybodyWithin_2
    rw [hs, if_pos (nI_le (by omega) (by omega))]
    exact ⟨0, rfl, Or.inr ⟨rfl, fun q h1 h2 => by omega⟩⟩
  | succ d ih =>
    intro j f hj hf
    obtain ⟨f, rfl⟩ : ∃ t, f = t + 1 := ⟨f - 1, by omega⟩
    obtain ⟨b, e, hb⟩ := ih (j + 1) f (by omega) (by omega)
    have hj7 : j < 7 := by omega
    rw [lup3_s]
    generalize lup3 (B_X0_anybodyWithin_2 3) f = self at e ⊢
    unfold B_X0_anybodyWithin_2
    rw [hs, if_neg (nI_ge (show j < n by omega) (by omega)), rat7 _ _ hj7, rat7 _ _ hj7, nI_1]
    have w3 : g.2 (3 + 4) j = cv g 3 3 j := rfl
    have w4 : g.2 (3 + 5) j = cv g 3 4 j := rfl
    rw [w3, w4]
    by_cases c1 : iabs (cv g 3 3 j - E) ≤ 3
    · rw [if_pos c1]
      exact ⟨1, rfl, Or.inl ⟨rfl, j, by omega, by omega, Or.inl c1⟩⟩
    · rw [if_neg c1]
      by_cases c2 : iabs (cv g 3 4 j - E) ≤ 3
      · rw [if_neg (fun q => (nl.mp q) c2)]
        exact ⟨1, rfl, Or.inl ⟨rfl, j, by omega, by omega, Or.inr c2⟩⟩
      · rw [if_pos (nl.mpr c2)]
        refine ⟨b, e, ?_⟩
        rcases hb with ⟨b1, q, q1, q2, q3⟩ | ⟨b1, q0⟩
        · exact Or.inl ⟨b1, q, by omega, q2, q3⟩
        · refine Or.inr ⟨b1, fun q h1 h2 => ?_⟩
          by_cases e : q = j
          · subst e; exact fun h => h.elim c1 c2
          · exact q0 q (by omega) h2
theorem mAny {g : Sg} {n h : Nat} {E : Int32} (hv : VOK (mv g) n) (hE : rg 39 E) (hh : h < 12) (h20 : g.2 20 h = E) (hs : g.1 0 = nI n) (kb8 : Int32 → Int32 → Sg → Option (Int32 × Sg)) (acc : Int32) : ∀ (d j f : Nat) (x : Int32), j + d = n → d < f → ((x = 1 ∧ ∃ q, q < j ∧ nrP (mv g) E q) ∨ (x = 0 ∧ ∀ q, q < j → ¬ nrP (mv g) E q)) → ∃ b, lup4 (B_X7_watch_19 kb8) f acc (nI h) x (nI j) g = B_X7_watch_78 kb8 acc (nI h) b g ∧ ((b = 1 ∧ ∃ q, q < n ∧ nrP (mv g) E q) ∨ (b = 0 ∧ ∀ q, q < n → ¬ nrP (mv g) E q)) := by
  intro d
  induction d with
  | zero =>
    intro j f x hj hf hx
    obtain ⟨f, rfl⟩ : ∃ t, f = t + 1 := ⟨f - 1, by omega⟩
    obtain rfl : j = n := by omega
    rw [lup4_s]
    generalize lup4 (B_X7_watch_19 kb8) f = self
    have hn := hv.1
    unfold B_X7_watch_19
    rw [hs, if_pos (nI_le (by omega) (by omega))]
    exact ⟨x, rfl, hx⟩
  | succ d ih =>
    intro j f x hj hf hx
    obtain ⟨f, rfl⟩ : ∃ t, f = t + 1 := ⟨f - 1, by omega⟩
    have hn := hv.1
    have hj7 : j < 7 := by omega
    have hjn : j < n := by omega
    obtain ⟨-, -, r3, r4, -⟩ := hv.2.2.2.2 j hjn
    have ee := fun y => ih (j + 1) f y (by omega) (by omega)
    rw [lup4_s]
    generalize lup4 (B_X7_watch_19 kb8) f = self at ee ⊢
    unfold B_X7_watch_19
    rw [hs, if_neg (nI_ge hjn (by omega))]
    simp only [chk_ok (vpN hh (by decide)), chk_ok (vpN hj7 (by decide)), rdN _ _ (show h < 1000 by omega), rdN _ _ (show j < 1000 by omega), h20, nI_1]
    have w3 : g.2 3 j = mv g 3 j := rfl
    have w4 : g.2 4 j = mv g 4 j := rfl
    rw [w3, w4, abs_sw hE r3, abs_sw hE r4]
    by_cases c1 : iabs (mv g 3 j - E) ≤ 3
    · rw [if_pos (le3.mpr c1)]
      exact ee 1 (Or.inl ⟨rfl, j, by omega, Or.inl c1⟩)
    · rw [if_neg (fun q => c1 (le3.mp q))]
      by_cases c2 : iabs (mv g 4 j - E) ≤ 3
      · rw [if_neg (fun q => (le3'.mp q) c2)]
        exact ee 1 (Or.inl ⟨rfl, j, by omega, Or.inr c2⟩)
      · rw [if_pos (le3'.mpr c2)]
        refine ee x ?_
        rcases hx with ⟨b1, q, q1, q2⟩ | ⟨b1, q0⟩
        · exact Or.inl ⟨b1, q, by omega, q2⟩
        · refine Or.inr ⟨b1, fun q h1 => ?_⟩
          by_cases e : q = j
          · subst e; exact fun h => h.elim c1 c2
          · exact q0 q (by omega)
theorem wL2 {g m : Sg} {n : Nat} (hV : cv g 3 = mv m) (hv : VOK (mv m) n) (h3 : g.1 3 = nI n) (h0 : m.1 0 = nI n) (hg : ∀ h, h < 12 → g.2 34 h = lampE (mv m) n h) (hm : ∀ h, h < 12 → m.2 20 h = lampE (mv m) n h) : ∀ (d k f : Nat) (acc : Int32), k + d = 12 → d < f → ∃ r, lup2 B_X6_watch_16 f acc (nI k) g = some (r, g) ∧ lup2 B_X7_watch_8 f acc (nI k) m = some (r, m) := by
  intro d
  induction d with
  | zero =>
    intro k f acc hk hf
    obtain ⟨f, rfl⟩ : ∃ t, f = t + 1 := ⟨f - 1, by omega⟩
    obtain rfl : k = 12 := by omega
    rw [lup2_s, lup2_s]
    unfold B_X6_watch_16 B_X7_watch_8
    rw [if_pos (show (12 : Int32) ≤ nI 12 by decide), if_pos (show (12 : Int32) ≤ nI 12 by decide)]
    exact ⟨acc, rfl, rfl⟩
  | succ d ih =>
    intro k f acc hk hf
    obtain ⟨f, rfl⟩ : ∃ t, f = t + 1 := ⟨f - 1, by omega⟩
    have hk12 : k < 12 := by omega
    have ee := fun a => ih (k + 1) f a (by omega) (by omega)
    rw [lup2_s, lup2_s]
    generalize lup2 B_X6_watch_16 f = s1 at ee ⊢
    generalize lup2 B_X7_watch_8 f = s2 at ee ⊢
    obtain ⟨b1, e1, p1⟩ := cAny (g := g) (E := lampE (mv m) n k) hv.1 h3 n 0 FU (by omega) (by have := hv.1; unfold FU; omega)
    obtain ⟨b2, e2, p2⟩ := mAny (g := m) (E := lampE (mv m) n k) hv (lampE_b hv k) hk12 (hm k hk12) h0 s2 acc n 0 FU 0 (by omega) (by have := hv.1; unfold FU; omega) (Or.inr ⟨rfl, fun q h => absurd h (Nat.not_lt_zero q)⟩)
    have e1 : M_X0_anybodyWithin 3 3 (lampE (mv m) n k) g = _ := e1
    have e2 : lup4 (B_X7_watch_19 s2) FU acc (nI k) 0 0 m = _ := e2
    rw [hV] at p1
    have hb : b1 = b2 := by
      rcases p1 with ⟨a1, q, -, q2, q3⟩ | ⟨a1, q0⟩
      · rcases p2 with ⟨a2, -⟩ | ⟨a2, z0⟩
        · rw [a1, a2]
        · exact absurd q3 (z0 q q2)
      · rcases p2 with ⟨a2, q, q2, q3⟩ | ⟨a2, z0⟩
        · exact absurd q3 (q0 q (by omega) q2)
        · rw [a1, a2]
    unfold B_X6_watch_16 B_X7_watch_8
    rw [if_neg (show ¬ (12 : Int32) ≤ nI k from (nI_ge hk12 (by decide) : ¬ nI 12 ≤ nI k)), if_neg (show ¬ (12 : Int32) ≤ nI k from (nI_ge hk12 (by decide) : ¬ nI 12 ≤ nI k)), rat_l g 34 12 (nI k) k (by decide) (vpN hk12 (by decide)) (nI_clamp (by omega)), hg k hk12, e1, bI_some, e2, nI_1, hb]
    unfold B_X7_watch_78
    rw [nI_1]
    by_cases c : b2 = 0
    · rw [if_pos c, if_pos c]; exact ee _
    · rw [if_neg c, if_neg c]; exact ee _
theorem op_watch (gc gm : Sg) (r : Rel gc gm) : Ans Rel (M_X6_watch gc) (M_X7_watch gm) := by
  have r0 := r
  obtain ⟨⟨n, rA⟩, -⟩ := r
  obtain ⟨v, gc1, gm1, e1, B, F, e2, R, G⟩ := both rA
  have hm := G.mv
  obtain ⟨w, c1, c2⟩ := wL2 (g := gc1) (m := gm1) (n := n) (by rw [F.cv (by decide), hm]; exact rA.2.2.2.2.1) (by rw [hm]; exact rA.1) ((F.2 3 (by omega)).trans rA.2.1) ((G.2 0 (by omega)).trans rA.2.2.1) (by rw [hm]; exact B.2.2) (by rw [hm]; exact R.2) 12 0 FU 0 (by decide) (by unfold FU; omega)
  have c1 : lup2 B_X6_watch_16 FU 0 0 gc1 = _ := c1
  have c2 : lup2 B_X7_watch_8 FU 0 0 gm1 = _ := c2
  unfold M_X6_watch M_X7_watch
  rw [e1, e2, bI_some, bV_some, c1, c2]
  exact Ans.q r0 F.q G.q
