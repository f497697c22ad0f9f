/-! A night's letters: one statement looked at, by both -/
def isD (x : Int32) : Bool := if x < 48 then false else if 57 < x then false else true
theorem isD_e (x : Int32) (g : Sg) : V_X2_isDigit x g = if isD x = true then 1 else 0 := by
  unfold V_X2_isDigit isD
  by_cases a : x < 48
  · simp only [if_pos a]; rfl
  · by_cases b : 57 < x
    · simp only [if_neg a, if_pos b]; rfl
    · simp only [if_neg a, if_neg b]; rfl
theorem isD_iff (x : Int32) : isD x = true ↔ (¬ x < 48 ∧ x ≤ 57) := by
  unfold isD
  by_cases a : x < 48
  · rw [if_pos a]
    exact ⟨fun h => (Bool.false_ne_true h).elim, fun h => absurd a h.1⟩
  · rw [if_neg a]
    by_cases b : 57 < x
    · rw [if_pos b]
      exact ⟨fun h => (Bool.false_ne_true h).elim, fun h => absurd h.2 (nl.mp b)⟩
    · rw [if_neg b]
      exact ⟨fun _ => ⟨a, by rw [i_le]; rw [i_lt] at b; omega⟩, fun _ => rfl⟩
def ndN (x : Int32) : Nat := if x = 100 then 1 else if x = 103 then 7 else if x = 104 then 3 else if x = 111 then 3 else if x = 112 then 2 else if x = 120 then 2 else 0
theorem ndN_c (x : Int32) : (ndN x = 0 ∧ ¬ x = 100 ∧ ¬ x = 103 ∧ ¬ x = 104 ∧ ¬ x = 111 ∧ ¬ x = 112 ∧ ¬ x = 120 ∧ ∀ g, V_X2_digitsOf x g = -1) ∨ x = 100 ∨ x = 103 ∨ x = 104 ∨ x = 111 ∨ x = 112 ∨ x = 120 := by
  by_cases a1 : x = 100
  · exact Or.inr (Or.inl a1)
  · by_cases a2 : x = 103
    · exact Or.inr (Or.inr (Or.inl a2))
    · by_cases a3 : x = 104
      · exact Or.inr (Or.inr (Or.inr (Or.inl a3)))
      · by_cases a4 : x = 111
        · exact Or.inr (Or.inr (Or.inr (Or.inr (Or.inl a4))))
        · by_cases a5 : x = 112
          · exact Or.inr (Or.inr (Or.inr (Or.inr (Or.inr (Or.inl a5)))))
          · by_cases a6 : x = 120
            · exact Or.inr (Or.inr (Or.inr (Or.inr (Or.inr (Or.inr a6)))))
            · refine Or.inl ⟨?_, a1, a2, a3, a4, a5, a6, fun g => ?_⟩
              · unfold ndN
                rw [if_neg a1, if_neg a2, if_neg a3, if_neg a4, if_neg a5, if_neg a6]
              · unfold V_X2_digitsOf
                rw [if_neg a1, if_neg a2, if_neg a3, if_neg a4, if_neg a5, if_neg a6]
theorem ndN_v {x : Int32} (h : ¬ ndN x = 0) (g : Sg) : V_X2_digitsOf x g = nI (ndN x) ∧ ndN x ≤ 7 := by
  rcases ndN_c x with ⟨a, -⟩ | rfl | rfl | rfl | rfl | rfl | rfl
  · exact absurd a h
  all_goals exact ⟨rfl, by decide⟩
theorem nm1 {k : Nat} (hk : k < 1000) : ¬ nI k = -1 := fun e => by
  have h := congrArg Int32.toInt e
  have t1 : (-1 : Int32).toInt = -1 := by decide
  rw [T_nI (by omega), t1] at h
  omega
theorem sidx_c (x : Int32) : sidx x = -1 ∨ ∃ k, k ≤ 5 ∧ sidx x = nI k := by
  rw [sidx_e x (default : Sg)]
  unfold V_X2_kindOf
  by_cases a1 : x = 99
  · rw [if_pos a1]; exact Or.inr ⟨3, by decide, rfl⟩
  · rw [if_neg a1]
    by_cases a2 : x = 100
    · rw [if_pos a2]; exact Or.inr ⟨1, by decide, rfl⟩
    · rw [if_neg a2]
      by_cases a3 : x = 103
      · rw [if_pos a3]; exact Or.inr ⟨0, by decide, rfl⟩
      · rw [if_neg a3]
        by_cases a4 : x = 108
        · rw [if_pos a4]; exact Or.inr ⟨5, by decide, rfl⟩
        · rw [if_neg a4]
          by_cases a5 : x = 109
          · rw [if_pos a5]; exact Or.inr ⟨2, by decide, rfl⟩
          · rw [if_neg a5]
            by_cases a6 : x = 116
            · rw [if_pos a6]; exact Or.inr ⟨4, by decide, rfl⟩
            · rw [if_neg a6]; exact Or.inl rfl
theorem sidx_le0 {x : Int32} (h : x ≤ 0) : sidx x = -1 := by
  rw [sidx_e x (default : Sg)]
  by_cases c : x = 0
  · rw [c]; rfl
  · refine kindOf_no _ (Or.inl ?_)
    rw [i_lt, T_0]
    rw [i_le, T_0] at h
    have : ¬ x.toInt = 0 := fun e => c (i_eq (by rw [e]; rfl))
    omega
/-- how far k digits go from p on -/
def dgs (L : Nat → Int32) (K : Nat) : Nat → Nat → Nat
  | 0, p => p
  | k + 1, p => if p = K then p else if isD (L p) = true then dgs L K k (p + 1) else p
theorem dgs_s (L : Nat → Int32) (K k p : Nat) : dgs L K (k + 1) p = if p = K then p else if isD (L p) = true then dgs L K k (p + 1) else p := rfl
theorem dgs_le {L : Nat → Int32} {K : Nat} : ∀ k p, p ≤ K → dgs L K k p ≤ K
  | 0, _, h => h
  | k + 1, p, h => by
    rw [dgs_s]
    by_cases a : p = K
    · rw [if_pos a]; exact h
    · rw [if_neg a]
      by_cases b : isD (L p) = true
      · rw [if_pos b]; exact dgs_le k (p + 1) (by omega)
      · rw [if_neg b]; exact h
theorem dgs_all {L : Nat → Int32} {K : Nat} : ∀ k p, p ≤ K → dgs L K k p = p + k → p + k ≤ K ∧ ∀ j, j < k → isD (L (p + j)) = true
  | 0, p, h, _ => ⟨h, fun j hj => absurd hj (Nat.not_lt_zero j)⟩
  | k + 1, p, h, e => by
    rw [dgs_s] at e
    by_cases a : p = K
    · rw [if_pos a] at e; omega
    · rw [if_neg a] at e
      by_cases b : isD (L p) = true
      · rw [if_pos b] at e
        obtain ⟨q1, q2⟩ := dgs_all (L := L) (K := K) k (p + 1) (by omega) (by omega)
        refine ⟨by omega, fun j hj => ?_⟩
        by_cases c : j = 0
        · rw [c]; exact b
        · have := q2 (j - 1) (by omega)
          rw [show p + 1 + (j - 1) = p + j by omega] at this
          exact this
      · rw [if_neg b] at e; omega
def sEnd (L : Nat → Int32) (K e t : Nat) : Bool × Nat := if e = t then (if e = K then (false, e) else if L e = 59 then (true, e + 1) else (false, e)) else (false, e)
/-- one statement from p on: all there (and where the next begins), or the first letter that can't be -/
def sOne (L : Nat → Int32) (K p : Nat) : Bool × Nat := if p = K then (false, p) else if ndN (L p) = 0 then (false, p) else if L p = 103 then (if p + 1 = K then (false, p + 1) else if sidx (L (p + 1)) = -1 then (false, p + 1) else sEnd L K (dgs L K 7 (p + 2)) (p + 2 + 7)) else sEnd L K (dgs L K (ndN (L p)) (p + 1)) (p + 1 + ndN (L p))
def Ct (L : Nat → Int32) (K : Nat) (g : Sg) : Prop := g.1 24 = nI K ∧ K ≤ 96 ∧ ∀ j, j < K → g.2 25 j = L j
theorem rat96 (g : Sg) {i : Nat} (hi : i < 96) : rat g 25 96 (nI i) = g.2 25 i := rat_l g 25 96 (nI i) i (by decide) (vpN hi (by decide)) (nI_clamp (by omega))
theorem Ct.at {L : Nat → Int32} {K : Nat} {g : Sg} (c : Ct L K g) {p : Nat} (hp : p < K) : rat g 25 96 (nI p) = L p := by
  have := c.2.1
  rw [rat96 g (show p < 96 by omega)]; exact c.2.2 p hp
theorem cEndL {L : Nat → Int32} {K : Nat} {g : Sg} (c : Ct L K g) {k : Nat} (hk : k < 100) : B_X2_firstOutOfPlace_126 (nI (k + 1)) g = some (nI K, g) := by
  unfold B_X2_firstOutOfPlace_126
  rw [c.1]
  by_cases z : nI K = 0
  · rw [if_pos z]
  · rw [if_neg z, if_neg (nI_nle (by omega) (by omega))]
theorem cDig {L : Nat → Int32} {K : Nat} {g : Sg} (c : Ct L K g) : ∀ (k p f : Nat), k ≤ 7 → p ≤ K → K - p < f → (dgs L K k p = p + k → ∃ f1, K - (p + k) < f1 ∧ lup3 B_X2_firstOutOfPlace_6 f (nI (k + 1)) 0 (nI p) g = lup3 B_X2_firstOutOfPlace_6 f1 (nI 1) 0 (nI (p + k)) g) ∧ (¬ dgs L K k p = p + k → lup3 B_X2_firstOutOfPlace_6 f (nI (k + 1)) 0 (nI p) g = some (nI (dgs L K k p), g)) := by
  have h96 := c.2.1
  intro k
  induction k with
  | zero =>
    intro p f hk hp hf
    exact ⟨fun _ => ⟨f, by omega, rfl⟩, fun h => absurd rfl h⟩
  | succ k ih =>
    intro p f hk hp hf
    obtain ⟨f, rfl⟩ : ∃ t, f = t + 1 := ⟨f - 1, by omega⟩
    have z1 : ¬ nI (k + 1 + 1) ≤ 1 := (nI_ge (show 1 < k + 1 + 1 by omega) (by omega) : ¬ nI (k + 1 + 1) ≤ nI 1)
    rw [dgs_s, lup3_s]
    by_cases pK : p = K
    · rw [if_pos pK]
      refine ⟨fun h => by omega, fun _ => ?_⟩
      generalize lup3 B_X2_firstOutOfPlace_6 f = self
      unfold B_X2_firstOutOfPlace_6
      rw [c.1, if_pos (nI_le (by omega) (by omega)), cEndL c (by omega), pK]
    · have eL := c.at (show p < K by omega)
      rw [if_neg pK]
      by_cases dL : isD (L p) = true
      · rw [if_pos dL]
        have step : B_X2_firstOutOfPlace_6 (lup3 B_X2_firstOutOfPlace_6 f) (nI (k + 1 + 1)) 0 (nI p) g = lup3 B_X2_firstOutOfPlace_6 f (nI (k + 1)) 0 (nI (p + 1)) g := by
          generalize lup3 B_X2_firstOutOfPlace_6 f = self
          unfold B_X2_firstOutOfPlace_6
          rw [c.1, if_neg (nI_ge (show p < K by omega) (by omega)), lt_eq, eL, if_neg (nI_ne0 (by omega) (by omega)), if_pos rfl, if_neg z1, isD_e, if_pos dL, if_neg (show ¬ (1 : Int32) = 0 by decide), nI_m1 (k + 1) (by omega), nI_1]
        rw [step]
        obtain ⟨i1, i2⟩ := ih (p + 1) f (by omega) (by omega) (by omega)
        refine ⟨fun h => ?_, fun h => i2 (by omega)⟩
        obtain ⟨f1, a, e⟩ := i1 (by omega)
        rw [show p + (k + 1) = p + 1 + k by omega]
        exact ⟨f1, a, e⟩
      · rw [if_neg dL]
        refine ⟨fun h => by omega, fun _ => ?_⟩
        generalize lup3 B_X2_firstOutOfPlace_6 f = self
        unfold B_X2_firstOutOfPlace_6
        rw [c.1, if_neg (nI_ge (show p < K by omega) (by omega)), lt_eq, eL, if_neg (nI_ne0 (by omega) (by omega)), if_pos rfl, if_neg z1, isD_e, if_neg dL, if_pos rfl]
/-- D from p on, a statement's end being q -/
def CR (K f : Nat) (x1 x2 : Int32) (p : Nat) (g : Sg) (b : Bool × Nat) : Prop := (b.1 = true → ∃ f1, K - b.2 < f1 ∧ lup3 B_X2_firstOutOfPlace_6 f x1 x2 (nI p) g = lup3 B_X2_firstOutOfPlace_6 f1 0 0 (nI b.2) g) ∧ (b.1 = false → lup3 B_X2_firstOutOfPlace_6 f x1 x2 (nI p) g = some (nI b.2, g))
theorem CR.no {K f : Nat} {x1 x2 : Int32} {p q : Nat} {g : Sg} (h : lup3 B_X2_firstOutOfPlace_6 f x1 x2 (nI p) g = some (nI q, g)) : CR K f x1 x2 p g (false, q) := ⟨fun e => (Bool.false_ne_true e).elim, fun _ => h⟩
theorem CR.step {K f f1 : Nat} {x1 x2 y1 y2 : Int32} {p q : Nat} {g : Sg} {b : Bool × Nat} (h : lup3 B_X2_firstOutOfPlace_6 f x1 x2 (nI p) g = lup3 B_X2_firstOutOfPlace_6 f1 y1 y2 (nI q) g) (r : CR K f1 y1 y2 q g b) : CR K f x1 x2 p g b := by
  unfold CR at r ⊢
  rw [h]; exact r
theorem cEnd {L : Nat → Int32} {K : Nat} {g : Sg} (c : Ct L K g) {k p f : Nat} (hk : k ≤ 7) (hp : p ≤ K) (hf : K - p < f) : CR K f (nI (k + 1)) 0 p g (sEnd L K (dgs L K k p) (p + k)) := by
  have h96 := c.2.1
  obtain ⟨d1, d2⟩ := cDig c k p f hk hp hf
  unfold sEnd
  by_cases e : dgs L K k p = p + k
  · obtain ⟨f1, a, r⟩ := d1 e
    have b := (dgs_all k p hp e).1
    rw [if_pos e, e]
    refine CR.step r ?_
    obtain ⟨f1, rfl⟩ : ∃ t, f1 = t + 1 := ⟨f1 - 1, by omega⟩
    by_cases eK : p + k = K
    · rw [if_pos eK]
      refine CR.no ?_
      rw [lup3_s]
      generalize lup3 B_X2_firstOutOfPlace_6 f1 = self
      unfold B_X2_firstOutOfPlace_6
      have q := cEndL c (k := 0) (by omega)
      rw [c.1, if_pos (nI_le (by omega) (by omega)), eK]
      exact q
    · have eL := c.at (show p + k < K by omega)
      rw [if_neg eK]
      by_cases s : L (p + k) = 59
      · rw [if_pos s]
        refine ⟨fun _ => ⟨f1, by show K - (p + k + 1) < f1; omega, ?_⟩, fun h => (Bool.false_ne_true h.symm).elim⟩
        rw [lup3_s]
        generalize lup3 B_X2_firstOutOfPlace_6 f1 = self
        unfold B_X2_firstOutOfPlace_6
        rw [c.1, if_neg (nI_ge (show p + k < K by omega) (by omega)), lt_eq, eL, if_neg (show ¬ nI 1 = 0 by decide), if_pos rfl, if_pos (show nI 1 ≤ 1 by decide), if_pos s, nI_1]
        rfl
      · rw [if_neg s]
        refine CR.no ?_
        rw [lup3_s]
        generalize lup3 B_X2_firstOutOfPlace_6 f1 = self
        unfold B_X2_firstOutOfPlace_6
        rw [c.1, if_neg (nI_ge (show p + k < K by omega) (by omega)), lt_eq, eL, if_neg (show ¬ nI 1 = 0 by decide), if_pos rfl, if_pos (show nI 1 ≤ 1 by decide), if_neg s]
  · rw [if_neg e]
    exact CR.no (d2 e)
theorem cOne {L : Nat → Int32} {K : Nat} {g : Sg} (c : Ct L K g) {p f : Nat} (hp : p < K) (hf : K - p < f) : CR K f 0 0 p g (sOne L K p) := by
  have h96 := c.2.1
  have eL := c.at hp
  obtain ⟨f, rfl⟩ : ∃ t, f = t + 1 := ⟨f - 1, by omega⟩
  unfold sOne
  rw [if_neg (show ¬ p = K by omega)]
  by_cases n0 : ndN (L p) = 0
  · rw [if_pos n0]
    refine CR.no ?_
    have dm : V_X2_digitsOf (L p) g = -1 := by
      rcases ndN_c (L p) with ⟨-, -, -, -, -, -, -, w⟩ | w | w | w | w | w | w
      · exact w g
      all_goals (rw [w] at n0; exact absurd n0 (by decide))
    rw [lup3_s]
    generalize lup3 B_X2_firstOutOfPlace_6 f = self
    unfold B_X2_firstOutOfPlace_6
    rw [c.1, if_neg (nI_ge hp (by omega)), lt_eq, eL, if_pos rfl, dm, if_pos rfl]
  · rw [if_neg n0]
    obtain ⟨dv, d7⟩ := ndN_v n0 g
    by_cases g3 : L p = 103
    · rw [if_pos g3]
      have n7 : ndN (L p) = 7 := by rw [g3]; rfl
      have step : lup3 B_X2_firstOutOfPlace_6 (f + 1) 0 0 (nI p) g = lup3 B_X2_firstOutOfPlace_6 f (nI (7 + 1)) 1 (nI (p + 1)) g := by
        rw [lup3_s]
        generalize lup3 B_X2_firstOutOfPlace_6 f = self
        unfold B_X2_firstOutOfPlace_6
        rw [c.1, if_neg (nI_ge hp (by omega)), lt_eq, eL, if_pos rfl, dv, n7, if_neg (nm1 (by omega)), if_pos g3, nI_1, nI_1]
      refine CR.step step ?_
      obtain ⟨f, rfl⟩ : ∃ t, f = t + 1 := ⟨f - 1, by omega⟩
      by_cases q1 : p + 1 = K
      · rw [if_pos q1]
        refine CR.no ?_
        rw [lup3_s]
        generalize lup3 B_X2_firstOutOfPlace_6 f = self
        unfold B_X2_firstOutOfPlace_6
        rw [c.1, if_pos (nI_le (by omega) (by omega)), cEndL c (by omega), q1]
      · have eL1 := c.at (show p + 1 < K by omega)
        rw [if_neg q1]
        have ks := sidx_e (L (p + 1)) g
        by_cases kd : sidx (L (p + 1)) = -1
        · rw [if_pos kd]
          refine CR.no ?_
          rw [lup3_s]
          generalize lup3 B_X2_firstOutOfPlace_6 f = self
          unfold B_X2_firstOutOfPlace_6
          rw [c.1, if_neg (nI_ge (show p + 1 < K by omega) (by omega)), lt_eq, eL1, if_neg (nI_ne0 (by omega) (by omega)), if_neg (show ¬ (1 : Int32) = 0 by decide), ← ks, if_pos kd]
        · rw [if_neg kd]
          have step2 : lup3 B_X2_firstOutOfPlace_6 (f + 1) (nI (7 + 1)) 1 (nI (p + 1)) g = lup3 B_X2_firstOutOfPlace_6 f (nI (7 + 1)) 0 (nI (p + 2)) g := by
            rw [lup3_s]
            generalize lup3 B_X2_firstOutOfPlace_6 f = self
            unfold B_X2_firstOutOfPlace_6
            rw [c.1, if_neg (nI_ge (show p + 1 < K by omega) (by omega)), lt_eq, eL1, if_neg (nI_ne0 (by omega) (by omega)), if_neg (show ¬ (1 : Int32) = 0 by decide), ← ks, if_neg kd, nI_1]
          exact CR.step step2 (cEnd c (k := 7) (p := p + 2) (by omega) (by omega) (by omega))
    · rw [if_neg g3]
      have step : lup3 B_X2_firstOutOfPlace_6 (f + 1) 0 0 (nI p) g = lup3 B_X2_firstOutOfPlace_6 f (nI (ndN (L p) + 1)) 0 (nI (p + 1)) g := by
        rw [lup3_s]
        generalize lup3 B_X2_firstOutOfPlace_6 f = self
        unfold B_X2_firstOutOfPlace_6
        rw [c.1, if_neg (nI_ge hp (by omega)), lt_eq, eL, if_pos rfl, dv, if_neg (nm1 (by omega)), if_neg g3, nI_1, nI_1]
      exact CR.step step (cEnd c (k := ndN (L p)) (p := p + 1) d7 (by omega) (by omega))
