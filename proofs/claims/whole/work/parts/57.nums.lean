/-! The numbers in a statement; what is a cell, an hour, a goer -/
def dv (x : Int32) : Nat := (x.toInt - 48).toNat
theorem dv_e {x : Int32} (h : isD x = true) : x = nI (48 + dv x) ∧ dv x ≤ 9 ∧ x - 48 = nI (dv x) := by
  obtain ⟨a, b⟩ := (isD_iff x).mp h
  have t48 : (48 : Int32).toInt = 48 := rfl
  have t57 : (57 : Int32).toInt = 57 := rfl
  rw [i_lt, t48] at a
  rw [i_le, t57] at b
  have e : x = nI (48 + dv x) := i_eq (by
    unfold dv
    rw [T_nI (by omega)]
    omega)
  have l : dv x ≤ 9 := by unfold dv; omega
  refine ⟨e, l, i_eq ?_⟩
  rw [T_sub (by rw [t48]; omega) (by rw [t48]; omega), t48, T_nI (by omega)]
  unfold dv
  omega
def num (L : Nat → Int32) (p : Nat) : Nat → Nat
  | 0 => 0
  | k + 1 => num L p k * 10 + dv (L (p + k))
theorem num_s (L : Nat → Int32) (p k : Nat) : num L p (k + 1) = num L p k * 10 + dv (L (p + k)) := rfl
theorem num1 (L : Nat → Int32) (p : Nat) : num L p 1 = dv (L p) := by
  show 0 * 10 + dv (L (p + 0)) = _
  rw [Nat.add_zero]; omega
theorem num2 (L : Nat → Int32) (p : Nat) : num L p 2 = 10 * dv (L p) + dv (L (p + 1)) := by
  rw [num_s, num1]; omega
theorem num3 (L : Nat → Int32) (p : Nat) : num L p 3 = 100 * dv (L p) + (10 * dv (L (p + 1)) + dv (L (p + 2))) := by
  rw [num_s, num2]; omega
theorem num_lt {L : Nat → Int32} {p : Nat} : ∀ k, (∀ j, j < k → isD (L (p + j)) = true) → num L p k < 10 ^ k
  | 0, _ => Nat.one_pos
  | k + 1, h => by
    have a := num_lt k (fun j hj => h j (by omega))
    have b := (dv_e (h k (by omega))).2.1
    rw [num_s, Nat.pow_succ]
    omega
theorem tenth {a d : Nat} {x : Int32} (ha : a < 1000) (hd : d ≤ 9) (hx : x = nI (48 + d)) : nI a * 10 + x - 48 = nI (a * 10 + d) := by
  have t48 : (48 : Int32).toInt = 48 := rfl
  have t10 : (10 : Int32).toInt = 10 := rfl
  have e1 : (nI a * 10).toInt = (a : Int) * 10 := by rw [T_mul (by rw [t10, T_nI (by omega)]; omega) (by rw [t10, T_nI (by omega)]; omega), t10, T_nI (by omega)]
  have e2 : (nI a * 10 + x).toInt = (a : Int) * 10 + (48 + d) := by
    rw [hx, T_add (by rw [e1, T_nI (by omega)]; omega) (by rw [e1, T_nI (by omega)]; omega), e1, T_nI (by omega)]
    omega
  apply i_eq
  rw [T_sub (by rw [e2, t48]; omega) (by rw [e2, t48]; omega), e2, t48, T_nI (by omega)]
  omega
theorem ten {a b : Nat} (ha : a < 100) (hb : b < 1000) : (10 : Int32) * nI a + nI b = nI (10 * a + b) := by
  have t10 : (10 : Int32).toInt = 10 := rfl
  have e1 : ((10 : Int32) * nI a).toInt = 10 * (a : Int) := by rw [T_mul (by rw [t10, T_nI (by omega)]; omega) (by rw [t10, T_nI (by omega)]; omega), t10, T_nI (by omega)]
  apply i_eq
  rw [T_add (by rw [e1, T_nI (by omega)]; omega) (by rw [e1, T_nI (by omega)]; omega), e1, T_nI (by omega), T_nI (by omega)]
  omega
theorem hundred {a b : Nat} (ha : a < 100) (hb : b < 1000) : (100 : Int32) * nI a + nI b = nI (100 * a + b) := by
  have t10 : (100 : Int32).toInt = 100 := rfl
  have e1 : ((100 : Int32) * nI a).toInt = 100 * (a : Int) := by rw [T_mul (by rw [t10, T_nI (by omega)]; omega) (by rw [t10, T_nI (by omega)]; omega), t10, T_nI (by omega)]
  apply i_eq
  rw [T_add (by rw [e1, T_nI (by omega)]; omega) (by rw [e1, T_nI (by omega)]; omega), e1, T_nI (by omega), T_nI (by omega)]
  omega
theorem cNumL {L : Nat → Int32} {K p k : Nat} {h : Sg} (c : Ct L K h) (hk : k ≤ 3) (hp : p + k ≤ K) (hd : ∀ j, j < k → isD (L (p + j)) = true) : ∀ (d j f : Nat), j + d = k → d < f → lup4 B_X2_number_5 f (nI p) (nI k) (nI (num L p j)) (nI (p + j)) h = some (nI (num L p k), h) := by
  have h96 := c.2.1
  intro d
  induction d with
  | zero =>
    intro j f hj hf
    obtain ⟨f, rfl⟩ : ∃ t, f = t + 1 := ⟨f - 1, by omega⟩
    obtain rfl : j = k := by omega
    rw [lup4_s]
    generalize lup4 B_X2_number_5 f = self
    unfold B_X2_number_5
    rw [nI_add, if_pos (nI_le (by omega) (by omega))]
  | succ d ih =>
    intro j f hj hf
    obtain ⟨f, rfl⟩ : ∃ t, f = t + 1 := ⟨f - 1, by omega⟩
    have l := num_lt (L := L) (p := p) j (fun i hi => hd i (by omega))
    have l3 : 10 ^ j ≤ 10 ^ 3 := Nat.pow_le_pow_right (by decide) (by omega)
    obtain ⟨v1, v2, -⟩ := dv_e (hd j (by omega))
    rw [lup4_s, ← ih (j + 1) f (by omega) (by omega)]
    generalize lup4 B_X2_number_5 f = self
    unfold B_X2_number_5
    rw [nI_add, if_neg (nI_ge (by omega) (by omega)), lt_eq, c.at (show p + j < K by omega), tenth (by omega) v2 v1, nI_1, num_s, Nat.add_assoc]
theorem cNum {L : Nat → Int32} {K p k : Nat} {h : Sg} (c : Ct L K h) (hk : k ≤ 3) (hp : p + k ≤ K) (hd : ∀ j, j < k → isD (L (p + j)) = true) {x y : Int32} (hx : x = nI p) (hy : y = nI k) : M_X2_number x y h = some (nI (num L p k), h) := by
  have e : lup4 B_X2_number_5 FU (nI p) (nI k) 0 (nI p) h = _ := cNumL c hk hp hd k 0 FU (by omega) (by unfold FU; omega)
  unfold M_X2_number
  rw [hx, hy, e]
theorem mTwo {m : Sg} {x : Int32} {i a b : Nat} (hx : x = nI i) (hi : i + 1 < 8) (h0 : m.2 8 i = nI a) (h1 : m.2 8 (i + 1) = nI b) (ha : a ≤ 9) (hb : b ≤ 9) : M_X7_two x m = some (nI (10 * a + b), m) := by
  unfold M_X7_two
  rw [hx, nI_1, chk_ok (vpN (show i < 8 by omega) (by decide)), chk_ok (vpN hi (by decide)), rdN _ _ (show i < 1000 by omega), rdN _ _ (show i + 1 < 1000 by omega), h0, h1, ten (by omega) (by omega)]
theorem wi_y {v b : Nat} (h : v ≤ b) (hb : b < 1000) (g : Sg) : V_X7_within (nI v) 0 (nI b) g = 1 := by
  rw [within_e, if_neg (nI_pos (by omega)), if_neg (nI_nlt h (by omega))]
theorem wi_n {v b : Nat} (h : b < v) (hv : v < 1000) (g : Sg) : V_X7_within (nI v) 0 (nI b) g = 0 := by
  rw [within_e, if_neg (nI_pos (by omega)), if_pos (nI_lt h (by omega))]
theorem cellY {v : Nat} (h : v ≤ 39) (g : Sg) : V_X7_isCell (nI v) g = 1 := wi_y h (by decide) g
theorem cellN {v : Nat} (h : ¬ v ≤ 39) (hv : v < 1000) (g : Sg) : V_X7_isCell (nI v) g = 0 := wi_n (b := 39) (by omega) hv g
theorem hourY {v : Nat} (h : v ≤ 11) (g : Sg) : V_X7_isHour (nI v) g = 1 := wi_y h (by decide) g
theorem hourN {v : Nat} (h : ¬ v ≤ 11) (hv : v < 1000) (g : Sg) : V_X7_isHour (nI v) g = 0 := wi_n (b := 11) (by omega) hv g
theorem goerY {a n : Nat} (h : a < n) (hn : n ≤ 7) {g : Sg} (hs : g.1 0 = nI n) : V_X7_isGoer (nI a) g = 1 := by
  unfold V_X7_isGoer
  rw [hs, nIm1 (by omega) (by omega), nI_m1 (n - 1) (by omega)]
  exact wi_y (by omega) (by omega) g
theorem goerN {a n : Nat} (h : ¬ a < n) (ha : a < 1000) (hn : n ≤ 7) {g : Sg} (hs : g.1 0 = nI n) : V_X7_isGoer (nI a) g = 0 := by
  unfold V_X7_isGoer
  rw [hs]
  by_cases z : n = 0
  · subst z
    rw [within_e, if_neg (nI_pos (by omega)), if_pos]
    rw [i_lt, T_nI (by omega)]
    show (-1 : Int) < (a : Int)
    omega
  · rw [nIm1 (by omega) (by omega), nI_m1 (n - 1) (by omega)]
    exact wi_n (by omega) ha g
theorem knowY {a n : Nat} (h : a < n) (hn : n ≤ 7) {g : Sg} (hs : g.1 17 = nI n) : V_X0_knows 17 (nI a) g = 1 := by
  rw [knows_e, hs, if_neg (nI_pos (by omega)), if_neg (nI_ge h (by omega))]
theorem knowN {a n : Nat} (h : ¬ a < n) (ha : a < 1000) {g : Sg} (hs : g.1 17 = nI n) : V_X0_knows 17 (nI a) g = 0 := by
  rw [knows_e, hs, if_neg (nI_pos (by omega)), if_pos (nI_le (by omega) (by omega))]
/-- what a good statement holds -/
theorem okO {L : Nat → Int32} {K p k : Nat} (hp : p < K) (hb : (sOne L K p).1 = true) (h0 : ndN (L p) = k) (hk : ¬ k = 0) (h3 : ¬ L p = 103) : dgs L K k (p + 1) = p + 1 + k ∧ p + 1 + k < K ∧ (∀ j, j < k → isD (L (p + 1 + j)) = true) ∧ L (p + 1 + k) = 59 ∧ (sOne L K p).2 = p + 1 + k + 1 := by
  rw [sOne_o hp h0 hk h3] at hb ⊢
  obtain ⟨a, b, c, d⟩ := sEnd_gt hb
  obtain ⟨e, f⟩ := dgs_all k (p + 1) (by omega) a
  rw [d, ← a]
  exact ⟨rfl, by omega, f, c, rfl⟩
theorem okG {L : Nat → Int32} {K p : Nat} (hp : p < K) (hb : (sOne L K p).1 = true) (h3 : L p = 103) : ∃ kd, kd ≤ 5 ∧ ¬ p + 1 = K ∧ sidx (L (p + 1)) = nI kd ∧ dgs L K 7 (p + 2) = p + 2 + 7 ∧ p + 2 + 7 < K ∧ (∀ j, j < 7 → isD (L (p + 2 + j)) = true) ∧ L (p + 2 + 7) = 59 ∧ (sOne L K p).2 = p + 2 + 7 + 1 := by
  rw [sOne_g hp h3] at hb ⊢
  by_cases d : p + 1 = K
  · rw [if_pos d] at hb; exact (Bool.false_ne_true hb).elim
  · rw [if_neg d] at hb ⊢
    rcases sidx_c (L (p + 1)) with e | ⟨kd, k5, e⟩
    · rw [if_pos e] at hb; exact (Bool.false_ne_true hb).elim
    · rw [if_neg (by rw [e]; exact nm1 (by omega))] at hb ⊢
      obtain ⟨a, b, c, d2⟩ := sEnd_gt hb
      obtain ⟨x, y⟩ := dgs_all 7 (p + 2) (by omega) a
      rw [d2, ← a]
      exact ⟨kd, k5, d, e, rfl, by omega, y, c, rfl⟩
theorem len_e {L : Nat → Int32} {K p : Nat} (h96 : K ≤ 96) (hp : p < K) (hb : (sOne L K p).1 = true) (g : Sg) : nI p + V_X2_lengthOf (L p) g = nI (sOne L K p).2 := by
  have n2 : ∀ k : Nat, nI k + 2 = nI (k + 2) := fun k => nI_add k 2
  have n3 : ∀ k : Nat, nI k + 3 = nI (k + 3) := fun k => nI_add k 3
  unfold V_X2_lengthOf
  by_cases h3 : L p = 103
  · obtain ⟨kd, -, -, -, -, -, -, -, e⟩ := okG hp hb h3
    have v := ndN_v (x := L p) (by rw [h3]; decide) g
    have w : ndN (L p) = 7 := by rw [h3]; rfl
    rw [if_pos h3, v.1, w, n3, nI_add, e]
  · by_cases z : ndN (L p) = 0
    · exfalso
      unfold sOne at hb
      rw [if_neg (show ¬ p = K by omega), if_pos z] at hb
      exact Bool.false_ne_true hb
    · obtain ⟨-, -, -, -, e⟩ := okO hp hb rfl z h3
      have v := ndN_v (x := L p) z g
      rw [if_neg h3, v.1, n2, nI_add, e]
      congr 1
      omega
theorem mvU {V : Vw} {m : Sg} {k i : Nat} (hV : mv m = V) (hk : k < 6) (x : Int32) : mv (sF m (mk k) (upd (m.2 (mk k)) i x)) = Up k i V x := by
  rw [mv_up hk, hV]
  have e : m.2 (mk k) = V k := by
    rw [← hV]
    unfold mv mk
    by_cases h0 : k = 0
    · rw [if_pos h0, if_pos h0]
    · rw [if_neg h0, if_neg h0, if_pos hk]
  rw [e]; rfl
theorem settle17_no {h : Sg} {i : Nat} {x m : Int32} (hr : ratZ (nI i) = m) (hx : ¬ x ≤ m) : M_X0_settle 17 (nI i) x h = some (0, h) := by
  unfold M_X0_settle
  rw [hr, if_neg hx]
theorem VOK.dark {V : Vw} {n : Nat} (h : VOK V n) {x : Int32} (hx : rg 9 x) : VOK (Up 0 2 V x) n := ⟨h.1, h.2.1, h.2.2.1, hx, h.2.2.2.2⟩
theorem rz0 (g : Sg) : rz 0 g = some (0, g) := rfl
theorem rz1 (g : Sg) : rz 1 g = some (1, g) := rfl
