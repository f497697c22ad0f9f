/-! The payments, both -/
theorem rat128 (g : Sg) (k : Nat) {i : Nat} (hi : i < 128) : rat g k 128 (nI i) = g.2 k i := rat_l g k 128 (nI i) i (by decide) (vpN hi (by decide)) (nI_clamp (by omega))
theorem rput128 (g : Sg) (k : Nat) {i : Nat} (hi : i < 128) (x : Int32) : rput g k 128 (nI i) x = sF g k (upd (g.2 k) i x) := rput_l g k 128 (nI i) x i (by decide) (vpN hi (by decide)) (nI_clamp (by omega))
theorem imax_n {a b : Nat} (ha : a < 1000) (hb : b < 1000) : imax (nI a) (nI b) = nI (max a b) := by
  apply i_eq
  rw [T_max, T_nI (by omega), T_nI (by omega), T_nI (by omega)]
  split <;> omega
theorem cJoin {N : Nat → Int32} {n S : Nat} {G : Nat → Nat} (hn : n ≤ 7) (hS0 : 0 < S) (hS : S < 2 ^ n) (hb : ∀ T, T < S → G T ≤ T) : ∀ (d j f : Nat) (g : Sg), j + d = n → d < f → (∀ i, i < n → g.2 41 i = N i) → (∀ T, T < S → g.2 43 T = nI (G T) ∧ g.2 42 T = sumS N T n) → (∀ i, i < j → S.testBit i = true → g.2 42 S = sumS N S n) → ∃ h, lup4 B_X1_joinUp_5 f (nI S) (nI n) (nI (mxS S G j)) (nI j) g = some h ∧ (∀ T, T < S → h.2 43 T = nI (G T) ∧ h.2 42 T = sumS N T n) ∧ h.2 43 S = nI (stC N n G S) ∧ h.2 42 S = sumS N S n ∧ (∀ k, k ≠ 42 → k ≠ 43 → h.2 k = g.2 k) ∧ h.1 = g.1 := by
  have h128 := p128 hn
  have bnd : ∀ j, j ≤ n → mxS S G j ≤ S := fun j hj => mxS_lub j (fun i hi hbit => by
    have l : S - 2 ^ i < S := mk_lt ⟨S, by omega⟩ ⟨i, by omega⟩ hbit
    have := hb _ l
    omega)
  intro d
  induction d with
  | zero =>
    intro j f g hj hf h41 hT hs
    obtain ⟨f, rfl⟩ : ∃ t, f = t + 1 := ⟨f - 1, by omega⟩
    have jn : j = n := by omega
    have e42 : g.2 42 S = sumS N S n := by
      obtain ⟨i, hi, hbit⟩ := mk_ex ⟨n, by omega⟩ ⟨S, by omega⟩ hS0 hS
      exact hs i.1 (by rw [jn]; exact hi) hbit
    rw [lup4_s]
    generalize lup4 B_X1_joinUp_5 f = self
    unfold B_X1_joinUp_5
    rw [if_pos (nI_le (by omega) (by omega))]
    unfold B_X1_joinUp_74
    rw [rat128 _ _ (show S < 128 by omega), e42, lt_eq, lt_eq, rput128 _ _ (show S < 128 by omega), rput128 _ _ (show S < 128 by omega), nI_1]
    have fin : ∀ v : Nat, v = stC N n G S → ∃ h, some (sF g 43 (upd (g.2 43) S (nI v))) = some h ∧ (∀ T, T < S → h.2 43 T = nI (G T) ∧ h.2 42 T = sumS N T n) ∧ h.2 43 S = nI (stC N n G S) ∧ h.2 42 S = sumS N S n ∧ (∀ k, k ≠ 42 → k ≠ 43 → h.2 k = g.2 k) ∧ h.1 = g.1 := fun v hv => by
      refine ⟨_, rfl, fun T hTS => ⟨?_, ?_⟩, ?_, ?_, fun k a b => ?_, rfl⟩
      · rw [sF2, if_pos rfl, upd_ne _ _ (by omega)]; exact (hT T hTS).1
      · rw [sF2, if_neg (by decide)]; exact (hT T hTS).2
      · rw [sF2, if_pos rfl, upd_at, hv]
      · rw [sF2, if_neg (by decide)]; exact e42
      · rw [sF2, if_neg b]
    by_cases z : sumS N S n = 0
    · rw [if_pos z]
      exact fin _ (by unfold stC; rw [if_pos z, jn])
    · rw [if_neg z]
      exact fin _ (by unfold stC; rw [if_neg z, jn]; rfl)
  | succ d ih =>
    intro j f g hj hf h41 hT hs
    obtain ⟨f, rfl⟩ : ∃ t, f = t + 1 := ⟨f - 1, by omega⟩
    have jn : j < n := by omega
    have lessE := mk_less ⟨S, by omega⟩ ⟨j, by omega⟩
    rw [lup4_s]
    by_cases c : S.testBit j = true
    · have l : S - 2 ^ j < S := mk_lt ⟨S, by omega⟩ ⟨j, by omega⟩ c
      rw [if_pos c] at lessE
      have ne : ¬ nI (S - 2 ^ j) = nI S := fun e => by
        have := nI_eq' (by omega) (by omega) e
        omega
      have gl := hb _ l
      have bl := bnd j (by omega)
      have es := sum_sub (N := N) (S := S) (i := j) (by omega) (by omega) c n hn
      rw [if_pos jn] at es
      obtain ⟨h, e, r⟩ := ih (j + 1) f (sF g 42 (upd (g.2 42) S (sumS N S n))) (by omega) (by omega) (fun i hi => by rw [sF2, if_neg (by decide)]; exact h41 i hi) (fun T hTS => ⟨by rw [sF2, if_neg (by decide)]; exact (hT T hTS).1, by rw [sF2, if_pos rfl, upd_ne _ _ (by omega)]; exact (hT T hTS).2⟩) (fun i _ _ => by rw [sF2, if_pos rfl, upd_at])
      refine ⟨h, ?_, r.1, r.2.1, r.2.2.1, fun k a b => by rw [r.2.2.2.1 k a b, sF2, if_neg a], r.2.2.2.2⟩
      rw [← e]
      generalize lup4 B_X1_joinUp_5 f = self
      unfold B_X1_joinUp_5
      rw [if_neg (nI_ge jn (by omega)), lt_eq, lessE, if_neg ne, lt_eq, lt_eq, rat128 _ _ (show S - 2 ^ j < 128 by omega), rat128 _ _ (show S - 2 ^ j < 128 by omega), (hT _ l).1, (hT _ l).2, rat7 _ _ (show j < 7 by omega), h41 j jn, ← es, rput128 _ _ (show S < 128 by omega), imax_n (by omega) (by omega), nI_1, mxS_s, if_pos c]
    · rw [if_neg c] at lessE
      obtain ⟨h, e, r⟩ := ih (j + 1) f g (by omega) (by omega) h41 hT (fun i hi hbit => by
        by_cases q : i = j
        · subst q; exact absurd hbit c
        · exact hs i (by omega) hbit)
      refine ⟨h, ?_, r⟩
      rw [← e]
      generalize lup4 B_X1_joinUp_5 f = self
      unfold B_X1_joinUp_5
      rw [if_neg (nI_ge jn (by omega)), lt_eq, lessE, if_pos rfl, nI_1, mxS_s, if_neg c]
theorem gC_ext {N : Nat → Int32} {n : Nat} {G U : Nat → Nat} {S : Nat} (hn : n ≤ 7) (hS : S < 128) (h : ∀ T, T < S → G T = U T) : stC N n G S = stC N n U S := by
  unfold stC
  rw [mxS_congr n (fun j hj hbit => h _ (mk_lt ⟨S, hS⟩ ⟨j, by omega⟩ hbit))]
theorem cFew {N : Nat → Int32} {n : Nat} (hn : n ≤ 7) : ∀ (d k f : Nat) (g : Sg) (G : Nat → Nat), k + d = 2 ^ n → d < f → 1 ≤ k → (∀ i, i < n → g.2 41 i = N i) → (∀ T, T < k → g.2 43 T = nI (G T) ∧ g.2 42 T = sumS N T n) → (∀ T, T < k → G T = gC N n G T) → ∃ h G1, lup3 B_X1_fewestPayments_34 f (nI n) (nI (2 ^ n - 1)) (nI k) g = some (nI n - nI (G1 (2 ^ n - 1)), h) ∧ (∀ T, T < 2 ^ n → G1 T = gC N n G1 T) ∧ (∀ k, k ≠ 42 → k ≠ 43 → h.2 k = g.2 k) ∧ h.1 = g.1 := by
  have h128 := p128 hn
  have h1 := p1 (n := n)
  intro d
  induction d with
  | zero =>
    intro k f g G hk hf k1 h41 hT hG
    obtain ⟨f, rfl⟩ : ∃ t, f = t + 1 := ⟨f - 1, by omega⟩
    have kn : k = 2 ^ n := by omega
    refine ⟨g, G, ?_, by rw [← kn]; exact hG, fun _ _ _ => rfl, rfl⟩
    rw [lup3_s]
    generalize lup3 B_X1_fewestPayments_34 f = self
    unfold B_X1_fewestPayments_34
    rw [if_pos (nI_lt (show 2 ^ n - 1 < k by omega) (by omega))]
    unfold B_X1_fewestPayments_51
    rw [rat128 _ _ (show 2 ^ n - 1 < 128 by omega), (hT _ (show 2 ^ n - 1 < k by omega)).1]
  | succ d ih =>
    intro k f g G hk hf k1 h41 hT hG
    obtain ⟨f, rfl⟩ : ∃ t, f = t + 1 := ⟨f - 1, by omega⟩
    have bd := g_bd hn (show k ≤ 2 ^ n by omega) (fun S hS => gC_c (hG S hS))
    obtain ⟨g1, e1, a1, a2, a3, a4, a5⟩ := cJoin (N := N) (S := k) hn (by omega) (show k < 2 ^ n by omega) (fun T hTk => bd _ T (Nat.le_refl _) hTk) n 0 FU g (by omega) (by unfold FU; omega) h41 hT (fun i hi => absurd hi (Nat.not_lt_zero i))
    have e1 : M_X1_joinUp (nI k) (nI n) g = some g1 := e1
    obtain ⟨G2, hG2⟩ : ∃ G2 : Nat → Nat, G2 = fun T => if T = k then stC N n G k else G T := ⟨_, rfl⟩
    have g2k : G2 k = stC N n G k := by rw [hG2]; exact if_pos rfl
    have g2n : ∀ T, T < k → G2 T = G T := fun T hTk => by rw [hG2]; exact if_neg (by omega)
    obtain ⟨h, G1, e2, b1, b2, b3⟩ := ih (k + 1) f g1 G2 (by omega) (by omega) (by omega) (fun i hi => by rw [a4 41 (by decide) (by decide)]; exact h41 i hi) (fun T hTk => by
      by_cases q : T = k
      · rw [q, g2k]; exact ⟨a2, a3⟩
      · rw [g2n T (by omega)]; exact a1 T (by omega)) (fun T hTk => by
      have x : stC N n G2 T = stC N n G T := gC_ext hn (by omega) (fun U hU => g2n U (by omega))
      by_cases q : T = k
      · unfold gC
        rw [if_neg (by omega), x, q, g2k]
      · rw [g2n T (by omega), hG T (by omega)]
        unfold gC
        rw [x])
    refine ⟨h, G1, ?_, b1, fun j x y => (b2 j x y).trans (a4 j x y), b3.trans a5⟩
    rw [lup3_s, ← e2]
    generalize lup3 B_X1_fewestPayments_34 f = self
    unfold B_X1_fewestPayments_34
    rw [if_neg (nI_nlt (show k ≤ 2 ^ n - 1 by omega) (by omega)), e1, bV_some, nI_1]
theorem cPays {N : Nat → Int32} {n : Nat} {g : Sg} (hn : n ≤ 7) (h41 : ∀ i, i < n → g.2 41 i = N i) : ∃ h G1, M_X1_fewestPayments (nI n) g = some (nI n - nI (G1 (2 ^ n - 1)), h) ∧ (∀ T, T < 2 ^ n → G1 T = gC N n G1 T) ∧ (∀ k, k ≠ 42 → k ≠ 43 → h.2 k = g.2 k) ∧ h.1 = g.1 := by
  have h128 := p128 hn
  have h1 := p1 (n := n)
  obtain ⟨g0, hg0⟩ : ∃ g0, g0 = sF (sF g 42 (upd (g.2 42) 0 0)) 43 (upd (g.2 43) 0 0) := ⟨_, rfl⟩
  have f0 : ∀ k, k ≠ 42 → k ≠ 43 → g0.2 k = g.2 k := fun k a b => by rw [hg0, sF2, if_neg b, sF2, if_neg a]
  have f43 : g0.2 43 0 = 0 := by rw [hg0, sF2, if_pos rfl, upd_at]
  have f42 : g0.2 42 0 = 0 := by rw [hg0, sF2, if_neg (by decide), sF2, if_pos rfl, upd_at]
  obtain ⟨h, G1, e, a, b, c⟩ := cFew (N := N) hn (2 ^ n - 1) 1 FU g0 (fun _ => 0) (by omega) (by unfold FU; omega) (by decide) (fun i hi => by rw [f0 41 (by decide) (by decide)]; exact h41 i hi) (fun T hT => by
    obtain rfl : T = 0 := by omega
    exact ⟨f43, by rw [sum_0]; exact f42⟩) (fun T hT => by
    obtain rfl : T = 0 := by omega
    exact (if_pos rfl).symm)
  refine ⟨h, G1, ?_, a, fun k x y => (b k x y).trans (f0 k x y), c.trans (by rw [hg0]; rfl)⟩
  have e : lup3 B_X1_fewestPayments_34 FU (nI n) (nI (2 ^ n - 1)) 1 g0 = _ := e
  have r42 : rput g 42 128 0 0 = sF g 42 (upd (g.2 42) 0 0) := rput128 g 42 (i := 0) (by decide) 0
  have r43 : rput (sF g 42 (upd (g.2 42) 0 0)) 43 128 0 0 = g0 := by rw [hg0]; exact rput128 _ 43 (i := 0) (by decide) 0
  unfold M_X1_fewestPayments
  have ma : ((1 : Int32) <<< (nI n &&& 31)) - 1 = nI (2 ^ n - 1) := mk_all ⟨n, by omega⟩
  rw [if_pos (show nI n ≤ 7 from (nlit hn (by decide) : nI n ≤ nI 7)), lt_eq, r42, lt_eq, r43, ma, e]
theorem mIn54 {N : Nat → Int32} {n S : Nat} {g : Sg} (hn : n ≤ 7) (hS : S < 128) (hs : g.1 0 = nI n) (h21 : ∀ i, i < n → g.2 21 i = N i) (kb36 : Int32 → Int32 → Sg → Option (Int32 × Sg)) (x1 : Int32) : ∀ (d j f : Nat), j + d = n → d < f → lup5 (B_X7_payments_54 kb36) f x1 (nI S) (sumS N S j) (if zin N S j = true then -9 else 0) (nI j) g = lup5 (B_X7_payments_108 kb36) FU x1 (nI S) (sumS N S n) (if zin N S n = true then -9 else 0) 0 g := by
  intro d
  induction d with
  | zero =>
    intro j f hj hf
    obtain ⟨f, rfl⟩ : ∃ t, f = t + 1 := ⟨f - 1, by omega⟩
    obtain rfl : j = n := by omega
    rw [lup5_s]
    generalize lup5 (B_X7_payments_54 kb36) f = self
    unfold B_X7_payments_54
    rw [hs, if_pos (nI_le (by omega) (by omega))]
  | succ d ih =>
    intro j f hj hf
    obtain ⟨f, rfl⟩ : ∃ t, f = t + 1 := ⟨f - 1, by omega⟩
    have jn : j < n := by omega
    have bt : ((nI S >>> (nI j &&& 31)) &&& 1) = (if S.testBit j = true then 1 else 0) := mk_bit ⟨S, hS⟩ ⟨j, by omega⟩
    rw [lup5_s, ← ih (j + 1) f (by omega) (by omega), sumS_s, zin_s]
    generalize lup5 (B_X7_payments_54 kb36) f = self
    unfold B_X7_payments_54
    rw [hs, if_neg (nI_ge jn (by omega)), bt]
    by_cases c : S.testBit j = true
    · rw [if_pos c, if_pos c, if_neg (show ¬ (1 : Int32) = 0 by decide), chk_ok (vpN (show j < 7 by omega) (by decide)), rdN _ _ (show j < 1000 by omega), h21 j jn, chk_ok (vpN (show j < 7 by omega) (by decide)), chk_ok (vpN (show j < 7 by omega) (by decide)), lt_eq, lt_eq, nI_1, c, Bool.true_and]
      by_cases z : N j = 0
      · rw [if_pos z, decide_eq_true z, Bool.or_true, if_pos rfl]
      · rw [if_neg z, decide_eq_false z, Bool.or_false]
    · rw [if_neg c, if_neg c, if_pos rfl, nI_1, Bool.eq_false_iff.mpr c, Bool.false_and, Bool.or_false]
theorem mIn108z {n : Nat} {g : Sg} (kb36 : Int32 → Int32 → Sg → Option (Int32 × Sg)) (x1 x2 x3 : Int32) : lup5 (B_X7_payments_108 kb36) FU x1 x2 x3 (-9) 0 g = B_X7_payments_158 kb36 x1 x2 x3 (-9) g := by
  rw [FU_s, lup5_s]
  generalize lup5 (B_X7_payments_108 kb36) 999 = self
  unfold B_X7_payments_108
  by_cases c : g.1 0 ≤ 0
  · rw [if_pos c]
  · rw [if_neg c, if_pos rfl]
theorem mIn108 {N : Nat → Int32} {n S : Nat} {g : Sg} {M : Nat → Nat} (hn : n ≤ 7) (hS : S < 128) (hs : g.1 0 = nI n) (h23 : ∀ T, T < S → g.2 23 T = nI (M T)) (hb : ∀ T, T < S → M T ≤ T) (kb36 : Int32 → Int32 → Sg → Option (Int32 × Sg)) (x1 x3 : Int32) : ∀ (d j f : Nat), j + d = n → d < f → lup5 (B_X7_payments_108 kb36) f x1 (nI S) x3 (nI (mxS S M j)) (nI j) g = B_X7_payments_158 kb36 x1 (nI S) x3 (nI (mxS S M n)) g := by
  have bnd : ∀ j, j ≤ n → mxS S M j ≤ S := fun j hj => mxS_lub j (fun i hi hbit => by
    have l : S - 2 ^ i < S := mk_lt ⟨S, by omega⟩ ⟨i, by omega⟩ hbit
    have := hb _ l
    omega)
  intro d
  induction d with
  | zero =>
    intro j f hj hf
    obtain ⟨f, rfl⟩ : ∃ t, f = t + 1 := ⟨f - 1, by omega⟩
    obtain rfl : j = n := by omega
    rw [lup5_s]
    generalize lup5 (B_X7_payments_108 kb36) f = self
    unfold B_X7_payments_108
    rw [hs, if_pos (nI_le (by omega) (by omega))]
  | succ d ih =>
    intro j f hj hf
    obtain ⟨f, rfl⟩ : ∃ t, f = t + 1 := ⟨f - 1, by omega⟩
    have jn : j < n := by omega
    have bl := bnd j (by omega)
    have bt : ((nI S >>> (nI j &&& 31)) &&& 1) = (if S.testBit j = true then 1 else 0) := mk_bit ⟨S, hS⟩ ⟨j, by omega⟩
    rw [lup5_s, ← ih (j + 1) f (by omega) (by omega), mxS_s]
    generalize lup5 (B_X7_payments_108 kb36) f = self
    unfold B_X7_payments_108
    rw [hs, if_neg (nI_ge jn (by omega)), if_neg (nm9 (by omega)), bt]
    by_cases c : S.testBit j = true
    · have l : S - 2 ^ j < S := mk_lt ⟨S, hS⟩ ⟨j, by omega⟩ c
      have gl := hb _ l
      have xe : (nI S ^^^ ((1 : Int32) <<< (nI j &&& 31))) = nI (S - 2 ^ j) := mk_xor ⟨S, hS⟩ ⟨j, by omega⟩ c
      rw [if_pos c, if_pos c, if_pos rfl, xe, chk_ok (vpN (show S - 2 ^ j < 128 by omega) (by decide)), lt_eq, rdN _ _ (show S - 2 ^ j < 1000 by omega), h23 _ l, imax_n (by omega) (by omega), nI_1]
    · rw [if_neg c, if_neg c, if_neg (show ¬ (0 : Int32) = 1 by decide), nI_1]
theorem mIn158 {N : Nat → Int32} {n S : Nat} {g : Sg} {M : Nat → Nat} (hn : n ≤ 7) (hS : S < 128) (hs : g.1 0 = nI n) (h21 : ∀ i, i < n → g.2 21 i = N i) (h23 : ∀ T, T < S → g.2 23 T = nI (M T)) (hb : ∀ T, T < S → M T ≤ T) (kb36 : Int32 → Int32 → Sg → Option (Int32 × Sg)) (x1 : Int32) : lup5 (B_X7_payments_54 kb36) FU x1 (nI S) 0 0 0 g = kb36 x1 (nI (S + 1)) (sF g 23 (upd (g.2 23) S (nI (gM N n M S)))) := by
  have bn : mxS S M n ≤ S := mxS_lub n (fun i hi hbit => by
    have l : S - 2 ^ i < S := mk_lt ⟨S, by omega⟩ ⟨i, by omega⟩ hbit
    have := hb _ l
    omega)
  have e : lup5 (B_X7_payments_54 kb36) FU x1 (nI S) 0 0 0 g = _ := mIn54 (N := N) hn hS hs h21 kb36 x1 n 0 FU (by omega) (by unfold FU; omega)
  rw [e]
  by_cases z : zin N S n = true
  · rw [if_pos z, mIn108z (n := n)]
    unfold B_X7_payments_158 gM
    rw [if_pos rfl, if_pos z, chk_ok (vpN hS (by decide)), lt_eq, wrN _ _ (show S < 1000 by omega), nI_1]
    rfl
  · rw [if_neg z]
    have e2 : lup5 (B_X7_payments_108 kb36) FU x1 (nI S) (sumS N S n) 0 0 g = _ := mIn108 (N := N) hn hS hs h23 hb kb36 x1 (sumS N S n) n 0 FU (by omega) (by unfold FU; omega)
    rw [e2]
    unfold B_X7_payments_158 gM
    rw [if_neg (nm9 (by omega)), if_neg z]
    by_cases q : sumS N S n = 0
    · rw [if_pos q]
      by_cases s0 : S = 0
      · subst s0
        rw [if_pos (show nI 0 ≤ 0 by decide), if_pos rfl, mxS_0, chk_ok (vpN hS (by decide)), lt_eq, wrN _ _ (by decide), nI_1]
      · rw [if_neg (nI_nle (by omega) (by omega)), if_neg s0, chk_ok (vpN hS (by decide)), lt_eq, wrN _ _ (show S < 1000 by omega), nI_1, nI_1]
        unfold stC
        rw [if_pos q]
    · have s0 : ¬ S = 0 := fun e0 => q (by rw [e0]; exact sum_0 N n)
      rw [if_neg q, if_neg s0, chk_ok (vpN hS (by decide)), lt_eq, wrN _ _ (show S < 1000 by omega), nI_1]
      unfold stC
      rw [if_neg q]
      rfl
theorem gM_ext {N : Nat → Int32} {n : Nat} {G U : Nat → Nat} {S : Nat} (hn : n ≤ 7) (hS : S < 128) (h : ∀ T, T < S → G T = U T) : gM N n G S = gM N n U S := by
  unfold gM
  rw [gC_ext hn hS h]
theorem mFew {N : Nat → Int32} {n : Nat} (hn : n ≤ 7) (x1 : Int32) : ∀ (d k f : Nat) (g : Sg) (M : Nat → Nat), k + d = 2 ^ n → d < f → g.1 0 = nI n → (∀ i, i < n → g.2 21 i = N i) → (∀ T, T < k → g.2 23 T = nI (M T)) → (∀ T, T < k → M T = gM N n M T) → ∃ h M1, lup2 B_X7_payments_36 f x1 (nI k) g = lup3 B_X7_payments_202 FU x1 0 0 h ∧ (∀ T, T < 2 ^ n → h.2 23 T = nI (M1 T)) ∧ (∀ T, T < 2 ^ n → M1 T = gM N n M1 T) ∧ (∀ k, k ≠ 23 → h.2 k = g.2 k) ∧ h.1 = g.1 := by
  have h128 := p128 hn
  have h1 := p1 (n := n)
  have pw : ((1 : Int32) <<< (nI n &&& 31)) = nI (2 ^ n) := mk_pow ⟨n, by omega⟩
  intro d
  induction d with
  | zero =>
    intro k f g M hk hf hs h21 h23 hM
    obtain ⟨f, rfl⟩ : ∃ t, f = t + 1 := ⟨f - 1, by omega⟩
    have kn : k = 2 ^ n := by omega
    refine ⟨g, M, ?_, by rw [← kn]; exact h23, by rw [← kn]; exact hM, fun _ _ => rfl, rfl⟩
    rw [lup2_s]
    generalize lup2 B_X7_payments_36 f = self
    unfold B_X7_payments_36
    rw [hs, pw, if_pos (nI_le (by omega) (by omega))]
  | succ d ih =>
    intro k f g M hk hf hs h21 h23 hM
    obtain ⟨f, rfl⟩ : ∃ t, f = t + 1 := ⟨f - 1, by omega⟩
    have bd := g_bd hn (show k ≤ 2 ^ n by omega) (fun S hS => gM_c (hM S hS))
    have e1 := mIn158 (N := N) (S := k) (M := M) hn (by omega) hs h21 h23 (fun T hTk => bd _ T (Nat.le_refl _) hTk) (lup2 B_X7_payments_36 f) x1
    obtain ⟨G2, hG2⟩ : ∃ G2 : Nat → Nat, G2 = fun T => if T = k then gM N n M k else M T := ⟨_, rfl⟩
    have g2k : G2 k = gM N n M k := by rw [hG2]; exact if_pos rfl
    have g2n : ∀ T, T < k → G2 T = M T := fun T hTk => by rw [hG2]; exact if_neg (by omega)
    obtain ⟨h, M1, e2, b1, b2, b3, b4⟩ := ih (k + 1) f (sF g 23 (upd (g.2 23) k (nI (gM N n M k)))) G2 (by omega) (by omega) hs (fun i hi => by rw [sF2, if_neg (by decide)]; exact h21 i hi) (fun T hTk => by
      rw [sF2, if_pos rfl]
      by_cases q : T = k
      · rw [q, g2k, upd_at]
      · rw [g2n T (by omega), upd_ne _ _ q]; exact h23 T (by omega)) (fun T hTk => by
      have x : gM N n G2 T = gM N n M T := gM_ext hn (by omega) (fun U hU => g2n U (by omega))
      by_cases q : T = k
      · rw [x, q, g2k]
      · rw [g2n T (by omega), hM T (by omega), x])
    refine ⟨h, M1, ?_, b1, b2, fun j x => by rw [b3 j x, sF2, if_neg x], b4⟩
    rw [lup2_s, ← e2]
    generalize lup2 B_X7_payments_36 f = self at e1 ⊢
    unfold B_X7_payments_36
    rw [hs, pw, if_neg (nI_ge (show k < 2 ^ n by omega) (by omega)), e1]
theorem m202 {N : Nat → Int32} {n : Nat} {g : Sg} (hn : n ≤ 7) (hs : g.1 0 = nI n) (h21 : ∀ i, i < n → g.2 21 i = N i) (x1 : Int32) : ∀ (d j f : Nat), j + d = n → d < f → lup3 B_X7_payments_202 f x1 (nI (nzM N j)) (nI j) g = some (x1 - g.2 23 (nzM N n), g) := by
  have h128 := p128 hn
  intro d
  induction d with
  | zero =>
    intro j f hj hf
    obtain ⟨f, rfl⟩ : ∃ t, f = t + 1 := ⟨f - 1, by omega⟩
    obtain rfl : j = n := by omega
    have l := nz_lt N j
    rw [lup3_s]
    generalize lup3 B_X7_payments_202 f = self
    unfold B_X7_payments_202
    rw [hs, if_pos (nI_le (by omega) (by omega))]
    unfold B_X7_payments_231
    rw [chk_ok (vpN (show nzM N j < 128 by omega) (by decide)), rdN _ _ (show nzM N j < 1000 by omega)]
  | succ d ih =>
    intro j f hj hf
    obtain ⟨f, rfl⟩ : ∃ t, f = t + 1 := ⟨f - 1, by omega⟩
    have jn : j < n := by omega
    have l := nz_lt N j
    have l7 : 2 ^ j ≤ 128 := p128 (by omega)
    have oe : (nI (nzM N j) ||| ((1 : Int32) <<< (nI j &&& 31))) = nI (nzM N j + 2 ^ j) := mk_or ⟨nzM N j, by omega⟩ ⟨j, by omega⟩ l
    rw [lup3_s, ← ih (j + 1) f (by omega) (by omega), nzM_s]
    generalize lup3 B_X7_payments_202 f = self
    unfold B_X7_payments_202
    rw [hs, if_neg (nI_ge jn (by omega)), chk_ok (vpN (show j < 7 by omega) (by decide)), rdN _ _ (show j < 1000 by omega), h21 j jn, oe, nI_1]
    by_cases c : N j = 0
    · rw [if_pos c, if_pos c]
    · rw [if_neg c, if_neg c]
theorem m8 {N : Nat → Int32} {n : Nat} {g : Sg} (hn : n ≤ 7) (hs : g.1 0 = nI n) (h21 : ∀ i, i < n → g.2 21 i = N i) : ∀ (d j f : Nat), j + d = n → d < f → lup2 B_X7_payments_8 f (nI (cnt N j)) (nI j) g = lup2 B_X7_payments_36 FU (nI (cnt N n)) 0 g := by
  intro d
  induction d with
  | zero =>
    intro j f hj hf
    obtain ⟨f, rfl⟩ : ∃ t, f = t + 1 := ⟨f - 1, by omega⟩
    obtain rfl : j = n := by omega
    rw [lup2_s]
    generalize lup2 B_X7_payments_8 f = self
    unfold B_X7_payments_8
    rw [hs, if_pos (nI_le (by omega) (by omega))]
  | succ d ih =>
    intro j f hj hf
    obtain ⟨f, rfl⟩ : ∃ t, f = t + 1 := ⟨f - 1, by omega⟩
    have jn : j < n := by omega
    rw [lup2_s, ← ih (j + 1) f (by omega) (by omega), cnt_s]
    generalize lup2 B_X7_payments_8 f = self
    unfold B_X7_payments_8
    rw [hs, if_neg (nI_ge jn (by omega)), chk_ok (vpN (show j < 7 by omega) (by decide)), rdN _ _ (show j < 1000 by omega), h21 j jn, nI_1, nI_1]
    by_cases c : N j = 0
    · rw [if_pos c, if_pos c]
    · rw [if_neg c, if_neg c]
theorem op_payments (gc gm : Sg) (r : Rel gc gm) : Ans Rel (M_X6_payments gc) (M_X7_payments gm) := by
  have r0 := r
  obtain ⟨⟨n, rA⟩, -⟩ := r
  have hn := rA.1.1
  have h128 := p128 hn
  obtain ⟨v, gc1, gc2, gm2, e1, e2, e3, q1, q2, Ne⟩ := nets rA
  have hc : gc2.1 3 = nI n := (q1.2.1 3 (by omega)).trans rA.2.1
  have hm : gm2.1 0 = nI n := (q2.2 0 (by omega)).trans rA.2.2.1
  obtain ⟨h, G, d1, d2, d3, d4⟩ := cPays (N := gm2.2 21) hn Ne
  have d0 := m8 (N := gm2.2 21) hn hm (fun _ _ => rfl) n 0 FU (by omega) (by unfold FU; omega)
  obtain ⟨m, M, f1, f2, f3, f4, f5⟩ := mFew (N := gm2.2 21) hn (nI (cnt (gm2.2 21) n)) (2 ^ n) 0 FU gm2 (fun _ => 0) (by omega) (by unfold FU; omega) hm (fun _ _ => rfl) (fun T hT => absurd hT (Nat.not_lt_zero T)) (fun T hT => absurd hT (Nat.not_lt_zero T))
  have f6 := m202 (N := gm2.2 21) (g := m) hn (by rw [f5]; exact hm) (fun i _ => by rw [f4 21 (by decide)]) (nI (cnt (gm2.2 21) n)) n 0 FU (by omega) (by unfold FU; omega)
  have d0 : lup2 B_X7_payments_8 FU 0 0 gm2 = _ := d0
  have f1 : lup2 B_X7_payments_36 FU (nI (cnt (gm2.2 21) n)) 0 gm2 = _ := f1
  have f6 : lup3 B_X7_payments_202 FU (nI (cnt (gm2.2 21) n)) 0 0 m = _ := f6
  unfold M_X6_payments M_X7_payments
  rw [e1, bI_some, e2, bV_some, hc, d1, bI_some, e3, bV_some, d0, f1, f6, f2 _ (nz_lt _ n), pay_eq hn d2 f3]
  exact Ans.q r0 (q1.trans ⟨fun j hj => d3 j (by omega) (by omega), fun j _ => by rw [d4], fun z => z.fr (fun j a b => d3 j (by omega) (by omega))⟩) (q2.trans ⟨fun j hj => f4 j (by omega), fun j _ => by rw [f5]⟩)
