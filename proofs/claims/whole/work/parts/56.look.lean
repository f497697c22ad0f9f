/-! A statement looked at, the reference's half; all letters looked at, both -/
def Nq (L : Nat → Int32) (K p : Nat) (m : Sg) : Prop := m.1 1 = nI K ∧ K ≤ 96 ∧ m.1 2 = nI p ∧ p ≤ K ∧ m.2 7 = L
def FrN (m h : Sg) : Prop := (∀ j, j ≠ 8 → h.2 j = m.2 j) ∧ (∀ j, j ≠ 2 → h.1 j = m.1 j)
theorem FrN.rf (m : Sg) : FrN m m := ⟨fun _ _ => rfl, fun _ _ => rfl⟩
theorem FrN.trans {g h k : Sg} (a : FrN g h) (b : FrN h k) : FrN g k := ⟨fun j hj => (b.1 j hj).trans (a.1 j hj), fun j hj => (b.2 j hj).trans (a.2 j hj)⟩
theorem FrN.at (m : Sg) (x : Int32) : FrN m (sI m 2 x) := ⟨fun _ _ => rfl, fun j hj => by rw [sI1, if_neg hj]⟩
theorem Nq.go {L : Nat → Int32} {K p : Nat} {m : Sg} (N : Nq L K p m) {q : Nat} (hq : q ≤ K) : Nq L K q (sI m 2 (nI q)) := ⟨by rw [sI1, if_neg (by decide)]; exact N.1, N.2.1, by rw [sI1, if_pos rfl], hq, N.2.2.2.2⟩
theorem Nq.rd {L : Nat → Int32} {K p : Nat} {m : Sg} (N : Nq L K p m) {q : Nat} (hq : q < 1000) : rd m 7 (nI q) = L q := by rw [rdN m 7 hq, N.2.2.2.2]
theorem mIs_end {L : Nat → Int32} {K : Nat} {m : Sg} (N : Nq L K K m) (x : Int32) : M_X7_is x m = some (0, m) := by
  unfold M_X7_is
  rw [N.1, N.2.2.1, if_pos rfl]
theorem mIs_yes {L : Nat → Int32} {K p : Nat} {m : Sg} (N : Nq L K p m) (hp : p < K) {x : Int32} (e : L p = x) : M_X7_is x m = some (1, sI m 2 (nI (p + 1))) := by
  have h96 := N.2.1
  have ne : ¬ nI p = nI K := fun e => by have := nI_eq' (by omega) (by omega) e; omega
  unfold M_X7_is
  rw [N.1, N.2.2.1, if_neg ne, chk_ok (vpN (show p < 96 by omega) (by decide)), N.rd (by omega), if_pos e, lt_eq, nI_1]
theorem mIs_no {L : Nat → Int32} {K p : Nat} {m : Sg} (N : Nq L K p m) {x : Int32} (e : p = K ∨ ¬ L p = x) : M_X7_is x m = some (0, m) := by
  have h96 := N.2.1
  have hp := N.2.2.2.1
  by_cases c : p = K
  · subst c; exact mIs_end N x
  · have e : ¬ L p = x := by
      rcases e with e | e
      · exact absurd e c
      · exact e
    have ne : ¬ nI p = nI K := fun e => by have := nI_eq' (by omega) (by omega) e; omega
    unfold M_X7_is
    rw [N.1, N.2.2.1, if_neg ne, chk_ok (vpN (show p < 96 by omega) (by decide)), N.rd (by omega), if_neg e]
theorem mDigL {L : Nat → Int32} {K k q : Nat} (hk : k ≤ 7) : ∀ (d j f : Nat) (m : Sg), j + d = k → d < f → Nq L K (q + j) m → (∀ i, i < j → m.2 8 i = L (q + i) - 48) → ∃ r m1, lup2 B_X7_digits_2 f (nI k) (nI j) m = some (r, m1) ∧ FrN m m1 ∧ Nq L K (dgs L K d (q + j)) m1 ∧ ((dgs L K d (q + j) = q + k ∧ r = 1 ∧ ∀ i, i < k → m1.2 8 i = L (q + i) - 48) ∨ (¬ dgs L K d (q + j) = q + k ∧ r = 0)) := by
  intro d
  induction d with
  | zero =>
    intro j f m hj hf N h8
    obtain ⟨f, rfl⟩ : ∃ t, f = t + 1 := ⟨f - 1, by omega⟩
    obtain rfl : j = k := by omega
    refine ⟨1, m, ?_, FrN.rf m, N, Or.inl ⟨rfl, rfl, h8⟩⟩
    rw [lup2_s]
    generalize lup2 B_X7_digits_2 f = self
    unfold B_X7_digits_2
    rw [if_pos (nI_le (by omega) (by omega))]
  | succ d ih =>
    intro j f m hj hf N h8
    obtain ⟨f, rfl⟩ : ∃ t, f = t + 1 := ⟨f - 1, by omega⟩
    have h96 := N.2.1
    have hp := N.2.2.2.1
    have c0 : ¬ nI k ≤ nI j := nI_ge (show j < k by omega) (by omega)
    rw [dgs_s, lup2_s]
    by_cases pK : q + j = K
    · rw [if_pos pK]
      refine ⟨0, m, ?_, FrN.rf m, N, Or.inr ⟨by omega, rfl⟩⟩
      generalize lup2 B_X7_digits_2 f = self
      unfold B_X7_digits_2
      rw [if_neg c0, N.1, N.2.2.1, pK, if_pos rfl]
    · rw [if_neg pK]
      have ne : ¬ nI (q + j) = nI K := fun e => by have := nI_eq' (by omega) (by omega) e; omega
      have iff := isD_iff (L (q + j))
      by_cases dL : isD (L (q + j)) = true
      · rw [if_pos dL]
        obtain ⟨a, b⟩ := iff.mp dL
        obtain ⟨m0, hm0⟩ : ∃ m0, m0 = sF (sI m 2 (nI (q + j + 1))) 8 (upd ((sI m 2 (nI (q + j + 1))).2 8) j (L (q + j) - 48)) := ⟨_, rfl⟩
        have N0 : Nq L K (q + (j + 1)) m0 := by
          rw [hm0]
          exact ⟨by rw [sF1, sI1, if_neg (by decide)]; exact N.1, h96, by rw [sF1, sI1, if_pos rfl, Nat.add_assoc], by omega, by rw [sF2, if_neg (by decide)]; exact N.2.2.2.2⟩
        have F0 : FrN m m0 := by
          rw [hm0]
          exact ⟨fun i hi => by rw [sF2, if_neg hi]; rfl, fun i hi => by rw [sF1, sI1, if_neg hi]⟩
        obtain ⟨r, m1, e1, F1, N1, R1⟩ := ih (j + 1) f m0 (by omega) (by omega) N0 (fun i hi => by
          rw [hm0, sF2, if_pos rfl]
          by_cases x : i = j
          · subst x; rw [upd_at]
          · rw [upd_ne _ _ x]; exact h8 i (by omega))
        have ea : q + (j + 1) = q + j + 1 := by omega
        rw [ea] at N1 R1
        refine ⟨r, m1, ?_, F0.trans F1, N1, R1⟩
        rw [← e1]
        generalize lup2 B_X7_digits_2 f = self
        unfold B_X7_digits_2
        rw [if_neg c0, N.1, N.2.2.1, if_neg ne, chk_ok (vpN (show q + j < 96 by omega) (by decide)), N.rd (show q + j < 1000 by omega), if_neg a, chk_ok (vpN (show q + j < 96 by omega) (by decide)), if_pos b, lt_eq, chk_ok (vpN (show q + j < 96 by omega) (by decide)), chk_ok (vpN (show j < 8 by omega) (by decide)), lt_eq, nI_1, nI_1, (N.go (show q + j + 1 ≤ K by omega)).rd (show q + j < 1000 by omega), wrN _ _ (show j < 1000 by omega), ← hm0]
      · rw [if_neg dL]
        refine ⟨0, m, ?_, FrN.rf m, N, Or.inr ⟨by omega, rfl⟩⟩
        generalize lup2 B_X7_digits_2 f = self
        unfold B_X7_digits_2
        rw [if_neg c0, N.1, N.2.2.1, if_neg ne, chk_ok (vpN (show q + j < 96 by omega) (by decide)), N.rd (show q + j < 1000 by omega)]
        by_cases a : L (q + j) < 48
        · rw [if_pos a]
        · rw [if_neg a, chk_ok (vpN (show q + j < 96 by omega) (by decide)), if_neg (fun b => dL (iff.mpr ⟨a, b⟩))]
theorem mDig {L : Nat → Int32} {K k q : Nat} {m : Sg} (hk : k ≤ 7) {x : Int32} (hx : x = nI k) (N : Nq L K q m) : ∃ r m1, M_X7_digits x m = some (r, m1) ∧ FrN m m1 ∧ Nq L K (dgs L K k q) m1 ∧ ((dgs L K k q = q + k ∧ r = 1 ∧ ∀ i, i < k → m1.2 8 i = L (q + i) - 48) ∨ (¬ dgs L K k q = q + k ∧ r = 0)) := by
  obtain ⟨r, m1, e, a, b, c⟩ := mDigL (L := L) (K := K) (k := k) (q := q) hk k 0 FU m (by omega) (by unfold FU; omega) N (fun i hi => absurd hi (Nat.not_lt_zero i))
  have e : lup2 B_X7_digits_2 FU (nI k) 0 m = _ := e
  refine ⟨r, m1, ?_, a, b, c⟩
  unfold M_X7_digits
  rw [hx, e]
/-- the reference has looked at a statement but for its end -/
def Ms (L : Nat → Int32) (K p : Nat) (m : Sg) (X : Option (Int32 × Sg)) : Prop := ∃ r m1, X = some (r, m1) ∧ FrN m m1 ∧ ((r = 1 ∧ ∃ e, Nq L K e m1 ∧ sOne L K p = sEnd L K e e) ∨ (¬ r = 1 ∧ ∃ q, Nq L K q m1 ∧ sOne L K p = (false, q)))
theorem Ms.no {L : Nat → Int32} {K p q : Nat} {m m1 : Sg} {X : Option (Int32 × Sg)} (e : X = some (-1, m1)) (F : FrN m m1) (N : Nq L K q m1) (s : sOne L K p = (false, q)) : Ms L K p m X := ⟨-1, m1, e, F, Or.inr ⟨by decide, q, N, s⟩⟩
theorem Ms.close {L : Nat → Int32} {K p q k : Nat} {m m0 m1 : Sg} {r : Int32} {X : Option (Int32 × Sg)} (e : X = if r = 0 then some (-1, m1) else some (1, m1)) (F0 : FrN m m0) (F : FrN m0 m1) (N : Nq L K (dgs L K k q) m1) (R : (dgs L K k q = q + k ∧ r = 1 ∧ ∀ i, i < k → m1.2 8 i = L (q + i) - 48) ∨ (¬ dgs L K k q = q + k ∧ r = 0)) (s : sOne L K p = sEnd L K (dgs L K k q) (q + k)) : Ms L K p m X := by
  rcases R with ⟨a, b, -⟩ | ⟨a, b⟩
  · rw [b, if_neg (by decide)] at e
    refine ⟨1, m1, e, F0.trans F, Or.inl ⟨rfl, dgs L K k q, N, ?_⟩⟩
    rw [s, a]
  · rw [b, if_pos rfl] at e
    refine Ms.no e (F0.trans F) N ?_
    rw [s]
    unfold sEnd
    rw [if_neg a]
theorem sOne_o {L : Nat → Int32} {K p k : Nat} (hp : p < K) (h0 : ndN (L p) = k) (hk : ¬ k = 0) (h3 : ¬ L p = 103) : sOne L K p = sEnd L K (dgs L K k (p + 1)) (p + 1 + k) := by
  unfold sOne
  rw [if_neg (show ¬ p = K by omega), h0, if_neg hk, if_neg h3]
theorem sOne_g {L : Nat → Int32} {K p : Nat} (hp : p < K) (h3 : L p = 103) : sOne L K p = if p + 1 = K then (false, p + 1) else if sidx (L (p + 1)) = -1 then (false, p + 1) else sEnd L K (dgs L K 7 (p + 2)) (p + 2 + 7) := by
  unfold sOne
  rw [if_neg (show ¬ p = K by omega), h3, if_neg (by decide), if_pos rfl]
theorem mG {L : Nat → Int32} {K p : Nat} {m : Sg} (N : Nq L K p m) (hp : p < K) (h3 : L p = 103) (x1 : Int32) : M_X7_statement x1 m = B_X7_statement_50 x1 (if p + 1 = K then -1 else sidx (L (p + 1))) (sI m 2 (nI (p + 1))) := by
  have h96 := N.2.1
  have N1 := N.go (show p + 1 ≤ K by omega)
  unfold M_X7_statement
  rw [mIs_yes N hp h3, bI_some, if_neg (show ¬ (1 : Int32) = 0 by decide), N1.1, N1.2.2.1]
  by_cases c : p + 1 = K
  · rw [if_pos (nI_le (by omega) (by omega)), if_pos c]
  · rw [if_neg (nI_ge (by omega) (by omega)), if_neg c, chk_ok (vpN (show p + 1 < 96 by omega) (by decide)), N1.rd (show p + 1 < 1000 by omega), chk_ok (vpN (show p + 1 < 96 by omega) (by decide))]
    by_cases z : L (p + 1) ≤ 0
    · rw [if_pos z, sidx_le0 z]
    · rw [if_neg z]
theorem mG_no (x1 : Int32) (g : Sg) : B_X7_statement_50 x1 (-1) g = some (-1, g) := by
  unfold B_X7_statement_50
  rw [if_neg (show ¬ (0 : Int32) ≤ -1 by decide)]
set_option maxHeartbeats 1000000 in
theorem mSt0 {L : Nat → Int32} {K p : Nat} {m : Sg} (N : Nq L K p m) : Ms L K p m (M_X7_statement 0 m) := by
  have h96 := N.2.1
  have hp := N.2.2.2.1
  have none0 : (p = K ∨ (ndN (L p) = 0 ∧ ¬ L p = 100 ∧ ¬ L p = 103 ∧ ¬ L p = 104 ∧ ¬ L p = 111 ∧ ¬ L p = 112 ∧ ¬ L p = 120)) → Ms L K p m (M_X7_statement 0 m) := fun h => by
    have is : ∀ x, (¬ p = K → ¬ L p = x) → M_X7_is x m = some (0, m) := fun x hx => mIs_no N (by by_cases c : p = K; exact Or.inl c; exact Or.inr (hx c))
    have h' : ¬ p = K → (ndN (L p) = 0 ∧ ¬ L p = 100 ∧ ¬ L p = 103 ∧ ¬ L p = 104 ∧ ¬ L p = 111 ∧ ¬ L p = 112 ∧ ¬ L p = 120) := fun c => by
      rcases h with h | h
      · exact absurd h c
      · exact h
    refine Ms.no (q := p) (m1 := m) ?_ (FrN.rf m) N ?_
    · unfold M_X7_statement
      rw [is 103 (fun c => (h' c).2.2.1), bI_some, if_pos rfl, is 112 (fun c => (h' c).2.2.2.2.2.1), bI_some, if_pos rfl, is 111 (fun c => (h' c).2.2.2.2.1), bI_some, if_pos rfl, is 100 (fun c => (h' c).2.1), bI_some, if_pos rfl, is 120 (fun c => (h' c).2.2.2.2.2.2), bI_some, if_pos rfl, is 104 (fun c => (h' c).2.2.2.1), bI_some, if_pos rfl]
    · unfold sOne
      by_cases c : p = K
      · rw [if_pos c]
      · rw [if_neg c, if_pos (h' c).1]
  by_cases pK : p = K
  · exact none0 (Or.inl pK)
  · have pl : p < K := by omega
    have N1 := N.go (show p + 1 ≤ K by omega)
    have is : ∀ x, ¬ L p = x → M_X7_is x m = some (0, m) := fun x hx => mIs_no N (Or.inr hx)
    rcases ndN_c (L p) with ⟨a, a1, a2, a3, a4, a5, a6, -⟩ | h | h | h | h | h | h
    · exact none0 (Or.inr ⟨a, a1, a2, a3, a4, a5, a6⟩)
    · obtain ⟨r, m1, e, F, N2, R⟩ := mDig (k := 1) (by decide) rfl N1
      refine Ms.close ?_ (FrN.at m _) F N2 R (sOne_o pl (by rw [h]; rfl) (by decide) (by rw [h]; decide))
      have e : M_X7_digits 1 (sI m 2 (nI (p + 1))) = _ := e
      unfold M_X7_statement
      rw [is 103 (by rw [h]; decide), bI_some, if_pos rfl, is 112 (by rw [h]; decide), bI_some, if_pos rfl, is 111 (by rw [h]; decide), bI_some, if_pos rfl, mIs_yes N pl h, bI_some, if_neg (show ¬ (1 : Int32) = 0 by decide), e, bI_some, if_pos (rfl : (0 : Int32) = 0)]
    · rw [mG N pl h]
      have s := sOne_g pl h
      by_cases q1 : p + 1 = K
      · rw [if_pos q1] at s ⊢
        exact Ms.no (mG_no 0 _) (FrN.at m _) N1 s
      · rw [if_neg q1] at s ⊢
        rcases sidx_c (L (p + 1)) with k1 | ⟨k, k5, ek⟩
        · rw [if_pos k1] at s
          rw [k1]
          exact Ms.no (mG_no 0 _) (FrN.at m _) N1 s
        · have nk : ¬ sidx (L (p + 1)) = -1 := by rw [ek]; exact nm1 (by omega)
          rw [if_neg nk] at s
          have N3 := N1.go (show p + 2 ≤ K by omega)
          obtain ⟨r, m1, e, F, N2, R⟩ := mDig (k := 7) (by decide) rfl N3
          refine Ms.close ?_ ((FrN.at m _).trans (FrN.at _ _)) F N2 R s
          have e : M_X7_digits 7 (sI (sI m 2 (nI (p + 1))) 2 (nI (p + 2))) = _ := e
          rw [ek]
          unfold B_X7_statement_50
          rw [if_pos (nI_pos' (by omega)), lt_eq, N1.2.2.1, nI_1, e, bI_some, if_pos (rfl : (0 : Int32) = 0)]
    · obtain ⟨r, m1, e, F, N2, R⟩ := mDig (k := 3) (by decide) rfl N1
      refine Ms.close ?_ (FrN.at m _) F N2 R (sOne_o pl (by rw [h]; rfl) (by decide) (by rw [h]; decide))
      have e : M_X7_digits 3 (sI m 2 (nI (p + 1))) = _ := e
      unfold M_X7_statement
      rw [is 103 (by rw [h]; decide), bI_some, if_pos rfl, is 112 (by rw [h]; decide), bI_some, if_pos rfl, is 111 (by rw [h]; decide), bI_some, if_pos rfl, is 100 (by rw [h]; decide), bI_some, if_pos rfl, is 120 (by rw [h]; decide), bI_some, if_pos rfl, mIs_yes N pl h, bI_some, if_neg (show ¬ (1 : Int32) = 0 by decide), e, bI_some, if_pos (rfl : (0 : Int32) = 0)]
    · obtain ⟨r, m1, e, F, N2, R⟩ := mDig (k := 3) (by decide) rfl N1
      refine Ms.close ?_ (FrN.at m _) F N2 R (sOne_o pl (by rw [h]; rfl) (by decide) (by rw [h]; decide))
      have e : M_X7_digits 3 (sI m 2 (nI (p + 1))) = _ := e
      unfold M_X7_statement
      rw [is 103 (by rw [h]; decide), bI_some, if_pos rfl, is 112 (by rw [h]; decide), bI_some, if_pos rfl, mIs_yes N pl h, bI_some, if_neg (show ¬ (1 : Int32) = 0 by decide), e, bI_some, if_pos (rfl : (0 : Int32) = 0)]
    · obtain ⟨r, m1, e, F, N2, R⟩ := mDig (k := 2) (by decide) rfl N1
      refine Ms.close ?_ (FrN.at m _) F N2 R (sOne_o pl (by rw [h]; rfl) (by decide) (by rw [h]; decide))
      have e : M_X7_digits 2 (sI m 2 (nI (p + 1))) = _ := e
      unfold M_X7_statement
      rw [is 103 (by rw [h]; decide), bI_some, if_pos rfl, mIs_yes N pl h, bI_some, if_neg (show ¬ (1 : Int32) = 0 by decide), e, bI_some, if_pos (rfl : (0 : Int32) = 0)]
    · obtain ⟨r, m1, e, F, N2, R⟩ := mDig (k := 2) (by decide) rfl N1
      refine Ms.close ?_ (FrN.at m _) F N2 R (sOne_o pl (by rw [h]; rfl) (by decide) (by rw [h]; decide))
      have e : M_X7_digits 2 (sI m 2 (nI (p + 1))) = _ := e
      unfold M_X7_statement
      rw [is 103 (by rw [h]; decide), bI_some, if_pos rfl, is 112 (by rw [h]; decide), bI_some, if_pos rfl, is 111 (by rw [h]; decide), bI_some, if_pos rfl, is 100 (by rw [h]; decide), bI_some, if_pos rfl, mIs_yes N pl h, bI_some, if_neg (show ¬ (1 : Int32) = 0 by decide), e, bI_some, if_pos (rfl : (0 : Int32) = 0)]
theorem mOne {L : Nat → Int32} {K p : Nat} {m : Sg} (N : Nq L K p m) (kb7 : Int32 → Sg → Option (Int32 × Sg)) : ∃ m1, B_X7_night_7 kb7 1 m = (if (sOne L K p).1 = true then (if (sOne L K p).2 = K then B_X7_night_53 1 m1 else kb7 1 m1) else kb7 0 m1) ∧ Nq L K (sOne L K p).2 m1 ∧ FrN m m1 := by
  have h96 := N.2.1
  obtain ⟨r, m1, e, F, R⟩ := mSt0 N
  unfold B_X7_night_7
  rw [if_neg (show ¬ (1 : Int32) = 0 by decide), e, bI_some]
  rcases R with ⟨a, q, N1, s⟩ | ⟨a, q, N1, s⟩
  · rw [if_pos a, s]
    unfold sEnd
    rw [if_pos rfl]
    by_cases qK : q = K
    · rw [if_pos qK, mIs_no N1 (Or.inl qK), bI_some, if_pos rfl]
      exact ⟨m1, by rw [if_neg (fun h => Bool.false_ne_true h)], N1, F⟩
    · rw [if_neg qK]
      have ql : q < K := by have := N1.2.2.2.1; omega
      by_cases z : L q = 59
      · have N2 := N1.go (show q + 1 ≤ K by omega)
        rw [if_pos z, mIs_yes N1 ql z, bI_some, if_neg (show ¬ (1 : Int32) = 0 by decide), N2.1, N2.2.2.1]
        refine ⟨sI m1 2 (nI (q + 1)), ?_, N2, F.trans (FrN.at _ _)⟩
        rw [if_pos rfl]
        by_cases w : q + 1 = K
        · rw [if_pos w, if_pos (by rw [w])]
        · rw [if_neg w, if_neg (fun e => w (nI_eq' (by omega) (by omega) e))]
      · rw [if_neg z, mIs_no N1 (Or.inr z), bI_some, if_pos rfl]
        exact ⟨m1, by rw [if_neg (fun h => Bool.false_ne_true h)], N1, F⟩
  · rw [if_neg a, s]
    exact ⟨m1, by rw [if_neg (fun h => Bool.false_ne_true h)], N1, F⟩
/-- so many statements from p on -/
def Gr (L : Nat → Int32) (K : Nat) : Nat → Nat → Prop
  | 0, p => p = K
  | s + 1, p => p < K ∧ (sOne L K p).1 = true ∧ Gr L K s (sOne L K p).2
theorem sEnd_gt {L : Nat → Int32} {K e t : Nat} (h : (sEnd L K e t).1 = true) : e = t ∧ e ≠ K ∧ L e = 59 ∧ (sEnd L K e t).2 = e + 1 := by
  unfold sEnd at h ⊢
  by_cases a : e = t
  · rw [if_pos a] at h ⊢
    by_cases b : e = K
    · rw [if_pos b] at h; exact (Bool.false_ne_true h).elim
    · rw [if_neg b] at h ⊢
      by_cases c : L e = 59
      · rw [if_pos c]; exact ⟨a, b, c, rfl⟩
      · rw [if_neg c] at h; exact (Bool.false_ne_true h).elim
  · rw [if_neg a] at h; exact (Bool.false_ne_true h).elim
theorem sOne_gt {L : Nat → Int32} {K p : Nat} (h : (sOne L K p).1 = true) : p < (sOne L K p).2 := by
  unfold sOne at h ⊢
  by_cases a : p = K
  · rw [if_pos a] at h; exact (Bool.false_ne_true h).elim
  · rw [if_neg a] at h ⊢
    by_cases b : ndN (L p) = 0
    · rw [if_pos b] at h; exact (Bool.false_ne_true h).elim
    · rw [if_neg b] at h ⊢
      by_cases c : L p = 103
      · rw [if_pos c] at h ⊢
        by_cases d : p + 1 = K
        · rw [if_pos d] at h; exact (Bool.false_ne_true h).elim
        · rw [if_neg d] at h ⊢
          by_cases e : sidx (L (p + 1)) = -1
          · rw [if_pos e] at h; exact (Bool.false_ne_true h).elim
          · rw [if_neg e] at h ⊢
            obtain ⟨q1, -, -, q2⟩ := sEnd_gt h
            omega
      · rw [if_neg c] at h ⊢
        obtain ⟨q1, -, -, q2⟩ := sEnd_gt h
        omega
theorem night7z (kb7 : Int32 → Sg → Option (Int32 × Sg)) (m : Sg) : B_X7_night_7 kb7 0 m = B_X7_night_53 0 m := by
  unfold B_X7_night_7
  rw [if_pos rfl]
theorem look {L : Nat → Int32} {K : Nat} {g : Sg} (c : Ct L K g) : ∀ (d p f1 f2 : Nat) (m : Sg), K - p ≤ d → p < K → K - p < f1 → K - p < f2 → Nq L K p m → (∃ q m1, lup3 B_X2_firstOutOfPlace_6 f1 0 0 (nI p) g = some (nI q, g) ∧ lup1 B_X7_night_7 f2 1 m = B_X7_night_53 0 m1 ∧ Nq L K q m1 ∧ FrN m m1) ∨ (∃ s m1, lup3 B_X2_firstOutOfPlace_6 f1 0 0 (nI p) g = some (-1, g) ∧ lup1 B_X7_night_7 f2 1 m = B_X7_night_53 1 m1 ∧ Nq L K K m1 ∧ FrN m m1 ∧ Gr L K s p) := by
  have h96 := c.2.1
  intro d
  induction d with
  | zero => intro p f1 f2 m hd hp; omega
  | succ d ih =>
    intro p f1 f2 m hd hp hf1 hf2 N
    obtain ⟨f2, rfl⟩ : ∃ t, f2 = t + 1 := ⟨f2 - 1, by omega⟩
    have C := cOne c hp hf1
    obtain ⟨m1, e, N1, F⟩ := mOne N (lup1 B_X7_night_7 f2)
    have w := N1.2.2.2.1
    rw [lup1_s, e]
    cases hb : (sOne L K p).1 with
    | false =>
      refine Or.inl ⟨(sOne L K p).2, m1, C.2 hb, ?_, N1, F⟩
      obtain ⟨f2, rfl⟩ : ∃ t, f2 = t + 1 := ⟨f2 - 1, by omega⟩
      rw [if_neg (fun h => Bool.false_ne_true h), lup1_s, night7z]
    | true =>
      have gt := sOne_gt hb
      obtain ⟨f3, a, e3⟩ := C.1 hb
      rw [if_pos rfl, e3]
      by_cases z : (sOne L K p).2 = K
      · refine Or.inr ⟨1, m1, ?_, by rw [if_pos z], by have y := N1; rw [z] at y; exact y, F, hp, hb, z⟩
        obtain ⟨f3, rfl⟩ : ∃ t, f3 = t + 1 := ⟨f3 - 1, by omega⟩
        rw [lup3_s]
        generalize lup3 B_X2_firstOutOfPlace_6 f3 = self
        unfold B_X2_firstOutOfPlace_6
        rw [c.1, if_pos (nI_le (by omega) (by omega))]
        unfold B_X2_firstOutOfPlace_126
        rw [c.1, if_neg (nI_ne0 (by omega) (by omega)), if_pos (by decide)]
      · rw [if_neg z]
        rcases ih (sOne L K p).2 f3 f2 m1 (by omega) (by omega) a (by omega) N1 with ⟨q, m2, x1, x2, x3, x4⟩ | ⟨s, m2, x1, x2, x3, x4, x5⟩
        · exact Or.inl ⟨q, m2, x1, x2, x3, F.trans x4⟩
        · exact Or.inr ⟨s + 1, m2, x1, x2, x3, F.trans x4, hp, hb, x5⟩
