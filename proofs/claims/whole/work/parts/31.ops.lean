/-! The simple calls -/
theorem rgN {b : Int} {x : Int32} (h : rg b x) : ∃ k : Nat, (k : Int) ≤ b ∧ k < 2 ^ 31 ∧ x = nI k := by
  obtain ⟨h1, h2⟩ := h
  have hlt := Int32.toInt_lt x
  refine ⟨x.toInt.toNat, by omega, by omega, ?_⟩
  apply i_eq
  rw [nI_toInt (by omega)]
  omega
theorem i_rg {x : Int32} {k : Nat} (hk : k < 1000) (h1 : 0 ≤ x.toInt) (h2 : x.toInt < k) : ∃ j, j < k ∧ x = nI j := by
  refine ⟨x.toInt.toNat, by omega, ?_⟩
  apply i_eq
  rw [nI_toInt (by omega)]
  omega
theorem sumL_append (f : Nat → Int32) (a : List Nat) : ∀ b : List Nat, sumL f (a ++ b) = sumL f a + sumL f b := by
  refine runW_snoc_ind (P := fun b => sumL f (a ++ b) = sumL f a + sumL f b) ?_ (fun b i ih => ?_)
  · rw [List.append_nil]; exact (Int32.add_zero _).symm
  · rw [← List.append_assoc, sumL_app, sumL_app, ih, Int32.add_assoc]
theorem sumJ (f : Nat → Int32) (V : Vw) (h n : Nat) : sumL f (seqJ V no h (n + 1)) = sumL f (seqJ V no h n) + (if V 5 n = nI h then f n else 0) := by
  by_cases c : V 5 n = nI h
  · rw [seqJ_yes c rfl, sumL_app, if_pos c]
  · rw [seqJ_no (Or.inl c), if_neg c, Int32.add_zero]
theorem sum12 (f : Nat → Int32) (V : Vw) (n k : Nat) : sumL f (seqH V no n 12) = sumL f (seqJ V no 0 n) + sumL f (seqJ V no 1 n) + sumL f (seqJ V no 2 n) + sumL f (seqJ V no 3 n) + sumL f (seqJ V no 4 n) + sumL f (seqJ V no 5 n) + sumL f (seqJ V no 6 n) + sumL f (seqJ V no 7 n) + sumL f (seqJ V no 8 n) + sumL f (seqJ V no 9 n) + sumL f (seqJ V no 10 n) + sumL f (seqJ V no 11 n) := by
  simp only [seqH, sumL_append, List.nil_append]
set_option maxHeartbeats 2000000 in
theorem sum_hours (f : Nat → Int32) (V : Vw) : ∀ n : Nat, (∀ i, i < n → rg 11 (V 5 i)) → sumL f (seqH V no n 12) = sumL f (List.range n) := by
  intro n
  induction n with
  | zero => intro _; rfl
  | succ n ih =>
    intro h
    have e := ih (fun i hi => h i (by omega))
    obtain ⟨k, hk, -, ek⟩ := rgN (h n (by omega))
    rw [sum12 f V n 0] at e
    rw [List.range_succ, sumL_app, ← e, sum12 f V (n + 1) 0]
    simp only [sumJ, ek]
    have hk : k < 12 := by omega
    have hq : ∀ j, j < 12 → ((nI k = nI j) ↔ k = j) := fun j hj => nI_eq (by omega) (by omega)
    simp only [hq 0 (by decide), hq 1 (by decide), hq 2 (by decide), hq 3 (by decide), hq 4 (by decide), hq 5 (by decide), hq 6 (by decide), hq 7 (by decide), hq 8 (by decide), hq 9 (by decide), hq 10 (by decide), hq 11 (by decide)]
    rcases (show k = 0 ∨ k = 1 ∨ k = 2 ∨ k = 3 ∨ k = 4 ∨ k = 5 ∨ k = 6 ∨ k = 7 ∨ k = 8 ∨ k = 9 ∨ k = 10 ∨ k = 11 by omega) with rfl | rfl | rfl | rfl | rfl | rfl | rfl | rfl | rfl | rfl | rfl | rfl <;> simp only [Nat.reduceEqDiff, if_true, if_false, Int32.add_zero] <;> ac_rfl
theorem mem_seqH {V : Vw} {n i : Nat} (hi : i < n) (h : rg 11 (V 5 i)) : i ∈ seqH V no n 12 := by
  obtain ⟨k, hk, -, ek⟩ := rgN h
  have key : ∀ m, k < m → i ∈ seqH V no n m := by
    intro m
    induction m with
    | zero => intro h; omega
    | succ m ih =>
      intro hm
      by_cases e : k = m
      · subst e
        refine List.mem_append_right _ ?_
        unfold seqJ
        rw [List.mem_filter, List.mem_range]
        exact ⟨hi, by simp [ek]⟩
      · exact List.mem_append_left _ (ih (by omega))
  exact key 12 (by omega)
theorem VOK.h {V : Vw} {n i : Nat} (h : VOK V n) (hi : i < n) : rg 11 (V 5 i) := (h.2.2.2.2 i hi).2.2.2.2
/-- both walk the alley as it is -/
theorem both {gc gm : Sg} {n : Nat} (r : RelA gc gm n) : ∃ x gc1 gm1, M_X5_byHours 3 gc = some (x, gc1) ∧ ByC (mv gm) n 1 (-1) x gc1 ∧ FrC gc gc1 ∧ M_X7_run_ gm = some gm1 ∧ RunM (mv gm) n 1 (-1) no gm1 ∧ FrM gm gm1 := by
  obtain ⟨r1, r2, r3, r4, r5, -⟩ := r
  obtain ⟨x, gc1, e1, B, F⟩ := cBy al_3 r1.1 r2
  obtain ⟨gm1, e2, R, G⟩ := mRunAll (-1) r1 r3
  rw [r4, r5] at B
  exact ⟨x, gc1, gm1, e1, B, F, e2, R, G⟩
theorem knows_e (x : Int32) (g : Sg) (a : Nat) : V_X0_knows a x g = if x < 0 then 0 else if g.1 a ≤ x then 0 else 1 := rfl
theorem within_e (x lo hi : Int32) (g : Sg) : V_X7_within x lo hi g = if x < lo then 0 else if hi < x then 0 else 1 := rfl
theorem goer_or {gc gm : Sg} {n : Nat} (r : RelA gc gm n) (x : Int32) : (∃ i, i < n ∧ x = nI i ∧ ¬ V_X0_knows 3 x gc = 0 ∧ ¬ V_X7_isGoer x gm = 0) ∨ (V_X0_knows 3 x gc = 0 ∧ V_X7_isGoer x gm = 0) := by
  obtain ⟨r1, r2, r3, -⟩ := r
  have hn := r1.1
  have e1 : (nI n - 1).toInt = (n : Int) - 1 := by
    rw [T_sub (by rw [nI_toInt (by omega)]; show _ ≤ (n : Int) - 1; omega) (by rw [nI_toInt (by omega)]; show (n : Int) - 1 < _; omega), nI_toInt (by omega)]
    rfl
  unfold V_X7_isGoer
  rw [knows_e, within_e, r2, r3]
  rcases pk_ix x (n := n) (by omega) with h | h | ⟨j, hj, rfl⟩
  · exact Or.inr ⟨if_pos h, if_pos h⟩
  · have h2 : ¬ x < 0 := fun h3 => by
      rw [i_lt, T_0] at h3
      rw [i_le, nI_toInt (by omega)] at h
      omega
    refine Or.inr ⟨?_, ?_⟩
    · rw [if_neg h2, if_pos h]
    · rw [if_neg h2, if_pos]
      rw [i_lt, e1]
      rw [i_le, nI_toInt (by omega)] at h
      omega
  · refine Or.inl ⟨j, hj, rfl, ?_, ?_⟩
    · rw [if_neg (nI_pos (by omega)), if_neg (nI_ge hj (by omega))]; decide
    · rw [if_neg (nI_pos (by omega)), if_neg]
      · decide
      · rw [i_lt, e1, nI_toInt (by omega)]; omega
theorem T_nI {k : Nat} (h : k < 1000000) : (nI k).toInt = (k : Int) := nI_toInt (by omega)
theorem op_letter (gc gm : Sg) (x : Int32) (r : Rel gc gm) : Ans Rel (M_X6_letter x gc) (M_X7_letter x gm) := by
  unfold M_X6_letter M_X7_letter
  by_cases c1 : 0 ≤ x
  · rw [if_pos c1, if_pos c1]
    by_cases c2 : 255 < x
    · rw [if_pos c2, if_pos c2]
      exact ref_ans r (-6) 6 (vpl (by decide)) (by decide)
    · rw [if_neg c2, if_neg c2]
      have r0 := r
      obtain ⟨⟨n, r1, r2, r3, r4, r5, r6, r7, r8⟩, ⟨k, k1, k2, k3, k4⟩, rR, rF, rI⟩ := r
      rw [k2, k3]
      by_cases c3 : k = 96
      · subst c3
        rw [if_neg (show ¬ nI 96 < 96 by decide), if_pos (show nI 96 = 96 by decide)]
        exact ref_ans r0 (-6) 6 (vpl (by decide)) (by decide)
      · have hk : k < 96 := by omega
        have e1 : nI k < 96 := by rw [i_lt, T_nI (by omega)]; show (k : Int) < 96; omega
        have e2 : ¬ nI k = 96 := fun e => c3 (nI_eq' (by omega) (by omega) e)
        rw [if_pos e1, if_neg e2, lt_eq, lt_eq, chk_ok (vpN hk (by decide)), lt_eq, wrN _ _ (by omega), nI_1]
        have e3 : U_X2_add x gc = sI (sF gc 25 (upd (gc.2 25) k x)) 24 (nI (k + 1)) := by
          unfold U_X2_add
          simp only [k2, sF1, rput_l gc 25 96 (nI k) x k (by decide) (vpN hk (by decide)) (nI_clamp (by omega)), nI_1]
        rw [e3]
        have c2 : ∀ j, j ≠ 25 → (sI (sF gc 25 (upd (gc.2 25) k x)) 24 (nI (k + 1))).2 j = gc.2 j := fun j hj => by rw [sI2, sF2, if_neg hj]
        have m2 : ∀ j, j ≠ 7 → (sF (sI gm 1 (nI (k + 1))) 7 (upd ((sI gm 1 (nI (k + 1))).2 7) k x)).2 j = gm.2 j := fun j hj => by rw [sF2, if_neg hj]; rfl
        have h3 : cv (sI (sF gc 25 (upd (gc.2 25) k x)) 24 (nI (k + 1))) 3 = cv gc 3 := cv_fr2 (fun j h1 h2 => c2 j (by omega))
        have h10 : cv (sI (sF gc 25 (upd (gc.2 25) k x)) 24 (nI (k + 1))) 10 = cv gc 10 := cv_fr2 (fun j h1 h2 => c2 j (by omega))
        have hm : mv (sF (sI gm 1 (nI (k + 1))) 7 (upd ((sI gm 1 (nI (k + 1))).2 7) k x)) = mv gm := mv_fr (fun j hj => m2 j (by omega))
        refine ⟨nI (k + 1), _, _, rfl, rfl, ⟨n, by rw [hm]; exact r1, r2, r3, r4, by rw [hm, h3]; exact r5, r6.fr (fun j h1 h2 => c2 j (by omega)), r7.fr (fun j h1 h2 => c2 j (by omega)), r8.fr (fun j h1 h2 => c2 j (by omega))⟩, ⟨k + 1, by omega, rfl, rfl, fun j hj => ?_⟩, ?_, ?_, ?_⟩
        · show upd (gc.2 25) k x j = upd (gm.2 7) k x j
          by_cases e : j = k
          · subst e; rw [upd_at, upd_at]
          · rw [upd_ne _ _ e, upd_ne _ _ e]; exact k4 j (by omega)
        · obtain ⟨K, a, b, c, d⟩ := rR
          exact ⟨K, a, b, c, fun j hj => by rw [c2 1 (by decide), m2 9 (by decide)]; exact d j hj⟩
        · intro j hj
          rw [c2 2 (by decide), m2 10 (by decide)]; exact rF j hj
        · refine ⟨rI.1, ?_⟩
          rw [h10, m2 11 (by decide)]
          exact rI.2
  · rw [if_neg c1, if_neg c1]
    exact ref_ans r (-4) 4 (vpl (by decide)) (by decide)
theorem op_row (gc gm : Sg) (x : Int32) (r : Rel gc gm) : Ans Rel (M_X6_row x gc) (M_X7_row x gm) := by
  unfold M_X6_row M_X7_row
  by_cases c1 : 0 ≤ x
  · rw [if_pos c1, if_pos c1]
    by_cases c2 : 99 < x
    · rw [if_pos c2, if_pos c2]
      exact ref_ans r (-6) 6 (vpl (by decide)) (by decide)
    · rw [if_neg c2, if_neg c2]
      have r0 := r
      obtain ⟨⟨n, r1, r2, r3, r4, r5, r6, r7, r8⟩, rL, ⟨k, k1, k2, k3, k4⟩, rF, rI⟩ := r
      rw [k2, k3]
      by_cases c3 : k = 12
      · subst c3
        rw [if_neg (show ¬ nI 12 < 12 by decide), if_pos (show nI 12 = 12 by decide)]
        exact ref_ans r0 (-6) 6 (vpl (by decide)) (by decide)
      · have hk : k < 12 := by omega
        have e1 : nI k < 12 := by rw [i_lt, T_nI (by omega)]; show (k : Int) < 12; omega
        have e2 : ¬ nI k = 12 := fun e => c3 (nI_eq' (by omega) (by omega) e)
        rw [if_pos e1, if_neg e2, lt_eq, lt_eq, lt_eq, chk_ok (vpN hk (by decide)), lt_eq, wrN _ _ (by omega), rput_l gc 1 12 (nI k) x k (by decide) (vpN hk (by decide)) (nI_clamp (by omega)), sF1, k2, nI_1]
        have c2 : ∀ j, j ≠ 1 → (sI (sF gc 1 (upd (gc.2 1) k x)) 0 (nI (k + 1))).2 j = gc.2 j := fun j hj => by rw [sI2, sF2, if_neg hj]
        have m2 : ∀ j, j ≠ 9 → (sF (sI gm 3 (nI (k + 1))) 9 (upd ((sI gm 3 (nI (k + 1))).2 9) k x)).2 j = gm.2 j := fun j hj => by rw [sF2, if_neg hj]; rfl
        have h3 : cv (sI (sF gc 1 (upd (gc.2 1) k x)) 0 (nI (k + 1))) 3 = cv gc 3 := cv_fr2 (fun j h1 h2 => c2 j (by omega))
        have h10 : cv (sI (sF gc 1 (upd (gc.2 1) k x)) 0 (nI (k + 1))) 10 = cv gc 10 := cv_fr2 (fun j h1 h2 => c2 j (by omega))
        have hm : mv (sF (sI gm 3 (nI (k + 1))) 9 (upd ((sI gm 3 (nI (k + 1))).2 9) k x)) = mv gm := mv_fr (fun j hj => m2 j (by omega))
        refine ⟨nI (k + 1), _, _, rfl, rfl, ⟨n, by rw [hm]; exact r1, r2, r3, r4, by rw [hm, h3]; exact r5, r6.fr (fun j h1 h2 => c2 j (by omega)), r7.fr (fun j h1 h2 => c2 j (by omega)), r8.fr (fun j h1 h2 => c2 j (by omega))⟩, ?_, ⟨k + 1, by omega, rfl, rfl, fun j hj => ?_⟩, ?_, ?_⟩
        · obtain ⟨K, a, b, c, d⟩ := rL
          exact ⟨K, a, b, c, fun j hj => by rw [c2 25 (by decide), m2 7 (by decide)]; exact d j hj⟩
        · show upd (gc.2 1) k x j = upd (gm.2 9) k x j
          by_cases e : j = k
          · subst e; rw [upd_at, upd_at]
          · rw [upd_ne _ _ e, upd_ne _ _ e]; exact k4 j (by omega)
        · intro j hj
          rw [c2 2 (by decide), m2 10 (by decide)]; exact rF j hj
        · refine ⟨rI.1, ?_⟩
          rw [h10, m2 11 (by decide)]
          exact rI.2
  · rw [if_neg c1, if_neg c1]
    exact ref_ans r (-4) 4 (vpl (by decide)) (by decide)
/-- the row is emptied -/
theorem Rel.clr {gc gm : Sg} (r : Rel gc gm) : Rel (sI gc 0 0) (sI gm 3 0) := by
  obtain ⟨⟨n, r1, r2, r3, r4, r5, r6, r7, r8⟩, rL, -, rF, rI⟩ := r
  exact ⟨⟨n, r1, r2, r3, r4, r5, r6, r7, r8⟩, rL, ⟨0, by omega, rfl, rfl, fun j hj => absurd hj (Nat.not_lt_zero j)⟩, rF, rI⟩
theorem op_clear (gc gm : Sg) (r : Rel gc gm) : Ans Rel (M_X6_clear gc) (M_X7_clear gm) := by
  unfold M_X6_clear M_X7_clear
  rw [lt_eq, lt_eq]
  obtain ⟨k, -, k2, k3, -⟩ := r.2.2.1
  exact ⟨nI k, _, _, by rw [k2], by rw [k3], r.clr⟩
theorem op_goer (gc gm : Sg) (x y : Int32) (r : Rel gc gm) : Ans Rel (M_X6_goer x y gc) (M_X7_goer x y gm) := by
  have r0 := r
  obtain ⟨⟨n, rA⟩, -⟩ := r
  unfold M_X6_goer M_X7_goer
  rcases goer_or rA x with ⟨i, hi, rfl, h1, h2⟩ | ⟨h1, h2⟩
  · rw [if_neg h1, if_neg h2]
    obtain ⟨r1, r2, r3, r4, r5, -⟩ := rA
    have hi7 : i < 7 := by have := r1.1; omega
    have q := fun (k : Nat) => congrFun (congrFun r5 k) i
    have q1 : gc.2 5 i = gm.2 1 i := q 1
    have q2 : gc.2 6 i = gm.2 2 i := q 2
    have q3 : gc.2 7 i = gm.2 3 i := q 3
    have q4 : gc.2 8 i = gm.2 4 i := q 4
    have q5 : gc.2 9 i = gm.2 5 i := q 5
    rw [rat7 gc 5 hi7, rat7 gc 6 hi7, rat7 gc 7 hi7, rat7 gc 8 hi7, rat7 gc 9 hi7, cFet gc 3 hi7, cDst gc 3 hi7, r5, mFet hi7, mCst hi7, bI_some, bI_some]
    simp only [chk_ok (vpN hi7 (by decide)), rdN _ _ (show i < 1000 by omega)]
    rw [q1, q2, q3, q4, q5]
    (repeat' split) <;> first
      | exact ⟨_, _, _, rfl, rfl, r0⟩
      | exact ref_ans r0 (-2) 2 (vpl (by decide)) (by decide)
  · rw [if_pos h1, if_pos h2]
    exact ref_ans r0 (-1) 1 (vpl (by decide)) (by decide)
theorem le11 {x : Int32} : x < 12 ↔ x ≤ 11 := by
  rw [i_lt, i_le]
  show x.toInt < 12 ↔ x.toInt ≤ 11
  omega
theorem hour_in {x : Int32} (h1 : 0 ≤ x) (h2 : x ≤ 11) : ∃ h, h < 12 ∧ x = nI h := by
  rw [i_le] at h1 h2
  exact i_rg (k := 12) (by omega) h1 (by have h3 : (11 : Int32).toInt = 11 := rfl; rw [h3] at h2; show _ < (12 : Int); omega)
theorem hR_e (x : Int32) (g : Sg) : V_X6_hourRefusal x g = if 0 ≤ x then (if x < 12 then 0 else -6) else -4 := rfl
theorem op_lamp (gc gm : Sg) (x : Int32) (r : Rel gc gm) : Ans Rel (M_X6_lamp x gc) (M_X7_lamp x gm) := by
  have r0 := r
  obtain ⟨⟨n, rA⟩, -⟩ := r
  unfold M_X6_lamp M_X7_lamp
  rw [hR_e]
  by_cases c1 : 0 ≤ x
  · rw [if_pos c1, if_pos c1]
    by_cases c2 : x ≤ 11
    · rw [if_pos (le11.mpr c2), if_pos c2, if_pos rfl]
      obtain ⟨h, hh, rfl⟩ := hour_in c1 c2
      obtain ⟨v, gc1, gm1, e1, B, F, e2, R, G⟩ := both rA
      rw [e1, e2, bI_some, bV_some, chk_ok (vpN hh (by decide)), rdN _ _ (by omega), rat_l gc1 34 12 (nI h) h (by decide) (vpN hh (by decide)) (nI_clamp (by omega)), B.2.2 h hh, R.2 h hh]
      exact Ans.q r0 F.q G.q
    · have c3 : ¬ x < 12 := fun e => c2 (le11.mp e)
      rw [if_neg c3, if_neg c2, if_neg (by decide)]
      exact ref_ans r0 (-6) 6 (vpl (by decide)) (by decide)
  · rw [if_neg c1, if_neg c1, if_neg (by decide)]
    exact ref_ans r0 (-4) 4 (vpl (by decide)) (by decide)
theorem cell_or (gc gm : Sg) (x : Int32) : (rg 39 x ∧ ¬ V_X6_isCell x gc = 0 ∧ ¬ V_X7_isCell x gm = 0) ∨ (V_X6_isCell x gc = 0 ∧ V_X7_isCell x gm = 0) := by
  have e1 : V_X6_isCell x gc = if x < 0 then 0 else if 40 ≤ x then 0 else 1 := rfl
  have e2 : V_X7_isCell x gm = if x < 0 then 0 else if 39 < x then 0 else 1 := rfl
  rw [e1, e2]
  by_cases c1 : x < 0
  · rw [if_pos c1, if_pos c1]; exact Or.inr ⟨rfl, rfl⟩
  · rw [if_neg c1, if_neg c1]
    have c3 : 40 ≤ x ↔ 39 < x := by
      rw [i_le, i_lt]
      show (40 : Int) ≤ x.toInt ↔ 39 < x.toInt
      omega
    by_cases c2 : 39 < x
    · rw [if_pos (c3.mpr c2), if_pos c2]; exact Or.inr ⟨rfl, rfl⟩
    · rw [if_neg (fun e => c2 (c3.mp e)), if_neg c2]
      refine Or.inl ⟨⟨?_, ?_⟩, by decide, by decide⟩
      · rw [i_lt, T_0] at c1; omega
      · rw [i_lt] at c2
        have h3 : (39 : Int32).toInt = 39 := rfl
        rw [h3] at c2; omega
theorem op_near (gc gm : Sg) (x y : Int32) (r : Rel gc gm) : Ans Rel (M_X6_near x y gc) (M_X7_near x y gm) := by
  have r0 := r
  obtain ⟨⟨n, rA⟩, -⟩ := r
  unfold M_X6_near M_X7_near
  rw [hR_e]
  by_cases c1 : 0 ≤ x
  · rw [if_pos c1, if_pos c1]
    by_cases c2 : x ≤ 11
    · rw [if_pos (le11.mpr c2), if_pos c2, if_pos rfl]
      rcases cell_or gc gm y with ⟨-, h1, h2⟩ | ⟨h1, h2⟩
      · rw [if_neg h1, if_neg h2]
        obtain ⟨h, hh, rfl⟩ := hour_in c1 c2
        obtain ⟨v, gc1, gm1, e1, B, F, e2, R, G⟩ := both rA
        rw [e1, e2, bI_some, bV_some, chk_ok (vpN hh (by decide)), rdN _ _ (by omega), rat_l gc1 34 12 (nI h) h (by decide) (vpN hh (by decide)) (nI_clamp (by omega)), B.2.2 h hh, R.2 h hh]
        exact Ans.q r0 F.q G.q
      · rw [if_pos h1, if_pos h2]
        exact ref_ans r0 (-1) 1 (vpl (by decide)) (by decide)
    · have c3 : ¬ x < 12 := fun e => c2 (le11.mp e)
      rw [if_neg c3, if_neg c2, if_neg (by decide)]
      exact ref_ans r0 (-6) 6 (vpl (by decide)) (by decide)
  · rw [if_neg c1, if_neg c1, if_neg (by decide)]
    exact ref_ans r0 (-4) 4 (vpl (by decide)) (by decide)
