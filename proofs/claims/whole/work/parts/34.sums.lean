/-! Hours, settings, sums -/
theorem op_of (gc gm : Sg) (x y : Int32) (r : Rel gc gm) : Ans Rel (M_X6_of x y gc) (M_X7_of x y gm) := by
  have r0 := r
  obtain ⟨⟨n, rA⟩, -⟩ := r
  unfold M_X6_of M_X7_of
  rcases goer_or rA x with ⟨i, hi, rfl, h1, h2⟩ | ⟨h1, h2⟩
  · rw [if_neg h1, if_neg h2]
    have hn := rA.1.1
    have hi7 : i < 7 := by omega
    obtain ⟨v, gc1, gm1, e1, B, F, e2, R, G⟩ := both rA
    have hm := mem_seqH hi (rA.1.h hi)
    obtain ⟨c1, c2, c3, c4, c5⟩ := B.2.1.2.2.2.1 i hm
    obtain ⟨m1, m2, m3, m4⟩ := R.1.1.2.2.2 i hm
    rw [e1, e2, bI_some, bV_some]
    simp only [chk_ok (vpN hi7 (by decide)), rdN _ _ (show i < 1000 by omega), rat7 _ _ hi7, mCst hi7, bI_some, G.mv]
    by_cases y0 : y = 0
    · rw [if_pos y0, if_pos y0, c1, m1]; exact Ans.q r0 F.q G.q
    rw [if_neg y0, if_neg y0]
    by_cases y1 : y = 1
    · rw [if_pos y1, if_pos y1, c2, m2]; exact Ans.q r0 F.q G.q
    rw [if_neg y1, if_neg y1]
    by_cases y2 : y = 2
    · rw [if_pos y2, if_pos y2, c3, m1]; exact Ans.q r0 F.q G.q
    rw [if_neg y2, if_neg y2]
    by_cases y3 : y = 3
    · rw [if_pos y3, if_pos y3, c4, m3]; exact Ans.q r0 F.q G.q
    rw [if_neg y3, if_neg y3]
    by_cases y4 : y = 4
    · rw [if_pos y4, if_pos y4, c5, ← m4]
      by_cases z : gm1.2 19 i = -9
      · rw [if_pos z, if_pos z]; exact Ans.q r0 F.q G.q
      · rw [if_neg z, if_neg z]; exact Ans.q r0 F.q G.q
    rw [if_neg y4, if_neg y4]
    exact ref_ansQ r0 F.q G.q (-2) 2 (vpl (by decide)) (by decide)
  · rw [if_pos h1, if_pos h2]
    exact ref_ans r0 (-1) 1 (vpl (by decide)) (by decide)
theorem cv_up {g : Sg} {a k : Nat} {f : Nat → Int32} (hk : k < 6) : cv (sF g (a + (k + 1)) f) a = fun j => if j = k then f else cv g a j := by
  funext j
  by_cases e : j = k
  · subst e
    rw [if_pos rfl]
    unfold cv
    rw [if_pos hk, sF2, if_pos rfl]
  · rw [if_neg e]
    unfold cv
    by_cases h : j < 6
    · rw [if_pos h, if_pos h, sF2, if_neg (by omega)]
    · rw [if_neg h, if_neg h]
def mk (k : Nat) : Nat := if k = 0 then 6 else k
theorem mv_up {g : Sg} {k : Nat} {f : Nat → Int32} (hk : k < 6) : mv (sF g (mk k) f) = fun j => if j = k then f else mv g j := by
  funext j
  unfold mv mk
  by_cases e : j = k
  · subst e
    rw [if_pos rfl]
    by_cases h0 : j = 0
    · rw [if_pos h0, if_pos h0, sF2, if_pos rfl]
    · rw [if_neg h0, if_neg h0, if_pos hk, sF2, if_pos rfl]
  · rw [if_neg e]
    by_cases h0 : j = 0
    · rw [if_pos h0, if_pos h0, if_neg (show ¬ k = 0 by omega), sF2, if_neg (by omega)]
    · rw [if_neg h0, if_neg h0]
      by_cases h6 : j < 6
      · rw [if_pos h6, if_pos h6, sF2, if_neg (by split <;> omega)]
      · rw [if_neg h6, if_neg h6]
theorem Rel.put {gc gm : Sg} {n k : Nat} {f : Nat → Int32} (r : Rel gc gm) (rA : RelA gc gm n) (hk : k < 6) (hv : VOK (fun j => if j = k then f else mv gm j) n) (hz : ∀ j, (if k = 0 then 3 else 7) ≤ j → f j = 0) : Rel (sF gc (3 + (k + 1)) f) (sF gm (mk k) f) := by
  obtain ⟨-, rL, rR, rF, rI⟩ := r
  obtain ⟨r1, r2, r3, r4, r5, r6, r7, r8⟩ := rA
  have c : ∀ j, (j < 4 ∨ 9 < j) → (sF gc (3 + (k + 1)) f).2 j = gc.2 j := fun j hj => by rw [sF2, if_neg (by omega)]
  have m : ∀ j, 7 ≤ j → (sF gm (mk k) f).2 j = gm.2 j := fun j hj => by rw [sF2, if_neg (by unfold mk; split <;> omega)]
  refine ⟨⟨n, by rw [mv_up hk]; exact hv, r2, r3, r4, by rw [cv_up hk, mv_up hk, r5], ⟨fun j hj => ?_, fun q h1 h2 j hj => ?_⟩, r7.fr (fun j h1 h2 => c j (by omega)), r8.fr (fun j h1 h2 => c j (by omega))⟩, ?_, ?_, ?_, ?_⟩
  · rw [sF2]
    by_cases e : k = 0
    · subst e
      rw [if_pos rfl]; exact hz j hj
    · rw [if_neg (by omega)]; exact r6.1 j hj
  · rw [sF2]
    by_cases e : q = k + 1
    · rw [if_pos (by omega)]
      exact hz j (by rw [if_neg (by omega)]; exact hj)
    · rw [if_neg (by omega)]; exact r6.2 q h1 h2 j hj
  · obtain ⟨K, a, b, d, e⟩ := rL
    exact ⟨K, a, b, d, fun j hj => by rw [c 25 (by decide), m 7 (by decide)]; exact e j hj⟩
  · obtain ⟨K, a, b, d, e⟩ := rR
    exact ⟨K, a, b, d, fun j hj => by rw [c 1 (by decide), m 9 (by decide)]; exact e j hj⟩
  · intro j hj
    rw [c 2 (by decide), m 10 (by decide)]; exact rF j hj
  · refine ⟨rI.1, ?_⟩
    rw [cv_fr2 (a := 10) (g := gc) (fun j h1 h2 => c j (by omega)), m 11 (by decide)]
    exact rI.2
theorem zA7 {gc : Sg} (z : ZA gc 3) (k : Nat) (h0 : 0 < k) (h6 : k < 6) {i : Nat} (hi : i < 7) (x : Int32) : ∀ j, (if k = 0 then 3 else 7) ≤ j → upd (gc.2 (3 + (k + 1))) i x j = 0 := by
  intro j hj
  rw [if_neg (by omega)] at hj
  rw [upd_ne _ _ (by omega)]
  exact z.2 (k + 1) (by omega) (by omega) j hj
theorem op_hour (gc gm : Sg) (x y : Int32) (r : Rel gc gm) : Ans Rel (M_X6_hour x y gc) (M_X7_hour x y gm) := by
  have r0 := r
  obtain ⟨⟨n, rA⟩, -⟩ := r
  unfold M_X6_hour M_X7_hour
  rcases goer_or rA x with ⟨i, hi, rfl, h1, h2⟩ | ⟨h1, h2⟩
  · rw [if_neg h1, if_neg h2]
    have hn := rA.1.1
    have hi7 : i < 7 := by omega
    by_cases c1 : 0 ≤ y
    · rw [if_pos c1, if_pos c1]
      by_cases c2 : y ≤ 11
      · rw [if_pos (le11.mpr c2), if_pos c2]
        obtain ⟨h, hh, rfl⟩ := hour_in c1 c2
        have q : gc.2 9 = gm.2 5 := congrFun rA.2.2.2.2.1 5
        rw [chk_ok (vpN hi7 (by decide)), chk_ok (vpN hi7 (by decide)), lt_eq, lt_eq, lt_eq, rat7 _ _ hi7, rput7 _ _ hi7, wrN _ _ (by omega), rdN _ _ (by omega), q]
        have w : upd (gm.2 5) i (nI h) = upd (gc.2 (3 + (5 + 1))) i (nI h) := by rw [← q]
        refine ⟨gm.2 5 i, _, _, rfl, rfl, r0.put (k := 5) rA (by decide) ?_ (by rw [w]; exact zA7 rA.2.2.2.2.2.1 5 (by decide) (by decide) hi7 _)⟩
        obtain ⟨v1, v2, v3, v4, v5⟩ := rA.1
        refine ⟨v1, v2, v3, v4, fun j hj => ?_⟩
        obtain ⟨w1, w2, w3, w4, w5⟩ := v5 j hj
        refine ⟨w1, w2, w3, w4, ?_⟩
        show rg 11 (upd (gm.2 5) i (nI h) j)
        by_cases e : j = i
        · subst e
          rw [upd_at]
          exact ⟨by rw [T_nI (by omega)]; omega, by rw [T_nI (by omega)]; omega⟩
        · rw [upd_ne _ _ e]; exact w5
      · have c3 : ¬ y < 12 := fun e => c2 (le11.mp e)
        rw [if_neg c3, if_neg c2]
        exact ref_ans r0 (-6) 6 (vpl (by decide)) (by decide)
    · rw [if_neg c1, if_neg c1]
      exact ref_ans r0 (-4) 4 (vpl (by decide)) (by decide)
  · rw [if_pos h1, if_pos h2]
    exact ref_ans r0 (-1) 1 (vpl (by decide)) (by decide)
theorem three {x : Int32} (h1 : ¬ x < 0) (h2 : x < 3) : x = 0 ∨ x = 1 ∨ x = 2 := by
  rw [i_lt, T_0] at h1
  rw [i_lt] at h2
  have h3 : (3 : Int32).toInt = 3 := rfl
  rw [h3] at h2
  rcases (show x.toInt = 0 ∨ x.toInt = 1 ∨ x.toInt = 2 by omega) with h | h | h
  · exact Or.inl (i_eq h)
  · exact Or.inr (Or.inl (i_eq h))
  · exact Or.inr (Or.inr (i_eq h))
theorem set_1 {gc gm : Sg} {n i : Nat} {y : Int32} {b : Int} (r : Rel gc gm) (rA : RelA gc gm n) (hi : i < 3) (hy : rg b y) (hb : b = if i = 0 then 39 else if i = 1 then 200 else 9) : Rel (sF gc 4 (upd (gc.2 4) i y)) (sF gm 6 (upd (gm.2 6) i y)) := by
  have q : gc.2 4 = gm.2 6 := congrFun rA.2.2.2.2.1 0
  have z := rA.2.2.2.2.2.1.1
  rw [← q]
  refine r.put (k := 0) rA (by decide) ?_ (fun j hj => ?_)
  · obtain ⟨v1, v2, v3, v4, v5⟩ := rA.1
    rw [show mv gm 0 = gc.2 4 from q.symm] at v2 v3 v4
    refine ⟨v1, ?_, ?_, ?_, v5⟩
    · show rg 39 (upd (gc.2 4) i y 0)
      by_cases e : 0 = i
      · subst e; rw [upd_at]; rw [if_pos rfl] at hb; rw [← hb]; exact hy
      · rw [upd_ne _ _ e]; exact v2
    · show rg 200 (upd (gc.2 4) i y 1)
      by_cases e : 1 = i
      · subst e; rw [upd_at]; rw [if_neg (by decide), if_pos rfl] at hb; rw [← hb]; exact hy
      · rw [upd_ne _ _ e]; exact v3
    · show rg 9 (upd (gc.2 4) i y 2)
      by_cases e : 2 = i
      · subst e; rw [upd_at]; rw [if_neg (by decide), if_neg (by decide)] at hb; rw [← hb]; exact hy
      · rw [upd_ne _ _ e]; exact v4
  · rw [if_pos rfl] at hj
    rw [upd_ne _ _ (by omega)]
    exact z j hj
theorem set_2 {gc gm : Sg} {n i : Nat} {y m : Int32} {b : Int} (r : Rel gc gm) (rA : RelA gc gm n) (hi : i < 3) (hm : m.toInt = b) (hb : b = if i = 0 then 39 else if i = 1 then 200 else 9) (hr : ratZ (nI i) = m) (hk : V_X7_mostOf (nI i) gm = m) : Ans Rel (if (0 : Int32) ≤ y then lt (rat gc 4 3 (nI i)) (fun x3_3 => bI (M_X0_settle 3 (nI i) y gc) (fun r_4 g_5 => (if r_4 = 0 then bI (M_X6_refuse (-6) g_5) (fun r_6 g_7 => some (r_6, g_7)) else some (x3_3, g_5)))) else bI (M_X6_refuse (-4) gc) (fun r_8 g_9 => some (r_8, g_9))) (if (0 : Int32) ≤ y then (if y ≤ (V_X7_mostOf (nI i) gm) then chk (nI i) 3 (chk (nI i) 3 (lt (wr gm 6 (nI i) y) (fun g_1 => some (rd gm 6 (nI i), g_1)))) else bI (M_X7_no (-6) gm) (fun r_2 g_3 => some (r_2, g_3))) else bI (M_X7_no (-4) gm) (fun r_4 g_5 => some (r_4, g_5))) := by
  have q : gc.2 4 = gm.2 6 := congrFun rA.2.2.2.2.1 0
  by_cases c1 : 0 ≤ y
  · rw [if_pos c1, if_pos c1, hk]
    unfold M_X0_settle
    rw [hr]
    by_cases c2 : y ≤ m
    · rw [if_pos c2, if_pos c2, lt_eq, lt_eq, bI_some, if_neg (by decide), chk_ok (vpN hi (by decide)), chk_ok (vpN hi (by decide)), lt_eq, rat_l gc 4 3 (nI i) i (by decide) (vpN hi (by decide)) (nI_clamp (by omega)), rput_l gc (3 + 1) 3 (nI i) y i (by decide) (vpN hi (by decide)) (nI_clamp (by omega)), wrN _ _ (by omega), rdN _ _ (by omega), q]
      refine ⟨gm.2 6 i, _, _, rfl, rfl, ?_⟩
      rw [i_le, T_0] at c1
      rw [i_le, hm] at c2
      have w := set_1 (y := y) (b := b) r rA hi ⟨c1, c2⟩ hb
      rw [q] at w
      exact w
    · rw [if_neg c2, if_neg c2, lt_eq, bI_some, if_pos rfl]
      exact ref_ans r (-6) 6 (vpl (by decide)) (by decide)
  · rw [if_neg c1, if_neg c1]
    exact ref_ans r (-4) 4 (vpl (by decide)) (by decide)
theorem op_set (gc gm : Sg) (x y : Int32) (r : Rel gc gm) : Ans Rel (M_X6_set x y gc) (M_X7_set x y gm) := by
  have r0 := r
  obtain ⟨⟨n, rA⟩, -⟩ := r
  unfold M_X6_set M_X7_set
  rw [within_e]
  by_cases c1 : x < 0
  · rw [if_pos c1, if_pos c1, if_pos rfl]
    exact ref_ans r0 (-2) 2 (vpl (by decide)) (by decide)
  · rw [if_neg c1, if_neg c1]
    by_cases c2 : x < 3
    · rw [if_pos c2]
      rcases three c1 c2 with rfl | rfl | rfl
      · rw [if_neg (show ¬ (2 : Int32) < 0 by decide), if_neg (show ¬ (1 : Int32) = 0 by decide)]
        exact set_2 (i := 0) (m := 39) (b := 39) r0 rA (by decide) rfl rfl (by decide) rfl
      · rw [if_neg (show ¬ (2 : Int32) < 1 by decide), if_neg (show ¬ (1 : Int32) = 0 by decide)]
        exact set_2 (i := 1) (m := 200) (b := 200) r0 rA (by decide) rfl rfl (by decide) rfl
      · rw [if_neg (show ¬ (2 : Int32) < 2 by decide), if_neg (show ¬ (1 : Int32) = 0 by decide)]
        exact set_2 (i := 2) (m := 9) (b := 9) r0 rA (by decide) rfl rfl (by decide) rfl
    · have c3 : 2 < x := by
        rw [i_lt] at c2 ⊢
        have h3 : (3 : Int32).toInt = 3 := rfl
        have h4 : (2 : Int32).toInt = 2 := rfl
        rw [h3] at c2
        rw [h4]; omega
      rw [if_neg c2, if_pos c3, if_pos rfl]
      exact ref_ans r0 (-2) 2 (vpl (by decide)) (by decide)
