/-! Lots -/
theorem and_nn (s : Int32) : 0 ≤ (s &&& 2147483647).toInt := by
  have h : (s &&& 2147483647).toBitVec.msb = false := by
    rw [Int32.toBitVec_and, BitVec.msb_and]
    have e : (2147483647 : Int32).toBitVec.msb = false := by decide
    rw [e, Bool.and_false]
  rw [BitVec.msb_eq_toInt] at h
  have h2 := of_decide_eq_false h
  rw [Int32.toInt_toBitVec] at h2
  omega
theorem T_div {x y : Int32} {k : Int} (hx : 0 ≤ x.toInt) (hy : y.toInt = k) (hk : 0 < k) : (x / y).toInt = x.toInt / k := by
  have hne : y ≠ -1 := fun e => by
    rw [e] at hy
    have t1 : (-1 : Int32).toInt = -1 := by decide
    omega
  rw [Int32.toInt_div_of_ne_right _ _ hne, hy, Int.tdiv_eq_ediv_of_nonneg hx]
def hrS (s : Int32) : Int32 := ((s * 1664525 + 1013904223) &&& 2147483647) / 256 - ((s * 1664525 + 1013904223) &&& 2147483647) / 256 / 12 * 12
theorem hrS_b (s : Int32) : rg 11 (hrS s) := by
  unfold hrS
  have hy := and_nn (s * 1664525 + 1013904223)
  generalize ((s * 1664525 + 1013904223) &&& 2147483647) = y at hy
  have hlt := Int32.toInt_lt y
  have e1 : (y / 256).toInt = y.toInt / 256 := T_div hy rfl (by decide)
  have e2 : (y / 256 / 12).toInt = y.toInt / 256 / 12 := by rw [T_div (k := 12) (by rw [e1]; omega) rfl (by decide), e1]
  have t12 : (12 : Int32).toInt = 12 := rfl
  have e3 : (y / 256 / 12 * 12).toInt = y.toInt / 256 / 12 * 12 := by rw [T_mul (by rw [e2, t12]; omega) (by rw [e2, t12]; omega), e2, t12]
  have e4 : (y / 256 - y / 256 / 12 * 12).toInt = y.toInt / 256 - y.toInt / 256 / 12 * 12 := by rw [T_sub (by rw [e1, e3]; omega) (by rw [e1, e3]; omega), e1, e3]
  exact ⟨by rw [e4]; omega, by rw [e4]; omega⟩
def Off (W V : Vw) : Prop := (∀ q, q ≠ 5 → W q = V q) ∧ ∀ j, 7 ≤ j → W 5 j = V 5 j
theorem Off.up {W V : Vw} (h : Off W V) {i : Nat} (hi : i < 7) (x : Int32) : Off (Up 5 i W x) V := by
  refine ⟨fun q hq => ?_, fun j hj => ?_⟩
  · show (if q = 5 then _ else W q) = V q
    rw [if_neg hq]; exact h.1 q hq
  · show upd (W 5) i x j = V 5 j
    rw [upd_ne _ _ (by omega)]; exact h.2 j hj
theorem drawL {V : Vw} {n : Nat} {gc gm : Sg} {x1 x3 x5 x6 x7 : Int32} (kb : Int32 → Int32 → Int32 → Int32 → Int32 → Int32 → Sg → Option (Int32 × Sg)) : ∀ (d j f : Nat) (s : Int32) (h m : Sg) (W : Vw), j + d = n → d < f → Tr W n (-1) gc h → Mt W n gm m → VOK W n → Off W V → ∃ s2 W2 h1 m1, lup2 (B_X0_drawHours_4 17) f s (nI j) h = some (s2, h1) ∧ lup7 (B_X7_lots_70 kb) f x1 x3 s x5 x6 x7 (nI j) m = B_X7_lots_114 kb x1 x3 s2 x5 x6 x7 m1 ∧ Tr W2 n (-1) gc h1 ∧ Mt W2 n gm m1 ∧ VOK W2 n ∧ Off W2 V ∧ m1.2 12 = m.2 12 := by
  intro d
  induction d with
  | zero =>
    intro j f s h m W hj hf t u hv ho
    obtain ⟨f, rfl⟩ : ∃ t, f = t + 1 := ⟨f - 1, by omega⟩
    obtain rfl : j = n := by omega
    have hn := hv.1
    rw [lup2_s, lup7_s]
    generalize lup2 (B_X0_drawHours_4 17) f = l1
    generalize lup7 (B_X7_lots_70 kb) f = l2
    unfold B_X0_drawHours_4 B_X7_lots_70
    rw [t.2.1, u.2.1, if_pos (nI_le (by omega) (by omega)), if_pos (nI_le (by omega) (by omega))]
    exact ⟨s, W, h, m, rfl, rfl, t, u, hv, ho, rfl⟩
  | succ d ih =>
    intro j f s h m W hj hf t u hv ho
    obtain ⟨f, rfl⟩ : ∃ t, f = t + 1 := ⟨f - 1, by omega⟩
    have hn := hv.1
    have hj7 : j < 7 := by omega
    have t0 := t.up (k := 5) (i := j) (by decide) (by rw [if_neg (by decide)]; exact hj7) (hrS s)
    have u0 := u.up (k := 5) (i := j) (by decide) (hrS s)
    obtain ⟨s2, W2, h1, m1, e1, e2, t1, u1, v1, o1, k1⟩ := ih (j + 1) f (s * 1664525 + 1013904223) _ _ _ (by omega) (by omega) t0 u0 (hv.hr (hrS_b s)) (ho.up hj7 _)
    refine ⟨s2, W2, h1, m1, ?_, ?_, t1, u1, v1, o1, ?_⟩
    · rw [lup2_s, ← e1]
      generalize lup2 (B_X0_drawHours_4 17) f = l1
      unfold B_X0_drawHours_4
      rw [t.2.1, if_neg (nI_ge (show j < n by omega) (by omega)), lt_eq, rput7 _ _ hj7, nI_1]
      rfl
    · rw [lup7_s, ← e2]
      generalize lup7 (B_X7_lots_70 kb) f = l1
      unfold B_X7_lots_70
      rw [u.2.1, if_neg (nI_ge (show j < n by omega) (by omega)), chk_ok (vpN hj7 (by decide)), lt_eq, wrN _ _ (by omega), nI_1]
      rfl
    · rw [k1, sF2, if_neg (by decide)]
theorem Mt.costF {V : Vw} {n : Nat} {gm h : Sg} (t : Mt V n gm h) (hv : VOK V n) : ∃ h1, M_X7_costNow h = some (co V n 1 (-1), h1) ∧ Mt V n gm h1 ∧ h1.2 12 = h.2 12 ∧ h1.2 14 0 = lampE V n 11 := by
  obtain ⟨h1, e, R, F⟩ := mRunAll (-1) (n := n) (g := h) (by rw [t.1]; exact hv) t.2.1
  rw [t.1] at R
  refine ⟨h1, ?_, t.fr F, F.1 12 (by omega), R.1.1.2.1.1⟩
  unfold M_X7_costNow
  rw [e, bV_some, mCost (F.mv.trans t.1) (nodupH V no n 12 (by decide)) (seq7 hv) R.1, bI_some]
  rfl
theorem lotsL {V : Vw} {n N : Nat} {gc gm : Sg} {K : Nat → Int32} {x3 : Int32} (hN : N < 100) (hV : ∀ k, 6 ≤ k → V k = fun _ => 0) (hK : Kp V n K) : ∀ (d k f : Nat) (s x5 x6 : Int32) (h m : Sg) (W : Vw), k + d = N → d < f → Tr W n (-1) gc h → Mt W n gm m → VOK W n → Off W V → m.2 12 = K → ∃ r h1 m1, lup6 B_X6_lots_64 f (nI N) x3 s x5 x6 (nI k) h = some (r, h1) ∧ lup6 B_X7_lots_61 f (nI N) x3 s x5 x6 (nI k) m = some (r, m1) ∧ QC gc h1 ∧ Mt V n gm m1 := by
  intro d
  induction d with
  | zero =>
    intro k f s x5 x6 h m W hk hf t u hv ho h12
    obtain ⟨f, rfl⟩ : ∃ t, f = t + 1 := ⟨f - 1, by omega⟩
    obtain rfl : k = N := by omega
    rw [lup6_s, lup6_s]
    generalize lup6 B_X6_lots_64 f = l1
    generalize lup6 B_X7_lots_61 f = l2
    have mW : ∀ q, mv m q = W q := fun q => congrFun u.1 q
    obtain ⟨m1, e, a1, a2, a3, a4⟩ := mAgain (k1 := 12) (V := V) (n := n) (g := m) (by decide) hV (by rw [h12]; exact hK) (fun j hj => by
      have hj : 7 ≤ j := by omega
      refine ⟨?_, ?_, ?_, ?_, ?_⟩
      · exact congrFun ((mW 1).trans (ho.1 1 (by decide))) j
      · exact congrFun ((mW 2).trans (ho.1 2 (by decide))) j
      · exact congrFun ((mW 3).trans (ho.1 3 (by decide))) j
      · exact congrFun ((mW 4).trans (ho.1 4 (by decide))) j
      · exact (congrFun (mW 5) j).trans (ho.2 j hj)) (fun j hj => congrFun ((mW 0).trans (ho.1 0 (by decide))) j)
    have s1 : Mt V n gm m1 := ⟨a1, a2, fun j hj => (a3 j (by omega)).trans (u.2.2.1 j hj), fun j hj => by
      by_cases c : j = 0
      · subst c; rw [a2, ← u.2.1]; exact u.2.2.2 0 (by omega)
      · rw [a4 j c]; exact u.2.2.2 j hj⟩
    unfold B_X6_lots_64 B_X7_lots_61
    rw [if_pos (nI_le (by omega) (by omega)), if_pos (nI_le (by omega) (by omega))]
    unfold B_X6_lots_123 B_X7_lots_147
    rw [e, bV_some]
    by_cases c : x3 = 0
    · rw [if_pos c, if_pos c]; exact ⟨x5, h, m1, rfl, rfl, t.2.2.2.2, s1⟩
    · rw [if_neg c, if_neg c]; exact ⟨x6, h, m1, rfl, rfl, t.2.2.2.2, s1⟩
  | succ d ih =>
    intro k f s x5 x6 h m W hk hf t u hv ho h12
    obtain ⟨f, rfl⟩ : ∃ t, f = t + 1 := ⟨f - 1, by omega⟩
    have hkN : k < N := by omega
    have hn := hv.1
    rw [lup6_s, lup6_s]
    have ee := fun s x5 x6 h m W t u hv ho h12 => ih (k + 1) f s x5 x6 h m W (by omega) (by omega) t u hv ho h12
    generalize lup6 B_X6_lots_64 f = l1 at ee ⊢
    generalize lup6 B_X7_lots_61 f = l2 at ee ⊢
    obtain ⟨s2, W2, h1, m1, e1, e2, t1, u1, v1, o1, k1⟩ := drawL (V := V) (x1 := nI N) (x3 := x3) (x5 := x5) (x6 := x6) (x7 := nI k) l2 n 0 FU s h m W (by omega) (by unfold FU; omega) t u hv ho
    have e1 : M_X0_drawHours 17 s h = _ := e1
    have e2 : lup7 (B_X7_lots_70 l2) FU (nI N) x3 s x5 x6 (nI k) 0 m = _ := e2
    obtain ⟨h2, c2, t2, A2⟩ := t1.by v1.1
    obtain ⟨m2, d2, u2, k2, L2⟩ := u1.costF v1
    rw [lamps1] at c2 A2
    have f1 : V_X5_firstLamp h2 = lampE W2 n 11 := (cFL h2).trans A2.2.1.1
    have f2 : V_X0_pump 17 h2 = W2 0 0 := (cPump h2 17).trans (congrFun (congrFun t2.1 0) 0)
    have f3 : rd m2 14 0 = lampE W2 n 11 := (rdN m2 14 (i := 0) (by decide)).trans L2
    have f4 : rd m2 6 0 = W2 0 0 := (rdN m2 6 (i := 0) (by decide)).trans (congrFun (congrFun u2.1 0) 0)
    unfold B_X6_lots_64 B_X7_lots_61
    rw [if_neg (nI_ge hkN (by omega)), if_neg (nI_ge hkN (by omega)), e1, bI_some, c2, bI_some, f1, f2, e2]
    unfold B_X7_lots_114
    rw [d2, bI_some, f3, f4, nI_1]
    have h3 : m2.2 12 = K := k2.trans (k1.trans h12)
    by_cases c : lampE W2 n 11 = W2 0 0
    · rw [if_pos c, if_pos c]; exact ee _ _ _ _ _ _ t2 u2 v1 o1 h3
    · rw [if_neg c, if_neg c]; exact ee _ _ _ _ _ _ t2 u2 v1 o1 h3
theorem lots1 {gc gm : Sg} {x y z : Int32} {n : Nat} (r : Rel gc gm) (rA : RelA gc gm n) (h1 : 1 ≤ x) (h2 : x ≤ 20) : Ans Rel (lt (U_X0_becomeLike 17 3 gc) (fun g_1 => lup6 (B_X6_lots_64) FU x z y 0 0 0 g_1)) (bV (M_X7_keep 12 39 gm) (fun g_1 => lup6 (B_X7_lots_61) FU x z y 0 0 0 g_1)) := by
  obtain ⟨h, e, t⟩ := tri2 rA
  obtain ⟨m, em, m1, m2, m3⟩ := mKeep (k1 := 12) (by decide) rA.2.2.1
  have t1 : (1 : Int32).toInt = 1 := rfl
  have t20 : (20 : Int32).toInt = 20 := rfl
  rw [i_le, t1] at h1
  rw [i_le, t20] at h2
  obtain ⟨N, hN, rfl⟩ := i_rg (x := x) (k := 21) (by decide) (by omega) (by show _ < (21 : Int); omega)
  have s0 : Mt (mv gm) n gm m := ⟨mv_fr (fun j hj => m2 j (by omega)), by rw [m3]; exact rA.2.2.1, fun j hj => m2 j (by omega), fun j _ => by rw [m3]⟩
  obtain ⟨w, h3, m4, c1, c2, q1, s1⟩ := lotsL (V := mv gm) (n := n) (N := N) (x3 := z) (K := m.2 12) (by omega) (fun k hk => by unfold mv; rw [if_neg (by omega), if_neg (by omega)]) m1 N 0 FU y 0 0 h m (mv gm) (by omega) (by unfold FU; omega) t s0 rA.1 ⟨fun _ _ => rfl, fun _ _ => rfl⟩ rfl
  have c1 : lup6 B_X6_lots_64 FU (nI N) z y 0 0 0 h = _ := c1
  have c2 : lup6 B_X7_lots_61 FU (nI N) z y 0 0 0 m = _ := c2
  rw [lt_eq, e, em, bV_some, c1, c2]
  exact Ans.q r q1 s1.q
theorem op_lots (gc gm : Sg) (x y z : Int32) (r : Rel gc gm) : Ans Rel (M_X6_lots x y z gc) (M_X7_lots x y z gm) := by
  have r0 := r
  obtain ⟨⟨n, rA⟩, -⟩ := r
  unfold M_X6_lots M_X7_lots
  rw [within_e]
  by_cases c1 : 1 ≤ x
  · rw [if_pos c1, if_pos c1]
    by_cases c2 : x ≤ 20
    · rw [if_pos c2, if_pos c2]
      by_cases z0 : z = 0
      · subst z0
        rw [if_pos rfl, if_neg (by decide)]
        exact lots1 r0 rA c1 c2
      · rw [if_neg z0]
        by_cases z1 : z = 1
        · subst z1
          rw [if_pos rfl, if_neg (by decide)]
          exact lots1 r0 rA c1 c2
        · have hw : (if z < 0 then (0 : Int32) else if 1 < z then 0 else 1) = 0 := by
            by_cases a : z < 0
            · rw [if_pos a]
            · rw [if_neg a]
              by_cases b : 1 < z
              · rw [if_pos b]
              · exfalso
                rw [i_lt, T_0] at a
                rw [i_lt] at b
                have t1 : (1 : Int32).toInt = 1 := rfl
                rw [t1] at b
                rcases (show z.toInt = 0 ∨ z.toInt = 1 by omega) with c | c
                · exact z0 (i_eq c)
                · exact z1 (i_eq c)
          rw [if_neg z1, if_pos hw]
          exact ref_ans r0 (-2) 2 (vpl (by decide)) (by decide)
    · rw [if_neg c2, if_neg c2]
      exact ref_ans r0 (-6) 6 (vpl (by decide)) (by decide)
  · rw [if_neg c1, if_neg c1]
    exact ref_ans r0 (-4) 4 (vpl (by decide)) (by decide)
