/-! One statement told, by both -/
def Nv (V : Vw) (n : Nat) (m h : Sg) : Prop := mv h = V ∧ h.1 0 = nI n ∧ (∀ j, (j = 0 ∨ j = 7 ∨ 8 < j) → h.2 j = m.2 j) ∧ (∀ j, j ≠ 0 → j ≠ 2 → h.1 j = m.1 j)
def Ps (L : Nat → Int32) (K p : Nat) (V : Vw) (n : Nat) (gc h m : Sg) (X Y : Option (Int32 × Sg)) : Prop := (∃ h1 m1, X = some (0, h1) ∧ Y = some (0, m1) ∧ Tr V n (-1) gc h1 ∧ FrN m m1) ∨ (∃ h1 m1 V1 n1, X = some (1, h1) ∧ Y = some (1, m1) ∧ Tr V1 n1 (-1) gc h1 ∧ VOK V1 n1 ∧ Nv V1 n1 m m1 ∧ Nq L K ((sOne L K p).2 - 1) m1)
theorem FrN.mv {m h : Sg} (F : FrN m h) : mv h = mv m := mv_fr (fun j hj => F.1 j (by omega))
theorem dg8 {L : Nat → Int32} {q k : Nat} {m1 : Sg} (h : ∀ i, i < k → m1.2 8 i = L (q + i) - 48) (hd : ∀ j, j < k → isD (L (q + j)) = true) : ∀ i, i < k → m1.2 8 i = nI (dv (L (q + i))) ∧ dv (L (q + i)) ≤ 9 := fun i hi => by
  obtain ⟨-, a, b⟩ := dv_e (hd i hi)
  exact ⟨(h i hi).trans b, a⟩
/-- one number written -/
theorem Nv.one {L : Nat → Int32} {K p q : Nat} {V : Vw} {n : Nat} {m m1 : Sg} (F : FrN m m1) (N : Nq L K q m1) (hV : mv m1 = V) (hs : m1.1 0 = nI n) {k i : Nat} (hk : k < 6) (x : Int32) (e : q = (sOne L K p).2 - 1) : Nv (Up k i V x) n m (sF m1 (mk k) (upd (m1.2 (mk k)) i x)) ∧ Nq L K ((sOne L K p).2 - 1) (sF m1 (mk k) (upd (m1.2 (mk k)) i x)) := by
  have hm : 1 ≤ mk k ∧ mk k ≤ 6 := by unfold mk; split <;> omega
  refine ⟨⟨mvU hV hk x, hs, fun j hj => by rw [sF2, if_neg (by omega)]; exact F.1 j (by omega), fun j a b => F.2 j b⟩, ?_⟩
  rw [← e]
  exact ⟨N.1, N.2.1, N.2.2.1, N.2.2.2.1, by rw [sF2, if_neg (by omega)]; exact N.2.2.2.2⟩
theorem tellD {L : Nat → Int32} {K p n : Nat} {V : Vw} {gc h m : Sg} (c : Ct L K h) (N : Nq L K p m) (hp : p < K) (hb : (sOne L K p).1 = true) (t : Tr V n (-1) gc h) (hv : VOK V n) (hV : mv m = V) (hs : m.1 0 = nI n) (hL : L p = 100) : Ps L K p V n gc h m (M_X2_tellStatement 17 (nI p) h) (M_X7_statement 1 m) := by
  have h96 := c.2.1
  obtain ⟨o1, o2, o3, o4, o5⟩ := okO hp hb (k := 1) (by rw [hL]; rfl) (by decide) (by rw [hL]; decide)
  have N1 := N.go (show p + 1 ≤ K by omega)
  have is : ∀ x, ¬ L p = x → M_X7_is x m = some (0, m) := fun x hx => mIs_no N (Or.inr hx)
  obtain ⟨r, m1, e, F, N2, R⟩ := mDig (k := 1) (by decide) rfl N1
  have e : M_X7_digits 1 (sI m 2 (nI (p + 1))) = _ := e
  rw [o1] at N2
  have R2 : r = 1 ∧ ∀ i, i < 1 → m1.2 8 i = L (p + 1 + i) - 48 := Or.elim R (fun w => w.2) (fun w => absurd o1 w.1)
  obtain ⟨r1, d8⟩ := R2
  have F0 := (FrN.at m (nI (p + 1))).trans F
  have d := dg8 d8 o3
  have n1 := cNum c (k := 1) (by decide) (by omega) o3 (nI_1 p) rfl
  have n1 : M_X2_number (nI p + 1) 1 h = _ := n1
  rw [num1] at n1
  have lv : dv (L (p + 1)) ≤ 9 := (d 0 (by decide)).2
  have r8 : rd m1 8 0 = nI (dv (L (p + 1))) := (rdN m1 8 (i := 0) (by decide)).trans (d 0 (by decide)).1
  have st : M_X0_settle 17 2 (nI (dv (L (p + 1)))) h = _ := settle17 (h := h) (i := 2) (x := nI (dv (L (p + 1)))) (m := nI 9) (by decide) rfl (nlit lv (by decide))
  have w6 : wr m1 6 2 (nI (dv (L (p + 1)))) = sF m1 6 (upd (m1.2 6) 2 (nI (dv (L (p + 1))))) := wrN m1 6 (i := 2) (by decide) _
  obtain ⟨nv, nq⟩ := Nv.one (p := p) F0 N2 (F0.mv.trans hV) ((F0.2 0 (by decide)).trans hs) (k := 0) (i := 2) (by decide) (nI (dv (L (p + 1)))) (by omega)
  refine Or.inr ⟨_, _, _, n, ?_, ?_, t.up (k := 0) (i := 2) (by decide) (by decide) (nI (dv (L (p + 1)))), hv.dark (rg_nI (by omega) (by omega)), nv, nq⟩
  · unfold M_X2_tellStatement
    rw [c.at hp, hL, if_pos rfl, n1, bI_some, st, bI_some, rz1]
  · unfold M_X7_statement
    rw [is 103 (by rw [hL]; decide), bI_some, if_pos rfl, is 112 (by rw [hL]; decide), bI_some, if_pos rfl, is 111 (by rw [hL]; decide), bI_some, if_pos rfl, mIs_yes N hp hL, bI_some, if_neg (show ¬ (1 : Int32) = 0 by decide), e, bI_some, r1, if_neg (show ¬ (1 : Int32) = 0 by decide), if_neg (show ¬ (1 : Int32) = 0 by decide), lt_eq, r8, w6]
    rfl
theorem tellP {L : Nat → Int32} {K p n : Nat} {V : Vw} {gc h m : Sg} (c : Ct L K h) (N : Nq L K p m) (hp : p < K) (hb : (sOne L K p).1 = true) (t : Tr V n (-1) gc h) (hv : VOK V n) (hV : mv m = V) (hs : m.1 0 = nI n) (hL : L p = 112) : Ps L K p V n gc h m (M_X2_tellStatement 17 (nI p) h) (M_X7_statement 1 m) := by
  have h96 := c.2.1
  obtain ⟨o1, o2, o3, o4, o5⟩ := okO hp hb (k := 2) (by rw [hL]; rfl) (by decide) (by rw [hL]; decide)
  have N1 := N.go (show p + 1 ≤ K by omega)
  have is : ∀ x, ¬ L p = x → M_X7_is x m = some (0, m) := fun x hx => mIs_no N (Or.inr hx)
  obtain ⟨r, m1, e, F, N2, R⟩ := mDig (k := 2) (by decide) rfl N1
  have e : M_X7_digits 2 (sI m 2 (nI (p + 1))) = _ := e
  rw [o1] at N2
  have R2 : r = 1 ∧ ∀ i, i < 2 → m1.2 8 i = L (p + 1 + i) - 48 := Or.elim R (fun w => w.2) (fun w => absurd o1 w.1)
  obtain ⟨r1, d8⟩ := R2
  have F0 := (FrN.at m (nI (p + 1))).trans F
  have d := dg8 d8 o3
  have n1 := cNum c (k := 2) (by decide) (by omega) o3 (nI_1 p) rfl
  have n1 : M_X2_number (nI p + 1) 2 h = _ := n1
  have lv := num_lt 2 o3
  have tw : M_X7_two 0 m1 = some (nI (num L (p + 1) 2), m1) := by
    rw [num2]
    exact mTwo (i := 0) rfl (by decide) (d 0 (by decide)).1 (d 1 (by decide)).1 (d 0 (by decide)).2 (d 1 (by decide)).2
  generalize num L (p + 1) 2 = v at n1 lv tw
  have lv : v < 100 := lv
  have w6 : wr m1 6 0 (nI v) = sF m1 6 (upd (m1.2 6) 0 (nI v)) := wrN m1 6 (i := 0) (by decide) _
  have cl : M_X2_tellStatement 17 (nI p) h = bI (M_X0_settle 17 0 (nI v) h) (fun r_33 g_34 => rz r_33 g_34) := by
    unfold M_X2_tellStatement
    rw [c.at hp, hL, if_neg (by decide), if_neg (by decide), if_neg (by decide), if_neg (by decide), if_pos rfl, n1, bI_some]
  have rf : M_X7_statement 1 m = (if (V_X7_isCell (nI v) m1) = 0 then some (0, m1) else some (1, sF m1 6 (upd (m1.2 6) 0 (nI v)))) := by
    unfold M_X7_statement
    rw [is 103 (by rw [hL]; decide), bI_some, if_pos rfl, mIs_yes N hp hL, bI_some, if_neg (show ¬ (1 : Int32) = 0 by decide), e, bI_some, r1, if_neg (show ¬ (1 : Int32) = 0 by decide), if_neg (show ¬ (1 : Int32) = 0 by decide), tw, bI_some, tw, bI_some, lt_eq, w6]
  rw [cl, rf]
  by_cases z : v ≤ 39
  · have st : M_X0_settle 17 0 (nI v) h = _ := settle17 (h := h) (i := 0) (x := nI v) (m := nI 39) (by decide) rfl (nlit z (by decide))
    obtain ⟨nv, nq⟩ := Nv.one (p := p) F0 N2 (F0.mv.trans hV) ((F0.2 0 (by decide)).trans hs) (k := 0) (i := 0) (by decide) (nI v) (by omega)
    rw [st, bI_some, rz1, cellY z, if_neg (show ¬ (1 : Int32) = 0 by decide)]
    exact Or.inr ⟨_, _, _, n, rfl, rfl, t.up (k := 0) (i := 0) (by decide) (by decide) (nI v), hv.pump (rg_nI (by omega) (by omega)), nv, nq⟩
  · have st : M_X0_settle 17 0 (nI v) h = _ := settle17_no (h := h) (i := 0) (x := nI v) (m := nI 39) rfl (nI_ge (by omega) (by omega))
    rw [st, bI_some, rz0, cellN z (by omega), if_pos rfl]
    exact Or.inl ⟨_, _, rfl, rfl, t, F0⟩
theorem tellO {L : Nat → Int32} {K p n : Nat} {V : Vw} {gc h m : Sg} (c : Ct L K h) (N : Nq L K p m) (hp : p < K) (hb : (sOne L K p).1 = true) (t : Tr V n (-1) gc h) (hv : VOK V n) (hV : mv m = V) (hs : m.1 0 = nI n) (hL : L p = 111) : Ps L K p V n gc h m (M_X2_tellStatement 17 (nI p) h) (M_X7_statement 1 m) := by
  have h96 := c.2.1
  obtain ⟨o1, o2, o3, o4, o5⟩ := okO hp hb (k := 3) (by rw [hL]; rfl) (by decide) (by rw [hL]; decide)
  have N1 := N.go (show p + 1 ≤ K by omega)
  have is : ∀ x, ¬ L p = x → M_X7_is x m = some (0, m) := fun x hx => mIs_no N (Or.inr hx)
  obtain ⟨r, m1, e, F, N2, R⟩ := mDig (k := 3) (by decide) rfl N1
  have e : M_X7_digits 3 (sI m 2 (nI (p + 1))) = _ := e
  rw [o1] at N2
  have R2 : r = 1 ∧ ∀ i, i < 3 → m1.2 8 i = L (p + 1 + i) - 48 := Or.elim R (fun w => w.2) (fun w => absurd o1 w.1)
  obtain ⟨r1, d8⟩ := R2
  have F0 := (FrN.at m (nI (p + 1))).trans F
  have d := dg8 d8 o3
  have n1 := cNum c (k := 3) (by decide) (by omega) o3 (nI_1 p) rfl
  have n1 : M_X2_number (nI p + 1) 3 h = _ := n1
  have lv := num_lt 3 o3
  have tw : M_X7_two 1 m1 = some (nI (10 * dv (L (p + 1 + 1)) + dv (L (p + 1 + 2))), m1) := mTwo (i := 1) rfl (by decide) (d 1 (by decide)).1 (d 2 (by decide)).1 (d 1 (by decide)).2 (d 2 (by decide)).2
  have r8 : rd m1 8 0 = nI (dv (L (p + 1))) := (rdN m1 8 (i := 0) (by decide)).trans (d 0 (by decide)).1
  have hu : (100 : Int32) * nI (dv (L (p + 1))) + nI (10 * dv (L (p + 1 + 1)) + dv (L (p + 1 + 2))) = nI (num L (p + 1) 3) := by
    rw [num3]
    have x0 : dv (L (p + 1)) ≤ 9 := (d 0 (by decide)).2
    have x1 : dv (L (p + 1 + 1)) ≤ 9 := (d 1 (by decide)).2
    have x2 : dv (L (p + 1 + 2)) ≤ 9 := (d 2 (by decide)).2
    exact hundred (by omega) (by omega)
  generalize num L (p + 1) 3 = v at n1 lv hu
  have lv : v < 1000 := lv
  have w6 : wr m1 6 1 (nI v) = sF m1 6 (upd (m1.2 6) 1 (nI v)) := wrN m1 6 (i := 1) (by decide) _
  have cl : M_X2_tellStatement 17 (nI p) h = bI (M_X0_settle 17 1 (nI v) h) (fun r_33 g_34 => rz r_33 g_34) := by
    unfold M_X2_tellStatement
    rw [c.at hp, hL, if_neg (by decide), if_neg (by decide), if_neg (by decide), if_pos rfl, n1, bI_some]
  have rf : M_X7_statement 1 m = (if nI v ≤ 200 then some (1, sF m1 6 (upd (m1.2 6) 1 (nI v))) else some (0, m1)) := by
    unfold M_X7_statement
    rw [is 103 (by rw [hL]; decide), bI_some, if_pos rfl, is 112 (by rw [hL]; decide), bI_some, if_pos rfl, mIs_yes N hp hL, bI_some, if_neg (show ¬ (1 : Int32) = 0 by decide), e, bI_some, r1, if_neg (show ¬ (1 : Int32) = 0 by decide), if_neg (show ¬ (1 : Int32) = 0 by decide), tw, bI_some, lt_eq, r8, hu, lt_eq, w6]
  rw [cl, rf]
  by_cases z : v ≤ 200
  · have st : M_X0_settle 17 1 (nI v) h = _ := settle17 (h := h) (i := 1) (x := nI v) (m := nI 200) (by decide) rfl (nlit z (by decide))
    obtain ⟨nv, nq⟩ := Nv.one (p := p) F0 N2 (F0.mv.trans hV) ((F0.2 0 (by decide)).trans hs) (k := 0) (i := 1) (by decide) (nI v) (by omega)
    rw [st, bI_some, rz1, if_pos (show nI v ≤ 200 from (nlit z (by decide) : nI v ≤ nI 200))]
    exact Or.inr ⟨_, _, _, n, rfl, rfl, t.up (k := 0) (i := 1) (by decide) (by decide) (nI v), hv.oil (rg_nI (by omega) (by omega)), nv, nq⟩
  · have z2 : ¬ nI v ≤ nI 200 := nI_ge (by omega) (by omega)
    have st : M_X0_settle 17 1 (nI v) h = _ := settle17_no (h := h) (i := 1) (x := nI v) (m := nI 200) rfl z2
    rw [st, bI_some, rz0, if_neg (show ¬ nI v ≤ 200 from z2)]
    exact Or.inl ⟨_, _, rfl, rfl, t, F0⟩
theorem tellH {L : Nat → Int32} {K p n : Nat} {V : Vw} {gc h m : Sg} (c : Ct L K h) (N : Nq L K p m) (hp : p < K) (hb : (sOne L K p).1 = true) (t : Tr V n (-1) gc h) (hv : VOK V n) (hV : mv m = V) (hs : m.1 0 = nI n) (hL : L p = 104) : Ps L K p V n gc h m (M_X2_tellStatement 17 (nI p) h) (M_X7_statement 1 m) := by
  have h96 := c.2.1
  have hn := hv.1
  obtain ⟨o1, o2, o3, o4, o5⟩ := okO hp hb (k := 3) (by rw [hL]; rfl) (by decide) (by rw [hL]; decide)
  have N1 := N.go (show p + 1 ≤ K by omega)
  have is : ∀ x, ¬ L p = x → M_X7_is x m = some (0, m) := fun x hx => mIs_no N (Or.inr hx)
  obtain ⟨r, m1, e, F, N2, R⟩ := mDig (k := 3) (by decide) rfl N1
  have e : M_X7_digits 3 (sI m 2 (nI (p + 1))) = _ := e
  rw [o1] at N2
  have R2 : r = 1 ∧ ∀ i, i < 3 → m1.2 8 i = L (p + 1 + i) - 48 := Or.elim R (fun w => w.2) (fun w => absurd o1 w.1)
  obtain ⟨r1, d8⟩ := R2
  have F0 := (FrN.at m (nI (p + 1))).trans F
  have hs1 : m1.1 0 = nI n := (F0.2 0 (by decide)).trans hs
  have d := dg8 d8 o3
  have n1 := cNum c (k := 1) (p := p + 1) (by decide) (by omega) (fun j hj => o3 j (by omega)) (nI_1 p) rfl
  have n1 : M_X2_number (nI p + 1) 1 h = _ := n1
  have oo : ∀ j, j < 2 → isD (L (p + 2 + j)) = true := fun j hj => by
    have w := o3 (1 + j) (by omega)
    rw [show p + 1 + (1 + j) = p + 2 + j by omega] at w
    exact w
  have n2 := cNum c (k := 2) (p := p + 2) (by decide) (by omega) oo (nI_add p 2) rfl
  have n2 : M_X2_number (nI p + 2) 2 h = _ := n2
  have lv := num_lt 2 oo
  rw [num1] at n1
  have tw : M_X7_two 1 m1 = some (nI (num L (p + 2) 2), m1) := by
    rw [num2]
    exact mTwo (i := 1) rfl (by decide) (d 1 (by decide)).1 (d 2 (by decide)).1 (d 1 (by decide)).2 (d 2 (by decide)).2
  generalize num L (p + 2) 2 = v at n2 lv tw
  have lv : v < 100 := lv
  have la : dv (L (p + 1)) ≤ 9 := (d 0 (by decide)).2
  have r8 : rd m1 8 0 = nI (dv (L (p + 1))) := (rdN m1 8 (i := 0) (by decide)).trans (d 0 (by decide)).1
  generalize dv (L (p + 1)) = a at n1 la r8
  have cl : M_X2_tellStatement 17 (nI p) h = bI (M_X0_changeHour 17 (nI a) (nI v) h) (fun r_33 g_34 => rz r_33 g_34) := by
    unfold M_X2_tellStatement
    rw [c.at hp, hL, if_neg (by decide), if_neg (by decide), if_pos rfl, n1, bI_some, n2, bI_some]
  have rf : M_X7_statement 1 m = (if (V_X7_isGoer (nI a) m1) = 0 then some (0, m1) else (if (V_X7_isHour (nI v) m1) = 0 then some (0, m1) else chk (nI a) 7 (some (1, wr m1 5 (nI a) (nI v))))) := by
    unfold M_X7_statement
    rw [is 103 (by rw [hL]; decide), bI_some, if_pos rfl, is 112 (by rw [hL]; decide), bI_some, if_pos rfl, is 111 (by rw [hL]; decide), bI_some, if_pos rfl, is 100 (by rw [hL]; decide), bI_some, if_pos rfl, is 120 (by rw [hL]; decide), bI_some, if_pos rfl, mIs_yes N hp hL, bI_some, if_neg (show ¬ (1 : Int32) = 0 by decide), e, bI_some, r1, if_neg (show ¬ (1 : Int32) = 0 by decide), if_neg (show ¬ (1 : Int32) = 0 by decide), r8, tw, bI_some, tw, bI_some, r8, lt_eq]
  rw [cl, rf]
  by_cases z : a < n
  · have a7 : a < 7 := by omega
    unfold M_X0_changeHour
    rw [knowY z hn t.2.1, if_neg (show ¬ (1 : Int32) = 0 by decide), goerY z hn hs1, if_neg (show ¬ (1 : Int32) = 0 by decide)]
    by_cases y : v ≤ 11
    · obtain ⟨nv, nq⟩ := Nv.one (p := p) F0 N2 (F0.mv.trans hV) hs1 (k := 5) (i := a) (by decide) (nI v) (by omega)
      rw [if_pos (show nI v < 12 from (nI_lt (show v < 12 by omega) (by decide) : nI v < nI 12)), lt_eq, rput7 _ _ a7, bI_some, rz1, hourY y, if_neg (show ¬ (1 : Int32) = 0 by decide), chk_ok (vpN a7 (by decide)), wrN _ _ (show a < 1000 by omega)]
      exact Or.inr ⟨_, _, _, n, rfl, rfl, t.up (k := 5) (i := a) (by decide) (by rw [if_neg (by decide)]; exact a7) (nI v), hv.hr (rg_nI (by omega) (by omega)), nv, nq⟩
    · rw [if_neg (show ¬ nI v < 12 from (nI_nlt (show 12 ≤ v by omega) (by omega) : ¬ nI v < nI 12)), bI_some, rz0, hourN y (by omega), if_pos rfl]
      exact Or.inl ⟨_, _, rfl, rfl, t, F0⟩
  · unfold M_X0_changeHour
    rw [knowN z (by omega) t.2.1, if_pos rfl, bI_some, rz0, goerN z (by omega) hn hs1, if_pos rfl]
    exact Or.inl ⟨_, _, rfl, rfl, t, F0⟩
theorem tellX {L : Nat → Int32} {K p n : Nat} {V : Vw} {gc h m : Sg} (c : Ct L K h) (N : Nq L K p m) (hp : p < K) (hb : (sOne L K p).1 = true) (t : Tr V n (-1) gc h) (hv : VOK V n) (hV : mv m = V) (hs : m.1 0 = nI n) (hL : L p = 120) : Ps L K p V n gc h m (M_X2_tellStatement 17 (nI p) h) (M_X7_statement 1 m) := by
  have h96 := c.2.1
  have hn := hv.1
  obtain ⟨o1, o2, o3, o4, o5⟩ := okO hp hb (k := 2) (by rw [hL]; rfl) (by decide) (by rw [hL]; decide)
  have N1 := N.go (show p + 1 ≤ K by omega)
  have is : ∀ x, ¬ L p = x → M_X7_is x m = some (0, m) := fun x hx => mIs_no N (Or.inr hx)
  obtain ⟨r, m1, e, F, N2, R⟩ := mDig (k := 2) (by decide) rfl N1
  have e : M_X7_digits 2 (sI m 2 (nI (p + 1))) = _ := e
  rw [o1] at N2
  have R2 : r = 1 ∧ ∀ i, i < 2 → m1.2 8 i = L (p + 1 + i) - 48 := Or.elim R (fun w => w.2) (fun w => absurd o1 w.1)
  obtain ⟨r1, d8⟩ := R2
  have F0 := (FrN.at m (nI (p + 1))).trans F
  have hs1 : m1.1 0 = nI n := (F0.2 0 (by decide)).trans hs
  have hV1 : mv m1 = V := F0.mv.trans hV
  have d := dg8 d8 o3
  have n1 := cNum c (k := 1) (p := p + 1) (by decide) (by omega) (fun j hj => o3 j (by omega)) (nI_1 p) rfl
  have n1 : M_X2_number (nI p + 1) 1 h = _ := n1
  have n2 := cNum c (k := 1) (p := p + 2) (by decide) (by omega) (fun j hj => by
    have w := o3 (1 + j) (by omega)
    rw [show p + 1 + (1 + j) = p + 2 + j by omega] at w
    exact w) (nI_add p 2) rfl
  have n2 : M_X2_number (nI p + 2) 1 h = _ := n2
  rw [num1] at n1 n2
  have la : dv (L (p + 1)) ≤ 9 := (d 0 (by decide)).2
  have lb : dv (L (p + 2)) ≤ 9 := (d 1 (by decide)).2
  have d80 : m1.2 8 0 = nI (dv (L (p + 1))) := (d 0 (by decide)).1
  have d81 : m1.2 8 1 = nI (dv (L (p + 2))) := (d 1 (by decide)).1
  generalize dv (L (p + 1)) = a at n1 la d80
  generalize dv (L (p + 2)) = b at n2 lb d81
  have r80 : rd m1 8 0 = nI a := (rdN m1 8 (i := 0) (by decide)).trans d80
  have r81 : rd m1 8 1 = nI b := (rdN m1 8 (i := 1) (by decide)).trans d81
  have cl : M_X2_tellStatement 17 (nI p) h = bI (M_X0_exchangeHours 17 (nI a) (nI b) h) (fun r_33 g_34 => rz r_33 g_34) := by
    unfold M_X2_tellStatement
    rw [c.at hp, hL, if_neg (by decide), if_neg (by decide), if_neg (by decide), if_neg (by decide), if_neg (by decide), if_pos rfl, n1, bI_some, n2, bI_some]
  have rf : M_X7_statement 1 m = (if (V_X7_isGoer (nI a) m1) = 0 then some (0, m1) else (if (V_X7_isGoer (nI b) m1) = 0 then some (0, m1) else (if nI a = nI b then some (0, m1) else chk (nI a) 7 (lt (rd m1 5 (nI a)) (fun x2_22 => chk (nI b) 7 (chk (nI a) 7 (lt (wr m1 5 (nI a) (rd m1 5 (nI b))) (fun g_23 => chk (rd g_23 8 1) 7 (lt (wr g_23 5 (rd g_23 8 1) x2_22) (fun g_24 => some (1, g_24))))))))))) := by
    unfold M_X7_statement
    rw [is 103 (by rw [hL]; decide), bI_some, if_pos rfl, is 112 (by rw [hL]; decide), bI_some, if_pos rfl, is 111 (by rw [hL]; decide), bI_some, if_pos rfl, is 100 (by rw [hL]; decide), bI_some, if_pos rfl, mIs_yes N hp hL, bI_some, if_neg (show ¬ (1 : Int32) = 0 by decide), e, bI_some, r1, if_neg (show ¬ (1 : Int32) = 0 by decide), if_neg (show ¬ (1 : Int32) = 0 by decide), r80, r81]
  rw [cl, rf]
  by_cases z : a < n
  · unfold M_X0_exchangeHours
    rw [knowY z hn t.2.1, if_neg (show ¬ (1 : Int32) = 0 by decide), goerY z hn hs1, if_neg (show ¬ (1 : Int32) = 0 by decide)]
    by_cases y : b < n
    · rw [knowY y hn t.2.1, if_neg (show ¬ (1 : Int32) = 0 by decide), goerY y hn hs1, if_neg (show ¬ (1 : Int32) = 0 by decide)]
      by_cases w : nI a = nI b
      · rw [if_pos w, if_pos w, bI_some, rz0]
        exact Or.inl ⟨_, _, rfl, rfl, t, F0⟩
      · have a7 : a < 7 := by omega
        have b7 : b < 7 := by omega
        have i7 : ∀ {i : Nat}, i < 7 → i < (if 5 = 0 then 3 else 7) := fun {i} hi => by rw [if_neg (by decide)]; exact hi
        obtain ⟨w1, hw1⟩ : ∃ w1, w1 = sF m1 5 (upd (m1.2 5) a (m1.2 5 b)) := ⟨_, rfl⟩
        have v5 : ∀ j, m1.2 5 j = V 5 j := fun j => congrFun (congrFun hV1 5) j
        have c5 : h.2 23 = V 5 := congrFun t.1 5
        have F1 : ∀ j, j ≠ 5 → w1.2 j = m1.2 j := fun j hj => by rw [hw1, sF2, if_neg hj]
        have V1 : mv w1 = Up 5 a V (V 5 b) := by rw [hw1, v5]; exact mvU hV1 (k := 5) (by decide) (V 5 b)
        have s1 : w1.1 = m1.1 := by rw [hw1]; rfl
        have r81' : rd w1 8 1 = nI b := (rdN w1 8 (i := 1) (by decide)).trans ((congrFun (F1 8 (by decide)) 1).trans d81)
        have t1 : Tr (Up 5 a V (V 5 b)) n (-1) gc (sF h 23 (upd (h.2 23) a (V 5 b))) := t.up (k := 5) (i := a) (by decide) (i7 a7) (V 5 b)
        have t2 := t1.up (k := 5) (i := b) (by decide) (i7 b7) (V 5 a)
        have V2 : mv (sF w1 5 (upd (w1.2 5) b (V 5 a))) = Up 5 b (Up 5 a V (V 5 b)) (V 5 a) := mvU V1 (k := 5) (by decide) (V 5 a)
        have ex : U_X4_exchange (17 + 6) 7 (nI a) (nI b) h = sF (sF h 23 (upd (h.2 23) a (V 5 b))) 23 (upd ((sF h 23 (upd (h.2 23) a (V 5 b))).2 23) b (V 5 a)) := by
          unfold U_X4_exchange
          simp only [rat7 _ _ a7, rat7 _ _ b7, rput7 _ _ a7, rput7 _ _ b7]
          show sF (sF h 23 (upd (h.2 23) a (h.2 23 b))) 23 (upd ((sF h 23 (upd (h.2 23) a (h.2 23 b))).2 23) b (h.2 23 a)) = _
          rw [c5]
        rw [if_neg w, if_neg w, lt_eq, ex, bI_some, rz1, chk_ok (vpN a7 (by decide)), lt_eq, chk_ok (vpN b7 (by decide)), chk_ok (vpN a7 (by decide)), lt_eq, rdN m1 5 (show a < 1000 by omega), rdN m1 5 (show b < 1000 by omega), wrN m1 5 (show a < 1000 by omega), ← hw1, r81', chk_ok (vpN b7 (by decide)), lt_eq, wrN w1 5 (show b < 1000 by omega), v5]
        refine Or.inr ⟨_, _, _, n, rfl, rfl, t2, (hv.hr (hv.2.2.2.2 b y).2.2.2.2).hr (hv.2.2.2.2 a z).2.2.2.2, ⟨V2, by rw [sF1, s1]; exact hs1, fun j hj => by rw [sF2, if_neg (by omega), F1 j (by omega)]; exact F0.1 j (by omega), fun j x1 x2 => by rw [sF1, s1]; exact F0.2 j x2⟩, ?_⟩
        rw [show (sOne L K p).2 - 1 = p + 1 + 2 by omega]
        exact ⟨by rw [sF1, s1]; exact N2.1, h96, by rw [sF1, s1]; exact N2.2.2.1, by omega, by rw [sF2, if_neg (by decide), F1 7 (by decide)]; exact N2.2.2.2.2⟩
    · rw [knowN y (by omega) t.2.1, if_pos rfl, bI_some, rz0, goerN y (by omega) hn hs1, if_pos rfl]
      exact Or.inl ⟨_, _, rfl, rfl, t, F0⟩
  · unfold M_X0_exchangeHours
    rw [knowN z (by omega) t.2.1, if_pos rfl, bI_some, rz0, goerN z (by omega) hn hs1, if_pos rfl]
    exact Or.inl ⟨_, _, rfl, rfl, t, F0⟩
