/-! A goer told, by both -/
def Ad (V : Vw) (n : Nat) (k f a b t : Int32) : Vw := Up 5 n (Up 4 n (Up 3 n (Up 2 n (Up 1 n V k) f) a) b) t
theorem VOK.ad {V : Vw} {n : Nat} (h : VOK V n) (hn : n < 7) {k f a b t : Int32} (hk : rg 5 k) (hf : rg 9 f) (ha : rg 39 a) (hb : rg 39 b) (ht : rg 11 t) : VOK (Ad V n k f a b t) (n + 1) := by
  refine ⟨hn, h.2.1, h.2.2.1, h.2.2.2.1, fun i hi => ?_⟩
  show rg 5 (upd (V 1) n k i) ∧ rg 9 (upd (V 2) n f i) ∧ rg 39 (upd (V 3) n a i) ∧ rg 39 (upd (V 4) n b i) ∧ rg 11 (upd (V 5) n t i)
  by_cases e : i = n
  · subst e
    rw [upd_at, upd_at, upd_at, upd_at, upd_at]
    exact ⟨hk, hf, ha, hb, ht⟩
  · rw [upd_ne _ _ e, upd_ne _ _ e, upd_ne _ _ e, upd_ne _ _ e, upd_ne _ _ e]
    exact h.2.2.2.2 i (by omega)
theorem Tr.more {V : Vw} {n : Nat} {c1 : Int32} {gc h : Sg} (t : Tr V n c1 gc h) (k : Nat) : Tr V k c1 gc (sI h 17 (nI k)) := by
  obtain ⟨t1, t2, t3, t4, t5⟩ := t
  exact ⟨t1, by rw [sI1, if_pos rfl], by rw [sI1, if_neg (by decide)]; exact t3, t4, t5.1, fun j hj => by rw [sI1, if_neg (by omega)]; exact t5.2.1 j hj, t5.2.2⟩
theorem cAdG {V : Vw} {n : Nat} {gc h : Sg} (t : Tr V n (-1) gc h) (hn : n < 7) {k f a b v : Int32} (ha : ¬ 40 ≤ a) (hb : ¬ 40 ≤ b) (hv : v < 12) : ∃ h1, M_X0_add 17 k f a b v h = some (1, h1) ∧ Tr (Ad V n k f a b v) (n + 1) (-1) gc h1 := by
  have i7 : ∀ q, q ≠ 0 → n < (if q = 0 then 3 else 7) := fun q hq => by rw [if_neg hq]; exact hn
  have hs := t.2.1
  have t1 := t.up (k := 1) (i := n) (by decide) (i7 1 (by decide)) k
  have t2 := t1.up (k := 2) (i := n) (by decide) (i7 2 (by decide)) f
  have t3 := t2.up (k := 3) (i := n) (by decide) (i7 3 (by decide)) a
  have t4 := t3.up (k := 4) (i := n) (by decide) (i7 4 (by decide)) b
  have t5 := t4.up (k := 5) (i := n) (by decide) (i7 5 (by decide)) v
  refine ⟨_, ?_, t5.more (n + 1)⟩
  unfold M_X0_add
  rw [if_neg (show ¬ 7 ≤ h.1 17 by rw [hs]; exact (nI_ge hn (by decide) : ¬ nI 7 ≤ nI n)), if_neg ha, if_neg hb, if_pos hv]
  simp only [lt_eq, sF1, hs, rput7 _ _ hn, nI_1]
theorem cAdG_no {n : Nat} {h : Sg} (hs : h.1 17 = nI n) (hn : n ≤ 7) {k f a b v : Int32} (e : n = 7 ∨ 40 ≤ a ∨ 40 ≤ b ∨ ¬ v < 12) : M_X0_add 17 k f a b v h = some (0, h) := by
  unfold M_X0_add
  by_cases c : 7 ≤ h.1 17
  · rw [if_pos c]
  · rw [if_neg c]
    by_cases c1 : 40 ≤ a
    · rw [if_pos c1]
    · rw [if_neg c1]
      by_cases c2 : 40 ≤ b
      · rw [if_pos c2]
      · rw [if_neg c2]
        by_cases c3 : v < 12
        · exfalso
          rcases e with e | e | e | e
          · rw [hs, e] at c; exact c (by decide)
          · exact c1 e
          · exact c2 e
          · exact e c3
        · rw [if_neg c3]
set_option maxHeartbeats 1000000 in
theorem tellG {L : Nat → Int32} {K p n : Nat} {V : Vw} {gc h m : Sg} (c : Ct L K h) (N : Nq L K p m) (hp : p < K) (hb : (sOne L K p).1 = true) (t : Tr V n (-1) gc h) (hv : VOK V n) (hV : mv m = V) (hs : m.1 0 = nI n) (hL : L p = 103) : Ps L K p V n gc h m (M_X2_tellStatement 17 (nI p) h) (M_X7_statement 1 m) := by
  have h96 := c.2.1
  have hn := hv.1
  obtain ⟨kd, k5, q1, ek, o1, o2, o3, o4, o5⟩ := okG hp hb hL
  have N1 := N.go (show p + 1 ≤ K by omega)
  have N3 := N1.go (show p + 2 ≤ K by omega)
  obtain ⟨r, m1, e, F, N2, R⟩ := mDig (k := 7) (by decide) rfl N3
  have e : M_X7_digits 7 (sI (sI m 2 (nI (p + 1))) 2 (nI (p + 2))) = _ := e
  rw [o1] at N2
  have R2 : r = 1 ∧ ∀ i, i < 7 → m1.2 8 i = L (p + 2 + i) - 48 := Or.elim R (fun w => w.2) (fun w => absurd o1 w.1)
  obtain ⟨r1, d8⟩ := R2
  have F0 : FrN m m1 := ((FrN.at m (nI (p + 1))).trans (FrN.at _ (nI (p + 2)))).trans F
  have hs1 : m1.1 0 = nI n := (F0.2 0 (by decide)).trans hs
  have hV1 : mv m1 = V := F0.mv.trans hV
  have d := dg8 d8 o3
  have oo : ∀ i k, i + k ≤ 7 → ∀ j, j < k → isD (L (p + 2 + i + j)) = true := fun i k hik j hj => by
    have w := o3 (i + j) (by omega)
    rw [← Nat.add_assoc] at w
    exact w
  have n1 : M_X2_number (nI p + 2) 1 h = some (nI (num L (p + 2) 1), h) := cNum c (k := 1) (by decide) (by omega) (oo 0 1 (by decide)) (nI_add p 2) rfl
  have n2 : M_X2_number (nI p + 3) 2 h = some (nI (num L (p + 3) 2), h) := cNum c (k := 2) (by decide) (by omega) (oo 1 2 (by decide)) (nI_add p 3) rfl
  have n3 : M_X2_number (nI p + 5) 2 h = some (nI (num L (p + 5) 2), h) := cNum c (k := 2) (by decide) (by omega) (oo 3 2 (by decide)) (nI_add p 5) rfl
  have n4 : M_X2_number (nI p + 7) 2 h = some (nI (num L (p + 7) 2), h) := cNum c (k := 2) (by decide) (by omega) (oo 5 2 (by decide)) (nI_add p 7) rfl
  have l2 : num L (p + 3) 2 < 100 := num_lt 2 (oo 1 2 (by decide))
  have l3 : num L (p + 5) 2 < 100 := num_lt 2 (oo 3 2 (by decide))
  have l4 : num L (p + 7) 2 < 100 := num_lt 2 (oo 5 2 (by decide))
  have two : ∀ w : Sg, w.2 8 = m1.2 8 → M_X7_two 1 w = some (nI (num L (p + 3) 2), w) ∧ M_X7_two 3 w = some (nI (num L (p + 5) 2), w) ∧ M_X7_two 5 w = some (nI (num L (p + 7) 2), w) := fun w hw => by
    refine ⟨?_, ?_, ?_⟩
    · rw [num2]
      exact mTwo (i := 1) rfl (by decide) (by rw [hw]; exact (d 1 (by decide)).1) (by rw [hw]; exact (d 2 (by decide)).1) (d 1 (by decide)).2 (d 2 (by decide)).2
    · rw [num2]
      exact mTwo (i := 3) rfl (by decide) (by rw [hw]; exact (d 3 (by decide)).1) (by rw [hw]; exact (d 4 (by decide)).1) (d 3 (by decide)).2 (d 4 (by decide)).2
    · rw [num2]
      exact mTwo (i := 5) rfl (by decide) (by rw [hw]; exact (d 5 (by decide)).1) (by rw [hw]; exact (d 6 (by decide)).1) (d 5 (by decide)).2 (d 6 (by decide)).2
  rw [num1] at n1
  have lf : dv (L (p + 2)) ≤ 9 := (d 0 (by decide)).2
  have r8 : ∀ w : Sg, w.2 8 = m1.2 8 → rd w 8 0 = nI (dv (L (p + 2))) := fun w hw => (rdN w 8 (i := 0) (by decide)).trans (by rw [hw]; exact (d 0 (by decide)).1)
  generalize num L (p + 3) 2 = a at n2 l2 two
  generalize num L (p + 5) 2 = b at n3 l3 two
  generalize num L (p + 7) 2 = v at n4 l4 two
  generalize dv (L (p + 2)) = f at n1 lf r8
  have kk : rat h 25 96 (nI p + 1) = L (p + 1) := by rw [nI_1]; exact c.at (by omega)
  have cl : M_X2_tellStatement 17 (nI p) h = bI (M_X0_add 17 (nI kd) (nI f) (nI a) (nI b) (nI v) h) (fun r_33 g_34 => rz r_33 g_34) := by
    unfold M_X2_tellStatement
    rw [c.at hp, hL, if_neg (by decide), if_pos rfl, n1, bI_some, n2, bI_some, n3, bI_some, n4, bI_some, kk, ← sidx_e, ek]
  have st : M_X7_statement 1 m = B_X7_statement_50 1 (nI kd) (sI m 2 (nI (p + 1))) := by
    rw [mG N hp hL 1, if_neg q1, ek]
  rw [cl, st]
  obtain ⟨tw1, tw3, tw5⟩ := two m1 rfl
  unfold B_X7_statement_50
  rw [if_pos (nI_pos' (by omega)), lt_eq, N1.2.2.1, nI_1, e, bI_some, r1, if_neg (show ¬ (1 : Int32) = 0 by decide), if_neg (show ¬ (1 : Int32) = 0 by decide), tw1, bI_some]
  have ge : ∀ {x y : Nat}, x < 1000 → y < 1000 → ((nI x : Int32) ≤ nI y ↔ x ≤ y) := fun {x y} hx hy => nI_leI (by omega) (by omega)
  by_cases za : a ≤ 39
  · rw [cellY za, if_neg (show ¬ (1 : Int32) = 0 by decide), tw3, bI_some]
    by_cases zb : b ≤ 39
    · rw [cellY zb, if_neg (show ¬ (1 : Int32) = 0 by decide), tw5, bI_some]
      by_cases zv : v ≤ 11
      · rw [hourY zv, if_neg (show ¬ (1 : Int32) = 0 by decide), hs1]
        by_cases z7 : n = 7
        · rw [if_pos (show nI n = 7 by rw [z7]; rfl), cAdG_no t.2.1 hn (Or.inl z7), bI_some, rz0]
          exact Or.inl ⟨_, _, rfl, rfl, t, F0⟩
        · have n7 : n < 7 := by omega
          obtain ⟨h1, ea, ta⟩ := cAdG (k := nI kd) (f := nI f) (a := nI a) (b := nI b) (v := nI v) t n7 (nI_ge (show a < 40 by omega) (by decide) : ¬ nI 40 ≤ nI a) (nI_ge (show b < 40 by omega) (by decide) : ¬ nI 40 ≤ nI b) (nI_lt (show v < 12 by omega) (by decide) : nI v < nI 12)
          obtain ⟨w1, hw1⟩ : ∃ w, w = sF m1 1 (upd (m1.2 1) n (nI kd)) := ⟨_, rfl⟩
          have V1 : mv w1 = Up 1 n V (nI kd) := by rw [hw1]; exact mvU hV1 (k := 1) (by decide) (nI kd)
          have s1 : w1.1 = m1.1 := by rw [hw1]; rfl
          have g1 : ∀ j, (j = 0 ∨ 5 < j) → w1.2 j = m1.2 j := fun j hj => by rw [hw1, sF2, if_neg (by omega)]
          obtain ⟨w2, hw2⟩ : ∃ w, w = sF w1 2 (upd (w1.2 2) n (nI f)) := ⟨_, rfl⟩
          have V2 : mv w2 = Up 2 n (Up 1 n V (nI kd)) (nI f) := by rw [hw2]; exact mvU V1 (k := 2) (by decide) (nI f)
          have s2 : w2.1 = m1.1 := by rw [hw2]; exact s1
          have g2 : ∀ j, (j = 0 ∨ 5 < j) → w2.2 j = m1.2 j := fun j hj => by rw [hw2, sF2, if_neg (by omega)]; exact g1 j hj
          obtain ⟨w3, hw3⟩ : ∃ w, w = sF w2 3 (upd (w2.2 3) n (nI a)) := ⟨_, rfl⟩
          have V3 : mv w3 = Up 3 n (Up 2 n (Up 1 n V (nI kd)) (nI f)) (nI a) := by rw [hw3]; exact mvU V2 (k := 3) (by decide) (nI a)
          have s3 : w3.1 = m1.1 := by rw [hw3]; exact s2
          have g3 : ∀ j, (j = 0 ∨ 5 < j) → w3.2 j = m1.2 j := fun j hj => by rw [hw3, sF2, if_neg (by omega)]; exact g2 j hj
          obtain ⟨w4, hw4⟩ : ∃ w, w = sF w3 4 (upd (w3.2 4) n (nI b)) := ⟨_, rfl⟩
          have V4 : mv w4 = Up 4 n (Up 3 n (Up 2 n (Up 1 n V (nI kd)) (nI f)) (nI a)) (nI b) := by rw [hw4]; exact mvU V3 (k := 4) (by decide) (nI b)
          have s4 : w4.1 = m1.1 := by rw [hw4]; exact s3
          have g4 : ∀ j, (j = 0 ∨ 5 < j) → w4.2 j = m1.2 j := fun j hj => by rw [hw4, sF2, if_neg (by omega)]; exact g3 j hj
          obtain ⟨w5, hw5⟩ : ∃ w, w = sF w4 5 (upd (w4.2 5) n (nI v)) := ⟨_, rfl⟩
          have V5 : mv w5 = Ad V n (nI kd) (nI f) (nI a) (nI b) (nI v) := by rw [hw5]; exact mvU V4 (k := 5) (by decide) (nI v)
          have s5 : w5.1 = m1.1 := by rw [hw5]; exact s4
          have g5 : ∀ j, (j = 0 ∨ 5 < j) → w5.2 j = m1.2 j := fun j hj => by rw [hw5, sF2, if_neg (by omega)]; exact g4 j hj
          have hn1 : ∀ w : Sg, w.1 = m1.1 → w.1 0 = nI n := fun w hw => by rw [hw]; exact hs1
          rw [if_neg (show ¬ nI n = 7 from fun e7 => z7 (nI_eq' (by omega) (by decide) (show nI n = nI 7 from e7))), ea, bI_some, rz1, chk_ok (vpN n7 (by decide)), lt_eq, wrN m1 1 (show n < 1000 by omega), ← hw1, hn1 w1 s1, chk_ok (vpN n7 (by decide)), lt_eq, r8 w1 (g1 8 (by omega)), wrN w1 2 (show n < 1000 by omega), ← hw2, (two w2 (g2 8 (by omega))).1, bI_some, hn1 w2 s2, chk_ok (vpN n7 (by decide)), lt_eq, wrN w2 3 (show n < 1000 by omega), ← hw3, (two w3 (g3 8 (by omega))).2.1, bI_some, hn1 w3 s3, chk_ok (vpN n7 (by decide)), lt_eq, wrN w3 4 (show n < 1000 by omega), ← hw4, (two w4 (g4 8 (by omega))).2.2, bI_some, hn1 w4 s4, chk_ok (vpN n7 (by decide)), lt_eq, wrN w4 5 (show n < 1000 by omega), ← hw5, lt_eq, hn1 w5 s5, nI_1]
          refine Or.inr ⟨h1, _, _, n + 1, rfl, rfl, ta, hv.ad n7 (rg_nI (by omega) (by omega)) (rg_nI (by omega) (by omega)) (rg_nI (by omega) (by omega)) (rg_nI (by omega) (by omega)) (rg_nI (by omega) (by omega)), ⟨V5, by rw [sI1, if_pos rfl], fun j hj => by rw [sI2, g5 j (by omega)]; exact F0.1 j (by omega), fun j x1 x2 => by rw [sI1, if_neg x1, s5]; exact F0.2 j x2⟩, ?_⟩
          rw [show (sOne L K p).2 - 1 = p + 2 + 7 by omega]
          exact ⟨by rw [sI1, if_neg (by decide), s5]; exact N2.1, h96, by rw [sI1, if_neg (by decide), s5]; exact N2.2.2.1, by omega, by rw [sI2, g5 7 (by omega)]; exact N2.2.2.2.2⟩
      · rw [hourN zv (by omega), if_pos rfl, cAdG_no t.2.1 hn (Or.inr (Or.inr (Or.inr (nI_nlt (show 12 ≤ v by omega) (by omega) : ¬ nI v < nI 12)))), bI_some, rz0]
        exact Or.inl ⟨_, _, rfl, rfl, t, F0⟩
    · rw [cellN zb (by omega), if_pos rfl, cAdG_no t.2.1 hn (Or.inr (Or.inr (Or.inl ((ge (by decide) (by omega)).mpr (by omega) : nI 40 ≤ nI b)))), bI_some, rz0]
      exact Or.inl ⟨_, _, rfl, rfl, t, F0⟩
  · rw [cellN za (by omega), if_pos rfl, cAdG_no t.2.1 hn (Or.inr (Or.inl ((ge (by decide) (by omega)).mpr (by omega) : nI 40 ≤ nI a))), bI_some, rz0]
    exact Or.inl ⟨_, _, rfl, rfl, t, F0⟩
theorem tellS {L : Nat → Int32} {K p n : Nat} {V : Vw} {gc h m : Sg} (c : Ct L K h) (N : Nq L K p m) (hp : p < K) (hb : (sOne L K p).1 = true) (t : Tr V n (-1) gc h) (hv : VOK V n) (hV : mv m = V) (hs : m.1 0 = nI n) : Ps L K p V n gc h m (M_X2_tellStatement 17 (nI p) h) (M_X7_statement 1 m) := by
  rcases ndN_c (L p) with ⟨a, -⟩ | x | x | x | x | x | x
  · exfalso
    unfold sOne at hb
    rw [if_neg (show ¬ p = K by omega), if_pos a] at hb
    exact Bool.false_ne_true hb
  · exact tellD c N hp hb t hv hV hs x
  · exact tellG c N hp hb t hv hV hs x
  · exact tellH c N hp hb t hv hV hs x
  · exact tellO c N hp hb t hv hV hs x
  · exact tellP c N hp hb t hv hV hs x
  · exact tellX c N hp hb t hv hV hs x
