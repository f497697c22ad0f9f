/-! The night, both -/
def NmR (gm m : Sg) : Prop := (∀ j, (j = 0 ∨ j = 7 ∨ 8 < j) → m.2 j = gm.2 j) ∧ (∀ j, j ≠ 0 → j ≠ 2 → m.1 j = gm.1 j)
theorem NmR.trans {g h k : Sg} (a : NmR g h) (b : NmR h k) : NmR g k := ⟨fun j hj => (b.1 j hj).trans (a.1 j hj), fun j x y => (b.2 j x y).trans (a.2 j x y)⟩
theorem NmR.at (m : Sg) (x : Int32) : NmR m (sI m 2 x) := ⟨fun _ _ => rfl, fun j _ y => by rw [sI1, if_neg y]⟩
theorem Ct.q {L : Nat → Int32} {K : Nat} {gc h : Sg} (c : Ct L K gc) (q : QC gc h) : Ct L K h := ⟨by rw [q.2.1 24 (by omega)]; exact c.1, c.2.1, fun j hj => by rw [q.1 25 (by omega)]; exact c.2.2 j hj⟩
theorem Tr.qc {V : Vw} {n : Nat} {c1 : Int32} {gc h : Sg} (t : Tr V n c1 gc h) : QC gc h := t.2.2.2.2
theorem sOne_59 {L : Nat → Int32} {K p : Nat} (hp : p < K) (hb : (sOne L K p).1 = true) : L ((sOne L K p).2 - 1) = 59 ∧ (sOne L K p).2 ≤ K ∧ p < (sOne L K p).2 := by
  have gt := sOne_gt hb
  by_cases h3 : L p = 103
  · obtain ⟨kd, -, -, -, -, a, -, b, e⟩ := okG hp hb h3
    rw [e, Nat.add_sub_cancel]
    exact ⟨b, by omega, by omega⟩
  · by_cases z : ndN (L p) = 0
    · exfalso
      unfold sOne at hb
      rw [if_neg (show ¬ p = K by omega), if_pos z] at hb
      exact Bool.false_ne_true hb
    · obtain ⟨-, a, -, b, e⟩ := okO hp hb rfl z h3
      rw [e, Nat.add_sub_cancel]
      exact ⟨b, by omega, by omega⟩
theorem tellAll {L : Nat → Int32} {K : Nat} {gc gm : Sg} (c : Ct L K gc) : ∀ (s p k f1 f2 : Nat) (h m : Sg) (V : Vw) (n : Nat), Gr L K s p → k ≤ p → p ≤ K → K - p < f1 → K - p < f2 → Tr V n (-1) gc h → VOK V n → mv m = V → m.1 0 = nI n → Nq L K p m → NmR gm m → (∃ x h1 m1 V1 n1, x ≤ 96 ∧ lup2 (B_X2_tellTo_21 17) f1 (nI p) (nI k) h = some (nI x, h1) ∧ lup1 B_X7_night_86 f2 (nI k) m = some (nI x, sI m1 1 0) ∧ Tr V1 n1 (-1) gc h1 ∧ VOK V1 n1 ∧ mv m1 = V1 ∧ m1.1 0 = nI n1 ∧ NmR gm m1) ∨ (∃ q h1 m1 V1 n1, q ≤ 96 ∧ lup2 (B_X2_tellTo_21 17) f1 (nI p) (nI k) h = some ((-2000) - nI q, h1) ∧ lup1 B_X7_night_86 f2 (nI k) m = B_X7_night_110 (nI q) m1 ∧ Tr V1 n1 (-1) gc h1 ∧ mv m1 = V1 ∧ NmR gm m1) := by
  have h96 := c.2.1
  intro s
  induction s with
  | zero =>
    intro p k f1 f2 h m V n G kp pK hf1 hf2 t hv hV hs N F
    obtain ⟨f1, rfl⟩ : ∃ t, f1 = t + 1 := ⟨f1 - 1, by omega⟩
    obtain ⟨f2, rfl⟩ : ∃ t, f2 = t + 1 := ⟨f2 - 1, by omega⟩
    have G : p = K := G
    have ch := c.q t.qc
    refine Or.inl ⟨k, h, m, V, n, by omega, ?_, ?_, t, hv, hV, hs, F⟩
    · rw [lup2_s]
      generalize lup2 (B_X2_tellTo_21 17) f1 = self
      unfold B_X2_tellTo_21
      by_cases z : 96 ≤ nI k
      · rw [if_pos z]
      · rw [if_neg z, ch.1, if_pos (nI_le (by omega) (by omega))]
    · rw [lup1_s]
      generalize lup1 B_X7_night_86 f2 = self
      unfold B_X7_night_86
      rw [N.1, N.2.2.1, if_pos (nI_le (by omega) (by omega)), lt_eq]
  | succ s ih =>
    intro p k f1 f2 h m V n G kp pK hf1 hf2 t hv hV hs N F
    obtain ⟨f1, rfl⟩ : ∃ t, f1 = t + 1 := ⟨f1 - 1, by omega⟩
    obtain ⟨f2, rfl⟩ : ∃ t, f2 = t + 1 := ⟨f2 - 1, by omega⟩
    obtain ⟨hp, hb, G⟩ := G
    have ch := c.q t.qc
    obtain ⟨y1, y2, y3⟩ := sOne_59 hp hb
    have k96 : ¬ 96 ≤ nI k := (nI_ge (show k < 96 by omega) (by decide) : ¬ nI 96 ≤ nI k)
    rcases tellS ch N hp hb t hv hV hs with ⟨h1, m1, e1, e2, t1, F1⟩ | ⟨h1, m1, V1, n1, e1, e2, t1, hv1, F1, N1⟩
    · refine Or.inr ⟨p, h1, m1, V, n, by omega, ?_, ?_, t1, F1.mv.trans hV, F.trans ⟨fun j hj => F1.1 j (by omega), fun j _ y => F1.2 j y⟩⟩
      · rw [lup2_s]
        generalize lup2 (B_X2_tellTo_21 17) f1 = self
        unfold B_X2_tellTo_21
        rw [if_neg k96, ch.1, if_neg (nI_ge hp (by omega)), e1, bI_some, if_pos rfl]
      · rw [lup1_s]
        generalize lup1 B_X7_night_86 f2 = self
        unfold B_X7_night_86
        rw [N.1, N.2.2.1, if_neg (nI_ge hp (by omega)), e2, bI_some, if_pos rfl]
    · have ch1 := c.q t1.qc
      have ez : (sOne L K p).2 - 1 + 1 = (sOne L K p).2 := by omega
      have is := mIs_yes N1 (show (sOne L K p).2 - 1 < K by omega) y1
      rw [ez] at is
      have step1 : lup2 (B_X2_tellTo_21 17) (f1 + 1) (nI p) (nI k) h = lup2 (B_X2_tellTo_21 17) f1 (nI (sOne L K p).2) (nI (k + 1)) h1 := by
        rw [lup2_s]
        generalize lup2 (B_X2_tellTo_21 17) f1 = self
        unfold B_X2_tellTo_21
        rw [if_neg k96, ch.1, if_neg (nI_ge hp (by omega)), e1, bI_some, if_neg (show ¬ (1 : Int32) = 0 by decide), lt_eq, ch1.at hp, len_e h96 hp hb, nI_1]
      have step2 : lup1 B_X7_night_86 (f2 + 1) (nI k) m = lup1 B_X7_night_86 f2 (nI (k + 1)) (sI m1 2 (nI (sOne L K p).2)) := by
        rw [lup1_s]
        generalize lup1 B_X7_night_86 f2 = self
        unfold B_X7_night_86
        rw [N.1, N.2.2.1, if_neg (nI_ge hp (by omega)), e2, bI_some, if_neg (show ¬ (1 : Int32) = 0 by decide), is, bI_some, nI_1]
      rw [step1, step2]
      exact ih (sOne L K p).2 (k + 1) f1 f2 h1 (sI m1 2 (nI (sOne L K p).2)) V1 n1 G (by omega) y2 (by omega) (by omega) t1 hv1 F1.1 F1.2.1 (N1.go y2) (F.trans (NmR.trans ⟨F1.2.2.1, F1.2.2.2⟩ (NmR.at m1 _)))
theorem Rel.night {gc gm hc hm : Sg} {V : Vw} {n : Nat} (r : Rel gc gm) (hv : VOK V n) (a1 : cv hc 3 = V) (a2 : hc.1 3 = nI n) (a3 : hc.1 4 = -1) (z3 : ZA hc 3) (z17 : ZA hc 17) (fa : ∀ j, (j ≤ 3 ∨ (10 ≤ j ∧ j < 17)) → hc.2 j = gc.2 j) (fi : ∀ j, (j < 3 ∨ j = 10 ∨ j = 11) → hc.1 j = gc.1 j) (l : hc.1 24 = 0) (b1 : mv hm = V) (b2 : hm.1 0 = nI n) (ga : ∀ j, (j = 9 ∨ j = 10 ∨ j = 11) → hm.2 j = gm.2 j) (gi : ∀ j, (j = 3 ∨ j = 4) → hm.1 j = gm.1 j) (l2 : hm.1 1 = 0) : Rel hc hm := by
  obtain ⟨⟨k, r1, r2, r3, r4, r5, r6, r7, r8⟩, rL, rR, rF, rI1, rI2⟩ := r
  refine ⟨⟨n, by rw [b1]; exact hv, a2, b2, a3, by rw [a1, b1], z3, r7.fr (fun j x y => fa j (by omega)), z17⟩, ⟨0, by omega, l, l2, fun j hj => absurd hj (Nat.not_lt_zero j)⟩, ?_, ?_, ?_, ?_⟩
  · obtain ⟨k, k1, k2, k3, k4⟩ := rR
    exact ⟨k, k1, by rw [fi 0 (by omega)]; exact k2, by rw [gi 3 (by omega)]; exact k3, fun j hj => by rw [fa 1 (by omega), ga 9 (by omega)]; exact k4 j hj⟩
  · exact fun j hj => by rw [fa 2 (by omega), ga 10 (by omega)]; exact rF j hj
  · rw [fi 1 (by omega), gi 4 (by omega)]; exact rI1
  · have e10 : cv hc 10 = cv gc 10 := cv_fr2 (fun j x y => fa j (by omega))
    rw [gi 4 (by omega), e10, fi 10 (by omega), fi 11 (by omega), ga 11 (by omega)]
    exact rI2
theorem zV {h : Sg} {a : Nat} {V : Vw} (hV : cv h a = V) (z : ZA h a) : (∀ k, 1 ≤ k → k < 6 → ∀ j, 7 ≤ j → V k j = 0) ∧ (∀ j, 3 ≤ j → V 0 j = 0) := by
  subst hV
  refine ⟨fun k h1 h2 j hj => ?_, fun j hj => z.1 j hj⟩
  unfold cv
  rw [if_pos h2]
  exact z.2 (k + 1) (by omega) (by omega) j hj
theorem neg1000 {q : Nat} (hq : q ≤ 96) : (-1000) - nI q < 0 := by
  have t : (-1000 : Int32).toInt = -1000 := by decide
  rw [i_lt, T_sub (by rw [t, T_nI (by omega)]; omega) (by rw [t, T_nI (by omega)]; omega), t, T_nI (by omega), T_0]
  omega
theorem neg2000 {q : Nat} (hq : q ≤ 96) : (-2000) - nI q < 0 := by
  have t : (-2000 : Int32).toInt = -2000 := by decide
  rw [i_lt, T_sub (by rw [t, T_nI (by omega)]; omega) (by rw [t, T_nI (by omega)]; omega), t, T_nI (by omega), T_0]
  omega
theorem op_night (gc gm : Sg) (r : Rel gc gm) : Ans Rel (M_X6_night gc) (M_X7_night gm) := by
  have r0 := r
  obtain ⟨⟨n, rA⟩, ⟨K, k1, k2, k3, k4⟩, -⟩ := r
  have hv := rA.1
  have hn := hv.1
  obtain ⟨h0, e0, t0⟩ := tri2 rA
  have c : Ct (gm.2 7) K gc := ⟨k2, k1, k4⟩
  have c0 : Ct (gm.2 7) K h0 := c.q t0.qc
  obtain ⟨m0, hm0⟩ : ∃ m0, m0 = sI gm 2 0 := ⟨_, rfl⟩
  have m02 : m0.2 = gm.2 := by rw [hm0]; rfl
  have m01 : ∀ j, j ≠ 2 → m0.1 j = gm.1 j := fun j hj => by rw [hm0, sI1, if_neg hj]
  have N0 : Nq (gm.2 7) K 0 m0 := ⟨by rw [m01 1 (by decide)]; exact k3, k1, by rw [hm0, sI1, if_pos rfl]; rfl, by omega, by rw [m02]⟩
  have main : (∃ q m1, lup3 B_X2_firstOutOfPlace_6 FU 0 0 (nI 0) h0 = some (nI q, h0) ∧ lup1 B_X7_night_7 FU 1 m0 = B_X7_night_53 0 m1 ∧ Nq (gm.2 7) K q m1 ∧ FrN m0 m1) ∨ (∃ s m1, lup3 B_X2_firstOutOfPlace_6 FU 0 0 (nI 0) h0 = some (-1, h0) ∧ lup1 B_X7_night_7 FU 1 m0 = B_X7_night_53 1 m1 ∧ Nq (gm.2 7) K K m1 ∧ FrN m0 m1 ∧ Gr (gm.2 7) K s 0) := by
    by_cases z : K = 0
    · subst z
      refine Or.inl ?_
      obtain ⟨m1, e, N1, F⟩ := mOne N0 (lup1 B_X7_night_7 999)
      have so : sOne (gm.2 7) 0 0 = (false, 0) := if_pos rfl
      rw [so] at e N1
      refine ⟨0, m1, ?_, ?_, N1, F⟩
      · rw [FU_s, lup3_s]
        generalize lup3 B_X2_firstOutOfPlace_6 999 = self
        unfold B_X2_firstOutOfPlace_6
        rw [c0.1, if_pos (nI_le (by omega) (by omega))]
        unfold B_X2_firstOutOfPlace_126
        rw [c0.1, if_pos (show nI 0 = 0 from rfl)]
      · rw [FU_s, lup1_s, e, if_neg (fun h => Bool.false_ne_true h), show (999 : Nat) = 998 + 1 from rfl, lup1_s, night7z]
    · exact look c0 K 0 FU FU m0 (by omega) (by omega) (by unfold FU; omega) (by unfold FU; omega) N0
  unfold M_X6_night M_X7_night
  rw [lt_eq, e0, lt_eq, ← hm0]
  unfold M_X2_tellTo M_X2_firstOutOfPlace
  rcases main with ⟨q, m1, e1, e2, N1, F⟩ | ⟨s, m1, e1, e2, N1, F, G⟩
  · have e1 : lup3 B_X2_firstOutOfPlace_6 FU 0 0 0 h0 = _ := e1
    have q96 : q ≤ 96 := by have := N1.2.2.2.1; omega
    rw [e1, bI_some, if_neg (nm1 (by omega)), bI_some, if_pos (neg1000 q96), lt_eq, e2]
    unfold B_X7_night_53
    rw [if_pos rfl, lt_eq, sI1, if_neg (show ¬ (2 : Nat) = 1 by decide), N1.2.2.1]
    refine ⟨_, _, _, rfl, rfl, Rel.night (n := n) r0 hv ?_ ?_ ?_ ?_ t0.2.2.2.1 (fun j hj => t0.qc.1 j (by omega)) (fun j hj => by rw [sI1, if_neg (by omega)]; exact t0.qc.2.1 j (by omega)) (by rw [sI1, if_pos rfl]) (F.mv.trans (mv_fr (fun j _ => by rw [m02]))) ?_ (fun j hj => by rw [sI2, F.1 j (by omega), m02]) (fun j hj => by rw [sI1, if_neg (by omega), F.2 j (by omega), m01 j (by omega)]) (by rw [sI1, if_pos rfl])⟩
    · exact (t0.qc.cv3).trans rA.2.2.2.2.1
    · rw [sI1, if_neg (by decide), t0.qc.2.1 3 (by omega)]; exact rA.2.1
    · rw [sI1, if_neg (by decide), t0.qc.2.1 4 (by omega)]; exact rA.2.2.2.1
    · exact ZA.fr (g := gc) (fun j x y => t0.qc.1 j (by omega)) rA.2.2.2.2.2.1
    · rw [sI1, if_neg (by decide), F.2 0 (by decide), m01 0 (by decide)]; exact rA.2.2.1
  · have e1 : lup3 B_X2_firstOutOfPlace_6 FU 0 0 0 h0 = _ := e1
    have s1 : m1.1 0 = nI n := by rw [F.2 0 (by decide), m01 0 (by decide)]; exact rA.2.2.1
    have V1 : mv m1 = mv gm := F.mv.trans (mv_fr (fun j _ => by rw [m02]))
    obtain ⟨mk1, ek, Kk, fk, ik⟩ := mKeep (k1 := 12) (by decide) (n := n) (g := m1) s1
    obtain ⟨m2, hm2⟩ : ∃ m2, m2 = sI mk1 2 0 := ⟨_, rfl⟩
    have b2 : ∀ j, j ≠ 8 → j ≠ 12 → m2.2 j = gm.2 j := fun j x y => by rw [hm2, sI2, fk j y, F.1 j x, m02]
    have b1 : ∀ j, j ≠ 2 → m2.1 j = gm.1 j := fun j x => by rw [hm2, sI1, if_neg x, ik, F.2 j x, m01 j x]
    have V2 : mv m2 = mv gm := mv_fr (fun j hj => b2 j (by omega) (by omega))
    have N2 : Nq (gm.2 7) K 0 m2 := ⟨by rw [b1 1 (by decide)]; exact k3, k1, by rw [hm2, sI1, if_pos rfl]; rfl, by omega, b2 7 (by decide) (by decide)⟩
    have K2 : Kp (mv gm) n (m2.2 12) := by rw [hm2, sI2, ← V1]; exact Kk
    rw [e1, bI_some, if_pos rfl, e2]
    unfold B_X7_night_53
    rw [if_neg (show ¬ (1 : Int32) = 0 by decide), ek, bV_some, lt_eq, ← hm2]
    rcases tellAll (gm := m2) c s 0 0 FU FU h0 m2 (mv gm) n G (by omega) (by omega) (by unfold FU; omega) (by unfold FU; omega) t0 hv V2 (by rw [b1 0 (by decide)]; exact rA.2.2.1) N2 ⟨fun _ _ => rfl, fun _ _ _ => rfl⟩ with ⟨x, h1, m3, W, n1, x96, d1, d2, t1, hv1, V3, s3, F3⟩ | ⟨q, h1, m3, W, n1, q96, d1, d2, t1, V3, F3⟩
    · have d1 : lup2 (B_X2_tellTo_21 17) FU 0 0 h0 = _ := d1
      have d2 : lup1 B_X7_night_86 FU 0 m2 = _ := d2
      have z3 : ZA h1 3 := ZA.fr (g := gc) (fun j x y => t1.qc.1 j (by omega)) rA.2.2.2.2.2.1
      obtain ⟨h2, eh, a1, a2, a3, a4, a5, a6⟩ := beL (a := 3) (b := 17) (g := h1) (by omega) z3 t1.2.2.2.1
      rw [d1, bI_some, if_neg (nI_pos (by omega)), lt_eq, eh, lt_eq, d2]
      refine ⟨_, _, _, rfl, rfl, Rel.night (n := n1) r0 hv1 (a1.trans t1.1) ?_ ?_ a2 ?_ (fun j hj => by rw [sI2, a5 j (by omega)]; exact t1.qc.1 j (by omega)) (fun j hj => by rw [sI1, if_neg (by omega), a6 j (by omega) (by omega)]; exact t1.qc.2.1 j (by omega)) (by rw [sI1, if_pos rfl]) V3 ?_ (fun j hj => by rw [sI2, F3.1 j (by omega), b2 j (by omega) (by omega)]) (fun j hj => by rw [sI1, if_neg (by omega), F3.2 j (by omega) (by omega), b1 j (by omega)]) (by rw [sI1, if_pos rfl])⟩
      · rw [sI1, if_neg (by decide), a3]; exact t1.2.1
      · rw [sI1, if_neg (by decide)]; exact a4.trans t1.2.2.1
      · exact ZA.fr (g := h1) (fun j x y => a5 j (by omega)) t1.2.2.2.1
      · rw [sI1, if_neg (by decide)]; exact s3
    · have d1 : lup2 (B_X2_tellTo_21 17) FU 0 0 h0 = _ := d1
      have d2 : lup1 B_X7_night_86 FU 0 m2 = _ := d2
      have zc := zV rA.2.2.2.2.1 rA.2.2.2.2.2.1
      have zt := zV t1.1 t1.2.2.2.1
      have ev : ∀ k, 1 ≤ k → k < 6 → ∀ j, 7 ≤ j → m3.2 k j = mv gm k j := fun k x y j hj => by
        have w := zt.1 k x y j hj
        rw [← V3] at w
        unfold mv at w
        rw [if_neg (by omega), if_pos y] at w
        rw [w, zc.1 k x y j hj]
      obtain ⟨m4, e4, V4, s4, f4, i4⟩ := mAgain (k1 := 12) (V := mv gm) (n := n) (g := m3) (by decide) (fun k hk => by unfold mv; rw [if_neg (by omega), if_neg (by omega)]) (by rw [F3.1 12 (by omega)]; exact K2) (fun j hj => by
        have hj : 7 ≤ j := by omega
        exact ⟨ev 1 (by decide) (by decide) j hj, ev 2 (by decide) (by decide) j hj, ev 3 (by decide) (by decide) j hj, ev 4 (by decide) (by decide) j hj, ev 5 (by decide) (by decide) j hj⟩) (fun j hj => by
        have w := zt.2 j hj
        rw [← V3] at w
        rw [zc.2 j hj]
        exact w)
      rw [d1, bI_some, if_pos (neg2000 q96), lt_eq, d2]
      unfold B_X7_night_110
      rw [e4, bV_some, lt_eq]
      refine ⟨_, _, _, rfl, rfl, Rel.night (n := n) r0 hv ?_ ?_ ?_ ?_ t1.2.2.2.1 (fun j hj => t1.qc.1 j (by omega)) (fun j hj => by rw [sI1, if_neg (by omega)]; exact t1.qc.2.1 j (by omega)) (by rw [sI1, if_pos rfl]) V4 ?_ (fun j hj => by rw [sI2, f4 j (by omega), F3.1 j (by omega), b2 j (by omega) (by omega)]) (fun j hj => by rw [sI1, if_neg (by omega), i4 j (by omega), F3.2 j (by omega) (by omega), b1 j (by omega)]) (by rw [sI1, if_pos rfl])⟩
      · exact (t1.qc.cv3).trans rA.2.2.2.2.1
      · rw [sI1, if_neg (by decide), t1.qc.2.1 3 (by omega)]; exact rA.2.1
      · rw [sI1, if_neg (by decide), t1.qc.2.1 4 (by omega)]; exact rA.2.2.2.1
      · exact ZA.fr (g := gc) (fun j x y => t1.qc.1 j (by omega)) rA.2.2.2.2.2.1
      · rw [sI1, if_neg (by decide), s4]
