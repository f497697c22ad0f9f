/-! The reference takes its alley again -/
def AgI (V : Vw) (i : Nat) (h : Sg) : Prop := ∀ j, (j < i ∨ 7 ≤ j) → h.2 1 j = V 1 j ∧ h.2 2 j = V 2 j ∧ h.2 3 j = V 3 j ∧ h.2 4 j = V 4 j ∧ h.2 5 j = V 5 j
def agS (k1 i : Nat) (g : Sg) : Sg := sF (sF (sF (sF (sF g 1 (upd (g.2 1) i (g.2 k1 i))) 2 (upd (g.2 2) i (g.2 k1 (7 + i)))) 3 (upd (g.2 3) i (g.2 k1 (14 + i)))) 4 (upd (g.2 4) i (g.2 k1 (21 + i)))) 5 (upd (g.2 5) i (g.2 k1 (28 + i)))
theorem mAgain2 {k1 : Nat} (hk : 7 ≤ k1) (kb2 : Int32 → Sg → Option Sg) {g : Sg} {i : Nat} (hi : i < 7) : B_X7_again_2 k1 39 kb2 (nI i) g = kb2 (nI (i + 1)) (agS k1 i g) := by
  have h7 : ¬ (7 : Int32) ≤ nI i := (nI_ge hi (by decide) : ¬ nI 7 ≤ nI i)
  unfold B_X7_again_2 agS
  rw [if_neg h7]
  simp only [n7, n14, n21, n28, nI_1, chk_ok (vpN hi (by decide)), chk_ok (vpN (show i < 39 by omega) (by decide)), chk_ok (vpN (show 7 + i < 39 by omega) (by decide)), chk_ok (vpN (show 14 + i < 39 by omega) (by decide)), chk_ok (vpN (show 21 + i < 39 by omega) (by decide)), chk_ok (vpN (show 28 + i < 39 by omega) (by decide)), lt_eq, rdN _ _ (show i < 1000 by omega), rdN _ _ (show 7 + i < 1000 by omega), rdN _ _ (show 14 + i < 1000 by omega), rdN _ _ (show 21 + i < 1000 by omega), rdN _ _ (show 28 + i < 1000 by omega), wrN _ _ (show i < 1000 by omega), sF2, Nat.reduceEqDiff, if_true, if_false, if_neg (show ¬ k1 = 1 by omega), if_neg (show ¬ k1 = 2 by omega), if_neg (show ¬ k1 = 3 by omega), if_neg (show ¬ k1 = 4 by omega), if_neg (show ¬ k1 = 5 by omega)]
theorem agS_ne {k1 i : Nat} {g : Sg} {j : Nat} (hj : j = 0 ∨ 5 < j) : (agS k1 i g).2 j = g.2 j := by
  unfold agS
  rw [sF2, if_neg (by omega), sF2, if_neg (by omega), sF2, if_neg (by omega), sF2, if_neg (by omega), sF2, if_neg (by omega)]
theorem AgI.step {V : Vw} {k1 n i : Nat} {g : Sg} (hi : i < 7) (hK : Kp V n (g.2 k1)) (h : AgI V i g) : AgI V (i + 1) (agS k1 i g) := by
  intro j hj
  obtain ⟨b1, b2, b3, b4, b5⟩ := hK.1 i hi
  show upd (g.2 1) i (g.2 k1 i) j = V 1 j ∧ upd (g.2 2) i (g.2 k1 (7 + i)) j = V 2 j ∧ upd (g.2 3) i (g.2 k1 (14 + i)) j = V 3 j ∧ upd (g.2 4) i (g.2 k1 (21 + i)) j = V 4 j ∧ upd (g.2 5) i (g.2 k1 (28 + i)) j = V 5 j
  by_cases e : j = i
  · subst e
    rw [upd_at, upd_at, upd_at, upd_at, upd_at]
    exact ⟨b1, b2, b3, b4, b5⟩
  · rw [upd_ne _ _ e, upd_ne _ _ e, upd_ne _ _ e, upd_ne _ _ e, upd_ne _ _ e]
    exact h j (by omega)
theorem mAgain73 {k1 : Nat} (hk : 7 ≤ k1) {V : Vw} {n : Nat} (hV : ∀ k, 6 ≤ k → V k = fun _ => 0) : ∀ (d i f : Nat) (g : Sg), i + d = 3 → d < f → Kp V n (g.2 k1) → AgI V 7 g → (∀ j, (j < i ∨ 3 ≤ j) → g.2 6 j = V 0 j) → ∃ h, lup1 (B_X7_again_73 k1 39) f (nI i) g = some h ∧ mv h = V ∧ h.1 0 = nI n ∧ (∀ j, (j = 0 ∨ 6 < j) → h.2 j = g.2 j) ∧ (∀ j, j ≠ 0 → h.1 j = g.1 j) := by
  intro d
  induction d with
  | zero =>
    intro i f g hi hf h1 h2 h3
    obtain ⟨f, rfl⟩ : ∃ t, f = t + 1 := ⟨f - 1, by omega⟩
    obtain rfl : i = 3 := by omega
    rw [lup1_s]
    unfold B_X7_again_73
    rw [if_pos (show (3 : Int32) ≤ nI 3 by decide)]
    unfold B_X7_again_96
    have w : rd g k1 38 = g.2 k1 38 := rdN g k1 (i := 38) (by decide)
    rw [chk_ok (vpl (by decide)), lt_eq, w, h1.2.2]
    refine ⟨_, rfl, ?_, rfl, fun j hj => rfl, fun j hj => by rw [sI1, if_neg hj]⟩
    rw [mv_sI]
    funext k
    by_cases k0 : k = 0
    · subst k0
      funext j
      exact h3 j (by omega)
    · by_cases k6 : k < 6
      · funext j
        obtain ⟨a1, a2, a3, a4, a5⟩ := h2 j (by omega)
        rcases (show k = 1 ∨ k = 2 ∨ k = 3 ∨ k = 4 ∨ k = 5 by omega) with rfl | rfl | rfl | rfl | rfl
        · exact a1
        · exact a2
        · exact a3
        · exact a4
        · exact a5
      · rw [hV k (by omega)]
        unfold mv
        rw [if_neg k0, if_neg k6]
  | succ d ih =>
    intro i f g hi hf h1 h2 h3
    obtain ⟨f, rfl⟩ : ∃ t, f = t + 1 := ⟨f - 1, by omega⟩
    rw [lup1_s]
    have e : B_X7_again_73 k1 39 (lup1 (B_X7_again_73 k1 39) f) (nI i) g = lup1 (B_X7_again_73 k1 39) f (nI (i + 1)) (sF g 6 (upd (g.2 6) i (g.2 k1 (35 + i)))) := by
      generalize lup1 (B_X7_again_73 k1 39) f = self
      unfold B_X7_again_73
      rw [if_neg (show ¬ (3 : Int32) ≤ nI i from (nI_ge (show i < 3 by omega) (by decide) : ¬ nI 3 ≤ nI i)), n35, chk_ok (vpN (by omega) (by decide)), chk_ok (vpN (by omega) (by decide)), lt_eq, rdN _ _ (by omega), wrN _ _ (by omega), nI_1]
    rw [e]
    obtain ⟨G, hG⟩ : ∃ G, G = sF g 6 (upd (g.2 6) i (g.2 k1 (35 + i))) := ⟨_, rfl⟩
    rw [← hG]
    have hne : ∀ j, j ≠ 6 → G.2 j = g.2 j := fun j hj => by rw [hG, sF2, if_neg hj]
    have h6 : G.2 6 = upd (g.2 6) i (g.2 k1 (35 + i)) := by rw [hG, sF2, if_pos rfl]
    have hp : G.1 = g.1 := by rw [hG]; rfl
    obtain ⟨h, e1, K, P, F, Q⟩ := ih (i + 1) f G (by omega) (by omega) (by rw [hne k1 (by omega)]; exact h1) (fun j hj => by
      rw [hne 1 (by decide), hne 2 (by decide), hne 3 (by decide), hne 4 (by decide), hne 5 (by decide)]; exact h2 j hj) (fun j hj => by
      rw [h6]
      by_cases e : j = i
      · subst e; rw [upd_at]; exact h1.2.1 j (by omega)
      · rw [upd_ne _ _ e]; exact h3 j (by omega))
    exact ⟨h, e1, K, P, fun j hj => by rw [F j hj, hne j (by omega)], fun j hj => by rw [Q j hj, hp]⟩
theorem mAgain {k1 : Nat} (hk : 7 ≤ k1) {V : Vw} {n : Nat} {g : Sg} (hV : ∀ k, 6 ≤ k → V k = fun _ => 0) (hK : Kp V n (g.2 k1)) (hz : AgI V 0 g) (hz0 : ∀ j, 3 ≤ j → g.2 6 j = V 0 j) : ∃ h, M_X7_again k1 39 g = some h ∧ mv h = V ∧ h.1 0 = nI n ∧ (∀ j, (j = 0 ∨ 6 < j) → h.2 j = g.2 j) ∧ (∀ j, j ≠ 0 → h.1 j = g.1 j) := by
  have key : ∀ (d i f : Nat) (g : Sg), i + d = 7 → d < f → Kp V n (g.2 k1) → AgI V i g → (∀ j, 3 ≤ j → g.2 6 j = V 0 j) → ∃ h, lup1 (B_X7_again_2 k1 39) f (nI i) g = some h ∧ mv h = V ∧ h.1 0 = nI n ∧ (∀ j, (j = 0 ∨ 6 < j) → h.2 j = g.2 j) ∧ (∀ j, j ≠ 0 → h.1 j = g.1 j) := by
    intro d
    induction d with
    | zero =>
      intro i f g hi hf h1 h2 h3
      obtain ⟨f, rfl⟩ : ∃ t, f = t + 1 := ⟨f - 1, by omega⟩
      obtain rfl : i = 7 := by omega
      obtain ⟨h, e, r⟩ := mAgain73 hk hV 3 0 FU g (by omega) (by unfold FU; omega) h1 h2 (fun j hj => h3 j (by omega))
      refine ⟨h, ?_, r⟩
      rw [lup1_s]
      unfold B_X7_again_2
      rw [if_pos (show (7 : Int32) ≤ nI 7 by decide)]
      exact e
    | succ d ih =>
      intro i f g hi hf h1 h2 h3
      obtain ⟨f, rfl⟩ : ∃ t, f = t + 1 := ⟨f - 1, by omega⟩
      rw [lup1_s, mAgain2 hk _ (by omega)]
      obtain ⟨h, e1, K, P, F, Q⟩ := ih (i + 1) f (agS k1 i g) (by omega) (by omega) (by rw [agS_ne (by omega)]; exact h1) (h2.step (by omega) h1) (fun j hj => by rw [agS_ne (by omega)]; exact h3 j hj)
      exact ⟨h, e1, K, P, fun j hj => by rw [F j hj, agS_ne (by omega)], fun j hj => Q j hj⟩
  exact key 7 0 FU g (by omega) (by unfold FU; omega) hK hz hz0
theorem op_image (gc gm : Sg) (r : Rel gc gm) : Ans Rel (M_X6_image gc) (M_X7_image gm) := by
  obtain ⟨⟨n, r1, r2, r3, r4, r5, r6, r7, r8⟩, rL, rR, rF, rI⟩ := r
  unfold M_X6_image M_X7_image
  obtain ⟨h, e, h1, h2, h3, h4, h5, h6⟩ := beL (a := 10) (b := 3) (g := gc) (by omega) r7 r6
  obtain ⟨m, em, m1, m2, m3⟩ := mKeep (k1 := 11) (by decide) (n := n) (g := sI gm 4 1) (by rw [sI1, if_neg (by decide)]; exact r3)
  rw [lt_eq, e, lt_eq, lt_eq, em, bV_some]
  have hm : mv m = mv gm := mv_fr (fun j hj => by rw [m2 j (by omega)]; rfl)
  have p3 : (sI h 1 1).1 3 = nI n := by rw [sI1, if_neg (by decide), h6 3 (by decide) (by decide)]; exact r2
  have q0 : m.1 0 = nI n := by rw [m3, sI1, if_neg (by decide)]; exact r3
  refine ⟨nI n, _, _, by rw [p3], by rw [q0], ⟨n, by rw [hm]; exact r1, p3, q0, ?_, ?_, ?_, h2, ?_⟩, ?_, ?_, ?_, ?_⟩
  · rw [sI1, if_neg (by decide), h6 4 (by decide) (by decide)]; exact r4
  · rw [hm, ← r5]
    exact cv_fr2 (fun j a b => h5 j (by omega))
  · exact ZA.fr (g := gc) (fun j a b => h5 j (by omega)) r6
  · exact ZA.fr (g := gc) (fun j a b => h5 j (by omega)) r8
  · obtain ⟨k, k1, k2, k3, k4⟩ := rL
    exact ⟨k, k1, by rw [sI1, if_neg (by decide), h6 24 (by decide) (by decide)]; exact k2, by rw [m3, sI1, if_neg (by decide)]; exact k3, fun j hj => by rw [sI2, h5 25 (by omega), m2 7 (by decide)]; exact k4 j hj⟩
  · obtain ⟨k, k1, k2, k3, k4⟩ := rR
    exact ⟨k, k1, by rw [sI1, if_neg (by decide), h6 0 (by decide) (by decide)]; exact k2, by rw [m3, sI1, if_neg (by decide)]; exact k3, fun j hj => by rw [sI2, h5 1 (by omega), m2 9 (by decide)]; exact k4 j hj⟩
  · exact fun j hj => by rw [sI2, h5 2 (by omega), m2 10 (by decide)]; exact rF j hj
  · have e1 : (sI h 1 1).1 1 = 1 := by rw [sI1, if_pos rfl]
    have e2 : m.1 4 = 1 := by rw [m3, sI1, if_pos rfl]
    have e3 : cv (sI h 1 1) 10 = mv gm := h1.trans r5
    refine ⟨e1.trans e2.symm, Or.inr ⟨e2, n, by rw [e3]; exact r1, ?_, ?_, by rw [e3]; exact m1⟩⟩
    · rw [sI1, if_neg (by decide), h3]; exact r2
    · rw [sI1, if_neg (by decide)]; exact h4.trans r4
theorem op_on (gc gm : Sg) (r : Rel gc gm) : Ans Rel (M_X6_on gc) (M_X7_on gm) := by
  have r0 := r
  obtain ⟨⟨n, r1, r2, r3, r4, r5, r6, r7, r8⟩, rL, rR, rF, rI1, rI2⟩ := r
  unfold M_X6_on M_X7_on
  rw [rI1]
  rcases rI2 with h0 | ⟨hone, k, k1, k2, k3, k4⟩
  · rw [if_pos h0, if_pos h0]
    exact ref_ans r0 (-3) 3 (vpl (by decide)) (by decide)
  · have hne : ¬ gm.1 4 = 0 := by rw [hone]; decide
    rw [if_neg hne, if_neg hne]
    obtain ⟨h, e, h1, h2, h3, h4, h5, h6⟩ := beL (a := 3) (b := 10) (g := gc) (by omega) r6 r7
    have zm : ∀ q, 1 ≤ q → q < 6 → ∀ j, 7 ≤ j → gm.2 q j = 0 := fun q a b j hj => by
      have w := congrFun (congrFun r5 q) j
      unfold cv mv at w
      rw [if_pos b, if_neg (by omega), if_pos b] at w
      rw [← w]; exact r6.2 (q + 1) (by omega) (by omega) j hj
    have zc : ∀ q, 1 ≤ q → q < 6 → ∀ j, 7 ≤ j → cv gc 10 q j = 0 := fun q a b j hj => by
      unfold cv
      rw [if_pos b]; exact r7.2 (q + 1) (by omega) (by omega) j hj
    obtain ⟨m, em, m1, m2, m3, m4⟩ := mAgain (k1 := 11) (V := cv gc 10) (n := k) (g := gm) (by decide) (fun q hq => by unfold cv; rw [if_neg (by omega)]) k4 (fun j hj => by
      have hj : 7 ≤ j := by omega
      rw [zm 1 (by decide) (by decide) j hj, zm 2 (by decide) (by decide) j hj, zm 3 (by decide) (by decide) j hj, zm 4 (by decide) (by decide) j hj, zm 5 (by decide) (by decide) j hj, zc 1 (by decide) (by decide) j hj, zc 2 (by decide) (by decide) j hj, zc 3 (by decide) (by decide) j hj, zc 4 (by decide) (by decide) j hj, zc 5 (by decide) (by decide) j hj]
      exact ⟨rfl, rfl, rfl, rfl, rfl⟩) (fun j hj => by
      have w : gc.2 4 j = gm.2 6 j := congrFun (congrFun r5 0) j
      rw [← w, r6.1 j hj]; exact (r7.1 j hj).symm)
    rw [lt_eq, e, em, bV_some]
    have h10 : cv h 10 = cv gc 10 := cv_fr2 (fun j a b => h5 j (by omega))
    refine ⟨nI k, _, _, by rw [h3, k2], by rw [m2], ⟨k, by rw [m1]; exact k1, h3.trans k2, m2, h4.trans k3, h1.trans m1.symm, h2, ?_, ?_⟩, ?_, ?_, ?_, ?_, ?_⟩
    · exact ZA.fr (g := gc) (fun j a b => h5 j (by omega)) r7
    · exact ZA.fr (g := gc) (fun j a b => h5 j (by omega)) r8
    · obtain ⟨k, k1, k2, k3, k4⟩ := rL
      exact ⟨k, k1, by rw [h6 24 (by decide) (by decide)]; exact k2, by rw [m4 1 (by decide)]; exact k3, fun j hj => by rw [h5 25 (by omega), m3 7 (by decide)]; exact k4 j hj⟩
    · obtain ⟨k, k1, k2, k3, k4⟩ := rR
      exact ⟨k, k1, by rw [h6 0 (by decide) (by decide)]; exact k2, by rw [m4 3 (by decide)]; exact k3, fun j hj => by rw [h5 1 (by omega), m3 9 (by decide)]; exact k4 j hj⟩
    · exact fun j hj => by rw [h5 2 (by omega), m3 10 (by decide)]; exact rF j hj
    · rw [h6 1 (by decide) (by decide), m4 4 (by decide)]; exact rI1
    · rw [m4 4 (by decide), h10, m3 11 (by decide), h6 10 (by decide) (by decide), h6 11 (by decide) (by decide)]
      exact Or.inr ⟨hone, k, k1, k2, k3, k4⟩
