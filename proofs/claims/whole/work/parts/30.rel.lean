/-! The relation of the two states; refusals -/
theorem cv_fr2 {g h : Sg} {a : Nat} (hf : ∀ j, a < j → j ≤ a + 6 → h.2 j = g.2 j) : cv h a = cv g a := by
  funext k
  unfold cv
  by_cases hk : k < 6
  · rw [if_pos hk, if_pos hk]; exact hf _ (by omega) (by omega)
  · rw [if_neg hk, if_neg hk]
def ZA (g : Sg) (a : Nat) : Prop := (∀ j, 3 ≤ j → g.2 (a + 1) j = 0) ∧ ∀ k, 2 ≤ k → k ≤ 6 → ∀ j, 7 ≤ j → g.2 (a + k) j = 0
theorem ZA.fr {g h : Sg} {a : Nat} (hf : ∀ j, a < j → j ≤ a + 6 → h.2 j = g.2 j) (hz : ZA g a) : ZA h a := ⟨fun j hj => by rw [hf _ (by omega) (by omega)]; exact hz.1 j hj, fun k h1 h2 j hj => by rw [hf _ (by omega) (by omega)]; exact hz.2 k h1 h2 j hj⟩
/-- an alley kept in a row of 39 -/
def Kp (V : Vw) (n : Nat) (f : Nat → Int32) : Prop := (∀ j, j < 7 → f j = V 1 j ∧ f (7 + j) = V 2 j ∧ f (14 + j) = V 3 j ∧ f (21 + j) = V 4 j ∧ f (28 + j) = V 5 j) ∧ (∀ j, j < 3 → f (35 + j) = V 0 j) ∧ f 38 = nI n
def RelA (gc gm : Sg) (n : Nat) : Prop := VOK (mv gm) n ∧ gc.1 3 = nI n ∧ gm.1 0 = nI n ∧ gc.1 4 = -1 ∧ cv gc 3 = mv gm ∧ ZA gc 3 ∧ ZA gc 10 ∧ ZA gc 17
def RelL (gc gm : Sg) : Prop := ∃ k, k ≤ 96 ∧ gc.1 24 = nI k ∧ gm.1 1 = nI k ∧ ∀ j, j < k → gc.2 25 j = gm.2 7 j
def RelR (gc gm : Sg) : Prop := ∃ k, k ≤ 12 ∧ gc.1 0 = nI k ∧ gm.1 3 = nI k ∧ ∀ j, j < k → gc.2 1 j = gm.2 9 j
def RelF (gc gm : Sg) : Prop := ∀ j, j < 7 → gc.2 2 j = gm.2 10 j
def RelI (gc gm : Sg) : Prop := gc.1 1 = gm.1 4 ∧ (gm.1 4 = 0 ∨ (gm.1 4 = 1 ∧ ∃ k, VOK (cv gc 10) k ∧ gc.1 10 = nI k ∧ gc.1 11 = -1 ∧ Kp (cv gc 10) k (gm.2 11)))
def Rel (gc gm : Sg) : Prop := (∃ n, RelA gc gm n) ∧ RelL gc gm ∧ RelR gc gm ∧ RelF gc gm ∧ RelI gc gm
/-- what a question of D may change, and of the reference -/
def QC (g h : Sg) : Prop := (∀ j, (j < 17 ∨ j = 24 ∨ j = 25) → h.2 j = g.2 j) ∧ (∀ j, (j < 17 ∨ j = 24) → h.1 j = g.1 j) ∧ (ZA g 17 → ZA h 17)
def QM (g h : Sg) : Prop := (∀ j, (j < 8 ∨ j = 9 ∨ j = 10 ∨ j = 11) → h.2 j = g.2 j) ∧ (∀ j, (j < 2 ∨ j = 3 ∨ j = 4) → h.1 j = g.1 j)
theorem QC.rf (g : Sg) : QC g g := ⟨fun _ _ => rfl, fun _ _ => rfl, fun h => h⟩
theorem QM.rf (g : Sg) : QM g g := ⟨fun _ _ => rfl, fun _ _ => rfl⟩
theorem QC.trans {g h k : Sg} (a : QC g h) (b : QC h k) : QC g k := ⟨fun j hj => (b.1 j hj).trans (a.1 j hj), fun j hj => (b.2.1 j hj).trans (a.2.1 j hj), fun z => b.2.2 (a.2.2 z)⟩
theorem QM.trans {g h k : Sg} (a : QM g h) (b : QM h k) : QM g k := ⟨fun j hj => (b.1 j hj).trans (a.1 j hj), fun j hj => (b.2 j hj).trans (a.2 j hj)⟩
theorem FrC.q {g h : Sg} (f : FrC g h) : QC g h := ⟨fun j hj => f.1 j (by omega), fun j hj => f.2 j (by omega), fun z => z.fr (fun j h1 h2 => f.1 j (by omega))⟩
theorem FrM.q {g h : Sg} (f : FrM g h) : QM g h := ⟨fun j hj => f.1 j (by omega), fun j hj => f.2 j (by omega)⟩
theorem QM.mv {g h : Sg} (f : QM g h) : mv h = mv g := mv_fr (fun j hj => f.1 j (by omega))
theorem QC.cv3 {g h : Sg} (f : QC g h) : cv h 3 = cv g 3 := cv_fr2 (fun j h1 h2 => f.1 j (by omega))
theorem RelA.q {gc gm hc hm : Sg} {n : Nat} (r : RelA gc gm n) (a : QC gc hc) (b : QM gm hm) : RelA hc hm n := by
  obtain ⟨r1, r2, r3, r4, r5, r6, r7, r8⟩ := r
  refine ⟨by rw [b.mv]; exact r1, by rw [a.2.1 3 (by omega)]; exact r2, by rw [b.2 0 (by omega)]; exact r3, by rw [a.2.1 4 (by omega)]; exact r4, by rw [a.cv3, b.mv]; exact r5, r6.fr (fun j h1 h2 => a.1 j (by omega)), r7.fr (fun j h1 h2 => a.1 j (by omega)), a.2.2 r8⟩
theorem RelL.q {gc gm hc hm : Sg} (r : RelL gc gm) (a : QC gc hc) (b : QM gm hm) : RelL hc hm := by
  obtain ⟨k, r1, r2, r3, r4⟩ := r
  exact ⟨k, r1, by rw [a.2.1 24 (by omega)]; exact r2, by rw [b.2 1 (by omega)]; exact r3, fun j hj => by rw [a.1 25 (by omega), b.1 7 (by omega)]; exact r4 j hj⟩
theorem RelR.q {gc gm hc hm : Sg} (r : RelR gc gm) (a : QC gc hc) (b : QM gm hm) : RelR hc hm := by
  obtain ⟨k, r1, r2, r3, r4⟩ := r
  exact ⟨k, r1, by rw [a.2.1 0 (by omega)]; exact r2, by rw [b.2 3 (by omega)]; exact r3, fun j hj => by rw [a.1 1 (by omega), b.1 9 (by omega)]; exact r4 j hj⟩
theorem RelF.q {gc gm hc hm : Sg} (r : RelF gc gm) (a : QC gc hc) (b : QM gm hm) : RelF hc hm := fun j hj => by rw [a.1 2 (by omega), b.1 10 (by omega)]; exact r j hj
theorem RelI.q {gc gm hc hm : Sg} (r : RelI gc gm) (a : QC gc hc) (b : QM gm hm) : RelI hc hm := by
  obtain ⟨r1, r2⟩ := r
  refine ⟨by rw [a.2.1 1 (by omega), b.2 4 (by omega)]; exact r1, ?_⟩
  rw [b.2 4 (by omega), cv_fr2 (a := 10) (g := gc) (h := hc) (fun j h1 h2 => a.1 j (by omega)), a.2.1 10 (by omega), a.2.1 11 (by omega), b.1 11 (by omega)]
  exact r2
theorem Rel.q {gc gm hc hm : Sg} (r : Rel gc gm) (a : QC gc hc) (b : QM gm hm) : Rel hc hm := by
  obtain ⟨⟨n, r1⟩, r2, r3, r4, r5⟩ := r
  exact ⟨⟨n, r1.q a b⟩, r2.q a b, r3.q a b, r4.q a b, r5.q a b⟩
theorem Ans.q {gc gm hc hm : Sg} {x : Int32} (r : Rel gc gm) (a : QC gc hc) (b : QM gm hm) : Ans Rel (some (x, hc)) (some (x, hm)) := ⟨x, hc, hm, rfl, rfl, r.q a b⟩
theorem Ans.q2 {gc gm hc hm : Sg} {x y : Int32} (r : Rel gc gm) (a : QC gc hc) (b : QM gm hm) (e : x = y) : Ans Rel (some (x, hc)) (some (y, hm)) := e ▸ Ans.q r a b
/-- a refusal, by both -/
theorem ref_c {x : Int32} {k : Nat} (g : Sg) (hv : vp_in (-x) 7) (hk : ix (-x) = k) : M_X6_refuse x g = some (x, sF g 2 (upd (g.2 2) k (g.2 2 k + 1))) := by
  unfold M_X6_refuse
  rw [lt_eq, rat_l g 2 7 (-x) k (by decide) hv hk, rput_l g 2 7 (-x) _ k (by decide) hv hk]
theorem ref_m {x : Int32} {k : Nat} (g : Sg) (hv : vp_in (-x) 7) (hk : ix (-x) = k) : M_X7_no x g = some (x, sF g 10 (upd (g.2 10) k (g.2 10 k + 1))) := by
  unfold M_X7_no
  rw [chk_ok hv, chk_ok hv, lt_eq]
  unfold rd wr
  rw [hk]
theorem Rel.ref {gc gm : Sg} (r : Rel gc gm) (k : Nat) : Rel (sF gc 2 (upd (gc.2 2) k (gc.2 2 k + 1))) (sF gm 10 (upd (gm.2 10) k (gm.2 10 k + 1))) := by
  obtain ⟨⟨n, r1, r2, r3, r4, r5, r6, r7, r8⟩, rL, rR, rF, rI⟩ := r
  have c2 : ∀ j, j ≠ 2 → (sF gc 2 (upd (gc.2 2) k (gc.2 2 k + 1))).2 j = gc.2 j := fun j hj => by rw [sF2, if_neg hj]
  have m10 : ∀ j, j ≠ 10 → (sF gm 10 (upd (gm.2 10) k (gm.2 10 k + 1))).2 j = gm.2 j := fun j hj => by rw [sF2, if_neg hj]
  have hm : mv (sF gm 10 (upd (gm.2 10) k (gm.2 10 k + 1))) = mv gm := mv_sF (by decide)
  have h3 : cv (sF gc 2 (upd (gc.2 2) k (gc.2 2 k + 1))) 3 = cv gc 3 := cv_fr2 (fun j h1 h2 => c2 j (by omega))
  have h10 : cv (sF gc 2 (upd (gc.2 2) k (gc.2 2 k + 1))) 10 = cv gc 10 := cv_fr2 (fun j h1 h2 => c2 j (by omega))
  refine ⟨⟨n, by rw [hm]; exact r1, r2, r3, r4, by rw [hm, h3]; exact r5, r6.fr (fun j h1 h2 => c2 j (by omega)), r7.fr (fun j h1 h2 => c2 j (by omega)), r8.fr (fun j h1 h2 => c2 j (by omega))⟩, ?_, ?_, ?_, ?_⟩
  · obtain ⟨K, a, b, c, d⟩ := rL
    exact ⟨K, a, b, c, fun j hj => by rw [c2 25 (by decide), m10 7 (by decide)]; exact d j hj⟩
  · obtain ⟨K, a, b, c, d⟩ := rR
    exact ⟨K, a, b, c, fun j hj => by rw [c2 1 (by decide), m10 9 (by decide)]; exact d j hj⟩
  · intro j hj
    show upd (gc.2 2) k (gc.2 2 k + 1) j = upd (gm.2 10) k (gm.2 10 k + 1) j
    by_cases e : j = k
    · subst e
      rw [upd_at, upd_at, rF j hj]
    · rw [upd_ne _ _ e, upd_ne _ _ e]; exact rF j hj
  · refine ⟨rI.1, ?_⟩
    rw [h10, m10 11 (by decide)]
    exact rI.2
theorem ref_ans {gc gm : Sg} (r : Rel gc gm) (x : Int32) (k : Nat) (hv : vp_in (-x) 7) (hk : ix (-x) = k) : Ans Rel (bI (M_X6_refuse x gc) (fun r_1 g_2 => some (r_1, g_2))) (bI (M_X7_no x gm) (fun r_1 g_2 => some (r_1, g_2))) := by
  rw [ref_c gc hv hk, ref_m gm hv hk]
  exact ⟨x, _, _, rfl, rfl, r.ref k⟩
theorem ref_ansQ {gc gm hc hm : Sg} (r : Rel gc gm) (a : QC gc hc) (b : QM gm hm) (x : Int32) (k : Nat) (hv : vp_in (-x) 7) (hk : ix (-x) = k) : Ans Rel (bI (M_X6_refuse x hc) (fun r_1 g_2 => some (r_1, g_2))) (bI (M_X7_no x hm) (fun r_1 g_2 => some (r_1, g_2))) := ref_ans (r.q a b) x k hv hk
theorem refM_ans {gc gm : Sg} (r : Rel gc gm) (x : Int32) (k : Nat) (hv : vp_in (-x) 7) (hk : ix (-x) = k) : Ans Rel (bI (M_X6_refuseAmongAll x gc) (fun r_1 g_2 => some (r_1, g_2))) (bI (M_X7_noMuch x gm) (fun r_1 g_2 => some (r_1, g_2))) := by
  unfold M_X6_refuseAmongAll M_X7_noMuch
  rw [ref_c gc hv hk, ref_m gm hv hk]
  exact ⟨1000000000 - x, _, _, rfl, rfl, r.ref k⟩
theorem rel_init : Rel gc0 gm0 := by
  refine ⟨⟨0, ⟨by omega, ⟨by decide, by decide⟩, ⟨by decide, by decide⟩, ⟨by decide, by decide⟩, fun i hi => absurd hi (Nat.not_lt_zero i)⟩, rfl, rfl, rfl, ?_, ?_, ?_, ?_⟩, ⟨0, by omega, rfl, rfl, fun j hj => absurd hj (Nat.not_lt_zero j)⟩, ⟨0, by omega, rfl, rfl, fun j hj => absurd hj (Nat.not_lt_zero j)⟩, fun j _ => rfl, rfl, Or.inl rfl⟩
  · funext k
    unfold cv mv
    by_cases h0 : k = 0
    · subst h0; rfl
    · rw [if_neg h0]
      by_cases h6 : k < 6
      · rw [if_pos h6, if_pos h6]
        rcases (show k = 1 ∨ k = 2 ∨ k = 3 ∨ k = 4 ∨ k = 5 by omega) with rfl | rfl | rfl | rfl | rfl <;> rfl
      · rw [if_neg h6, if_neg h6]
  all_goals
    refine ⟨fun j hj => ?_, fun k h1 h2 j hj => ?_⟩
    · show set0 j = 0
      unfold set0 upd
      rw [if_neg (by omega), if_neg (by omega), if_neg (by omega)]
    · rcases (show k = 2 ∨ k = 3 ∨ k = 4 ∨ k = 5 ∨ k = 6 by omega) with rfl | rfl | rfl | rfl | rfl <;> rfl
