/-! One alley becomes like another; the reference keeps its own, and takes it again -/
theorem rcp_z {g : Sg} {k1 k2 n : Nat} (h1 : ∀ j, n ≤ j → g.2 k1 j = 0) (h2 : ∀ j, n ≤ j → g.2 k2 j = 0) : rcp g k1 k2 n = sF g k2 (g.2 k1) := by
  unfold rcp rcpI
  congr 1
  funext j
  by_cases h : 0 ≤ j ∧ j < n
  · rw [if_pos h]
  · rw [if_neg h, h1 j (by omega), h2 j (by omega)]
def CpP (a b : Nat) (g : Sg) (i : Nat) (h : Sg) : Prop := (∀ k, 1 ≤ k → k ≤ i → h.2 (a + k) = g.2 (b + k)) ∧ (∀ j, (j ≤ a ∨ a + i < j) → h.2 j = g.2 j) ∧ h.1 = g.1
theorem CpP.step {a b : Nat} {g h : Sg} {i n : Nat} (hab : a + 7 ≤ b ∨ b + 7 ≤ a) (hi : i < 6) (P : CpP a b g i h) (h1 : ∀ j, n ≤ j → g.2 (b + (i + 1)) j = 0) (h2 : ∀ j, n ≤ j → g.2 (a + (i + 1)) j = 0) : CpP a b g (i + 1) (rcp h (b + (i + 1)) (a + (i + 1)) n) := by
  obtain ⟨p1, p2, p3⟩ := P
  have e1 : h.2 (b + (i + 1)) = g.2 (b + (i + 1)) := p2 _ (by omega)
  have e2 : h.2 (a + (i + 1)) = g.2 (a + (i + 1)) := p2 _ (by omega)
  rw [rcp_z (by rw [e1]; exact h1) (by rw [e2]; exact h2)]
  refine ⟨fun k k1 k2 => ?_, fun j hj => ?_, p3⟩
  · rw [sF2]
    by_cases e : k = i + 1
    · subst e
      rw [if_pos rfl, e1]
    · rw [if_neg (by omega)]
      exact p1 k k1 (by omega)
  · rw [sF2, if_neg (by omega)]
    exact p2 j (by omega)
theorem beL {a b : Nat} {g : Sg} (hab : a + 7 ≤ b ∨ b + 7 ≤ a) (za : ZA g a) (zb : ZA g b) : ∃ h, U_X0_becomeLike a b g = h ∧ cv h a = cv g b ∧ ZA h a ∧ h.1 a = g.1 b ∧ h.1 (a + 1) = g.1 (b + 1) ∧ (∀ j, (j ≤ a ∨ a + 6 < j) → h.2 j = g.2 j) ∧ (∀ j, j ≠ a → j ≠ a + 1 → h.1 j = g.1 j) := by
  have P0 : CpP a b g 0 g := ⟨fun k h1 h2 => absurd h1 (by omega), fun _ _ => rfl, rfl⟩
  have P1 := P0.step hab (by decide) (n := 3) zb.1 za.1
  have P2 := P1.step hab (by decide) (n := 7) (zb.2 2 (by decide) (by decide)) (za.2 2 (by decide) (by decide))
  have P3 := P2.step hab (by decide) (n := 7) (zb.2 3 (by decide) (by decide)) (za.2 3 (by decide) (by decide))
  have P4 := P3.step hab (by decide) (n := 7) (zb.2 4 (by decide) (by decide)) (za.2 4 (by decide) (by decide))
  have P5 := P4.step hab (by decide) (n := 7) (zb.2 5 (by decide) (by decide)) (za.2 5 (by decide) (by decide))
  have P6 := P5.step hab (by decide) (n := 7) (zb.2 6 (by decide) (by decide)) (za.2 6 (by decide) (by decide))
  have e : U_X0_becomeLike a b g = sI (sI (rcp (rcp (rcp (rcp (rcp (rcp g (b + (0 + 1)) (a + (0 + 1)) 3) (b + (1 + 1)) (a + (1 + 1)) 7) (b + (2 + 1)) (a + (2 + 1)) 7) (b + (3 + 1)) (a + (3 + 1)) 7) (b + (4 + 1)) (a + (4 + 1)) 7) (b + (5 + 1)) (a + (5 + 1)) 7) a ((rcp (rcp (rcp (rcp (rcp (rcp g (b + (0 + 1)) (a + (0 + 1)) 3) (b + (1 + 1)) (a + (1 + 1)) 7) (b + (2 + 1)) (a + (2 + 1)) 7) (b + (3 + 1)) (a + (3 + 1)) 7) (b + (4 + 1)) (a + (4 + 1)) 7) (b + (5 + 1)) (a + (5 + 1)) 7).1 b)) (a + 1) ((sI (rcp (rcp (rcp (rcp (rcp (rcp g (b + (0 + 1)) (a + (0 + 1)) 3) (b + (1 + 1)) (a + (1 + 1)) 7) (b + (2 + 1)) (a + (2 + 1)) 7) (b + (3 + 1)) (a + (3 + 1)) 7) (b + (4 + 1)) (a + (4 + 1)) 7) (b + (5 + 1)) (a + (5 + 1)) 7) a ((rcp (rcp (rcp (rcp (rcp (rcp g (b + (0 + 1)) (a + (0 + 1)) 3) (b + (1 + 1)) (a + (1 + 1)) 7) (b + (2 + 1)) (a + (2 + 1)) 7) (b + (3 + 1)) (a + (3 + 1)) 7) (b + (4 + 1)) (a + (4 + 1)) 7) (b + (5 + 1)) (a + (5 + 1)) 7).1 b)).1 (b + 1)) := rfl
  rw [e]
  obtain ⟨h6, hh6⟩ : ∃ h6, h6 = rcp (rcp (rcp (rcp (rcp (rcp g (b + (0 + 1)) (a + (0 + 1)) 3) (b + (1 + 1)) (a + (1 + 1)) 7) (b + (2 + 1)) (a + (2 + 1)) 7) (b + (3 + 1)) (a + (3 + 1)) 7) (b + (4 + 1)) (a + (4 + 1)) 7) (b + (5 + 1)) (a + (5 + 1)) 7 := ⟨_, rfl⟩
  rw [← hh6] at P6 ⊢
  obtain ⟨p1, p2, p3⟩ := P6
  rw [p3, sI1, p3, if_neg (show ¬ b + 1 = a by omega)]
  refine ⟨_, rfl, ?_, ⟨fun j hj => ?_, fun k h1 h2 j hj => ?_⟩, ?_, ?_, fun j hj => p2 j hj, fun j h1 h2 => ?_⟩
  · funext k
    unfold cv
    by_cases hk : k < 6
    · rw [if_pos hk, if_pos hk]; exact p1 (k + 1) (by omega) (by omega)
    · rw [if_neg hk, if_neg hk]
  · show h6.2 (a + 1) j = 0
    rw [p1 1 (by decide) (by decide)]; exact zb.1 j hj
  · show h6.2 (a + k) j = 0
    rw [p1 k (by omega) (by omega)]; exact zb.2 k h1 h2 j hj
  · rw [sI1, if_neg (by omega), sI1, if_pos rfl]
  · rw [sI1, if_pos rfl]
  · rw [sI1, if_neg h2, sI1, if_neg h1, p3]
/-- the trial alley, made like the true one -/
theorem tri {gc gm : Sg} {n : Nat} (r : RelA gc gm n) : ∃ h, U_X0_becomeLike 17 3 gc = h ∧ cv h 17 = mv gm ∧ ZA h 17 ∧ h.1 17 = nI n ∧ h.1 18 = -1 ∧ QC gc h := by
  obtain ⟨r1, r2, r3, r4, r5, r6, r7, r8⟩ := r
  obtain ⟨h, e, h1, h2, h3, h4, h5, h6⟩ := beL (a := 17) (b := 3) (g := gc) (by omega) r8 r6
  exact ⟨h, e, h1.trans r5, h2, h3.trans r2, h4.trans r4, fun j hj => h5 j (by omega), fun j hj => h6 j (by omega) (by omega), fun _ => h2⟩
theorem n7 (i : Nat) : (7 : Int32) + nI i = nI (7 + i) := nI_add 7 i
theorem n14 (i : Nat) : (14 : Int32) + nI i = nI (14 + i) := nI_add 14 i
theorem n21 (i : Nat) : (21 : Int32) + nI i = nI (21 + i) := nI_add 21 i
theorem n28 (i : Nat) : (28 : Int32) + nI i = nI (28 + i) := nI_add 28 i
theorem n35 (i : Nat) : (35 : Int32) + nI i = nI (35 + i) := nI_add 35 i
def KpI (V : Vw) (i : Nat) (f : Nat → Int32) : Prop := ∀ j, j < i → f j = V 1 j ∧ f (7 + j) = V 2 j ∧ f (14 + j) = V 3 j ∧ f (21 + j) = V 4 j ∧ f (28 + j) = V 5 j
theorem KpI.step {V : Vw} {i : Nat} {f : Nat → Int32} (h : KpI V i f) (hi : i < 7) : KpI V (i + 1) (upd (upd (upd (upd (upd f i (V 1 i)) (7 + i) (V 2 i)) (14 + i) (V 3 i)) (21 + i) (V 4 i)) (28 + i) (V 5 i)) := by
  intro j hj
  by_cases e : j = i
  · subst e
    refine ⟨?_, ?_, ?_, ?_, ?_⟩
    · rw [upd_ne _ _ (by omega), upd_ne _ _ (by omega), upd_ne _ _ (by omega), upd_ne _ _ (by omega), upd_at]
    · rw [upd_ne _ _ (by omega), upd_ne _ _ (by omega), upd_ne _ _ (by omega), upd_at]
    · rw [upd_ne _ _ (by omega), upd_ne _ _ (by omega), upd_at]
    · rw [upd_ne _ _ (by omega), upd_at]
    · rw [upd_at]
  · obtain ⟨a1, a2, a3, a4, a5⟩ := h j (by omega)
    refine ⟨?_, ?_, ?_, ?_, ?_⟩ <;> rw [upd_ne _ _ (by omega), upd_ne _ _ (by omega), upd_ne _ _ (by omega), upd_ne _ _ (by omega), upd_ne _ _ (by omega)]
    · exact a1
    · exact a2
    · exact a3
    · exact a4
    · exact a5
theorem mKeep2 {k1 : Nat} (hk : 7 ≤ k1) (kb2 : Int32 → Sg → Option Sg) {g : Sg} {i : Nat} (hi : i < 7) : B_X7_keep_2 k1 39 kb2 (nI i) g = kb2 (nI (i + 1)) (sF (sF (sF (sF (sF g k1 (upd (g.2 k1) i (g.2 1 i))) k1 (upd (upd (g.2 k1) i (g.2 1 i)) (7 + i) (g.2 2 i))) k1 (upd (upd (upd (g.2 k1) i (g.2 1 i)) (7 + i) (g.2 2 i)) (14 + i) (g.2 3 i))) k1 (upd (upd (upd (upd (g.2 k1) i (g.2 1 i)) (7 + i) (g.2 2 i)) (14 + i) (g.2 3 i)) (21 + i) (g.2 4 i))) k1 (upd (upd (upd (upd (upd (g.2 k1) i (g.2 1 i)) (7 + i) (g.2 2 i)) (14 + i) (g.2 3 i)) (21 + i) (g.2 4 i)) (28 + i) (g.2 5 i))) := by
  have h7 : ¬ (7 : Int32) ≤ nI i := (nI_ge hi (by decide) : ¬ nI 7 ≤ nI i)
  unfold B_X7_keep_2
  rw [if_neg h7]
  simp only [n7, n14, n21, n28, nI_1, chk_ok (vpN hi (by decide)), chk_ok (vpN (show i < 39 by omega) (by decide)), chk_ok (vpN (show 7 + i < 39 by omega) (by decide)), chk_ok (vpN (show 14 + i < 39 by omega) (by decide)), chk_ok (vpN (show 21 + i < 39 by omega) (by decide)), chk_ok (vpN (show 28 + i < 39 by omega) (by decide)), lt_eq, rdN _ _ (show i < 1000 by omega), wrN _ _ (show i < 1000 by omega), wrN _ _ (show 7 + i < 1000 by omega), wrN _ _ (show 14 + i < 1000 by omega), wrN _ _ (show 21 + i < 1000 by omega), wrN _ _ (show 28 + i < 1000 by omega), sF2, if_true, if_neg (show ¬ 1 = k1 by omega), if_neg (show ¬ 2 = k1 by omega), if_neg (show ¬ 3 = k1 by omega), if_neg (show ¬ 4 = k1 by omega), if_neg (show ¬ 5 = k1 by omega)]
theorem mKeep73 {k1 : Nat} (hk : 7 ≤ k1) {n : Nat} : ∀ (d i f : Nat) (g : Sg), i + d = 3 → d < f → KpI (mv g) 7 (g.2 k1) → (∀ j, j < i → g.2 k1 (35 + j) = mv g 0 j) → g.1 0 = nI n → ∃ h, lup1 (B_X7_keep_73 k1 39) f (nI i) g = some h ∧ Kp (mv g) n (h.2 k1) ∧ (∀ j, j ≠ k1 → h.2 j = g.2 j) ∧ h.1 = g.1 := by
  intro d
  induction d with
  | zero =>
    intro i f g hi hf h1 h2 h3
    obtain ⟨f, rfl⟩ : ∃ t, f = t + 1 := ⟨f - 1, by omega⟩
    obtain rfl : i = 3 := by omega
    rw [lup1_s]
    unfold B_X7_keep_73
    rw [if_pos (show (3 : Int32) ≤ nI 3 by decide)]
    unfold B_X7_keep_96
    rw [chk_ok (vpl (by decide)), lt_eq, h3]
    have w : wr g k1 38 (nI n) = sF g k1 (upd (g.2 k1) 38 (nI n)) := wrN g k1 (i := 38) (by decide) _
    rw [w]
    refine ⟨_, rfl, ⟨fun j hj => ?_, fun j hj => ?_, ?_⟩, fun j hj => by rw [sF2, if_neg hj], rfl⟩
    · rw [sF2, if_pos rfl]
      obtain ⟨a1, a2, a3, a4, a5⟩ := h1 j hj
      refine ⟨?_, ?_, ?_, ?_, ?_⟩ <;> rw [upd_ne _ _ (by omega)]
      · exact a1
      · exact a2
      · exact a3
      · exact a4
      · exact a5
    · rw [sF2, if_pos rfl, upd_ne _ _ (by omega)]
      exact h2 j hj
    · rw [sF2, if_pos rfl, upd_at]
  | succ d ih =>
    intro i f g hi hf h1 h2 h3
    obtain ⟨f, rfl⟩ : ∃ t, f = t + 1 := ⟨f - 1, by omega⟩
    rw [lup1_s]
    have e : B_X7_keep_73 k1 39 (lup1 (B_X7_keep_73 k1 39) f) (nI i) g = lup1 (B_X7_keep_73 k1 39) f (nI (i + 1)) (sF g k1 (upd (g.2 k1) (35 + i) (g.2 6 i))) := by
      generalize lup1 (B_X7_keep_73 k1 39) f = self
      unfold B_X7_keep_73
      rw [if_neg (show ¬ (3 : Int32) ≤ nI i from (nI_ge (show i < 3 by omega) (by decide) : ¬ nI 3 ≤ nI i)), chk_ok (vpN (by omega) (by decide)), n35, chk_ok (vpN (by omega) (by decide)), lt_eq, rdN _ _ (by omega), wrN _ _ (by omega), nI_1]
    rw [e]
    have hm : mv (sF g k1 (upd (g.2 k1) (35 + i) (g.2 6 i))) = mv g := mv_sF hk
    obtain ⟨h, e1, K, F, P⟩ := ih (i + 1) f (sF g k1 (upd (g.2 k1) (35 + i) (g.2 6 i))) (by omega) (by omega) (by
      rw [hm, sF2, if_pos rfl]
      intro j hj
      obtain ⟨a1, a2, a3, a4, a5⟩ := h1 j hj
      refine ⟨?_, ?_, ?_, ?_, ?_⟩ <;> rw [upd_ne _ _ (by omega)]
      · exact a1
      · exact a2
      · exact a3
      · exact a4
      · exact a5) (fun j hj => by
      rw [hm, sF2, if_pos rfl]
      by_cases e : j = i
      · subst e; rw [upd_at, mv0]
      · rw [upd_ne _ _ (by omega)]; exact h2 j (by omega)) h3
    rw [hm] at K
    exact ⟨h, e1, K, fun j hj => by rw [F j hj, sF2, if_neg hj], P⟩
theorem mKeep {k1 : Nat} (hk : 7 ≤ k1) {n : Nat} {g : Sg} (h0 : g.1 0 = nI n) : ∃ h, M_X7_keep k1 39 g = some h ∧ Kp (mv g) n (h.2 k1) ∧ (∀ j, j ≠ k1 → h.2 j = g.2 j) ∧ h.1 = g.1 := by
  have key : ∀ (d i f : Nat) (g : Sg), i + d = 7 → d < f → KpI (mv g) i (g.2 k1) → g.1 0 = nI n → ∃ h, lup1 (B_X7_keep_2 k1 39) f (nI i) g = some h ∧ Kp (mv g) n (h.2 k1) ∧ (∀ j, j ≠ k1 → h.2 j = g.2 j) ∧ h.1 = g.1 := by
    intro d
    induction d with
    | zero =>
      intro i f g hi hf h1 h3
      obtain ⟨f, rfl⟩ : ∃ t, f = t + 1 := ⟨f - 1, by omega⟩
      obtain rfl : i = 7 := by omega
      obtain ⟨h, e, r⟩ := mKeep73 hk 3 0 FU g (by omega) (by unfold FU; omega) h1 (fun j hj => absurd hj (Nat.not_lt_zero j)) h3
      refine ⟨h, ?_, r⟩
      rw [lup1_s]
      unfold B_X7_keep_2
      rw [if_pos (show (7 : Int32) ≤ nI 7 by decide)]
      exact e
    | succ d ih =>
      intro i f g hi hf h1 h3
      obtain ⟨f, rfl⟩ : ∃ t, f = t + 1 := ⟨f - 1, by omega⟩
      rw [lup1_s, mKeep2 hk _ (by omega)]
      obtain ⟨G, hG⟩ : ∃ G, G = sF (sF (sF (sF (sF g k1 (upd (g.2 k1) i (g.2 1 i))) k1 (upd (upd (g.2 k1) i (g.2 1 i)) (7 + i) (g.2 2 i))) k1 (upd (upd (upd (g.2 k1) i (g.2 1 i)) (7 + i) (g.2 2 i)) (14 + i) (g.2 3 i))) k1 (upd (upd (upd (upd (g.2 k1) i (g.2 1 i)) (7 + i) (g.2 2 i)) (14 + i) (g.2 3 i)) (21 + i) (g.2 4 i))) k1 (upd (upd (upd (upd (upd (g.2 k1) i (g.2 1 i)) (7 + i) (g.2 2 i)) (14 + i) (g.2 3 i)) (21 + i) (g.2 4 i)) (28 + i) (g.2 5 i)) := ⟨_, rfl⟩
      rw [← hG]
      have hm : mv G = mv g := by rw [hG, mv_sF hk, mv_sF hk, mv_sF hk, mv_sF hk, mv_sF hk]
      have h2 : G.2 k1 = upd (upd (upd (upd (upd (g.2 k1) i (mv g 1 i)) (7 + i) (mv g 2 i)) (14 + i) (mv g 3 i)) (21 + i) (mv g 4 i)) (28 + i) (mv g 5 i) := by rw [hG, sF2, if_pos rfl]; rfl
      have hp : G.1 = g.1 := by rw [hG]; rfl
      have hf2 : ∀ j, j ≠ k1 → G.2 j = g.2 j := fun j hj => by rw [hG, sF2, if_neg hj, sF2, if_neg hj, sF2, if_neg hj, sF2, if_neg hj, sF2, if_neg hj]
      obtain ⟨h, e1, K, F, P⟩ := ih (i + 1) f G (by omega) (by omega) (by rw [hm, h2]; exact h1.step (by omega)) (by rw [hp]; exact h3)
      rw [hm] at K
      exact ⟨h, e1, K, fun j hj => by rw [F j hj, hf2 j hj], P.trans hp⟩
  obtain ⟨h, e, r⟩ := key 7 0 FU g (by omega) (by unfold FU; omega) (fun j hj => absurd hj (Nat.not_lt_zero j)) h0
  exact ⟨h, e, r⟩
