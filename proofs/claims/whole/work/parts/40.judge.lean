/-! The row against the night; who had what -/
theorem jl {g m : Sg} {k : Nat} (hk : k ≤ 12) (h1 : g.1 0 = nI k) (h2 : m.1 3 = nI k) (h3 : ∀ j, j < k → g.2 1 j = m.2 9 j) (h4 : ∀ j, j < 12 → g.2 34 j = m.2 20 j) : ∀ (d j f : Nat), j + d = k → d < f → ∃ r, lup1 B_X6_firstNotSo_2 f (nI j) g = some (r, g) ∧ lup1 B_X7_wrong_6 f (nI j) m = some (r, m) := by
  intro d
  induction d with
  | zero =>
    intro j f hj hf
    obtain ⟨f, rfl⟩ : ∃ t, f = t + 1 := ⟨f - 1, by omega⟩
    obtain rfl : j = k := by omega
    rw [lup1_s, lup1_s]
    generalize lup1 B_X6_firstNotSo_2 f = s1
    generalize lup1 B_X7_wrong_6 f = s2
    unfold B_X6_firstNotSo_2 B_X7_wrong_6
    rw [h1, h2, if_pos (nI_le (by omega) (by omega)), if_pos (nI_le (by omega) (by omega))]
    exact ⟨_, rfl, rfl⟩
  | succ d ih =>
    intro j f hj hf
    obtain ⟨f, rfl⟩ : ∃ t, f = t + 1 := ⟨f - 1, by omega⟩
    have e := ih (j + 1) f (by omega) (by omega)
    rw [lup1_s, lup1_s]
    generalize lup1 B_X6_firstNotSo_2 f = s1 at e ⊢
    generalize lup1 B_X7_wrong_6 f = s2 at e ⊢
    have hj12 : j < 12 := by omega
    unfold B_X6_firstNotSo_2 B_X7_wrong_6
    rw [h1, h2, if_neg (nI_ge (show j < k by omega) (by omega)), if_neg (nI_ge (show j < k by omega) (by omega)), if_neg (show ¬ (12 : Int32) ≤ nI j from (nI_ge hj12 (by decide) : ¬ nI 12 ≤ nI j)), rat_l g 1 12 (nI j) j (by decide) (vpN hj12 (by decide)) (nI_clamp (by omega)), rat_l g 34 12 (nI j) j (by decide) (vpN hj12 (by decide)) (nI_clamp (by omega)), chk_ok (vpN hj12 (by decide)), chk_ok (vpN hj12 (by decide)), rdN _ _ (by omega), rdN _ _ (by omega), h3 j (by omega), h4 j hj12, nI_1]
    by_cases c : m.2 9 j = m.2 20 j
    · rw [if_pos c, if_pos c]; exact e
    · rw [if_neg c, if_neg c]; exact ⟨_, rfl, rfl⟩
theorem op_judge (gc gm : Sg) (r : Rel gc gm) : Ans Rel (M_X6_judge gc) (M_X7_judge gm) := by
  have r0 := r
  obtain ⟨⟨n, rA⟩, rL, ⟨k, k1, k2, k3, k4⟩, -⟩ := r
  obtain ⟨v, gc1, gm1, e1, B, F, e2, R, G⟩ := both rA
  obtain ⟨w, c1, c2⟩ := jl (g := gc1) (m := gm1) k1 ((F.2 0 (by omega)).trans k2) ((G.2 3 (by omega)).trans k3) (fun j hj => by rw [F.1 1 (by omega), G.1 9 (by omega)]; exact k4 j hj) (fun j hj => (B.2.2 j hj).trans (R.2 j hj).symm) k 0 FU (by omega) (by unfold FU; omega)
  have c1 : M_X6_firstNotSo gc1 = _ := c1
  have c2 : lup1 B_X7_wrong_6 FU 0 gm1 = _ := c2
  unfold M_X6_judge M_X7_judge M_X7_wrong
  rw [e1, bI_some, c1, bI_some, lt_eq, e2, bV_some, c2, bI_some, lt_eq]
  exact ⟨w, _, _, rfl, rfl, (r0.q F.q G.q).clr⟩
theorem Tr.by2 {V : Vw} {n : Nat} {gc h : Sg} (t : Tr V n (-1) gc h) (hn : n ≤ 7) : ∃ h1, M_X5_byHours 17 h = some (co V n 1 (-1), h1) ∧ Tr V n (-1) gc h1 ∧ (∀ q, q < 12 → h1.2 34 q = lampE V n q) := by
  obtain ⟨t1, t2, t3, t4, t5⟩ := t
  obtain ⟨r, h1, e, B, F⟩ := cBy al_17 hn t2
  rw [t1, show h.1 (17 + 1) = -1 from t3, lamps1] at B
  refine ⟨h1, ?_, ⟨(F.cv (by decide)).trans t1, (F.2 17 (by omega)).trans t2, (F.2 18 (by omega)).trans t3, t4.fr (fun j a b => F.1 j (by omega)), t5.trans F.q⟩, B.2.2⟩
  rw [e, B.1]; rfl
theorem Mt.run {V : Vw} {n : Nat} {gm h : Sg} (t : Mt V n gm h) (hv : VOK V n) : ∃ h1, M_X7_run_ h = some h1 ∧ Mt V n gm h1 ∧ (∀ q, q < 12 → h1.2 20 q = lampE V n q) := by
  obtain ⟨h1, e, R, F⟩ := mRunAll (-1) (n := n) (g := h) (by rw [t.1]; exact hv) t.2.1
  rw [t.1] at R
  exact ⟨h1, e, t.fr F, R.2⟩
theorem fit {V : Vw} {n : Nat} {gc gm h m : Sg} (t : Tr V n (-1) gc h) (s : Mt V n gm m) (hv : VOK V n) (rR : RelR gc gm) : ∃ r v h1 m1, M_X5_byHours 17 h = some (v, h1) ∧ M_X6_firstNotSo h1 = some (r, h1) ∧ M_X7_wrong m = some (r, m1) ∧ Tr V n (-1) gc h1 ∧ Mt V n gm m1 := by
  obtain ⟨k, k1, k2, k3, k4⟩ := rR
  obtain ⟨h1, e1, t1, E1⟩ := t.by2 hv.1
  obtain ⟨m1, e2, s1, E2⟩ := s.run hv
  obtain ⟨w, c1, c2⟩ := jl (g := h1) (m := m1) k1 ((t1.2.2.2.2.2.1 0 (by omega)).trans k2) ((s1.2.2.2 3 (by omega)).trans k3) (fun j hj => by rw [t1.2.2.2.2.1 1 (by omega), s1.2.2.1 9 (by omega)]; exact k4 j hj) (fun j hj => (E1 j hj).trans (E2 j hj).symm) k 0 FU (by omega) (by unfold FU; omega)
  refine ⟨w, _, h1, m1, e1, c1, ?_, t1, s1⟩
  unfold M_X7_wrong
  rw [e2, bV_some]
  exact c2
theorem fitL {V : Vw} {n i κ N : Nat} {x2 x3 x4 : Int32} {gc gm : Sg} (hκ : κ < 6) (hκ0 : 0 < κ) (hi : i < 7) (hN : N < 100) (rR : RelR gc gm) (hV : ∀ k, k < N → VOK (Up κ i V (nI k)) n) (hs : ∀ (kb : Int32 → Int32 → Int32 → Int32 → Int32 → Int32 → Sg → Option (Int32 × Sg)) (acc : Int32) (k : Nat) (m : Sg), k < N → B_X7_whoHad_51 kb (nI i) x2 x3 x4 acc (nI k) m = B_X7_whoHad_90 kb (nI i) x2 x3 x4 acc (nI k) (sF m (mk κ) (upd (m.2 (mk κ)) i (nI k)))) (he : ∀ (kb : Int32 → Int32 → Int32 → Int32 → Int32 → Int32 → Sg → Option (Int32 × Sg)) (acc : Int32) (m : Sg) (W : Vw), (∀ x, Up κ i W x = Up κ i V x) → Mt W n gm m → ∃ m1, B_X7_whoHad_51 kb (nI i) x2 x3 x4 acc (nI N) m = some (acc, m1) ∧ Mt V n gm m1) : ∀ (d k f : Nat) (acc : Int32) (h m : Sg) (W : Vw), k + d = N → d < f → (∀ x, Up κ i W x = Up κ i V x) → Tr W n (-1) gc h → Mt W n gm m → ∃ r h1 m1, lup4 (B_X6_valuesThatFitTheRow_6 (17 + (κ + 1)) 7) f (nI i) (nI N) acc (nI k) h = some (r, h1) ∧ lup6 B_X7_whoHad_51 f (nI i) x2 x3 x4 acc (nI k) m = some (r, m1) ∧ QC gc h1 ∧ Mt V n gm m1 := by
  intro d
  induction d with
  | zero =>
    intro k f acc h m W hk hf hW t s
    obtain ⟨f, rfl⟩ : ∃ t, f = t + 1 := ⟨f - 1, by omega⟩
    obtain rfl : k = N := by omega
    rw [lup4_s, lup6_s]
    generalize lup4 (B_X6_valuesThatFitTheRow_6 (17 + (κ + 1)) 7) f = s1
    generalize lup6 B_X7_whoHad_51 f = s2
    obtain ⟨m1, e, s3⟩ := he s2 acc m W hW s
    unfold B_X6_valuesThatFitTheRow_6
    rw [if_pos (nI_le (by omega) (by omega)), e]
    exact ⟨acc, h, m1, rfl, rfl, t.2.2.2.2, s3⟩
  | succ d ih =>
    intro k f acc h m W hk hf hW t s
    obtain ⟨f, rfl⟩ : ∃ t, f = t + 1 := ⟨f - 1, by omega⟩
    have hk : k < N := by omega
    have t0 := t.up (k := κ) (i := i) hκ (by rw [if_neg (by omega)]; exact hi) (nI k)
    have s0 := s.up (k := κ) (i := i) hκ (nI k)
    rw [hW] at t0 s0
    obtain ⟨w, v, h1, m1, e1, e2, e3, t1, s1⟩ := fit t0 s0 (hV k hk) rR
    have ee := fun acc2 => ih (k + 1) f acc2 h1 m1 (Up κ i V (nI k)) (by omega) (by omega) (fun x => Up_up κ i V _ x) t1 s1
    rw [lup4_s, lup6_s]
    generalize lup4 (B_X6_valuesThatFitTheRow_6 (17 + (κ + 1)) 7) f = l1 at ee ⊢
    generalize lup6 B_X7_whoHad_51 f = l2 at ee ⊢
    rw [hs l2 acc k m hk]
    unfold B_X6_valuesThatFitTheRow_6 B_X7_whoHad_90
    rw [if_neg (nI_ge hk (by omega)), lt_eq, rput7 _ _ hi, e1, bI_some, e2, bI_some, e3, bI_some, nI_1]
    by_cases c : w = -9
    · rw [if_pos c, if_pos c]; exact ee _
    · rw [if_neg c, if_neg c]; exact ee _
theorem VOK.kd {V : Vw} {n i : Nat} (h : VOK V n) {x : Int32} (hx : rg 5 x) : VOK (Up 1 i V x) n := by
  refine ⟨h.1, h.2.1, h.2.2.1, h.2.2.2.1, fun j hj => ?_⟩
  obtain ⟨a, b, c, d, e⟩ := h.2.2.2.2 j hj
  refine ⟨?_, b, c, d, e⟩
  show rg 5 (upd (V 1) i x j)
  by_cases q : j = i
  · subst q; rw [upd_at]; exact hx
  · rw [upd_ne _ _ q]; exact a
theorem VOK.fg {V : Vw} {n i : Nat} (h : VOK V n) {x : Int32} (hx : rg 9 x) : VOK (Up 2 i V x) n := by
  refine ⟨h.1, h.2.1, h.2.2.1, h.2.2.2.1, fun j hj => ?_⟩
  obtain ⟨a, b, c, d, e⟩ := h.2.2.2.2 j hj
  refine ⟨a, ?_, c, d, e⟩
  show rg 9 (upd (V 2) i x j)
  by_cases q : j = i
  · subst q; rw [upd_at]; exact hx
  · rw [upd_ne _ _ q]; exact b
theorem w114 {V W : Vw} {n i : Nat} {gm m : Sg} {acc : Int32} (hi : i < 7) (h1 : Up 1 i W (V 1 i) = W ∧ Up 2 i W (V 2 i) = V ∨ Up 1 i W (V 1 i) = V) (s : Mt W n gm m) : ∃ m1, B_X7_whoHad_114 (nI i) (V 1 i) (V 2 i) acc m = some (acc, m1) ∧ Mt V n gm m1 := by
  unfold B_X7_whoHad_114
  rw [chk_ok (vpN hi (by decide)), lt_eq, chk_ok (vpN hi (by decide)), lt_eq, wrN _ _ (by omega), wrN _ _ (by omega)]
  refine ⟨_, rfl, ?_⟩
  have s1 := s.up (k := 1) (i := i) (by decide) (V 1 i)
  have s2 := s1.up (k := 2) (i := i) (by decide) (V 2 i)
  rcases h1 with ⟨a, b⟩ | a
  · rw [a, b] at s2; exact s2
  · rw [a, Up_id] at s2; exact s2
theorem op_whoHad (gc gm : Sg) (x y : Int32) (r : Rel gc gm) : Ans Rel (M_X6_whoHad x y gc) (M_X7_whoHad x y gm) := by
  have r0 := r
  obtain ⟨⟨n, rA⟩, -, rR, -⟩ := r
  unfold M_X6_whoHad M_X7_whoHad
  rcases goer_or rA x with ⟨i, hi, rfl, h1, h2⟩ | ⟨h1, h2⟩
  · rw [if_neg h1, if_neg h2, within_e]
    have hv := rA.1
    have hi7 : i < 7 := by have := hv.1; omega
    obtain ⟨h, e, t⟩ := tri2 rA
    have s := Mt.rf rA.2.2.1
    have x1 : rd gm 1 (nI i) = mv gm 1 i := rdN gm 1 (by omega)
    have x2 : rd gm 2 (nI i) = mv gm 2 i := rdN gm 2 (by omega)
    by_cases y0 : y = 0
    · subst y0
      obtain ⟨w, h1, m1, c1, c2, q1, s1⟩ := fitL (V := mv gm) (κ := 1) (N := 6) (i := i) (n := n) (x2 := 0) (x3 := mv gm 1 i) (x4 := mv gm 2 i) (by decide) (by decide) hi7 (by decide) rR (fun k hk => hv.kd (rg_nI (by omega) (by omega))) (fun kb acc k m hk => by
        unfold B_X7_whoHad_51 B_X7_whoHad_64
        rw [if_pos rfl, if_neg (show ¬ (6 : Int32) ≤ nI k from (nI_ge hk (by decide) : ¬ nI 6 ≤ nI k)), if_pos rfl, chk_ok (vpN hi7 (by decide)), lt_eq, wrN _ _ (by omega)]
        rfl) (fun kb acc m W hW s => by
        unfold B_X7_whoHad_51 B_X7_whoHad_64
        rw [if_pos rfl, if_pos (show (6 : Int32) ≤ nI 6 by decide)]
        exact w114 hi7 (Or.inr ((hW _).trans (Up_id 1 i _))) s) 6 0 FU 0 h gm (mv gm) (by decide) (by unfold FU; omega) (fun _ => rfl) t s
      have c1 : M_X6_valuesThatFitTheRow 19 7 (nI i) 6 h = _ := c1
      have c2 : lup6 B_X7_whoHad_51 FU (nI i) 0 (mv gm 1 i) (mv gm 2 i) 0 0 gm = _ := c2
      rw [if_pos rfl, lt_eq, e, c1, bI_some, if_neg (by decide), chk_ok (vpN hi7 (by decide)), chk_ok (vpN hi7 (by decide)), x1, x2, c2]
      exact Ans.q r0 q1 s1.q
    · rw [if_neg y0]
      by_cases y1 : y = 1
      · subst y1
        obtain ⟨w, h1, m1, c1, c2, q1, s1⟩ := fitL (V := mv gm) (κ := 2) (N := 10) (i := i) (n := n) (x2 := 1) (x3 := mv gm 1 i) (x4 := mv gm 2 i) (by decide) (by decide) hi7 (by decide) rR (fun k hk => hv.fg (rg_nI (by omega) (by omega))) (fun kb acc k m hk => by
          unfold B_X7_whoHad_51 B_X7_whoHad_64
          rw [if_neg (by decide), if_neg (show ¬ (10 : Int32) ≤ nI k from (nI_ge hk (by decide) : ¬ nI 10 ≤ nI k)), if_neg (by decide), chk_ok (vpN hi7 (by decide)), lt_eq, wrN _ _ (by omega)]
          rfl) (fun kb acc m W hW s => by
          unfold B_X7_whoHad_51 B_X7_whoHad_64
          rw [if_neg (by decide), if_pos (show (10 : Int32) ≤ nI 10 by decide)]
          have w1 : W 1 = mv gm 1 := congrFun (hW 0) 1
          exact w114 hi7 (Or.inl ⟨by rw [← w1]; exact Up_id 1 i W, (hW _).trans (Up_id 2 i _)⟩) s) 10 0 FU 0 h gm (mv gm) (by decide) (by unfold FU; omega) (fun _ => rfl) t s
        have c1 : M_X6_valuesThatFitTheRow 20 7 (nI i) 10 h = _ := c1
        have c2 : lup6 B_X7_whoHad_51 FU (nI i) 1 (mv gm 1 i) (mv gm 2 i) 0 0 gm = _ := c2
        rw [if_pos rfl, lt_eq, e, c1, bI_some, if_neg (by decide), chk_ok (vpN hi7 (by decide)), chk_ok (vpN hi7 (by decide)), x1, x2, c2]
        exact Ans.q r0 q1 s1.q
      · have hw : (if y < 0 then (0 : Int32) else if 1 < y then 0 else 1) = 0 := by
          by_cases a : y < 0
          · rw [if_pos a]
          · rw [if_neg a]
            by_cases b : 1 < y
            · rw [if_pos b]
            · exfalso
              rw [i_lt, T_0] at a
              rw [i_lt] at b
              have t1 : (1 : Int32).toInt = 1 := rfl
              rw [t1] at b
              rcases (show y.toInt = 0 ∨ y.toInt = 1 by omega) with c | c
              · exact y0 (i_eq c)
              · exact y1 (i_eq c)
        rw [if_neg y1, if_pos hw]
        exact ref_ans r0 (-2) 2 (vpl (by decide)) (by decide)
  · rw [if_pos h1, if_pos h2]
    exact ref_ans r0 (-1) 1 (vpl (by decide)) (by decide)
