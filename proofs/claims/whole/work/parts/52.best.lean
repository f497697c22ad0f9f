/-! The best order, both -/
theorem mOrd {V : Vw} {n : Nat} {l : List Nat} (hv : VOK V n) (hl : l.length = n) (hx : ∀ x, x ∈ l → x < n) (kb91 : Int32 → Int32 → Int32 → Int32 → Int32 → Sg → Option (Int32 × Sg)) (x1 x2 x3 x4 : Int32) : ∀ (d j f : Nat) (m : Sg), j + d = n → d < f → mv m = V → m.1 0 = nI n → m.1 5 = nI n → (∀ i, i < n → m.2 22 i = nI (l.getD i 0)) → (∀ k, k < j → m.2 13 k = nI (l.getD k 0)) → Am V 1 (-1) (l.take j) m → ∃ m1, lup5 (B_X7_best_113 kb91) f x1 x2 x3 x4 (nI j) m = B_X7_best_153 kb91 x1 x2 x3 x4 m1 ∧ AO V 1 (-1) l m1 ∧ FrM m m1 := by
  have hn := hv.1
  intro d
  induction d with
  | zero =>
    intro j f m hj hf hV hs h5 h22 h13 A
    obtain ⟨f, rfl⟩ : ∃ t, f = t + 1 := ⟨f - 1, by omega⟩
    have jn : j = n := by omega
    rw [List.take_of_length_le (by omega)] at A
    refine ⟨m, ?_, ⟨A, by rw [hl]; exact h5, fun k hk => h13 k (by omega)⟩, FrM.rf m⟩
    rw [lup5_s]
    generalize lup5 (B_X7_best_113 kb91) f = self
    unfold B_X7_best_113
    rw [hs, if_pos (nI_le (by omega) (by omega))]
  | succ d ih =>
    intro j f m hj hf hV hs h5 h22 h13 A
    obtain ⟨f, rfl⟩ : ∃ t, f = t + 1 := ⟨f - 1, by omega⟩
    have jn : j < n := by omega
    have jl : j < l.length := by omega
    have mem : l.getD j 0 ∈ l := getD_mem jl
    have q7 : l.getD j 0 < n := hx _ mem
    have t : l.take (j + 1) = l.take j ++ [l.getD j 0] := by
      rw [List.take_succ_eq_append_getElem jl, List.getD_eq_getElem?_getD, List.getElem?_eq_getElem jl]; rfl
    have h22j := h22 j jn
    generalize l.getD j 0 = p at q7 t h22j mem
    obtain ⟨m0, hm0⟩ : ∃ m0, m0 = sF m 13 (upd (m.2 13) j (nI p)) := ⟨_, rfl⟩
    have A0 : Am V 1 (-1) (l.take j) m0 := by rw [hm0]; exact A
    have V0 : mv m0 = V := by rw [hm0, mv_sF (by decide)]; exact hV
    have all : VGall V (l.take j) := fun i hi => ⟨by have := hx i (List.mem_of_mem_take hi); omega, hv.g (hx i (List.mem_of_mem_take hi))⟩
    obtain ⟨m1, e1, A1, F1⟩ := A0.step (Or.inl rfl) V0 (i := p) (by omega) (hv.g q7) (runW_bd (OKW1 hv (-1)) _ all)
    have m00 : m0.1 = m.1 := by rw [hm0]; rfl
    have m13 : m0.2 13 j = nI p := by rw [hm0, sF2, if_pos rfl, upd_at]
    obtain ⟨m2, e2, A2, F2⟩ := ih (j + 1) f m1 (by omega) (by omega) (F1.M.mv.trans V0) (by rw [F1.2 0 (by decide), m00]; exact hs) (by rw [F1.2 5 (by decide), m00]; exact h5) (fun i hi => by rw [F1.1 22 (by omega), hm0, sF2, if_neg (by decide)]; exact h22 i hi) (fun k hk => by
      rw [F1.1 13 (by omega), hm0, sF2, if_pos rfl]
      by_cases e : k = j
      · subst e
        rw [upd_at, ← h22j]; exact h22 k jn
      · rw [upd_ne _ _ e]; exact h13 k (by omega)) (by rw [t]; exact A1)
    refine ⟨m2, ?_, A2, FrM.trans (h := m0) ⟨fun i hi => by rw [hm0, sF2, if_neg (by omega)], fun i _ => by rw [m00]⟩ (F1.M.trans F2)⟩
    rw [lup5_s, ← e2]
    generalize lup5 (B_X7_best_113 kb91) f = self
    unfold B_X7_best_113
    rw [hs, if_neg (nI_ge jn (by omega)), chk_ok (vpN (show j < 7 by omega) (by decide)), chk_ok (vpN (show j < 7 by omega) (by decide)), lt_eq, rdN m 22 (show j < 1000 by omega), h22j, wrN m 13 (show j < 1000 by omega), ← hm0, chk_ok (vpN (show j < 7 by omega) (by decide)), rdN m0 13 (show j < 1000 by omega), m13, e1, bV_some, nI_1]
theorem mStep {V : Vw} {n : Nat} {l : List Nat} {m : Sg} (hv : VOK V n) (hl : l.length = n) (hx : ∀ x, x ∈ l → x < n) (hV : mv m = V) (hs : m.1 0 = nI n) (h22 : ∀ i, i < n → m.2 22 i = nI (l.getD i 0)) (f : Nat) (x1 x2 x3 x4 : Int32) : ∃ m1, lup5 B_X7_best_91 (f + 1) x1 x2 x3 x4 1 m = B_X7_best_153 (lup5 B_X7_best_91 f) x1 x2 x3 x4 m1 ∧ AO V 1 (-1) l m1 ∧ FrM m m1 := by
  have hn := hv.1
  obtain ⟨m0, e0, A0, F0⟩ := mSets1 m (-1)
  rw [hV] at A0
  have s0 : m0.1 0 = nI n := (F0.2 0 (by omega)).trans hs
  obtain ⟨m1, e1, A1, F1⟩ := mOrd hv hl hx (lup5 B_X7_best_91 f) x1 x2 x3 x4 n 0 FU (sI m0 5 (m0.1 0)) (by omega) (by unfold FU; omega) (F0.mv.trans hV) s0 s0 (fun i hi => by rw [sI2, F0.1 22 (by omega)]; exact h22 i hi) (fun k hk => absurd hk (Nat.not_lt_zero k)) A0
  have e1 : lup5 (B_X7_best_113 (lup5 B_X7_best_91 f)) FU x1 x2 x3 x4 0 (sI m0 5 (m0.1 0)) = _ := e1
  refine ⟨m1, ?_, A1, F0.trans (FrM.trans (h := sI m0 5 (m0.1 0)) ⟨fun j hj => rfl, fun j hj => by rw [sI1, if_neg (by omega)]⟩ F1)⟩
  rw [lup5_s]
  generalize lup5 B_X7_best_91 f = self at e1 ⊢
  unfold B_X7_best_91
  rw [if_neg (show ¬ (1 : Int32) = 0 by decide), e0, bV_some, lt_eq, e1]
def Re (x2 : Int32) (h : Sg) (x3 x4 : Int32) : Prop := (h.1 38 = 0 ∧ x3 = -9 ∧ x4 = -9) ∨ (h.1 38 = 1 ∧ h.1 37 = x3 ∧ rg 19656 x3 ∧ x4 = if 0 ≤ x2 then h.2 38 (ix x2) else x3)
theorem cS45 (kb45 : Int32 → Int32 → Int32 → Sg → Option Sg) (x3 x4 x5 : Int32) (g : Sg) : B_X3_search_45 3 kb45 x3 x4 x5 g = (if 720 ≤ x5 then some g else (if x4 = 0 then some g else bI (M_X5_inOrder 3 39 7 g) (fun r_4 g_5 => (if x3 = 0 then B_X3_search_89 3 kb45 x3 x5 r_4 1 g_5 else (if (V_X5_firstLamp g_5) = (V_X0_pump 3 g_5) then B_X3_search_89 3 kb45 x3 x5 r_4 1 g_5 else B_X3_search_89 3 kb45 x3 x5 r_4 0 g_5))))) := by
  unfold B_X3_search_45
  rfl
theorem mS91z (kb91 : Int32 → Int32 → Int32 → Int32 → Int32 → Sg → Option (Int32 × Sg)) (x1 x2 x3 x4 : Int32) (g : Sg) : B_X7_best_91 kb91 x1 x2 x3 x4 0 g = some (x4, g) := by
  unfold B_X7_best_91
  rw [if_pos rfl]
theorem bestLoop {gc gm : Sg} {n : Nat} (rA : RelA gc gm n) (hn : n ≤ 6) {w x1 x2 : Int32} (hw : (w = 0 ∧ x1 = 0) ∨ (w = 1 ∧ x1 = 1)) (hx2 : x2 = -1 ∨ ∃ i, i < n ∧ x2 = nI i) : ∀ (d c f1 f2 : Nat) (l : List Nat) (h m : Sg) (x3 x4 : Int32), c + d = 720 → d < f1 → d < f2 → okF n d l = true → So n (mv gm) gc gm l h m → Re x2 h x3 x4 → ∃ h1 m1 y3 y4, lup3 (B_X3_search_45 3) f1 w 1 (nI c) h = some h1 ∧ lup5 B_X7_best_91 f2 x1 x2 x3 x4 1 m = some (y4, m1) ∧ Re x2 h1 y3 y4 ∧ QC gc h1 ∧ Mt (mv gm) n gm m1 := by
  have hv := rA.1
  have hn7 : n ≤ 7 := by omega
  intro d
  induction d with
  | zero =>
    intro c f1 f2 l h m x3 x4 hc h1 h2 ho s R
    exact (Bool.false_ne_true ho).elim
  | succ d ih =>
    intro c f1 f2 l h m x3 x4 hc hf1 hf2 ho s R
    obtain ⟨f1, rfl⟩ : ∃ t, f1 = t + 1 := ⟨f1 - 1, by omega⟩
    obtain ⟨f2, rfl⟩ : ∃ t, f2 = t + 1 := ⟨f2 - 1, by omega⟩
    obtain ⟨o1, o2, o3, o4⟩ := okF_s ho
    have rej : ∀ (h m : Sg) (x3 x4 : Int32), So n (mv gm) gc gm l h m → Re x2 h x3 x4 → ∃ h1 m1 y3 y4, bI (M_X3_next (h.1 3) h) (fun r g => lup3 (B_X3_search_45 3) f1 w r (nI c + 1) g) = some h1 ∧ bI (M_X7_nextOrder m) (fun r g => lup5 B_X7_best_91 f2 x1 x2 x3 x4 r g) = some (y4, m1) ∧ Re x2 h1 y3 y4 ∧ QC gc h1 ∧ Mt (mv gm) n gm m1 := by
      intro h m x3 x4 s R
      obtain ⟨h1, m1, e1, e2, s1, q1, q2⟩ := s.next hn7
      have hs : h.1 3 = nI n := by rw [s.2.2.1.2.1 3 (by omega)]; exact rA.2.1
      have R1 : Re x2 h1 x3 x4 := by unfold Re at R ⊢; rw [q1, q2]; exact R
      rw [hs, e1, e2, bI_some, bI_some, nI_1]
      by_cases z : (nxF n l).1 = true
      · rw [if_pos z]
        exact ih (c + 1) f1 f2 (nxF n l).2 h1 m1 x3 x4 (by omega) (by omega) (by omega) (o4 z) s1 R1
      · rw [if_neg z]
        obtain ⟨k1, hk1⟩ : ∃ t, f1 = t + 1 := ⟨f1 - 1, by omega⟩
        obtain ⟨k2, hk2⟩ : ∃ t, f2 = t + 1 := ⟨f2 - 1, by omega⟩
        refine ⟨h1, m1, x3, x4, ?_, ?_, R1, s1.2.2.1, s1.2.2.2⟩
        · rw [hk1, lup3_s, cS45]
          by_cases y : 720 ≤ nI (c + 1)
          · rw [if_pos y]
          · rw [if_neg y, if_pos rfl]
        · rw [hk2, lup5_s, mS91z]
    have hs : h.1 3 = nI n := by rw [s.2.2.1.2.1 3 (by omega)]; exact rA.2.1
    have hs4 : h.1 (3 + 1) = -1 := by rw [s.2.2.1.2.1 4 (by omega)]; exact rA.2.2.2.1
    have hV : cv h 3 = mv gm := s.2.2.1.cv3.trans rA.2.2.2.2.1
    obtain ⟨r, h', e, rr, A, F⟩ := cOrd al_3 (k1 := 39) (by decide) (g := h) (n := n) (q := fun i => l.getD i 0) hn7 hs (fun i hi => Nat.lt_of_lt_of_le (s.1.2.1 i hi) hn7) (fun i hi => s.1.2.2 i hi)
    have hL : (List.range n).map (fun i => l.getD i 0) = l := by rw [← o1]; exact mapL
    rw [hV, hs4, lamps1, hL] at rr A
    have h22 : ∀ i, i < n → m.2 22 i = nI (l.getD i 0) := fun i hi => (s.2.1 i hi).symm.trans (s.1.2.2 i hi)
    obtain ⟨m', em, Am', Fm⟩ := mStep hv o1 o2 s.2.2.2.1 s.2.2.2.2.1 h22 f2 x1 x2 x3 x4
    have s' : So n (mv gm) gc gm l h' m' := ⟨by rw [F.1 39 (by omega)]; exact s.1, fun j hj => by rw [F.1 39 (by omega), Fm.1 22 (by omega)]; exact s.2.1 j hj, s.2.2.1.trans F.q, s.2.2.2.fr Fm⟩
    have R' : Re x2 h' x3 x4 := by unfold Re at R ⊢; rw [F.2 37 (by omega), F.2 38 (by omega), F.1 38 (by omega)]; exact R
    have all : VGall (mv gm) l := fun i hi => ⟨by have := o2 i hi; omega, hv.g (o2 i hi)⟩
    have hC : rg 19656 (runW (mv gm) 1 (-1) l 9 1) := (run_b (OKW1 hv (-1)) hv.2.2.2.1 l (by omega) all).up (by omega)
    have ec : M_X7_cost m' = some (runW (mv gm) 1 (-1) l 9 1, m') := mCost s'.2.2.2.1 o3 (fun i hi => by have := o2 i hi; omega) Am'
    have p1 : V_X5_firstLamp h' = runW (mv gm) 1 (-1) l 4 0 := (cFL h').trans A.2.1.1
    have p2 : V_X0_pump 3 h' = mv gm 0 0 := by rw [cPump, s'.2.2.1.cv3, rA.2.2.2.2.1]
    have p3 : rd m' 14 0 = runW (mv gm) 1 (-1) l 4 0 := (rdN m' 14 (i := 0) (by decide)).trans Am'.1.2.1.1
    have p4 : rd m' 6 0 = mv gm 0 0 := (rdN m' 6 (i := 0) (by decide)).trans (congrFun (congrFun s'.2.2.2.1 0) 0)
    rw [rr] at e
    generalize runW (mv gm) 1 (-1) l 9 1 = C at e ec hC
    have acc : ∃ h1 m1 y3 y4, B_X3_search_112 3 (lup3 (B_X3_search_45 3) f1) w (nI c) C h' = some h1 ∧ B_X7_best_190 (lup5 B_X7_best_91 f2) x1 x2 C m' = some (y4, m1) ∧ Re x2 h1 y3 y4 ∧ QC gc h1 ∧ Mt (mv gm) n gm m1 := by
      unfold B_X3_search_112 B_X7_best_190
      rw [lt_eq, lt_eq, lt_eq]
      obtain ⟨h2, eh2⟩ : ∃ h2, h2 = rcp (sI (sI h' 38 1) 37 C) 39 38 7 := ⟨_, rfl⟩
      rw [← eh2]
      have r2 : ∀ j, j ≠ 38 → h2.2 j = h'.2 j := fun j hj => by rw [eh2]; unfold rcp rcpI; rw [sF2, if_neg hj]; rfl
      have r1 : ∀ j, j ≠ 37 → j ≠ 38 → h2.1 j = h'.1 j := fun j a b => by rw [eh2]; unfold rcp rcpI; rw [sF1, sI1, if_neg a, sI1, if_neg b]
      have r37 : h2.1 37 = C := by rw [eh2]; unfold rcp rcpI; rw [sF1, sI1, if_pos rfl]
      have r38 : h2.1 38 = 1 := by rw [eh2]; unfold rcp rcpI; rw [sF1, sI1, if_neg (by decide), sI1, if_pos rfl]
      have rb : ∀ j, j < 7 → h2.2 38 j = h'.2 39 j := fun j hj => by
        rw [eh2]; unfold rcp rcpI; rw [sF2, if_pos rfl]
        show (if 0 ≤ j ∧ j < 7 then _ else _) = _
        rw [if_pos ⟨Nat.zero_le j, hj⟩]; rfl
      have s2 : So n (mv gm) gc gm l h2 m' := ⟨by rw [r2 39 (by decide)]; exact s'.1, fun j hj => by rw [r2 39 (by decide)]; exact s'.2.1 j hj, s'.2.2.1.trans ⟨fun j hj => r2 j (by omega), fun j hj => r1 j (by omega) (by omega), fun z => z.fr (fun j a b => r2 j (by omega))⟩, s'.2.2.2⟩
      rcases hx2 with q | ⟨i, hi, q⟩
      · have q0 : ¬ 0 ≤ x2 := by rw [q]; decide
        rw [if_neg q0]
        exact rej h2 m' C C s2 (Or.inr ⟨r38, r37, hC, by rw [if_neg q0]⟩)
      · have q0 : 0 ≤ x2 := by rw [q]; exact nI_pos' (by omega)
        have qv : vp_in x2 7 := by rw [q]; exact vpN (by omega) (by decide)
        have qx : ix x2 = i := by rw [q]; exact nI_clamp (by omega)
        have qr : rd m' 22 x2 = m'.2 22 i := by rw [q]; exact rdN m' 22 (by omega)
        rw [if_pos q0, chk_ok qv]
        exact rej h2 m' C (rd m' 22 x2) s2 (Or.inr ⟨r38, r37, hC, by rw [if_pos q0, qr, qx, rb i (by omega)]; exact (s'.2.1 i hi).symm⟩)
    have yes : ∃ h1 m1 y3 y4, B_X3_search_89 3 (lup3 (B_X3_search_45 3) f1) w (nI c) C 1 h' = some h1 ∧ (if x3 = (-9) then B_X7_best_190 (lup5 B_X7_best_91 f2) x1 x2 C m' else (if x3 ≤ C then bI (M_X7_nextOrder m') (fun r g => lup5 B_X7_best_91 f2 x1 x2 x3 x4 r g) else B_X7_best_190 (lup5 B_X7_best_91 f2) x1 x2 C m')) = some (y4, m1) ∧ Re x2 h1 y3 y4 ∧ QC gc h1 ∧ Mt (mv gm) n gm m1 := by
      unfold B_X3_search_89
      rw [if_neg (show ¬ (1 : Int32) = 0 by decide)]
      have R2 := R'
      rcases R2 with ⟨a, b, -⟩ | ⟨a, b, bb, -⟩
      · rw [if_pos a, if_pos b]; exact acc
      · have n0 : ¬ h'.1 38 = 0 := by rw [a]; decide
        have n9 : ¬ x3 = -9 := fun e9 => by
          have b0 := bb.1
          rw [e9] at b0
          exact absurd b0 (by decide)
        rw [if_neg n0, if_neg n9, b]
        by_cases q : x3 ≤ C
        · rw [if_pos q, if_pos q]; exact rej h' m' x3 x4 s' R'
        · rw [if_neg q, if_neg q]; exact acc
    rw [lup3_s, em, cS45, if_neg (show ¬ (720 : Int32) ≤ nI c from (nI_ge (show c < 720 by omega) (by decide) : ¬ nI 720 ≤ nI c)), if_neg (show ¬ (1 : Int32) = 0 by decide), e, bI_some]
    unfold B_X7_best_153
    rw [ec, bI_some]
    rcases hw with ⟨a, b⟩ | ⟨a, b⟩
    · rw [if_pos a, if_pos b]; exact yes
    · rw [if_neg (show ¬ w = 0 by rw [a]; decide), if_neg (show ¬ x1 = 0 by rw [b]; decide), p1, p2, p3, p4]
      by_cases q : runW (mv gm) 1 (-1) l 4 0 = mv gm 0 0
      · rw [if_pos q, if_pos q]; exact yes
      · rw [if_neg q, if_neg q]
        unfold B_X3_search_89
        rw [if_pos rfl]
        exact rej h' m' x3 x4 s' R'
theorem cInit {n : Nat} (hn : n ≤ 7) (w : Int32) : ∀ (d j f : Nat) (g : Sg), j + d = n → d < f → g.1 3 = nI n → (∀ i, i < j → g.2 39 i = nI i) → ∃ g1, lup2 (B_X3_search_13 3) f w (nI j) g = lup3 (B_X3_search_45 3) FU w 1 0 g1 ∧ (∀ i, i < n → g1.2 39 i = nI i) ∧ (∀ j, j ≠ 39 → g1.2 j = g.2 j) ∧ g1.1 = g.1 := by
  intro d
  induction d with
  | zero =>
    intro j f g hj hf hs h1
    obtain ⟨f, rfl⟩ : ∃ t, f = t + 1 := ⟨f - 1, by omega⟩
    refine ⟨g, ?_, fun i hi => h1 i (by omega), fun _ _ => rfl, rfl⟩
    rw [lup2_s]
    generalize lup2 (B_X3_search_13 3) f = self
    unfold B_X3_search_13
    rw [hs, if_pos (nI_le (by omega) (by omega))]
  | succ d ih =>
    intro j f g hj hf hs h1
    obtain ⟨f, rfl⟩ : ∃ t, f = t + 1 := ⟨f - 1, by omega⟩
    obtain ⟨g1, e, a, b, c⟩ := ih (j + 1) f (sF g 39 (upd (g.2 39) j (nI j))) (by omega) (by omega) hs (fun i hi => by
      rw [sF2, if_pos rfl]
      by_cases q : i = j
      · subst q; exact upd_at _ _ _
      · rw [upd_ne _ _ q]; exact h1 i (by omega))
    refine ⟨g1, ?_, a, fun k hk => by rw [b k hk, sF2, if_neg hk], c⟩
    rw [lup2_s, ← e]
    generalize lup2 (B_X3_search_13 3) f = self
    unfold B_X3_search_13
    rw [hs, if_neg (nI_ge (show j < n by omega) (by omega)), lt_eq, rput7 _ _ (show j < 7 by omega), nI_1]
theorem mInit {n : Nat} (hn : n ≤ 7) (x1 x2 : Int32) : ∀ (d j f : Nat) (g : Sg), j + d = n → d < f → g.1 0 = nI n → (∀ i, i < j → g.2 22 i = nI i) → ∃ g1, lup3 B_X7_best_60 f x1 x2 (nI j) g = lup5 B_X7_best_91 FU x1 x2 (-9) (-9) 1 g1 ∧ (∀ i, i < n → g1.2 22 i = nI i) ∧ (∀ j, j ≠ 22 → g1.2 j = g.2 j) ∧ g1.1 = g.1 := by
  intro d
  induction d with
  | zero =>
    intro j f g hj hf hs h1
    obtain ⟨f, rfl⟩ : ∃ t, f = t + 1 := ⟨f - 1, by omega⟩
    refine ⟨g, ?_, fun i hi => h1 i (by omega), fun _ _ => rfl, rfl⟩
    rw [lup3_s]
    generalize lup3 B_X7_best_60 f = self
    unfold B_X7_best_60
    rw [hs, if_pos (nI_le (by omega) (by omega))]
    unfold B_X7_best_81
    rfl
  | succ d ih =>
    intro j f g hj hf hs h1
    obtain ⟨f, rfl⟩ : ∃ t, f = t + 1 := ⟨f - 1, by omega⟩
    obtain ⟨g1, e, a, b, c⟩ := ih (j + 1) f (sF g 22 (upd (g.2 22) j (nI j))) (by omega) (by omega) hs (fun i hi => by
      rw [sF2, if_pos rfl]
      by_cases q : i = j
      · subst q; exact upd_at _ _ _
      · rw [upd_ne _ _ q]; exact h1 i (by omega))
    refine ⟨g1, ?_, a, fun k hk => by rw [b k hk, sF2, if_neg hk], c⟩
    rw [lup3_s, ← e]
    generalize lup3 B_X7_best_60 f = self
    unfold B_X7_best_60
    rw [hs, if_neg (nI_ge (show j < n by omega) (by omega)), chk_ok (vpN (show j < 7 by omega) (by decide)), lt_eq, wrN _ _ (show j < 1000 by omega), nI_1]
theorem okAll {n : Nat} (hn : n ≤ 6) : okF n 720 (List.range n) = true := by
  rcases (show n = 0 ∨ n = 1 ∨ n = 2 ∨ n = 3 ∨ n = 4 ∨ n = 5 ∨ n = 6 by omega) with rfl | rfl | rfl | rfl | rfl | rfl | rfl
  · exact okF_0
  · exact okF_1
  · exact okF_2
  · exact okF_3
  · exact okF_4
  · exact okF_5
  · exact okF_6
theorem rangeD {n j : Nat} (hj : j < n) : (List.range n).getD j 0 = j := by
  rw [List.getD_eq_getElem?_getD, List.getElem?_range hj]; rfl
theorem best86 {gc gm : Sg} {n : Nat} (rA : RelA gc gm n) (r0 : Rel gc gm) (hn : n ≤ 6) {w x1 x2 : Int32} (hw : (w = 0 ∧ x1 = 0) ∨ (w = 1 ∧ x1 = 1)) (hx2 : x2 = -1 ∨ ∃ i, i < n ∧ x2 = nI i) : Ans Rel (B_X6_best_86 x2 w gc) (lup3 B_X7_best_60 FU x1 x2 0 gm) := by
  have hn7 : n ≤ 7 := by omega
  obtain ⟨g0, hg0⟩ : ∃ g0, g0 = sI (sI gc 38 0) 37 0 := ⟨_, rfl⟩
  have g01 : ∀ j, j ≠ 37 → j ≠ 38 → g0.1 j = gc.1 j := fun j a b => by rw [hg0, sI1, if_neg a, sI1, if_neg b]
  have g038 : g0.1 38 = 0 := by rw [hg0, sI1, if_neg (by decide), sI1, if_pos rfl]
  have g02 : g0.2 = gc.2 := by rw [hg0]; rfl
  obtain ⟨h, e1, a1, b1, c1⟩ := cInit hn7 w n 0 FU g0 (by omega) (by unfold FU; omega) (by rw [g01 3 (by decide) (by decide)]; exact rA.2.1) (fun i hi => absurd hi (Nat.not_lt_zero i))
  obtain ⟨m, e2, a2, b2, c2⟩ := mInit hn7 x1 x2 n 0 FU gm (by omega) (by unfold FU; omega) rA.2.2.1 (fun i hi => absurd hi (Nat.not_lt_zero i))
  have e1 : lup2 (B_X3_search_13 3) FU w 0 g0 = _ := e1
  have e2 : lup3 B_X7_best_60 FU x1 x2 0 gm = _ := e2
  have bb : ∀ j, j ≠ 39 → h.2 j = gc.2 j := fun j hj => by rw [b1 j hj, g02]
  have cc : ∀ j, j ≠ 37 → j ≠ 38 → h.1 j = gc.1 j := fun j x y => by rw [c1]; exact g01 j x y
  have s : So n (mv gm) gc gm (List.range n) h m := ⟨⟨List.length_range, fun j hj => by rw [rangeD hj]; exact hj, fun j hj => by rw [rangeD hj]; exact a1 j hj⟩, fun j hj => (a1 j hj).trans (a2 j hj).symm, ⟨fun j hj => bb j (by omega), fun j hj => cc j (by omega) (by omega), fun z => z.fr (fun j x y => bb j (by omega))⟩, ⟨mv_fr (fun j hj => b2 j (by omega)), by rw [c2]; exact rA.2.2.1, fun j hj => b2 j (by omega), fun j _ => by rw [c2]⟩⟩
  obtain ⟨h1, m1, y3, y4, d1, d2, R, q1, q2⟩ := bestLoop rA hn hw hx2 720 0 FU FU (List.range n) h m (-9) (-9) (by decide) (by unfold FU; omega) (by unfold FU; omega) (okAll hn) s (Or.inl ⟨by rw [c1]; exact g038, rfl, rfl⟩)
  have d1 : lup3 (B_X3_search_45 3) FU w 1 0 h = _ := d1
  have e3 : M_X3_search 3 w gc = some h1 := by
    unfold M_X3_search
    rw [lt_eq, lt_eq, ← hg0, e1, d1]
  unfold B_X6_best_86
  rw [e3, bV_some, e2, d2]
  rcases R with ⟨a, b, c⟩ | ⟨a, b, b2, c⟩
  · rw [if_pos a, c]
    exact Ans.q r0 q1 q2.q
  · rw [if_neg (show ¬ h1.1 38 = 0 by rw [a]; decide), c]
    rcases hx2 with q | ⟨i, hi, q⟩
    · have q0 : ¬ 0 ≤ x2 := by rw [q]; decide
      rw [if_neg q0, if_neg q0, b]
      exact Ans.q r0 q1 q2.q
    · have q0 : 0 ≤ x2 := by rw [q]; exact nI_pos' (by omega)
      have qx : ix x2 = i := by rw [q]; exact nI_clamp (by omega)
      have qr : rat h1 38 7 x2 = h1.2 38 i := by rw [q]; exact rat7 h1 38 (by omega)
      rw [if_pos q0, if_pos q0, qr, qx]
      exact Ans.q r0 q1 q2.q
theorem op_best (gc gm : Sg) (x y : Int32) (r : Rel gc gm) : Ans Rel (M_X6_best x y gc) (M_X7_best x y gm) := by
  have r0 := r
  obtain ⟨⟨n, rA⟩, -⟩ := r
  have hn := rA.1.1
  have main : ∀ w : Int32, ((w = 0 ∧ x = 0) ∨ (w = 1 ∧ x = 1)) → (if x = 1 then B_X6_best_86 y 1 gc else B_X6_best_86 y 0 gc) = B_X6_best_86 y w gc → Ans Rel (B_X6_best_16 x y gc) (if (gm.1 0) ≤ 6 then (if (-1) ≤ y then (if y < (gm.1 0) then lup3 B_X7_best_60 FU x y 0 gm else bI (M_X7_no (-1) gm) (fun r_1 g_2 => some (r_1, g_2))) else bI (M_X7_no (-4) gm) (fun r_3 g_4 => some (r_3, g_4))) else bI (M_X7_no (-3) gm) (fun r_5 g_6 => some (r_5, g_6))) := by
    intro w hw ew
    unfold B_X6_best_16
    rw [ew, rA.2.1, rA.2.2.1]
    by_cases c6 : nI n ≤ 6
    · rw [if_pos c6, if_pos c6]
      have hn6 : n ≤ 6 := (nI_leI (by omega) (by decide)).mp (show nI n ≤ nI 6 from c6)
      by_cases c1 : (-1) ≤ y
      · rw [if_pos c1, if_pos c1]
        by_cases c2 : y < nI n
        · rw [if_pos c2, if_pos c2]
          refine best86 rA r0 hn6 hw ?_
          rw [i_le] at c1
          rw [i_lt, T_nI (by omega)] at c2
          have t1 : (-1 : Int32).toInt = -1 := by decide
          rw [t1] at c1
          by_cases z : y.toInt = -1
          · exact Or.inl (i_eq (by rw [z, t1]))
          · exact Or.inr (i_rg (by omega) (by omega) c2)
        · rw [if_neg c2, if_neg c2]
          exact ref_ans r0 (-1) 1 (vpl (by decide)) (by decide)
      · rw [if_neg c1, if_neg c1]
        exact ref_ans r0 (-4) 4 (vpl (by decide)) (by decide)
    · rw [if_neg c6, if_neg c6]
      exact ref_ans r0 (-3) 3 (vpl (by decide)) (by decide)
  unfold M_X6_best M_X7_best
  rw [within_e]
  by_cases z0 : x = 0
  · have a : ¬ x < 0 := by rw [z0]; decide
    have b : ¬ 1 < x := by rw [z0]; decide
    rw [if_pos z0, if_neg a, if_neg b, if_neg (show ¬ (1 : Int32) = 0 by decide)]
    exact main 0 (Or.inl ⟨rfl, z0⟩) (if_neg (by rw [z0]; decide))
  · rw [if_neg z0]
    by_cases z1 : x = 1
    · have a : ¬ x < 0 := by rw [z1]; decide
      have b : ¬ 1 < x := by rw [z1]; decide
      rw [if_pos z1, if_neg a, if_neg b, if_neg (show ¬ (1 : Int32) = 0 by decide)]
      exact main 1 (Or.inr ⟨rfl, z1⟩) (if_pos z1)
    · rw [if_neg z1]
      have q : (if x < 0 then (0 : Int32) else if 1 < x then 0 else 1) = 0 := by
        by_cases a : x < 0
        · rw [if_pos a]
        · rw [if_neg a]
          by_cases b : 1 < x
          · rw [if_pos b]
          · exfalso
            rw [i_lt, T_0] at a
            have t1 : (1 : Int32).toInt = 1 := rfl
            rw [i_lt, t1] at b
            by_cases c : x.toInt = 0
            · exact z0 (i_eq (by rw [c]; rfl))
            · exact z1 (i_eq (by rw [t1]; omega))
      rw [if_pos q]
      exact ref_ans r0 (-2) 2 (vpl (by decide)) (by decide)
