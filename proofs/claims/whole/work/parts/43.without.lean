/-! One goer sent home -/
def upI (i j : Nat) : Nat := if j < i then j else j + 1
def Like (A B : Vw) (a b : Nat) : Prop := A 0 = B 0 ∧ A 1 a = B 1 b ∧ A 2 a = B 2 b ∧ A 3 a = B 3 b ∧ A 4 a = B 4 b ∧ A 5 a = B 5 b
theorem Like.tk {A B : Vw} {a b m : Nat} {W U : Wk} (h : Like A B a b) (hk : Alk m W U) : pTk A m W a = pTk B m U b := by
  rw [hk.t a]
  obtain ⟨h0, h1, h2, h3, h4, h5⟩ := h
  unfold pTk pFet
  rw [h1, h2, h3]
theorem Like.car {A B : Vw} {a b : Nat} (h : Like A B a b) (x : Int32) : pCar A a x = pCar B b x := by
  obtain ⟨h0, h1, h2, h3, h4, h5⟩ := h
  unfold pCar
  rw [h1, h2, h4]
theorem Like.brg {A B : Vw} {a b : Nat} (h : Like A B a b) (x : Int32) : pBrg A a x = pBrg B b x := by
  obtain ⟨h0, h1, h2, h3, h4, h5⟩ := h
  unfold pBrg
  rw [h0, h1, h3]
theorem Like.dst {A B : Vw} {a b : Nat} (h : Like A B a b) : pDst A a = pDst B b := by
  obtain ⟨h0, h1, h2, h3, h4, h5⟩ := h
  unfold pDst
  rw [h0, h1]
theorem Like.wl {A B : Vw} {a b : Nat} (h : Like A B a b) (x : Int32) : pWl A a x = pWl B b x := by
  unfold pWl
  rw [h.car, h.brg]
theorem Like.wo {A B : Vw} {a b : Nat} (h : Like A B a b) (x : Int32) : pWo A a x = pWo B b x := by
  unfold pWo
  rw [h.car, h.2.2.2.1, h.2.2.2.2.1]
def Same (W U : Wk) : Prop := W 4 = U 4 ∧ W 5 = U 5 ∧ W 9 1 = U 9 1
theorem Like.go {A B : Vw} {a b m : Nat} {W U : Wk} (h : Like A B a b) (s : Same W U) : Same (goW A m W a) (goW B m U b) := by
  have hk : Alk m W U := ⟨by rw [s.1], by rw [s.2.1], fun _ => ⟨by rw [s.1], by rw [s.2.1]⟩⟩
  have e1 := h.tk hk
  have eD : wD A m W a = wD B m U b := by
    unfold wD
    rw [e1, s.1, s.2.1, h.wo, h.wl, h.2.2.2.1, h.2.2.2.2.1]
  refine ⟨?_, ?_, ?_⟩
  · show wC A m W a = wC B m U b
    unfold wC
    rw [e1, s.1, h.car, h.brg]
  · show wO A m W a = wO B m U b
    unfold wO
    rw [e1, s.1, s.2.1, h.wl]
  · show W 9 1 + wD A m W a * pDst A a = U 9 1 + wD B m U b * pDst B b
    rw [s.2.2, eD, h.dst]
theorem Same.run {A B : Vw} {m : Nat} {c1 : Int32} {u : Nat → Nat} (h0 : A 0 = B 0) : ∀ gs : List Nat, (∀ j, j ∈ gs → Like A B (u j) j) → Same (runW A m c1 (gs.map u)) (runW B m c1 gs) := by
  refine runW_snoc_ind (P := fun gs => (∀ j, j ∈ gs → Like A B (u j) j) → Same (runW A m c1 (gs.map u)) (runW B m c1 gs)) (fun _ => ?_) (fun gs i ih h => ?_)
  · refine ⟨?_, ?_, rfl⟩
    · show (fun j => if j = 0 then A 0 0 else c1) = fun j => if j = 0 then B 0 0 else c1
      rw [h0]
    · show (fun _ => A 0 1) = fun _ => B 0 1
      rw [h0]
  · rw [List.map_append, runW_app]
    show Same (runW A m c1 (gs.map u ++ [u i])) _
    rw [runW_app]
    exact (h i (List.mem_append_right _ (List.mem_singleton.mpr rfl))).go (ih (fun j hj => h j (List.mem_append_left _ hj)))
theorem seqUpJ {A B : Vw} {i n h : Nat} (hl : ∀ j, j < n → A 5 (upI i j) = B 5 j) : ∀ j, j ≤ n → (seqJ B no h j).map (upI i) = seqJ A (fun q => decide (q = i)) h (upI i j)
  | 0, _ => by
    by_cases e : i = 0
    · subst e
      show [] = seqJ A _ h 1
      rw [seqJ_no (Or.inr (by simp))]; rfl
    · have e2 : upI i 0 = 0 := by unfold upI; rw [if_pos (by omega)]
      rw [e2]; rfl
  | j + 1, hj => by
    have ih := seqUpJ (A := A) (B := B) (i := i) (n := n) (h := h) hl j (by omega)
    have hne : ¬ upI i j = i := by unfold upI; split <;> omega
    have hs : seqJ A (fun q => decide (q = i)) h (upI i (j + 1)) = seqJ A (fun q => decide (q = i)) h (upI i j + 1) := by
      by_cases c : j + 1 = i
      · have e1 : upI i (j + 1) = i + 1 := by unfold upI; rw [if_neg (by omega)]; omega
        have e2 : upI i j + 1 = i := by unfold upI; rw [if_pos (by omega)]; exact c
        rw [e1, e2, seqJ_no (Or.inr (by simp))]
      · have e1 : upI i (j + 1) = upI i j + 1 := by unfold upI; split <;> split <;> omega
        rw [e1]
    rw [hs]
    by_cases c : B 5 j = nI h
    · rw [seqJ_yes c rfl, seqJ_yes (by rw [hl j (by omega)]; exact c) (by simp [hne]), List.map_append, ih]; rfl
    · rw [seqJ_no (Or.inl c), seqJ_no (Or.inl (by rw [hl j (by omega)]; exact c)), ih]
theorem seqUp {A B : Vw} {i n : Nat} (hi : i ≤ n) (hl : ∀ j, j < n → A 5 (upI i j) = B 5 j) : ∀ h, (seqH B no n h).map (upI i) = seqH A (fun q => decide (q = i)) (n + 1) h
  | 0 => rfl
  | h + 1 => by
    have e : upI i n = n + 1 := by unfold upI; rw [if_neg (by omega)]
    have w := seqUpJ (h := h) hl n (Nat.le_refl n)
    rw [e] at w
    show (seqH B no n h ++ seqJ B no h n).map (upI i) = seqH A _ (n + 1) h ++ seqJ A _ h (n + 1)
    rw [List.map_append, seqUp hi hl h, w]
def ShI (V W : Vw) (i q : Nat) : Prop := W 0 = V 0 ∧ ∀ k, 1 ≤ k → k ≤ 5 → ∀ j, W k j = if i ≤ j ∧ j < q then V k (j + 1) else V k j
def Sh5 (q : Nat) (W : Vw) : Vw := Up 5 q (Up 4 q (Up 3 q (Up 2 q (Up 1 q W (W 1 (q + 1))) (W 2 (q + 1))) (W 3 (q + 1))) (W 4 (q + 1))) (W 5 (q + 1))
theorem ShI.step {V W : Vw} {i q : Nat} (hq : i ≤ q) (h : ShI V W i q) : ShI V (Sh5 q W) i (q + 1) := by
  refine ⟨h.1, fun k h1 h2 j => ?_⟩
  have e : Sh5 q W k = upd (W k) q (W k (q + 1)) := by
    rcases (show k = 1 ∨ k = 2 ∨ k = 3 ∨ k = 4 ∨ k = 5 by omega) with rfl | rfl | rfl | rfl | rfl <;> rfl
  rw [e]
  by_cases c : j = q
  · subst c
    rw [upd_at, h.2 k h1 h2, if_neg (by omega), if_pos (by omega)]
  · rw [upd_ne _ _ c, h.2 k h1 h2]
    by_cases d : i ≤ j ∧ j < q
    · rw [if_pos d, if_pos (by omega)]
    · rw [if_neg d, if_neg (by omega)]
theorem Tr.sh {V : Vw} {n : Nat} {gc h : Sg} {q : Nat} (t : Tr V n (-1) gc h) (hq : q + 1 < 7) (kb : Int32 → Int32 → Sg → Option Sg) (x : Int32) (hc : ¬ h.1 17 - 1 ≤ nI q) : ∃ h1, B_X0_sendHome_2 17 kb x (nI q) h = kb x (nI (q + 1)) h1 ∧ Tr (Sh5 q V) n (-1) gc h1 := by
  have q7 : q < 7 := by omega
  have w := fun (k : Nat) (hk : k < 6) => congrFun (congrFun t.1 k) (q + 1)
  have t1 := t.up (k := 1) (i := q) (by decide) q7 (V 1 (q + 1))
  have t2 := t1.up (k := 2) (i := q) (by decide) q7 (V 2 (q + 1))
  have t3 := t2.up (k := 3) (i := q) (by decide) q7 (V 3 (q + 1))
  have t4 := t3.up (k := 4) (i := q) (by decide) q7 (V 4 (q + 1))
  have t5 := t4.up (k := 5) (i := q) (by decide) q7 (V 5 (q + 1))
  refine ⟨_, ?_, t5⟩
  have w1 : h.2 (17 + 2) (q + 1) = V 1 (q + 1) := w 1 (by decide)
  have w2 : h.2 (17 + 3) (q + 1) = V 2 (q + 1) := w 2 (by decide)
  have w3 : h.2 (17 + 4) (q + 1) = V 3 (q + 1) := w 3 (by decide)
  have w4 : h.2 (17 + 5) (q + 1) = V 4 (q + 1) := w 4 (by decide)
  have w5 : h.2 (17 + 6) (q + 1) = V 5 (q + 1) := w 5 (by decide)
  unfold B_X0_sendHome_2
  rw [if_neg hc]
  simp only [lt_eq, nI_1, rat7 _ _ hq, rput7 _ _ q7, sF2, Nat.reduceAdd, Nat.reduceEqDiff, if_false, if_true] at w1 w2 w3 w4 w5 ⊢
  rw [w1, w2, w3, w4, w5]
theorem shHome {V : Vw} {n i : Nat} {gc : Sg} (hn : n ≤ 7) (hi : i < n) : ∀ (d q f : Nat) (h : Sg) (W : Vw), q + 1 + d = n → i ≤ q → d < f → Tr W n (-1) gc h → ShI V W i q → ∃ h1 W1, lup2 (B_X0_sendHome_2 17) f (nI i) (nI q) h = some h1 ∧ Tr W1 (n - 1) (-1) gc h1 ∧ ShI V W1 i (n - 1) := by
  intro d
  induction d with
  | zero =>
    intro q f h W hq hiq hf t s
    obtain ⟨f, rfl⟩ : ∃ t, f = t + 1 := ⟨f - 1, by omega⟩
    have hs : h.1 17 = nI n := t.2.1
    have e1 : nI n - 1 = nI (n - 1) := by
      apply i_eq
      have t1 : (1 : Int32).toInt = 1 := rfl
      rw [T_sub (by rw [t1, T_nI (by omega)]; omega) (by rw [t1, T_nI (by omega)]; omega), t1, T_nI (by omega), T_nI (by omega)]
      omega
    rw [lup2_s]
    generalize lup2 (B_X0_sendHome_2 17) f = self
    unfold B_X0_sendHome_2
    rw [hs, e1, if_pos (nI_le (by omega) (by omega))]
    unfold B_X0_sendHome_108
    have hk : ¬ V_X0_knows 17 (nI i) h = 0 := by
      rw [knows_e, if_neg (nI_pos (by omega)), hs, if_neg (nI_ge hi (by omega))]; decide
    rw [if_neg hk, lt_eq, hs, e1]
    refine ⟨_, W, rfl, ⟨t.1, rfl, ?_, t.2.2.2.1, t.2.2.2.2.1, fun j hj => ?_, t.2.2.2.2.2.2⟩, ?_⟩
    · rw [sI1, if_neg (by decide)]; exact t.2.2.1
    · rw [sI1, if_neg (by omega)]; exact t.2.2.2.2.2.1 j hj
    · have e : n - 1 = q := by omega
      rw [e]; exact s
  | succ d ih =>
    intro q f h W hq hiq hf t s
    obtain ⟨f, rfl⟩ : ∃ t, f = t + 1 := ⟨f - 1, by omega⟩
    have hs : h.1 17 = nI n := t.2.1
    have hc : ¬ h.1 17 - 1 ≤ nI q := by
      have t1 : (1 : Int32).toInt = 1 := rfl
      rw [hs, i_le, T_sub (by rw [t1, T_nI (by omega)]; omega) (by rw [t1, T_nI (by omega)]; omega), t1, T_nI (by omega), T_nI (by omega)]
      omega
    obtain ⟨h1, e1, t1⟩ := t.sh (q := q) (by omega) (lup2 (B_X0_sendHome_2 17) f) (nI i) hc
    obtain ⟨h2, W2, e2, r⟩ := ih (q + 1) f h1 (Sh5 q W) (by omega) (by omega) (by omega) t1 (s.step hiq)
    exact ⟨h2, W2, by rw [lup2_s, e1, e2], r⟩
theorem op_without (gc gm : Sg) (x : Int32) (r : Rel gc gm) : Ans Rel (M_X6_without x gc) (M_X7_without x gm) := by
  have r0 := r
  obtain ⟨⟨n, rA⟩, -⟩ := r
  unfold M_X6_without M_X7_without
  rcases goer_or rA x with ⟨i, hi, rfl, h1, h2⟩ | ⟨h1, h2⟩
  · rw [if_neg h1, if_neg h2]
    have hv := rA.1
    have hn := hv.1
    obtain ⟨h, e, t⟩ := tri2 rA
    obtain ⟨h1, W, e1, t1, s1⟩ := shHome (V := mv gm) hn hi (n - (i + 1)) i FU h (mv gm) (by omega) (by omega) (by unfold FU; omega) t ⟨rfl, fun k _ _ j => by rw [if_neg (by omega)]⟩
    have e1 : M_X0_sendHome 17 (nI i) h = _ := e1
    obtain ⟨v1, g1, ea, B1, F1⟩ := cBy al_3 (g := h1) (n := n) hn (by rw [t1.2.2.2.2.2.1 3 (by omega)]; exact rA.2.1)
    have a3 : cv h1 3 = mv gm := (t1.2.2.2.2.cv3).trans rA.2.2.2.2.1
    have b3 : h1.1 (3 + 1) = -1 := by rw [t1.2.2.2.2.2.1 4 (by omega)]; exact rA.2.2.2.1
    rw [a3, b3] at B1
    have t2 : Tr W (n - 1) (-1) gc g1 := ⟨(F1.cv (by decide)).trans t1.1, (F1.2 17 (by omega)).trans t1.2.1, (F1.2 18 (by omega)).trans t1.2.2.1, t1.2.2.2.1.fr (fun j a b => F1.1 j (by omega)), t1.2.2.2.2.trans F1.q⟩
    obtain ⟨g2, e2, t3, -⟩ := t2.by (by omega)
    rw [lamps1] at e2
    obtain ⟨m0, em, tm⟩ := (Mt.rf rA.2.2.1).cost hv
    obtain ⟨m1, er, R, G⟩ := mRunBut (n := n) (i := i) (g := m0) (-1) (by rw [tm.1]; exact hv) tm.2.1 (by omega)
    rw [tm.1] at R
    have tm1 := tm.fr G
    have ec := mCost (tm1.1) (nodupH (mv gm) (fun j => decide (j = i)) n 12 (by decide)) (seq7 hv) R.1
    have hl : ∀ j, j < n - 1 → ∀ k, 1 ≤ k → k ≤ 5 → mv gm k (upI i j) = W k j := fun j hj k k1 k2 => by
      rw [s1.2 k k1 k2 j]
      unfold upI
      by_cases c : j < i
      · rw [if_pos c, if_neg (by omega)]
      · rw [if_neg c, if_pos (by omega)]
    have hq := seqUp (A := mv gm) (B := W) (i := i) (n := n - 1) (by omega) (fun j hj => hl j hj 5 (by decide) (by decide)) 12
    have en : n - 1 + 1 = n := by omega
    rw [en] at hq
    have hsame := Same.run (A := mv gm) (B := W) (m := 1) (c1 := -1) (u := upI i) s1.1.symm (seqH W no (n - 1) 12) (fun j hj => by
      have hj := (memH hj).1
      exact ⟨s1.1.symm, hl j hj 1 (by decide) (by decide), hl j hj 2 (by decide) (by decide), hl j hj 3 (by decide) (by decide), hl j hj 4 (by decide) (by decide), hl j hj 5 (by decide) (by decide)⟩)
    rw [hq] at hsame
    have ed : co W (n - 1) 1 (-1) = runW (mv gm) 1 (-1) (seqH (mv gm) (fun j => decide (j = i)) n 12) 9 1 := hsame.2.2.symm
    rw [lt_eq, e, e1, bV_some, ea, bI_some, e2, bI_some, em, bI_some, er, bV_some, ec, bI_some, B1.1, ed]
    exact Ans.q r0 t3.2.2.2.2 tm1.q
  · rw [if_pos h1, if_pos h2]
    exact refM_ans r0 (-1) 1 (vpl (by decide)) (by decide)
