/-! The nets -/
theorem owIn {V : Vw} {n : Nat} (hv : VOK V n) (kb34 : Int32 → Int32 → Sg → Option Sg) {h : Nat} (hh : h < 12) : ∀ (d j f : Nat) (x1 : Int32) (g : Sg), j + d = n → d < f → mv g = V → g.1 0 = nI n → OW V n (seqH V no n h ++ seqJ V no h j) x1 g → ∃ g1 x2, lup3 (B_X7_owe_42 kb34) f x1 (nI h) (nI j) g = kb34 x2 (nI (h + 1)) g1 ∧ OW V n (seqH V no n (h + 1)) x2 g1 ∧ QM g g1 := by
  have hn := hv.1
  intro d
  induction d with
  | zero =>
    intro j f x1 g hj hf hV hs o
    obtain ⟨f, rfl⟩ : ∃ t, f = t + 1 := ⟨f - 1, by omega⟩
    obtain rfl : j = n := by omega
    refine ⟨g, x1, ?_, o, QM.rf g⟩
    rw [lup3_s]
    generalize lup3 (B_X7_owe_42 kb34) f = self
    unfold B_X7_owe_42
    rw [hs, if_pos (nI_le (by omega) (by omega)), nI_1]
  | succ d ih =>
    intro j f x1 g hj hf hV hs o
    obtain ⟨f, rfl⟩ : ∃ t, f = t + 1 := ⟨f - 1, by omega⟩
    have hjn : j < n := by omega
    rw [lup3_s]
    by_cases c : V 5 j = nI h
    · obtain ⟨g8, e, o8, q8⟩ := OW.step (n := n) (i := j) kb34 (lup3 (B_X7_owe_42 kb34) f) hv (fun i hi => by
        rcases List.mem_append.mp hi with a | a
        · exact (memH a).1
        · have := (memJ a).1; omega) hV hs hjn (fun hm => by
        rcases List.mem_append.mp hm with a | a
        · obtain ⟨-, -, k, hk, ek⟩ := memH a
          rw [c] at ek
          have := nI_eq' (by omega) (by omega) ek
          omega
        · have := (memJ a).1; omega) c o
      rw [e]
      obtain ⟨g1, x2, e1, o1, q1⟩ := ih (j + 1) f (nI j) g8 (by omega) (by omega) (q8.mv.trans hV) ((q8.2 0 (by omega)).trans hs) (by rw [seqJ_yes c rfl, ← List.append_assoc]; exact o8)
      exact ⟨g1, x2, e1, o1, q8.trans q1⟩
    · obtain ⟨g1, x2, e1, o1, q1⟩ := ih (j + 1) f x1 g (by omega) (by omega) hV hs (by rw [seqJ_no (Or.inl c)]; exact o)
      refine ⟨g1, x2, ?_, o1, q1⟩
      rw [← e1]
      generalize lup3 (B_X7_owe_42 kb34) f = self
      have q5 : ¬ rd g 5 (nI j) = nI h := by rw [rdN _ _ (by omega)]; intro e; exact c (by rw [← hV]; exact e)
      unfold B_X7_owe_42
      rw [hs, if_neg (nI_ge hjn (by omega)), chk_ok (vpN (by omega) (by decide)), if_neg q5, nI_1]
theorem owOut {V : Vw} {n : Nat} (hv : VOK V n) : ∀ (d h f : Nat) (x1 : Int32) (g : Sg), h + d = 12 → d < f → mv g = V → g.1 0 = nI n → OW V n (seqH V no n h) x1 g → ∃ g1 x2, lup2 B_X7_owe_34 f x1 (nI h) g = some g1 ∧ OW V n (seqH V no n 12) x2 g1 ∧ QM g g1 := by
  intro d
  induction d with
  | zero =>
    intro h f x1 g hh hf hV hs o
    obtain ⟨f, rfl⟩ : ∃ t, f = t + 1 := ⟨f - 1, by omega⟩
    obtain rfl : h = 12 := by omega
    refine ⟨g, x1, ?_, o, QM.rf g⟩
    rw [lup2_s]
    generalize lup2 B_X7_owe_34 f = self
    unfold B_X7_owe_34
    rw [if_pos (show (12 : Int32) ≤ nI 12 by decide)]
  | succ d ih =>
    intro h f x1 g hh hf hV hs o
    obtain ⟨f, rfl⟩ : ∃ t, f = t + 1 := ⟨f - 1, by omega⟩
    obtain ⟨g1, x2, e1, o1, q1⟩ := owIn hv (lup2 B_X7_owe_34 f) (h := h) (by omega) n 0 FU x1 g (by omega) (by have := hv.1; unfold FU; omega) hV hs (by rw [seqJ_0, List.append_nil]; exact o)
    obtain ⟨g2, x3, e2, o2, q2⟩ := ih (h + 1) f x2 g1 (by omega) (by omega) (q1.mv.trans hV) ((q1.2 0 (by omega)).trans hs) o1
    refine ⟨g2, x3, ?_, o2, q1.trans q2⟩
    rw [lup2_s, ← e2]
    have e1 : lup3 (B_X7_owe_42 (lup2 B_X7_owe_34 f)) FU x1 (nI h) 0 g = _ := e1
    generalize lup2 B_X7_owe_34 f = self at e1 ⊢
    unfold B_X7_owe_34
    rw [if_neg (show ¬ (12 : Int32) ≤ nI h from (nI_ge (show h < 12 by omega) (by decide) : ¬ nI 12 ≤ nI h)), e1]
theorem ow8 {V : Vw} {n : Nat} (hn : n ≤ 7) : ∀ (d i f : Nat) (g : Sg), i + d = n → d < f → mv g = V → g.1 0 = nI n → Am V 1 (-1) [] g → (∀ j, j < i → g.2 21 j = 0) → ∃ h, lup1 B_X7_owe_8 f (nI i) g = lup2 B_X7_owe_34 FU (-9) 0 h ∧ OW V n [] (-9) h ∧ QM g h := by
  intro d
  induction d with
  | zero =>
    intro i f g hi hf hV hs A h1
    obtain ⟨f, rfl⟩ : ∃ t, f = t + 1 := ⟨f - 1, by omega⟩
    obtain rfl : i = n := by omega
    refine ⟨g, ?_, ⟨A, Or.inl ⟨rfl, rfl⟩, h1⟩, QM.rf g⟩
    rw [lup1_s]
    generalize lup1 B_X7_owe_8 f = self
    unfold B_X7_owe_8
    rw [hs, if_pos (nI_le (by omega) (by omega))]
  | succ d ih =>
    intro i f g hi hf hV hs A h1
    obtain ⟨f, rfl⟩ : ∃ t, f = t + 1 := ⟨f - 1, by omega⟩
    have hi7 : i < 7 := by omega
    obtain ⟨h, e, a, b⟩ := ih (i + 1) f (sF g 21 (upd (g.2 21) i 0)) (by omega) (by omega) (by rw [mv_sF (by decide)]; exact hV) hs A (fun j hj => by
      rw [sF2, if_pos rfl]
      by_cases q : j = i
      · subst q; exact upd_at _ _ _
      · rw [upd_ne _ _ q]; exact h1 j (by omega))
    refine ⟨h, ?_, a, QM.trans (h := sF g 21 (upd (g.2 21) i 0)) ⟨fun j hj => by rw [sF2, if_neg (by omega)], fun _ _ => rfl⟩ b⟩
    rw [lup1_s, ← e]
    generalize lup1 B_X7_owe_8 f = self
    unfold B_X7_owe_8
    rw [hs, if_neg (nI_ge (show i < n by omega) (by omega)), chk_ok (vpN hi7 (by decide)), lt_eq, wrN _ _ (by omega), nI_1]
theorem mOwe {gm : Sg} {n : Nat} (hv : VOK (mv gm) n) (hs : gm.1 0 = nI n) : ∃ h x2, M_X7_owe gm = some h ∧ OW (mv gm) n (seqH (mv gm) no n 12) x2 h ∧ QM gm h := by
  obtain ⟨h0, e0, A0, F0⟩ := mSets1 gm (-1)
  obtain ⟨h1, e1, o1, q1⟩ := ow8 (V := mv gm) hv.1 n 0 FU h0 (by omega) (by have := hv.1; unfold FU; omega) F0.mv ((F0.2 0 (by omega)).trans hs) A0 (fun j hj => absurd hj (Nat.not_lt_zero j))
  have e1 : lup1 B_X7_owe_8 FU 0 h0 = _ := e1
  obtain ⟨h2, x2, e2, o2, q2⟩ := owOut hv 12 0 FU (-9) h1 (by decide) (by unfold FU; omega) ((q1.mv).trans F0.mv) ((q1.2 0 (by omega)).trans ((F0.2 0 (by omega)).trans hs)) o1
  have e2 : lup2 B_X7_owe_34 FU (-9) 0 h1 = _ := e2
  refine ⟨h2, x2, ?_, o2, F0.q.trans (q1.trans q2)⟩
  unfold M_X7_owe
  rw [e0, bV_some, e1, e2]
/-- both reckon the same nets -/
theorem nets {gc gm : Sg} {n : Nat} (rA : RelA gc gm n) : ∃ v gc1 gc2 gm2, M_X5_byHours 3 gc = some (v, gc1) ∧ M_X1_reckon 3 gc1 = some gc2 ∧ M_X7_owe gm = some gm2 ∧ QC gc gc2 ∧ QM gm gm2 ∧ (∀ j, j < n → gc2.2 41 j = gm2.2 21 j) := by
  have hv := rA.1
  obtain ⟨v, gc1, gm1, e1, B, F, -⟩ := both rA
  have hV : cv gc1 3 = mv gm := (F.cv (by decide)).trans rA.2.2.2.2.1
  obtain ⟨gc2, e2, N, a, b⟩ := cRk (nodupH (mv gm) no n 12 (by decide)) (seq7 hv) (seqLen hv) hV B.2.1
  obtain ⟨gm2, x2, e3, o, q⟩ := mOwe hv rA.2.2.1
  refine ⟨v, gc1, gc2, gm2, e1, e2, e3, F.q.trans ⟨fun j hj => a j (by omega), fun j hj => by rw [b], fun z => z.fr (fun j x y => a j (by omega))⟩, q, fun j hj => ?_⟩
  rw [N j (by have := hv.1; omega), o.2.2 j hj]
theorem op_net (gc gm : Sg) (x : Int32) (r : Rel gc gm) : Ans Rel (M_X6_net x gc) (M_X7_net x gm) := by
  have r0 := r
  obtain ⟨⟨n, rA⟩, -⟩ := r
  unfold M_X6_net M_X7_net
  rcases goer_or rA x with ⟨i, hi, rfl, h1, h2⟩ | ⟨h1, h2⟩
  · rw [if_neg h1, if_neg h2]
    have hn := rA.1.1
    have i7 : i < 7 := by omega
    obtain ⟨v, gc1, gc2, gm2, e1, e2, e3, q1, q2, N⟩ := nets rA
    rw [e1, bI_some, e2, bV_some, e3, bV_some, chk_ok (vpN i7 (by decide)), rat7 _ _ i7, rdN _ _ (by omega), N i hi]
    exact Ans.q r0 q1 q2
  · rw [if_pos h1, if_pos h2]
    exact refM_ans r0 (-1) 1 (vpl (by decide)) (by decide)
