/-! The reckoning, both -/
theorem cRk2 : ∀ (d i f : Nat) (g : Sg), i + d = 7 → d < f → (∀ j, j < i → g.2 41 j = 0) → ∃ h, lup1 (B_X1_reckon_2 3) f (nI i) g = lup1 (B_X1_reckon_25 3) FU 0 h ∧ (∀ j, j < 7 → h.2 41 j = 0) ∧ (∀ j, j ≠ 41 → h.2 j = g.2 j) ∧ h.1 = g.1 := by
  intro d
  induction d with
  | zero =>
    intro i f g hi hf h1
    obtain ⟨f, rfl⟩ : ∃ t, f = t + 1 := ⟨f - 1, by omega⟩
    obtain rfl : i = 7 := by omega
    refine ⟨g, ?_, h1, fun _ _ => rfl, rfl⟩
    rw [lup1_s]
    generalize lup1 (B_X1_reckon_2 3) f = self
    unfold B_X1_reckon_2
    rw [if_pos (show (7 : Int32) ≤ nI 7 by decide)]
  | succ d ih =>
    intro i f g hi hf h1
    obtain ⟨f, rfl⟩ : ∃ t, f = t + 1 := ⟨f - 1, by omega⟩
    have hi7 : i < 7 := by omega
    obtain ⟨h, e, a, b, c⟩ := ih (i + 1) f (sF g 41 (upd (g.2 41) i 0)) (by omega) (by omega) (fun j hj => by
      rw [sF2, if_pos rfl]
      by_cases q : j = i
      · subst q; exact upd_at _ _ _
      · rw [upd_ne _ _ q]; exact h1 j (by omega))
    refine ⟨h, ?_, a, fun j hj => by rw [b j hj, sF2, if_neg hj], c⟩
    rw [lup1_s, ← e]
    generalize lup1 (B_X1_reckon_2 3) f = self
    unfold B_X1_reckon_2
    rw [if_neg (show ¬ (7 : Int32) ≤ nI i from (nI_ge hi7 (by decide) : ¬ nI 7 ≤ nI i)), lt_eq, rput7 _ _ hi7, nI_1]
theorem cRk {V : Vw} {gs : List Nat} {G : Sg} (nd : gs.Nodup) (h7 : ∀ i, i ∈ gs → i < 7) (hl : gs.length ≤ 7) (hV : cv G 3 = V) (A : AgC V 1 (-1) gs G) : ∃ h, M_X1_reckon 3 G = some h ∧ (∀ j, j < 7 → h.2 41 j = nwk V gs (gs.length - 1) j) ∧ (∀ j, j ≠ 41 → h.2 j = G.2 j) ∧ h.1 = G.1 := by
  obtain ⟨g, e, a, b, c⟩ := cRk2 7 0 FU G (by decide) (by unfold FU; omega) (fun j hj => absurd hj (Nat.not_lt_zero j))
  have e : M_X1_reckon 3 G = _ := e
  rw [e]
  by_cases z : gs.length = 0
  · refine ⟨g, ?_, fun j hj => by rw [z]; exact a j hj, b, c⟩
    rw [FU_s, lup1_s]
    generalize lup1 (B_X1_reckon_25 3) 999 = self
    unfold B_X1_reckon_25
    rw [c, A.1.2, z, if_pos (by decide)]
  · exact cRk25 nd h7 hl hV A (gs.length - 1) 0 FU g (by omega) (by unfold FU; omega) b c a
theorem nwk_app {V : Vw} {gs : List Nat} {i : Nat} : ∀ k, k < gs.length → nwk V (gs ++ [i]) k = nwk V gs k
  | 0, _ => rfl
  | k + 1, hk => by
    have t : (gs ++ [i]).take (k + 1) = gs.take (k + 1) := List.take_append_of_le_length (by omega)
    have g1 : (gs ++ [i]).getD k 0 = gs.getD k 0 := by
      rw [List.getD_eq_getElem?_getD, List.getD_eq_getElem?_getD, List.getElem?_append_left (by omega)]
    have g2 : (gs ++ [i]).getD (k + 1) 0 = gs.getD (k + 1) 0 := by
      rw [List.getD_eq_getElem?_getD, List.getD_eq_getElem?_getD, List.getElem?_append_left (by omega)]
    show stN V _ _ _ _ = stN V _ _ _ _
    rw [t, g1, g2, nwk_app k (by omega)]
theorem getD_last {gs : List Nat} {i : Nat} : (gs ++ [i]).getD gs.length 0 = i := by
  rw [List.getD_eq_getElem?_getD, List.getElem?_append_right (Nat.le_refl _), Nat.sub_self]; rfl
theorem nwk_snoc {V : Vw} {gs : List Nat} {i : Nat} (h : gs.length ≠ 0) : nwk V (gs ++ [i]) gs.length = stN V gs (gs.getD (gs.length - 1) 0) i (nwk V gs (gs.length - 1)) := by
  obtain ⟨L, hL⟩ : ∃ L, gs.length = L + 1 := ⟨gs.length - 1, by omega⟩
  have t : (gs ++ [i]).take (L + 1) = gs := by rw [← hL]; exact List.take_left
  have g1 : (gs ++ [i]).getD L 0 = gs.getD L 0 := by
    rw [List.getD_eq_getElem?_getD, List.getD_eq_getElem?_getD, List.getElem?_append_left (by omega)]
  have g2 : (gs ++ [i]).getD (L + 1) 0 = i := by rw [← hL]; exact getD_last
  rw [hL]
  show stN V _ _ _ _ = _
  rw [t, g1, g2, nwk_app L (by omega), Nat.add_sub_cancel]
/-- the reference, after a sequence -/
def OW (V : Vw) (n : Nat) (gs : List Nat) (x1 : Int32) (g : Sg) : Prop := Am V 1 (-1) gs g ∧ (gs.length = 0 ∧ x1 = -9 ∨ gs.length ≠ 0 ∧ x1 = nI (gs.getD (gs.length - 1) 0)) ∧ ∀ j, j < n → g.2 21 j = nwk V gs (gs.length - 1) j
theorem had01 {V : Vw} {m : Nat} {c1 : Int32} {i : Nat} : ∀ gs : List Nat, runW V m c1 gs 3 i = 0 ∨ runW V m c1 gs 3 i = 1 := by
  refine runW_snoc_ind (P := fun gs => runW V m c1 gs 3 i = 0 ∨ runW V m c1 gs 3 i = 1) (Or.inl rfl) (fun gs j ih => ?_)
  rw [runW_app]
  show upd (runW V m c1 gs 3) j (wH V m (runW V m c1 gs) j) i = 0 ∨ upd (runW V m c1 gs 3) j (wH V m (runW V m c1 gs) j) i = 1
  by_cases e : i = j
  · subst e
    rw [upd_at]
    unfold wH
    split
    · exact Or.inl rfl
    · exact Or.inr rfl
  · rw [upd_ne _ _ e]; exact ih
theorem OW.step {V : Vw} {n : Nat} {gs : List Nat} {x1 x2 : Int32} {g : Sg} {i : Nat} (kb34 : Int32 → Int32 → Sg → Option Sg) (kb42 : Int32 → Int32 → Int32 → Sg → Option Sg) (hv : VOK V n) (h7 : ∀ i, i ∈ gs → i < n) (hV : mv g = V) (hs : g.1 0 = nI n) (hi : i < n) (hni : i ∉ gs) (h5 : V 5 i = x2) (o : OW V n gs x1 g) : ∃ g8, B_X7_owe_42 kb34 kb42 x1 x2 (nI i) g = kb42 (nI i) x2 (nI (i + 1)) g8 ∧ OW V n (gs ++ [i]) (nI i) g8 ∧ QM g g8 := by
  have hn := hv.1
  have i7 : i < 7 := by omega
  obtain ⟨A, x, N⟩ := o
  have hb : BdW 1 (runW V 1 (-1) gs) := runW_bd (OKW1 hv (-1)) gs (fun j hj => ⟨by have := h7 j hj; omega, hv.g (h7 j hj)⟩)
  have hlast : (gs ++ [i]).length ≠ 0 ∧ nI i = nI ((gs ++ [i]).getD ((gs ++ [i]).length - 1) 0) := by
    rw [lenS, Nat.add_sub_cancel, getD_last]; exact ⟨by omega, rfl⟩
  have q5 : rd g 5 (nI i) = x2 := by rw [rdN _ _ (by omega), ← h5, ← hV]; rfl
  -- without a debt
  have plain : (∀ j, j < 7 → nwk V (gs ++ [i]) gs.length j = nwk V gs (gs.length - 1) j) → ∃ g8, M_X7_goes (nI i) g = some g8 ∧ OW V n (gs ++ [i]) (nI i) g8 ∧ QM g g8 := by
    intro hq
    obtain ⟨g8, e, A8, F⟩ := A.step (Or.inl rfl) hV i7 (hv.g hi) hb
    refine ⟨g8, e, ⟨A8, Or.inr hlast, fun j hj => ?_⟩, F.M.q⟩
    rw [F.1 21 (by omega), lenS, Nat.add_sub_cancel, hq j (by omega)]; exact N j hj
  unfold B_X7_owe_42
  rw [hs, if_neg (nI_ge hi (by omega)), chk_ok (vpN i7 (by decide)), if_pos q5, nI_1]
  rcases x with ⟨z, rfl⟩ | ⟨z, rfl⟩
  · obtain ⟨g8, e, r⟩ := plain (fun j hj => by rw [z]; rfl)
    rw [if_pos rfl, e, bV_some]
    exact ⟨g8, rfl, r⟩
  · have hp : gs.getD (gs.length - 1) 0 ∈ gs := getD_mem (by omega)
    have hsn := nwk_snoc (V := V) (i := i) z
    generalize gs.getD (gs.length - 1) 0 = p at hp hsn
    have p7 : p < 7 := by have := h7 p hp; omega
    have hpi : p ≠ i := fun e => hni (e ▸ hp)
    have m4 := (A.2.2.2 p hp).2.2.2
    rw [if_neg (nm9 (by omega)), chk_ok (vpN p7 (by decide)), rdN _ _ (show p < 1000 by omega)]
    by_cases c : g.2 19 p = -9
    · rw [if_pos c] at m4 ⊢
      obtain ⟨g8, e, r⟩ := plain (fun j hj => by rw [hsn]; unfold stN; rw [← m4, if_neg (by decide)])
      rw [e, bV_some]
      exact ⟨g8, rfl, r⟩
    · rw [if_neg c] at m4 ⊢
      have w14 : rd g 14 0 = runW V 1 (-1) gs 4 0 := (rdN g 14 (i := 0) (by decide)).trans A.2.1.1
      have w6 : rd g 6 0 = V 0 0 := (rdN g 6 (i := 0) (by decide)).trans (congrFun (congrFun hV 0) 0)
      have w3 : rd g 3 (nI i) = V 3 i := (rdN g 3 (by omega)).trans (congrFun (congrFun hV 3) i)
      rw [w14, w6, w3]
      have hd : imax 0 (iabs (runW V 1 (-1) gs 4 0 - V 3 i) - iabs (V 0 0 - V 3 i)) = dd V (runW V 1 (-1) gs 4 0) i := rfl
      rw [hd]
      simp only [chk_ok (vpN i7 (by decide)), chk_ok (vpN p7 (by decide)), lt_eq, rdN _ _ (show i < 1000 by omega), rdN _ _ (show p < 1000 by omega), wrN _ _ (show i < 1000 by omega), wrN _ _ (show p < 1000 by omega), sF2, if_true]
      obtain ⟨g7, hg7⟩ : ∃ g7, g7 = sF (sF g 21 (upd (g.2 21) i (g.2 21 i + dd V (runW V 1 (-1) gs 4 0) i))) 21 (upd (upd (g.2 21) i (g.2 21 i + dd V (runW V 1 (-1) gs 4 0) i)) p (upd (g.2 21) i (g.2 21 i + dd V (runW V 1 (-1) gs 4 0) i) p - dd V (runW V 1 (-1) gs 4 0) i)) := ⟨_, rfl⟩
      rw [← hg7]
      have f7 : ∀ j, j ≠ 21 → g7.2 j = g.2 j := fun j hj => by rw [hg7, sF2, if_neg hj, sF2, if_neg hj]
      have i7e : g7.1 = g.1 := by rw [hg7]; rfl
      have A7 : Am V 1 (-1) gs g7 := by rw [hg7]; exact A
      obtain ⟨g8, e, A8, F⟩ := A7.step (Or.inl rfl) (by rw [mv_fr (fun j hj => f7 j (by omega))]; exact hV) i7 (hv.g hi) hb
      rw [e, bV_some]
      refine ⟨g8, rfl, ⟨A8, Or.inr hlast, fun j hj => ?_⟩, QM.trans (h := g7) ⟨fun j hj => f7 j (by omega), fun j _ => by rw [i7e]⟩ F.M.q⟩
      rw [F.1 21 (by omega), lenS, Nat.add_sub_cancel, hsn]
      unfold stN
      rw [← m4, if_pos rfl, hg7, sF2, if_pos rfl]
      rw [upd_ne _ _ hpi, N i hi, N p (h7 p hp)]
      by_cases j1 : j = i
      · subst j1
        rw [upd_at, upd_ne _ _ (Ne.symm hpi), upd_at, upd_ne _ _ (Ne.symm hpi)]
      · rw [upd_ne _ _ j1]
        by_cases j2 : j = p
        · subst j2; rw [upd_at, upd_at]
        · rw [upd_ne _ _ j2, upd_ne _ _ j2, upd_ne _ _ j1]; exact N j hj
