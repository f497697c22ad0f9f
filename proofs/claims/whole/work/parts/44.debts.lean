/-! What one owes another: D's reckoning -/
def dd (V : Vw) (x : Int32) (i : Nat) : Int32 := imax 0 (iabs (x - V 3 i) - iabs (V 0 0 - V 3 i))
def stN (V : Vw) (pre : List Nat) (p i : Nat) (N : Nat → Int32) : Nat → Int32 := if runW V 1 (-1) pre 3 p = 1 then upd (upd N p (N p - dd V (runW V 1 (-1) pre 4 0) i)) i (upd N p (N p - dd V (runW V 1 (-1) pre 4 0) i) i + dd V (runW V 1 (-1) pre 4 0) i) else N
def nwk (V : Vw) (gs : List Nat) : Nat → (Nat → Int32)
  | 0 => fun _ => 0
  | k + 1 => stN V (gs.take (k + 1)) (gs.getD k 0) (gs.getD (k + 1) 0) (nwk V gs k)
theorem had_pre {V : Vw} {m : Nat} {c1 : Int32} {pre : List Nat} {i : Nat} : ∀ rest : List Nat, (∀ j, j ∈ rest → i ≠ j) → runW V m c1 (pre ++ rest) 3 i = runW V m c1 pre 3 i := by
  refine runW_snoc_ind (P := fun rest => (∀ j, j ∈ rest → i ≠ j) → runW V m c1 (pre ++ rest) 3 i = runW V m c1 pre 3 i) (fun _ => by rw [List.append_nil]) (fun rest j ih h => ?_)
  rw [← List.append_assoc, runW_app]
  exact (upd_ne _ _ (h j (List.mem_append_right _ (List.mem_singleton.mpr rfl)))).trans (ih (fun q hq => h q (List.mem_append_left _ hq)))
theorem had_take {V : Vw} {m : Nat} {c1 : Int32} {gs : List Nat} (nd : gs.Nodup) {k : Nat} (hk : k < gs.length) : runW V m c1 gs 3 (gs.getD k 0) = runW V m c1 (gs.take (k + 1)) 3 (gs.getD k 0) := by
  have e := List.take_append_drop (k + 1) gs
  have nd2 : (gs.take (k + 1) ++ gs.drop (k + 1)).Nodup := by rw [e]; exact nd
  have h3 := (List.nodup_append.mp nd2).2.2
  have hmem : gs.getD k 0 ∈ gs.take (k + 1) := by
    rw [List.take_succ_eq_append_getElem hk, List.getD_eq_getElem?_getD, List.getElem?_eq_getElem hk]
    exact List.mem_append_right _ (List.mem_singleton.mpr rfl)
  have w := had_pre (V := V) (m := m) (c1 := c1) (pre := gs.take (k + 1)) (i := gs.getD k 0) (gs.drop (k + 1)) (fun j hj => h3 _ hmem j hj)
  rw [e] at w
  exact w
theorem getD_mem {gs : List Nat} {k : Nat} (hk : k < gs.length) : gs.getD k 0 ∈ gs := by
  rw [List.getD_eq_getElem?_getD, List.getElem?_eq_getElem hk]
  exact List.getElem_mem hk
theorem cFar (g : Sg) {i : Nat} (hi : i < 7) (x : Int32) : V_X1_stepsFarther 3 x (nI i) g = dd (cv g 3) x i := by
  unfold V_X1_stepsFarther dd
  simp only [rat7 _ _ hi, cPump]
  rfl
theorem sub1_le {a k : Nat} (ha : a < 100) (hk : k < 100) : (nI a - 1 ≤ nI k) ↔ a ≤ k + 1 := by
  have t1 : (1 : Int32).toInt = 1 := rfl
  rw [i_le, T_sub (by rw [t1, T_nI (by omega)]; omega) (by rw [t1, T_nI (by omega)]; omega), t1, T_nI (by omega), T_nI (by omega)]
  omega
theorem cRk25 {V : Vw} {gs : List Nat} {G : Sg} (nd : gs.Nodup) (h7 : ∀ i, i ∈ gs → i < 7) (hl : gs.length ≤ 7) (hV : cv G 3 = V) (A : AgC V 1 (-1) gs G) : ∀ (d k f : Nat) (g : Sg), k + 1 + d = gs.length → d < f → (∀ j, j ≠ 41 → g.2 j = G.2 j) → g.1 = G.1 → (∀ j, j < 7 → g.2 41 j = nwk V gs k j) → ∃ h, lup1 (B_X1_reckon_25 3) f (nI k) g = some h ∧ (∀ j, j < 7 → h.2 41 j = nwk V gs (gs.length - 1) j) ∧ (∀ j, j ≠ 41 → h.2 j = G.2 j) ∧ h.1 = G.1 := by
  intro d
  induction d with
  | zero =>
    intro k f g hk hf h1 h2 h3
    obtain ⟨f, rfl⟩ : ∃ t, f = t + 1 := ⟨f - 1, by omega⟩
    rw [lup1_s]
    generalize lup1 (B_X1_reckon_25 3) f = self
    unfold B_X1_reckon_25
    rw [h2, A.1.2, if_pos ((sub1_le (by omega) (by omega)).mpr (by omega))]
    have e : gs.length - 1 = k := by omega
    rw [e]
    exact ⟨g, rfl, h3, h1, h2⟩
  | succ d ih =>
    intro k f g hk hf h1 h2 h3
    obtain ⟨f, rfl⟩ : ∃ t, f = t + 1 := ⟨f - 1, by omega⟩
    have k1 : k < gs.length := by omega
    have k2 : k + 1 < gs.length := by omega
    obtain ⟨a1, a2⟩ := A.2.2.2.2 k k1
    obtain ⟨b1, -⟩ := A.2.2.2.2 (k + 1) k2
    have m1 := getD_mem k1
    have m2 := getD_mem k2
    have p7 := h7 _ m1
    have q7 := h7 _ m2
    have had := (A.2.2.2.1 _ m1).2.2.2.2
    rw [had_take nd k1] at had
    have cg : cv g 3 = V := by rw [← hV]; exact cv_fr2 (fun j x y => h1 j (by omega))
    rw [lup1_s]
    have ee := fun g x y z => ih (k + 1) f g (by omega) (by omega) x y z
    generalize lup1 (B_X1_reckon_25 3) f = self at ee ⊢
    unfold B_X1_reckon_25
    rw [h2, A.1.2, if_neg (fun e => by have := (sub1_le (by omega) (by omega)).mp e; omega), lt_eq, nI_1, rat7 _ _ (show k < 7 by omega), rat7 _ _ (show k + 1 < 7 by omega), rat7 _ _ (show k < 7 by omega), h1 32 (by decide), h1 33 (by decide), a1, a2, b1, rat7 _ _ p7, h1 31 (by decide), had]
    by_cases c : runW V 1 (-1) (gs.take (k + 1)) 3 (gs.getD k 0) = 1
    · rw [if_pos c, lt_eq, lt_eq, cFar _ q7, cg, lt_eq, lt_eq, rput7 _ _ p7, rput7 _ _ q7, rat7 _ _ p7, rat7 _ _ q7]
      refine ee _ (fun j hj => by rw [sF2, if_neg hj, sF2, if_neg hj]; exact h1 j hj) h2 (fun j hj => ?_)
      show _ = stN V (gs.take (k + 1)) (gs.getD k 0) (gs.getD (k + 1) 0) (nwk V gs k) j
      unfold stN
      rw [if_pos c]
      simp only [sF2, if_true]
      unfold upd
      rw [h3 _ p7, h3 _ q7, h3 j hj]
    · rw [if_neg c]
      refine ee g h1 h2 (fun j hj => ?_)
      show _ = stN V (gs.take (k + 1)) (gs.getD k 0) (gs.getD (k + 1) 0) (nwk V gs k) j
      unfold stN
      rw [if_neg c]
      exact h3 j hj
