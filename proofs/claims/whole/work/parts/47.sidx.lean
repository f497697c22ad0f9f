/-! The kinds' letters -/
theorem sidx_small : ∀ k : Fin 256, sidx (nI k.1) = V_X2_kindOf (nI k.1) (default : Sg) := by decide +kernel
theorem kindOf_e (x : Int32) (g h : Sg) : V_X2_kindOf x g = V_X2_kindOf x h := rfl
theorem kindOf_no {x : Int32} (g : Sg) (h : x < 0 ∨ 255 < x) : V_X2_kindOf x g = -1 := by
  have n : ∀ k : Int32, 0 ≤ k → k ≤ 255 → x ≠ k := fun k h1 h2 e => by
    subst e
    rw [i_le] at h1 h2
    rcases h with a | a
    · rw [i_lt] at a; omega
    · rw [i_lt] at a; omega
  unfold V_X2_kindOf
  rw [if_neg (n 99 (by decide) (by decide)), if_neg (n 100 (by decide) (by decide)), if_neg (n 103 (by decide) (by decide)), if_neg (n 108 (by decide) (by decide)), if_neg (n 109 (by decide) (by decide)), if_neg (n 116 (by decide) (by decide))]
theorem sidx_e (x : Int32) (g : Sg) : sidx x = V_X2_kindOf x g := by
  by_cases c : x < 0
  · rw [kindOf_no g (Or.inl c)]
    unfold sidx cenc
    rw [if_pos c, if_pos rfl]
  · by_cases d : 255 < x
    · rw [kindOf_no g (Or.inr d)]
      unfold sidx cenc
      rw [if_neg c, if_pos d, if_pos rfl]
    · rw [i_lt, T_0] at c
      rw [i_lt] at d
      have t : (255 : Int32).toInt = 255 := rfl
      rw [t] at d
      obtain ⟨k, hk, rfl⟩ := i_rg (x := x) (k := 256) (by decide) (by omega) (by show _ < (256 : Int); omega)
      exact sidx_small ⟨k, hk⟩
