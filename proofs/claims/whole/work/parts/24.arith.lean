/-! small numbers -/
theorem T_add {x y : Int32} (h1 : -2147483648 ≤ x.toInt + y.toInt) (h2 : x.toInt + y.toInt < 2147483648) : (x + y).toInt = x.toInt + y.toInt := by
  rw [Int32.toInt_add]
  exact Int.bmod_eq_of_le (by omega) (by omega)
theorem T_sub {x y : Int32} (h1 : -2147483648 ≤ x.toInt - y.toInt) (h2 : x.toInt - y.toInt < 2147483648) : (x - y).toInt = x.toInt - y.toInt := by
  rw [Int32.toInt_sub]
  exact Int.bmod_eq_of_le (by omega) (by omega)
theorem T_mul {x y : Int32} (h1 : -2147483648 ≤ x.toInt * y.toInt) (h2 : x.toInt * y.toInt < 2147483648) : (x * y).toInt = x.toInt * y.toInt := by
  rw [Int32.toInt_mul]
  exact Int.bmod_eq_of_le (by omega) (by omega)
theorem T_min (x y : Int32) : (imin x y).toInt = if y.toInt < x.toInt then y.toInt else x.toInt := by
  unfold imin
  by_cases h : y < x
  · rw [if_pos h, if_pos (Int32.lt_iff_toInt_lt.mp h)]
  · rw [if_neg h, if_neg (fun e => h (Int32.lt_iff_toInt_lt.mpr e))]
theorem T_max (x y : Int32) : (imax x y).toInt = if x.toInt < y.toInt then y.toInt else x.toInt := by
  unfold imax
  by_cases h : x < y
  · rw [if_pos h, if_pos (Int32.lt_iff_toInt_lt.mp h)]
  · rw [if_neg h, if_neg (fun e => h (Int32.lt_iff_toInt_lt.mpr e))]
theorem T_0 : (0 : Int32).toInt = 0 := rfl
theorem T_abs {x : Int32} (h : -2147483648 < x.toInt) : (iabs x).toInt = if 0 ≤ x.toInt then x.toInt else - x.toInt := by
  unfold iabs
  by_cases c : 0 ≤ x
  · have c0 : (0 : Int) ≤ x.toInt := Int32.le_iff_toInt_le.mp c
    rw [if_pos c, if_pos c0]
  · have c' : ¬ 0 ≤ x.toInt := fun e => c (Int32.le_iff_toInt_le.mpr e)
    rw [if_neg c, if_neg c', T_sub (by rw [T_0]; omega) (by rw [T_0]; omega), T_0]
    omega
theorem T_absd {x y : Int32} (hx : rg 1000000 x) (hy : rg 1000000 y) : (iabs (x - y)).toInt = if y.toInt ≤ x.toInt then x.toInt - y.toInt else y.toInt - x.toInt := by
  obtain ⟨a, b⟩ := hx
  obtain ⟨c, d⟩ := hy
  have e : (x - y).toInt = x.toInt - y.toInt := T_sub (by omega) (by omega)
  rw [T_abs (by rw [e]; omega), e]
  (repeat' split) <;> omega
theorem rg.up {b c : Int} {x : Int32} (h : rg b x) (hb : b ≤ c) : rg c x := ⟨h.1, Int.le_trans h.2 hb⟩
theorem rg_lit {b : Int} {x : Int32} (n : Int) (h : x.toInt = n) (h0 : 0 ≤ n) (h1 : n ≤ b) : rg b x := ⟨by rw [h]; exact h0, by rw [h]; exact h1⟩
theorem i_le {x y : Int32} : x ≤ y ↔ x.toInt ≤ y.toInt := Int32.le_iff_toInt_le
theorem i_lt {x y : Int32} : x < y ↔ x.toInt < y.toInt := Int32.lt_iff_toInt_lt
theorem i_eq {x y : Int32} (h : x.toInt = y.toInt) : x = y := Int32.toInt_inj.mp h
/-- one carry: dark, light, oil -/
theorem ar1 {c f t k o : Int32} (hc : rg 39 c) (hf : rg 39 f) (ht : rg 39 t) (hk : rg 39 k) (ho : rg 200 o) :
    0 + iabs (f - c) + (iabs (c - k) - imin (iabs (c - k)) o) + iabs (k - t) = (iabs (c - f) + iabs (t - k)) + (iabs (k - c) + iabs (k - k)) - imin (iabs (k - c) + iabs (k - k)) o ∧
    0 + imin (iabs (c - k)) o = imin (iabs (k - c) + iabs (k - k)) o ∧ o - imin (iabs (c - k)) o = o - imin (iabs (k - c) + iabs (k - k)) o := by
  have z : iabs (k - k) = 0 := by rw [Int32.sub_self]; decide
  have s : iabs (c - k) = iabs (k - c) := i_eq (by rw [T_absd (hc.up (by decide)) (hk.up (by decide)), T_absd (hk.up (by decide)) (hc.up (by decide))]; (repeat' split) <;> omega)
  have s2 : iabs (f - c) = iabs (c - f) := i_eq (by rw [T_absd (hf.up (by decide)) (hc.up (by decide)), T_absd (hc.up (by decide)) (hf.up (by decide))]; (repeat' split) <;> omega)
  have s3 : iabs (k - t) = iabs (t - k) := i_eq (by rw [T_absd (hk.up (by decide)) (ht.up (by decide)), T_absd (ht.up (by decide)) (hk.up (by decide))]; (repeat' split) <;> omega)
  rw [z, s, s2, s3, Int32.add_zero, Int32.zero_add, Int32.zero_add]
  refine ⟨?_, rfl, rfl⟩
  generalize iabs (k - c) = p
  generalize iabs (c - f) = q
  generalize iabs (t - k) = r
  generalize imin p o = u
  rw [Int32.sub_eq_add_neg, Int32.sub_eq_add_neg]
  ac_rfl
/-- two carries -/
theorem ar2 {c f t k b o : Int32} (hc : rg 39 c) (hf : rg 39 f) (ht : rg 39 t) (hk : rg 39 k) (hb : rg 39 b) (ho : rg 200 o) :
    0 + iabs (f - c) + (iabs (c - k) - imin (iabs (c - k)) o) + iabs (k - t) + (iabs (k - b) - imin (iabs (k - b)) (o - imin (iabs (c - k)) o)) = (iabs (c - f) + iabs (t - k)) + (iabs (k - c) + iabs (b - k)) - imin (iabs (k - c) + iabs (b - k)) o ∧
    0 + imin (iabs (c - k)) o + imin (iabs (k - b)) (o - imin (iabs (c - k)) o) = imin (iabs (k - c) + iabs (b - k)) o ∧ o - imin (iabs (c - k)) o - imin (iabs (k - b)) (o - imin (iabs (c - k)) o) = o - imin (iabs (k - c) + iabs (b - k)) o := by
  have s : iabs (c - k) = iabs (k - c) := i_eq (by rw [T_absd (hc.up (by decide)) (hk.up (by decide)), T_absd (hk.up (by decide)) (hc.up (by decide))]; (repeat' split) <;> omega)
  have s2 : iabs (f - c) = iabs (c - f) := i_eq (by rw [T_absd (hf.up (by decide)) (hc.up (by decide)), T_absd (hc.up (by decide)) (hf.up (by decide))]; (repeat' split) <;> omega)
  have s3 : iabs (k - t) = iabs (t - k) := i_eq (by rw [T_absd (hk.up (by decide)) (ht.up (by decide)), T_absd (ht.up (by decide)) (hk.up (by decide))]; (repeat' split) <;> omega)
  have s4 : iabs (k - b) = iabs (b - k) := i_eq (by rw [T_absd (hk.up (by decide)) (hb.up (by decide)), T_absd (hb.up (by decide)) (hk.up (by decide))]; (repeat' split) <;> omega)
  have hp : rg 39 (iabs (k - c)) := by
    unfold rg at *
    rw [T_absd ⟨hk.1, by omega⟩ ⟨hc.1, by omega⟩]
    split <;> omega
  have hw : rg 39 (iabs (b - k)) := by
    unfold rg at *
    rw [T_absd ⟨hb.1, by omega⟩ ⟨hk.1, by omega⟩]
    split <;> omega
  rw [s, s2, s3, s4, Int32.zero_add, Int32.zero_add]
  generalize iabs (k - c) = p at hp ⊢
  generalize iabs (c - f) = q
  generalize iabs (t - k) = r
  generalize iabs (b - k) = w at hw ⊢
  unfold rg at hp hw ho
  have e1 : (p + w).toInt = p.toInt + w.toInt := T_add (by omega) (by omega)
  have e2 : (o - imin p o).toInt = o.toInt - (imin p o).toInt := T_sub (by rw [T_min]; split <;> omega) (by rw [T_min]; split <;> omega)
  have key : imin p o + imin w (o - imin p o) = imin (p + w) o := by
    apply i_eq
    have b1 := T_min p o
    have b2 := T_min w (o - imin p o)
    have b3 := T_min (p + w) o
    rw [e2] at b2
    rw [e1] at b3
    rw [T_add (by split at b1 <;> split at b2 <;> omega) (by split at b1 <;> split at b2 <;> omega)]
    split at b1 <;> split at b2 <;> split at b3 <;> omega
  refine ⟨?_, key, ?_⟩
  · rw [← key]
    generalize imin w (o - imin p o) = v
    generalize imin p o = u
    simp only [Int32.sub_eq_add_neg, Int32.neg_add]
    ac_rfl
  · rw [← key]
    generalize imin w (o - imin p o) = v
    generalize imin p o = u
    simp only [Int32.sub_eq_add_neg, Int32.neg_add]
    ac_rfl
