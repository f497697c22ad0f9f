theorem getD_set {l : List Nat} {a x j : Nat} (ha : a < l.length) : (l.set a x).getD j 0 = if j = a then x else l.getD j 0 := by
  rw [List.getD_eq_getElem?_getD, List.getD_eq_getElem?_getD, List.getElem?_set]
  by_cases e : j = a
  · subst e
    rw [if_pos rfl, if_pos rfl, if_pos ha]; rfl
  · rw [if_neg (fun h => e h.symm), if_neg e]
theorem swL_get {l : List Nat} {a b j : Nat} (ha : a < l.length) (hb : b < l.length) : (swL l a b).getD j 0 = if j = b then l.getD a 0 else if j = a then l.getD b 0 else l.getD j 0 := by
  unfold swL
  rw [getD_set (by rw [List.length_set]; exact hb), getD_set ha]
theorem swL_len {l : List Nat} {a b : Nat} : (swL l a b).length = l.length := by
  unfold swL
  rw [List.length_set, List.length_set]
