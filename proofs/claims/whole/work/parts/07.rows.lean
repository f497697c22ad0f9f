def M_X4_at (k1 n1 : Nat) (x1 : Int32) (g : Sg) : Option (Int32 × Sg) := (if x1 < 0 then some (0, g) else (if (nI n1) ≤ x1 then some (0, g) else chk x1 n1 (some (rd g k1 x1, g))))
set_option maxRecDepth 100000 in
set_option maxHeartbeats 4000000 in
theorem C_X4_at {l : Launch} {D : va_G} {q : Nat → Nat} {cI : ClassId} {z : Nat} {k1 n1 : Nat} (hk1 : isArr (cW q cI) cI (q k1) k1 n1) {x1 : Int32} {g : Sg} {r : Int32 × Sg} (h : M_X4_at k1 n1 x1 g = some r) : CTi l (EC z) D cI (cW q cI) yX4_at cX4_at 2 (some .int) 0 0 [.ref (q k1), .int x1] g r := by
  refine CTi.of2 (by decide) (EC_ok z) (Nat.le_of_ble_eq_true rfl) rfl (fun p e s m args below meth c A Q C hret => ?_)
  have hM := h
  unfold M_X4_at at hM
  refine J.iload_n (pc := 0) C dX4_at_0 rfl rfl ?_
  refine J.if_lt (pc := 1) C 16 dX4_at_1 (by decide) (fun hc => ?_) (fun hc => ?_)
  · have hM := ite_t hc hM
    refine J.iconst (pc := 16) C 0 dX4_at_16 ic_0 ?_
    exact hret dX4_at_17 hM rfl
  · have hM := ite_f hc hM
    refine J.iload_n (pc := 4) C dX4_at_4 rfl rfl ?_
    refine J.aload_n (pc := 5) C dX4_at_5 rfl rfl ?_
    refine J.alen (pc := 6) C hk1 dX4_at_6 ?_
    refine J.icmp_ge (pc := 7) C 16 dX4_at_7 (by decide) (fun hc => ?_) (fun hc => ?_)
    · have hM := ite_t hc hM
      refine J.iconst (pc := 16) C 0 dX4_at_16 ic_0 ?_
      exact hret dX4_at_17 hM rfl
    · have hM := ite_f hc hM
      refine J.aload_n (pc := 10) C dX4_at_10 rfl rfl ?_
      refine J.iload_n (pc := 11) C dX4_at_11 rfl rfl ?_
      obtain ⟨hv, hM⟩ := chk_ex hM
      refine J.iald (pc := 12) C hk1 hv dX4_at_12 ?_
      refine J.goto (pc := 13) C 17 dX4_at_13 (by decide) ?_
      exact hret dX4_at_17 hM rfl
def rat (g : Sg) (k n : Nat) (i : Int32) : Int32 := if i < 0 then 0 else if nI n ≤ i then 0 else rd g k i
theorem vp_of {i : Int32} {n : Nat} (hn : n < 2 ^ 31) (h : ¬ i < 0) (h2 : ¬ nI n ≤ i) : vp_in i n := by
  rcases pk_ix i hn with h3 | h3 | ⟨j, h3, h4⟩
  · exact absurd h3 h
  · exact absurd h3 h2
  · rw [h4]; exact vp_in_nI h3 hn
theorem chk_ok {β : Type} {i : Int32} {n : Nat} {k : Option β} (h : vp_in i n) : chk i n k = k := if_neg h
theorem E_X4_at {k1 n1 : Nat} (hn : n1 < 2 ^ 31) (x1 : Int32) (g : Sg) : M_X4_at k1 n1 x1 g = some (rat g k1 n1 x1, g) := by
  unfold M_X4_at rat
  by_cases h : x1 < 0
  · rw [if_pos h, if_pos h]
  · rw [if_neg h, if_neg h]
    by_cases h2 : nI n1 ≤ x1
    · rw [if_pos h2, if_pos h2]
    · rw [if_neg h2, if_neg h2]; exact chk_ok (vp_of hn h h2)
theorem K_X4_at {l : Launch} {D : va_G} {q : Nat → Nat} {cI : ClassId} {z : Nat} {k1 n1 : Nat} (hk1 : isArr (cW q cI) cI (q k1) k1 n1) (x1 : Int32) (g : Sg) : CTi l (EC z) D cI (cW q cI) yX4_at cX4_at 2 (some .int) 0 0 [.ref (q k1), .int x1] g (rat g k1 n1 x1, g) := C_X4_at hk1 (E_X4_at hk1.1 x1 g)
def ratZ (i : Int32) : Int32 := if i < 0 then 0 else if nI 3 ≤ i then 0 else gset (ix i)
set_option maxRecDepth 100000 in
theorem K_X4_atZ {l : Launch} {D : va_G} {q : Nat → Nat} {cI : ClassId} {z : Nat} (x1 : Int32) (g : Sg) : CTi l (EC z) D cI (cW q cI) yX4_at cX4_at 2 (some .int) 0 0 [.ref z, .int x1] g (ratZ x1, g) := by
  refine CTi.of2 (by decide) (EC_ok z) (Nat.le_of_ble_eq_true rfl) rfl (fun p e s m args below meth c A Q C hret => ?_)
  refine J.iload_n (pc := 0) C dX4_at_0 rfl rfl ?_
  refine J.if_lt (pc := 1) C 16 dX4_at_1 (by decide) (fun hc => ?_) (fun hc => ?_)
  · refine J.iconst (pc := 16) C 0 dX4_at_16 ic_0 ?_
    exact hret dX4_at_17 (by unfold ratZ; rw [if_pos hc]) rfl
  · refine J.iload_n (pc := 4) C dX4_at_4 rfl rfl ?_
    refine J.aload_n (pc := 5) C dX4_at_5 rfl rfl ?_
    refine J.tlenZ (pc := 6) C dX4_at_6 ?_
    refine J.icmp_ge (pc := 7) C 16 dX4_at_7 (by decide) (fun hc2 => ?_) (fun hc2 => ?_)
    · refine J.iconst (pc := 16) C 0 dX4_at_16 ic_0 ?_
      exact hret dX4_at_17 (by unfold ratZ; rw [if_neg hc, if_pos hc2]) rfl
    · refine J.aload_n (pc := 10) C dX4_at_10 rfl rfl ?_
      refine J.iload_n (pc := 11) C dX4_at_11 rfl rfl ?_
      refine J.tldZ (pc := 12) C (vp_of (by decide) hc hc2) dX4_at_12 ?_
      refine J.goto (pc := 13) C 17 dX4_at_13 (by decide) ?_
      exact hret dX4_at_17 (by unfold ratZ; rw [if_neg hc, if_neg hc2]) rfl
def M_X4_put (k1 n1 : Nat) (x1 x2 : Int32) (g : Sg) : Option Sg := (if x1 < 0 then some g else (if (nI n1) ≤ x1 then some g else chk x1 n1 (lt (wr g k1 x1 x2) (fun g_1 => some g_1))))
set_option maxRecDepth 100000 in
set_option maxHeartbeats 4000000 in
theorem C_X4_put {l : Launch} {D : va_G} {q : Nat → Nat} {cI : ClassId} {z : Nat} {k1 n1 : Nat} (hk1 : isArr (cW q cI) cI (q k1) k1 n1) {x1 x2 : Int32} {g : Sg} {r : Sg} (h : M_X4_put k1 n1 x1 x2 g = some r) : CTv l (EC z) D cI (cW q cI) yX4_put cX4_put 3 0 0 [.ref (q k1), .int x1, .int x2] g r := by
  refine CTv.of2 (by decide) (EC_ok z) (Nat.le_of_ble_eq_true rfl) rfl (fun p e s m args below meth c A Q C hret => ?_)
  have hM := h
  unfold M_X4_put at hM
  refine J.iload_n (pc := 0) C dX4_put_0 rfl rfl ?_
  refine J.if_lt (pc := 1) C 14 dX4_put_1 (by decide) (fun hc => ?_) (fun hc => ?_)
  · have hM := ite_t hc hM
    exact hret dX4_put_14 hM
  · have hM := ite_f hc hM
    refine J.iload_n (pc := 4) C dX4_put_4 rfl rfl ?_
    refine J.aload_n (pc := 5) C dX4_put_5 rfl rfl ?_
    refine J.alen (pc := 6) C hk1 dX4_put_6 ?_
    refine J.icmp_ge (pc := 7) C 14 dX4_put_7 (by decide) (fun hc => ?_) (fun hc => ?_)
    · have hM := ite_t hc hM
      exact hret dX4_put_14 hM
    · have hM := ite_f hc hM
      refine J.aload_n (pc := 10) C dX4_put_10 rfl rfl ?_
      refine J.iload_n (pc := 11) C dX4_put_11 rfl rfl ?_
      refine J.iload_n (pc := 12) C dX4_put_12 rfl rfl ?_
      obtain ⟨hv, hM⟩ := chk_ex hM
      refine J.iast (pc := 13) C hk1 hv dX4_put_13 ?_
      obtain ⟨_, ea, hM⟩ := lt_ex hM
      refine J.cong C ea ?_
      exact hret dX4_put_14 hM
def rput (g : Sg) (k n : Nat) (i x : Int32) : Sg := if i < 0 then g else if nI n ≤ i then g else wr g k i x
theorem E_X4_put {k1 n1 : Nat} (hn : n1 < 2 ^ 31) (x1 x2 : Int32) (g : Sg) : M_X4_put k1 n1 x1 x2 g = some (rput g k1 n1 x1 x2) := by
  unfold M_X4_put rput
  by_cases h : x1 < 0
  · rw [if_pos h, if_pos h]
  · rw [if_neg h, if_neg h]
    by_cases h2 : nI n1 ≤ x1
    · rw [if_pos h2, if_pos h2]
    · rw [if_neg h2, if_neg h2]; exact chk_ok (vp_of hn h h2)
theorem K_X4_put {l : Launch} {D : va_G} {q : Nat → Nat} {cI : ClassId} {z : Nat} {k1 n1 : Nat} (hk1 : isArr (cW q cI) cI (q k1) k1 n1) (x1 x2 : Int32) (g : Sg) : CTv l (EC z) D cI (cW q cI) yX4_put cX4_put 3 0 0 [.ref (q k1), .int x1, .int x2] g (rput g k1 n1 x1 x2) := C_X4_put hk1 (E_X4_put hk1.1 x1 x2 g)
def B_X4_copy_2 (k1 n1 : Nat) (k2 n2 : Nat) (kb2 : Int32 → Sg → Option Sg) (x2 : Int32) (g : Sg) : Option Sg := (if (nI n1) ≤ x2 then some g else (if (nI n2) ≤ x2 then some g else chk x2 n1 (chk x2 n2 (lt (wr g k2 x2 (rd g k1 x2)) (fun g_1 => kb2 (x2 + 1) g_1)))))
def M_X4_copy (k1 n1 : Nat) (k2 n2 : Nat) (g : Sg) : Option Sg := lup1 (B_X4_copy_2 k1 n1 k2 n2 ) FU 0 g
set_option maxRecDepth 100000 in
set_option maxHeartbeats 4000000 in
theorem C_X4_copy {l : Launch} {D : va_G} {q : Nat → Nat} {cI : ClassId} {z : Nat} {k1 n1 : Nat} {k2 n2 : Nat} (hk1 : isArr (cW q cI) cI (q k1) k1 n1) (hk2 : isArr (cW q cI) cI (q k2) k2 n2) {g : Sg} {r : Sg} (h : M_X4_copy k1 n1 k2 n2 g = some r) : CTv l (EC z) D cI (cW q cI) yX4_copy cX4_copy 3 0 0 [.ref (q k1), .ref (q k2)] g r := by
  refine CTv.of2 (by decide) (EC_ok z) (Nat.le_of_ble_eq_true rfl) rfl (fun p e s m args below meth c A Q C hret => ?_)
  have jb2 : ∀ (kb2 : Int32 → Sg → Option Sg) (hkb2 : ∀ (x2 : Int32) (g : Sg), kb2 x2 g = some r → J p l e (RM 0 0) s m args below meth c D (cW q cI) A 3 Q g 2 [(0, .ref (q k1)), (1, .ref (q k2)), (2, .int x2)] []) (x2 : Int32) (g : Sg), B_X4_copy_2 k1 n1 k2 n2 kb2 x2 g = some r → J p l e (RM 0 0) s m args below meth c D (cW q cI) A 3 Q g 2 [(0, .ref (q k1)), (1, .ref (q k2)), (2, .int x2)] [] := by
    intro kb2 hkb2 x2 g hM
    unfold B_X4_copy_2 at hM
    refine J.iload_n (pc := 2) C dX4_copy_2 rfl rfl ?_
    refine J.aload_n (pc := 3) C dX4_copy_3 rfl rfl ?_
    refine J.alen (pc := 4) C hk1 dX4_copy_4 ?_
    refine J.icmp_ge (pc := 5) C 26 dX4_copy_5 (by decide) (fun hc => ?_) (fun hc => ?_)
    · have hM := ite_t hc hM
      exact hret dX4_copy_26 hM
    · have hM := ite_f hc hM
      refine J.iload_n (pc := 8) C dX4_copy_8 rfl rfl ?_
      refine J.aload_n (pc := 9) C dX4_copy_9 rfl rfl ?_
      refine J.alen (pc := 10) C hk2 dX4_copy_10 ?_
      refine J.icmp_ge (pc := 11) C 26 dX4_copy_11 (by decide) (fun hc => ?_) (fun hc => ?_)
      · have hM := ite_t hc hM
        exact hret dX4_copy_26 hM
      · have hM := ite_f hc hM
        refine J.aload_n (pc := 14) C dX4_copy_14 rfl rfl ?_
        refine J.iload_n (pc := 15) C dX4_copy_15 rfl rfl ?_
        refine J.aload_n (pc := 16) C dX4_copy_16 rfl rfl ?_
        refine J.iload_n (pc := 17) C dX4_copy_17 rfl rfl ?_
        obtain ⟨hv, hM⟩ := chk_ex hM
        refine J.iald (pc := 18) C hk1 hv dX4_copy_18 ?_
        obtain ⟨hv, hM⟩ := chk_ex hM
        refine J.iast (pc := 19) C hk2 hv dX4_copy_19 ?_
        obtain ⟨_, ea, hM⟩ := lt_ex hM
        refine J.cong C ea ?_
        refine J.iinc (pc := 20) C 1 dX4_copy_20 ic_1 rfl (by decide) ?_
        refine J.goto (pc := 23) C 2 dX4_copy_23 (by decide) ?_
        refine J.sub C [0, 1, 2] rfl ?_
        exact hkb2 _ _ hM
  have jl2 : ∀ (x2 : Int32) (g : Sg), lup1 (B_X4_copy_2 k1 n1 k2 n2) FU x2 g = some r → J p l e (RM 0 0) s m args below meth c D (cW q cI) A 3 Q g 2 [(0, .ref (q k1)), (1, .ref (q k2)), (2, .int x2)] [] := 
    lup1_ok (P := fun x2 g => J p l e (RM 0 0) s m args below meth c D (cW q cI) A 3 Q g 2 [(0, .ref (q k1)), (1, .ref (q k2)), (2, .int x2)] []) (fun self hself => jb2 self hself) FU
  have hM := h
  unfold M_X4_copy at hM
  refine J.iconst (pc := 0) C 0 dX4_copy_0 ic_0 ?_
  refine J.istore_n (pc := 1) C dX4_copy_1 rfl (by decide) ?_
  refine J.sub C [0, 1, 2] rfl ?_
  exact jl2 _ _ hM
def rcpI (g : Sg) (k1 k2 i n : Nat) : Sg := sF g k2 (fun j => if i ≤ j ∧ j < n then g.2 k1 j else g.2 k2 j)
def rcp (g : Sg) (k1 k2 n : Nat) : Sg := rcpI g k1 k2 0 n
theorem rcp_step (g : Sg) (k1 k2 : Nat) {i n : Nat} (hi : i < n) (hn : n < 2 ^ 31) : rcpI (wr g k2 (nI i) (rd g k1 (nI i))) k1 k2 (i + 1) n = rcpI g k1 k2 i n := by
  have hc : ix (nI i) = i := nI_clamp (by omega)
  unfold rcpI wr rd sF upd
  rw [hc]
  refine Prod.ext rfl ?_
  funext k j
  by_cases h : k = k2
  · subst h
    by_cases h1 : k1 = k
    · subst h1
      by_cases h2 : j = i
      · subst h2
        simp
      · simp [h2]
    · have h1' : ¬ k1 = k := h1
      by_cases h2 : j = i
      · subst h2
        simp [h1', hi]
      · have h3 : (i + 1 ≤ j ∧ j < n) ↔ (i ≤ j ∧ j < n) := by omega
        simp [h1', h2, h3]
  · simp [h]
theorem rcp_end (g : Sg) (k1 k2 n : Nat) : rcpI g k1 k2 n n = g := by
  unfold rcpI sF
  refine Prod.ext rfl ?_
  funext k j
  by_cases h : k = k2
  · subst h
    have h3 : ¬ (n ≤ j ∧ j < n) := by omega
    simp [h3]
  · simp [h]
theorem copy_loop (k1 k2 n : Nat) (hn : n < 2 ^ 31) : ∀ (d i m : Nat) (g : Sg), i + d = n → d < m → lup1 (B_X4_copy_2 k1 n k2 n) m (nI i) g = some (rcpI g k1 k2 i n) := by
  intro d
  induction d with
  | zero =>
    intro i m g hi hm
    obtain ⟨m, rfl⟩ : ∃ t, m = t + 1 := ⟨m - 1, by omega⟩
    show B_X4_copy_2 k1 n k2 n (lup1 (B_X4_copy_2 k1 n k2 n) m) (nI i) g = _
    unfold B_X4_copy_2
    have e : i = n := by omega
    subst e
    rw [if_pos (nI_le (Nat.le_refl i) hn), rcp_end]
  | succ d ih =>
    intro i m g hi hm
    obtain ⟨m, rfl⟩ : ∃ t, m = t + 1 := ⟨m - 1, by omega⟩
    show B_X4_copy_2 k1 n k2 n (lup1 (B_X4_copy_2 k1 n k2 n) m) (nI i) g = _
    have ih2 := fun g' => ih (i + 1) m g' (by omega) (by omega)
    generalize lup1 (B_X4_copy_2 k1 n k2 n) m = self at ih2 ⊢
    unfold B_X4_copy_2
    have hin : vp_in (nI i) n := vp_in_nI (by omega) hn
    have h1 : ¬ nI n ≤ nI i := nI_ge (by omega) hn
    rw [if_neg h1, if_neg h1, chk_ok hin, chk_ok hin]
    show self (nI i + 1) _ = _
    rw [nI_1, ih2, rcp_step g k1 k2 (by omega) hn]
theorem E_X4_copy {k1 n1 : Nat} (k2 : Nat) (hn : n1 < 1000) (g : Sg) : M_X4_copy k1 n1 k2 n1 g = some (rcp g k1 k2 n1) := by
  unfold M_X4_copy
  have h := copy_loop k1 k2 n1 (by omega) n1 0 FU g (by omega) hn
  rw [nI_0] at h
  exact h
theorem K_X4_copy {l : Launch} {D : va_G} {q : Nat → Nat} {cI : ClassId} {z : Nat} {k1 n1 k2 : Nat} (hk1 : isArr (cW q cI) cI (q k1) k1 n1) (hk2 : isArr (cW q cI) cI (q k2) k2 n1) (g : Sg) (hn : n1 < 1000 := by decide) : CTv l (EC z) D cI (cW q cI) yX4_copy cX4_copy 3 0 0 [.ref (q k1), .ref (q k2)] g (rcp g k1 k2 n1) := C_X4_copy hk1 hk2 (E_X4_copy k2 hn g)
def M_X4_exchange (k1 n1 : Nat) (x1 x2 : Int32) (g : Sg) : Option Sg := lt (rat g k1 n1 x1) (fun x3_1 => lt (rput g k1 n1 x1 (rat g k1 n1 x2)) (fun g_2 => lt (rput g_2 k1 n1 x2 x3_1) (fun g_3 => some g_3)))
set_option maxRecDepth 100000 in
set_option maxHeartbeats 4000000 in
theorem C_X4_exchange {l : Launch} {D : va_G} {q : Nat → Nat} {cI : ClassId} {z : Nat} {k1 n1 : Nat} (hk1 : isArr (cW q cI) cI (q k1) k1 n1) {x1 x2 : Int32} {g : Sg} {r : Sg} (h : M_X4_exchange k1 n1 x1 x2 g = some r) : CTv l (EC z) D cI (cW q cI) yX4_exchange cX4_exchange 4 1 22 [.ref (q k1), .int x1, .int x2] g r := by
  refine CTv.of2 (by decide) (EC_ok z) (Nat.le_of_ble_eq_true rfl) rfl (fun p e s m args below meth c A Q C hret => ?_)
  have hM := h
  unfold M_X4_exchange at hM
  refine J.aload_n (pc := 0) C dX4_exchange_0 rfl rfl ?_
  refine J.iload_n (pc := 1) C dX4_exchange_1 rfl rfl ?_
  refine J.callS2i (pc := 2) C (K_X4_at hk1 _ _) lk_X4_at tm_X4_7 ⟨Nat.le_of_ble_eq_true rfl, Nat.le_of_ble_eq_true rfl⟩ (Nat.le_of_ble_eq_true rfl) dX4_exchange_2 ?_
  obtain ⟨_, ea, hM⟩ := lt_ex hM
  refine J.istore_nV (pc := 5) C dX4_exchange_5 rfl (by decide) ea ?_
  refine J.aload_n (pc := 6) C dX4_exchange_6 rfl rfl ?_
  refine J.iload_n (pc := 7) C dX4_exchange_7 rfl rfl ?_
  refine J.aload_n (pc := 8) C dX4_exchange_8 rfl rfl ?_
  refine J.iload_n (pc := 9) C dX4_exchange_9 rfl rfl ?_
  refine J.callS2i (pc := 10) C (K_X4_at hk1 _ _) lk_X4_at tm_X4_7 ⟨Nat.le_of_ble_eq_true rfl, Nat.le_of_ble_eq_true rfl⟩ (Nat.le_of_ble_eq_true rfl) dX4_exchange_10 ?_
  refine J.callS3v (pc := 13) C (K_X4_put hk1 _ _ _) lk_X4_put tm_X4_13 ⟨Nat.le_of_ble_eq_true rfl, Nat.le_of_ble_eq_true rfl⟩ (Nat.le_of_ble_eq_true rfl) dX4_exchange_13 ?_
  obtain ⟨_, ea, hM⟩ := lt_ex hM
  refine J.cong C ea ?_
  refine J.aload_n (pc := 16) C dX4_exchange_16 rfl rfl ?_
  refine J.iload_n (pc := 17) C dX4_exchange_17 rfl rfl ?_
  refine J.iload_n (pc := 18) C dX4_exchange_18 rfl rfl ?_
  refine J.callS3v (pc := 19) C (K_X4_put hk1 _ _ _) lk_X4_put tm_X4_13 ⟨Nat.le_of_ble_eq_true rfl, Nat.le_of_ble_eq_true rfl⟩ (Nat.le_of_ble_eq_true rfl) dX4_exchange_19 ?_
  obtain ⟨_, ea, hM⟩ := lt_ex hM
  refine J.cong C ea ?_
  exact hret dX4_exchange_22 hM
def U_X4_exchange (k1 n1 : Nat) (x1 x2 : Int32) (g : Sg) : Sg := let x3_1 := (rat g k1 n1 x1); let g_2 := (rput g k1 n1 x1 (rat g k1 n1 x2)); let g_3 := (rput g_2 k1 n1 x2 x3_1); g_3
theorem E_X4_exchange (k1 n1 : Nat) (x1 x2 : Int32) (g : Sg) : M_X4_exchange k1 n1 x1 x2 g = some (U_X4_exchange k1 n1 x1 x2 g) := by
  unfold M_X4_exchange U_X4_exchange
  first | rfl | ((try dsimp only [lt]); (repeat' split) <;> rfl)
theorem K_X4_exchange {l : Launch} {D : va_G} {q : Nat → Nat} {cI : ClassId} {z : Nat} {k1 n1 : Nat} (hk1 : isArr (cW q cI) cI (q k1) k1 n1) (x1 x2 : Int32) (g : Sg) : CTv l (EC z) D cI (cW q cI) yX4_exchange cX4_exchange 4 1 22 [.ref (q k1), .int x1, .int x2] g (U_X4_exchange k1 n1 x1 x2 g) := C_X4_exchange hk1 (E_X4_exchange k1 n1 x1 x2 g)
