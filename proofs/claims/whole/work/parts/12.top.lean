def M_X6_refuse (x1 : Int32) (g : Sg) : Option (Int32 × Sg) := lt (rput g 2 7 (-x1) ((rat g 2 7 (-x1)) + 1)) (fun g_1 => some (x1, g_1))
set_option maxRecDepth 100000 in
set_option maxHeartbeats 4000000 in
theorem C_X6_refuse {l : Launch} {D : va_G} {q : Nat → Nat} {cI : ClassId} {z : Nat} {x1 : Int32} {g : Sg} {r : Int32 × Sg} (h : M_X6_refuse x1 g = some r) : CTi l (EC z) D cI (cW q cI) yX6_refuse cX6_refuse 2 (some .int) 1 22 [.ref (q 0), .int x1] g r := by
  refine CTi.of2 (by decide) (EC_ok z) (Nat.le_of_ble_eq_true rfl) rfl (fun p e s m args below meth c A Q C hret => ?_)
  have hM := h
  unfold M_X6_refuse at hM
  refine J.aload_n (pc := 0) C dX6_refuse_0 rfl rfl ?_
  refine gf_X6_0_9 (pc := 1) C tf_X6_54 dX6_refuse_1 ?_
  refine J.iload_n (pc := 4) C dX6_refuse_4 rfl rfl ?_
  refine J.ineg (pc := 5) C dX6_refuse_5 ?_
  refine J.aload_n (pc := 6) C dX6_refuse_6 rfl rfl ?_
  refine gf_X6_0_9 (pc := 7) C tf_X6_54 dX6_refuse_7 ?_
  refine J.iload_n (pc := 10) C dX6_refuse_10 rfl rfl ?_
  refine J.ineg (pc := 11) C dX6_refuse_11 ?_
  refine J.callS2i (pc := 12) C (K_X4_at (ia_2 q cI) _ _) lk_X4_at tm_X6_91 ⟨Nat.le_of_ble_eq_true rfl, Nat.le_of_ble_eq_true rfl⟩ (Nat.le_of_ble_eq_true rfl) dX6_refuse_12 ?_
  refine J.iconst (pc := 15) C 1 dX6_refuse_15 ic_1 ?_
  refine J.iadd (pc := 16) C dX6_refuse_16 ?_
  refine J.callS3v (pc := 17) C (K_X4_put (ia_2 q cI) _ _ _) lk_X4_put tm_X6_115 ⟨Nat.le_of_ble_eq_true rfl, Nat.le_of_ble_eq_true rfl⟩ (Nat.le_of_ble_eq_true rfl) dX6_refuse_17 ?_
  obtain ⟨_, ea, hM⟩ := lt_ex hM
  refine J.cong C ea ?_
  refine J.iload_n (pc := 20) C dX6_refuse_20 rfl rfl ?_
  exact hret dX6_refuse_21 hM rfl
def M_X6_refuseAmongAll (x1 : Int32) (g : Sg) : Option (Int32 × Sg) := bI (M_X6_refuse x1 g) (fun r_1 g_2 => some (1000000000 - r_1, g_2))
set_option maxRecDepth 100000 in
set_option maxHeartbeats 4000000 in
theorem C_X6_refuseAmongAll {l : Launch} {D : va_G} {q : Nat → Nat} {cI : ClassId} {z : Nat} {x1 : Int32} {g : Sg} {r : Int32 × Sg} (h : M_X6_refuseAmongAll x1 g = some r) : CTi l (EC z) D cI (cW q cI) yX6_refuseAmongAll cX6_refuseAmongAll 2 (some .int) 2 43 [.ref (q 0), .int x1] g r := by
  refine CTi.of2 (by decide) (EC_ok z) (Nat.le_of_ble_eq_true rfl) rfl (fun p e s m args below meth c A Q C hret => ?_)
  have hM := h
  unfold M_X6_refuseAmongAll at hM
  refine J.ldc (pc := 0) C tc_X6_240 dX6_refuseAmongAll_0 ?_
  refine J.aload_n (pc := 2) C dX6_refuseAmongAll_2 rfl rfl ?_
  refine J.iload_n (pc := 3) C dX6_refuseAmongAll_3 rfl rfl ?_
  obtain ⟨_, _, h1, hM⟩ := bI_ex hM
  refine J.callV1i (pc := 4) C (C_X6_refuse h1) lk_X6_refuse tm_X6_65 (io_0 q cI) ⟨Nat.le_of_ble_eq_true rfl, Nat.le_of_ble_eq_true rfl⟩ (Nat.le_of_ble_eq_true rfl) dX6_refuseAmongAll_4 ?_
  refine J.isub (pc := 7) C dX6_refuseAmongAll_7 ?_
  exact hret dX6_refuseAmongAll_8 hM rfl
def M_X6_hourRefusal (x0 : Int32) (g : Sg) : Option (Int32 × Sg) := (if 0 ≤ x0 then (if x0 < 12 then some (0, g) else some ((-6), g)) else some ((-4), g))
set_option maxRecDepth 100000 in
set_option maxHeartbeats 4000000 in
theorem C_X6_hourRefusal {l : Launch} {D : va_G} {q : Nat → Nat} {cI : ClassId} {z : Nat} {x0 : Int32} {g : Sg} {r : Int32 × Sg} (h : M_X6_hourRefusal x0 g = some r) : CTi l (EC z) D cI (cW q cI) yX6_hourRefusal cX6_hourRefusal 1 (some .int) 0 0 [.int x0] g r := by
  refine CTi.of2 (by decide) (EC_ok z) (Nat.le_of_ble_eq_true rfl) rfl (fun p e s m args below meth c A Q C hret => ?_)
  have hM := h
  unfold M_X6_hourRefusal at hM
  refine J.iload_n (pc := 0) C dX6_hourRefusal_0 rfl rfl ?_
  refine J.if_ge (pc := 1) C 7 dX6_hourRefusal_1 (by decide) (fun hc => ?_) (fun hc => ?_)
  · have hM := ite_t hc hM
    refine J.iload_n (pc := 7) C dX6_hourRefusal_7 rfl rfl ?_
    refine J.bipush (pc := 8) C 12 dX6_hourRefusal_8 bp_12 ?_
    refine J.icmp_lt (pc := 10) C 18 dX6_hourRefusal_10 (by decide) (fun hc => ?_) (fun hc => ?_)
    · have hM := ite_t hc hM
      refine J.iconst (pc := 18) C 0 dX6_hourRefusal_18 ic_0 ?_
      exact hret dX6_hourRefusal_19 hM rfl
    · have hM := ite_f hc hM
      refine J.bipush (pc := 13) C (-6) dX6_hourRefusal_13 bp_m6 ?_
      refine J.goto (pc := 15) C 19 dX6_hourRefusal_15 (by decide) ?_
      exact hret dX6_hourRefusal_19 hM rfl
  · have hM := ite_f hc hM
    refine J.bipush (pc := 4) C (-4) dX6_hourRefusal_4 bp_m4 ?_
    exact hret dX6_hourRefusal_6 hM rfl
def V_X6_hourRefusal (x0 : Int32) (g : Sg) : Int32 := (if 0 ≤ x0 then (if x0 < 12 then 0 else (-6)) else (-4))
theorem E_X6_hourRefusal (x0 : Int32) (g : Sg) : M_X6_hourRefusal x0 g = some (V_X6_hourRefusal x0 g, g) := by
  unfold M_X6_hourRefusal V_X6_hourRefusal
  first | rfl | ((try dsimp only [lt]); (repeat' split) <;> rfl)
theorem K_X6_hourRefusal {l : Launch} {D : va_G} {q : Nat → Nat} {cI : ClassId} {z : Nat} (x0 : Int32) (g : Sg) : CTi l (EC z) D cI (cW q cI) yX6_hourRefusal cX6_hourRefusal 1 (some .int) 0 0 [.int x0] g (V_X6_hourRefusal x0 g, g) := C_X6_hourRefusal (E_X6_hourRefusal x0 g)
def M_X6_isCell (x0 : Int32) (g : Sg) : Option (Int32 × Sg) := (if x0 < 0 then some (0, g) else (if 40 ≤ x0 then some (0, g) else some (1, g)))
set_option maxRecDepth 100000 in
set_option maxHeartbeats 4000000 in
theorem C_X6_isCell {l : Launch} {D : va_G} {q : Nat → Nat} {cI : ClassId} {z : Nat} {x0 : Int32} {g : Sg} {r : Int32 × Sg} (h : M_X6_isCell x0 g = some r) : CTi l (EC z) D cI (cW q cI) yX6_isCell cX6_isCell 1 (some .boolean) 0 0 [.int x0] g r := by
  refine CTi.of2 (by decide) (EC_ok z) (Nat.le_of_ble_eq_true rfl) rfl (fun p e s m args below meth c A Q C hret => ?_)
  have hM := h
  unfold M_X6_isCell at hM
  refine J.iload_n (pc := 0) C dX6_isCell_0 rfl rfl ?_
  refine J.if_lt (pc := 1) C 14 dX6_isCell_1 (by decide) (fun hc => ?_) (fun hc => ?_)
  · have hM := ite_t hc hM
    refine J.iconst (pc := 14) C 0 dX6_isCell_14 ic_0 ?_
    exact hret dX6_isCell_15 hM (by decide)
  · have hM := ite_f hc hM
    refine J.iload_n (pc := 4) C dX6_isCell_4 rfl rfl ?_
    refine J.bipush (pc := 5) C 40 dX6_isCell_5 bp_40 ?_
    refine J.icmp_ge (pc := 7) C 14 dX6_isCell_7 (by decide) (fun hc => ?_) (fun hc => ?_)
    · have hM := ite_t hc hM
      refine J.iconst (pc := 14) C 0 dX6_isCell_14 ic_0 ?_
      exact hret dX6_isCell_15 hM (by decide)
    · have hM := ite_f hc hM
      refine J.iconst (pc := 10) C 1 dX6_isCell_10 ic_1 ?_
      refine J.goto (pc := 11) C 15 dX6_isCell_11 (by decide) ?_
      exact hret dX6_isCell_15 hM (by decide)
def V_X6_isCell (x0 : Int32) (g : Sg) : Int32 := (if x0 < 0 then 0 else (if 40 ≤ x0 then 0 else 1))
theorem E_X6_isCell (x0 : Int32) (g : Sg) : M_X6_isCell x0 g = some (V_X6_isCell x0 g, g) := by
  unfold M_X6_isCell V_X6_isCell
  first | rfl | ((try dsimp only [lt]); (repeat' split) <;> rfl)
theorem K_X6_isCell {l : Launch} {D : va_G} {q : Nat → Nat} {cI : ClassId} {z : Nat} (x0 : Int32) (g : Sg) : CTi l (EC z) D cI (cW q cI) yX6_isCell cX6_isCell 1 (some .boolean) 0 0 [.int x0] g (V_X6_isCell x0 g, g) := C_X6_isCell (E_X6_isCell x0 g)
def B_X6_firstNotSo_2 (kb2 : Int32 → Sg → Option (Int32 × Sg)) (x1 : Int32) (g : Sg) : Option (Int32 × Sg) := (if (g.1 0) ≤ x1 then some ((-9), g) else (if 12 ≤ x1 then some (x1, g) else (if (rat g 1 12 x1) = (rat g 34 12 x1) then kb2 (x1 + 1) g else some (x1, g))))
def M_X6_firstNotSo (g : Sg) : Option (Int32 × Sg) := lup1 (B_X6_firstNotSo_2 ) FU 0 g
set_option maxRecDepth 100000 in
set_option maxHeartbeats 4000000 in
theorem C_X6_firstNotSo {l : Launch} {D : va_G} {q : Nat → Nat} {cI : ClassId} {z : Nat} {g : Sg} {r : Int32 × Sg} (h : M_X6_firstNotSo g = some r) : CTi l (EC z) D cI (cW q cI) yX6_firstNotSo cX6_firstNotSo 2 (some .int) 1 21 [.ref (q 0)] g r := by
  refine CTi.of2 (by decide) (EC_ok z) (Nat.le_of_ble_eq_true rfl) rfl (fun p e s m args below meth c A Q C hret => ?_)
  have jb2 : ∀ (kb2 : Int32 → Sg → Option (Int32 × Sg)) (hkb2 : ∀ (x1 : Int32) (g : Sg), kb2 x1 g = some r → J p l e (RM 1 21) s m args below meth c D (cW q cI) A 2 Q g 2 [(0, .ref (q 0)), (1, .int x1)] []) (x1 : Int32) (g : Sg), B_X6_firstNotSo_2 kb2 x1 g = some r → J p l e (RM 1 21) s m args below meth c D (cW q cI) A 2 Q g 2 [(0, .ref (q 0)), (1, .int x1)] [] := by
    intro kb2 hkb2 x1 g hM
    unfold B_X6_firstNotSo_2 at hM
    refine J.iload_n (pc := 2) C dX6_firstNotSo_2 rfl rfl ?_
    refine J.aload_n (pc := 3) C dX6_firstNotSo_3 rfl rfl ?_
    refine gf_X6_0_8 (pc := 4) C tf_X6_57 dX6_firstNotSo_4 ?_
    refine J.icmp_ge (pc := 7) C 46 dX6_firstNotSo_7 (by decide) (fun hc => ?_) (fun hc => ?_)
    · have hM := ite_t hc hM
      refine J.bipush (pc := 46) C (-9) dX6_firstNotSo_46 bp_m9 ?_
      exact hret dX6_firstNotSo_48 hM rfl
    · have hM := ite_f hc hM
      refine J.iload_n (pc := 10) C dX6_firstNotSo_10 rfl rfl ?_
      refine J.bipush (pc := 11) C 12 dX6_firstNotSo_11 bp_12 ?_
      refine J.icmp_ge (pc := 13) C 38 dX6_firstNotSo_13 (by decide) (fun hc => ?_) (fun hc => ?_)
      · have hM := ite_t hc hM
        refine J.iload_n (pc := 38) C dX6_firstNotSo_38 rfl rfl ?_
        exact hret dX6_firstNotSo_39 hM rfl
      · have hM := ite_f hc hM
        refine J.aload_n (pc := 16) C dX6_firstNotSo_16 rfl rfl ?_
        refine gf_X6_0_7 (pc := 17) C tf_X6_50 dX6_firstNotSo_17 ?_
        refine J.iload_n (pc := 20) C dX6_firstNotSo_20 rfl rfl ?_
        refine J.callS2i (pc := 21) C (K_X4_at (ia_1 q cI) _ _) lk_X4_at tm_X6_91 ⟨Nat.le_of_ble_eq_true rfl, Nat.le_of_ble_eq_true rfl⟩ (Nat.le_of_ble_eq_true rfl) dX6_firstNotSo_21 ?_
        refine J.aload_n (pc := 24) C dX6_firstNotSo_24 rfl rfl ?_
        refine gf_X6_0_4 (pc := 25) C tf_X6_32 dX6_firstNotSo_25 ?_
        refine gf_X5_26_7 (pc := 28) C tf_X6_169 dX6_firstNotSo_28 ?_
        refine J.iload_n (pc := 31) C dX6_firstNotSo_31 rfl rfl ?_
        refine J.callS2i (pc := 32) C (K_X4_at (ia_34 q cI) _ _) lk_X4_at tm_X6_91 ⟨Nat.le_of_ble_eq_true rfl, Nat.le_of_ble_eq_true rfl⟩ (Nat.le_of_ble_eq_true rfl) dX6_firstNotSo_32 ?_
        refine J.icmp_eq (pc := 35) C 40 dX6_firstNotSo_35 (by decide) (fun hc => ?_) (fun hc => ?_)
        · have hM := ite_t hc hM
          refine J.iinc (pc := 40) C 1 dX6_firstNotSo_40 ic_1 rfl (by decide) ?_
          refine J.goto (pc := 43) C 2 dX6_firstNotSo_43 (by decide) ?_
          refine J.sub C [0, 1] rfl ?_
          exact hkb2 _ _ hM
        · have hM := ite_f hc hM
          refine J.iload_n (pc := 38) C dX6_firstNotSo_38 rfl rfl ?_
          exact hret dX6_firstNotSo_39 hM rfl
  have jl2 : ∀ (x1 : Int32) (g : Sg), lup1 (B_X6_firstNotSo_2) FU x1 g = some r → J p l e (RM 1 21) s m args below meth c D (cW q cI) A 2 Q g 2 [(0, .ref (q 0)), (1, .int x1)] [] := 
    lup1_ok (P := fun x1 g => J p l e (RM 1 21) s m args below meth c D (cW q cI) A 2 Q g 2 [(0, .ref (q 0)), (1, .int x1)] []) (fun self hself => jb2 self hself) FU
  have hM := h
  unfold M_X6_firstNotSo at hM
  refine J.iconst (pc := 0) C 0 dX6_firstNotSo_0 ic_0 ?_
  refine J.istore_n (pc := 1) C dX6_firstNotSo_1 rfl (by decide) ?_
  refine J.sub C [0, 1] rfl ?_
  exact jl2 _ _ hM
def B_X6_valuesThatFitTheRow_6 (k1 n1 : Nat) (kb6 : Int32 → Int32 → Int32 → Int32 → Sg → Option (Int32 × Sg)) (x2 x3 x4 x5 : Int32) (g : Sg) : Option (Int32 × Sg) := (if x3 ≤ x5 then some (x4, g) else lt (rput g k1 n1 x2 x5) (fun g_1 => bI (M_X5_byHours 17 g_1) (fun r_2 g_3 => bI (M_X6_firstNotSo g_3) (fun r_4 g_5 => (if r_4 = (-9) then kb6 x2 x3 (x4 ||| (1 <<< (x5 &&& 31))) (x5 + 1) g_5 else kb6 x2 x3 x4 (x5 + 1) g_5)))))
def M_X6_valuesThatFitTheRow (k1 n1 : Nat) (x2 x3 : Int32) (g : Sg) : Option (Int32 × Sg) := lup4 (B_X6_valuesThatFitTheRow_6 k1 n1 ) FU x2 x3 0 0 g
set_option maxRecDepth 100000 in
set_option maxHeartbeats 4000000 in
theorem C_X6_valuesThatFitTheRow {l : Launch} {D : va_G} {q : Nat → Nat} {cI : ClassId} {z : Nat} {k1 n1 : Nat} (hk1 : isArr (cW q cI) cI (q k1) k1 n1) {x2 x3 : Int32} {g : Sg} {r : Int32 × Sg} (h : M_X6_valuesThatFitTheRow k1 n1 x2 x3 g = some r) : CTi l (EC z) D cI (cW q cI) yX6_valuesThatFitTheRow cX6_valuesThatFitTheRow 6 (some .int) 6 140 [.ref (q 0), .ref (q k1), .int x2, .int x3] g r := by
  refine CTi.of2 (by decide) (EC_ok z) (Nat.le_of_ble_eq_true rfl) rfl (fun p e s m args below meth c A Q C hret => ?_)
  have jb6 : ∀ (kb6 : Int32 → Int32 → Int32 → Int32 → Sg → Option (Int32 × Sg)) (hkb6 : ∀ (x2 x3 x4 x5 : Int32) (g : Sg), kb6 x2 x3 x4 x5 g = some r → J p l e (RM 6 140) s m args below meth c D (cW q cI) A 6 Q g 6 [(0, .ref (q 0)), (1, .ref (q k1)), (2, .int x2), (3, .int x3), (4, .int x4), (5, .int x5)] []) (x2 x3 x4 x5 : Int32) (g : Sg), B_X6_valuesThatFitTheRow_6 k1 n1 kb6 x2 x3 x4 x5 g = some r → J p l e (RM 6 140) s m args below meth c D (cW q cI) A 6 Q g 6 [(0, .ref (q 0)), (1, .ref (q k1)), (2, .int x2), (3, .int x3), (4, .int x4), (5, .int x5)] [] := by
    intro kb6 hkb6 x2 x3 x4 x5 g hM
    unfold B_X6_valuesThatFitTheRow_6 at hM
    refine J.iload (pc := 6) C dX6_valuesThatFitTheRow_6 rfl ?_
    refine J.iload_n (pc := 8) C dX6_valuesThatFitTheRow_8 rfl rfl ?_
    refine J.icmp_ge (pc := 9) C 55 dX6_valuesThatFitTheRow_9 (by decide) (fun hc => ?_) (fun hc => ?_)
    · have hM := ite_t hc hM
      refine J.iload (pc := 55) C dX6_valuesThatFitTheRow_55 rfl ?_
      exact hret dX6_valuesThatFitTheRow_57 hM rfl
    · have hM := ite_f hc hM
      refine J.aload_n (pc := 12) C dX6_valuesThatFitTheRow_12 rfl rfl ?_
      refine J.iload_n (pc := 13) C dX6_valuesThatFitTheRow_13 rfl rfl ?_
      refine J.iload (pc := 14) C dX6_valuesThatFitTheRow_14 rfl ?_
      refine J.callS3v (pc := 16) C (K_X4_put hk1 _ _ _) lk_X4_put tm_X6_115 ⟨Nat.le_of_ble_eq_true rfl, Nat.le_of_ble_eq_true rfl⟩ (Nat.le_of_ble_eq_true rfl) dX6_valuesThatFitTheRow_16 ?_
      obtain ⟨_, ea, hM⟩ := lt_ex hM
      refine J.cong C ea ?_
      refine J.aload_n (pc := 19) C dX6_valuesThatFitTheRow_19 rfl rfl ?_
      refine gf_X6_0_4 (pc := 20) C tf_X6_32 dX6_valuesThatFitTheRow_20 ?_
      refine J.aload_n (pc := 23) C dX6_valuesThatFitTheRow_23 rfl rfl ?_
      refine gf_X6_0_2 (pc := 24) C tf_X6_19 dX6_valuesThatFitTheRow_24 ?_
      obtain ⟨_, _, h1, hM⟩ := bI_ex hM
      refine J.callV1i (pc := 27) C (C_X5_byHours al_17 h1) lk_X5_byHours tm_X6_126 (io_26 q cI) ⟨Nat.le_of_ble_eq_true rfl, Nat.le_of_ble_eq_true rfl⟩ (Nat.le_of_ble_eq_true rfl) dX6_valuesThatFitTheRow_27 ?_
      refine J.pop (pc := 30) C dX6_valuesThatFitTheRow_30 rfl ?_
      refine J.aload_n (pc := 31) C dX6_valuesThatFitTheRow_31 rfl rfl ?_
      obtain ⟨_, _, h1, hM⟩ := bI_ex hM
      refine J.callV0i (pc := 32) C (C_X6_firstNotSo h1) lk_X6_firstNotSo tm_X6_223 (io_0 q cI) ⟨Nat.le_of_ble_eq_true rfl, Nat.le_of_ble_eq_true rfl⟩ (Nat.le_of_ble_eq_true rfl) dX6_valuesThatFitTheRow_32 ?_
      refine J.bipush (pc := 35) C (-9) dX6_valuesThatFitTheRow_35 bp_m9 ?_
      refine J.icmp_ne (pc := 37) C 49 dX6_valuesThatFitTheRow_37 (by decide) (fun hc => ?_) (fun hc => ?_)
      · have hM := ite_f hc hM
        refine J.iinc (pc := 49) C 1 dX6_valuesThatFitTheRow_49 ic_1 rfl (by decide) ?_
        refine J.goto (pc := 52) C 6 dX6_valuesThatFitTheRow_52 (by decide) ?_
        refine J.sub C [0, 1, 2, 3, 4, 5] rfl ?_
        exact hkb6 _ _ _ _ _ hM
      · have hM := ite_t hc hM
        refine J.iload (pc := 40) C dX6_valuesThatFitTheRow_40 rfl ?_
        refine J.iconst (pc := 42) C 1 dX6_valuesThatFitTheRow_42 ic_1 ?_
        refine J.iload (pc := 43) C dX6_valuesThatFitTheRow_43 rfl ?_
        refine J.ishl (pc := 45) C dX6_valuesThatFitTheRow_45 ?_
        refine J.ior (pc := 46) C dX6_valuesThatFitTheRow_46 ?_
        refine J.istore (pc := 47) C dX6_valuesThatFitTheRow_47 (by decide) ?_
        refine J.iinc (pc := 49) C 1 dX6_valuesThatFitTheRow_49 ic_1 rfl (by decide) ?_
        refine J.goto (pc := 52) C 6 dX6_valuesThatFitTheRow_52 (by decide) ?_
        refine J.sub C [0, 1, 2, 3, 4, 5] rfl ?_
        exact hkb6 _ _ _ _ _ hM
  have jl6 : ∀ (x2 x3 x4 x5 : Int32) (g : Sg), lup4 (B_X6_valuesThatFitTheRow_6 k1 n1) FU x2 x3 x4 x5 g = some r → J p l e (RM 6 140) s m args below meth c D (cW q cI) A 6 Q g 6 [(0, .ref (q 0)), (1, .ref (q k1)), (2, .int x2), (3, .int x3), (4, .int x4), (5, .int x5)] [] := 
    lup4_ok (P := fun x2 x3 x4 x5 g => J p l e (RM 6 140) s m args below meth c D (cW q cI) A 6 Q g 6 [(0, .ref (q 0)), (1, .ref (q k1)), (2, .int x2), (3, .int x3), (4, .int x4), (5, .int x5)] []) (fun self hself => jb6 self hself) FU
  have hM := h
  unfold M_X6_valuesThatFitTheRow at hM
  refine J.iconst (pc := 0) C 0 dX6_valuesThatFitTheRow_0 ic_0 ?_
  refine J.istore (pc := 1) C dX6_valuesThatFitTheRow_1 (by decide) ?_
  refine J.iconst (pc := 3) C 0 dX6_valuesThatFitTheRow_3 ic_0 ?_
  refine J.istore (pc := 4) C dX6_valuesThatFitTheRow_4 (by decide) ?_
  refine J.sub C [0, 1, 2, 3, 4, 5] rfl ?_
  exact jl6 _ _ _ _ _ hM
def M_X6_letter (x1 : Int32) (g : Sg) : Option (Int32 × Sg) := (if 0 ≤ x1 then (if 255 < x1 then bI (M_X6_refuse (-6) g) (fun r_1 g_2 => some (r_1, g_2)) else (if (g.1 24) < 96 then lt (U_X2_add x1 g) (fun g_3 => some (g_3.1 24, g_3)) else bI (M_X6_refuse (-6) g) (fun r_4 g_5 => some (r_4, g_5)))) else bI (M_X6_refuse (-4) g) (fun r_6 g_7 => some (r_6, g_7)))
set_option maxRecDepth 100000 in
set_option maxHeartbeats 4000000 in
theorem C_X6_letter {l : Launch} {D : va_G} {q : Nat → Nat} {cI : ClassId} {z : Nat} {x1 : Int32} {g : Sg} {r : Int32 × Sg} (h : M_X6_letter x1 g = some r) : CTi l (EC z) D cI (cW q cI) yX6_letter cX6_letter 2 (some .int) 2 43 [.ref (q 0), .int x1] g r := by
  refine CTi.of2 (by decide) (EC_ok z) (Nat.le_of_ble_eq_true rfl) rfl (fun p e s m args below meth c A Q C hret => ?_)
  have hM := h
  unfold M_X6_letter at hM
  refine J.iload_n (pc := 0) C dX6_letter_0 rfl rfl ?_
  refine J.if_ge (pc := 1) C 11 dX6_letter_1 (by decide) (fun hc => ?_) (fun hc => ?_)
  · have hM := ite_t hc hM
    refine J.iload_n (pc := 11) C dX6_letter_11 rfl rfl ?_
    refine J.sipush (pc := 12) C 255 dX6_letter_12 sp_255 ?_
    refine J.icmp_gt (pc := 15) C 30 dX6_letter_15 (by decide) (fun hc => ?_) (fun hc => ?_)
    · have hM := ite_t hc hM
      refine J.aload_n (pc := 30) C dX6_letter_30 rfl rfl ?_
      refine J.bipush (pc := 31) C (-6) dX6_letter_31 bp_m6 ?_
      obtain ⟨_, _, h1, hM⟩ := bI_ex hM
      refine J.callV1i (pc := 33) C (C_X6_refuse h1) lk_X6_refuse tm_X6_65 (io_0 q cI) ⟨Nat.le_of_ble_eq_true rfl, Nat.le_of_ble_eq_true rfl⟩ (Nat.le_of_ble_eq_true rfl) dX6_letter_33 ?_
      exact hret dX6_letter_36 hM rfl
    · have hM := ite_f hc hM
      refine J.aload_n (pc := 18) C dX6_letter_18 rfl rfl ?_
      refine gf_X6_0_3 (pc := 19) C tf_X6_25 dX6_letter_19 ?_
      refine gf_X2_24_1 (pc := 22) C tf_X6_69 dX6_letter_22 ?_
      refine J.bipush (pc := 25) C 96 dX6_letter_25 bp_96 ?_
      refine J.icmp_lt (pc := 27) C 37 dX6_letter_27 (by decide) (fun hc => ?_) (fun hc => ?_)
      · have hM := ite_t hc hM
        refine J.aload_n (pc := 37) C dX6_letter_37 rfl rfl ?_
        refine gf_X6_0_3 (pc := 38) C tf_X6_25 dX6_letter_38 ?_
        refine J.iload_n (pc := 41) C dX6_letter_41 rfl rfl ?_
        refine J.callV1v (pc := 42) C (K_X2_add _ _) lk_X2_add tm_X6_72 (io_24 q cI) ⟨Nat.le_of_ble_eq_true rfl, Nat.le_of_ble_eq_true rfl⟩ (Nat.le_of_ble_eq_true rfl) dX6_letter_42 ?_
        obtain ⟨_, ea, hM⟩ := lt_ex hM
        refine J.cong C ea ?_
        refine J.aload_n (pc := 45) C dX6_letter_45 rfl rfl ?_
        refine gf_X6_0_3 (pc := 46) C tf_X6_25 dX6_letter_46 ?_
        refine gf_X2_24_1 (pc := 49) C tf_X6_69 dX6_letter_49 ?_
        exact hret dX6_letter_52 hM rfl
      · have hM := ite_f hc hM
        refine J.aload_n (pc := 30) C dX6_letter_30 rfl rfl ?_
        refine J.bipush (pc := 31) C (-6) dX6_letter_31 bp_m6 ?_
        obtain ⟨_, _, h1, hM⟩ := bI_ex hM
        refine J.callV1i (pc := 33) C (C_X6_refuse h1) lk_X6_refuse tm_X6_65 (io_0 q cI) ⟨Nat.le_of_ble_eq_true rfl, Nat.le_of_ble_eq_true rfl⟩ (Nat.le_of_ble_eq_true rfl) dX6_letter_33 ?_
        exact hret dX6_letter_36 hM rfl
  · have hM := ite_f hc hM
    refine J.aload_n (pc := 4) C dX6_letter_4 rfl rfl ?_
    refine J.bipush (pc := 5) C (-4) dX6_letter_5 bp_m4 ?_
    obtain ⟨_, _, h1, hM⟩ := bI_ex hM
    refine J.callV1i (pc := 7) C (C_X6_refuse h1) lk_X6_refuse tm_X6_65 (io_0 q cI) ⟨Nat.le_of_ble_eq_true rfl, Nat.le_of_ble_eq_true rfl⟩ (Nat.le_of_ble_eq_true rfl) dX6_letter_7 ?_
    exact hret dX6_letter_10 hM rfl
def M_X6_night (g : Sg) : Option (Int32 × Sg) := lt (U_X0_becomeLike 17 3 g) (fun g_1 => bI (M_X2_tellTo 17 g_1) (fun r_2 g_3 => (if r_2 < 0 then lt (sI g_3 24 0) (fun g_4 => some (r_2, g_4)) else lt (U_X0_becomeLike 3 17 g_3) (fun g_5 => lt (sI g_5 24 0) (fun g_6 => some (r_2, g_6))))))
set_option maxRecDepth 100000 in
set_option maxHeartbeats 4000000 in
theorem C_X6_night {l : Launch} {D : va_G} {q : Nat → Nat} {cI : ClassId} {z : Nat} {g : Sg} {r : Int32 × Sg} (h : M_X6_night g = some r) : CTi l (EC z) D cI (cW q cI) yX6_night cX6_night 2 (some .int) 5 113 [.ref (q 0)] g r := by
  refine CTi.of2 (by decide) (EC_ok z) (Nat.le_of_ble_eq_true rfl) rfl (fun p e s m args below meth c A Q C hret => ?_)
  have hM := h
  unfold M_X6_night at hM
  refine J.aload_n (pc := 0) C dX6_night_0 rfl rfl ?_
  refine gf_X6_0_2 (pc := 1) C tf_X6_19 dX6_night_1 ?_
  refine J.aload_n (pc := 4) C dX6_night_4 rfl rfl ?_
  refine gf_X6_0_0 (pc := 5) C tf_X6_10 dX6_night_5 ?_
  refine J.callV1v (pc := 8) C (K_X0_becomeLike al_17 al_3 _) lk_X0_becomeLike tm_X6_76 (io_17 q cI) ⟨Nat.le_of_ble_eq_true rfl, Nat.le_of_ble_eq_true rfl⟩ (Nat.le_of_ble_eq_true rfl) dX6_night_8 ?_
  obtain ⟨_, ea, hM⟩ := lt_ex hM
  refine J.cong C ea ?_
  refine J.aload_n (pc := 11) C dX6_night_11 rfl rfl ?_
  refine gf_X6_0_3 (pc := 12) C tf_X6_25 dX6_night_12 ?_
  refine J.aload_n (pc := 15) C dX6_night_15 rfl rfl ?_
  refine gf_X6_0_2 (pc := 16) C tf_X6_19 dX6_night_16 ?_
  obtain ⟨_, _, h1, hM⟩ := bI_ex hM
  refine J.callV1i (pc := 19) C (C_X2_tellTo al_17 h1) lk_X2_tellTo tm_X6_80 (io_24 q cI) ⟨Nat.le_of_ble_eq_true rfl, Nat.le_of_ble_eq_true rfl⟩ (Nat.le_of_ble_eq_true rfl) dX6_night_19 ?_
  refine J.istore_n (pc := 22) C dX6_night_22 rfl (by decide) ?_
  refine J.iload_n (pc := 23) C dX6_night_23 rfl rfl ?_
  refine J.if_lt (pc := 24) C 38 dX6_night_24 (by decide) (fun hc => ?_) (fun hc => ?_)
  · have hM := ite_t hc hM
    refine J.aload_n (pc := 38) C dX6_night_38 rfl rfl ?_
    refine gf_X6_0_3 (pc := 39) C tf_X6_25 dX6_night_39 ?_
    refine J.iconst (pc := 42) C 0 dX6_night_42 ic_0 ?_
    refine pf_X2_24_1 (pc := 43) C tf_X6_69 dX6_night_43 ?_
    obtain ⟨_, ea, hM⟩ := lt_ex hM
    refine J.cong C ea ?_
    refine J.iload_n (pc := 46) C dX6_night_46 rfl rfl ?_
    exact hret dX6_night_47 hM rfl
  · have hM := ite_f hc hM
    refine J.aload_n (pc := 27) C dX6_night_27 rfl rfl ?_
    refine gf_X6_0_0 (pc := 28) C tf_X6_10 dX6_night_28 ?_
    refine J.aload_n (pc := 31) C dX6_night_31 rfl rfl ?_
    refine gf_X6_0_2 (pc := 32) C tf_X6_19 dX6_night_32 ?_
    refine J.callV1v (pc := 35) C (K_X0_becomeLike al_3 al_17 _) lk_X0_becomeLike tm_X6_76 (io_3 q cI) ⟨Nat.le_of_ble_eq_true rfl, Nat.le_of_ble_eq_true rfl⟩ (Nat.le_of_ble_eq_true rfl) dX6_night_35 ?_
    obtain ⟨_, ea, hM⟩ := lt_ex hM
    refine J.cong C ea ?_
    refine J.aload_n (pc := 38) C dX6_night_38 rfl rfl ?_
    refine gf_X6_0_3 (pc := 39) C tf_X6_25 dX6_night_39 ?_
    refine J.iconst (pc := 42) C 0 dX6_night_42 ic_0 ?_
    refine pf_X2_24_1 (pc := 43) C tf_X6_69 dX6_night_43 ?_
    obtain ⟨_, ea, hM⟩ := lt_ex hM
    refine J.cong C ea ?_
    refine J.iload_n (pc := 46) C dX6_night_46 rfl rfl ?_
    exact hret dX6_night_47 hM rfl
def M_X6_goer (x1 x2 : Int32) (g : Sg) : Option (Int32 × Sg) := (if (V_X0_knows 3 x1 g) = 0 then bI (M_X6_refuse (-1) g) (fun r_3 g_4 => some (r_3, g_4)) else (if x2 = 0 then some (rat g 5 7 x1, g) else if x2 = 1 then some (rat g 6 7 x1, g) else if x2 = 2 then some (rat g 7 7 x1, g) else if x2 = 3 then some (rat g 8 7 x1, g) else if x2 = 4 then some (rat g 9 7 x1, g) else if x2 = 5 then some (V_X0_fetches 3 x1 g, g) else if x2 = 6 then some (V_X0_darkStepCosts 3 x1 g, g) else bI (M_X6_refuse (-2) g) (fun r_1 g_2 => some (r_1, g_2))))
set_option maxRecDepth 100000 in
set_option maxHeartbeats 4000000 in
theorem C_X6_goer {l : Launch} {D : va_G} {q : Nat → Nat} {cI : ClassId} {z : Nat} {x1 x2 : Int32} {g : Sg} {r : Int32 × Sg} (h : M_X6_goer x1 x2 g = some r) : CTi l (EC z) D cI (cW q cI) yX6_goer cX6_goer 3 (some .int) 3 62 [.ref (q 0), .int x1, .int x2] g r := by
  refine CTi.of2 (by decide) (EC_ok z) (Nat.le_of_ble_eq_true rfl) rfl (fun p e s m args below meth c A Q C hret => ?_)
  have hM := h
  unfold M_X6_goer at hM
  refine J.aload_n (pc := 0) C dX6_goer_0 rfl rfl ?_
  refine gf_X6_0_0 (pc := 1) C tf_X6_10 dX6_goer_1 ?_
  refine J.iload_n (pc := 4) C dX6_goer_4 rfl rfl ?_
  refine J.callV1i (pc := 5) C (K_X0_knows al_3 _ _) lk_X0_knows tm_X6_84 (io_3 q cI) ⟨Nat.le_of_ble_eq_true rfl, Nat.le_of_ble_eq_true rfl⟩ (Nat.le_of_ble_eq_true rfl) dX6_goer_5 ?_
  refine J.if_ne (pc := 8) C 17 dX6_goer_8 (by decide) (fun hc => ?_) (fun hc => ?_)
  · have hM := ite_f hc hM
    refine J.iload_n (pc := 17) C dX6_goer_17 rfl rfl ?_
    refine J.case (pc := 18) C 0 (fun hs0 => ?_) (fun hs0 => ?_)
    · have hM := ite_t hs0 hM
      refine J.tabIn (pc := 18) C 0 60 dX6_goer_18 hs0 (by decide) (by decide) rfl (by decide) ?_
      refine J.aload_n (pc := 60) C dX6_goer_60 rfl rfl ?_
      refine gf_X6_0_0 (pc := 61) C tf_X6_10 dX6_goer_61 ?_
      refine gf_X0_1 (pc := 64) al_3 C tf_X6_88 dX6_goer_64 ?_
      refine J.iload_n (pc := 67) C dX6_goer_67 rfl rfl ?_
      refine J.callS2i (pc := 68) C (K_X4_at (ia_5 q cI) _ _) lk_X4_at tm_X6_91 ⟨Nat.le_of_ble_eq_true rfl, Nat.le_of_ble_eq_true rfl⟩ (Nat.le_of_ble_eq_true rfl) dX6_goer_68 ?_
      exact hret dX6_goer_71 hM rfl
    · have hM := ite_f hs0 hM
      refine J.case (pc := 18) C 1 (fun hs1 => ?_) (fun hs1 => ?_)
      · have hM := ite_t hs1 hM
        refine J.tabIn (pc := 18) C 1 72 dX6_goer_18 hs1 (by decide) (by decide) rfl (by decide) ?_
        refine J.aload_n (pc := 72) C dX6_goer_72 rfl rfl ?_
        refine gf_X6_0_0 (pc := 73) C tf_X6_10 dX6_goer_73 ?_
        refine gf_X0_2 (pc := 76) al_3 C tf_X6_97 dX6_goer_76 ?_
        refine J.iload_n (pc := 79) C dX6_goer_79 rfl rfl ?_
        refine J.callS2i (pc := 80) C (K_X4_at (ia_6 q cI) _ _) lk_X4_at tm_X6_91 ⟨Nat.le_of_ble_eq_true rfl, Nat.le_of_ble_eq_true rfl⟩ (Nat.le_of_ble_eq_true rfl) dX6_goer_80 ?_
        exact hret dX6_goer_83 hM rfl
      · have hM := ite_f hs1 hM
        refine J.case (pc := 18) C 2 (fun hs2 => ?_) (fun hs2 => ?_)
        · have hM := ite_t hs2 hM
          refine J.tabIn (pc := 18) C 2 84 dX6_goer_18 hs2 (by decide) (by decide) rfl (by decide) ?_
          refine J.aload_n (pc := 84) C dX6_goer_84 rfl rfl ?_
          refine gf_X6_0_0 (pc := 85) C tf_X6_10 dX6_goer_85 ?_
          refine gf_X0_3 (pc := 88) al_3 C tf_X6_100 dX6_goer_88 ?_
          refine J.iload_n (pc := 91) C dX6_goer_91 rfl rfl ?_
          refine J.callS2i (pc := 92) C (K_X4_at (ia_7 q cI) _ _) lk_X4_at tm_X6_91 ⟨Nat.le_of_ble_eq_true rfl, Nat.le_of_ble_eq_true rfl⟩ (Nat.le_of_ble_eq_true rfl) dX6_goer_92 ?_
          exact hret dX6_goer_95 hM rfl
        · have hM := ite_f hs2 hM
          refine J.case (pc := 18) C 3 (fun hs3 => ?_) (fun hs3 => ?_)
          · have hM := ite_t hs3 hM
            refine J.tabIn (pc := 18) C 3 96 dX6_goer_18 hs3 (by decide) (by decide) rfl (by decide) ?_
            refine J.aload_n (pc := 96) C dX6_goer_96 rfl rfl ?_
            refine gf_X6_0_0 (pc := 97) C tf_X6_10 dX6_goer_97 ?_
            refine gf_X0_4 (pc := 100) al_3 C tf_X6_103 dX6_goer_100 ?_
            refine J.iload_n (pc := 103) C dX6_goer_103 rfl rfl ?_
            refine J.callS2i (pc := 104) C (K_X4_at (ia_8 q cI) _ _) lk_X4_at tm_X6_91 ⟨Nat.le_of_ble_eq_true rfl, Nat.le_of_ble_eq_true rfl⟩ (Nat.le_of_ble_eq_true rfl) dX6_goer_104 ?_
            exact hret dX6_goer_107 hM rfl
          · have hM := ite_f hs3 hM
            refine J.case (pc := 18) C 4 (fun hs4 => ?_) (fun hs4 => ?_)
            · have hM := ite_t hs4 hM
              refine J.tabIn (pc := 18) C 4 108 dX6_goer_18 hs4 (by decide) (by decide) rfl (by decide) ?_
              refine J.aload_n (pc := 108) C dX6_goer_108 rfl rfl ?_
              refine gf_X6_0_0 (pc := 109) C tf_X6_10 dX6_goer_109 ?_
              refine gf_X0_5 (pc := 112) al_3 C tf_X6_106 dX6_goer_112 ?_
              refine J.iload_n (pc := 115) C dX6_goer_115 rfl rfl ?_
              refine J.callS2i (pc := 116) C (K_X4_at (ia_9 q cI) _ _) lk_X4_at tm_X6_91 ⟨Nat.le_of_ble_eq_true rfl, Nat.le_of_ble_eq_true rfl⟩ (Nat.le_of_ble_eq_true rfl) dX6_goer_116 ?_
              exact hret dX6_goer_119 hM rfl
            · have hM := ite_f hs4 hM
              refine J.case (pc := 18) C 5 (fun hs5 => ?_) (fun hs5 => ?_)
              · have hM := ite_t hs5 hM
                refine J.tabIn (pc := 18) C 5 120 dX6_goer_18 hs5 (by decide) (by decide) rfl (by decide) ?_
                refine J.aload_n (pc := 120) C dX6_goer_120 rfl rfl ?_
                refine gf_X6_0_0 (pc := 121) C tf_X6_10 dX6_goer_121 ?_
                refine J.iload_n (pc := 124) C dX6_goer_124 rfl rfl ?_
                refine J.callV1i (pc := 125) C (K_X0_fetches al_3 _ _) lk_X0_fetches tm_X6_109 (io_3 q cI) ⟨Nat.le_of_ble_eq_true rfl, Nat.le_of_ble_eq_true rfl⟩ (Nat.le_of_ble_eq_true rfl) dX6_goer_125 ?_
                exact hret dX6_goer_128 hM rfl
              · have hM := ite_f hs5 hM
                refine J.case (pc := 18) C 6 (fun hs6 => ?_) (fun hs6 => ?_)
                · have hM := ite_t hs6 hM
                  refine J.tabIn (pc := 18) C 6 129 dX6_goer_18 hs6 (by decide) (by decide) rfl (by decide) ?_
                  refine J.aload_n (pc := 129) C dX6_goer_129 rfl rfl ?_
                  refine gf_X6_0_0 (pc := 130) C tf_X6_10 dX6_goer_130 ?_
                  refine J.iload_n (pc := 133) C dX6_goer_133 rfl rfl ?_
                  refine J.callV1i (pc := 134) C (K_X0_darkStepCosts al_3 _ _) lk_X0_darkStepCosts tm_X6_112 (io_3 q cI) ⟨Nat.le_of_ble_eq_true rfl, Nat.le_of_ble_eq_true rfl⟩ (Nat.le_of_ble_eq_true rfl) dX6_goer_134 ?_
                  exact hret dX6_goer_137 hM rfl
                · have hM := ite_f hs6 hM
                  refine J.tabOut (pc := 18) C 138 dX6_goer_18 (by have c0 := i_ne 0 rfl hs0; have c1 := i_ne 1 rfl hs1; have c2 := i_ne 2 rfl hs2; have c3 := i_ne 3 rfl hs3; have c4 := i_ne 4 rfl hs4; have c5 := i_ne 5 rfl hs5; have c6 := i_ne 6 rfl hs6; omega) (by decide) ?_
                  refine J.aload_n (pc := 138) C dX6_goer_138 rfl rfl ?_
                  refine J.bipush (pc := 139) C (-2) dX6_goer_139 bp_m2 ?_
                  obtain ⟨_, _, h1, hM⟩ := bI_ex hM
                  refine J.callV1i (pc := 141) C (C_X6_refuse h1) lk_X6_refuse tm_X6_65 (io_0 q cI) ⟨Nat.le_of_ble_eq_true rfl, Nat.le_of_ble_eq_true rfl⟩ (Nat.le_of_ble_eq_true rfl) dX6_goer_141 ?_
                  exact hret dX6_goer_144 hM rfl
  · have hM := ite_t hc hM
    refine J.aload_n (pc := 11) C dX6_goer_11 rfl rfl ?_
    refine J.iconst (pc := 12) C (-1) dX6_goer_12 ic_m1 ?_
    obtain ⟨_, _, h1, hM⟩ := bI_ex hM
    refine J.callV1i (pc := 13) C (C_X6_refuse h1) lk_X6_refuse tm_X6_65 (io_0 q cI) ⟨Nat.le_of_ble_eq_true rfl, Nat.le_of_ble_eq_true rfl⟩ (Nat.le_of_ble_eq_true rfl) dX6_goer_13 ?_
    exact hret dX6_goer_16 hM rfl
def M_X6_hour (x1 x2 : Int32) (g : Sg) : Option (Int32 × Sg) := (if (V_X0_knows 3 x1 g) = 0 then bI (M_X6_refuse (-1) g) (fun r_7 g_8 => some (r_7, g_8)) else (if 0 ≤ x2 then (if x2 < 12 then lt (rat g 9 7 x1) (fun x3_1 => lt (rput g 9 7 x1 x2) (fun g_2 => some (x3_1, g_2))) else bI (M_X6_refuse (-6) g) (fun r_3 g_4 => some (r_3, g_4))) else bI (M_X6_refuse (-4) g) (fun r_5 g_6 => some (r_5, g_6))))
set_option maxRecDepth 100000 in
set_option maxHeartbeats 4000000 in
theorem C_X6_hour {l : Launch} {D : va_G} {q : Nat → Nat} {cI : ClassId} {z : Nat} {x1 x2 : Int32} {g : Sg} {r : Int32 × Sg} (h : M_X6_hour x1 x2 g = some r) : CTi l (EC z) D cI (cW q cI) yX6_hour cX6_hour 4 (some .int) 2 43 [.ref (q 0), .int x1, .int x2] g r := by
  refine CTi.of2 (by decide) (EC_ok z) (Nat.le_of_ble_eq_true rfl) rfl (fun p e s m args below meth c A Q C hret => ?_)
  have hM := h
  unfold M_X6_hour at hM
  refine J.aload_n (pc := 0) C dX6_hour_0 rfl rfl ?_
  refine gf_X6_0_0 (pc := 1) C tf_X6_10 dX6_hour_1 ?_
  refine J.iload_n (pc := 4) C dX6_hour_4 rfl rfl ?_
  refine J.callV1i (pc := 5) C (K_X0_knows al_3 _ _) lk_X0_knows tm_X6_84 (io_3 q cI) ⟨Nat.le_of_ble_eq_true rfl, Nat.le_of_ble_eq_true rfl⟩ (Nat.le_of_ble_eq_true rfl) dX6_hour_5 ?_
  refine J.if_ne (pc := 8) C 17 dX6_hour_8 (by decide) (fun hc => ?_) (fun hc => ?_)
  · have hM := ite_f hc hM
    refine J.iload_n (pc := 17) C dX6_hour_17 rfl rfl ?_
    refine J.if_ge (pc := 18) C 28 dX6_hour_18 (by decide) (fun hc => ?_) (fun hc => ?_)
    · have hM := ite_t hc hM
      refine J.iload_n (pc := 28) C dX6_hour_28 rfl rfl ?_
      refine J.bipush (pc := 29) C 12 dX6_hour_29 bp_12 ?_
      refine J.icmp_lt (pc := 31) C 41 dX6_hour_31 (by decide) (fun hc => ?_) (fun hc => ?_)
      · have hM := ite_t hc hM
        refine J.aload_n (pc := 41) C dX6_hour_41 rfl rfl ?_
        refine gf_X6_0_0 (pc := 42) C tf_X6_10 dX6_hour_42 ?_
        refine gf_X0_5 (pc := 45) al_3 C tf_X6_106 dX6_hour_45 ?_
        refine J.iload_n (pc := 48) C dX6_hour_48 rfl rfl ?_
        refine J.callS2i (pc := 49) C (K_X4_at (ia_9 q cI) _ _) lk_X4_at tm_X6_91 ⟨Nat.le_of_ble_eq_true rfl, Nat.le_of_ble_eq_true rfl⟩ (Nat.le_of_ble_eq_true rfl) dX6_hour_49 ?_
        obtain ⟨_, ea, hM⟩ := lt_ex hM
        refine J.istore_nV (pc := 52) C dX6_hour_52 rfl (by decide) ea ?_
        refine J.aload_n (pc := 53) C dX6_hour_53 rfl rfl ?_
        refine gf_X6_0_0 (pc := 54) C tf_X6_10 dX6_hour_54 ?_
        refine gf_X0_5 (pc := 57) al_3 C tf_X6_106 dX6_hour_57 ?_
        refine J.iload_n (pc := 60) C dX6_hour_60 rfl rfl ?_
        refine J.iload_n (pc := 61) C dX6_hour_61 rfl rfl ?_
        refine J.callS3v (pc := 62) C (K_X4_put (ia_9 q cI) _ _ _) lk_X4_put tm_X6_115 ⟨Nat.le_of_ble_eq_true rfl, Nat.le_of_ble_eq_true rfl⟩ (Nat.le_of_ble_eq_true rfl) dX6_hour_62 ?_
        obtain ⟨_, ea, hM⟩ := lt_ex hM
        refine J.cong C ea ?_
        refine J.iload_n (pc := 65) C dX6_hour_65 rfl rfl ?_
        exact hret dX6_hour_66 hM rfl
      · have hM := ite_f hc hM
        refine J.aload_n (pc := 34) C dX6_hour_34 rfl rfl ?_
        refine J.bipush (pc := 35) C (-6) dX6_hour_35 bp_m6 ?_
        obtain ⟨_, _, h1, hM⟩ := bI_ex hM
        refine J.callV1i (pc := 37) C (C_X6_refuse h1) lk_X6_refuse tm_X6_65 (io_0 q cI) ⟨Nat.le_of_ble_eq_true rfl, Nat.le_of_ble_eq_true rfl⟩ (Nat.le_of_ble_eq_true rfl) dX6_hour_37 ?_
        exact hret dX6_hour_40 hM rfl
    · have hM := ite_f hc hM
      refine J.aload_n (pc := 21) C dX6_hour_21 rfl rfl ?_
      refine J.bipush (pc := 22) C (-4) dX6_hour_22 bp_m4 ?_
      obtain ⟨_, _, h1, hM⟩ := bI_ex hM
      refine J.callV1i (pc := 24) C (C_X6_refuse h1) lk_X6_refuse tm_X6_65 (io_0 q cI) ⟨Nat.le_of_ble_eq_true rfl, Nat.le_of_ble_eq_true rfl⟩ (Nat.le_of_ble_eq_true rfl) dX6_hour_24 ?_
      exact hret dX6_hour_27 hM rfl
  · have hM := ite_t hc hM
    refine J.aload_n (pc := 11) C dX6_hour_11 rfl rfl ?_
    refine J.iconst (pc := 12) C (-1) dX6_hour_12 ic_m1 ?_
    obtain ⟨_, _, h1, hM⟩ := bI_ex hM
    refine J.callV1i (pc := 13) C (C_X6_refuse h1) lk_X6_refuse tm_X6_65 (io_0 q cI) ⟨Nat.le_of_ble_eq_true rfl, Nat.le_of_ble_eq_true rfl⟩ (Nat.le_of_ble_eq_true rfl) dX6_hour_13 ?_
    exact hret dX6_hour_16 hM rfl
def M_X6_set (x1 x2 : Int32) (g : Sg) : Option (Int32 × Sg) := (if x1 < 0 then bI (M_X6_refuse (-2) g) (fun r_1 g_2 => some (r_1, g_2)) else (if x1 < 3 then (if 0 ≤ x2 then lt (rat g 4 3 x1) (fun x3_3 => bI (M_X0_settle 3 x1 x2 g) (fun r_4 g_5 => (if r_4 = 0 then bI (M_X6_refuse (-6) g_5) (fun r_6 g_7 => some (r_6, g_7)) else some (x3_3, g_5)))) else bI (M_X6_refuse (-4) g) (fun r_8 g_9 => some (r_8, g_9))) else bI (M_X6_refuse (-2) g) (fun r_10 g_11 => some (r_10, g_11))))
set_option maxRecDepth 100000 in
set_option maxHeartbeats 4000000 in
theorem C_X6_set {l : Launch} {D : va_G} {q : Nat → Nat} {cI : ClassId} {z : Nat} {x1 x2 : Int32} {g : Sg} {r : Int32 × Sg} (h : M_X6_set x1 x2 g = some r) : CTi l (EC z) D cI (cW q cI) yX6_set cX6_set 4 (some .int) 2 44 [.ref (q 0), .int x1, .int x2] g r := by
  refine CTi.of2 (by decide) (EC_ok z) (Nat.le_of_ble_eq_true rfl) rfl (fun p e s m args below meth c A Q C hret => ?_)
  have hM := h
  unfold M_X6_set at hM
  refine J.iload_n (pc := 0) C dX6_set_0 rfl rfl ?_
  refine J.if_lt (pc := 1) C 9 dX6_set_1 (by decide) (fun hc => ?_) (fun hc => ?_)
  · have hM := ite_t hc hM
    refine J.aload_n (pc := 9) C dX6_set_9 rfl rfl ?_
    refine J.bipush (pc := 10) C (-2) dX6_set_10 bp_m2 ?_
    obtain ⟨_, _, h1, hM⟩ := bI_ex hM
    refine J.callV1i (pc := 12) C (C_X6_refuse h1) lk_X6_refuse tm_X6_65 (io_0 q cI) ⟨Nat.le_of_ble_eq_true rfl, Nat.le_of_ble_eq_true rfl⟩ (Nat.le_of_ble_eq_true rfl) dX6_set_12 ?_
    exact hret dX6_set_15 hM rfl
  · have hM := ite_f hc hM
    refine J.iload_n (pc := 4) C dX6_set_4 rfl rfl ?_
    refine J.iconst (pc := 5) C 3 dX6_set_5 ic_3 ?_
    refine J.icmp_lt (pc := 6) C 16 dX6_set_6 (by decide) (fun hc => ?_) (fun hc => ?_)
    · have hM := ite_t hc hM
      refine J.iload_n (pc := 16) C dX6_set_16 rfl rfl ?_
      refine J.if_ge (pc := 17) C 27 dX6_set_17 (by decide) (fun hc => ?_) (fun hc => ?_)
      · have hM := ite_t hc hM
        refine J.aload_n (pc := 27) C dX6_set_27 rfl rfl ?_
        refine gf_X6_0_0 (pc := 28) C tf_X6_10 dX6_set_28 ?_
        refine gf_X0_0 (pc := 31) al_3 C tf_X6_119 dX6_set_31 ?_
        refine J.iload_n (pc := 34) C dX6_set_34 rfl rfl ?_
        refine J.callS2i (pc := 35) C (K_X4_at (ia_4 q cI) _ _) lk_X4_at tm_X6_91 ⟨Nat.le_of_ble_eq_true rfl, Nat.le_of_ble_eq_true rfl⟩ (Nat.le_of_ble_eq_true rfl) dX6_set_35 ?_
        obtain ⟨_, ea, hM⟩ := lt_ex hM
        refine J.istore_nV (pc := 38) C dX6_set_38 rfl (by decide) ea ?_
        refine J.aload_n (pc := 39) C dX6_set_39 rfl rfl ?_
        refine gf_X6_0_0 (pc := 40) C tf_X6_10 dX6_set_40 ?_
        refine J.iload_n (pc := 43) C dX6_set_43 rfl rfl ?_
        refine J.iload_n (pc := 44) C dX6_set_44 rfl rfl ?_
        obtain ⟨_, _, h1, hM⟩ := bI_ex hM
        refine J.callV2i (pc := 45) C (C_X0_settle al_3 h1) lk_X0_settle tm_X6_122 (io_3 q cI) ⟨Nat.le_of_ble_eq_true rfl, Nat.le_of_ble_eq_true rfl⟩ (Nat.le_of_ble_eq_true rfl) dX6_set_45 ?_
        refine J.if_ne (pc := 48) C 58 dX6_set_48 (by decide) (fun hc => ?_) (fun hc => ?_)
        · have hM := ite_f hc hM
          refine J.iload_n (pc := 58) C dX6_set_58 rfl rfl ?_
          exact hret dX6_set_59 hM rfl
        · have hM := ite_t hc hM
          refine J.aload_n (pc := 51) C dX6_set_51 rfl rfl ?_
          refine J.bipush (pc := 52) C (-6) dX6_set_52 bp_m6 ?_
          obtain ⟨_, _, h1, hM⟩ := bI_ex hM
          refine J.callV1i (pc := 54) C (C_X6_refuse h1) lk_X6_refuse tm_X6_65 (io_0 q cI) ⟨Nat.le_of_ble_eq_true rfl, Nat.le_of_ble_eq_true rfl⟩ (Nat.le_of_ble_eq_true rfl) dX6_set_54 ?_
          exact hret dX6_set_57 hM rfl
      · have hM := ite_f hc hM
        refine J.aload_n (pc := 20) C dX6_set_20 rfl rfl ?_
        refine J.bipush (pc := 21) C (-4) dX6_set_21 bp_m4 ?_
        obtain ⟨_, _, h1, hM⟩ := bI_ex hM
        refine J.callV1i (pc := 23) C (C_X6_refuse h1) lk_X6_refuse tm_X6_65 (io_0 q cI) ⟨Nat.le_of_ble_eq_true rfl, Nat.le_of_ble_eq_true rfl⟩ (Nat.le_of_ble_eq_true rfl) dX6_set_23 ?_
        exact hret dX6_set_26 hM rfl
    · have hM := ite_f hc hM
      refine J.aload_n (pc := 9) C dX6_set_9 rfl rfl ?_
      refine J.bipush (pc := 10) C (-2) dX6_set_10 bp_m2 ?_
      obtain ⟨_, _, h1, hM⟩ := bI_ex hM
      refine J.callV1i (pc := 12) C (C_X6_refuse h1) lk_X6_refuse tm_X6_65 (io_0 q cI) ⟨Nat.le_of_ble_eq_true rfl, Nat.le_of_ble_eq_true rfl⟩ (Nat.le_of_ble_eq_true rfl) dX6_set_12 ?_
      exact hret dX6_set_15 hM rfl
def M_X6_sums (x1 : Int32) (g : Sg) : Option (Int32 × Sg) := bI (M_X5_byHours 3 g) (fun r_1 g_2 => (if x1 = 0 then some (g_2.1 28, g_2) else if x1 = 1 then some (g_2.1 29, g_2) else if x1 = 2 then some (g_2.1 30, g_2) else if x1 = 3 then some (V_X5_firstLamp g_2, g_2) else if x1 = 4 then some (V_X5_oilLeft g_2, g_2) else if x1 = 5 then some (g_2.1 31, g_2) else if x1 = 6 then some (g_2.1 32, g_2) else bI (M_X6_refuse (-2) g_2) (fun r_3 g_4 => some (r_3, g_4))))
set_option maxRecDepth 100000 in
set_option maxHeartbeats 4000000 in
theorem C_X6_sums {l : Launch} {D : va_G} {q : Nat → Nat} {cI : ClassId} {z : Nat} {x1 : Int32} {g : Sg} {r : Int32 × Sg} (h : M_X6_sums x1 g = some r) : CTi l (EC z) D cI (cW q cI) yX6_sums cX6_sums 2 (some .int) 6 140 [.ref (q 0), .int x1] g r := by
  refine CTi.of2 (by decide) (EC_ok z) (Nat.le_of_ble_eq_true rfl) rfl (fun p e s m args below meth c A Q C hret => ?_)
  have hM := h
  unfold M_X6_sums at hM
  refine J.aload_n (pc := 0) C dX6_sums_0 rfl rfl ?_
  refine gf_X6_0_4 (pc := 1) C tf_X6_32 dX6_sums_1 ?_
  refine J.aload_n (pc := 4) C dX6_sums_4 rfl rfl ?_
  refine gf_X6_0_0 (pc := 5) C tf_X6_10 dX6_sums_5 ?_
  obtain ⟨_, _, h1, hM⟩ := bI_ex hM
  refine J.callV1i (pc := 8) C (C_X5_byHours al_3 h1) lk_X5_byHours tm_X6_126 (io_26 q cI) ⟨Nat.le_of_ble_eq_true rfl, Nat.le_of_ble_eq_true rfl⟩ (Nat.le_of_ble_eq_true rfl) dX6_sums_8 ?_
  refine J.pop (pc := 11) C dX6_sums_11 rfl ?_
  refine J.iload_n (pc := 12) C dX6_sums_12 rfl rfl ?_
  refine J.case (pc := 13) C 0 (fun hs0 => ?_) (fun hs0 => ?_)
  · have hM := ite_t hs0 hM
    refine J.tabIn (pc := 13) C 0 56 dX6_sums_13 hs0 (by decide) (by decide) rfl (by decide) ?_
    refine J.aload_n (pc := 56) C dX6_sums_56 rfl rfl ?_
    refine gf_X6_0_4 (pc := 57) C tf_X6_32 dX6_sums_57 ?_
    refine gf_X5_26_12 (pc := 60) C tf_X6_129 dX6_sums_60 ?_
    exact hret dX6_sums_63 hM rfl
  · have hM := ite_f hs0 hM
    refine J.case (pc := 13) C 1 (fun hs1 => ?_) (fun hs1 => ?_)
    · have hM := ite_t hs1 hM
      refine J.tabIn (pc := 13) C 1 64 dX6_sums_13 hs1 (by decide) (by decide) rfl (by decide) ?_
      refine J.aload_n (pc := 64) C dX6_sums_64 rfl rfl ?_
      refine gf_X6_0_4 (pc := 65) C tf_X6_32 dX6_sums_65 ?_
      refine gf_X5_26_13 (pc := 68) C tf_X6_132 dX6_sums_68 ?_
      exact hret dX6_sums_71 hM rfl
    · have hM := ite_f hs1 hM
      refine J.case (pc := 13) C 2 (fun hs2 => ?_) (fun hs2 => ?_)
      · have hM := ite_t hs2 hM
        refine J.tabIn (pc := 13) C 2 72 dX6_sums_13 hs2 (by decide) (by decide) rfl (by decide) ?_
        refine J.aload_n (pc := 72) C dX6_sums_72 rfl rfl ?_
        refine gf_X6_0_4 (pc := 73) C tf_X6_32 dX6_sums_73 ?_
        refine gf_X5_26_14 (pc := 76) C tf_X6_135 dX6_sums_76 ?_
        exact hret dX6_sums_79 hM rfl
      · have hM := ite_f hs2 hM
        refine J.case (pc := 13) C 3 (fun hs3 => ?_) (fun hs3 => ?_)
        · have hM := ite_t hs3 hM
          refine J.tabIn (pc := 13) C 3 80 dX6_sums_13 hs3 (by decide) (by decide) rfl (by decide) ?_
          refine J.aload_n (pc := 80) C dX6_sums_80 rfl rfl ?_
          refine gf_X6_0_4 (pc := 81) C tf_X6_32 dX6_sums_81 ?_
          refine J.callV0i (pc := 84) C (K_X5_firstLamp _) lk_X5_firstLamp tm_X6_138 (io_26 q cI) ⟨Nat.le_of_ble_eq_true rfl, Nat.le_of_ble_eq_true rfl⟩ (Nat.le_of_ble_eq_true rfl) dX6_sums_84 ?_
          exact hret dX6_sums_87 hM rfl
        · have hM := ite_f hs3 hM
          refine J.case (pc := 13) C 4 (fun hs4 => ?_) (fun hs4 => ?_)
          · have hM := ite_t hs4 hM
            refine J.tabIn (pc := 13) C 4 88 dX6_sums_13 hs4 (by decide) (by decide) rfl (by decide) ?_
            refine J.aload_n (pc := 88) C dX6_sums_88 rfl rfl ?_
            refine gf_X6_0_4 (pc := 89) C tf_X6_32 dX6_sums_89 ?_
            refine J.callV0i (pc := 92) C (K_X5_oilLeft _) lk_X5_oilLeft tm_X6_142 (io_26 q cI) ⟨Nat.le_of_ble_eq_true rfl, Nat.le_of_ble_eq_true rfl⟩ (Nat.le_of_ble_eq_true rfl) dX6_sums_92 ?_
            exact hret dX6_sums_95 hM rfl
          · have hM := ite_f hs4 hM
            refine J.case (pc := 13) C 5 (fun hs5 => ?_) (fun hs5 => ?_)
            · have hM := ite_t hs5 hM
              refine J.tabIn (pc := 13) C 5 96 dX6_sums_13 hs5 (by decide) (by decide) rfl (by decide) ?_
              refine J.aload_n (pc := 96) C dX6_sums_96 rfl rfl ?_
              refine gf_X6_0_4 (pc := 97) C tf_X6_32 dX6_sums_97 ?_
              refine gf_X5_26_15 (pc := 100) C tf_X6_145 dX6_sums_100 ?_
              exact hret dX6_sums_103 hM rfl
            · have hM := ite_f hs5 hM
              refine J.case (pc := 13) C 6 (fun hs6 => ?_) (fun hs6 => ?_)
              · have hM := ite_t hs6 hM
                refine J.tabIn (pc := 13) C 6 104 dX6_sums_13 hs6 (by decide) (by decide) rfl (by decide) ?_
                refine J.aload_n (pc := 104) C dX6_sums_104 rfl rfl ?_
                refine gf_X6_0_4 (pc := 105) C tf_X6_32 dX6_sums_105 ?_
                refine gf_X5_26_16 (pc := 108) C tf_X6_148 dX6_sums_108 ?_
                exact hret dX6_sums_111 hM rfl
              · have hM := ite_f hs6 hM
                refine J.tabOut (pc := 13) C 112 dX6_sums_13 (by have c0 := i_ne 0 rfl hs0; have c1 := i_ne 1 rfl hs1; have c2 := i_ne 2 rfl hs2; have c3 := i_ne 3 rfl hs3; have c4 := i_ne 4 rfl hs4; have c5 := i_ne 5 rfl hs5; have c6 := i_ne 6 rfl hs6; omega) (by decide) ?_
                refine J.aload_n (pc := 112) C dX6_sums_112 rfl rfl ?_
                refine J.bipush (pc := 113) C (-2) dX6_sums_113 bp_m2 ?_
                obtain ⟨_, _, h1, hM⟩ := bI_ex hM
                refine J.callV1i (pc := 115) C (C_X6_refuse h1) lk_X6_refuse tm_X6_65 (io_0 q cI) ⟨Nat.le_of_ble_eq_true rfl, Nat.le_of_ble_eq_true rfl⟩ (Nat.le_of_ble_eq_true rfl) dX6_sums_115 ?_
                exact hret dX6_sums_118 hM rfl
def M_X6_of (x1 x2 : Int32) (g : Sg) : Option (Int32 × Sg) := (if (V_X0_knows 3 x1 g) = 0 then bI (M_X6_refuse (-1) g) (fun r_5 g_6 => some (r_5, g_6)) else bI (M_X5_byHours 3 g) (fun r_1 g_2 => (if x2 = 0 then some (rat g_2 27 7 x1, g_2) else if x2 = 1 then some (rat g_2 28 7 x1, g_2) else if x2 = 2 then some (rat g_2 29 7 x1, g_2) else if x2 = 3 then some (rat g_2 30 7 x1, g_2) else if x2 = 4 then some (rat g_2 31 7 x1, g_2) else bI (M_X6_refuse (-2) g_2) (fun r_3 g_4 => some (r_3, g_4)))))
set_option maxRecDepth 100000 in
set_option maxHeartbeats 4000000 in
theorem C_X6_of {l : Launch} {D : va_G} {q : Nat → Nat} {cI : ClassId} {z : Nat} {x1 x2 : Int32} {g : Sg} {r : Int32 × Sg} (h : M_X6_of x1 x2 g = some r) : CTi l (EC z) D cI (cW q cI) yX6_of cX6_of 3 (some .int) 6 140 [.ref (q 0), .int x1, .int x2] g r := by
  refine CTi.of2 (by decide) (EC_ok z) (Nat.le_of_ble_eq_true rfl) rfl (fun p e s m args below meth c A Q C hret => ?_)
  have hM := h
  unfold M_X6_of at hM
  refine J.aload_n (pc := 0) C dX6_of_0 rfl rfl ?_
  refine gf_X6_0_0 (pc := 1) C tf_X6_10 dX6_of_1 ?_
  refine J.iload_n (pc := 4) C dX6_of_4 rfl rfl ?_
  refine J.callV1i (pc := 5) C (K_X0_knows al_3 _ _) lk_X0_knows tm_X6_84 (io_3 q cI) ⟨Nat.le_of_ble_eq_true rfl, Nat.le_of_ble_eq_true rfl⟩ (Nat.le_of_ble_eq_true rfl) dX6_of_5 ?_
  refine J.if_ne (pc := 8) C 17 dX6_of_8 (by decide) (fun hc => ?_) (fun hc => ?_)
  · have hM := ite_f hc hM
    refine J.aload_n (pc := 17) C dX6_of_17 rfl rfl ?_
    refine gf_X6_0_4 (pc := 18) C tf_X6_32 dX6_of_18 ?_
    refine J.aload_n (pc := 21) C dX6_of_21 rfl rfl ?_
    refine gf_X6_0_0 (pc := 22) C tf_X6_10 dX6_of_22 ?_
    obtain ⟨_, _, h1, hM⟩ := bI_ex hM
    refine J.callV1i (pc := 25) C (C_X5_byHours al_3 h1) lk_X5_byHours tm_X6_126 (io_26 q cI) ⟨Nat.le_of_ble_eq_true rfl, Nat.le_of_ble_eq_true rfl⟩ (Nat.le_of_ble_eq_true rfl) dX6_of_25 ?_
    refine J.pop (pc := 28) C dX6_of_28 rfl ?_
    refine J.iload_n (pc := 29) C dX6_of_29 rfl rfl ?_
    refine J.case (pc := 30) C 0 (fun hs0 => ?_) (fun hs0 => ?_)
    · have hM := ite_t hs0 hM
      refine J.tabIn (pc := 30) C 0 64 dX6_of_30 hs0 (by decide) (by decide) rfl (by decide) ?_
      refine J.aload_n (pc := 64) C dX6_of_64 rfl rfl ?_
      refine gf_X6_0_4 (pc := 65) C tf_X6_32 dX6_of_65 ?_
      refine gf_X5_26_0 (pc := 68) C tf_X6_151 dX6_of_68 ?_
      refine J.iload_n (pc := 71) C dX6_of_71 rfl rfl ?_
      refine J.callS2i (pc := 72) C (K_X4_at (ia_27 q cI) _ _) lk_X4_at tm_X6_91 ⟨Nat.le_of_ble_eq_true rfl, Nat.le_of_ble_eq_true rfl⟩ (Nat.le_of_ble_eq_true rfl) dX6_of_72 ?_
      exact hret dX6_of_75 hM rfl
    · have hM := ite_f hs0 hM
      refine J.case (pc := 30) C 1 (fun hs1 => ?_) (fun hs1 => ?_)
      · have hM := ite_t hs1 hM
        refine J.tabIn (pc := 30) C 1 76 dX6_of_30 hs1 (by decide) (by decide) rfl (by decide) ?_
        refine J.aload_n (pc := 76) C dX6_of_76 rfl rfl ?_
        refine gf_X6_0_4 (pc := 77) C tf_X6_32 dX6_of_77 ?_
        refine gf_X5_26_1 (pc := 80) C tf_X6_154 dX6_of_80 ?_
        refine J.iload_n (pc := 83) C dX6_of_83 rfl rfl ?_
        refine J.callS2i (pc := 84) C (K_X4_at (ia_28 q cI) _ _) lk_X4_at tm_X6_91 ⟨Nat.le_of_ble_eq_true rfl, Nat.le_of_ble_eq_true rfl⟩ (Nat.le_of_ble_eq_true rfl) dX6_of_84 ?_
        exact hret dX6_of_87 hM rfl
      · have hM := ite_f hs1 hM
        refine J.case (pc := 30) C 2 (fun hs2 => ?_) (fun hs2 => ?_)
        · have hM := ite_t hs2 hM
          refine J.tabIn (pc := 30) C 2 88 dX6_of_30 hs2 (by decide) (by decide) rfl (by decide) ?_
          refine J.aload_n (pc := 88) C dX6_of_88 rfl rfl ?_
          refine gf_X6_0_4 (pc := 89) C tf_X6_32 dX6_of_89 ?_
          refine gf_X5_26_2 (pc := 92) C tf_X6_157 dX6_of_92 ?_
          refine J.iload_n (pc := 95) C dX6_of_95 rfl rfl ?_
          refine J.callS2i (pc := 96) C (K_X4_at (ia_29 q cI) _ _) lk_X4_at tm_X6_91 ⟨Nat.le_of_ble_eq_true rfl, Nat.le_of_ble_eq_true rfl⟩ (Nat.le_of_ble_eq_true rfl) dX6_of_96 ?_
          exact hret dX6_of_99 hM rfl
        · have hM := ite_f hs2 hM
          refine J.case (pc := 30) C 3 (fun hs3 => ?_) (fun hs3 => ?_)
          · have hM := ite_t hs3 hM
            refine J.tabIn (pc := 30) C 3 100 dX6_of_30 hs3 (by decide) (by decide) rfl (by decide) ?_
            refine J.aload_n (pc := 100) C dX6_of_100 rfl rfl ?_
            refine gf_X6_0_4 (pc := 101) C tf_X6_32 dX6_of_101 ?_
            refine gf_X5_26_3 (pc := 104) C tf_X6_160 dX6_of_104 ?_
            refine J.iload_n (pc := 107) C dX6_of_107 rfl rfl ?_
            refine J.callS2i (pc := 108) C (K_X4_at (ia_30 q cI) _ _) lk_X4_at tm_X6_91 ⟨Nat.le_of_ble_eq_true rfl, Nat.le_of_ble_eq_true rfl⟩ (Nat.le_of_ble_eq_true rfl) dX6_of_108 ?_
            exact hret dX6_of_111 hM rfl
          · have hM := ite_f hs3 hM
            refine J.case (pc := 30) C 4 (fun hs4 => ?_) (fun hs4 => ?_)
            · have hM := ite_t hs4 hM
              refine J.tabIn (pc := 30) C 4 112 dX6_of_30 hs4 (by decide) (by decide) rfl (by decide) ?_
              refine J.aload_n (pc := 112) C dX6_of_112 rfl rfl ?_
              refine gf_X6_0_4 (pc := 113) C tf_X6_32 dX6_of_113 ?_
              refine gf_X5_26_4 (pc := 116) C tf_X6_163 dX6_of_116 ?_
              refine J.iload_n (pc := 119) C dX6_of_119 rfl rfl ?_
              refine J.callS2i (pc := 120) C (K_X4_at (ia_31 q cI) _ _) lk_X4_at tm_X6_91 ⟨Nat.le_of_ble_eq_true rfl, Nat.le_of_ble_eq_true rfl⟩ (Nat.le_of_ble_eq_true rfl) dX6_of_120 ?_
              exact hret dX6_of_123 hM rfl
            · have hM := ite_f hs4 hM
              refine J.tabOut (pc := 30) C 124 dX6_of_30 (by have c0 := i_ne 0 rfl hs0; have c1 := i_ne 1 rfl hs1; have c2 := i_ne 2 rfl hs2; have c3 := i_ne 3 rfl hs3; have c4 := i_ne 4 rfl hs4; omega) (by decide) ?_
              refine J.aload_n (pc := 124) C dX6_of_124 rfl rfl ?_
              refine J.bipush (pc := 125) C (-2) dX6_of_125 bp_m2 ?_
              obtain ⟨_, _, h1, hM⟩ := bI_ex hM
              refine J.callV1i (pc := 127) C (C_X6_refuse h1) lk_X6_refuse tm_X6_65 (io_0 q cI) ⟨Nat.le_of_ble_eq_true rfl, Nat.le_of_ble_eq_true rfl⟩ (Nat.le_of_ble_eq_true rfl) dX6_of_127 ?_
              exact hret dX6_of_130 hM rfl
  · have hM := ite_t hc hM
    refine J.aload_n (pc := 11) C dX6_of_11 rfl rfl ?_
    refine J.iconst (pc := 12) C (-1) dX6_of_12 ic_m1 ?_
    obtain ⟨_, _, h1, hM⟩ := bI_ex hM
    refine J.callV1i (pc := 13) C (C_X6_refuse h1) lk_X6_refuse tm_X6_65 (io_0 q cI) ⟨Nat.le_of_ble_eq_true rfl, Nat.le_of_ble_eq_true rfl⟩ (Nat.le_of_ble_eq_true rfl) dX6_of_13 ?_
    exact hret dX6_of_16 hM rfl
def M_X6_lamp (x1 : Int32) (g : Sg) : Option (Int32 × Sg) := (if (V_X6_hourRefusal x1 g) = 0 then bI (M_X5_byHours 3 g) (fun r_1 g_2 => some (rat g_2 34 12 x1, g_2)) else bI (M_X6_refuse (V_X6_hourRefusal x1 g) g) (fun r_3 g_4 => some (r_3, g_4)))
set_option maxRecDepth 100000 in
set_option maxHeartbeats 4000000 in
theorem C_X6_lamp {l : Launch} {D : va_G} {q : Nat → Nat} {cI : ClassId} {z : Nat} {x1 : Int32} {g : Sg} {r : Int32 × Sg} (h : M_X6_lamp x1 g = some r) : CTi l (EC z) D cI (cW q cI) yX6_lamp cX6_lamp 3 (some .int) 6 140 [.ref (q 0), .int x1] g r := by
  refine CTi.of2 (by decide) (EC_ok z) (Nat.le_of_ble_eq_true rfl) rfl (fun p e s m args below meth c A Q C hret => ?_)
  have hM := h
  unfold M_X6_lamp at hM
  refine J.iload_n (pc := 0) C dX6_lamp_0 rfl rfl ?_
  refine J.callS1i (pc := 1) C (K_X6_hourRefusal _ _) lk_X6_hourRefusal tm_X6_166 ⟨Nat.le_of_ble_eq_true rfl, Nat.le_of_ble_eq_true rfl⟩ (Nat.le_of_ble_eq_true rfl) dX6_lamp_1 ?_
  refine J.istore_n (pc := 4) C dX6_lamp_4 rfl (by decide) ?_
  refine J.iload_n (pc := 5) C dX6_lamp_5 rfl rfl ?_
  refine J.if_eq (pc := 6) C 15 dX6_lamp_6 (by decide) (fun hc => ?_) (fun hc => ?_)
  · have hM := ite_t hc hM
    refine J.aload_n (pc := 15) C dX6_lamp_15 rfl rfl ?_
    refine gf_X6_0_4 (pc := 16) C tf_X6_32 dX6_lamp_16 ?_
    refine J.aload_n (pc := 19) C dX6_lamp_19 rfl rfl ?_
    refine gf_X6_0_0 (pc := 20) C tf_X6_10 dX6_lamp_20 ?_
    obtain ⟨_, _, h1, hM⟩ := bI_ex hM
    refine J.callV1i (pc := 23) C (C_X5_byHours al_3 h1) lk_X5_byHours tm_X6_126 (io_26 q cI) ⟨Nat.le_of_ble_eq_true rfl, Nat.le_of_ble_eq_true rfl⟩ (Nat.le_of_ble_eq_true rfl) dX6_lamp_23 ?_
    refine J.pop (pc := 26) C dX6_lamp_26 rfl ?_
    refine J.aload_n (pc := 27) C dX6_lamp_27 rfl rfl ?_
    refine gf_X6_0_4 (pc := 28) C tf_X6_32 dX6_lamp_28 ?_
    refine gf_X5_26_7 (pc := 31) C tf_X6_169 dX6_lamp_31 ?_
    refine J.iload_n (pc := 34) C dX6_lamp_34 rfl rfl ?_
    refine J.callS2i (pc := 35) C (K_X4_at (ia_34 q cI) _ _) lk_X4_at tm_X6_91 ⟨Nat.le_of_ble_eq_true rfl, Nat.le_of_ble_eq_true rfl⟩ (Nat.le_of_ble_eq_true rfl) dX6_lamp_35 ?_
    exact hret dX6_lamp_38 hM rfl
  · have hM := ite_f hc hM
    refine J.aload_n (pc := 9) C dX6_lamp_9 rfl rfl ?_
    refine J.iload_n (pc := 10) C dX6_lamp_10 rfl rfl ?_
    obtain ⟨_, _, h1, hM⟩ := bI_ex hM
    refine J.callV1i (pc := 11) C (C_X6_refuse h1) lk_X6_refuse tm_X6_65 (io_0 q cI) ⟨Nat.le_of_ble_eq_true rfl, Nat.le_of_ble_eq_true rfl⟩ (Nat.le_of_ble_eq_true rfl) dX6_lamp_11 ?_
    exact hret dX6_lamp_14 hM rfl
def B_X6_best_86 (x2 y0 : Int32) (g : Sg) : Option (Int32 × Sg) := bV (M_X3_search 3 y0 g) (fun g_9 => (if (g_9.1 38) = 0 then some ((-9), g_9) else (if 0 ≤ x2 then some (rat g_9 38 7 x2, g_9) else some (g_9.1 37, g_9))))
def B_X6_best_16 (x1 x2 : Int32) (g : Sg) : Option (Int32 × Sg) := (if (g.1 3) ≤ 6 then (if (-1) ≤ x2 then (if x2 < (g.1 3) then (if x1 = 1 then B_X6_best_86 x2 1 g else B_X6_best_86 x2 0 g) else bI (M_X6_refuse (-1) g) (fun r_3 g_4 => some (r_3, g_4))) else bI (M_X6_refuse (-4) g) (fun r_5 g_6 => some (r_5, g_6))) else bI (M_X6_refuse (-3) g) (fun r_7 g_8 => some (r_7, g_8)))
def M_X6_best (x1 x2 : Int32) (g : Sg) : Option (Int32 × Sg) := (if x1 = 0 then B_X6_best_16 x1 x2 g else (if x1 = 1 then B_X6_best_16 x1 x2 g else bI (M_X6_refuse (-2) g) (fun r_1 g_2 => some (r_1, g_2))))
set_option maxRecDepth 100000 in
set_option maxHeartbeats 4000000 in
theorem C_X6_best {l : Launch} {D : va_G} {q : Nat → Nat} {cI : ClassId} {z : Nat} {x1 x2 : Int32} {g : Sg} {r : Int32 × Sg} (h : M_X6_best x1 x2 g = some r) : CTi l (EC z) D cI (cW q cI) yX6_best cX6_best 3 (some .int) 7 167 [.ref (q 0), .int x1, .int x2] g r := by
  refine CTi.of2 (by decide) (EC_ok z) (Nat.le_of_ble_eq_true rfl) rfl (fun p e s m args below meth c A Q C hret => ?_)
  have jb86 : ∀ (x2 y0 : Int32) (g : Sg), B_X6_best_86 x2 y0 g = some r → J p l e (RM 7 167) s m args below meth c D (cW q cI) A 3 Q g 86 [(0, .ref (q 0)), (2, .int x2)] [.int y0, .ref (q 26), .ref (q 3), .ref (q 37)] := by
    intro x2 y0 g hM
    unfold B_X6_best_86 at hM
    obtain ⟨_, h1, hM⟩ := bV_ex hM
    refine J.callV3v (pc := 86) C (C_X3_search al_3 h1) lk_X3_search tm_X6_173 (io_37 q cI) ⟨Nat.le_of_ble_eq_true rfl, Nat.le_of_ble_eq_true rfl⟩ (Nat.le_of_ble_eq_true rfl) dX6_best_86 ?_
    refine J.aload_n (pc := 89) C dX6_best_89 rfl rfl ?_
    refine gf_X6_0_5 (pc := 90) C tf_X6_39 dX6_best_90 ?_
    refine gf_X3_37_2 (pc := 93) C tf_X6_177 dX6_best_93 ?_
    refine J.if_ne (pc := 96) C 102 dX6_best_96 (by decide) (fun hc => ?_) (fun hc => ?_)
    · have hM := ite_f hc hM
      refine J.iload_n (pc := 102) C dX6_best_102 rfl rfl ?_
      refine J.if_ge (pc := 103) C 116 dX6_best_103 (by decide) (fun hc => ?_) (fun hc => ?_)
      · have hM := ite_t hc hM
        refine J.aload_n (pc := 116) C dX6_best_116 rfl rfl ?_
        refine gf_X6_0_5 (pc := 117) C tf_X6_39 dX6_best_117 ?_
        refine gf_X3_37_0 (pc := 120) C tf_X6_183 dX6_best_120 ?_
        refine J.iload_n (pc := 123) C dX6_best_123 rfl rfl ?_
        refine J.callS2i (pc := 124) C (K_X4_at (ia_38 q cI) _ _) lk_X4_at tm_X6_91 ⟨Nat.le_of_ble_eq_true rfl, Nat.le_of_ble_eq_true rfl⟩ (Nat.le_of_ble_eq_true rfl) dX6_best_124 ?_
        exact hret dX6_best_127 hM rfl
      · have hM := ite_f hc hM
        refine J.aload_n (pc := 106) C dX6_best_106 rfl rfl ?_
        refine gf_X6_0_5 (pc := 107) C tf_X6_39 dX6_best_107 ?_
        refine gf_X3_37_1 (pc := 110) C tf_X6_180 dX6_best_110 ?_
        refine J.goto (pc := 113) C 127 dX6_best_113 (by decide) ?_
        exact hret dX6_best_127 hM rfl
    · have hM := ite_t hc hM
      refine J.bipush (pc := 99) C (-9) dX6_best_99 bp_m9 ?_
      exact hret dX6_best_101 hM rfl
  have jb16 : ∀ (x1 x2 : Int32) (g : Sg), B_X6_best_16 x1 x2 g = some r → J p l e (RM 7 167) s m args below meth c D (cW q cI) A 3 Q g 16 [(0, .ref (q 0)), (1, .int x1), (2, .int x2)] [] := by
    intro x1 x2 g hM
    unfold B_X6_best_16 at hM
    refine J.aload_n (pc := 16) C dX6_best_16 rfl rfl ?_
    refine gf_X6_0_0 (pc := 17) C tf_X6_10 dX6_best_17 ?_
    refine gf_X0_6 (pc := 20) al_3 C tf_X6_172 dX6_best_20 ?_
    refine J.bipush (pc := 23) C 6 dX6_best_23 bp_6 ?_
    refine J.icmp_le (pc := 25) C 35 dX6_best_25 (by decide) (fun hc => ?_) (fun hc => ?_)
    · have hM := ite_t hc hM
      refine J.iload_n (pc := 35) C dX6_best_35 rfl rfl ?_
      refine J.iconst (pc := 36) C (-1) dX6_best_36 ic_m1 ?_
      refine J.icmp_ge (pc := 37) C 47 dX6_best_37 (by decide) (fun hc => ?_) (fun hc => ?_)
      · have hM := ite_t hc hM
        refine J.iload_n (pc := 47) C dX6_best_47 rfl rfl ?_
        refine J.aload_n (pc := 48) C dX6_best_48 rfl rfl ?_
        refine gf_X6_0_0 (pc := 49) C tf_X6_10 dX6_best_49 ?_
        refine gf_X0_6 (pc := 52) al_3 C tf_X6_172 dX6_best_52 ?_
        refine J.icmp_lt (pc := 55) C 64 dX6_best_55 (by decide) (fun hc => ?_) (fun hc => ?_)
        · have hM := ite_t hc hM
          refine J.aload_n (pc := 64) C dX6_best_64 rfl rfl ?_
          refine gf_X6_0_5 (pc := 65) C tf_X6_39 dX6_best_65 ?_
          refine J.aload_n (pc := 68) C dX6_best_68 rfl rfl ?_
          refine gf_X6_0_0 (pc := 69) C tf_X6_10 dX6_best_69 ?_
          refine J.aload_n (pc := 72) C dX6_best_72 rfl rfl ?_
          refine gf_X6_0_4 (pc := 73) C tf_X6_32 dX6_best_73 ?_
          refine J.iload_n (pc := 76) C dX6_best_76 rfl rfl ?_
          refine J.iconst (pc := 77) C 1 dX6_best_77 ic_1 ?_
          refine J.icmp_ne (pc := 78) C 85 dX6_best_78 (by decide) (fun hc => ?_) (fun hc => ?_)
          · have hM := ite_f hc hM
            refine J.iconst (pc := 85) C 0 dX6_best_85 ic_0 ?_
            refine J.sub C [0, 2] rfl ?_
            exact jb86 _ _ _ hM
          · have hM := ite_t hc hM
            refine J.iconst (pc := 81) C 1 dX6_best_81 ic_1 ?_
            refine J.goto (pc := 82) C 86 dX6_best_82 (by decide) ?_
            refine J.sub C [0, 2] rfl ?_
            exact jb86 _ _ _ hM
        · have hM := ite_f hc hM
          refine J.aload_n (pc := 58) C dX6_best_58 rfl rfl ?_
          refine J.iconst (pc := 59) C (-1) dX6_best_59 ic_m1 ?_
          obtain ⟨_, _, h1, hM⟩ := bI_ex hM
          refine J.callV1i (pc := 60) C (C_X6_refuse h1) lk_X6_refuse tm_X6_65 (io_0 q cI) ⟨Nat.le_of_ble_eq_true rfl, Nat.le_of_ble_eq_true rfl⟩ (Nat.le_of_ble_eq_true rfl) dX6_best_60 ?_
          exact hret dX6_best_63 hM rfl
      · have hM := ite_f hc hM
        refine J.aload_n (pc := 40) C dX6_best_40 rfl rfl ?_
        refine J.bipush (pc := 41) C (-4) dX6_best_41 bp_m4 ?_
        obtain ⟨_, _, h1, hM⟩ := bI_ex hM
        refine J.callV1i (pc := 43) C (C_X6_refuse h1) lk_X6_refuse tm_X6_65 (io_0 q cI) ⟨Nat.le_of_ble_eq_true rfl, Nat.le_of_ble_eq_true rfl⟩ (Nat.le_of_ble_eq_true rfl) dX6_best_43 ?_
        exact hret dX6_best_46 hM rfl
    · have hM := ite_f hc hM
      refine J.aload_n (pc := 28) C dX6_best_28 rfl rfl ?_
      refine J.bipush (pc := 29) C (-3) dX6_best_29 bp_m3 ?_
      obtain ⟨_, _, h1, hM⟩ := bI_ex hM
      refine J.callV1i (pc := 31) C (C_X6_refuse h1) lk_X6_refuse tm_X6_65 (io_0 q cI) ⟨Nat.le_of_ble_eq_true rfl, Nat.le_of_ble_eq_true rfl⟩ (Nat.le_of_ble_eq_true rfl) dX6_best_31 ?_
      exact hret dX6_best_34 hM rfl
  have hM := h
  unfold M_X6_best at hM
  refine J.iload_n (pc := 0) C dX6_best_0 rfl rfl ?_
  refine J.if_eq (pc := 1) C 16 dX6_best_1 (by decide) (fun hc => ?_) (fun hc => ?_)
  · have hM := ite_t hc hM
    refine J.sub C [0, 1, 2] rfl ?_
    exact jb16 _ _ _ hM
  · have hM := ite_f hc hM
    refine J.iload_n (pc := 4) C dX6_best_4 rfl rfl ?_
    refine J.iconst (pc := 5) C 1 dX6_best_5 ic_1 ?_
    refine J.icmp_eq (pc := 6) C 16 dX6_best_6 (by decide) (fun hc => ?_) (fun hc => ?_)
    · have hM := ite_t hc hM
      refine J.sub C [0, 1, 2] rfl ?_
      exact jb16 _ _ _ hM
    · have hM := ite_f hc hM
      refine J.aload_n (pc := 9) C dX6_best_9 rfl rfl ?_
      refine J.bipush (pc := 10) C (-2) dX6_best_10 bp_m2 ?_
      obtain ⟨_, _, h1, hM⟩ := bI_ex hM
      refine J.callV1i (pc := 12) C (C_X6_refuse h1) lk_X6_refuse tm_X6_65 (io_0 q cI) ⟨Nat.le_of_ble_eq_true rfl, Nat.le_of_ble_eq_true rfl⟩ (Nat.le_of_ble_eq_true rfl) dX6_best_12 ?_
      exact hret dX6_best_15 hM rfl
def B_X6_bestPump_18 (kb18 : Int32 → Int32 → Int32 → Sg → Option (Int32 × Sg)) (x1 x2 x3 : Int32) (g : Sg) : Option (Int32 × Sg) := (if 40 ≤ x3 then some (x1, g) else bI (M_X0_settle 17 0 x3 g) (fun r_2 g_3 => bI (M_X5_byHours 17 g_3) (fun r_4 g_5 => (if x2 ≤ r_4 then kb18 x1 x2 (x3 + 1) g_5 else kb18 x3 r_4 (x3 + 1) g_5))))
def M_X6_bestPump (g : Sg) : Option (Int32 × Sg) := lt (U_X0_becomeLike 17 3 g) (fun g_1 => lup3 (B_X6_bestPump_18 ) FU 0 2147483647 0 g_1)
set_option maxRecDepth 100000 in
set_option maxHeartbeats 4000000 in
theorem C_X6_bestPump {l : Launch} {D : va_G} {q : Nat → Nat} {cI : ClassId} {z : Nat} {g : Sg} {r : Int32 × Sg} (h : M_X6_bestPump g = some r) : CTi l (EC z) D cI (cW q cI) yX6_bestPump cX6_bestPump 5 (some .int) 6 140 [.ref (q 0)] g r := by
  refine CTi.of2 (by decide) (EC_ok z) (Nat.le_of_ble_eq_true rfl) rfl (fun p e s m args below meth c A Q C hret => ?_)
  have jb18 : ∀ (kb18 : Int32 → Int32 → Int32 → Sg → Option (Int32 × Sg)) (hkb18 : ∀ (x1 x2 x3 : Int32) (g : Sg), kb18 x1 x2 x3 g = some r → J p l e (RM 6 140) s m args below meth c D (cW q cI) A 5 Q g 18 [(0, .ref (q 0)), (1, .int x1), (2, .int x2), (3, .int x3)] []) (x1 x2 x3 : Int32) (g : Sg), B_X6_bestPump_18 kb18 x1 x2 x3 g = some r → J p l e (RM 6 140) s m args below meth c D (cW q cI) A 5 Q g 18 [(0, .ref (q 0)), (1, .int x1), (2, .int x2), (3, .int x3)] [] := by
    intro kb18 hkb18 x1 x2 x3 g hM
    unfold B_X6_bestPump_18 at hM
    refine J.iload_n (pc := 18) C dX6_bestPump_18 rfl rfl ?_
    refine J.bipush (pc := 19) C 40 dX6_bestPump_19 bp_40 ?_
    refine J.icmp_ge (pc := 21) C 64 dX6_bestPump_21 (by decide) (fun hc => ?_) (fun hc => ?_)
    · have hM := ite_t hc hM
      refine J.iload_n (pc := 64) C dX6_bestPump_64 rfl rfl ?_
      exact hret dX6_bestPump_65 hM rfl
    · have hM := ite_f hc hM
      refine J.aload_n (pc := 24) C dX6_bestPump_24 rfl rfl ?_
      refine gf_X6_0_2 (pc := 25) C tf_X6_19 dX6_bestPump_25 ?_
      refine J.iconst (pc := 28) C 0 dX6_bestPump_28 ic_0 ?_
      refine J.iload_n (pc := 29) C dX6_bestPump_29 rfl rfl ?_
      obtain ⟨_, _, h1, hM⟩ := bI_ex hM
      refine J.callV2i (pc := 30) C (C_X0_settle al_17 h1) lk_X0_settle tm_X6_122 (io_17 q cI) ⟨Nat.le_of_ble_eq_true rfl, Nat.le_of_ble_eq_true rfl⟩ (Nat.le_of_ble_eq_true rfl) dX6_bestPump_30 ?_
      refine J.pop (pc := 33) C dX6_bestPump_33 rfl ?_
      refine J.aload_n (pc := 34) C dX6_bestPump_34 rfl rfl ?_
      refine gf_X6_0_4 (pc := 35) C tf_X6_32 dX6_bestPump_35 ?_
      refine J.aload_n (pc := 38) C dX6_bestPump_38 rfl rfl ?_
      refine gf_X6_0_2 (pc := 39) C tf_X6_19 dX6_bestPump_39 ?_
      obtain ⟨_, _, h1, hM⟩ := bI_ex hM
      refine J.callV1i (pc := 42) C (C_X5_byHours al_17 h1) lk_X5_byHours tm_X6_126 (io_26 q cI) ⟨Nat.le_of_ble_eq_true rfl, Nat.le_of_ble_eq_true rfl⟩ (Nat.le_of_ble_eq_true rfl) dX6_bestPump_42 ?_
      refine J.istore (pc := 45) C dX6_bestPump_45 (by decide) ?_
      refine J.iload (pc := 47) C dX6_bestPump_47 rfl ?_
      refine J.iload_n (pc := 49) C dX6_bestPump_49 rfl rfl ?_
      refine J.icmp_ge (pc := 50) C 58 dX6_bestPump_50 (by decide) (fun hc => ?_) (fun hc => ?_)
      · have hM := ite_t hc hM
        refine J.iinc (pc := 58) C 1 dX6_bestPump_58 ic_1 rfl (by decide) ?_
        refine J.goto (pc := 61) C 18 dX6_bestPump_61 (by decide) ?_
        refine J.sub C [0, 1, 2, 3] rfl ?_
        exact hkb18 _ _ _ _ hM
      · have hM := ite_f hc hM
        refine J.iload (pc := 53) C dX6_bestPump_53 rfl ?_
        refine J.istore_n (pc := 55) C dX6_bestPump_55 rfl (by decide) ?_
        refine J.iload_n (pc := 56) C dX6_bestPump_56 rfl rfl ?_
        refine J.istore_n (pc := 57) C dX6_bestPump_57 rfl (by decide) ?_
        refine J.iinc (pc := 58) C 1 dX6_bestPump_58 ic_1 rfl (by decide) ?_
        refine J.goto (pc := 61) C 18 dX6_bestPump_61 (by decide) ?_
        refine J.sub C [0, 1, 2, 3] rfl ?_
        exact hkb18 _ _ _ _ hM
  have jl18 : ∀ (x1 x2 x3 : Int32) (g : Sg), lup3 (B_X6_bestPump_18) FU x1 x2 x3 g = some r → J p l e (RM 6 140) s m args below meth c D (cW q cI) A 5 Q g 18 [(0, .ref (q 0)), (1, .int x1), (2, .int x2), (3, .int x3)] [] := 
    lup3_ok (P := fun x1 x2 x3 g => J p l e (RM 6 140) s m args below meth c D (cW q cI) A 5 Q g 18 [(0, .ref (q 0)), (1, .int x1), (2, .int x2), (3, .int x3)] []) (fun self hself => jb18 self hself) FU
  have hM := h
  unfold M_X6_bestPump at hM
  refine J.aload_n (pc := 0) C dX6_bestPump_0 rfl rfl ?_
  refine gf_X6_0_2 (pc := 1) C tf_X6_19 dX6_bestPump_1 ?_
  refine J.aload_n (pc := 4) C dX6_bestPump_4 rfl rfl ?_
  refine gf_X6_0_0 (pc := 5) C tf_X6_10 dX6_bestPump_5 ?_
  refine J.callV1v (pc := 8) C (K_X0_becomeLike al_17 al_3 _) lk_X0_becomeLike tm_X6_76 (io_17 q cI) ⟨Nat.le_of_ble_eq_true rfl, Nat.le_of_ble_eq_true rfl⟩ (Nat.le_of_ble_eq_true rfl) dX6_bestPump_8 ?_
  obtain ⟨_, ea, hM⟩ := lt_ex hM
  refine J.cong C ea ?_
  refine J.iconst (pc := 11) C 0 dX6_bestPump_11 ic_0 ?_
  refine J.istore_n (pc := 12) C dX6_bestPump_12 rfl (by decide) ?_
  refine J.ldc (pc := 13) C tc_X6_188 dX6_bestPump_13 ?_
  refine J.istore_n (pc := 15) C dX6_bestPump_15 rfl (by decide) ?_
  refine J.iconst (pc := 16) C 0 dX6_bestPump_16 ic_0 ?_
  refine J.istore_n (pc := 17) C dX6_bestPump_17 rfl (by decide) ?_
  refine J.sub C [0, 1, 2, 3] rfl ?_
  exact jl18 _ _ _ _ hM
def B_X6_bestHour_36 (kb36 : Int32 → Int32 → Int32 → Int32 → Sg → Option (Int32 × Sg)) (x1 x2 x3 x4 : Int32) (g : Sg) : Option (Int32 × Sg) := (if 12 ≤ x4 then some (x2, g) else lt (rput g 23 7 x1 x4) (fun g_4 => bI (M_X5_byHours 17 g_4) (fun r_5 g_6 => (if x3 ≤ r_5 then kb36 x1 x2 x3 (x4 + 1) g_6 else kb36 x1 x4 r_5 (x4 + 1) g_6))))
def M_X6_bestHour (x1 : Int32) (g : Sg) : Option (Int32 × Sg) := (if (V_X0_knows 3 x1 g) = 0 then bI (M_X6_refuse (-1) g) (fun r_2 g_3 => some (r_2, g_3)) else lt (U_X0_becomeLike 17 3 g) (fun g_1 => lup4 (B_X6_bestHour_36 ) FU x1 0 2147483647 0 g_1))
set_option maxRecDepth 100000 in
set_option maxHeartbeats 4000000 in
theorem C_X6_bestHour {l : Launch} {D : va_G} {q : Nat → Nat} {cI : ClassId} {z : Nat} {x1 : Int32} {g : Sg} {r : Int32 × Sg} (h : M_X6_bestHour x1 g = some r) : CTi l (EC z) D cI (cW q cI) yX6_bestHour cX6_bestHour 6 (some .int) 6 140 [.ref (q 0), .int x1] g r := by
  refine CTi.of2 (by decide) (EC_ok z) (Nat.le_of_ble_eq_true rfl) rfl (fun p e s m args below meth c A Q C hret => ?_)
  have jb36 : ∀ (kb36 : Int32 → Int32 → Int32 → Int32 → Sg → Option (Int32 × Sg)) (hkb36 : ∀ (x1 x2 x3 x4 : Int32) (g : Sg), kb36 x1 x2 x3 x4 g = some r → J p l e (RM 6 140) s m args below meth c D (cW q cI) A 6 Q g 36 [(0, .ref (q 0)), (1, .int x1), (2, .int x2), (3, .int x3), (4, .int x4)] []) (x1 x2 x3 x4 : Int32) (g : Sg), B_X6_bestHour_36 kb36 x1 x2 x3 x4 g = some r → J p l e (RM 6 140) s m args below meth c D (cW q cI) A 6 Q g 36 [(0, .ref (q 0)), (1, .int x1), (2, .int x2), (3, .int x3), (4, .int x4)] [] := by
    intro kb36 hkb36 x1 x2 x3 x4 g hM
    unfold B_X6_bestHour_36 at hM
    refine J.iload (pc := 36) C dX6_bestHour_36 rfl ?_
    refine J.bipush (pc := 38) C 12 dX6_bestHour_38 bp_12 ?_
    refine J.icmp_ge (pc := 40) C 87 dX6_bestHour_40 (by decide) (fun hc => ?_) (fun hc => ?_)
    · have hM := ite_t hc hM
      refine J.iload_n (pc := 87) C dX6_bestHour_87 rfl rfl ?_
      exact hret dX6_bestHour_88 hM rfl
    · have hM := ite_f hc hM
      refine J.aload_n (pc := 43) C dX6_bestHour_43 rfl rfl ?_
      refine gf_X6_0_2 (pc := 44) C tf_X6_19 dX6_bestHour_44 ?_
      refine gf_X0_5 (pc := 47) al_17 C tf_X6_106 dX6_bestHour_47 ?_
      refine J.iload_n (pc := 50) C dX6_bestHour_50 rfl rfl ?_
      refine J.iload (pc := 51) C dX6_bestHour_51 rfl ?_
      refine J.callS3v (pc := 53) C (K_X4_put (ia_23 q cI) _ _ _) lk_X4_put tm_X6_115 ⟨Nat.le_of_ble_eq_true rfl, Nat.le_of_ble_eq_true rfl⟩ (Nat.le_of_ble_eq_true rfl) dX6_bestHour_53 ?_
      obtain ⟨_, ea, hM⟩ := lt_ex hM
      refine J.cong C ea ?_
      refine J.aload_n (pc := 56) C dX6_bestHour_56 rfl rfl ?_
      refine gf_X6_0_4 (pc := 57) C tf_X6_32 dX6_bestHour_57 ?_
      refine J.aload_n (pc := 60) C dX6_bestHour_60 rfl rfl ?_
      refine gf_X6_0_2 (pc := 61) C tf_X6_19 dX6_bestHour_61 ?_
      obtain ⟨_, _, h1, hM⟩ := bI_ex hM
      refine J.callV1i (pc := 64) C (C_X5_byHours al_17 h1) lk_X5_byHours tm_X6_126 (io_26 q cI) ⟨Nat.le_of_ble_eq_true rfl, Nat.le_of_ble_eq_true rfl⟩ (Nat.le_of_ble_eq_true rfl) dX6_bestHour_64 ?_
      refine J.istore (pc := 67) C dX6_bestHour_67 (by decide) ?_
      refine J.iload (pc := 69) C dX6_bestHour_69 rfl ?_
      refine J.iload_n (pc := 71) C dX6_bestHour_71 rfl rfl ?_
      refine J.icmp_ge (pc := 72) C 81 dX6_bestHour_72 (by decide) (fun hc => ?_) (fun hc => ?_)
      · have hM := ite_t hc hM
        refine J.iinc (pc := 81) C 1 dX6_bestHour_81 ic_1 rfl (by decide) ?_
        refine J.goto (pc := 84) C 36 dX6_bestHour_84 (by decide) ?_
        refine J.sub C [0, 1, 2, 3, 4] rfl ?_
        exact hkb36 _ _ _ _ _ hM
      · have hM := ite_f hc hM
        refine J.iload (pc := 75) C dX6_bestHour_75 rfl ?_
        refine J.istore_n (pc := 77) C dX6_bestHour_77 rfl (by decide) ?_
        refine J.iload (pc := 78) C dX6_bestHour_78 rfl ?_
        refine J.istore_n (pc := 80) C dX6_bestHour_80 rfl (by decide) ?_
        refine J.iinc (pc := 81) C 1 dX6_bestHour_81 ic_1 rfl (by decide) ?_
        refine J.goto (pc := 84) C 36 dX6_bestHour_84 (by decide) ?_
        refine J.sub C [0, 1, 2, 3, 4] rfl ?_
        exact hkb36 _ _ _ _ _ hM
  have jl36 : ∀ (x1 x2 x3 x4 : Int32) (g : Sg), lup4 (B_X6_bestHour_36) FU x1 x2 x3 x4 g = some r → J p l e (RM 6 140) s m args below meth c D (cW q cI) A 6 Q g 36 [(0, .ref (q 0)), (1, .int x1), (2, .int x2), (3, .int x3), (4, .int x4)] [] := 
    lup4_ok (P := fun x1 x2 x3 x4 g => J p l e (RM 6 140) s m args below meth c D (cW q cI) A 6 Q g 36 [(0, .ref (q 0)), (1, .int x1), (2, .int x2), (3, .int x3), (4, .int x4)] []) (fun self hself => jb36 self hself) FU
  have hM := h
  unfold M_X6_bestHour at hM
  refine J.aload_n (pc := 0) C dX6_bestHour_0 rfl rfl ?_
  refine gf_X6_0_0 (pc := 1) C tf_X6_10 dX6_bestHour_1 ?_
  refine J.iload_n (pc := 4) C dX6_bestHour_4 rfl rfl ?_
  refine J.callV1i (pc := 5) C (K_X0_knows al_3 _ _) lk_X0_knows tm_X6_84 (io_3 q cI) ⟨Nat.le_of_ble_eq_true rfl, Nat.le_of_ble_eq_true rfl⟩ (Nat.le_of_ble_eq_true rfl) dX6_bestHour_5 ?_
  refine J.if_ne (pc := 8) C 17 dX6_bestHour_8 (by decide) (fun hc => ?_) (fun hc => ?_)
  · have hM := ite_f hc hM
    refine J.aload_n (pc := 17) C dX6_bestHour_17 rfl rfl ?_
    refine gf_X6_0_2 (pc := 18) C tf_X6_19 dX6_bestHour_18 ?_
    refine J.aload_n (pc := 21) C dX6_bestHour_21 rfl rfl ?_
    refine gf_X6_0_0 (pc := 22) C tf_X6_10 dX6_bestHour_22 ?_
    refine J.callV1v (pc := 25) C (K_X0_becomeLike al_17 al_3 _) lk_X0_becomeLike tm_X6_76 (io_17 q cI) ⟨Nat.le_of_ble_eq_true rfl, Nat.le_of_ble_eq_true rfl⟩ (Nat.le_of_ble_eq_true rfl) dX6_bestHour_25 ?_
    obtain ⟨_, ea, hM⟩ := lt_ex hM
    refine J.cong C ea ?_
    refine J.iconst (pc := 28) C 0 dX6_bestHour_28 ic_0 ?_
    refine J.istore_n (pc := 29) C dX6_bestHour_29 rfl (by decide) ?_
    refine J.ldc (pc := 30) C tc_X6_188 dX6_bestHour_30 ?_
    refine J.istore_n (pc := 32) C dX6_bestHour_32 rfl (by decide) ?_
    refine J.iconst (pc := 33) C 0 dX6_bestHour_33 ic_0 ?_
    refine J.istore (pc := 34) C dX6_bestHour_34 (by decide) ?_
    refine J.sub C [0, 1, 2, 3, 4] rfl ?_
    exact jl36 _ _ _ _ _ hM
  · have hM := ite_t hc hM
    refine J.aload_n (pc := 11) C dX6_bestHour_11 rfl rfl ?_
    refine J.iconst (pc := 12) C (-1) dX6_bestHour_12 ic_m1 ?_
    obtain ⟨_, _, h1, hM⟩ := bI_ex hM
    refine J.callV1i (pc := 13) C (C_X6_refuse h1) lk_X6_refuse tm_X6_65 (io_0 q cI) ⟨Nat.le_of_ble_eq_true rfl, Nat.le_of_ble_eq_true rfl⟩ (Nat.le_of_ble_eq_true rfl) dX6_bestHour_13 ?_
    exact hret dX6_bestHour_16 hM rfl
def M_X6_without (x1 : Int32) (g : Sg) : Option (Int32 × Sg) := (if (V_X0_knows 3 x1 g) = 0 then bI (M_X6_refuseAmongAll (-1) g) (fun r_7 g_8 => some (r_7, g_8)) else lt (U_X0_becomeLike 17 3 g) (fun g_1 => bV (M_X0_sendHome 17 x1 g_1) (fun g_2 => bI (M_X5_byHours 3 g_2) (fun r_3 g_4 => bI (M_X5_byHours 17 g_4) (fun r_5 g_6 => some (r_3 - r_5, g_6))))))
set_option maxRecDepth 100000 in
set_option maxHeartbeats 4000000 in
theorem C_X6_without {l : Launch} {D : va_G} {q : Nat → Nat} {cI : ClassId} {z : Nat} {x1 : Int32} {g : Sg} {r : Int32 × Sg} (h : M_X6_without x1 g = some r) : CTi l (EC z) D cI (cW q cI) yX6_without cX6_without 2 (some .int) 6 140 [.ref (q 0), .int x1] g r := by
  refine CTi.of2 (by decide) (EC_ok z) (Nat.le_of_ble_eq_true rfl) rfl (fun p e s m args below meth c A Q C hret => ?_)
  have hM := h
  unfold M_X6_without at hM
  refine J.aload_n (pc := 0) C dX6_without_0 rfl rfl ?_
  refine gf_X6_0_0 (pc := 1) C tf_X6_10 dX6_without_1 ?_
  refine J.iload_n (pc := 4) C dX6_without_4 rfl rfl ?_
  refine J.callV1i (pc := 5) C (K_X0_knows al_3 _ _) lk_X0_knows tm_X6_84 (io_3 q cI) ⟨Nat.le_of_ble_eq_true rfl, Nat.le_of_ble_eq_true rfl⟩ (Nat.le_of_ble_eq_true rfl) dX6_without_5 ?_
  refine J.if_ne (pc := 8) C 17 dX6_without_8 (by decide) (fun hc => ?_) (fun hc => ?_)
  · have hM := ite_f hc hM
    refine J.aload_n (pc := 17) C dX6_without_17 rfl rfl ?_
    refine gf_X6_0_2 (pc := 18) C tf_X6_19 dX6_without_18 ?_
    refine J.aload_n (pc := 21) C dX6_without_21 rfl rfl ?_
    refine gf_X6_0_0 (pc := 22) C tf_X6_10 dX6_without_22 ?_
    refine J.callV1v (pc := 25) C (K_X0_becomeLike al_17 al_3 _) lk_X0_becomeLike tm_X6_76 (io_17 q cI) ⟨Nat.le_of_ble_eq_true rfl, Nat.le_of_ble_eq_true rfl⟩ (Nat.le_of_ble_eq_true rfl) dX6_without_25 ?_
    obtain ⟨_, ea, hM⟩ := lt_ex hM
    refine J.cong C ea ?_
    refine J.aload_n (pc := 28) C dX6_without_28 rfl rfl ?_
    refine gf_X6_0_2 (pc := 29) C tf_X6_19 dX6_without_29 ?_
    refine J.iload_n (pc := 32) C dX6_without_32 rfl rfl ?_
    obtain ⟨_, h1, hM⟩ := bV_ex hM
    refine J.callV1v (pc := 33) C (C_X0_sendHome al_17 h1) lk_X0_sendHome tm_X6_192 (io_17 q cI) ⟨Nat.le_of_ble_eq_true rfl, Nat.le_of_ble_eq_true rfl⟩ (Nat.le_of_ble_eq_true rfl) dX6_without_33 ?_
    refine J.aload_n (pc := 36) C dX6_without_36 rfl rfl ?_
    refine gf_X6_0_4 (pc := 37) C tf_X6_32 dX6_without_37 ?_
    refine J.aload_n (pc := 40) C dX6_without_40 rfl rfl ?_
    refine gf_X6_0_0 (pc := 41) C tf_X6_10 dX6_without_41 ?_
    obtain ⟨_, _, h1, hM⟩ := bI_ex hM
    refine J.callV1i (pc := 44) C (C_X5_byHours al_3 h1) lk_X5_byHours tm_X6_126 (io_26 q cI) ⟨Nat.le_of_ble_eq_true rfl, Nat.le_of_ble_eq_true rfl⟩ (Nat.le_of_ble_eq_true rfl) dX6_without_44 ?_
    refine J.aload_n (pc := 47) C dX6_without_47 rfl rfl ?_
    refine gf_X6_0_4 (pc := 48) C tf_X6_32 dX6_without_48 ?_
    refine J.aload_n (pc := 51) C dX6_without_51 rfl rfl ?_
    refine gf_X6_0_2 (pc := 52) C tf_X6_19 dX6_without_52 ?_
    obtain ⟨_, _, h1, hM⟩ := bI_ex hM
    refine J.callV1i (pc := 55) C (C_X5_byHours al_17 h1) lk_X5_byHours tm_X6_126 (io_26 q cI) ⟨Nat.le_of_ble_eq_true rfl, Nat.le_of_ble_eq_true rfl⟩ (Nat.le_of_ble_eq_true rfl) dX6_without_55 ?_
    refine J.isub (pc := 58) C dX6_without_58 ?_
    exact hret dX6_without_59 hM rfl
  · have hM := ite_t hc hM
    refine J.aload_n (pc := 11) C dX6_without_11 rfl rfl ?_
    refine J.iconst (pc := 12) C (-1) dX6_without_12 ic_m1 ?_
    obtain ⟨_, _, h1, hM⟩ := bI_ex hM
    refine J.callV1i (pc := 13) C (C_X6_refuseAmongAll h1) lk_X6_refuseAmongAll tm_X6_189 (io_0 q cI) ⟨Nat.le_of_ble_eq_true rfl, Nat.le_of_ble_eq_true rfl⟩ (Nat.le_of_ble_eq_true rfl) dX6_without_13 ?_
    exact hret dX6_without_16 hM rfl
def M_X6_second (x1 : Int32) (g : Sg) : Option (Int32 × Sg) := (if (V_X6_isCell x1 g) = 0 then bI (M_X6_refuseAmongAll (-1) g) (fun r_7 g_8 => some (r_7, g_8)) else lt (U_X0_becomeLike 17 3 g) (fun g_1 => lt (sI g_1 18 x1) (fun g_2 => bI (M_X5_byHours 3 g_2) (fun r_3 g_4 => bI (M_X5_byHours 17 g_4) (fun r_5 g_6 => some (r_3 - r_5, g_6))))))
set_option maxRecDepth 100000 in
set_option maxHeartbeats 4000000 in
theorem C_X6_second {l : Launch} {D : va_G} {q : Nat → Nat} {cI : ClassId} {z : Nat} {x1 : Int32} {g : Sg} {r : Int32 × Sg} (h : M_X6_second x1 g = some r) : CTi l (EC z) D cI (cW q cI) yX6_second cX6_second 2 (some .int) 6 140 [.ref (q 0), .int x1] g r := by
  refine CTi.of2 (by decide) (EC_ok z) (Nat.le_of_ble_eq_true rfl) rfl (fun p e s m args below meth c A Q C hret => ?_)
  have hM := h
  unfold M_X6_second at hM
  refine J.iload_n (pc := 0) C dX6_second_0 rfl rfl ?_
  refine J.callS1i (pc := 1) C (K_X6_isCell _ _) lk_X6_isCell tm_X6_195 ⟨Nat.le_of_ble_eq_true rfl, Nat.le_of_ble_eq_true rfl⟩ (Nat.le_of_ble_eq_true rfl) dX6_second_1 ?_
  refine J.if_ne (pc := 4) C 13 dX6_second_4 (by decide) (fun hc => ?_) (fun hc => ?_)
  · have hM := ite_f hc hM
    refine J.aload_n (pc := 13) C dX6_second_13 rfl rfl ?_
    refine gf_X6_0_2 (pc := 14) C tf_X6_19 dX6_second_14 ?_
    refine J.aload_n (pc := 17) C dX6_second_17 rfl rfl ?_
    refine gf_X6_0_0 (pc := 18) C tf_X6_10 dX6_second_18 ?_
    refine J.callV1v (pc := 21) C (K_X0_becomeLike al_17 al_3 _) lk_X0_becomeLike tm_X6_76 (io_17 q cI) ⟨Nat.le_of_ble_eq_true rfl, Nat.le_of_ble_eq_true rfl⟩ (Nat.le_of_ble_eq_true rfl) dX6_second_21 ?_
    obtain ⟨_, ea, hM⟩ := lt_ex hM
    refine J.cong C ea ?_
    refine J.aload_n (pc := 24) C dX6_second_24 rfl rfl ?_
    refine gf_X6_0_2 (pc := 25) C tf_X6_19 dX6_second_25 ?_
    refine J.iload_n (pc := 28) C dX6_second_28 rfl rfl ?_
    refine pf_X0_7 (pc := 29) al_17 C tf_X6_198 dX6_second_29 ?_
    obtain ⟨_, ea, hM⟩ := lt_ex hM
    refine J.cong C ea ?_
    refine J.aload_n (pc := 32) C dX6_second_32 rfl rfl ?_
    refine gf_X6_0_4 (pc := 33) C tf_X6_32 dX6_second_33 ?_
    refine J.aload_n (pc := 36) C dX6_second_36 rfl rfl ?_
    refine gf_X6_0_0 (pc := 37) C tf_X6_10 dX6_second_37 ?_
    obtain ⟨_, _, h1, hM⟩ := bI_ex hM
    refine J.callV1i (pc := 40) C (C_X5_byHours al_3 h1) lk_X5_byHours tm_X6_126 (io_26 q cI) ⟨Nat.le_of_ble_eq_true rfl, Nat.le_of_ble_eq_true rfl⟩ (Nat.le_of_ble_eq_true rfl) dX6_second_40 ?_
    refine J.aload_n (pc := 43) C dX6_second_43 rfl rfl ?_
    refine gf_X6_0_4 (pc := 44) C tf_X6_32 dX6_second_44 ?_
    refine J.aload_n (pc := 47) C dX6_second_47 rfl rfl ?_
    refine gf_X6_0_2 (pc := 48) C tf_X6_19 dX6_second_48 ?_
    obtain ⟨_, _, h1, hM⟩ := bI_ex hM
    refine J.callV1i (pc := 51) C (C_X5_byHours al_17 h1) lk_X5_byHours tm_X6_126 (io_26 q cI) ⟨Nat.le_of_ble_eq_true rfl, Nat.le_of_ble_eq_true rfl⟩ (Nat.le_of_ble_eq_true rfl) dX6_second_51 ?_
    refine J.isub (pc := 54) C dX6_second_54 ?_
    exact hret dX6_second_55 hM rfl
  · have hM := ite_t hc hM
    refine J.aload_n (pc := 7) C dX6_second_7 rfl rfl ?_
    refine J.iconst (pc := 8) C (-1) dX6_second_8 ic_m1 ?_
    obtain ⟨_, _, h1, hM⟩ := bI_ex hM
    refine J.callV1i (pc := 9) C (C_X6_refuseAmongAll h1) lk_X6_refuseAmongAll tm_X6_189 (io_0 q cI) ⟨Nat.le_of_ble_eq_true rfl, Nat.le_of_ble_eq_true rfl⟩ (Nat.le_of_ble_eq_true rfl) dX6_second_9 ?_
    exact hret dX6_second_12 hM rfl
def B_X6_bestSecond_18 (kb18 : Int32 → Int32 → Int32 → Sg → Option (Int32 × Sg)) (x1 x2 x3 : Int32) (g : Sg) : Option (Int32 × Sg) := (if 40 ≤ x3 then some (x1, g) else lt (sI g 18 x3) (fun g_2 => bI (M_X5_byHours 17 g_2) (fun r_3 g_4 => (if x2 ≤ r_3 then kb18 x1 x2 (x3 + 1) g_4 else kb18 x3 r_3 (x3 + 1) g_4))))
def M_X6_bestSecond (g : Sg) : Option (Int32 × Sg) := lt (U_X0_becomeLike 17 3 g) (fun g_1 => lup3 (B_X6_bestSecond_18 ) FU 0 2147483647 0 g_1)
set_option maxRecDepth 100000 in
set_option maxHeartbeats 4000000 in
theorem C_X6_bestSecond {l : Launch} {D : va_G} {q : Nat → Nat} {cI : ClassId} {z : Nat} {g : Sg} {r : Int32 × Sg} (h : M_X6_bestSecond g = some r) : CTi l (EC z) D cI (cW q cI) yX6_bestSecond cX6_bestSecond 5 (some .int) 6 140 [.ref (q 0)] g r := by
  refine CTi.of2 (by decide) (EC_ok z) (Nat.le_of_ble_eq_true rfl) rfl (fun p e s m args below meth c A Q C hret => ?_)
  have jb18 : ∀ (kb18 : Int32 → Int32 → Int32 → Sg → Option (Int32 × Sg)) (hkb18 : ∀ (x1 x2 x3 : Int32) (g : Sg), kb18 x1 x2 x3 g = some r → J p l e (RM 6 140) s m args below meth c D (cW q cI) A 5 Q g 18 [(0, .ref (q 0)), (1, .int x1), (2, .int x2), (3, .int x3)] []) (x1 x2 x3 : Int32) (g : Sg), B_X6_bestSecond_18 kb18 x1 x2 x3 g = some r → J p l e (RM 6 140) s m args below meth c D (cW q cI) A 5 Q g 18 [(0, .ref (q 0)), (1, .int x1), (2, .int x2), (3, .int x3)] [] := by
    intro kb18 hkb18 x1 x2 x3 g hM
    unfold B_X6_bestSecond_18 at hM
    refine J.iload_n (pc := 18) C dX6_bestSecond_18 rfl rfl ?_
    refine J.bipush (pc := 19) C 40 dX6_bestSecond_19 bp_40 ?_
    refine J.icmp_ge (pc := 21) C 62 dX6_bestSecond_21 (by decide) (fun hc => ?_) (fun hc => ?_)
    · have hM := ite_t hc hM
      refine J.iload_n (pc := 62) C dX6_bestSecond_62 rfl rfl ?_
      exact hret dX6_bestSecond_63 hM rfl
    · have hM := ite_f hc hM
      refine J.aload_n (pc := 24) C dX6_bestSecond_24 rfl rfl ?_
      refine gf_X6_0_2 (pc := 25) C tf_X6_19 dX6_bestSecond_25 ?_
      refine J.iload_n (pc := 28) C dX6_bestSecond_28 rfl rfl ?_
      refine pf_X0_7 (pc := 29) al_17 C tf_X6_198 dX6_bestSecond_29 ?_
      obtain ⟨_, ea, hM⟩ := lt_ex hM
      refine J.cong C ea ?_
      refine J.aload_n (pc := 32) C dX6_bestSecond_32 rfl rfl ?_
      refine gf_X6_0_4 (pc := 33) C tf_X6_32 dX6_bestSecond_33 ?_
      refine J.aload_n (pc := 36) C dX6_bestSecond_36 rfl rfl ?_
      refine gf_X6_0_2 (pc := 37) C tf_X6_19 dX6_bestSecond_37 ?_
      obtain ⟨_, _, h1, hM⟩ := bI_ex hM
      refine J.callV1i (pc := 40) C (C_X5_byHours al_17 h1) lk_X5_byHours tm_X6_126 (io_26 q cI) ⟨Nat.le_of_ble_eq_true rfl, Nat.le_of_ble_eq_true rfl⟩ (Nat.le_of_ble_eq_true rfl) dX6_bestSecond_40 ?_
      refine J.istore (pc := 43) C dX6_bestSecond_43 (by decide) ?_
      refine J.iload (pc := 45) C dX6_bestSecond_45 rfl ?_
      refine J.iload_n (pc := 47) C dX6_bestSecond_47 rfl rfl ?_
      refine J.icmp_ge (pc := 48) C 56 dX6_bestSecond_48 (by decide) (fun hc => ?_) (fun hc => ?_)
      · have hM := ite_t hc hM
        refine J.iinc (pc := 56) C 1 dX6_bestSecond_56 ic_1 rfl (by decide) ?_
        refine J.goto (pc := 59) C 18 dX6_bestSecond_59 (by decide) ?_
        refine J.sub C [0, 1, 2, 3] rfl ?_
        exact hkb18 _ _ _ _ hM
      · have hM := ite_f hc hM
        refine J.iload (pc := 51) C dX6_bestSecond_51 rfl ?_
        refine J.istore_n (pc := 53) C dX6_bestSecond_53 rfl (by decide) ?_
        refine J.iload_n (pc := 54) C dX6_bestSecond_54 rfl rfl ?_
        refine J.istore_n (pc := 55) C dX6_bestSecond_55 rfl (by decide) ?_
        refine J.iinc (pc := 56) C 1 dX6_bestSecond_56 ic_1 rfl (by decide) ?_
        refine J.goto (pc := 59) C 18 dX6_bestSecond_59 (by decide) ?_
        refine J.sub C [0, 1, 2, 3] rfl ?_
        exact hkb18 _ _ _ _ hM
  have jl18 : ∀ (x1 x2 x3 : Int32) (g : Sg), lup3 (B_X6_bestSecond_18) FU x1 x2 x3 g = some r → J p l e (RM 6 140) s m args below meth c D (cW q cI) A 5 Q g 18 [(0, .ref (q 0)), (1, .int x1), (2, .int x2), (3, .int x3)] [] := 
    lup3_ok (P := fun x1 x2 x3 g => J p l e (RM 6 140) s m args below meth c D (cW q cI) A 5 Q g 18 [(0, .ref (q 0)), (1, .int x1), (2, .int x2), (3, .int x3)] []) (fun self hself => jb18 self hself) FU
  have hM := h
  unfold M_X6_bestSecond at hM
  refine J.aload_n (pc := 0) C dX6_bestSecond_0 rfl rfl ?_
  refine gf_X6_0_2 (pc := 1) C tf_X6_19 dX6_bestSecond_1 ?_
  refine J.aload_n (pc := 4) C dX6_bestSecond_4 rfl rfl ?_
  refine gf_X6_0_0 (pc := 5) C tf_X6_10 dX6_bestSecond_5 ?_
  refine J.callV1v (pc := 8) C (K_X0_becomeLike al_17 al_3 _) lk_X0_becomeLike tm_X6_76 (io_17 q cI) ⟨Nat.le_of_ble_eq_true rfl, Nat.le_of_ble_eq_true rfl⟩ (Nat.le_of_ble_eq_true rfl) dX6_bestSecond_8 ?_
  obtain ⟨_, ea, hM⟩ := lt_ex hM
  refine J.cong C ea ?_
  refine J.iconst (pc := 11) C 0 dX6_bestSecond_11 ic_0 ?_
  refine J.istore_n (pc := 12) C dX6_bestSecond_12 rfl (by decide) ?_
  refine J.ldc (pc := 13) C tc_X6_188 dX6_bestSecond_13 ?_
  refine J.istore_n (pc := 15) C dX6_bestSecond_15 rfl (by decide) ?_
  refine J.iconst (pc := 16) C 0 dX6_bestSecond_16 ic_0 ?_
  refine J.istore_n (pc := 17) C dX6_bestSecond_17 rfl (by decide) ?_
  refine J.sub C [0, 1, 2, 3] rfl ?_
  exact jl18 _ _ _ _ hM
def M_X6_net (x1 : Int32) (g : Sg) : Option (Int32 × Sg) := (if (V_X0_knows 3 x1 g) = 0 then bI (M_X6_refuseAmongAll (-1) g) (fun r_4 g_5 => some (r_4, g_5)) else bI (M_X5_byHours 3 g) (fun r_1 g_2 => bV (M_X1_reckon 3 g_2) (fun g_3 => some (rat g_3 41 7 x1, g_3))))
set_option maxRecDepth 100000 in
set_option maxHeartbeats 4000000 in
theorem C_X6_net {l : Launch} {D : va_G} {q : Nat → Nat} {cI : ClassId} {z : Nat} {x1 : Int32} {g : Sg} {r : Int32 × Sg} (h : M_X6_net x1 g = some r) : CTi l (EC z) D cI (cW q cI) yX6_net cX6_net 2 (some .int) 6 140 [.ref (q 0), .int x1] g r := by
  refine CTi.of2 (by decide) (EC_ok z) (Nat.le_of_ble_eq_true rfl) rfl (fun p e s m args below meth c A Q C hret => ?_)
  have hM := h
  unfold M_X6_net at hM
  refine J.aload_n (pc := 0) C dX6_net_0 rfl rfl ?_
  refine gf_X6_0_0 (pc := 1) C tf_X6_10 dX6_net_1 ?_
  refine J.iload_n (pc := 4) C dX6_net_4 rfl rfl ?_
  refine J.callV1i (pc := 5) C (K_X0_knows al_3 _ _) lk_X0_knows tm_X6_84 (io_3 q cI) ⟨Nat.le_of_ble_eq_true rfl, Nat.le_of_ble_eq_true rfl⟩ (Nat.le_of_ble_eq_true rfl) dX6_net_5 ?_
  refine J.if_ne (pc := 8) C 17 dX6_net_8 (by decide) (fun hc => ?_) (fun hc => ?_)
  · have hM := ite_f hc hM
    refine J.aload_n (pc := 17) C dX6_net_17 rfl rfl ?_
    refine gf_X6_0_4 (pc := 18) C tf_X6_32 dX6_net_18 ?_
    refine J.aload_n (pc := 21) C dX6_net_21 rfl rfl ?_
    refine gf_X6_0_0 (pc := 22) C tf_X6_10 dX6_net_22 ?_
    obtain ⟨_, _, h1, hM⟩ := bI_ex hM
    refine J.callV1i (pc := 25) C (C_X5_byHours al_3 h1) lk_X5_byHours tm_X6_126 (io_26 q cI) ⟨Nat.le_of_ble_eq_true rfl, Nat.le_of_ble_eq_true rfl⟩ (Nat.le_of_ble_eq_true rfl) dX6_net_25 ?_
    refine J.pop (pc := 28) C dX6_net_28 rfl ?_
    refine J.aload_n (pc := 29) C dX6_net_29 rfl rfl ?_
    refine gf_X6_0_6 (pc := 30) C tf_X6_46 dX6_net_30 ?_
    refine J.aload_n (pc := 33) C dX6_net_33 rfl rfl ?_
    refine gf_X6_0_0 (pc := 34) C tf_X6_10 dX6_net_34 ?_
    refine J.aload_n (pc := 37) C dX6_net_37 rfl rfl ?_
    refine gf_X6_0_4 (pc := 38) C tf_X6_32 dX6_net_38 ?_
    obtain ⟨_, h1, hM⟩ := bV_ex hM
    refine J.callV2v (pc := 41) C (C_X1_reckon al_3 h1) lk_X1_reckon tm_X6_201 (io_40 q cI) ⟨Nat.le_of_ble_eq_true rfl, Nat.le_of_ble_eq_true rfl⟩ (Nat.le_of_ble_eq_true rfl) dX6_net_41 ?_
    refine J.aload_n (pc := 44) C dX6_net_44 rfl rfl ?_
    refine gf_X6_0_6 (pc := 45) C tf_X6_46 dX6_net_45 ?_
    refine gf_X1_40_0 (pc := 48) C tf_X6_205 dX6_net_48 ?_
    refine J.iload_n (pc := 51) C dX6_net_51 rfl rfl ?_
    refine J.callS2i (pc := 52) C (K_X4_at (ia_41 q cI) _ _) lk_X4_at tm_X6_91 ⟨Nat.le_of_ble_eq_true rfl, Nat.le_of_ble_eq_true rfl⟩ (Nat.le_of_ble_eq_true rfl) dX6_net_52 ?_
    exact hret dX6_net_55 hM rfl
  · have hM := ite_t hc hM
    refine J.aload_n (pc := 11) C dX6_net_11 rfl rfl ?_
    refine J.iconst (pc := 12) C (-1) dX6_net_12 ic_m1 ?_
    obtain ⟨_, _, h1, hM⟩ := bI_ex hM
    refine J.callV1i (pc := 13) C (C_X6_refuseAmongAll h1) lk_X6_refuseAmongAll tm_X6_189 (io_0 q cI) ⟨Nat.le_of_ble_eq_true rfl, Nat.le_of_ble_eq_true rfl⟩ (Nat.le_of_ble_eq_true rfl) dX6_net_13 ?_
    exact hret dX6_net_16 hM rfl
def M_X6_payments (g : Sg) : Option (Int32 × Sg) := bI (M_X5_byHours 3 g) (fun r_1 g_2 => bV (M_X1_reckon 3 g_2) (fun g_3 => bI (M_X1_fewestPayments (g_3.1 3) g_3) (fun r_4 g_5 => some (r_4, g_5))))
set_option maxRecDepth 100000 in
set_option maxHeartbeats 4000000 in
theorem C_X6_payments {l : Launch} {D : va_G} {q : Nat → Nat} {cI : ClassId} {z : Nat} {g : Sg} {r : Int32 × Sg} (h : M_X6_payments g = some r) : CTi l (EC z) D cI (cW q cI) yX6_payments cX6_payments 1 (some .int) 6 140 [.ref (q 0)] g r := by
  refine CTi.of2 (by decide) (EC_ok z) (Nat.le_of_ble_eq_true rfl) rfl (fun p e s m args below meth c A Q C hret => ?_)
  have hM := h
  unfold M_X6_payments at hM
  refine J.aload_n (pc := 0) C dX6_payments_0 rfl rfl ?_
  refine gf_X6_0_4 (pc := 1) C tf_X6_32 dX6_payments_1 ?_
  refine J.aload_n (pc := 4) C dX6_payments_4 rfl rfl ?_
  refine gf_X6_0_0 (pc := 5) C tf_X6_10 dX6_payments_5 ?_
  obtain ⟨_, _, h1, hM⟩ := bI_ex hM
  refine J.callV1i (pc := 8) C (C_X5_byHours al_3 h1) lk_X5_byHours tm_X6_126 (io_26 q cI) ⟨Nat.le_of_ble_eq_true rfl, Nat.le_of_ble_eq_true rfl⟩ (Nat.le_of_ble_eq_true rfl) dX6_payments_8 ?_
  refine J.pop (pc := 11) C dX6_payments_11 rfl ?_
  refine J.aload_n (pc := 12) C dX6_payments_12 rfl rfl ?_
  refine gf_X6_0_6 (pc := 13) C tf_X6_46 dX6_payments_13 ?_
  refine J.aload_n (pc := 16) C dX6_payments_16 rfl rfl ?_
  refine gf_X6_0_0 (pc := 17) C tf_X6_10 dX6_payments_17 ?_
  refine J.aload_n (pc := 20) C dX6_payments_20 rfl rfl ?_
  refine gf_X6_0_4 (pc := 21) C tf_X6_32 dX6_payments_21 ?_
  obtain ⟨_, h1, hM⟩ := bV_ex hM
  refine J.callV2v (pc := 24) C (C_X1_reckon al_3 h1) lk_X1_reckon tm_X6_201 (io_40 q cI) ⟨Nat.le_of_ble_eq_true rfl, Nat.le_of_ble_eq_true rfl⟩ (Nat.le_of_ble_eq_true rfl) dX6_payments_24 ?_
  refine J.aload_n (pc := 27) C dX6_payments_27 rfl rfl ?_
  refine gf_X6_0_6 (pc := 28) C tf_X6_46 dX6_payments_28 ?_
  refine J.aload_n (pc := 31) C dX6_payments_31 rfl rfl ?_
  refine gf_X6_0_0 (pc := 32) C tf_X6_10 dX6_payments_32 ?_
  refine gf_X0_6 (pc := 35) al_3 C tf_X6_172 dX6_payments_35 ?_
  obtain ⟨_, _, h1, hM⟩ := bI_ex hM
  refine J.callV1i (pc := 38) C (C_X1_fewestPayments h1) lk_X1_fewestPayments tm_X6_208 (io_40 q cI) ⟨Nat.le_of_ble_eq_true rfl, Nat.le_of_ble_eq_true rfl⟩ (Nat.le_of_ble_eq_true rfl) dX6_payments_38 ?_
  exact hret dX6_payments_41 hM rfl
def M_X6_near (x1 x2 : Int32) (g : Sg) : Option (Int32 × Sg) := (if (V_X6_hourRefusal x1 g) = 0 then (if (V_X6_isCell x2 g) = 0 then bI (M_X6_refuse (-1) g) (fun r_3 g_4 => some (r_3, g_4)) else bI (M_X5_byHours 3 g) (fun r_1 g_2 => some (iabs ((rat g_2 34 12 x1) - x2), g_2))) else bI (M_X6_refuse (V_X6_hourRefusal x1 g) g) (fun r_5 g_6 => some (r_5, g_6)))
set_option maxRecDepth 100000 in
set_option maxHeartbeats 4000000 in
theorem C_X6_near {l : Launch} {D : va_G} {q : Nat → Nat} {cI : ClassId} {z : Nat} {x1 x2 : Int32} {g : Sg} {r : Int32 × Sg} (h : M_X6_near x1 x2 g = some r) : CTi l (EC z) D cI (cW q cI) yX6_near cX6_near 4 (some .int) 6 140 [.ref (q 0), .int x1, .int x2] g r := by
  refine CTi.of2 (by decide) (EC_ok z) (Nat.le_of_ble_eq_true rfl) rfl (fun p e s m args below meth c A Q C hret => ?_)
  have hM := h
  unfold M_X6_near at hM
  refine J.iload_n (pc := 0) C dX6_near_0 rfl rfl ?_
  refine J.callS1i (pc := 1) C (K_X6_hourRefusal _ _) lk_X6_hourRefusal tm_X6_166 ⟨Nat.le_of_ble_eq_true rfl, Nat.le_of_ble_eq_true rfl⟩ (Nat.le_of_ble_eq_true rfl) dX6_near_1 ?_
  refine J.istore_n (pc := 4) C dX6_near_4 rfl (by decide) ?_
  refine J.iload_n (pc := 5) C dX6_near_5 rfl rfl ?_
  refine J.if_eq (pc := 6) C 15 dX6_near_6 (by decide) (fun hc => ?_) (fun hc => ?_)
  · have hM := ite_t hc hM
    refine J.iload_n (pc := 15) C dX6_near_15 rfl rfl ?_
    refine J.callS1i (pc := 16) C (K_X6_isCell _ _) lk_X6_isCell tm_X6_195 ⟨Nat.le_of_ble_eq_true rfl, Nat.le_of_ble_eq_true rfl⟩ (Nat.le_of_ble_eq_true rfl) dX6_near_16 ?_
    refine J.if_ne (pc := 19) C 28 dX6_near_19 (by decide) (fun hc => ?_) (fun hc => ?_)
    · have hM := ite_f hc hM
      refine J.aload_n (pc := 28) C dX6_near_28 rfl rfl ?_
      refine gf_X6_0_4 (pc := 29) C tf_X6_32 dX6_near_29 ?_
      refine J.aload_n (pc := 32) C dX6_near_32 rfl rfl ?_
      refine gf_X6_0_0 (pc := 33) C tf_X6_10 dX6_near_33 ?_
      obtain ⟨_, _, h1, hM⟩ := bI_ex hM
      refine J.callV1i (pc := 36) C (C_X5_byHours al_3 h1) lk_X5_byHours tm_X6_126 (io_26 q cI) ⟨Nat.le_of_ble_eq_true rfl, Nat.le_of_ble_eq_true rfl⟩ (Nat.le_of_ble_eq_true rfl) dX6_near_36 ?_
      refine J.pop (pc := 39) C dX6_near_39 rfl ?_
      refine J.aload_n (pc := 40) C dX6_near_40 rfl rfl ?_
      refine gf_X6_0_4 (pc := 41) C tf_X6_32 dX6_near_41 ?_
      refine gf_X5_26_7 (pc := 44) C tf_X6_169 dX6_near_44 ?_
      refine J.iload_n (pc := 47) C dX6_near_47 rfl rfl ?_
      refine J.callS2i (pc := 48) C (K_X4_at (ia_34 q cI) _ _) lk_X4_at tm_X6_91 ⟨Nat.le_of_ble_eq_true rfl, Nat.le_of_ble_eq_true rfl⟩ (Nat.le_of_ble_eq_true rfl) dX6_near_48 ?_
      refine J.iload_n (pc := 51) C dX6_near_51 rfl rfl ?_
      refine J.isub (pc := 52) C dX6_near_52 ?_
      refine J.mabs (pc := 53) C tm_X6_211 (Nat.le_of_ble_eq_true rfl) (Nat.le_of_ble_eq_true rfl) dX6_near_53 ?_
      exact hret dX6_near_56 hM rfl
    · have hM := ite_t hc hM
      refine J.aload_n (pc := 22) C dX6_near_22 rfl rfl ?_
      refine J.iconst (pc := 23) C (-1) dX6_near_23 ic_m1 ?_
      obtain ⟨_, _, h1, hM⟩ := bI_ex hM
      refine J.callV1i (pc := 24) C (C_X6_refuse h1) lk_X6_refuse tm_X6_65 (io_0 q cI) ⟨Nat.le_of_ble_eq_true rfl, Nat.le_of_ble_eq_true rfl⟩ (Nat.le_of_ble_eq_true rfl) dX6_near_24 ?_
      exact hret dX6_near_27 hM rfl
  · have hM := ite_f hc hM
    refine J.aload_n (pc := 9) C dX6_near_9 rfl rfl ?_
    refine J.iload_n (pc := 10) C dX6_near_10 rfl rfl ?_
    obtain ⟨_, _, h1, hM⟩ := bI_ex hM
    refine J.callV1i (pc := 11) C (C_X6_refuse h1) lk_X6_refuse tm_X6_65 (io_0 q cI) ⟨Nat.le_of_ble_eq_true rfl, Nat.le_of_ble_eq_true rfl⟩ (Nat.le_of_ble_eq_true rfl) dX6_near_11 ?_
    exact hret dX6_near_14 hM rfl
def B_X6_midwife_32 (kb32 : Int32 → Int32 → Int32 → Int32 → Sg → Option (Int32 × Sg)) (x1 x2 x3 x4 : Int32) (g : Sg) : Option (Int32 × Sg) := (if 12 ≤ x4 then some (x3, g) else lt (iabs ((rat g 34 12 x4) - x1)) (fun x5_5 => (if x5_5 ≤ x2 then kb32 x1 x2 x3 (x4 + 1) g else kb32 x1 x5_5 x4 (x4 + 1) g)))
def M_X6_midwife (x1 : Int32) (g : Sg) : Option (Int32 × Sg) := (if (V_X6_isCell x1 g) = 0 then bI (M_X6_refuse (-1) g) (fun r_3 g_4 => some (r_3, g_4)) else bI (M_X5_byHours 3 g) (fun r_1 g_2 => lup4 (B_X6_midwife_32 ) FU x1 (-1) 0 0 g_2))
set_option maxRecDepth 100000 in
set_option maxHeartbeats 4000000 in
theorem C_X6_midwife {l : Launch} {D : va_G} {q : Nat → Nat} {cI : ClassId} {z : Nat} {x1 : Int32} {g : Sg} {r : Int32 × Sg} (h : M_X6_midwife x1 g = some r) : CTi l (EC z) D cI (cW q cI) yX6_midwife cX6_midwife 6 (some .int) 6 140 [.ref (q 0), .int x1] g r := by
  refine CTi.of2 (by decide) (EC_ok z) (Nat.le_of_ble_eq_true rfl) rfl (fun p e s m args below meth c A Q C hret => ?_)
  have jb32 : ∀ (kb32 : Int32 → Int32 → Int32 → Int32 → Sg → Option (Int32 × Sg)) (hkb32 : ∀ (x1 x2 x3 x4 : Int32) (g : Sg), kb32 x1 x2 x3 x4 g = some r → J p l e (RM 6 140) s m args below meth c D (cW q cI) A 6 Q g 32 [(0, .ref (q 0)), (1, .int x1), (2, .int x2), (3, .int x3), (4, .int x4)] []) (x1 x2 x3 x4 : Int32) (g : Sg), B_X6_midwife_32 kb32 x1 x2 x3 x4 g = some r → J p l e (RM 6 140) s m args below meth c D (cW q cI) A 6 Q g 32 [(0, .ref (q 0)), (1, .int x1), (2, .int x2), (3, .int x3), (4, .int x4)] [] := by
    intro kb32 hkb32 x1 x2 x3 x4 g hM
    unfold B_X6_midwife_32 at hM
    refine J.iload (pc := 32) C dX6_midwife_32 rfl ?_
    refine J.bipush (pc := 34) C 12 dX6_midwife_34 bp_12 ?_
    refine J.icmp_ge (pc := 36) C 76 dX6_midwife_36 (by decide) (fun hc => ?_) (fun hc => ?_)
    · have hM := ite_t hc hM
      refine J.iload_n (pc := 76) C dX6_midwife_76 rfl rfl ?_
      exact hret dX6_midwife_77 hM rfl
    · have hM := ite_f hc hM
      refine J.aload_n (pc := 39) C dX6_midwife_39 rfl rfl ?_
      refine gf_X6_0_4 (pc := 40) C tf_X6_32 dX6_midwife_40 ?_
      refine gf_X5_26_7 (pc := 43) C tf_X6_169 dX6_midwife_43 ?_
      refine J.iload (pc := 46) C dX6_midwife_46 rfl ?_
      refine J.callS2i (pc := 48) C (K_X4_at (ia_34 q cI) _ _) lk_X4_at tm_X6_91 ⟨Nat.le_of_ble_eq_true rfl, Nat.le_of_ble_eq_true rfl⟩ (Nat.le_of_ble_eq_true rfl) dX6_midwife_48 ?_
      refine J.iload_n (pc := 51) C dX6_midwife_51 rfl rfl ?_
      refine J.isub (pc := 52) C dX6_midwife_52 ?_
      refine J.mabs (pc := 53) C tm_X6_211 (Nat.le_of_ble_eq_true rfl) (Nat.le_of_ble_eq_true rfl) dX6_midwife_53 ?_
      obtain ⟨_, ea, hM⟩ := lt_ex hM
      refine J.istoreV (pc := 56) C dX6_midwife_56 (by decide) ea ?_
      refine J.iload (pc := 58) C dX6_midwife_58 rfl ?_
      refine J.iload_n (pc := 60) C dX6_midwife_60 rfl rfl ?_
      refine J.icmp_le (pc := 61) C 70 dX6_midwife_61 (by decide) (fun hc => ?_) (fun hc => ?_)
      · have hM := ite_t hc hM
        refine J.iinc (pc := 70) C 1 dX6_midwife_70 ic_1 rfl (by decide) ?_
        refine J.goto (pc := 73) C 32 dX6_midwife_73 (by decide) ?_
        refine J.sub C [0, 1, 2, 3, 4] rfl ?_
        exact hkb32 _ _ _ _ _ hM
      · have hM := ite_f hc hM
        refine J.iload (pc := 64) C dX6_midwife_64 rfl ?_
        refine J.istore_n (pc := 66) C dX6_midwife_66 rfl (by decide) ?_
        refine J.iload (pc := 67) C dX6_midwife_67 rfl ?_
        refine J.istore_n (pc := 69) C dX6_midwife_69 rfl (by decide) ?_
        refine J.iinc (pc := 70) C 1 dX6_midwife_70 ic_1 rfl (by decide) ?_
        refine J.goto (pc := 73) C 32 dX6_midwife_73 (by decide) ?_
        refine J.sub C [0, 1, 2, 3, 4] rfl ?_
        exact hkb32 _ _ _ _ _ hM
  have jl32 : ∀ (x1 x2 x3 x4 : Int32) (g : Sg), lup4 (B_X6_midwife_32) FU x1 x2 x3 x4 g = some r → J p l e (RM 6 140) s m args below meth c D (cW q cI) A 6 Q g 32 [(0, .ref (q 0)), (1, .int x1), (2, .int x2), (3, .int x3), (4, .int x4)] [] := 
    lup4_ok (P := fun x1 x2 x3 x4 g => J p l e (RM 6 140) s m args below meth c D (cW q cI) A 6 Q g 32 [(0, .ref (q 0)), (1, .int x1), (2, .int x2), (3, .int x3), (4, .int x4)] []) (fun self hself => jb32 self hself) FU
  have hM := h
  unfold M_X6_midwife at hM
  refine J.iload_n (pc := 0) C dX6_midwife_0 rfl rfl ?_
  refine J.callS1i (pc := 1) C (K_X6_isCell _ _) lk_X6_isCell tm_X6_195 ⟨Nat.le_of_ble_eq_true rfl, Nat.le_of_ble_eq_true rfl⟩ (Nat.le_of_ble_eq_true rfl) dX6_midwife_1 ?_
  refine J.if_ne (pc := 4) C 13 dX6_midwife_4 (by decide) (fun hc => ?_) (fun hc => ?_)
  · have hM := ite_f hc hM
    refine J.aload_n (pc := 13) C dX6_midwife_13 rfl rfl ?_
    refine gf_X6_0_4 (pc := 14) C tf_X6_32 dX6_midwife_14 ?_
    refine J.aload_n (pc := 17) C dX6_midwife_17 rfl rfl ?_
    refine gf_X6_0_0 (pc := 18) C tf_X6_10 dX6_midwife_18 ?_
    obtain ⟨_, _, h1, hM⟩ := bI_ex hM
    refine J.callV1i (pc := 21) C (C_X5_byHours al_3 h1) lk_X5_byHours tm_X6_126 (io_26 q cI) ⟨Nat.le_of_ble_eq_true rfl, Nat.le_of_ble_eq_true rfl⟩ (Nat.le_of_ble_eq_true rfl) dX6_midwife_21 ?_
    refine J.pop (pc := 24) C dX6_midwife_24 rfl ?_
    refine J.iconst (pc := 25) C (-1) dX6_midwife_25 ic_m1 ?_
    refine J.istore_n (pc := 26) C dX6_midwife_26 rfl (by decide) ?_
    refine J.iconst (pc := 27) C 0 dX6_midwife_27 ic_0 ?_
    refine J.istore_n (pc := 28) C dX6_midwife_28 rfl (by decide) ?_
    refine J.iconst (pc := 29) C 0 dX6_midwife_29 ic_0 ?_
    refine J.istore (pc := 30) C dX6_midwife_30 (by decide) ?_
    refine J.sub C [0, 1, 2, 3, 4] rfl ?_
    exact jl32 _ _ _ _ _ hM
  · have hM := ite_t hc hM
    refine J.aload_n (pc := 7) C dX6_midwife_7 rfl rfl ?_
    refine J.iconst (pc := 8) C (-1) dX6_midwife_8 ic_m1 ?_
    obtain ⟨_, _, h1, hM⟩ := bI_ex hM
    refine J.callV1i (pc := 9) C (C_X6_refuse h1) lk_X6_refuse tm_X6_65 (io_0 q cI) ⟨Nat.le_of_ble_eq_true rfl, Nat.le_of_ble_eq_true rfl⟩ (Nat.le_of_ble_eq_true rfl) dX6_midwife_9 ?_
    exact hret dX6_midwife_12 hM rfl
def B_X6_watch_16 (kb16 : Int32 → Int32 → Sg → Option (Int32 × Sg)) (x1 x2 : Int32) (g : Sg) : Option (Int32 × Sg) := (if 12 ≤ x2 then some (x1, g) else bI (M_X0_anybodyWithin 3 3 (rat g 34 12 x2) g) (fun r_3 g_4 => (if r_3 = 0 then kb16 (x1 ||| (1 <<< (x2 &&& 31))) (x2 + 1) g_4 else kb16 x1 (x2 + 1) g_4)))
def M_X6_watch (g : Sg) : Option (Int32 × Sg) := bI (M_X5_byHours 3 g) (fun r_1 g_2 => lup2 (B_X6_watch_16 ) FU 0 0 g_2)
set_option maxRecDepth 100000 in
set_option maxHeartbeats 4000000 in
theorem C_X6_watch {l : Launch} {D : va_G} {q : Nat → Nat} {cI : ClassId} {z : Nat} {g : Sg} {r : Int32 × Sg} (h : M_X6_watch g = some r) : CTi l (EC z) D cI (cW q cI) yX6_watch cX6_watch 3 (some .int) 6 140 [.ref (q 0)] g r := by
  refine CTi.of2 (by decide) (EC_ok z) (Nat.le_of_ble_eq_true rfl) rfl (fun p e s m args below meth c A Q C hret => ?_)
  have jb16 : ∀ (kb16 : Int32 → Int32 → Sg → Option (Int32 × Sg)) (hkb16 : ∀ (x1 x2 : Int32) (g : Sg), kb16 x1 x2 g = some r → J p l e (RM 6 140) s m args below meth c D (cW q cI) A 3 Q g 16 [(0, .ref (q 0)), (1, .int x1), (2, .int x2)] []) (x1 x2 : Int32) (g : Sg), B_X6_watch_16 kb16 x1 x2 g = some r → J p l e (RM 6 140) s m args below meth c D (cW q cI) A 3 Q g 16 [(0, .ref (q 0)), (1, .int x1), (2, .int x2)] [] := by
    intro kb16 hkb16 x1 x2 g hM
    unfold B_X6_watch_16 at hM
    refine J.iload_n (pc := 16) C dX6_watch_16 rfl rfl ?_
    refine J.bipush (pc := 17) C 12 dX6_watch_17 bp_12 ?_
    refine J.icmp_ge (pc := 19) C 56 dX6_watch_19 (by decide) (fun hc => ?_) (fun hc => ?_)
    · have hM := ite_t hc hM
      refine J.iload_n (pc := 56) C dX6_watch_56 rfl rfl ?_
      exact hret dX6_watch_57 hM rfl
    · have hM := ite_f hc hM
      refine J.aload_n (pc := 22) C dX6_watch_22 rfl rfl ?_
      refine gf_X6_0_0 (pc := 23) C tf_X6_10 dX6_watch_23 ?_
      refine J.iconst (pc := 26) C 3 dX6_watch_26 ic_3 ?_
      refine J.aload_n (pc := 27) C dX6_watch_27 rfl rfl ?_
      refine gf_X6_0_4 (pc := 28) C tf_X6_32 dX6_watch_28 ?_
      refine gf_X5_26_7 (pc := 31) C tf_X6_169 dX6_watch_31 ?_
      refine J.iload_n (pc := 34) C dX6_watch_34 rfl rfl ?_
      refine J.callS2i (pc := 35) C (K_X4_at (ia_34 q cI) _ _) lk_X4_at tm_X6_91 ⟨Nat.le_of_ble_eq_true rfl, Nat.le_of_ble_eq_true rfl⟩ (Nat.le_of_ble_eq_true rfl) dX6_watch_35 ?_
      obtain ⟨_, _, h1, hM⟩ := bI_ex hM
      refine J.callV2i (pc := 38) C (C_X0_anybodyWithin al_3 h1) lk_X0_anybodyWithin tm_X6_216 (io_3 q cI) ⟨Nat.le_of_ble_eq_true rfl, Nat.le_of_ble_eq_true rfl⟩ (Nat.le_of_ble_eq_true rfl) dX6_watch_38 ?_
      refine J.if_ne (pc := 41) C 50 dX6_watch_41 (by decide) (fun hc => ?_) (fun hc => ?_)
      · have hM := ite_f hc hM
        refine J.iinc (pc := 50) C 1 dX6_watch_50 ic_1 rfl (by decide) ?_
        refine J.goto (pc := 53) C 16 dX6_watch_53 (by decide) ?_
        refine J.sub C [0, 1, 2] rfl ?_
        exact hkb16 _ _ _ hM
      · have hM := ite_t hc hM
        refine J.iload_n (pc := 44) C dX6_watch_44 rfl rfl ?_
        refine J.iconst (pc := 45) C 1 dX6_watch_45 ic_1 ?_
        refine J.iload_n (pc := 46) C dX6_watch_46 rfl rfl ?_
        refine J.ishl (pc := 47) C dX6_watch_47 ?_
        refine J.ior (pc := 48) C dX6_watch_48 ?_
        refine J.istore_n (pc := 49) C dX6_watch_49 rfl (by decide) ?_
        refine J.iinc (pc := 50) C 1 dX6_watch_50 ic_1 rfl (by decide) ?_
        refine J.goto (pc := 53) C 16 dX6_watch_53 (by decide) ?_
        refine J.sub C [0, 1, 2] rfl ?_
        exact hkb16 _ _ _ hM
  have jl16 : ∀ (x1 x2 : Int32) (g : Sg), lup2 (B_X6_watch_16) FU x1 x2 g = some r → J p l e (RM 6 140) s m args below meth c D (cW q cI) A 3 Q g 16 [(0, .ref (q 0)), (1, .int x1), (2, .int x2)] [] := 
    lup2_ok (P := fun x1 x2 g => J p l e (RM 6 140) s m args below meth c D (cW q cI) A 3 Q g 16 [(0, .ref (q 0)), (1, .int x1), (2, .int x2)] []) (fun self hself => jb16 self hself) FU
  have hM := h
  unfold M_X6_watch at hM
  refine J.aload_n (pc := 0) C dX6_watch_0 rfl rfl ?_
  refine gf_X6_0_4 (pc := 1) C tf_X6_32 dX6_watch_1 ?_
  refine J.aload_n (pc := 4) C dX6_watch_4 rfl rfl ?_
  refine gf_X6_0_0 (pc := 5) C tf_X6_10 dX6_watch_5 ?_
  obtain ⟨_, _, h1, hM⟩ := bI_ex hM
  refine J.callV1i (pc := 8) C (C_X5_byHours al_3 h1) lk_X5_byHours tm_X6_126 (io_26 q cI) ⟨Nat.le_of_ble_eq_true rfl, Nat.le_of_ble_eq_true rfl⟩ (Nat.le_of_ble_eq_true rfl) dX6_watch_8 ?_
  refine J.pop (pc := 11) C dX6_watch_11 rfl ?_
  refine J.iconst (pc := 12) C 0 dX6_watch_12 ic_0 ?_
  refine J.istore_n (pc := 13) C dX6_watch_13 rfl (by decide) ?_
  refine J.iconst (pc := 14) C 0 dX6_watch_14 ic_0 ?_
  refine J.istore_n (pc := 15) C dX6_watch_15 rfl (by decide) ?_
  refine J.sub C [0, 1, 2] rfl ?_
  exact jl16 _ _ _ hM
def M_X6_whoHad (x1 x2 : Int32) (g : Sg) : Option (Int32 × Sg) := (if (V_X0_knows 3 x1 g) = 0 then bI (M_X6_refuse (-1) g) (fun r_9 g_10 => some (r_9, g_10)) else (if x2 = 0 then lt (U_X0_becomeLike 17 3 g) (fun g_6 => bI (M_X6_valuesThatFitTheRow 19 7 x1 6 g_6) (fun r_7 g_8 => some (r_7, g_8))) else if x2 = 1 then lt (U_X0_becomeLike 17 3 g) (fun g_3 => bI (M_X6_valuesThatFitTheRow 20 7 x1 10 g_3) (fun r_4 g_5 => some (r_4, g_5))) else bI (M_X6_refuse (-2) g) (fun r_1 g_2 => some (r_1, g_2))))
set_option maxRecDepth 100000 in
set_option maxHeartbeats 4000000 in
theorem C_X6_whoHad {l : Launch} {D : va_G} {q : Nat → Nat} {cI : ClassId} {z : Nat} {x1 x2 : Int32} {g : Sg} {r : Int32 × Sg} (h : M_X6_whoHad x1 x2 g = some r) : CTi l (EC z) D cI (cW q cI) yX6_whoHad cX6_whoHad 3 (some .int) 7 165 [.ref (q 0), .int x1, .int x2] g r := by
  refine CTi.of2 (by decide) (EC_ok z) (Nat.le_of_ble_eq_true rfl) rfl (fun p e s m args below meth c A Q C hret => ?_)
  have hM := h
  unfold M_X6_whoHad at hM
  refine J.aload_n (pc := 0) C dX6_whoHad_0 rfl rfl ?_
  refine gf_X6_0_0 (pc := 1) C tf_X6_10 dX6_whoHad_1 ?_
  refine J.iload_n (pc := 4) C dX6_whoHad_4 rfl rfl ?_
  refine J.callV1i (pc := 5) C (K_X0_knows al_3 _ _) lk_X0_knows tm_X6_84 (io_3 q cI) ⟨Nat.le_of_ble_eq_true rfl, Nat.le_of_ble_eq_true rfl⟩ (Nat.le_of_ble_eq_true rfl) dX6_whoHad_5 ?_
  refine J.if_ne (pc := 8) C 17 dX6_whoHad_8 (by decide) (fun hc => ?_) (fun hc => ?_)
  · have hM := ite_f hc hM
    refine J.iload_n (pc := 17) C dX6_whoHad_17 rfl rfl ?_
    refine J.case (pc := 18) C 0 (fun hs0 => ?_) (fun hs0 => ?_)
    · have hM := ite_t hs0 hM
      refine J.look (pc := 18) (off := 26) C 44 dX6_whoHad_18 rfl (by rw [hs0]; first | done | rfl) (by decide) ?_
      refine J.aload_n (pc := 44) C dX6_whoHad_44 rfl rfl ?_
      refine gf_X6_0_2 (pc := 45) C tf_X6_19 dX6_whoHad_45 ?_
      refine J.aload_n (pc := 48) C dX6_whoHad_48 rfl rfl ?_
      refine gf_X6_0_0 (pc := 49) C tf_X6_10 dX6_whoHad_49 ?_
      refine J.callV1v (pc := 52) C (K_X0_becomeLike al_17 al_3 _) lk_X0_becomeLike tm_X6_76 (io_17 q cI) ⟨Nat.le_of_ble_eq_true rfl, Nat.le_of_ble_eq_true rfl⟩ (Nat.le_of_ble_eq_true rfl) dX6_whoHad_52 ?_
      obtain ⟨_, ea, hM⟩ := lt_ex hM
      refine J.cong C ea ?_
      refine J.aload_n (pc := 55) C dX6_whoHad_55 rfl rfl ?_
      refine J.aload_n (pc := 56) C dX6_whoHad_56 rfl rfl ?_
      refine gf_X6_0_2 (pc := 57) C tf_X6_19 dX6_whoHad_57 ?_
      refine gf_X0_1 (pc := 60) al_17 C tf_X6_88 dX6_whoHad_60 ?_
      refine J.iload_n (pc := 63) C dX6_whoHad_63 rfl rfl ?_
      refine J.bipush (pc := 64) C 6 dX6_whoHad_64 bp_6 ?_
      obtain ⟨_, _, h1, hM⟩ := bI_ex hM
      refine J.callV3i (pc := 66) C (C_X6_valuesThatFitTheRow (ia_19 q cI) h1) lk_X6_valuesThatFitTheRow tm_X6_219 (io_0 q cI) ⟨Nat.le_of_ble_eq_true rfl, Nat.le_of_ble_eq_true rfl⟩ (Nat.le_of_ble_eq_true rfl) dX6_whoHad_66 ?_
      exact hret dX6_whoHad_69 hM rfl
    · have hM := ite_f hs0 hM
      refine J.case (pc := 18) C 1 (fun hs1 => ?_) (fun hs1 => ?_)
      · have hM := ite_t hs1 hM
        refine J.look (pc := 18) (off := 52) C 70 dX6_whoHad_18 rfl (by rw [hs1]; first | done | rfl) (by decide) ?_
        refine J.aload_n (pc := 70) C dX6_whoHad_70 rfl rfl ?_
        refine gf_X6_0_2 (pc := 71) C tf_X6_19 dX6_whoHad_71 ?_
        refine J.aload_n (pc := 74) C dX6_whoHad_74 rfl rfl ?_
        refine gf_X6_0_0 (pc := 75) C tf_X6_10 dX6_whoHad_75 ?_
        refine J.callV1v (pc := 78) C (K_X0_becomeLike al_17 al_3 _) lk_X0_becomeLike tm_X6_76 (io_17 q cI) ⟨Nat.le_of_ble_eq_true rfl, Nat.le_of_ble_eq_true rfl⟩ (Nat.le_of_ble_eq_true rfl) dX6_whoHad_78 ?_
        obtain ⟨_, ea, hM⟩ := lt_ex hM
        refine J.cong C ea ?_
        refine J.aload_n (pc := 81) C dX6_whoHad_81 rfl rfl ?_
        refine J.aload_n (pc := 82) C dX6_whoHad_82 rfl rfl ?_
        refine gf_X6_0_2 (pc := 83) C tf_X6_19 dX6_whoHad_83 ?_
        refine gf_X0_2 (pc := 86) al_17 C tf_X6_97 dX6_whoHad_86 ?_
        refine J.iload_n (pc := 89) C dX6_whoHad_89 rfl rfl ?_
        refine J.bipush (pc := 90) C 10 dX6_whoHad_90 bp_10 ?_
        obtain ⟨_, _, h1, hM⟩ := bI_ex hM
        refine J.callV3i (pc := 92) C (C_X6_valuesThatFitTheRow (ia_20 q cI) h1) lk_X6_valuesThatFitTheRow tm_X6_219 (io_0 q cI) ⟨Nat.le_of_ble_eq_true rfl, Nat.le_of_ble_eq_true rfl⟩ (Nat.le_of_ble_eq_true rfl) dX6_whoHad_92 ?_
        exact hret dX6_whoHad_95 hM rfl
      · have hM := ite_f hs1 hM
        refine J.look (pc := 18) (off := 78) C 96 dX6_whoHad_18 rfl (by have c0 := i_ne 0 rfl hs0; have c1 := i_ne 1 rfl hs1; exact (if_neg (Ne.symm c0)).trans ((if_neg (Ne.symm c1)).trans (rfl))) (by decide) ?_
        refine J.aload_n (pc := 96) C dX6_whoHad_96 rfl rfl ?_
        refine J.bipush (pc := 97) C (-2) dX6_whoHad_97 bp_m2 ?_
        obtain ⟨_, _, h1, hM⟩ := bI_ex hM
        refine J.callV1i (pc := 99) C (C_X6_refuse h1) lk_X6_refuse tm_X6_65 (io_0 q cI) ⟨Nat.le_of_ble_eq_true rfl, Nat.le_of_ble_eq_true rfl⟩ (Nat.le_of_ble_eq_true rfl) dX6_whoHad_99 ?_
        exact hret dX6_whoHad_102 hM rfl
  · have hM := ite_t hc hM
    refine J.aload_n (pc := 11) C dX6_whoHad_11 rfl rfl ?_
    refine J.iconst (pc := 12) C (-1) dX6_whoHad_12 ic_m1 ?_
    obtain ⟨_, _, h1, hM⟩ := bI_ex hM
    refine J.callV1i (pc := 13) C (C_X6_refuse h1) lk_X6_refuse tm_X6_65 (io_0 q cI) ⟨Nat.le_of_ble_eq_true rfl, Nat.le_of_ble_eq_true rfl⟩ (Nat.le_of_ble_eq_true rfl) dX6_whoHad_13 ?_
    exact hret dX6_whoHad_16 hM rfl
def B_X6_leastOil_37 (kb37 : Int32 → Int32 → Sg → Option (Int32 × Sg)) (x1 x2 : Int32) (g : Sg) : Option (Int32 × Sg) := (if 200 ≤ x2 then some (200, g) else bI (M_X0_settle 17 1 x2 g) (fun r_6 g_7 => bI (M_X5_byHours 17 g_7) (fun r_8 g_9 => (if r_8 = x1 then some (x2, g_9) else kb37 x1 (x2 + 1) g_9))))
def M_X6_leastOil (g : Sg) : Option (Int32 × Sg) := lt (U_X0_becomeLike 17 3 g) (fun g_1 => bI (M_X0_settle 17 1 200 g_1) (fun r_2 g_3 => bI (M_X5_byHours 17 g_3) (fun r_4 g_5 => lup2 (B_X6_leastOil_37 ) FU r_4 0 g_5)))
set_option maxRecDepth 100000 in
set_option maxHeartbeats 4000000 in
theorem C_X6_leastOil {l : Launch} {D : va_G} {q : Nat → Nat} {cI : ClassId} {z : Nat} {g : Sg} {r : Int32 × Sg} (h : M_X6_leastOil g = some r) : CTi l (EC z) D cI (cW q cI) yX6_leastOil cX6_leastOil 3 (some .int) 6 140 [.ref (q 0)] g r := by
  refine CTi.of2 (by decide) (EC_ok z) (Nat.le_of_ble_eq_true rfl) rfl (fun p e s m args below meth c A Q C hret => ?_)
  have jb37 : ∀ (kb37 : Int32 → Int32 → Sg → Option (Int32 × Sg)) (hkb37 : ∀ (x1 x2 : Int32) (g : Sg), kb37 x1 x2 g = some r → J p l e (RM 6 140) s m args below meth c D (cW q cI) A 3 Q g 37 [(0, .ref (q 0)), (1, .int x1), (2, .int x2)] []) (x1 x2 : Int32) (g : Sg), B_X6_leastOil_37 kb37 x1 x2 g = some r → J p l e (RM 6 140) s m args below meth c D (cW q cI) A 3 Q g 37 [(0, .ref (q 0)), (1, .int x1), (2, .int x2)] [] := by
    intro kb37 hkb37 x1 x2 g hM
    unfold B_X6_leastOil_37 at hM
    refine J.iload_n (pc := 37) C dX6_leastOil_37 rfl rfl ?_
    refine J.sipush (pc := 38) C 200 dX6_leastOil_38 sp_200 ?_
    refine J.icmp_ge (pc := 41) C 77 dX6_leastOil_41 (by decide) (fun hc => ?_) (fun hc => ?_)
    · have hM := ite_t hc hM
      refine J.sipush (pc := 77) C 200 dX6_leastOil_77 sp_200 ?_
      exact hret dX6_leastOil_80 hM rfl
    · have hM := ite_f hc hM
      refine J.aload_n (pc := 44) C dX6_leastOil_44 rfl rfl ?_
      refine gf_X6_0_2 (pc := 45) C tf_X6_19 dX6_leastOil_45 ?_
      refine J.iconst (pc := 48) C 1 dX6_leastOil_48 ic_1 ?_
      refine J.iload_n (pc := 49) C dX6_leastOil_49 rfl rfl ?_
      obtain ⟨_, _, h1, hM⟩ := bI_ex hM
      refine J.callV2i (pc := 50) C (C_X0_settle al_17 h1) lk_X0_settle tm_X6_122 (io_17 q cI) ⟨Nat.le_of_ble_eq_true rfl, Nat.le_of_ble_eq_true rfl⟩ (Nat.le_of_ble_eq_true rfl) dX6_leastOil_50 ?_
      refine J.pop (pc := 53) C dX6_leastOil_53 rfl ?_
      refine J.aload_n (pc := 54) C dX6_leastOil_54 rfl rfl ?_
      refine gf_X6_0_4 (pc := 55) C tf_X6_32 dX6_leastOil_55 ?_
      refine J.aload_n (pc := 58) C dX6_leastOil_58 rfl rfl ?_
      refine gf_X6_0_2 (pc := 59) C tf_X6_19 dX6_leastOil_59 ?_
      obtain ⟨_, _, h1, hM⟩ := bI_ex hM
      refine J.callV1i (pc := 62) C (C_X5_byHours al_17 h1) lk_X5_byHours tm_X6_126 (io_26 q cI) ⟨Nat.le_of_ble_eq_true rfl, Nat.le_of_ble_eq_true rfl⟩ (Nat.le_of_ble_eq_true rfl) dX6_leastOil_62 ?_
      refine J.iload_n (pc := 65) C dX6_leastOil_65 rfl rfl ?_
      refine J.icmp_ne (pc := 66) C 71 dX6_leastOil_66 (by decide) (fun hc => ?_) (fun hc => ?_)
      · have hM := ite_f hc hM
        refine J.iinc (pc := 71) C 1 dX6_leastOil_71 ic_1 rfl (by decide) ?_
        refine J.goto (pc := 74) C 37 dX6_leastOil_74 (by decide) ?_
        refine J.sub C [0, 1, 2] rfl ?_
        exact hkb37 _ _ _ hM
      · have hM := ite_t hc hM
        refine J.iload_n (pc := 69) C dX6_leastOil_69 rfl rfl ?_
        exact hret dX6_leastOil_70 hM rfl
  have jl37 : ∀ (x1 x2 : Int32) (g : Sg), lup2 (B_X6_leastOil_37) FU x1 x2 g = some r → J p l e (RM 6 140) s m args below meth c D (cW q cI) A 3 Q g 37 [(0, .ref (q 0)), (1, .int x1), (2, .int x2)] [] := 
    lup2_ok (P := fun x1 x2 g => J p l e (RM 6 140) s m args below meth c D (cW q cI) A 3 Q g 37 [(0, .ref (q 0)), (1, .int x1), (2, .int x2)] []) (fun self hself => jb37 self hself) FU
  have hM := h
  unfold M_X6_leastOil at hM
  refine J.aload_n (pc := 0) C dX6_leastOil_0 rfl rfl ?_
  refine gf_X6_0_2 (pc := 1) C tf_X6_19 dX6_leastOil_1 ?_
  refine J.aload_n (pc := 4) C dX6_leastOil_4 rfl rfl ?_
  refine gf_X6_0_0 (pc := 5) C tf_X6_10 dX6_leastOil_5 ?_
  refine J.callV1v (pc := 8) C (K_X0_becomeLike al_17 al_3 _) lk_X0_becomeLike tm_X6_76 (io_17 q cI) ⟨Nat.le_of_ble_eq_true rfl, Nat.le_of_ble_eq_true rfl⟩ (Nat.le_of_ble_eq_true rfl) dX6_leastOil_8 ?_
  obtain ⟨_, ea, hM⟩ := lt_ex hM
  refine J.cong C ea ?_
  refine J.aload_n (pc := 11) C dX6_leastOil_11 rfl rfl ?_
  refine gf_X6_0_2 (pc := 12) C tf_X6_19 dX6_leastOil_12 ?_
  refine J.iconst (pc := 15) C 1 dX6_leastOil_15 ic_1 ?_
  refine J.sipush (pc := 16) C 200 dX6_leastOil_16 sp_200 ?_
  obtain ⟨_, _, h1, hM⟩ := bI_ex hM
  refine J.callV2i (pc := 19) C (C_X0_settle al_17 h1) lk_X0_settle tm_X6_122 (io_17 q cI) ⟨Nat.le_of_ble_eq_true rfl, Nat.le_of_ble_eq_true rfl⟩ (Nat.le_of_ble_eq_true rfl) dX6_leastOil_19 ?_
  refine J.pop (pc := 22) C dX6_leastOil_22 rfl ?_
  refine J.aload_n (pc := 23) C dX6_leastOil_23 rfl rfl ?_
  refine gf_X6_0_4 (pc := 24) C tf_X6_32 dX6_leastOil_24 ?_
  refine J.aload_n (pc := 27) C dX6_leastOil_27 rfl rfl ?_
  refine gf_X6_0_2 (pc := 28) C tf_X6_19 dX6_leastOil_28 ?_
  obtain ⟨_, _, h1, hM⟩ := bI_ex hM
  refine J.callV1i (pc := 31) C (C_X5_byHours al_17 h1) lk_X5_byHours tm_X6_126 (io_26 q cI) ⟨Nat.le_of_ble_eq_true rfl, Nat.le_of_ble_eq_true rfl⟩ (Nat.le_of_ble_eq_true rfl) dX6_leastOil_31 ?_
  refine J.istore_n (pc := 34) C dX6_leastOil_34 rfl (by decide) ?_
  refine J.iconst (pc := 35) C 0 dX6_leastOil_35 ic_0 ?_
  refine J.istore_n (pc := 36) C dX6_leastOil_36 rfl (by decide) ?_
  refine J.sub C [0, 1, 2] rfl ?_
  exact jl37 _ _ _ hM
def M_X6_row (x1 : Int32) (g : Sg) : Option (Int32 × Sg) := (if 0 ≤ x1 then (if 99 < x1 then bI (M_X6_refuse (-6) g) (fun r_1 g_2 => some (r_1, g_2)) else (if (g.1 0) < 12 then lt (rput g 1 12 (g.1 0) x1) (fun g_3 => lt (sI g_3 0 ((g_3.1 0) + 1)) (fun g_4 => some (g_4.1 0, g_4))) else bI (M_X6_refuse (-6) g) (fun r_5 g_6 => some (r_5, g_6)))) else bI (M_X6_refuse (-4) g) (fun r_7 g_8 => some (r_7, g_8)))
set_option maxRecDepth 100000 in
set_option maxHeartbeats 4000000 in
theorem C_X6_row {l : Launch} {D : va_G} {q : Nat → Nat} {cI : ClassId} {z : Nat} {x1 : Int32} {g : Sg} {r : Int32 × Sg} (h : M_X6_row x1 g = some r) : CTi l (EC z) D cI (cW q cI) yX6_row cX6_row 2 (some .int) 2 43 [.ref (q 0), .int x1] g r := by
  refine CTi.of2 (by decide) (EC_ok z) (Nat.le_of_ble_eq_true rfl) rfl (fun p e s m args below meth c A Q C hret => ?_)
  have hM := h
  unfold M_X6_row at hM
  refine J.iload_n (pc := 0) C dX6_row_0 rfl rfl ?_
  refine J.if_ge (pc := 1) C 11 dX6_row_1 (by decide) (fun hc => ?_) (fun hc => ?_)
  · have hM := ite_t hc hM
    refine J.iload_n (pc := 11) C dX6_row_11 rfl rfl ?_
    refine J.bipush (pc := 12) C 99 dX6_row_12 bp_99 ?_
    refine J.icmp_gt (pc := 14) C 26 dX6_row_14 (by decide) (fun hc => ?_) (fun hc => ?_)
    · have hM := ite_t hc hM
      refine J.aload_n (pc := 26) C dX6_row_26 rfl rfl ?_
      refine J.bipush (pc := 27) C (-6) dX6_row_27 bp_m6 ?_
      obtain ⟨_, _, h1, hM⟩ := bI_ex hM
      refine J.callV1i (pc := 29) C (C_X6_refuse h1) lk_X6_refuse tm_X6_65 (io_0 q cI) ⟨Nat.le_of_ble_eq_true rfl, Nat.le_of_ble_eq_true rfl⟩ (Nat.le_of_ble_eq_true rfl) dX6_row_29 ?_
      exact hret dX6_row_32 hM rfl
    · have hM := ite_f hc hM
      refine J.aload_n (pc := 17) C dX6_row_17 rfl rfl ?_
      refine gf_X6_0_8 (pc := 18) C tf_X6_57 dX6_row_18 ?_
      refine J.bipush (pc := 21) C 12 dX6_row_21 bp_12 ?_
      refine J.icmp_lt (pc := 23) C 33 dX6_row_23 (by decide) (fun hc => ?_) (fun hc => ?_)
      · have hM := ite_t hc hM
        refine J.aload_n (pc := 33) C dX6_row_33 rfl rfl ?_
        refine gf_X6_0_7 (pc := 34) C tf_X6_50 dX6_row_34 ?_
        refine J.aload_n (pc := 37) C dX6_row_37 rfl rfl ?_
        refine gf_X6_0_8 (pc := 38) C tf_X6_57 dX6_row_38 ?_
        refine J.iload_n (pc := 41) C dX6_row_41 rfl rfl ?_
        refine J.callS3v (pc := 42) C (K_X4_put (ia_1 q cI) _ _ _) lk_X4_put tm_X6_115 ⟨Nat.le_of_ble_eq_true rfl, Nat.le_of_ble_eq_true rfl⟩ (Nat.le_of_ble_eq_true rfl) dX6_row_42 ?_
        obtain ⟨_, ea, hM⟩ := lt_ex hM
        refine J.cong C ea ?_
        refine J.aload_n (pc := 45) C dX6_row_45 rfl rfl ?_
        refine J.dup (pc := 46) C dX6_row_46 rfl ?_
        refine gf_X6_0_8 (pc := 47) C tf_X6_57 dX6_row_47 ?_
        refine J.iconst (pc := 50) C 1 dX6_row_50 ic_1 ?_
        refine J.iadd (pc := 51) C dX6_row_51 ?_
        refine pf_X6_0_8 (pc := 52) C tf_X6_57 dX6_row_52 ?_
        obtain ⟨_, ea, hM⟩ := lt_ex hM
        refine J.cong C ea ?_
        refine J.aload_n (pc := 55) C dX6_row_55 rfl rfl ?_
        refine gf_X6_0_8 (pc := 56) C tf_X6_57 dX6_row_56 ?_
        exact hret dX6_row_59 hM rfl
      · have hM := ite_f hc hM
        refine J.aload_n (pc := 26) C dX6_row_26 rfl rfl ?_
        refine J.bipush (pc := 27) C (-6) dX6_row_27 bp_m6 ?_
        obtain ⟨_, _, h1, hM⟩ := bI_ex hM
        refine J.callV1i (pc := 29) C (C_X6_refuse h1) lk_X6_refuse tm_X6_65 (io_0 q cI) ⟨Nat.le_of_ble_eq_true rfl, Nat.le_of_ble_eq_true rfl⟩ (Nat.le_of_ble_eq_true rfl) dX6_row_29 ?_
        exact hret dX6_row_32 hM rfl
  · have hM := ite_f hc hM
    refine J.aload_n (pc := 4) C dX6_row_4 rfl rfl ?_
    refine J.bipush (pc := 5) C (-4) dX6_row_5 bp_m4 ?_
    obtain ⟨_, _, h1, hM⟩ := bI_ex hM
    refine J.callV1i (pc := 7) C (C_X6_refuse h1) lk_X6_refuse tm_X6_65 (io_0 q cI) ⟨Nat.le_of_ble_eq_true rfl, Nat.le_of_ble_eq_true rfl⟩ (Nat.le_of_ble_eq_true rfl) dX6_row_7 ?_
    exact hret dX6_row_10 hM rfl
def M_X6_judge (g : Sg) : Option (Int32 × Sg) := bI (M_X5_byHours 3 g) (fun r_1 g_2 => bI (M_X6_firstNotSo g_2) (fun r_3 g_4 => lt (sI g_4 0 0) (fun g_5 => some (r_3, g_5))))
set_option maxRecDepth 100000 in
set_option maxHeartbeats 4000000 in
theorem C_X6_judge {l : Launch} {D : va_G} {q : Nat → Nat} {cI : ClassId} {z : Nat} {g : Sg} {r : Int32 × Sg} (h : M_X6_judge g = some r) : CTi l (EC z) D cI (cW q cI) yX6_judge cX6_judge 2 (some .int) 6 140 [.ref (q 0)] g r := by
  refine CTi.of2 (by decide) (EC_ok z) (Nat.le_of_ble_eq_true rfl) rfl (fun p e s m args below meth c A Q C hret => ?_)
  have hM := h
  unfold M_X6_judge at hM
  refine J.aload_n (pc := 0) C dX6_judge_0 rfl rfl ?_
  refine gf_X6_0_4 (pc := 1) C tf_X6_32 dX6_judge_1 ?_
  refine J.aload_n (pc := 4) C dX6_judge_4 rfl rfl ?_
  refine gf_X6_0_0 (pc := 5) C tf_X6_10 dX6_judge_5 ?_
  obtain ⟨_, _, h1, hM⟩ := bI_ex hM
  refine J.callV1i (pc := 8) C (C_X5_byHours al_3 h1) lk_X5_byHours tm_X6_126 (io_26 q cI) ⟨Nat.le_of_ble_eq_true rfl, Nat.le_of_ble_eq_true rfl⟩ (Nat.le_of_ble_eq_true rfl) dX6_judge_8 ?_
  refine J.pop (pc := 11) C dX6_judge_11 rfl ?_
  refine J.aload_n (pc := 12) C dX6_judge_12 rfl rfl ?_
  obtain ⟨_, _, h1, hM⟩ := bI_ex hM
  refine J.callV0i (pc := 13) C (C_X6_firstNotSo h1) lk_X6_firstNotSo tm_X6_223 (io_0 q cI) ⟨Nat.le_of_ble_eq_true rfl, Nat.le_of_ble_eq_true rfl⟩ (Nat.le_of_ble_eq_true rfl) dX6_judge_13 ?_
  refine J.istore_n (pc := 16) C dX6_judge_16 rfl (by decide) ?_
  refine J.aload_n (pc := 17) C dX6_judge_17 rfl rfl ?_
  refine J.iconst (pc := 18) C 0 dX6_judge_18 ic_0 ?_
  refine pf_X6_0_8 (pc := 19) C tf_X6_57 dX6_judge_19 ?_
  obtain ⟨_, ea, hM⟩ := lt_ex hM
  refine J.cong C ea ?_
  refine J.iload_n (pc := 22) C dX6_judge_22 rfl rfl ?_
  exact hret dX6_judge_23 hM rfl
def M_X6_clear (g : Sg) : Option (Int32 × Sg) := lt (sI g 0 0) (fun g_1 => some (g.1 0, g_1))
set_option maxRecDepth 100000 in
set_option maxHeartbeats 4000000 in
theorem C_X6_clear {l : Launch} {D : va_G} {q : Nat → Nat} {cI : ClassId} {z : Nat} {g : Sg} {r : Int32 × Sg} (h : M_X6_clear g = some r) : CTi l (EC z) D cI (cW q cI) yX6_clear cX6_clear 2 (some .int) 0 0 [.ref (q 0)] g r := by
  refine CTi.of2 (by decide) (EC_ok z) (Nat.le_of_ble_eq_true rfl) rfl (fun p e s m args below meth c A Q C hret => ?_)
  have hM := h
  unfold M_X6_clear at hM
  refine J.aload_n (pc := 0) C dX6_clear_0 rfl rfl ?_
  refine gf_X6_0_8 (pc := 1) C tf_X6_57 dX6_clear_1 ?_
  refine J.istore_n (pc := 4) C dX6_clear_4 rfl (by decide) ?_
  refine J.aload_n (pc := 5) C dX6_clear_5 rfl rfl ?_
  refine J.iconst (pc := 6) C 0 dX6_clear_6 ic_0 ?_
  refine pf_X6_0_8 (pc := 7) C tf_X6_57 dX6_clear_7 ?_
  obtain ⟨_, ea, hM⟩ := lt_ex hM
  refine J.cong C ea ?_
  refine J.iload_n (pc := 10) C dX6_clear_10 rfl rfl ?_
  exact hret dX6_clear_11 hM rfl
def B_X6_lots_123 (x3 x5 x6 : Int32) (g : Sg) : Option (Int32 × Sg) := (if x3 = 0 then some (x5, g) else some (x6, g))
def B_X6_lots_64 (kb64 : Int32 → Int32 → Int32 → Int32 → Int32 → Int32 → Sg → Option (Int32 × Sg)) (x1 x3 x4 x5 x6 x7 : Int32) (g : Sg) : Option (Int32 × Sg) := (if x1 ≤ x7 then B_X6_lots_123 x3 x5 x6 g else bI (M_X0_drawHours 17 x4 g) (fun r_9 g_10 => bI (M_X5_byHours 17 g_10) (fun r_11 g_12 => (if (V_X5_firstLamp g_12) = (V_X0_pump 17 g_12) then kb64 x1 x3 r_9 (x5 + r_11) (x6 + 1) (x7 + 1) g_12 else kb64 x1 x3 r_9 (x5 + r_11) x6 (x7 + 1) g_12))))
def M_X6_lots (x1 x2 x3 : Int32) (g : Sg) : Option (Int32 × Sg) := (if 1 ≤ x1 then (if x1 ≤ 20 then (if x3 = 0 then lt (U_X0_becomeLike 17 3 g) (fun g_1 => lup6 (B_X6_lots_64 ) FU x1 x3 x2 0 0 0 g_1) else (if x3 = 1 then lt (U_X0_becomeLike 17 3 g) (fun g_2 => lup6 (B_X6_lots_64 ) FU x1 x3 x2 0 0 0 g_2) else bI (M_X6_refuse (-2) g) (fun r_3 g_4 => some (r_3, g_4)))) else bI (M_X6_refuse (-6) g) (fun r_5 g_6 => some (r_5, g_6))) else bI (M_X6_refuse (-4) g) (fun r_7 g_8 => some (r_7, g_8)))
set_option maxRecDepth 100000 in
set_option maxHeartbeats 4000000 in
theorem C_X6_lots {l : Launch} {D : va_G} {q : Nat → Nat} {cI : ClassId} {z : Nat} {x1 x2 x3 : Int32} {g : Sg} {r : Int32 × Sg} (h : M_X6_lots x1 x2 x3 g = some r) : CTi l (EC z) D cI (cW q cI) yX6_lots cX6_lots 8 (some .int) 6 140 [.ref (q 0), .int x1, .int x2, .int x3] g r := by
  refine CTi.of2 (by decide) (EC_ok z) (Nat.le_of_ble_eq_true rfl) rfl (fun p e s m args below meth c A Q C hret => ?_)
  have jb123 : ∀ (x3 x5 x6 : Int32) (g : Sg), B_X6_lots_123 x3 x5 x6 g = some r → J p l e (RM 6 140) s m args below meth c D (cW q cI) A 8 Q g 123 [(3, .int x3), (5, .int x5), (6, .int x6)] [] := by
    intro x3 x5 x6 g hM
    unfold B_X6_lots_123 at hM
    refine J.iload_n (pc := 123) C dX6_lots_123 rfl rfl ?_
    refine J.if_ne (pc := 124) C 132 dX6_lots_124 (by decide) (fun hc => ?_) (fun hc => ?_)
    · have hM := ite_f hc hM
      refine J.iload (pc := 132) C dX6_lots_132 rfl ?_
      exact hret dX6_lots_134 hM rfl
    · have hM := ite_t hc hM
      refine J.iload (pc := 127) C dX6_lots_127 rfl ?_
      refine J.goto (pc := 129) C 134 dX6_lots_129 (by decide) ?_
      exact hret dX6_lots_134 hM rfl
  have jb64 : ∀ (kb64 : Int32 → Int32 → Int32 → Int32 → Int32 → Int32 → Sg → Option (Int32 × Sg)) (hkb64 : ∀ (x1 x3 x4 x5 x6 x7 : Int32) (g : Sg), kb64 x1 x3 x4 x5 x6 x7 g = some r → J p l e (RM 6 140) s m args below meth c D (cW q cI) A 8 Q g 64 [(0, .ref (q 0)), (1, .int x1), (3, .int x3), (4, .int x4), (5, .int x5), (6, .int x6), (7, .int x7)] []) (x1 x3 x4 x5 x6 x7 : Int32) (g : Sg), B_X6_lots_64 kb64 x1 x3 x4 x5 x6 x7 g = some r → J p l e (RM 6 140) s m args below meth c D (cW q cI) A 8 Q g 64 [(0, .ref (q 0)), (1, .int x1), (3, .int x3), (4, .int x4), (5, .int x5), (6, .int x6), (7, .int x7)] [] := by
    intro kb64 hkb64 x1 x3 x4 x5 x6 x7 g hM
    unfold B_X6_lots_64 at hM
    refine J.iload (pc := 64) C dX6_lots_64 rfl ?_
    refine J.iload_n (pc := 66) C dX6_lots_66 rfl rfl ?_
    refine J.icmp_ge (pc := 67) C 123 dX6_lots_67 (by decide) (fun hc => ?_) (fun hc => ?_)
    · have hM := ite_t hc hM
      refine J.sub C [3, 5, 6] rfl ?_
      exact jb123 _ _ _ _ hM
    · have hM := ite_f hc hM
      refine J.aload_n (pc := 70) C dX6_lots_70 rfl rfl ?_
      refine gf_X6_0_2 (pc := 71) C tf_X6_19 dX6_lots_71 ?_
      refine J.iload (pc := 74) C dX6_lots_74 rfl ?_
      obtain ⟨_, _, h1, hM⟩ := bI_ex hM
      refine J.callV1i (pc := 76) C (C_X0_drawHours al_17 h1) lk_X0_drawHours tm_X6_226 (io_17 q cI) ⟨Nat.le_of_ble_eq_true rfl, Nat.le_of_ble_eq_true rfl⟩ (Nat.le_of_ble_eq_true rfl) dX6_lots_76 ?_
      refine J.istore (pc := 79) C dX6_lots_79 (by decide) ?_
      refine J.iload (pc := 81) C dX6_lots_81 rfl ?_
      refine J.aload_n (pc := 83) C dX6_lots_83 rfl rfl ?_
      refine gf_X6_0_4 (pc := 84) C tf_X6_32 dX6_lots_84 ?_
      refine J.aload_n (pc := 87) C dX6_lots_87 rfl rfl ?_
      refine gf_X6_0_2 (pc := 88) C tf_X6_19 dX6_lots_88 ?_
      obtain ⟨_, _, h1, hM⟩ := bI_ex hM
      refine J.callV1i (pc := 91) C (C_X5_byHours al_17 h1) lk_X5_byHours tm_X6_126 (io_26 q cI) ⟨Nat.le_of_ble_eq_true rfl, Nat.le_of_ble_eq_true rfl⟩ (Nat.le_of_ble_eq_true rfl) dX6_lots_91 ?_
      refine J.iadd (pc := 94) C dX6_lots_94 ?_
      refine J.istore (pc := 95) C dX6_lots_95 (by decide) ?_
      refine J.aload_n (pc := 97) C dX6_lots_97 rfl rfl ?_
      refine gf_X6_0_4 (pc := 98) C tf_X6_32 dX6_lots_98 ?_
      refine J.callV0i (pc := 101) C (K_X5_firstLamp _) lk_X5_firstLamp tm_X6_138 (io_26 q cI) ⟨Nat.le_of_ble_eq_true rfl, Nat.le_of_ble_eq_true rfl⟩ (Nat.le_of_ble_eq_true rfl) dX6_lots_101 ?_
      refine J.aload_n (pc := 104) C dX6_lots_104 rfl rfl ?_
      refine gf_X6_0_2 (pc := 105) C tf_X6_19 dX6_lots_105 ?_
      refine J.callV0i (pc := 108) C (K_X0_pump al_17 _) lk_X0_pump tm_X6_229 (io_17 q cI) ⟨Nat.le_of_ble_eq_true rfl, Nat.le_of_ble_eq_true rfl⟩ (Nat.le_of_ble_eq_true rfl) dX6_lots_108 ?_
      refine J.icmp_ne (pc := 111) C 117 dX6_lots_111 (by decide) (fun hc => ?_) (fun hc => ?_)
      · have hM := ite_f hc hM
        refine J.iinc (pc := 117) C 1 dX6_lots_117 ic_1 rfl (by decide) ?_
        refine J.goto (pc := 120) C 64 dX6_lots_120 (by decide) ?_
        refine J.sub C [0, 1, 3, 4, 5, 6, 7] rfl ?_
        exact hkb64 _ _ _ _ _ _ _ hM
      · have hM := ite_t hc hM
        refine J.iinc (pc := 114) C 1 dX6_lots_114 ic_1 rfl (by decide) ?_
        refine J.iinc (pc := 117) C 1 dX6_lots_117 ic_1 rfl (by decide) ?_
        refine J.goto (pc := 120) C 64 dX6_lots_120 (by decide) ?_
        refine J.sub C [0, 1, 3, 4, 5, 6, 7] rfl ?_
        exact hkb64 _ _ _ _ _ _ _ hM
  have jl64 : ∀ (x1 x3 x4 x5 x6 x7 : Int32) (g : Sg), lup6 (B_X6_lots_64) FU x1 x3 x4 x5 x6 x7 g = some r → J p l e (RM 6 140) s m args below meth c D (cW q cI) A 8 Q g 64 [(0, .ref (q 0)), (1, .int x1), (3, .int x3), (4, .int x4), (5, .int x5), (6, .int x6), (7, .int x7)] [] := 
    lup6_ok (P := fun x1 x3 x4 x5 x6 x7 g => J p l e (RM 6 140) s m args below meth c D (cW q cI) A 8 Q g 64 [(0, .ref (q 0)), (1, .int x1), (3, .int x3), (4, .int x4), (5, .int x5), (6, .int x6), (7, .int x7)] []) (fun self hself => jb64 self hself) FU
  have hM := h
  unfold M_X6_lots at hM
  refine J.iload_n (pc := 0) C dX6_lots_0 rfl rfl ?_
  refine J.iconst (pc := 1) C 1 dX6_lots_1 ic_1 ?_
  refine J.icmp_ge (pc := 2) C 12 dX6_lots_2 (by decide) (fun hc => ?_) (fun hc => ?_)
  · have hM := ite_t hc hM
    refine J.iload_n (pc := 12) C dX6_lots_12 rfl rfl ?_
    refine J.bipush (pc := 13) C 20 dX6_lots_13 bp_20 ?_
    refine J.icmp_le (pc := 15) C 25 dX6_lots_15 (by decide) (fun hc => ?_) (fun hc => ?_)
    · have hM := ite_t hc hM
      refine J.iload_n (pc := 25) C dX6_lots_25 rfl rfl ?_
      refine J.if_eq (pc := 26) C 41 dX6_lots_26 (by decide) (fun hc => ?_) (fun hc => ?_)
      · have hM := ite_t hc hM
        refine J.aload_n (pc := 41) C dX6_lots_41 rfl rfl ?_
        refine gf_X6_0_2 (pc := 42) C tf_X6_19 dX6_lots_42 ?_
        refine J.aload_n (pc := 45) C dX6_lots_45 rfl rfl ?_
        refine gf_X6_0_0 (pc := 46) C tf_X6_10 dX6_lots_46 ?_
        refine J.callV1v (pc := 49) C (K_X0_becomeLike al_17 al_3 _) lk_X0_becomeLike tm_X6_76 (io_17 q cI) ⟨Nat.le_of_ble_eq_true rfl, Nat.le_of_ble_eq_true rfl⟩ (Nat.le_of_ble_eq_true rfl) dX6_lots_49 ?_
        obtain ⟨_, ea, hM⟩ := lt_ex hM
        refine J.cong C ea ?_
        refine J.iload_n (pc := 52) C dX6_lots_52 rfl rfl ?_
        refine J.istore (pc := 53) C dX6_lots_53 (by decide) ?_
        refine J.iconst (pc := 55) C 0 dX6_lots_55 ic_0 ?_
        refine J.istore (pc := 56) C dX6_lots_56 (by decide) ?_
        refine J.iconst (pc := 58) C 0 dX6_lots_58 ic_0 ?_
        refine J.istore (pc := 59) C dX6_lots_59 (by decide) ?_
        refine J.iconst (pc := 61) C 0 dX6_lots_61 ic_0 ?_
        refine J.istore (pc := 62) C dX6_lots_62 (by decide) ?_
        refine J.sub C [0, 1, 3, 4, 5, 6, 7] rfl ?_
        exact jl64 _ _ _ _ _ _ _ hM
      · have hM := ite_f hc hM
        refine J.iload_n (pc := 29) C dX6_lots_29 rfl rfl ?_
        refine J.iconst (pc := 30) C 1 dX6_lots_30 ic_1 ?_
        refine J.icmp_eq (pc := 31) C 41 dX6_lots_31 (by decide) (fun hc => ?_) (fun hc => ?_)
        · have hM := ite_t hc hM
          refine J.aload_n (pc := 41) C dX6_lots_41 rfl rfl ?_
          refine gf_X6_0_2 (pc := 42) C tf_X6_19 dX6_lots_42 ?_
          refine J.aload_n (pc := 45) C dX6_lots_45 rfl rfl ?_
          refine gf_X6_0_0 (pc := 46) C tf_X6_10 dX6_lots_46 ?_
          refine J.callV1v (pc := 49) C (K_X0_becomeLike al_17 al_3 _) lk_X0_becomeLike tm_X6_76 (io_17 q cI) ⟨Nat.le_of_ble_eq_true rfl, Nat.le_of_ble_eq_true rfl⟩ (Nat.le_of_ble_eq_true rfl) dX6_lots_49 ?_
          obtain ⟨_, ea, hM⟩ := lt_ex hM
          refine J.cong C ea ?_
          refine J.iload_n (pc := 52) C dX6_lots_52 rfl rfl ?_
          refine J.istore (pc := 53) C dX6_lots_53 (by decide) ?_
          refine J.iconst (pc := 55) C 0 dX6_lots_55 ic_0 ?_
          refine J.istore (pc := 56) C dX6_lots_56 (by decide) ?_
          refine J.iconst (pc := 58) C 0 dX6_lots_58 ic_0 ?_
          refine J.istore (pc := 59) C dX6_lots_59 (by decide) ?_
          refine J.iconst (pc := 61) C 0 dX6_lots_61 ic_0 ?_
          refine J.istore (pc := 62) C dX6_lots_62 (by decide) ?_
          refine J.sub C [0, 1, 3, 4, 5, 6, 7] rfl ?_
          exact jl64 _ _ _ _ _ _ _ hM
        · have hM := ite_f hc hM
          refine J.aload_n (pc := 34) C dX6_lots_34 rfl rfl ?_
          refine J.bipush (pc := 35) C (-2) dX6_lots_35 bp_m2 ?_
          obtain ⟨_, _, h1, hM⟩ := bI_ex hM
          refine J.callV1i (pc := 37) C (C_X6_refuse h1) lk_X6_refuse tm_X6_65 (io_0 q cI) ⟨Nat.le_of_ble_eq_true rfl, Nat.le_of_ble_eq_true rfl⟩ (Nat.le_of_ble_eq_true rfl) dX6_lots_37 ?_
          exact hret dX6_lots_40 hM rfl
    · have hM := ite_f hc hM
      refine J.aload_n (pc := 18) C dX6_lots_18 rfl rfl ?_
      refine J.bipush (pc := 19) C (-6) dX6_lots_19 bp_m6 ?_
      obtain ⟨_, _, h1, hM⟩ := bI_ex hM
      refine J.callV1i (pc := 21) C (C_X6_refuse h1) lk_X6_refuse tm_X6_65 (io_0 q cI) ⟨Nat.le_of_ble_eq_true rfl, Nat.le_of_ble_eq_true rfl⟩ (Nat.le_of_ble_eq_true rfl) dX6_lots_21 ?_
      exact hret dX6_lots_24 hM rfl
  · have hM := ite_f hc hM
    refine J.aload_n (pc := 5) C dX6_lots_5 rfl rfl ?_
    refine J.bipush (pc := 6) C (-4) dX6_lots_6 bp_m4 ?_
    obtain ⟨_, _, h1, hM⟩ := bI_ex hM
    refine J.callV1i (pc := 8) C (C_X6_refuse h1) lk_X6_refuse tm_X6_65 (io_0 q cI) ⟨Nat.le_of_ble_eq_true rfl, Nat.le_of_ble_eq_true rfl⟩ (Nat.le_of_ble_eq_true rfl) dX6_lots_8 ?_
    exact hret dX6_lots_11 hM rfl
def M_X6_image (g : Sg) : Option (Int32 × Sg) := lt (U_X0_becomeLike 10 3 g) (fun g_1 => lt (sI g_1 1 1) (fun g_2 => some (g_2.1 3, g_2)))
set_option maxRecDepth 100000 in
set_option maxHeartbeats 4000000 in
theorem C_X6_image {l : Launch} {D : va_G} {q : Nat → Nat} {cI : ClassId} {z : Nat} {g : Sg} {r : Int32 × Sg} (h : M_X6_image g = some r) : CTi l (EC z) D cI (cW q cI) yX6_image cX6_image 1 (some .int) 2 43 [.ref (q 0)] g r := by
  refine CTi.of2 (by decide) (EC_ok z) (Nat.le_of_ble_eq_true rfl) rfl (fun p e s m args below meth c A Q C hret => ?_)
  have hM := h
  unfold M_X6_image at hM
  refine J.aload_n (pc := 0) C dX6_image_0 rfl rfl ?_
  refine gf_X6_0_1 (pc := 1) C tf_X6_16 dX6_image_1 ?_
  refine J.aload_n (pc := 4) C dX6_image_4 rfl rfl ?_
  refine gf_X6_0_0 (pc := 5) C tf_X6_10 dX6_image_5 ?_
  refine J.callV1v (pc := 8) C (K_X0_becomeLike al_10 al_3 _) lk_X0_becomeLike tm_X6_76 (io_10 q cI) ⟨Nat.le_of_ble_eq_true rfl, Nat.le_of_ble_eq_true rfl⟩ (Nat.le_of_ble_eq_true rfl) dX6_image_8 ?_
  obtain ⟨_, ea, hM⟩ := lt_ex hM
  refine J.cong C ea ?_
  refine J.aload_n (pc := 11) C dX6_image_11 rfl rfl ?_
  refine J.iconst (pc := 12) C 1 dX6_image_12 ic_1 ?_
  refine pf_X6_0_10 (pc := 13) C rfl rfl tf_X6_61 dX6_image_13 ?_
  obtain ⟨_, ea, hM⟩ := lt_ex hM
  refine J.cong C ea ?_
  refine J.aload_n (pc := 16) C dX6_image_16 rfl rfl ?_
  refine gf_X6_0_0 (pc := 17) C tf_X6_10 dX6_image_17 ?_
  refine gf_X0_6 (pc := 20) al_3 C tf_X6_172 dX6_image_20 ?_
  exact hret dX6_image_23 hM rfl
def M_X6_on (g : Sg) : Option (Int32 × Sg) := (if (g.1 1) = 0 then bI (M_X6_refuse (-3) g) (fun r_2 g_3 => some (r_2, g_3)) else lt (U_X0_becomeLike 3 10 g) (fun g_1 => some (g_1.1 3, g_1)))
set_option maxRecDepth 100000 in
set_option maxHeartbeats 4000000 in
theorem C_X6_on {l : Launch} {D : va_G} {q : Nat → Nat} {cI : ClassId} {z : Nat} {g : Sg} {r : Int32 × Sg} (h : M_X6_on g = some r) : CTi l (EC z) D cI (cW q cI) yX6_on cX6_on 1 (some .int) 2 43 [.ref (q 0)] g r := by
  refine CTi.of2 (by decide) (EC_ok z) (Nat.le_of_ble_eq_true rfl) rfl (fun p e s m args below meth c A Q C hret => ?_)
  have hM := h
  unfold M_X6_on at hM
  refine J.aload_n (pc := 0) C dX6_on_0 rfl rfl ?_
  refine gf_X6_0_10 (pc := 1) C tf_X6_61 dX6_on_1 ?_
  refine J.if_ne (pc := 4) C 14 dX6_on_4 (by decide) (fun hc => ?_) (fun hc => ?_)
  · have hM := ite_f hc hM
    refine J.aload_n (pc := 14) C dX6_on_14 rfl rfl ?_
    refine gf_X6_0_0 (pc := 15) C tf_X6_10 dX6_on_15 ?_
    refine J.aload_n (pc := 18) C dX6_on_18 rfl rfl ?_
    refine gf_X6_0_1 (pc := 19) C tf_X6_16 dX6_on_19 ?_
    refine J.callV1v (pc := 22) C (K_X0_becomeLike al_3 al_10 _) lk_X0_becomeLike tm_X6_76 (io_3 q cI) ⟨Nat.le_of_ble_eq_true rfl, Nat.le_of_ble_eq_true rfl⟩ (Nat.le_of_ble_eq_true rfl) dX6_on_22 ?_
    obtain ⟨_, ea, hM⟩ := lt_ex hM
    refine J.cong C ea ?_
    refine J.aload_n (pc := 25) C dX6_on_25 rfl rfl ?_
    refine gf_X6_0_0 (pc := 26) C tf_X6_10 dX6_on_26 ?_
    refine gf_X0_6 (pc := 29) al_3 C tf_X6_172 dX6_on_29 ?_
    exact hret dX6_on_32 hM rfl
  · have hM := ite_t hc hM
    refine J.aload_n (pc := 7) C dX6_on_7 rfl rfl ?_
    refine J.bipush (pc := 8) C (-3) dX6_on_8 bp_m3 ?_
    obtain ⟨_, _, h1, hM⟩ := bI_ex hM
    refine J.callV1i (pc := 10) C (C_X6_refuse h1) lk_X6_refuse tm_X6_65 (io_0 q cI) ⟨Nat.le_of_ble_eq_true rfl, Nat.le_of_ble_eq_true rfl⟩ (Nat.le_of_ble_eq_true rfl) dX6_on_10 ?_
    exact hret dX6_on_13 hM rfl
def M_X6_count (x1 : Int32) (g : Sg) : Option (Int32 × Sg) := (if x1 = 0 then some (g.1 3, g) else if x1 = 1 then some (V_X0_pump 3 g, g) else if x1 = 2 then some (V_X0_oil 3 g, g) else if x1 = 3 then some (V_X0_dark 3 g, g) else if x1 = 4 then bI (M_X0_allSteps 3 g) (fun r_1 g_2 => some (r_1, g_2)) else if x1 = 5 then some (g.1 0, g) else if x1 = 6 then some (g.1 24, g) else (if x1 ≤ 10 then some ((-9), g) else (if 16 < x1 then some ((-9), g) else some (rat g 2 7 (x1 - 10), g))))
set_option maxRecDepth 100000 in
set_option maxHeartbeats 4000000 in
theorem C_X6_count {l : Launch} {D : va_G} {q : Nat → Nat} {cI : ClassId} {z : Nat} {x1 : Int32} {g : Sg} {r : Int32 × Sg} (h : M_X6_count x1 g = some r) : CTi l (EC z) D cI (cW q cI) yX6_count cX6_count 2 (some .int) 3 67 [.ref (q 0), .int x1] g r := by
  refine CTi.of2 (by decide) (EC_ok z) (Nat.le_of_ble_eq_true rfl) rfl (fun p e s m args below meth c A Q C hret => ?_)
  have hM := h
  unfold M_X6_count at hM
  refine J.iload_n (pc := 0) C dX6_count_0 rfl rfl ?_
  refine J.case (pc := 1) C 0 (fun hs0 => ?_) (fun hs0 => ?_)
  · have hM := ite_t hs0 hM
    refine J.tabIn (pc := 1) C 0 44 dX6_count_1 hs0 (by decide) (by decide) rfl (by decide) ?_
    refine J.aload_n (pc := 44) C dX6_count_44 rfl rfl ?_
    refine gf_X6_0_0 (pc := 45) C tf_X6_10 dX6_count_45 ?_
    refine gf_X0_6 (pc := 48) al_3 C tf_X6_172 dX6_count_48 ?_
    exact hret dX6_count_51 hM rfl
  · have hM := ite_f hs0 hM
    refine J.case (pc := 1) C 1 (fun hs1 => ?_) (fun hs1 => ?_)
    · have hM := ite_t hs1 hM
      refine J.tabIn (pc := 1) C 1 52 dX6_count_1 hs1 (by decide) (by decide) rfl (by decide) ?_
      refine J.aload_n (pc := 52) C dX6_count_52 rfl rfl ?_
      refine gf_X6_0_0 (pc := 53) C tf_X6_10 dX6_count_53 ?_
      refine J.callV0i (pc := 56) C (K_X0_pump al_3 _) lk_X0_pump tm_X6_229 (io_3 q cI) ⟨Nat.le_of_ble_eq_true rfl, Nat.le_of_ble_eq_true rfl⟩ (Nat.le_of_ble_eq_true rfl) dX6_count_56 ?_
      exact hret dX6_count_59 hM rfl
    · have hM := ite_f hs1 hM
      refine J.case (pc := 1) C 2 (fun hs2 => ?_) (fun hs2 => ?_)
      · have hM := ite_t hs2 hM
        refine J.tabIn (pc := 1) C 2 60 dX6_count_1 hs2 (by decide) (by decide) rfl (by decide) ?_
        refine J.aload_n (pc := 60) C dX6_count_60 rfl rfl ?_
        refine gf_X6_0_0 (pc := 61) C tf_X6_10 dX6_count_61 ?_
        refine J.callV0i (pc := 64) C (K_X0_oil al_3 _) lk_X0_oil tm_X6_232 (io_3 q cI) ⟨Nat.le_of_ble_eq_true rfl, Nat.le_of_ble_eq_true rfl⟩ (Nat.le_of_ble_eq_true rfl) dX6_count_64 ?_
        exact hret dX6_count_67 hM rfl
      · have hM := ite_f hs2 hM
        refine J.case (pc := 1) C 3 (fun hs3 => ?_) (fun hs3 => ?_)
        · have hM := ite_t hs3 hM
          refine J.tabIn (pc := 1) C 3 68 dX6_count_1 hs3 (by decide) (by decide) rfl (by decide) ?_
          refine J.aload_n (pc := 68) C dX6_count_68 rfl rfl ?_
          refine gf_X6_0_0 (pc := 69) C tf_X6_10 dX6_count_69 ?_
          refine J.callV0i (pc := 72) C (K_X0_dark al_3 _) lk_X0_dark tm_X6_235 (io_3 q cI) ⟨Nat.le_of_ble_eq_true rfl, Nat.le_of_ble_eq_true rfl⟩ (Nat.le_of_ble_eq_true rfl) dX6_count_72 ?_
          exact hret dX6_count_75 hM rfl
        · have hM := ite_f hs3 hM
          refine J.case (pc := 1) C 4 (fun hs4 => ?_) (fun hs4 => ?_)
          · have hM := ite_t hs4 hM
            refine J.tabIn (pc := 1) C 4 76 dX6_count_1 hs4 (by decide) (by decide) rfl (by decide) ?_
            refine J.aload_n (pc := 76) C dX6_count_76 rfl rfl ?_
            refine gf_X6_0_0 (pc := 77) C tf_X6_10 dX6_count_77 ?_
            obtain ⟨_, _, h1, hM⟩ := bI_ex hM
            refine J.callV0i (pc := 80) C (C_X0_allSteps al_3 h1) lk_X0_allSteps tm_X6_237 (io_3 q cI) ⟨Nat.le_of_ble_eq_true rfl, Nat.le_of_ble_eq_true rfl⟩ (Nat.le_of_ble_eq_true rfl) dX6_count_80 ?_
            exact hret dX6_count_83 hM rfl
          · have hM := ite_f hs4 hM
            refine J.case (pc := 1) C 5 (fun hs5 => ?_) (fun hs5 => ?_)
            · have hM := ite_t hs5 hM
              refine J.tabIn (pc := 1) C 5 84 dX6_count_1 hs5 (by decide) (by decide) rfl (by decide) ?_
              refine J.aload_n (pc := 84) C dX6_count_84 rfl rfl ?_
              refine gf_X6_0_8 (pc := 85) C tf_X6_57 dX6_count_85 ?_
              exact hret dX6_count_88 hM rfl
            · have hM := ite_f hs5 hM
              refine J.case (pc := 1) C 6 (fun hs6 => ?_) (fun hs6 => ?_)
              · have hM := ite_t hs6 hM
                refine J.tabIn (pc := 1) C 6 89 dX6_count_1 hs6 (by decide) (by decide) rfl (by decide) ?_
                refine J.aload_n (pc := 89) C dX6_count_89 rfl rfl ?_
                refine gf_X6_0_3 (pc := 90) C tf_X6_25 dX6_count_90 ?_
                refine gf_X2_24_1 (pc := 93) C tf_X6_69 dX6_count_93 ?_
                exact hret dX6_count_96 hM rfl
              · have hM := ite_f hs6 hM
                refine J.tabOut (pc := 1) C 97 dX6_count_1 (by have c0 := i_ne 0 rfl hs0; have c1 := i_ne 1 rfl hs1; have c2 := i_ne 2 rfl hs2; have c3 := i_ne 3 rfl hs3; have c4 := i_ne 4 rfl hs4; have c5 := i_ne 5 rfl hs5; have c6 := i_ne 6 rfl hs6; omega) (by decide) ?_
                refine J.iload_n (pc := 97) C dX6_count_97 rfl rfl ?_
                refine J.bipush (pc := 98) C 10 dX6_count_98 bp_10 ?_
                refine J.icmp_le (pc := 100) C 121 dX6_count_100 (by decide) (fun hc => ?_) (fun hc => ?_)
                · have hM := ite_t hc hM
                  refine J.bipush (pc := 121) C (-9) dX6_count_121 bp_m9 ?_
                  exact hret dX6_count_123 hM rfl
                · have hM := ite_f hc hM
                  refine J.iload_n (pc := 103) C dX6_count_103 rfl rfl ?_
                  refine J.bipush (pc := 104) C 16 dX6_count_104 bp_16 ?_
                  refine J.icmp_gt (pc := 106) C 121 dX6_count_106 (by decide) (fun hc => ?_) (fun hc => ?_)
                  · have hM := ite_t hc hM
                    refine J.bipush (pc := 121) C (-9) dX6_count_121 bp_m9 ?_
                    exact hret dX6_count_123 hM rfl
                  · have hM := ite_f hc hM
                    refine J.aload_n (pc := 109) C dX6_count_109 rfl rfl ?_
                    refine gf_X6_0_9 (pc := 110) C tf_X6_54 dX6_count_110 ?_
                    refine J.iload_n (pc := 113) C dX6_count_113 rfl rfl ?_
                    refine J.bipush (pc := 114) C 10 dX6_count_114 bp_10 ?_
                    refine J.isub (pc := 116) C dX6_count_116 ?_
                    refine J.callS2i (pc := 117) C (K_X4_at (ia_2 q cI) _ _) lk_X4_at tm_X6_91 ⟨Nat.le_of_ble_eq_true rfl, Nat.le_of_ble_eq_true rfl⟩ (Nat.le_of_ble_eq_true rfl) dX6_count_117 ?_
                    exact hret dX6_count_120 hM rfl
