def M_X7_swap (x1 x2 : Int32) (g : Sg) : Option Sg := chk x1 7 (chk x2 7 (chk x1 7 (lt (wr g 22 x1 (rd g 22 x2)) (fun g_1 => chk x2 7 (lt (wr g_1 22 x2 (rd g 22 x1)) (fun g_2 => some g_2))))))
set_option maxRecDepth 100000 in
set_option maxHeartbeats 4000000 in
theorem C_X7_swap {l : Launch} {D : va_G} {q : Nat → Nat} {cI : ClassId} {z : Nat × Nat} {x1 x2 : Int32} {g : Sg} {r : Sg} (h : M_X7_swap x1 x2 g = some r) : CTv l (EM z) D cI (mW q cI) yX7_swap cX7_swap 4 0 0 [.ref (q 0), .int x1, .int x2] g r := by
  refine CTv.of2 (by decide) (EM_ok z) (Nat.le_of_ble_eq_true rfl) rfl (fun p e s m args below meth c A Q C hret => ?_)
  have hM := h
  unfold M_X7_swap at hM
  refine J.aload_n (pc := 0) C dX7_swap_0 rfl rfl ?_
  refine gf_X7_0_29 (pc := 1) C tf_X7_73 dX7_swap_1 ?_
  refine J.iload_n (pc := 4) C dX7_swap_4 rfl rfl ?_
  obtain ⟨hv, hM⟩ := chk_ex hM
  refine J.iald (pc := 5) C (im_22 q cI) hv dX7_swap_5 ?_
  refine J.istore_n (pc := 6) C dX7_swap_6 rfl (by decide) ?_
  refine J.aload_n (pc := 7) C dX7_swap_7 rfl rfl ?_
  refine gf_X7_0_29 (pc := 8) C tf_X7_73 dX7_swap_8 ?_
  refine J.iload_n (pc := 11) C dX7_swap_11 rfl rfl ?_
  refine J.aload_n (pc := 12) C dX7_swap_12 rfl rfl ?_
  refine gf_X7_0_29 (pc := 13) C tf_X7_73 dX7_swap_13 ?_
  refine J.iload_n (pc := 16) C dX7_swap_16 rfl rfl ?_
  obtain ⟨hv, hM⟩ := chk_ex hM
  refine J.iald (pc := 17) C (im_22 q cI) hv dX7_swap_17 ?_
  obtain ⟨hv, hM⟩ := chk_ex hM
  refine J.iast (pc := 18) C (im_22 q cI) hv dX7_swap_18 ?_
  obtain ⟨_, ea, hM⟩ := lt_ex hM
  refine J.cong C ea ?_
  refine J.aload_n (pc := 19) C dX7_swap_19 rfl rfl ?_
  refine gf_X7_0_29 (pc := 20) C tf_X7_73 dX7_swap_20 ?_
  refine J.iload_n (pc := 23) C dX7_swap_23 rfl rfl ?_
  refine J.iload_n (pc := 24) C dX7_swap_24 rfl rfl ?_
  obtain ⟨hv, hM⟩ := chk_ex hM
  refine J.iast (pc := 25) C (im_22 q cI) hv dX7_swap_25 ?_
  obtain ⟨_, ea, hM⟩ := lt_ex hM
  refine J.cong C ea ?_
  exact hret dX7_swap_26 hM
def B_X7_nextOrder_86 (kb86 : Int32 → Int32 → Sg → Option (Int32 × Sg)) (x3 x4 : Int32) (g : Sg) : Option (Int32 × Sg) := (if x4 ≤ x3 then some (1, g) else bV (M_X7_swap x3 x4 g) (fun g_2 => kb86 (x3 + 1) (x4 + (-1)) g_2))
def B_X7_nextOrder_68 (x1 x2 : Int32) (g : Sg) : Option (Int32 × Sg) := bV (M_X7_swap x1 x2 g) (fun g_1 => lup2 (B_X7_nextOrder_86 ) FU (x1 + 1) ((g_1.1 0) - 1) g_1)
def B_X7_nextOrder_47 (kb47 : Int32 → Int32 → Sg → Option (Int32 × Sg)) (x1 x2 : Int32) (g : Sg) : Option (Int32 × Sg) := chk x2 7 (chk x1 7 ((if (rd g 22 x1) ≤ (rd g 22 x2) then B_X7_nextOrder_68 x1 x2 g else kb47 x1 (x2 + (-1)) g)))
def B_X7_nextOrder_34 (x1 : Int32) (g : Sg) : Option (Int32 × Sg) := (if 0 ≤ x1 then lup2 (B_X7_nextOrder_47 ) FU x1 ((g.1 0) - 1) g else some (0, g))
def B_X7_nextOrder_7 (kb7 : Int32 → Sg → Option (Int32 × Sg)) (x1 : Int32) (g : Sg) : Option (Int32 × Sg) := (if x1 < 0 then B_X7_nextOrder_34 x1 g else chk x1 7 (chk (x1 + 1) 7 ((if (rd g 22 x1) ≤ (rd g 22 (x1 + 1)) then B_X7_nextOrder_34 x1 g else kb7 (x1 + (-1)) g))))
def M_X7_nextOrder (g : Sg) : Option (Int32 × Sg) := lup1 (B_X7_nextOrder_7 ) FU ((g.1 0) - 2) g
set_option maxRecDepth 100000 in
set_option maxHeartbeats 4000000 in
theorem C_X7_nextOrder {l : Launch} {D : va_G} {q : Nat → Nat} {cI : ClassId} {z : Nat × Nat} {g : Sg} {r : Int32 × Sg} (h : M_X7_nextOrder g = some r) : CTi l (EM z) D cI (mW q cI) yX7_nextOrder cX7_nextOrder 5 (some .boolean) 1 23 [.ref (q 0)] g r := by
  refine CTi.of2 (by decide) (EM_ok z) (Nat.le_of_ble_eq_true rfl) rfl (fun p e s m args below meth c A Q C hret => ?_)
  have jb86 : ∀ (kb86 : Int32 → Int32 → Sg → Option (Int32 × Sg)) (hkb86 : ∀ (x3 x4 : Int32) (g : Sg), kb86 x3 x4 g = some r → J p l e (RM 1 23) s m args below meth c D (mW q cI) A 5 Q g 86 [(0, .ref (q 0)), (3, .int x3), (4, .int x4)] []) (x3 x4 : Int32) (g : Sg), B_X7_nextOrder_86 kb86 x3 x4 g = some r → J p l e (RM 1 23) s m args below meth c D (mW q cI) A 5 Q g 86 [(0, .ref (q 0)), (3, .int x3), (4, .int x4)] [] := by
    intro kb86 hkb86 x3 x4 g hM
    unfold B_X7_nextOrder_86 at hM
    refine J.iload_n (pc := 86) C dX7_nextOrder_86 rfl rfl ?_
    refine J.iload (pc := 87) C dX7_nextOrder_87 rfl ?_
    refine J.icmp_ge (pc := 89) C 108 dX7_nextOrder_89 (by decide) (fun hc => ?_) (fun hc => ?_)
    · have hM := ite_t hc hM
      refine J.iconst (pc := 108) C 1 dX7_nextOrder_108 ic_1 ?_
      exact hret dX7_nextOrder_109 hM (by decide)
    · have hM := ite_f hc hM
      refine J.aload_n (pc := 92) C dX7_nextOrder_92 rfl rfl ?_
      refine J.iload_n (pc := 93) C dX7_nextOrder_93 rfl rfl ?_
      refine J.iload (pc := 94) C dX7_nextOrder_94 rfl ?_
      obtain ⟨_, h1, hM⟩ := bV_ex hM
      refine J.callV2v (pc := 96) C (C_X7_swap h1) lk_X7_swap tm_X7_192 (io_m q cI) ⟨Nat.le_of_ble_eq_true rfl, Nat.le_of_ble_eq_true rfl⟩ (Nat.le_of_ble_eq_true rfl) dX7_nextOrder_96 ?_
      refine J.iinc (pc := 99) C 1 dX7_nextOrder_99 ic_1 rfl (by decide) ?_
      refine J.iinc (pc := 102) C (-1) dX7_nextOrder_102 ic_m1 rfl (by decide) ?_
      refine J.goto (pc := 105) C 86 dX7_nextOrder_105 (by decide) ?_
      refine J.sub C [0, 3, 4] rfl ?_
      exact hkb86 _ _ _ hM
  have jl86 : ∀ (x3 x4 : Int32) (g : Sg), lup2 (B_X7_nextOrder_86) FU x3 x4 g = some r → J p l e (RM 1 23) s m args below meth c D (mW q cI) A 5 Q g 86 [(0, .ref (q 0)), (3, .int x3), (4, .int x4)] [] := 
    lup2_ok (P := fun x3 x4 g => J p l e (RM 1 23) s m args below meth c D (mW q cI) A 5 Q g 86 [(0, .ref (q 0)), (3, .int x3), (4, .int x4)] []) (fun self hself => jb86 self hself) FU
  have jb68 : ∀ (x1 x2 : Int32) (g : Sg), B_X7_nextOrder_68 x1 x2 g = some r → J p l e (RM 1 23) s m args below meth c D (mW q cI) A 5 Q g 68 [(0, .ref (q 0)), (1, .int x1), (2, .int x2)] [] := by
    intro x1 x2 g hM
    unfold B_X7_nextOrder_68 at hM
    refine J.aload_n (pc := 68) C dX7_nextOrder_68 rfl rfl ?_
    refine J.iload_n (pc := 69) C dX7_nextOrder_69 rfl rfl ?_
    refine J.iload_n (pc := 70) C dX7_nextOrder_70 rfl rfl ?_
    obtain ⟨_, h1, hM⟩ := bV_ex hM
    refine J.callV2v (pc := 71) C (C_X7_swap h1) lk_X7_swap tm_X7_192 (io_m q cI) ⟨Nat.le_of_ble_eq_true rfl, Nat.le_of_ble_eq_true rfl⟩ (Nat.le_of_ble_eq_true rfl) dX7_nextOrder_71 ?_
    refine J.iload_n (pc := 74) C dX7_nextOrder_74 rfl rfl ?_
    refine J.iconst (pc := 75) C 1 dX7_nextOrder_75 ic_1 ?_
    refine J.iadd (pc := 76) C dX7_nextOrder_76 ?_
    refine J.istore_n (pc := 77) C dX7_nextOrder_77 rfl (by decide) ?_
    refine J.aload_n (pc := 78) C dX7_nextOrder_78 rfl rfl ?_
    refine gf_X7_0_0 (pc := 79) C tf_X7_84 dX7_nextOrder_79 ?_
    refine J.iconst (pc := 82) C 1 dX7_nextOrder_82 ic_1 ?_
    refine J.isub (pc := 83) C dX7_nextOrder_83 ?_
    refine J.istore (pc := 84) C dX7_nextOrder_84 (by decide) ?_
    refine J.sub C [0, 3, 4] rfl ?_
    exact jl86 _ _ _ hM
  have jb47 : ∀ (kb47 : Int32 → Int32 → Sg → Option (Int32 × Sg)) (hkb47 : ∀ (x1 x2 : Int32) (g : Sg), kb47 x1 x2 g = some r → J p l e (RM 1 23) s m args below meth c D (mW q cI) A 5 Q g 47 [(0, .ref (q 0)), (1, .int x1), (2, .int x2)] []) (x1 x2 : Int32) (g : Sg), B_X7_nextOrder_47 kb47 x1 x2 g = some r → J p l e (RM 1 23) s m args below meth c D (mW q cI) A 5 Q g 47 [(0, .ref (q 0)), (1, .int x1), (2, .int x2)] [] := by
    intro kb47 hkb47 x1 x2 g hM
    unfold B_X7_nextOrder_47 at hM
    refine J.aload_n (pc := 47) C dX7_nextOrder_47 rfl rfl ?_
    refine gf_X7_0_29 (pc := 48) C tf_X7_73 dX7_nextOrder_48 ?_
    refine J.iload_n (pc := 51) C dX7_nextOrder_51 rfl rfl ?_
    obtain ⟨hv, hM⟩ := chk_ex hM
    refine J.iald (pc := 52) C (im_22 q cI) hv dX7_nextOrder_52 ?_
    refine J.aload_n (pc := 53) C dX7_nextOrder_53 rfl rfl ?_
    refine gf_X7_0_29 (pc := 54) C tf_X7_73 dX7_nextOrder_54 ?_
    refine J.iload_n (pc := 57) C dX7_nextOrder_57 rfl rfl ?_
    obtain ⟨hv, hM⟩ := chk_ex hM
    refine J.iald (pc := 58) C (im_22 q cI) hv dX7_nextOrder_58 ?_
    refine J.icmp_ge (pc := 59) C 68 dX7_nextOrder_59 (by decide) (fun hc => ?_) (fun hc => ?_)
    · have hM := ite_t hc hM
      refine J.sub C [0, 1, 2] rfl ?_
      exact jb68 _ _ _ hM
    · have hM := ite_f hc hM
      refine J.iinc (pc := 62) C (-1) dX7_nextOrder_62 ic_m1 rfl (by decide) ?_
      refine J.goto (pc := 65) C 47 dX7_nextOrder_65 (by decide) ?_
      refine J.sub C [0, 1, 2] rfl ?_
      exact hkb47 _ _ _ hM
  have jl47 : ∀ (x1 x2 : Int32) (g : Sg), lup2 (B_X7_nextOrder_47) FU x1 x2 g = some r → J p l e (RM 1 23) s m args below meth c D (mW q cI) A 5 Q g 47 [(0, .ref (q 0)), (1, .int x1), (2, .int x2)] [] := 
    lup2_ok (P := fun x1 x2 g => J p l e (RM 1 23) s m args below meth c D (mW q cI) A 5 Q g 47 [(0, .ref (q 0)), (1, .int x1), (2, .int x2)] []) (fun self hself => jb47 self hself) FU
  have jb34 : ∀ (x1 : Int32) (g : Sg), B_X7_nextOrder_34 x1 g = some r → J p l e (RM 1 23) s m args below meth c D (mW q cI) A 5 Q g 34 [(0, .ref (q 0)), (1, .int x1)] [] := by
    intro x1 g hM
    unfold B_X7_nextOrder_34 at hM
    refine J.iload_n (pc := 34) C dX7_nextOrder_34 rfl rfl ?_
    refine J.if_ge (pc := 35) C 40 dX7_nextOrder_35 (by decide) (fun hc => ?_) (fun hc => ?_)
    · have hM := ite_t hc hM
      refine J.aload_n (pc := 40) C dX7_nextOrder_40 rfl rfl ?_
      refine gf_X7_0_0 (pc := 41) C tf_X7_84 dX7_nextOrder_41 ?_
      refine J.iconst (pc := 44) C 1 dX7_nextOrder_44 ic_1 ?_
      refine J.isub (pc := 45) C dX7_nextOrder_45 ?_
      refine J.istore_n (pc := 46) C dX7_nextOrder_46 rfl (by decide) ?_
      refine J.sub C [0, 1, 2] rfl ?_
      exact jl47 _ _ _ hM
    · have hM := ite_f hc hM
      refine J.iconst (pc := 38) C 0 dX7_nextOrder_38 ic_0 ?_
      exact hret dX7_nextOrder_39 hM (by decide)
  have jb7 : ∀ (kb7 : Int32 → Sg → Option (Int32 × Sg)) (hkb7 : ∀ (x1 : Int32) (g : Sg), kb7 x1 g = some r → J p l e (RM 1 23) s m args below meth c D (mW q cI) A 5 Q g 7 [(0, .ref (q 0)), (1, .int x1)] []) (x1 : Int32) (g : Sg), B_X7_nextOrder_7 kb7 x1 g = some r → J p l e (RM 1 23) s m args below meth c D (mW q cI) A 5 Q g 7 [(0, .ref (q 0)), (1, .int x1)] [] := by
    intro kb7 hkb7 x1 g hM
    unfold B_X7_nextOrder_7 at hM
    refine J.iload_n (pc := 7) C dX7_nextOrder_7 rfl rfl ?_
    refine J.if_lt (pc := 8) C 34 dX7_nextOrder_8 (by decide) (fun hc => ?_) (fun hc => ?_)
    · have hM := ite_t hc hM
      refine J.sub C [0, 1] rfl ?_
      exact jb34 _ _ hM
    · have hM := ite_f hc hM
      refine J.aload_n (pc := 11) C dX7_nextOrder_11 rfl rfl ?_
      refine gf_X7_0_29 (pc := 12) C tf_X7_73 dX7_nextOrder_12 ?_
      refine J.iload_n (pc := 15) C dX7_nextOrder_15 rfl rfl ?_
      obtain ⟨hv, hM⟩ := chk_ex hM
      refine J.iald (pc := 16) C (im_22 q cI) hv dX7_nextOrder_16 ?_
      refine J.aload_n (pc := 17) C dX7_nextOrder_17 rfl rfl ?_
      refine gf_X7_0_29 (pc := 18) C tf_X7_73 dX7_nextOrder_18 ?_
      refine J.iload_n (pc := 21) C dX7_nextOrder_21 rfl rfl ?_
      refine J.iconst (pc := 22) C 1 dX7_nextOrder_22 ic_1 ?_
      refine J.iadd (pc := 23) C dX7_nextOrder_23 ?_
      obtain ⟨hv, hM⟩ := chk_ex hM
      refine J.iald (pc := 24) C (im_22 q cI) hv dX7_nextOrder_24 ?_
      refine J.icmp_le (pc := 25) C 34 dX7_nextOrder_25 (by decide) (fun hc => ?_) (fun hc => ?_)
      · have hM := ite_t hc hM
        refine J.sub C [0, 1] rfl ?_
        exact jb34 _ _ hM
      · have hM := ite_f hc hM
        refine J.iinc (pc := 28) C (-1) dX7_nextOrder_28 ic_m1 rfl (by decide) ?_
        refine J.goto (pc := 31) C 7 dX7_nextOrder_31 (by decide) ?_
        refine J.sub C [0, 1] rfl ?_
        exact hkb7 _ _ hM
  have jl7 : ∀ (x1 : Int32) (g : Sg), lup1 (B_X7_nextOrder_7) FU x1 g = some r → J p l e (RM 1 23) s m args below meth c D (mW q cI) A 5 Q g 7 [(0, .ref (q 0)), (1, .int x1)] [] := 
    lup1_ok (P := fun x1 g => J p l e (RM 1 23) s m args below meth c D (mW q cI) A 5 Q g 7 [(0, .ref (q 0)), (1, .int x1)] []) (fun self hself => jb7 self hself) FU
  have hM := h
  unfold M_X7_nextOrder at hM
  refine J.aload_n (pc := 0) C dX7_nextOrder_0 rfl rfl ?_
  refine gf_X7_0_0 (pc := 1) C tf_X7_84 dX7_nextOrder_1 ?_
  refine J.iconst (pc := 4) C 2 dX7_nextOrder_4 ic_2 ?_
  refine J.isub (pc := 5) C dX7_nextOrder_5 ?_
  refine J.istore_n (pc := 6) C dX7_nextOrder_6 rfl (by decide) ?_
  refine J.sub C [0, 1] rfl ?_
  exact jl7 _ _ hM
def B_X7_best_190 (kb91 : Int32 → Int32 → Int32 → Int32 → Int32 → Sg → Option (Int32 × Sg)) (x1 x2 x6 : Int32) (g : Sg) : Option (Int32 × Sg) := (if 0 ≤ x2 then chk x2 7 (bI (M_X7_nextOrder g) (fun r_22 g_23 => kb91 x1 x2 x6 (rd g 22 x2) r_22 g_23)) else bI (M_X7_nextOrder g) (fun r_24 g_25 => kb91 x1 x2 x6 x6 r_24 g_25))
def B_X7_best_153 (kb91 : Int32 → Int32 → Int32 → Int32 → Int32 → Sg → Option (Int32 × Sg)) (x1 x2 x3 x4 : Int32) (g : Sg) : Option (Int32 × Sg) := bI (M_X7_cost g) (fun r_14 g_15 => (if x1 = 0 then (if x3 = (-9) then B_X7_best_190 kb91 x1 x2 r_14 g_15 else (if x3 ≤ r_14 then bI (M_X7_nextOrder g_15) (fun r_16 g_17 => kb91 x1 x2 x3 x4 r_16 g_17) else B_X7_best_190 kb91 x1 x2 r_14 g_15)) else (if (rd g_15 14 0) = (rd g_15 6 0) then (if x3 = (-9) then B_X7_best_190 kb91 x1 x2 r_14 g_15 else (if x3 ≤ r_14 then bI (M_X7_nextOrder g_15) (fun r_20 g_21 => kb91 x1 x2 x3 x4 r_20 g_21) else B_X7_best_190 kb91 x1 x2 r_14 g_15)) else bI (M_X7_nextOrder g_15) (fun r_18 g_19 => kb91 x1 x2 x3 x4 r_18 g_19))))
def B_X7_best_113 (kb91 : Int32 → Int32 → Int32 → Int32 → Int32 → Sg → Option (Int32 × Sg)) (kb113 : Int32 → Int32 → Int32 → Int32 → Int32 → Sg → Option (Int32 × Sg)) (x1 x2 x3 x4 x6 : Int32) (g : Sg) : Option (Int32 × Sg) := (if (g.1 0) ≤ x6 then B_X7_best_153 kb91 x1 x2 x3 x4 g else chk x6 7 (chk x6 7 (lt (wr g 13 x6 (rd g 22 x6)) (fun g_12 => chk x6 7 (bV (M_X7_goes (rd g_12 13 x6) g_12) (fun g_13 => kb113 x1 x2 x3 x4 (x6 + 1) g_13))))))
def B_X7_best_91 (kb91 : Int32 → Int32 → Int32 → Int32 → Int32 → Sg → Option (Int32 × Sg)) (x1 x2 x3 x4 x5 : Int32) (g : Sg) : Option (Int32 × Sg) := (if x5 = 0 then some (x4, g) else bV (M_X7_sets (-9) g) (fun g_10 => lt (sI g_10 5 (g_10.1 0)) (fun g_11 => lup5 (B_X7_best_113 kb91 ) FU x1 x2 x3 x4 0 g_11)))
def B_X7_best_81 (x1 x2 : Int32) (g : Sg) : Option (Int32 × Sg) := lup5 (B_X7_best_91 ) FU x1 x2 (-9) (-9) 1 g
def B_X7_best_60 (kb60 : Int32 → Int32 → Int32 → Sg → Option (Int32 × Sg)) (x1 x2 x3 : Int32) (g : Sg) : Option (Int32 × Sg) := (if (g.1 0) ≤ x3 then B_X7_best_81 x1 x2 g else chk x3 7 (lt (wr g 22 x3 x3) (fun g_9 => kb60 x1 x2 (x3 + 1) g_9)))
def M_X7_best (x1 x2 : Int32) (g : Sg) : Option (Int32 × Sg) := (if (V_X7_within x1 0 1 g) = 0 then bI (M_X7_no (-2) g) (fun r_7 g_8 => some (r_7, g_8)) else (if (g.1 0) ≤ 6 then (if (-1) ≤ x2 then (if x2 < (g.1 0) then lup3 (B_X7_best_60 ) FU x1 x2 0 g else bI (M_X7_no (-1) g) (fun r_1 g_2 => some (r_1, g_2))) else bI (M_X7_no (-4) g) (fun r_3 g_4 => some (r_3, g_4))) else bI (M_X7_no (-3) g) (fun r_5 g_6 => some (r_5, g_6))))
set_option maxRecDepth 100000 in
set_option maxHeartbeats 4000000 in
theorem C_X7_best {l : Launch} {D : va_G} {q : Nat → Nat} {cI : ClassId} {z : Nat × Nat} {x1 x2 : Int32} {g : Sg} {r : Int32 × Sg} (h : M_X7_best x1 x2 g = some r) : CTi l (EM z) D cI (mW q cI) yX7_best cX7_best 7 (some .int) 3 71 [.ref (q 0), .int x1, .int x2] g r := by
  refine CTi.of2 (by decide) (EM_ok z) (Nat.le_of_ble_eq_true rfl) rfl (fun p e s m args below meth c A Q C hret => ?_)
  have jb190 : ∀ (kb91 : Int32 → Int32 → Int32 → Int32 → Int32 → Sg → Option (Int32 × Sg)) (hkb91 : ∀ (x1 x2 x3 x4 x5 : Int32) (g : Sg), kb91 x1 x2 x3 x4 x5 g = some r → J p l e (RM 3 71) s m args below meth c D (mW q cI) A 7 Q g 91 [(0, .ref (q 0)), (1, .int x1), (2, .int x2), (3, .int x3), (4, .int x4), (5, .int x5)] []) (x1 x2 x6 : Int32) (g : Sg), B_X7_best_190 kb91 x1 x2 x6 g = some r → J p l e (RM 3 71) s m args below meth c D (mW q cI) A 7 Q g 190 [(0, .ref (q 0)), (1, .int x1), (2, .int x2), (6, .int x6)] [] := by
    intro kb91 hkb91 x1 x2 x6 g hM
    unfold B_X7_best_190 at hM
    refine J.iload (pc := 190) C dX7_best_190 rfl ?_
    refine J.istore_n (pc := 192) C dX7_best_192 rfl (by decide) ?_
    refine J.iload_n (pc := 193) C dX7_best_193 rfl rfl ?_
    refine J.if_ge (pc := 194) C 202 dX7_best_194 (by decide) (fun hc => ?_) (fun hc => ?_)
    · have hM := ite_t hc hM
      refine J.aload_n (pc := 202) C dX7_best_202 rfl rfl ?_
      refine gf_X7_0_29 (pc := 203) C tf_X7_73 dX7_best_203 ?_
      refine J.iload_n (pc := 206) C dX7_best_206 rfl rfl ?_
      obtain ⟨hv, hM⟩ := chk_ex hM
      refine J.iald (pc := 207) C (im_22 q cI) hv dX7_best_207 ?_
      refine J.istore (pc := 208) C dX7_best_208 (by decide) ?_
      refine J.aload_n (pc := 210) C dX7_best_210 rfl rfl ?_
      obtain ⟨_, _, h1, hM⟩ := bI_ex hM
      refine J.callV0i (pc := 211) C (C_X7_nextOrder h1) lk_X7_nextOrder tm_X7_195 (io_m q cI) ⟨Nat.le_of_ble_eq_true rfl, Nat.le_of_ble_eq_true rfl⟩ (Nat.le_of_ble_eq_true rfl) dX7_best_211 ?_
      refine J.istore (pc := 214) C dX7_best_214 (by decide) ?_
      refine J.goto (pc := 216) C 91 dX7_best_216 (by decide) ?_
      refine J.sub C [0, 1, 2, 3, 4, 5] rfl ?_
      exact hkb91 _ _ _ _ _ _ hM
    · have hM := ite_f hc hM
      refine J.iload (pc := 197) C dX7_best_197 rfl ?_
      refine J.goto (pc := 199) C 208 dX7_best_199 (by decide) ?_
      refine J.istore (pc := 208) C dX7_best_208 (by decide) ?_
      refine J.aload_n (pc := 210) C dX7_best_210 rfl rfl ?_
      obtain ⟨_, _, h1, hM⟩ := bI_ex hM
      refine J.callV0i (pc := 211) C (C_X7_nextOrder h1) lk_X7_nextOrder tm_X7_195 (io_m q cI) ⟨Nat.le_of_ble_eq_true rfl, Nat.le_of_ble_eq_true rfl⟩ (Nat.le_of_ble_eq_true rfl) dX7_best_211 ?_
      refine J.istore (pc := 214) C dX7_best_214 (by decide) ?_
      refine J.goto (pc := 216) C 91 dX7_best_216 (by decide) ?_
      refine J.sub C [0, 1, 2, 3, 4, 5] rfl ?_
      exact hkb91 _ _ _ _ _ _ hM
  have jb153 : ∀ (kb91 : Int32 → Int32 → Int32 → Int32 → Int32 → Sg → Option (Int32 × Sg)) (hkb91 : ∀ (x1 x2 x3 x4 x5 : Int32) (g : Sg), kb91 x1 x2 x3 x4 x5 g = some r → J p l e (RM 3 71) s m args below meth c D (mW q cI) A 7 Q g 91 [(0, .ref (q 0)), (1, .int x1), (2, .int x2), (3, .int x3), (4, .int x4), (5, .int x5)] []) (x1 x2 x3 x4 : Int32) (g : Sg), B_X7_best_153 kb91 x1 x2 x3 x4 g = some r → J p l e (RM 3 71) s m args below meth c D (mW q cI) A 7 Q g 153 [(0, .ref (q 0)), (1, .int x1), (2, .int x2), (3, .int x3), (4, .int x4)] [] := by
    intro kb91 hkb91 x1 x2 x3 x4 g hM
    unfold B_X7_best_153 at hM
    refine J.aload_n (pc := 153) C dX7_best_153 rfl rfl ?_
    obtain ⟨_, _, h1, hM⟩ := bI_ex hM
    refine J.callV0i (pc := 154) C (C_X7_cost h1) lk_X7_cost tm_X7_188 (io_m q cI) ⟨Nat.le_of_ble_eq_true rfl, Nat.le_of_ble_eq_true rfl⟩ (Nat.le_of_ble_eq_true rfl) dX7_best_154 ?_
    refine J.istore (pc := 157) C dX7_best_157 (by decide) ?_
    refine J.iload_n (pc := 159) C dX7_best_159 rfl rfl ?_
    refine J.if_eq (pc := 160) C 178 dX7_best_160 (by decide) (fun hc => ?_) (fun hc => ?_)
    · have hM := ite_t hc hM
      refine J.iload_n (pc := 178) C dX7_best_178 rfl rfl ?_
      refine J.bipush (pc := 179) C (-9) dX7_best_179 bp_m9 ?_
      refine J.icmp_eq (pc := 181) C 190 dX7_best_181 (by decide) (fun hc => ?_) (fun hc => ?_)
      · have hM := ite_t hc hM
        refine J.sub C [0, 1, 2, 6] rfl ?_
        exact jb190 kb91 hkb91 _ _ _ _ hM
      · have hM := ite_f hc hM
        refine J.iload (pc := 184) C dX7_best_184 rfl ?_
        refine J.iload_n (pc := 186) C dX7_best_186 rfl rfl ?_
        refine J.icmp_ge (pc := 187) C 210 dX7_best_187 (by decide) (fun hc => ?_) (fun hc => ?_)
        · have hM := ite_t hc hM
          refine J.aload_n (pc := 210) C dX7_best_210 rfl rfl ?_
          obtain ⟨_, _, h1, hM⟩ := bI_ex hM
          refine J.callV0i (pc := 211) C (C_X7_nextOrder h1) lk_X7_nextOrder tm_X7_195 (io_m q cI) ⟨Nat.le_of_ble_eq_true rfl, Nat.le_of_ble_eq_true rfl⟩ (Nat.le_of_ble_eq_true rfl) dX7_best_211 ?_
          refine J.istore (pc := 214) C dX7_best_214 (by decide) ?_
          refine J.goto (pc := 216) C 91 dX7_best_216 (by decide) ?_
          refine J.sub C [0, 1, 2, 3, 4, 5] rfl ?_
          exact hkb91 _ _ _ _ _ _ hM
        · have hM := ite_f hc hM
          refine J.sub C [0, 1, 2, 6] rfl ?_
          exact jb190 kb91 hkb91 _ _ _ _ hM
    · have hM := ite_f hc hM
      refine J.aload_n (pc := 163) C dX7_best_163 rfl rfl ?_
      refine gf_X7_0_20 (pc := 164) C tf_X7_49 dX7_best_164 ?_
      refine J.iconst (pc := 167) C 0 dX7_best_167 ic_0 ?_
      refine J.iald (pc := 168) C (im_14 q cI) (vpl rfl) dX7_best_168 ?_
      refine J.aload_n (pc := 169) C dX7_best_169 rfl rfl ?_
      refine gf_X7_0_6 (pc := 170) C tf_X7_25 dX7_best_170 ?_
      refine J.iconst (pc := 173) C 0 dX7_best_173 ic_0 ?_
      refine J.iald (pc := 174) C (im_6 q cI) (vpl rfl) dX7_best_174 ?_
      refine J.icmp_ne (pc := 175) C 210 dX7_best_175 (by decide) (fun hc => ?_) (fun hc => ?_)
      · have hM := ite_f hc hM
        refine J.aload_n (pc := 210) C dX7_best_210 rfl rfl ?_
        obtain ⟨_, _, h1, hM⟩ := bI_ex hM
        refine J.callV0i (pc := 211) C (C_X7_nextOrder h1) lk_X7_nextOrder tm_X7_195 (io_m q cI) ⟨Nat.le_of_ble_eq_true rfl, Nat.le_of_ble_eq_true rfl⟩ (Nat.le_of_ble_eq_true rfl) dX7_best_211 ?_
        refine J.istore (pc := 214) C dX7_best_214 (by decide) ?_
        refine J.goto (pc := 216) C 91 dX7_best_216 (by decide) ?_
        refine J.sub C [0, 1, 2, 3, 4, 5] rfl ?_
        exact hkb91 _ _ _ _ _ _ hM
      · have hM := ite_t hc hM
        refine J.iload_n (pc := 178) C dX7_best_178 rfl rfl ?_
        refine J.bipush (pc := 179) C (-9) dX7_best_179 bp_m9 ?_
        refine J.icmp_eq (pc := 181) C 190 dX7_best_181 (by decide) (fun hc => ?_) (fun hc => ?_)
        · have hM := ite_t hc hM
          refine J.sub C [0, 1, 2, 6] rfl ?_
          exact jb190 kb91 hkb91 _ _ _ _ hM
        · have hM := ite_f hc hM
          refine J.iload (pc := 184) C dX7_best_184 rfl ?_
          refine J.iload_n (pc := 186) C dX7_best_186 rfl rfl ?_
          refine J.icmp_ge (pc := 187) C 210 dX7_best_187 (by decide) (fun hc => ?_) (fun hc => ?_)
          · have hM := ite_t hc hM
            refine J.aload_n (pc := 210) C dX7_best_210 rfl rfl ?_
            obtain ⟨_, _, h1, hM⟩ := bI_ex hM
            refine J.callV0i (pc := 211) C (C_X7_nextOrder h1) lk_X7_nextOrder tm_X7_195 (io_m q cI) ⟨Nat.le_of_ble_eq_true rfl, Nat.le_of_ble_eq_true rfl⟩ (Nat.le_of_ble_eq_true rfl) dX7_best_211 ?_
            refine J.istore (pc := 214) C dX7_best_214 (by decide) ?_
            refine J.goto (pc := 216) C 91 dX7_best_216 (by decide) ?_
            refine J.sub C [0, 1, 2, 3, 4, 5] rfl ?_
            exact hkb91 _ _ _ _ _ _ hM
          · have hM := ite_f hc hM
            refine J.sub C [0, 1, 2, 6] rfl ?_
            exact jb190 kb91 hkb91 _ _ _ _ hM
  have jb113 : ∀ (kb91 : Int32 → Int32 → Int32 → Int32 → Int32 → Sg → Option (Int32 × Sg)) (hkb91 : ∀ (x1 x2 x3 x4 x5 : Int32) (g : Sg), kb91 x1 x2 x3 x4 x5 g = some r → J p l e (RM 3 71) s m args below meth c D (mW q cI) A 7 Q g 91 [(0, .ref (q 0)), (1, .int x1), (2, .int x2), (3, .int x3), (4, .int x4), (5, .int x5)] []) (kb113 : Int32 → Int32 → Int32 → Int32 → Int32 → Sg → Option (Int32 × Sg)) (hkb113 : ∀ (x1 x2 x3 x4 x6 : Int32) (g : Sg), kb113 x1 x2 x3 x4 x6 g = some r → J p l e (RM 3 71) s m args below meth c D (mW q cI) A 7 Q g 113 [(0, .ref (q 0)), (1, .int x1), (2, .int x2), (3, .int x3), (4, .int x4), (6, .int x6)] []) (x1 x2 x3 x4 x6 : Int32) (g : Sg), B_X7_best_113 kb91 kb113 x1 x2 x3 x4 x6 g = some r → J p l e (RM 3 71) s m args below meth c D (mW q cI) A 7 Q g 113 [(0, .ref (q 0)), (1, .int x1), (2, .int x2), (3, .int x3), (4, .int x4), (6, .int x6)] [] := by
    intro kb91 hkb91 kb113 hkb113 x1 x2 x3 x4 x6 g hM
    unfold B_X7_best_113 at hM
    refine J.iload (pc := 113) C dX7_best_113 rfl ?_
    refine J.aload_n (pc := 115) C dX7_best_115 rfl rfl ?_
    refine gf_X7_0_0 (pc := 116) C tf_X7_84 dX7_best_116 ?_
    refine J.icmp_ge (pc := 119) C 153 dX7_best_119 (by decide) (fun hc => ?_) (fun hc => ?_)
    · have hM := ite_t hc hM
      refine J.sub C [0, 1, 2, 3, 4] rfl ?_
      exact jb153 kb91 hkb91 _ _ _ _ _ hM
    · have hM := ite_f hc hM
      refine J.aload_n (pc := 122) C dX7_best_122 rfl rfl ?_
      refine gf_X7_0_18 (pc := 123) C tf_X7_46 dX7_best_123 ?_
      refine J.iload (pc := 126) C dX7_best_126 rfl ?_
      refine J.aload_n (pc := 128) C dX7_best_128 rfl rfl ?_
      refine gf_X7_0_29 (pc := 129) C tf_X7_73 dX7_best_129 ?_
      refine J.iload (pc := 132) C dX7_best_132 rfl ?_
      obtain ⟨hv, hM⟩ := chk_ex hM
      refine J.iald (pc := 134) C (im_22 q cI) hv dX7_best_134 ?_
      obtain ⟨hv, hM⟩ := chk_ex hM
      refine J.iast (pc := 135) C (im_13 q cI) hv dX7_best_135 ?_
      obtain ⟨_, ea, hM⟩ := lt_ex hM
      refine J.cong C ea ?_
      refine J.aload_n (pc := 136) C dX7_best_136 rfl rfl ?_
      refine J.aload_n (pc := 137) C dX7_best_137 rfl rfl ?_
      refine gf_X7_0_18 (pc := 138) C tf_X7_46 dX7_best_138 ?_
      refine J.iload (pc := 141) C dX7_best_141 rfl ?_
      obtain ⟨hv, hM⟩ := chk_ex hM
      refine J.iald (pc := 143) C (im_13 q cI) hv dX7_best_143 ?_
      obtain ⟨_, h1, hM⟩ := bV_ex hM
      refine J.callV1v (pc := 144) C (C_X7_goes h1) lk_X7_goes tm_X7_179 (io_m q cI) ⟨Nat.le_of_ble_eq_true rfl, Nat.le_of_ble_eq_true rfl⟩ (Nat.le_of_ble_eq_true rfl) dX7_best_144 ?_
      refine J.iinc (pc := 147) C 1 dX7_best_147 ic_1 rfl (by decide) ?_
      refine J.goto (pc := 150) C 113 dX7_best_150 (by decide) ?_
      refine J.sub C [0, 1, 2, 3, 4, 6] rfl ?_
      exact hkb113 _ _ _ _ _ _ hM
  have jl113 : ∀ (kb91 : Int32 → Int32 → Int32 → Int32 → Int32 → Sg → Option (Int32 × Sg)) (hkb91 : ∀ (x1 x2 x3 x4 x5 : Int32) (g : Sg), kb91 x1 x2 x3 x4 x5 g = some r → J p l e (RM 3 71) s m args below meth c D (mW q cI) A 7 Q g 91 [(0, .ref (q 0)), (1, .int x1), (2, .int x2), (3, .int x3), (4, .int x4), (5, .int x5)] []) (x1 x2 x3 x4 x6 : Int32) (g : Sg), lup5 (B_X7_best_113 kb91) FU x1 x2 x3 x4 x6 g = some r → J p l e (RM 3 71) s m args below meth c D (mW q cI) A 7 Q g 113 [(0, .ref (q 0)), (1, .int x1), (2, .int x2), (3, .int x3), (4, .int x4), (6, .int x6)] [] := 
    fun kb91 hkb91 => lup5_ok (P := fun x1 x2 x3 x4 x6 g => J p l e (RM 3 71) s m args below meth c D (mW q cI) A 7 Q g 113 [(0, .ref (q 0)), (1, .int x1), (2, .int x2), (3, .int x3), (4, .int x4), (6, .int x6)] []) (fun self hself => jb113 kb91 hkb91 self hself) FU
  have jb91 : ∀ (kb91 : Int32 → Int32 → Int32 → Int32 → Int32 → Sg → Option (Int32 × Sg)) (hkb91 : ∀ (x1 x2 x3 x4 x5 : Int32) (g : Sg), kb91 x1 x2 x3 x4 x5 g = some r → J p l e (RM 3 71) s m args below meth c D (mW q cI) A 7 Q g 91 [(0, .ref (q 0)), (1, .int x1), (2, .int x2), (3, .int x3), (4, .int x4), (5, .int x5)] []) (x1 x2 x3 x4 x5 : Int32) (g : Sg), B_X7_best_91 kb91 x1 x2 x3 x4 x5 g = some r → J p l e (RM 3 71) s m args below meth c D (mW q cI) A 7 Q g 91 [(0, .ref (q 0)), (1, .int x1), (2, .int x2), (3, .int x3), (4, .int x4), (5, .int x5)] [] := by
    intro kb91 hkb91 x1 x2 x3 x4 x5 g hM
    unfold B_X7_best_91 at hM
    refine J.iload (pc := 91) C dX7_best_91 rfl ?_
    refine J.if_eq (pc := 93) C 219 dX7_best_93 (by decide) (fun hc => ?_) (fun hc => ?_)
    · have hM := ite_t hc hM
      refine J.iload (pc := 219) C dX7_best_219 rfl ?_
      exact hret dX7_best_221 hM rfl
    · have hM := ite_f hc hM
      refine J.aload_n (pc := 96) C dX7_best_96 rfl rfl ?_
      refine J.bipush (pc := 97) C (-9) dX7_best_97 bp_m9 ?_
      obtain ⟨_, h1, hM⟩ := bV_ex hM
      refine J.callV1v (pc := 99) C (C_X7_sets h1) lk_X7_sets tm_X7_172 (io_m q cI) ⟨Nat.le_of_ble_eq_true rfl, Nat.le_of_ble_eq_true rfl⟩ (Nat.le_of_ble_eq_true rfl) dX7_best_99 ?_
      refine J.aload_n (pc := 102) C dX7_best_102 rfl rfl ?_
      refine J.aload_n (pc := 103) C dX7_best_103 rfl rfl ?_
      refine gf_X7_0_0 (pc := 104) C tf_X7_84 dX7_best_104 ?_
      refine pf_X7_0_17 (pc := 107) C tf_X7_176 dX7_best_107 ?_
      obtain ⟨_, ea, hM⟩ := lt_ex hM
      refine J.cong C ea ?_
      refine J.iconst (pc := 110) C 0 dX7_best_110 ic_0 ?_
      refine J.istore (pc := 111) C dX7_best_111 (by decide) ?_
      refine J.sub C [0, 1, 2, 3, 4, 6] rfl ?_
      exact jl113 kb91 hkb91 _ _ _ _ _ _ hM
  have jl91 : ∀ (x1 x2 x3 x4 x5 : Int32) (g : Sg), lup5 (B_X7_best_91) FU x1 x2 x3 x4 x5 g = some r → J p l e (RM 3 71) s m args below meth c D (mW q cI) A 7 Q g 91 [(0, .ref (q 0)), (1, .int x1), (2, .int x2), (3, .int x3), (4, .int x4), (5, .int x5)] [] := 
    lup5_ok (P := fun x1 x2 x3 x4 x5 g => J p l e (RM 3 71) s m args below meth c D (mW q cI) A 7 Q g 91 [(0, .ref (q 0)), (1, .int x1), (2, .int x2), (3, .int x3), (4, .int x4), (5, .int x5)] []) (fun self hself => jb91 self hself) FU
  have jb81 : ∀ (x1 x2 : Int32) (g : Sg), B_X7_best_81 x1 x2 g = some r → J p l e (RM 3 71) s m args below meth c D (mW q cI) A 7 Q g 81 [(0, .ref (q 0)), (1, .int x1), (2, .int x2)] [] := by
    intro x1 x2 g hM
    unfold B_X7_best_81 at hM
    refine J.bipush (pc := 81) C (-9) dX7_best_81 bp_m9 ?_
    refine J.istore_n (pc := 83) C dX7_best_83 rfl (by decide) ?_
    refine J.bipush (pc := 84) C (-9) dX7_best_84 bp_m9 ?_
    refine J.istore (pc := 86) C dX7_best_86 (by decide) ?_
    refine J.iconst (pc := 88) C 1 dX7_best_88 ic_1 ?_
    refine J.istore (pc := 89) C dX7_best_89 (by decide) ?_
    refine J.sub C [0, 1, 2, 3, 4, 5] rfl ?_
    exact jl91 _ _ _ _ _ _ hM
  have jb60 : ∀ (kb60 : Int32 → Int32 → Int32 → Sg → Option (Int32 × Sg)) (hkb60 : ∀ (x1 x2 x3 : Int32) (g : Sg), kb60 x1 x2 x3 g = some r → J p l e (RM 3 71) s m args below meth c D (mW q cI) A 7 Q g 60 [(0, .ref (q 0)), (1, .int x1), (2, .int x2), (3, .int x3)] []) (x1 x2 x3 : Int32) (g : Sg), B_X7_best_60 kb60 x1 x2 x3 g = some r → J p l e (RM 3 71) s m args below meth c D (mW q cI) A 7 Q g 60 [(0, .ref (q 0)), (1, .int x1), (2, .int x2), (3, .int x3)] [] := by
    intro kb60 hkb60 x1 x2 x3 g hM
    unfold B_X7_best_60 at hM
    refine J.iload_n (pc := 60) C dX7_best_60 rfl rfl ?_
    refine J.aload_n (pc := 61) C dX7_best_61 rfl rfl ?_
    refine gf_X7_0_0 (pc := 62) C tf_X7_84 dX7_best_62 ?_
    refine J.icmp_ge (pc := 65) C 81 dX7_best_65 (by decide) (fun hc => ?_) (fun hc => ?_)
    · have hM := ite_t hc hM
      refine J.sub C [0, 1, 2] rfl ?_
      exact jb81 _ _ _ hM
    · have hM := ite_f hc hM
      refine J.aload_n (pc := 68) C dX7_best_68 rfl rfl ?_
      refine gf_X7_0_29 (pc := 69) C tf_X7_73 dX7_best_69 ?_
      refine J.iload_n (pc := 72) C dX7_best_72 rfl rfl ?_
      refine J.iload_n (pc := 73) C dX7_best_73 rfl rfl ?_
      obtain ⟨hv, hM⟩ := chk_ex hM
      refine J.iast (pc := 74) C (im_22 q cI) hv dX7_best_74 ?_
      obtain ⟨_, ea, hM⟩ := lt_ex hM
      refine J.cong C ea ?_
      refine J.iinc (pc := 75) C 1 dX7_best_75 ic_1 rfl (by decide) ?_
      refine J.goto (pc := 78) C 60 dX7_best_78 (by decide) ?_
      refine J.sub C [0, 1, 2, 3] rfl ?_
      exact hkb60 _ _ _ _ hM
  have jl60 : ∀ (x1 x2 x3 : Int32) (g : Sg), lup3 (B_X7_best_60) FU x1 x2 x3 g = some r → J p l e (RM 3 71) s m args below meth c D (mW q cI) A 7 Q g 60 [(0, .ref (q 0)), (1, .int x1), (2, .int x2), (3, .int x3)] [] := 
    lup3_ok (P := fun x1 x2 x3 g => J p l e (RM 3 71) s m args below meth c D (mW q cI) A 7 Q g 60 [(0, .ref (q 0)), (1, .int x1), (2, .int x2), (3, .int x3)] []) (fun self hself => jb60 self hself) FU
  have hM := h
  unfold M_X7_best at hM
  refine J.iload_n (pc := 0) C dX7_best_0 rfl rfl ?_
  refine J.iconst (pc := 1) C 0 dX7_best_1 ic_0 ?_
  refine J.iconst (pc := 2) C 1 dX7_best_2 ic_1 ?_
  refine J.callS3i (pc := 3) C (K_X7_within _ _ _ _) lk_X7_within tm_X7_88 ⟨Nat.le_of_ble_eq_true rfl, Nat.le_of_ble_eq_true rfl⟩ (Nat.le_of_ble_eq_true rfl) dX7_best_3 ?_
  refine J.if_ne (pc := 6) C 16 dX7_best_6 (by decide) (fun hc => ?_) (fun hc => ?_)
  · have hM := ite_f hc hM
    refine J.aload_n (pc := 16) C dX7_best_16 rfl rfl ?_
    refine gf_X7_0_0 (pc := 17) C tf_X7_84 dX7_best_17 ?_
    refine J.bipush (pc := 20) C 6 dX7_best_20 bp_6 ?_
    refine J.icmp_le (pc := 22) C 32 dX7_best_22 (by decide) (fun hc => ?_) (fun hc => ?_)
    · have hM := ite_t hc hM
      refine J.iload_n (pc := 32) C dX7_best_32 rfl rfl ?_
      refine J.iconst (pc := 33) C (-1) dX7_best_33 ic_m1 ?_
      refine J.icmp_ge (pc := 34) C 44 dX7_best_34 (by decide) (fun hc => ?_) (fun hc => ?_)
      · have hM := ite_t hc hM
        refine J.iload_n (pc := 44) C dX7_best_44 rfl rfl ?_
        refine J.aload_n (pc := 45) C dX7_best_45 rfl rfl ?_
        refine gf_X7_0_0 (pc := 46) C tf_X7_84 dX7_best_46 ?_
        refine J.icmp_lt (pc := 49) C 58 dX7_best_49 (by decide) (fun hc => ?_) (fun hc => ?_)
        · have hM := ite_t hc hM
          refine J.iconst (pc := 58) C 0 dX7_best_58 ic_0 ?_
          refine J.istore_n (pc := 59) C dX7_best_59 rfl (by decide) ?_
          refine J.sub C [0, 1, 2, 3] rfl ?_
          exact jl60 _ _ _ _ hM
        · have hM := ite_f hc hM
          refine J.aload_n (pc := 52) C dX7_best_52 rfl rfl ?_
          refine J.iconst (pc := 53) C (-1) dX7_best_53 ic_m1 ?_
          obtain ⟨_, _, h1, hM⟩ := bI_ex hM
          refine J.callV1i (pc := 54) C (C_X7_no h1) lk_X7_no tm_X7_80 (io_m q cI) ⟨Nat.le_of_ble_eq_true rfl, Nat.le_of_ble_eq_true rfl⟩ (Nat.le_of_ble_eq_true rfl) dX7_best_54 ?_
          exact hret dX7_best_57 hM rfl
      · have hM := ite_f hc hM
        refine J.aload_n (pc := 37) C dX7_best_37 rfl rfl ?_
        refine J.bipush (pc := 38) C (-4) dX7_best_38 bp_m4 ?_
        obtain ⟨_, _, h1, hM⟩ := bI_ex hM
        refine J.callV1i (pc := 40) C (C_X7_no h1) lk_X7_no tm_X7_80 (io_m q cI) ⟨Nat.le_of_ble_eq_true rfl, Nat.le_of_ble_eq_true rfl⟩ (Nat.le_of_ble_eq_true rfl) dX7_best_40 ?_
        exact hret dX7_best_43 hM rfl
    · have hM := ite_f hc hM
      refine J.aload_n (pc := 25) C dX7_best_25 rfl rfl ?_
      refine J.bipush (pc := 26) C (-3) dX7_best_26 bp_m3 ?_
      obtain ⟨_, _, h1, hM⟩ := bI_ex hM
      refine J.callV1i (pc := 28) C (C_X7_no h1) lk_X7_no tm_X7_80 (io_m q cI) ⟨Nat.le_of_ble_eq_true rfl, Nat.le_of_ble_eq_true rfl⟩ (Nat.le_of_ble_eq_true rfl) dX7_best_28 ?_
      exact hret dX7_best_31 hM rfl
  · have hM := ite_t hc hM
    refine J.aload_n (pc := 9) C dX7_best_9 rfl rfl ?_
    refine J.bipush (pc := 10) C (-2) dX7_best_10 bp_m2 ?_
    obtain ⟨_, _, h1, hM⟩ := bI_ex hM
    refine J.callV1i (pc := 12) C (C_X7_no h1) lk_X7_no tm_X7_80 (io_m q cI) ⟨Nat.le_of_ble_eq_true rfl, Nat.le_of_ble_eq_true rfl⟩ (Nat.le_of_ble_eq_true rfl) dX7_best_12 ?_
    exact hret dX7_best_15 hM rfl
def B_X7_bestPump_60 (x1 x2 : Int32) (g : Sg) : Option (Int32 × Sg) := lt (wr g 6 0 x1) (fun g_4 => some (x2, g_4))
def B_X7_bestPump_14 (kb14 : Int32 → Int32 → Int32 → Int32 → Sg → Option (Int32 × Sg)) (x1 x2 x3 x4 : Int32) (g : Sg) : Option (Int32 × Sg) := (if 40 ≤ x4 then B_X7_bestPump_60 x1 x2 g else lt (wr g 6 0 x4) (fun g_1 => bI (M_X7_costNow g_1) (fun r_2 g_3 => (if x3 < 0 then kb14 x1 x4 r_2 (x4 + 1) g_3 else (if r_2 < x3 then kb14 x1 x4 r_2 (x4 + 1) g_3 else kb14 x1 x2 x3 (x4 + 1) g_3)))))
def M_X7_bestPump (g : Sg) : Option (Int32 × Sg) := lup4 (B_X7_bestPump_14 ) FU (rd g 6 0) 0 (-1) 0 g
set_option maxRecDepth 100000 in
set_option maxHeartbeats 4000000 in
theorem C_X7_bestPump {l : Launch} {D : va_G} {q : Nat → Nat} {cI : ClassId} {z : Nat × Nat} {g : Sg} {r : Int32 × Sg} (h : M_X7_bestPump g = some r) : CTi l (EM z) D cI (mW q cI) yX7_bestPump cX7_bestPump 6 (some .int) 6 135 [.ref (q 0)] g r := by
  refine CTi.of2 (by decide) (EM_ok z) (Nat.le_of_ble_eq_true rfl) rfl (fun p e s m args below meth c A Q C hret => ?_)
  have jb60 : ∀ (x1 x2 : Int32) (g : Sg), B_X7_bestPump_60 x1 x2 g = some r → J p l e (RM 6 135) s m args below meth c D (mW q cI) A 6 Q g 60 [(0, .ref (q 0)), (1, .int x1), (2, .int x2)] [] := by
    intro x1 x2 g hM
    unfold B_X7_bestPump_60 at hM
    refine J.aload_n (pc := 60) C dX7_bestPump_60 rfl rfl ?_
    refine gf_X7_0_6 (pc := 61) C tf_X7_25 dX7_bestPump_61 ?_
    refine J.iconst (pc := 64) C 0 dX7_bestPump_64 ic_0 ?_
    refine J.iload_n (pc := 65) C dX7_bestPump_65 rfl rfl ?_
    refine J.iast (pc := 66) C (im_6 q cI) (vpl rfl) dX7_bestPump_66 ?_
    obtain ⟨_, ea, hM⟩ := lt_ex hM
    refine J.cong C ea ?_
    refine J.iload_n (pc := 67) C dX7_bestPump_67 rfl rfl ?_
    exact hret dX7_bestPump_68 hM rfl
  have jb14 : ∀ (kb14 : Int32 → Int32 → Int32 → Int32 → Sg → Option (Int32 × Sg)) (hkb14 : ∀ (x1 x2 x3 x4 : Int32) (g : Sg), kb14 x1 x2 x3 x4 g = some r → J p l e (RM 6 135) s m args below meth c D (mW q cI) A 6 Q g 14 [(0, .ref (q 0)), (1, .int x1), (2, .int x2), (3, .int x3), (4, .int x4)] []) (x1 x2 x3 x4 : Int32) (g : Sg), B_X7_bestPump_14 kb14 x1 x2 x3 x4 g = some r → J p l e (RM 6 135) s m args below meth c D (mW q cI) A 6 Q g 14 [(0, .ref (q 0)), (1, .int x1), (2, .int x2), (3, .int x3), (4, .int x4)] [] := by
    intro kb14 hkb14 x1 x2 x3 x4 g hM
    unfold B_X7_bestPump_14 at hM
    refine J.iload (pc := 14) C dX7_bestPump_14 rfl ?_
    refine J.bipush (pc := 16) C 40 dX7_bestPump_16 bp_40 ?_
    refine J.icmp_ge (pc := 18) C 60 dX7_bestPump_18 (by decide) (fun hc => ?_) (fun hc => ?_)
    · have hM := ite_t hc hM
      refine J.sub C [0, 1, 2] rfl ?_
      exact jb60 _ _ _ hM
    · have hM := ite_f hc hM
      refine J.aload_n (pc := 21) C dX7_bestPump_21 rfl rfl ?_
      refine gf_X7_0_6 (pc := 22) C tf_X7_25 dX7_bestPump_22 ?_
      refine J.iconst (pc := 25) C 0 dX7_bestPump_25 ic_0 ?_
      refine J.iload (pc := 26) C dX7_bestPump_26 rfl ?_
      refine J.iast (pc := 28) C (im_6 q cI) (vpl rfl) dX7_bestPump_28 ?_
      obtain ⟨_, ea, hM⟩ := lt_ex hM
      refine J.cong C ea ?_
      refine J.aload_n (pc := 29) C dX7_bestPump_29 rfl rfl ?_
      obtain ⟨_, _, h1, hM⟩ := bI_ex hM
      refine J.callV0i (pc := 30) C (C_X7_costNow h1) lk_X7_costNow tm_X7_199 (io_m q cI) ⟨Nat.le_of_ble_eq_true rfl, Nat.le_of_ble_eq_true rfl⟩ (Nat.le_of_ble_eq_true rfl) dX7_bestPump_30 ?_
      refine J.istore (pc := 33) C dX7_bestPump_33 (by decide) ?_
      refine J.iload_n (pc := 35) C dX7_bestPump_35 rfl rfl ?_
      refine J.if_lt (pc := 36) C 48 dX7_bestPump_36 (by decide) (fun hc => ?_) (fun hc => ?_)
      · have hM := ite_t hc hM
        refine J.iload (pc := 48) C dX7_bestPump_48 rfl ?_
        refine J.istore_n (pc := 50) C dX7_bestPump_50 rfl (by decide) ?_
        refine J.iload (pc := 51) C dX7_bestPump_51 rfl ?_
        refine J.istore_n (pc := 53) C dX7_bestPump_53 rfl (by decide) ?_
        refine J.iinc (pc := 54) C 1 dX7_bestPump_54 ic_1 rfl (by decide) ?_
        refine J.goto (pc := 57) C 14 dX7_bestPump_57 (by decide) ?_
        refine J.sub C [0, 1, 2, 3, 4] rfl ?_
        exact hkb14 _ _ _ _ _ hM
      · have hM := ite_f hc hM
        refine J.iload (pc := 39) C dX7_bestPump_39 rfl ?_
        refine J.iload_n (pc := 41) C dX7_bestPump_41 rfl rfl ?_
        refine J.icmp_lt (pc := 42) C 48 dX7_bestPump_42 (by decide) (fun hc => ?_) (fun hc => ?_)
        · have hM := ite_t hc hM
          refine J.iload (pc := 48) C dX7_bestPump_48 rfl ?_
          refine J.istore_n (pc := 50) C dX7_bestPump_50 rfl (by decide) ?_
          refine J.iload (pc := 51) C dX7_bestPump_51 rfl ?_
          refine J.istore_n (pc := 53) C dX7_bestPump_53 rfl (by decide) ?_
          refine J.iinc (pc := 54) C 1 dX7_bestPump_54 ic_1 rfl (by decide) ?_
          refine J.goto (pc := 57) C 14 dX7_bestPump_57 (by decide) ?_
          refine J.sub C [0, 1, 2, 3, 4] rfl ?_
          exact hkb14 _ _ _ _ _ hM
        · have hM := ite_f hc hM
          refine J.goto (pc := 45) C 54 dX7_bestPump_45 (by decide) ?_
          refine J.iinc (pc := 54) C 1 dX7_bestPump_54 ic_1 rfl (by decide) ?_
          refine J.goto (pc := 57) C 14 dX7_bestPump_57 (by decide) ?_
          refine J.sub C [0, 1, 2, 3, 4] rfl ?_
          exact hkb14 _ _ _ _ _ hM
  have jl14 : ∀ (x1 x2 x3 x4 : Int32) (g : Sg), lup4 (B_X7_bestPump_14) FU x1 x2 x3 x4 g = some r → J p l e (RM 6 135) s m args below meth c D (mW q cI) A 6 Q g 14 [(0, .ref (q 0)), (1, .int x1), (2, .int x2), (3, .int x3), (4, .int x4)] [] := 
    lup4_ok (P := fun x1 x2 x3 x4 g => J p l e (RM 6 135) s m args below meth c D (mW q cI) A 6 Q g 14 [(0, .ref (q 0)), (1, .int x1), (2, .int x2), (3, .int x3), (4, .int x4)] []) (fun self hself => jb14 self hself) FU
  have hM := h
  unfold M_X7_bestPump at hM
  refine J.aload_n (pc := 0) C dX7_bestPump_0 rfl rfl ?_
  refine gf_X7_0_6 (pc := 1) C tf_X7_25 dX7_bestPump_1 ?_
  refine J.iconst (pc := 4) C 0 dX7_bestPump_4 ic_0 ?_
  refine J.iald (pc := 5) C (im_6 q cI) (vpl rfl) dX7_bestPump_5 ?_
  refine J.istore_n (pc := 6) C dX7_bestPump_6 rfl (by decide) ?_
  refine J.iconst (pc := 7) C 0 dX7_bestPump_7 ic_0 ?_
  refine J.istore_n (pc := 8) C dX7_bestPump_8 rfl (by decide) ?_
  refine J.iconst (pc := 9) C (-1) dX7_bestPump_9 ic_m1 ?_
  refine J.istore_n (pc := 10) C dX7_bestPump_10 rfl (by decide) ?_
  refine J.iconst (pc := 11) C 0 dX7_bestPump_11 ic_0 ?_
  refine J.istore (pc := 12) C dX7_bestPump_12 (by decide) ?_
  refine J.sub C [0, 1, 2, 3, 4] rfl ?_
  exact jl14 _ _ _ _ _ hM
def B_X7_bestHour_78 (x1 x2 x3 : Int32) (g : Sg) : Option (Int32 × Sg) := chk x1 7 (lt (wr g 5 x1 x2) (fun g_6 => some (x3, g_6)))
def B_X7_bestHour_29 (kb29 : Int32 → Int32 → Int32 → Int32 → Int32 → Sg → Option (Int32 × Sg)) (x1 x2 x3 x4 x5 : Int32) (g : Sg) : Option (Int32 × Sg) := (if 12 ≤ x5 then B_X7_bestHour_78 x1 x2 x3 g else chk x1 7 (lt (wr g 5 x1 x5) (fun g_3 => bI (M_X7_costNow g_3) (fun r_4 g_5 => (if x4 < 0 then kb29 x1 x2 x5 r_4 (x5 + 1) g_5 else (if r_4 < x4 then kb29 x1 x2 x5 r_4 (x5 + 1) g_5 else kb29 x1 x2 x3 x4 (x5 + 1) g_5))))))
def M_X7_bestHour (x1 : Int32) (g : Sg) : Option (Int32 × Sg) := (if (V_X7_isGoer x1 g) = 0 then bI (M_X7_no (-1) g) (fun r_1 g_2 => some (r_1, g_2)) else chk x1 7 (lup5 (B_X7_bestHour_29 ) FU x1 (rd g 5 x1) 0 (-1) 0 g))
set_option maxRecDepth 100000 in
set_option maxHeartbeats 4000000 in
theorem C_X7_bestHour {l : Launch} {D : va_G} {q : Nat → Nat} {cI : ClassId} {z : Nat × Nat} {x1 : Int32} {g : Sg} {r : Int32 × Sg} (h : M_X7_bestHour x1 g = some r) : CTi l (EM z) D cI (mW q cI) yX7_bestHour cX7_bestHour 7 (some .int) 6 135 [.ref (q 0), .int x1] g r := by
  refine CTi.of2 (by decide) (EM_ok z) (Nat.le_of_ble_eq_true rfl) rfl (fun p e s m args below meth c A Q C hret => ?_)
  have jb78 : ∀ (x1 x2 x3 : Int32) (g : Sg), B_X7_bestHour_78 x1 x2 x3 g = some r → J p l e (RM 6 135) s m args below meth c D (mW q cI) A 7 Q g 78 [(0, .ref (q 0)), (1, .int x1), (2, .int x2), (3, .int x3)] [] := by
    intro x1 x2 x3 g hM
    unfold B_X7_bestHour_78 at hM
    refine J.aload_n (pc := 78) C dX7_bestHour_78 rfl rfl ?_
    refine gf_X7_0_5 (pc := 79) C tf_X7_22 dX7_bestHour_79 ?_
    refine J.iload_n (pc := 82) C dX7_bestHour_82 rfl rfl ?_
    refine J.iload_n (pc := 83) C dX7_bestHour_83 rfl rfl ?_
    obtain ⟨hv, hM⟩ := chk_ex hM
    refine J.iast (pc := 84) C (im_5 q cI) hv dX7_bestHour_84 ?_
    obtain ⟨_, ea, hM⟩ := lt_ex hM
    refine J.cong C ea ?_
    refine J.iload_n (pc := 85) C dX7_bestHour_85 rfl rfl ?_
    exact hret dX7_bestHour_86 hM rfl
  have jb29 : ∀ (kb29 : Int32 → Int32 → Int32 → Int32 → Int32 → Sg → Option (Int32 × Sg)) (hkb29 : ∀ (x1 x2 x3 x4 x5 : Int32) (g : Sg), kb29 x1 x2 x3 x4 x5 g = some r → J p l e (RM 6 135) s m args below meth c D (mW q cI) A 7 Q g 29 [(0, .ref (q 0)), (1, .int x1), (2, .int x2), (3, .int x3), (4, .int x4), (5, .int x5)] []) (x1 x2 x3 x4 x5 : Int32) (g : Sg), B_X7_bestHour_29 kb29 x1 x2 x3 x4 x5 g = some r → J p l e (RM 6 135) s m args below meth c D (mW q cI) A 7 Q g 29 [(0, .ref (q 0)), (1, .int x1), (2, .int x2), (3, .int x3), (4, .int x4), (5, .int x5)] [] := by
    intro kb29 hkb29 x1 x2 x3 x4 x5 g hM
    unfold B_X7_bestHour_29 at hM
    refine J.iload (pc := 29) C dX7_bestHour_29 rfl ?_
    refine J.bipush (pc := 31) C 12 dX7_bestHour_31 bp_12 ?_
    refine J.icmp_ge (pc := 33) C 78 dX7_bestHour_33 (by decide) (fun hc => ?_) (fun hc => ?_)
    · have hM := ite_t hc hM
      refine J.sub C [0, 1, 2, 3] rfl ?_
      exact jb78 _ _ _ _ hM
    · have hM := ite_f hc hM
      refine J.aload_n (pc := 36) C dX7_bestHour_36 rfl rfl ?_
      refine gf_X7_0_5 (pc := 37) C tf_X7_22 dX7_bestHour_37 ?_
      refine J.iload_n (pc := 40) C dX7_bestHour_40 rfl rfl ?_
      refine J.iload (pc := 41) C dX7_bestHour_41 rfl ?_
      obtain ⟨hv, hM⟩ := chk_ex hM
      refine J.iast (pc := 43) C (im_5 q cI) hv dX7_bestHour_43 ?_
      obtain ⟨_, ea, hM⟩ := lt_ex hM
      refine J.cong C ea ?_
      refine J.aload_n (pc := 44) C dX7_bestHour_44 rfl rfl ?_
      obtain ⟨_, _, h1, hM⟩ := bI_ex hM
      refine J.callV0i (pc := 45) C (C_X7_costNow h1) lk_X7_costNow tm_X7_199 (io_m q cI) ⟨Nat.le_of_ble_eq_true rfl, Nat.le_of_ble_eq_true rfl⟩ (Nat.le_of_ble_eq_true rfl) dX7_bestHour_45 ?_
      refine J.istore (pc := 48) C dX7_bestHour_48 (by decide) ?_
      refine J.iload (pc := 50) C dX7_bestHour_50 rfl ?_
      refine J.if_lt (pc := 52) C 65 dX7_bestHour_52 (by decide) (fun hc => ?_) (fun hc => ?_)
      · have hM := ite_t hc hM
        refine J.iload (pc := 65) C dX7_bestHour_65 rfl ?_
        refine J.istore (pc := 67) C dX7_bestHour_67 (by decide) ?_
        refine J.iload (pc := 69) C dX7_bestHour_69 rfl ?_
        refine J.istore_n (pc := 71) C dX7_bestHour_71 rfl (by decide) ?_
        refine J.iinc (pc := 72) C 1 dX7_bestHour_72 ic_1 rfl (by decide) ?_
        refine J.goto (pc := 75) C 29 dX7_bestHour_75 (by decide) ?_
        refine J.sub C [0, 1, 2, 3, 4, 5] rfl ?_
        exact hkb29 _ _ _ _ _ _ hM
      · have hM := ite_f hc hM
        refine J.iload (pc := 55) C dX7_bestHour_55 rfl ?_
        refine J.iload (pc := 57) C dX7_bestHour_57 rfl ?_
        refine J.icmp_lt (pc := 59) C 65 dX7_bestHour_59 (by decide) (fun hc => ?_) (fun hc => ?_)
        · have hM := ite_t hc hM
          refine J.iload (pc := 65) C dX7_bestHour_65 rfl ?_
          refine J.istore (pc := 67) C dX7_bestHour_67 (by decide) ?_
          refine J.iload (pc := 69) C dX7_bestHour_69 rfl ?_
          refine J.istore_n (pc := 71) C dX7_bestHour_71 rfl (by decide) ?_
          refine J.iinc (pc := 72) C 1 dX7_bestHour_72 ic_1 rfl (by decide) ?_
          refine J.goto (pc := 75) C 29 dX7_bestHour_75 (by decide) ?_
          refine J.sub C [0, 1, 2, 3, 4, 5] rfl ?_
          exact hkb29 _ _ _ _ _ _ hM
        · have hM := ite_f hc hM
          refine J.goto (pc := 62) C 72 dX7_bestHour_62 (by decide) ?_
          refine J.iinc (pc := 72) C 1 dX7_bestHour_72 ic_1 rfl (by decide) ?_
          refine J.goto (pc := 75) C 29 dX7_bestHour_75 (by decide) ?_
          refine J.sub C [0, 1, 2, 3, 4, 5] rfl ?_
          exact hkb29 _ _ _ _ _ _ hM
  have jl29 : ∀ (x1 x2 x3 x4 x5 : Int32) (g : Sg), lup5 (B_X7_bestHour_29) FU x1 x2 x3 x4 x5 g = some r → J p l e (RM 6 135) s m args below meth c D (mW q cI) A 7 Q g 29 [(0, .ref (q 0)), (1, .int x1), (2, .int x2), (3, .int x3), (4, .int x4), (5, .int x5)] [] := 
    lup5_ok (P := fun x1 x2 x3 x4 x5 g => J p l e (RM 6 135) s m args below meth c D (mW q cI) A 7 Q g 29 [(0, .ref (q 0)), (1, .int x1), (2, .int x2), (3, .int x3), (4, .int x4), (5, .int x5)] []) (fun self hself => jb29 self hself) FU
  have hM := h
  unfold M_X7_bestHour at hM
  refine J.aload_n (pc := 0) C dX7_bestHour_0 rfl rfl ?_
  refine J.iload_n (pc := 1) C dX7_bestHour_1 rfl rfl ?_
  refine J.callV1i (pc := 2) C (K_X7_isGoer _ _) lk_X7_isGoer tm_X7_121 (io_m q cI) ⟨Nat.le_of_ble_eq_true rfl, Nat.le_of_ble_eq_true rfl⟩ (Nat.le_of_ble_eq_true rfl) dX7_bestHour_2 ?_
  refine J.if_ne (pc := 5) C 14 dX7_bestHour_5 (by decide) (fun hc => ?_) (fun hc => ?_)
  · have hM := ite_f hc hM
    refine J.aload_n (pc := 14) C dX7_bestHour_14 rfl rfl ?_
    refine gf_X7_0_5 (pc := 15) C tf_X7_22 dX7_bestHour_15 ?_
    refine J.iload_n (pc := 18) C dX7_bestHour_18 rfl rfl ?_
    obtain ⟨hv, hM⟩ := chk_ex hM
    refine J.iald (pc := 19) C (im_5 q cI) hv dX7_bestHour_19 ?_
    refine J.istore_n (pc := 20) C dX7_bestHour_20 rfl (by decide) ?_
    refine J.iconst (pc := 21) C 0 dX7_bestHour_21 ic_0 ?_
    refine J.istore_n (pc := 22) C dX7_bestHour_22 rfl (by decide) ?_
    refine J.iconst (pc := 23) C (-1) dX7_bestHour_23 ic_m1 ?_
    refine J.istore (pc := 24) C dX7_bestHour_24 (by decide) ?_
    refine J.iconst (pc := 26) C 0 dX7_bestHour_26 ic_0 ?_
    refine J.istore (pc := 27) C dX7_bestHour_27 (by decide) ?_
    refine J.sub C [0, 1, 2, 3, 4, 5] rfl ?_
    exact jl29 _ _ _ _ _ _ hM
  · have hM := ite_t hc hM
    refine J.aload_n (pc := 8) C dX7_bestHour_8 rfl rfl ?_
    refine J.iconst (pc := 9) C (-1) dX7_bestHour_9 ic_m1 ?_
    obtain ⟨_, _, h1, hM⟩ := bI_ex hM
    refine J.callV1i (pc := 10) C (C_X7_no h1) lk_X7_no tm_X7_80 (io_m q cI) ⟨Nat.le_of_ble_eq_true rfl, Nat.le_of_ble_eq_true rfl⟩ (Nat.le_of_ble_eq_true rfl) dX7_bestHour_10 ?_
    exact hret dX7_bestHour_13 hM rfl
def M_X7_without (x1 : Int32) (g : Sg) : Option (Int32 × Sg) := (if (V_X7_isGoer x1 g) = 0 then bI (M_X7_noMuch (-1) g) (fun r_6 g_7 => some (r_6, g_7)) else bI (M_X7_costNow g) (fun r_1 g_2 => bV (M_X7_run x1 (-9) g_2) (fun g_3 => bI (M_X7_cost g_3) (fun r_4 g_5 => some (r_1 - r_4, g_5)))))
set_option maxRecDepth 100000 in
set_option maxHeartbeats 4000000 in
theorem C_X7_without {l : Launch} {D : va_G} {q : Nat → Nat} {cI : ClassId} {z : Nat × Nat} {x1 : Int32} {g : Sg} {r : Int32 × Sg} (h : M_X7_without x1 g = some r) : CTi l (EM z) D cI (mW q cI) yX7_without cX7_without 3 (some .int) 6 135 [.ref (q 0), .int x1] g r := by
  refine CTi.of2 (by decide) (EM_ok z) (Nat.le_of_ble_eq_true rfl) rfl (fun p e s m args below meth c A Q C hret => ?_)
  have hM := h
  unfold M_X7_without at hM
  refine J.aload_n (pc := 0) C dX7_without_0 rfl rfl ?_
  refine J.iload_n (pc := 1) C dX7_without_1 rfl rfl ?_
  refine J.callV1i (pc := 2) C (K_X7_isGoer _ _) lk_X7_isGoer tm_X7_121 (io_m q cI) ⟨Nat.le_of_ble_eq_true rfl, Nat.le_of_ble_eq_true rfl⟩ (Nat.le_of_ble_eq_true rfl) dX7_without_2 ?_
  refine J.if_ne (pc := 5) C 14 dX7_without_5 (by decide) (fun hc => ?_) (fun hc => ?_)
  · have hM := ite_f hc hM
    refine J.aload_n (pc := 14) C dX7_without_14 rfl rfl ?_
    obtain ⟨_, _, h1, hM⟩ := bI_ex hM
    refine J.callV0i (pc := 15) C (C_X7_costNow h1) lk_X7_costNow tm_X7_199 (io_m q cI) ⟨Nat.le_of_ble_eq_true rfl, Nat.le_of_ble_eq_true rfl⟩ (Nat.le_of_ble_eq_true rfl) dX7_without_15 ?_
    refine J.istore_n (pc := 18) C dX7_without_18 rfl (by decide) ?_
    refine J.aload_n (pc := 19) C dX7_without_19 rfl rfl ?_
    refine J.iload_n (pc := 20) C dX7_without_20 rfl rfl ?_
    refine J.bipush (pc := 21) C (-9) dX7_without_21 bp_m9 ?_
    obtain ⟨_, h1, hM⟩ := bV_ex hM
    refine J.callV2v (pc := 23) C (C_X7_run h1) lk_X7_run tm_X7_182 (io_m q cI) ⟨Nat.le_of_ble_eq_true rfl, Nat.le_of_ble_eq_true rfl⟩ (Nat.le_of_ble_eq_true rfl) dX7_without_23 ?_
    refine J.iload_n (pc := 26) C dX7_without_26 rfl rfl ?_
    refine J.aload_n (pc := 27) C dX7_without_27 rfl rfl ?_
    obtain ⟨_, _, h1, hM⟩ := bI_ex hM
    refine J.callV0i (pc := 28) C (C_X7_cost h1) lk_X7_cost tm_X7_188 (io_m q cI) ⟨Nat.le_of_ble_eq_true rfl, Nat.le_of_ble_eq_true rfl⟩ (Nat.le_of_ble_eq_true rfl) dX7_without_28 ?_
    refine J.isub (pc := 31) C dX7_without_31 ?_
    exact hret dX7_without_32 hM rfl
  · have hM := ite_t hc hM
    refine J.aload_n (pc := 8) C dX7_without_8 rfl rfl ?_
    refine J.iconst (pc := 9) C (-1) dX7_without_9 ic_m1 ?_
    obtain ⟨_, _, h1, hM⟩ := bI_ex hM
    refine J.callV1i (pc := 10) C (C_X7_noMuch h1) lk_X7_noMuch tm_X7_202 (io_m q cI) ⟨Nat.le_of_ble_eq_true rfl, Nat.le_of_ble_eq_true rfl⟩ (Nat.le_of_ble_eq_true rfl) dX7_without_10 ?_
    exact hret dX7_without_13 hM rfl
def M_X7_secondAt (x1 : Int32) (g : Sg) : Option (Int32 × Sg) := bI (M_X7_costNow g) (fun r_1 g_2 => bV (M_X7_run (-9) x1 g_2) (fun g_3 => bI (M_X7_cost g_3) (fun r_4 g_5 => some (r_1 - r_4, g_5))))
set_option maxRecDepth 100000 in
set_option maxHeartbeats 4000000 in
theorem C_X7_secondAt {l : Launch} {D : va_G} {q : Nat → Nat} {cI : ClassId} {z : Nat × Nat} {x1 : Int32} {g : Sg} {r : Int32 × Sg} (h : M_X7_secondAt x1 g = some r) : CTi l (EM z) D cI (mW q cI) yX7_secondAt cX7_secondAt 3 (some .int) 6 135 [.ref (q 0), .int x1] g r := by
  refine CTi.of2 (by decide) (EM_ok z) (Nat.le_of_ble_eq_true rfl) rfl (fun p e s m args below meth c A Q C hret => ?_)
  have hM := h
  unfold M_X7_secondAt at hM
  refine J.aload_n (pc := 0) C dX7_secondAt_0 rfl rfl ?_
  obtain ⟨_, _, h1, hM⟩ := bI_ex hM
  refine J.callV0i (pc := 1) C (C_X7_costNow h1) lk_X7_costNow tm_X7_199 (io_m q cI) ⟨Nat.le_of_ble_eq_true rfl, Nat.le_of_ble_eq_true rfl⟩ (Nat.le_of_ble_eq_true rfl) dX7_secondAt_1 ?_
  refine J.istore_n (pc := 4) C dX7_secondAt_4 rfl (by decide) ?_
  refine J.aload_n (pc := 5) C dX7_secondAt_5 rfl rfl ?_
  refine J.bipush (pc := 6) C (-9) dX7_secondAt_6 bp_m9 ?_
  refine J.iload_n (pc := 8) C dX7_secondAt_8 rfl rfl ?_
  obtain ⟨_, h1, hM⟩ := bV_ex hM
  refine J.callV2v (pc := 9) C (C_X7_run h1) lk_X7_run tm_X7_182 (io_m q cI) ⟨Nat.le_of_ble_eq_true rfl, Nat.le_of_ble_eq_true rfl⟩ (Nat.le_of_ble_eq_true rfl) dX7_secondAt_9 ?_
  refine J.iload_n (pc := 12) C dX7_secondAt_12 rfl rfl ?_
  refine J.aload_n (pc := 13) C dX7_secondAt_13 rfl rfl ?_
  obtain ⟨_, _, h1, hM⟩ := bI_ex hM
  refine J.callV0i (pc := 14) C (C_X7_cost h1) lk_X7_cost tm_X7_188 (io_m q cI) ⟨Nat.le_of_ble_eq_true rfl, Nat.le_of_ble_eq_true rfl⟩ (Nat.le_of_ble_eq_true rfl) dX7_secondAt_14 ?_
  refine J.isub (pc := 17) C dX7_secondAt_17 ?_
  exact hret dX7_secondAt_18 hM rfl
def M_X7_second (x1 : Int32) (g : Sg) : Option (Int32 × Sg) := (if (V_X7_isCell x1 g) = 0 then bI (M_X7_noMuch (-1) g) (fun r_1 g_2 => some (r_1, g_2)) else bI (M_X7_secondAt x1 g) (fun r_3 g_4 => some (r_3, g_4)))
set_option maxRecDepth 100000 in
set_option maxHeartbeats 4000000 in
theorem C_X7_second {l : Launch} {D : va_G} {q : Nat → Nat} {cI : ClassId} {z : Nat × Nat} {x1 : Int32} {g : Sg} {r : Int32 × Sg} (h : M_X7_second x1 g = some r) : CTi l (EM z) D cI (mW q cI) yX7_second cX7_second 2 (some .int) 7 157 [.ref (q 0), .int x1] g r := by
  refine CTi.of2 (by decide) (EM_ok z) (Nat.le_of_ble_eq_true rfl) rfl (fun p e s m args below meth c A Q C hret => ?_)
  have hM := h
  unfold M_X7_second at hM
  refine J.iload_n (pc := 0) C dX7_second_0 rfl rfl ?_
  refine J.callS1i (pc := 1) C (K_X7_isCell _ _) lk_X7_isCell tm_X7_115 ⟨Nat.le_of_ble_eq_true rfl, Nat.le_of_ble_eq_true rfl⟩ (Nat.le_of_ble_eq_true rfl) dX7_second_1 ?_
  refine J.if_eq (pc := 4) C 15 dX7_second_4 (by decide) (fun hc => ?_) (fun hc => ?_)
  · have hM := ite_t hc hM
    refine J.aload_n (pc := 15) C dX7_second_15 rfl rfl ?_
    refine J.iconst (pc := 16) C (-1) dX7_second_16 ic_m1 ?_
    obtain ⟨_, _, h1, hM⟩ := bI_ex hM
    refine J.callV1i (pc := 17) C (C_X7_noMuch h1) lk_X7_noMuch tm_X7_202 (io_m q cI) ⟨Nat.le_of_ble_eq_true rfl, Nat.le_of_ble_eq_true rfl⟩ (Nat.le_of_ble_eq_true rfl) dX7_second_17 ?_
    exact hret dX7_second_20 hM rfl
  · have hM := ite_f hc hM
    refine J.aload_n (pc := 7) C dX7_second_7 rfl rfl ?_
    refine J.iload_n (pc := 8) C dX7_second_8 rfl rfl ?_
    obtain ⟨_, _, h1, hM⟩ := bI_ex hM
    refine J.callV1i (pc := 9) C (C_X7_secondAt h1) lk_X7_secondAt tm_X7_205 (io_m q cI) ⟨Nat.le_of_ble_eq_true rfl, Nat.le_of_ble_eq_true rfl⟩ (Nat.le_of_ble_eq_true rfl) dX7_second_9 ?_
    refine J.goto (pc := 12) C 20 dX7_second_12 (by decide) ?_
    exact hret dX7_second_20 hM rfl
def B_X7_bestSecond_4 (kb4 : Int32 → Int32 → Sg → Option (Int32 × Sg)) (x1 x2 : Int32) (g : Sg) : Option (Int32 × Sg) := (if 40 ≤ x2 then some (x1, g) else bI (M_X7_secondAt x2 g) (fun r_1 g_2 => bI (M_X7_secondAt x1 g_2) (fun r_3 g_4 => (if r_1 ≤ r_3 then kb4 x1 (x2 + 1) g_4 else kb4 x2 (x2 + 1) g_4))))
def M_X7_bestSecond (g : Sg) : Option (Int32 × Sg) := lup2 (B_X7_bestSecond_4 ) FU 0 1 g
set_option maxRecDepth 100000 in
set_option maxHeartbeats 4000000 in
theorem C_X7_bestSecond {l : Launch} {D : va_G} {q : Nat → Nat} {cI : ClassId} {z : Nat × Nat} {g : Sg} {r : Int32 × Sg} (h : M_X7_bestSecond g = some r) : CTi l (EM z) D cI (mW q cI) yX7_bestSecond cX7_bestSecond 3 (some .int) 7 157 [.ref (q 0)] g r := by
  refine CTi.of2 (by decide) (EM_ok z) (Nat.le_of_ble_eq_true rfl) rfl (fun p e s m args below meth c A Q C hret => ?_)
  have jb4 : ∀ (kb4 : Int32 → Int32 → Sg → Option (Int32 × Sg)) (hkb4 : ∀ (x1 x2 : Int32) (g : Sg), kb4 x1 x2 g = some r → J p l e (RM 7 157) s m args below meth c D (mW q cI) A 3 Q g 4 [(0, .ref (q 0)), (1, .int x1), (2, .int x2)] []) (x1 x2 : Int32) (g : Sg), B_X7_bestSecond_4 kb4 x1 x2 g = some r → J p l e (RM 7 157) s m args below meth c D (mW q cI) A 3 Q g 4 [(0, .ref (q 0)), (1, .int x1), (2, .int x2)] [] := by
    intro kb4 hkb4 x1 x2 g hM
    unfold B_X7_bestSecond_4 at hM
    refine J.iload_n (pc := 4) C dX7_bestSecond_4 rfl rfl ?_
    refine J.bipush (pc := 5) C 40 dX7_bestSecond_5 bp_40 ?_
    refine J.icmp_ge (pc := 7) C 31 dX7_bestSecond_7 (by decide) (fun hc => ?_) (fun hc => ?_)
    · have hM := ite_t hc hM
      refine J.iload_n (pc := 31) C dX7_bestSecond_31 rfl rfl ?_
      exact hret dX7_bestSecond_32 hM rfl
    · have hM := ite_f hc hM
      refine J.aload_n (pc := 10) C dX7_bestSecond_10 rfl rfl ?_
      refine J.iload_n (pc := 11) C dX7_bestSecond_11 rfl rfl ?_
      obtain ⟨_, _, h1, hM⟩ := bI_ex hM
      refine J.callV1i (pc := 12) C (C_X7_secondAt h1) lk_X7_secondAt tm_X7_205 (io_m q cI) ⟨Nat.le_of_ble_eq_true rfl, Nat.le_of_ble_eq_true rfl⟩ (Nat.le_of_ble_eq_true rfl) dX7_bestSecond_12 ?_
      refine J.aload_n (pc := 15) C dX7_bestSecond_15 rfl rfl ?_
      refine J.iload_n (pc := 16) C dX7_bestSecond_16 rfl rfl ?_
      obtain ⟨_, _, h1, hM⟩ := bI_ex hM
      refine J.callV1i (pc := 17) C (C_X7_secondAt h1) lk_X7_secondAt tm_X7_205 (io_m q cI) ⟨Nat.le_of_ble_eq_true rfl, Nat.le_of_ble_eq_true rfl⟩ (Nat.le_of_ble_eq_true rfl) dX7_bestSecond_17 ?_
      refine J.icmp_le (pc := 20) C 25 dX7_bestSecond_20 (by decide) (fun hc => ?_) (fun hc => ?_)
      · have hM := ite_t hc hM
        refine J.iinc (pc := 25) C 1 dX7_bestSecond_25 ic_1 rfl (by decide) ?_
        refine J.goto (pc := 28) C 4 dX7_bestSecond_28 (by decide) ?_
        refine J.sub C [0, 1, 2] rfl ?_
        exact hkb4 _ _ _ hM
      · have hM := ite_f hc hM
        refine J.iload_n (pc := 23) C dX7_bestSecond_23 rfl rfl ?_
        refine J.istore_n (pc := 24) C dX7_bestSecond_24 rfl (by decide) ?_
        refine J.iinc (pc := 25) C 1 dX7_bestSecond_25 ic_1 rfl (by decide) ?_
        refine J.goto (pc := 28) C 4 dX7_bestSecond_28 (by decide) ?_
        refine J.sub C [0, 1, 2] rfl ?_
        exact hkb4 _ _ _ hM
  have jl4 : ∀ (x1 x2 : Int32) (g : Sg), lup2 (B_X7_bestSecond_4) FU x1 x2 g = some r → J p l e (RM 7 157) s m args below meth c D (mW q cI) A 3 Q g 4 [(0, .ref (q 0)), (1, .int x1), (2, .int x2)] [] := 
    lup2_ok (P := fun x1 x2 g => J p l e (RM 7 157) s m args below meth c D (mW q cI) A 3 Q g 4 [(0, .ref (q 0)), (1, .int x1), (2, .int x2)] []) (fun self hself => jb4 self hself) FU
  have hM := h
  unfold M_X7_bestSecond at hM
  refine J.iconst (pc := 0) C 0 dX7_bestSecond_0 ic_0 ?_
  refine J.istore_n (pc := 1) C dX7_bestSecond_1 rfl (by decide) ?_
  refine J.iconst (pc := 2) C 1 dX7_bestSecond_2 ic_1 ?_
  refine J.istore_n (pc := 3) C dX7_bestSecond_3 rfl (by decide) ?_
  refine J.sub C [0, 1, 2] rfl ?_
  exact jl4 _ _ _ hM
def B_X7_owe_42 (kb34 : Int32 → Int32 → Sg → Option Sg) (kb42 : Int32 → Int32 → Int32 → Sg → Option Sg) (x1 x2 x3 : Int32) (g : Sg) : Option Sg := (if (g.1 0) ≤ x3 then kb34 x1 (x2 + 1) g else chk x3 7 ((if (rd g 5 x3) = x2 then (if x1 = (-9) then bV (M_X7_goes x3 g) (fun g_3 => kb42 x3 x2 (x3 + 1) g_3) else chk x1 7 ((if (rd g 19 x1) = (-9) then bV (M_X7_goes x3 g) (fun g_4 => kb42 x3 x2 (x3 + 1) g_4) else chk x3 7 (chk x3 7 (lt (imax 0 ((iabs ((rd g 14 0) - (rd g 3 x3))) - (iabs ((rd g 6 0) - (rd g 3 x3))))) (fun x4_5 => chk x3 7 (chk x3 7 (lt (wr g 21 x3 ((rd g 21 x3) + x4_5)) (fun g_6 => chk x1 7 (chk x1 7 (lt (wr g_6 21 x1 ((rd g_6 21 x1) - x4_5)) (fun g_7 => bV (M_X7_goes x3 g_7) (fun g_8 => kb42 x3 x2 (x3 + 1) g_8))))))))))))) else kb42 x1 x2 (x3 + 1) g)))
def B_X7_owe_34 (kb34 : Int32 → Int32 → Sg → Option Sg) (x1 x2 : Int32) (g : Sg) : Option Sg := (if 12 ≤ x2 then some g else lup3 (B_X7_owe_42 kb34 ) FU x1 x2 0 g)
def B_X7_owe_8 (kb8 : Int32 → Sg → Option Sg) (x1 : Int32) (g : Sg) : Option Sg := (if (g.1 0) ≤ x1 then lup2 (B_X7_owe_34 ) FU (-9) 0 g else chk x1 7 (lt (wr g 21 x1 0) (fun g_2 => kb8 (x1 + 1) g_2)))
def M_X7_owe (g : Sg) : Option Sg := bV (M_X7_sets (-9) g) (fun g_1 => lup1 (B_X7_owe_8 ) FU 0 g_1)
set_option maxRecDepth 100000 in
set_option maxHeartbeats 4000000 in
theorem C_X7_owe {l : Launch} {D : va_G} {q : Nat → Nat} {cI : ClassId} {z : Nat × Nat} {g : Sg} {r : Sg} (h : M_X7_owe g = some r) : CTv l (EM z) D cI (mW q cI) yX7_owe cX7_owe 5 3 71 [.ref (q 0)] g r := by
  refine CTv.of2 (by decide) (EM_ok z) (Nat.le_of_ble_eq_true rfl) rfl (fun p e s m args below meth c A Q C hret => ?_)
  have jb42 : ∀ (kb34 : Int32 → Int32 → Sg → Option Sg) (hkb34 : ∀ (x1 x2 : Int32) (g : Sg), kb34 x1 x2 g = some r → J p l e (RM 3 71) s m args below meth c D (mW q cI) A 5 Q g 34 [(0, .ref (q 0)), (1, .int x1), (2, .int x2)] []) (kb42 : Int32 → Int32 → Int32 → Sg → Option Sg) (hkb42 : ∀ (x1 x2 x3 : Int32) (g : Sg), kb42 x1 x2 x3 g = some r → J p l e (RM 3 71) s m args below meth c D (mW q cI) A 5 Q g 42 [(0, .ref (q 0)), (1, .int x1), (2, .int x2), (3, .int x3)] []) (x1 x2 x3 : Int32) (g : Sg), B_X7_owe_42 kb34 kb42 x1 x2 x3 g = some r → J p l e (RM 3 71) s m args below meth c D (mW q cI) A 5 Q g 42 [(0, .ref (q 0)), (1, .int x1), (2, .int x2), (3, .int x3)] [] := by
    intro kb34 hkb34 kb42 hkb42 x1 x2 x3 g hM
    unfold B_X7_owe_42 at hM
    refine J.iload_n (pc := 42) C dX7_owe_42 rfl rfl ?_
    refine J.aload_n (pc := 43) C dX7_owe_43 rfl rfl ?_
    refine gf_X7_0_0 (pc := 44) C tf_X7_84 dX7_owe_44 ?_
    refine J.icmp_ge (pc := 47) C 154 dX7_owe_47 (by decide) (fun hc => ?_) (fun hc => ?_)
    · have hM := ite_t hc hM
      refine J.iinc (pc := 154) C 1 dX7_owe_154 ic_1 rfl (by decide) ?_
      refine J.goto (pc := 157) C 34 dX7_owe_157 (by decide) ?_
      refine J.sub C [0, 1, 2] rfl ?_
      exact hkb34 _ _ _ hM
    · have hM := ite_f hc hM
      refine J.aload_n (pc := 50) C dX7_owe_50 rfl rfl ?_
      refine gf_X7_0_5 (pc := 51) C tf_X7_22 dX7_owe_51 ?_
      refine J.iload_n (pc := 54) C dX7_owe_54 rfl rfl ?_
      obtain ⟨hv, hM⟩ := chk_ex hM
      refine J.iald (pc := 55) C (im_5 q cI) hv dX7_owe_55 ?_
      refine J.iload_n (pc := 56) C dX7_owe_56 rfl rfl ?_
      refine J.icmp_eq (pc := 57) C 63 dX7_owe_57 (by decide) (fun hc => ?_) (fun hc => ?_)
      · have hM := ite_t hc hM
        refine J.iload_n (pc := 63) C dX7_owe_63 rfl rfl ?_
        refine J.bipush (pc := 64) C (-9) dX7_owe_64 bp_m9 ?_
        refine J.icmp_eq (pc := 66) C 141 dX7_owe_66 (by decide) (fun hc => ?_) (fun hc => ?_)
        · have hM := ite_t hc hM
          refine J.aload_n (pc := 141) C dX7_owe_141 rfl rfl ?_
          refine J.iload_n (pc := 142) C dX7_owe_142 rfl rfl ?_
          obtain ⟨_, h1, hM⟩ := bV_ex hM
          refine J.callV1v (pc := 143) C (C_X7_goes h1) lk_X7_goes tm_X7_179 (io_m q cI) ⟨Nat.le_of_ble_eq_true rfl, Nat.le_of_ble_eq_true rfl⟩ (Nat.le_of_ble_eq_true rfl) dX7_owe_143 ?_
          refine J.iload_n (pc := 146) C dX7_owe_146 rfl rfl ?_
          refine J.istore_n (pc := 147) C dX7_owe_147 rfl (by decide) ?_
          refine J.iinc (pc := 148) C 1 dX7_owe_148 ic_1 rfl (by decide) ?_
          refine J.goto (pc := 151) C 42 dX7_owe_151 (by decide) ?_
          refine J.sub C [0, 1, 2, 3] rfl ?_
          exact hkb42 _ _ _ _ hM
        · have hM := ite_f hc hM
          refine J.aload_n (pc := 69) C dX7_owe_69 rfl rfl ?_
          refine gf_X7_0_25 (pc := 70) C tf_X7_64 dX7_owe_70 ?_
          refine J.iload_n (pc := 73) C dX7_owe_73 rfl rfl ?_
          obtain ⟨hv, hM⟩ := chk_ex hM
          refine J.iald (pc := 74) C (im_19 q cI) hv dX7_owe_74 ?_
          refine J.bipush (pc := 75) C (-9) dX7_owe_75 bp_m9 ?_
          refine J.icmp_eq (pc := 77) C 141 dX7_owe_77 (by decide) (fun hc => ?_) (fun hc => ?_)
          · have hM := ite_t hc hM
            refine J.aload_n (pc := 141) C dX7_owe_141 rfl rfl ?_
            refine J.iload_n (pc := 142) C dX7_owe_142 rfl rfl ?_
            obtain ⟨_, h1, hM⟩ := bV_ex hM
            refine J.callV1v (pc := 143) C (C_X7_goes h1) lk_X7_goes tm_X7_179 (io_m q cI) ⟨Nat.le_of_ble_eq_true rfl, Nat.le_of_ble_eq_true rfl⟩ (Nat.le_of_ble_eq_true rfl) dX7_owe_143 ?_
            refine J.iload_n (pc := 146) C dX7_owe_146 rfl rfl ?_
            refine J.istore_n (pc := 147) C dX7_owe_147 rfl (by decide) ?_
            refine J.iinc (pc := 148) C 1 dX7_owe_148 ic_1 rfl (by decide) ?_
            refine J.goto (pc := 151) C 42 dX7_owe_151 (by decide) ?_
            refine J.sub C [0, 1, 2, 3] rfl ?_
            exact hkb42 _ _ _ _ hM
          · have hM := ite_f hc hM
            refine J.iconst (pc := 80) C 0 dX7_owe_80 ic_0 ?_
            refine J.aload_n (pc := 81) C dX7_owe_81 rfl rfl ?_
            refine gf_X7_0_20 (pc := 82) C tf_X7_49 dX7_owe_82 ?_
            refine J.iconst (pc := 85) C 0 dX7_owe_85 ic_0 ?_
            refine J.iald (pc := 86) C (im_14 q cI) (vpl rfl) dX7_owe_86 ?_
            refine J.aload_n (pc := 87) C dX7_owe_87 rfl rfl ?_
            refine gf_X7_0_3 (pc := 88) C tf_X7_16 dX7_owe_88 ?_
            refine J.iload_n (pc := 91) C dX7_owe_91 rfl rfl ?_
            obtain ⟨hv, hM⟩ := chk_ex hM
            refine J.iald (pc := 92) C (im_3 q cI) hv dX7_owe_92 ?_
            refine J.isub (pc := 93) C dX7_owe_93 ?_
            refine J.mabs (pc := 94) C tm_X7_144 (Nat.le_of_ble_eq_true rfl) (Nat.le_of_ble_eq_true rfl) dX7_owe_94 ?_
            refine J.aload_n (pc := 97) C dX7_owe_97 rfl rfl ?_
            refine gf_X7_0_6 (pc := 98) C tf_X7_25 dX7_owe_98 ?_
            refine J.iconst (pc := 101) C 0 dX7_owe_101 ic_0 ?_
            refine J.iald (pc := 102) C (im_6 q cI) (vpl rfl) dX7_owe_102 ?_
            refine J.aload_n (pc := 103) C dX7_owe_103 rfl rfl ?_
            refine gf_X7_0_3 (pc := 104) C tf_X7_16 dX7_owe_104 ?_
            refine J.iload_n (pc := 107) C dX7_owe_107 rfl rfl ?_
            obtain ⟨hv, hM⟩ := chk_ex hM
            refine J.iald (pc := 108) C (im_3 q cI) hv dX7_owe_108 ?_
            refine J.isub (pc := 109) C dX7_owe_109 ?_
            refine J.mabs (pc := 110) C tm_X7_144 (Nat.le_of_ble_eq_true rfl) (Nat.le_of_ble_eq_true rfl) dX7_owe_110 ?_
            refine J.isub (pc := 113) C dX7_owe_113 ?_
            refine J.mmax (pc := 114) C tm_X7_208 (Nat.le_of_ble_eq_true rfl) (Nat.le_of_ble_eq_true rfl) dX7_owe_114 ?_
            obtain ⟨_, ea, hM⟩ := lt_ex hM
            refine J.istoreV (pc := 117) C dX7_owe_117 (by decide) ea ?_
            refine J.aload_n (pc := 119) C dX7_owe_119 rfl rfl ?_
            refine gf_X7_0_28 (pc := 120) C tf_X7_70 dX7_owe_120 ?_
            refine J.iload_n (pc := 123) C dX7_owe_123 rfl rfl ?_
            refine J.dup2 (pc := 124) C dX7_owe_124 rfl rfl ?_
            obtain ⟨hv, hM⟩ := chk_ex hM
            refine J.iald (pc := 125) C (im_21 q cI) hv dX7_owe_125 ?_
            refine J.iload (pc := 126) C dX7_owe_126 rfl ?_
            refine J.iadd (pc := 128) C dX7_owe_128 ?_
            obtain ⟨hv, hM⟩ := chk_ex hM
            refine J.iast (pc := 129) C (im_21 q cI) hv dX7_owe_129 ?_
            obtain ⟨_, ea, hM⟩ := lt_ex hM
            refine J.cong C ea ?_
            refine J.aload_n (pc := 130) C dX7_owe_130 rfl rfl ?_
            refine gf_X7_0_28 (pc := 131) C tf_X7_70 dX7_owe_131 ?_
            refine J.iload_n (pc := 134) C dX7_owe_134 rfl rfl ?_
            refine J.dup2 (pc := 135) C dX7_owe_135 rfl rfl ?_
            obtain ⟨hv, hM⟩ := chk_ex hM
            refine J.iald (pc := 136) C (im_21 q cI) hv dX7_owe_136 ?_
            refine J.iload (pc := 137) C dX7_owe_137 rfl ?_
            refine J.isub (pc := 139) C dX7_owe_139 ?_
            obtain ⟨hv, hM⟩ := chk_ex hM
            refine J.iast (pc := 140) C (im_21 q cI) hv dX7_owe_140 ?_
            obtain ⟨_, ea, hM⟩ := lt_ex hM
            refine J.cong C ea ?_
            refine J.aload_n (pc := 141) C dX7_owe_141 rfl rfl ?_
            refine J.iload_n (pc := 142) C dX7_owe_142 rfl rfl ?_
            obtain ⟨_, h1, hM⟩ := bV_ex hM
            refine J.callV1v (pc := 143) C (C_X7_goes h1) lk_X7_goes tm_X7_179 (io_m q cI) ⟨Nat.le_of_ble_eq_true rfl, Nat.le_of_ble_eq_true rfl⟩ (Nat.le_of_ble_eq_true rfl) dX7_owe_143 ?_
            refine J.iload_n (pc := 146) C dX7_owe_146 rfl rfl ?_
            refine J.istore_n (pc := 147) C dX7_owe_147 rfl (by decide) ?_
            refine J.iinc (pc := 148) C 1 dX7_owe_148 ic_1 rfl (by decide) ?_
            refine J.goto (pc := 151) C 42 dX7_owe_151 (by decide) ?_
            refine J.sub C [0, 1, 2, 3] rfl ?_
            exact hkb42 _ _ _ _ hM
      · have hM := ite_f hc hM
        refine J.goto (pc := 60) C 148 dX7_owe_60 (by decide) ?_
        refine J.iinc (pc := 148) C 1 dX7_owe_148 ic_1 rfl (by decide) ?_
        refine J.goto (pc := 151) C 42 dX7_owe_151 (by decide) ?_
        refine J.sub C [0, 1, 2, 3] rfl ?_
        exact hkb42 _ _ _ _ hM
  have jl42 : ∀ (kb34 : Int32 → Int32 → Sg → Option Sg) (hkb34 : ∀ (x1 x2 : Int32) (g : Sg), kb34 x1 x2 g = some r → J p l e (RM 3 71) s m args below meth c D (mW q cI) A 5 Q g 34 [(0, .ref (q 0)), (1, .int x1), (2, .int x2)] []) (x1 x2 x3 : Int32) (g : Sg), lup3 (B_X7_owe_42 kb34) FU x1 x2 x3 g = some r → J p l e (RM 3 71) s m args below meth c D (mW q cI) A 5 Q g 42 [(0, .ref (q 0)), (1, .int x1), (2, .int x2), (3, .int x3)] [] := 
    fun kb34 hkb34 => lup3_ok (P := fun x1 x2 x3 g => J p l e (RM 3 71) s m args below meth c D (mW q cI) A 5 Q g 42 [(0, .ref (q 0)), (1, .int x1), (2, .int x2), (3, .int x3)] []) (fun self hself => jb42 kb34 hkb34 self hself) FU
  have jb34 : ∀ (kb34 : Int32 → Int32 → Sg → Option Sg) (hkb34 : ∀ (x1 x2 : Int32) (g : Sg), kb34 x1 x2 g = some r → J p l e (RM 3 71) s m args below meth c D (mW q cI) A 5 Q g 34 [(0, .ref (q 0)), (1, .int x1), (2, .int x2)] []) (x1 x2 : Int32) (g : Sg), B_X7_owe_34 kb34 x1 x2 g = some r → J p l e (RM 3 71) s m args below meth c D (mW q cI) A 5 Q g 34 [(0, .ref (q 0)), (1, .int x1), (2, .int x2)] [] := by
    intro kb34 hkb34 x1 x2 g hM
    unfold B_X7_owe_34 at hM
    refine J.iload_n (pc := 34) C dX7_owe_34 rfl rfl ?_
    refine J.bipush (pc := 35) C 12 dX7_owe_35 bp_12 ?_
    refine J.icmp_ge (pc := 37) C 160 dX7_owe_37 (by decide) (fun hc => ?_) (fun hc => ?_)
    · have hM := ite_t hc hM
      exact hret dX7_owe_160 hM
    · have hM := ite_f hc hM
      refine J.iconst (pc := 40) C 0 dX7_owe_40 ic_0 ?_
      refine J.istore_n (pc := 41) C dX7_owe_41 rfl (by decide) ?_
      refine J.sub C [0, 1, 2, 3] rfl ?_
      exact jl42 kb34 hkb34 _ _ _ _ hM
  have jl34 : ∀ (x1 x2 : Int32) (g : Sg), lup2 (B_X7_owe_34) FU x1 x2 g = some r → J p l e (RM 3 71) s m args below meth c D (mW q cI) A 5 Q g 34 [(0, .ref (q 0)), (1, .int x1), (2, .int x2)] [] := 
    lup2_ok (P := fun x1 x2 g => J p l e (RM 3 71) s m args below meth c D (mW q cI) A 5 Q g 34 [(0, .ref (q 0)), (1, .int x1), (2, .int x2)] []) (fun self hself => jb34 self hself) FU
  have jb8 : ∀ (kb8 : Int32 → Sg → Option Sg) (hkb8 : ∀ (x1 : Int32) (g : Sg), kb8 x1 g = some r → J p l e (RM 3 71) s m args below meth c D (mW q cI) A 5 Q g 8 [(0, .ref (q 0)), (1, .int x1)] []) (x1 : Int32) (g : Sg), B_X7_owe_8 kb8 x1 g = some r → J p l e (RM 3 71) s m args below meth c D (mW q cI) A 5 Q g 8 [(0, .ref (q 0)), (1, .int x1)] [] := by
    intro kb8 hkb8 x1 g hM
    unfold B_X7_owe_8 at hM
    refine J.iload_n (pc := 8) C dX7_owe_8 rfl rfl ?_
    refine J.aload_n (pc := 9) C dX7_owe_9 rfl rfl ?_
    refine gf_X7_0_0 (pc := 10) C tf_X7_84 dX7_owe_10 ?_
    refine J.icmp_ge (pc := 13) C 29 dX7_owe_13 (by decide) (fun hc => ?_) (fun hc => ?_)
    · have hM := ite_t hc hM
      refine J.bipush (pc := 29) C (-9) dX7_owe_29 bp_m9 ?_
      refine J.istore_n (pc := 31) C dX7_owe_31 rfl (by decide) ?_
      refine J.iconst (pc := 32) C 0 dX7_owe_32 ic_0 ?_
      refine J.istore_n (pc := 33) C dX7_owe_33 rfl (by decide) ?_
      refine J.sub C [0, 1, 2] rfl ?_
      exact jl34 _ _ _ hM
    · have hM := ite_f hc hM
      refine J.aload_n (pc := 16) C dX7_owe_16 rfl rfl ?_
      refine gf_X7_0_28 (pc := 17) C tf_X7_70 dX7_owe_17 ?_
      refine J.iload_n (pc := 20) C dX7_owe_20 rfl rfl ?_
      refine J.iconst (pc := 21) C 0 dX7_owe_21 ic_0 ?_
      obtain ⟨hv, hM⟩ := chk_ex hM
      refine J.iast (pc := 22) C (im_21 q cI) hv dX7_owe_22 ?_
      obtain ⟨_, ea, hM⟩ := lt_ex hM
      refine J.cong C ea ?_
      refine J.iinc (pc := 23) C 1 dX7_owe_23 ic_1 rfl (by decide) ?_
      refine J.goto (pc := 26) C 8 dX7_owe_26 (by decide) ?_
      refine J.sub C [0, 1] rfl ?_
      exact hkb8 _ _ hM
  have jl8 : ∀ (x1 : Int32) (g : Sg), lup1 (B_X7_owe_8) FU x1 g = some r → J p l e (RM 3 71) s m args below meth c D (mW q cI) A 5 Q g 8 [(0, .ref (q 0)), (1, .int x1)] [] := 
    lup1_ok (P := fun x1 g => J p l e (RM 3 71) s m args below meth c D (mW q cI) A 5 Q g 8 [(0, .ref (q 0)), (1, .int x1)] []) (fun self hself => jb8 self hself) FU
  have hM := h
  unfold M_X7_owe at hM
  refine J.aload_n (pc := 0) C dX7_owe_0 rfl rfl ?_
  refine J.bipush (pc := 1) C (-9) dX7_owe_1 bp_m9 ?_
  obtain ⟨_, h1, hM⟩ := bV_ex hM
  refine J.callV1v (pc := 3) C (C_X7_sets h1) lk_X7_sets tm_X7_172 (io_m q cI) ⟨Nat.le_of_ble_eq_true rfl, Nat.le_of_ble_eq_true rfl⟩ (Nat.le_of_ble_eq_true rfl) dX7_owe_3 ?_
  refine J.iconst (pc := 6) C 0 dX7_owe_6 ic_0 ?_
  refine J.istore_n (pc := 7) C dX7_owe_7 rfl (by decide) ?_
  refine J.sub C [0, 1] rfl ?_
  exact jl8 _ _ hM
def M_X7_net (x1 : Int32) (g : Sg) : Option (Int32 × Sg) := (if (V_X7_isGoer x1 g) = 0 then bI (M_X7_noMuch (-1) g) (fun r_2 g_3 => some (r_2, g_3)) else bV (M_X7_owe g) (fun g_1 => chk x1 7 (some (rd g_1 21 x1, g_1))))
set_option maxRecDepth 100000 in
set_option maxHeartbeats 4000000 in
theorem C_X7_net {l : Launch} {D : va_G} {q : Nat → Nat} {cI : ClassId} {z : Nat × Nat} {x1 : Int32} {g : Sg} {r : Int32 × Sg} (h : M_X7_net x1 g = some r) : CTi l (EM z) D cI (mW q cI) yX7_net cX7_net 2 (some .int) 4 95 [.ref (q 0), .int x1] g r := by
  refine CTi.of2 (by decide) (EM_ok z) (Nat.le_of_ble_eq_true rfl) rfl (fun p e s m args below meth c A Q C hret => ?_)
  have hM := h
  unfold M_X7_net at hM
  refine J.aload_n (pc := 0) C dX7_net_0 rfl rfl ?_
  refine J.iload_n (pc := 1) C dX7_net_1 rfl rfl ?_
  refine J.callV1i (pc := 2) C (K_X7_isGoer _ _) lk_X7_isGoer tm_X7_121 (io_m q cI) ⟨Nat.le_of_ble_eq_true rfl, Nat.le_of_ble_eq_true rfl⟩ (Nat.le_of_ble_eq_true rfl) dX7_net_2 ?_
  refine J.if_ne (pc := 5) C 14 dX7_net_5 (by decide) (fun hc => ?_) (fun hc => ?_)
  · have hM := ite_f hc hM
    refine J.aload_n (pc := 14) C dX7_net_14 rfl rfl ?_
    obtain ⟨_, h1, hM⟩ := bV_ex hM
    refine J.callV0v (pc := 15) C (C_X7_owe h1) lk_X7_owe tm_X7_211 (io_m q cI) ⟨Nat.le_of_ble_eq_true rfl, Nat.le_of_ble_eq_true rfl⟩ (Nat.le_of_ble_eq_true rfl) dX7_net_15 ?_
    refine J.aload_n (pc := 18) C dX7_net_18 rfl rfl ?_
    refine gf_X7_0_28 (pc := 19) C tf_X7_70 dX7_net_19 ?_
    refine J.iload_n (pc := 22) C dX7_net_22 rfl rfl ?_
    obtain ⟨hv, hM⟩ := chk_ex hM
    refine J.iald (pc := 23) C (im_21 q cI) hv dX7_net_23 ?_
    exact hret dX7_net_24 hM rfl
  · have hM := ite_t hc hM
    refine J.aload_n (pc := 8) C dX7_net_8 rfl rfl ?_
    refine J.iconst (pc := 9) C (-1) dX7_net_9 ic_m1 ?_
    obtain ⟨_, _, h1, hM⟩ := bI_ex hM
    refine J.callV1i (pc := 10) C (C_X7_noMuch h1) lk_X7_noMuch tm_X7_202 (io_m q cI) ⟨Nat.le_of_ble_eq_true rfl, Nat.le_of_ble_eq_true rfl⟩ (Nat.le_of_ble_eq_true rfl) dX7_net_10 ?_
    exact hret dX7_net_13 hM rfl
def B_X7_payments_231 (x1 x2 : Int32) (g : Sg) : Option (Int32 × Sg) := chk x2 128 (some (x1 - (rd g 23 x2), g))
def B_X7_payments_202 (kb202 : Int32 → Int32 → Int32 → Sg → Option (Int32 × Sg)) (x1 x2 x3 : Int32) (g : Sg) : Option (Int32 × Sg) := (if (g.1 0) ≤ x3 then B_X7_payments_231 x1 x2 g else chk x3 7 ((if (rd g 21 x3) = 0 then kb202 x1 x2 (x3 + 1) g else kb202 x1 (x2 ||| (1 <<< (x3 &&& 31))) (x3 + 1) g)))
def B_X7_payments_158 (kb36 : Int32 → Int32 → Sg → Option (Int32 × Sg)) (x1 x2 x3 x4 : Int32) (g : Sg) : Option (Int32 × Sg) := (if x4 = (-9) then chk x2 128 (lt (wr g 23 x2 0) (fun g_8 => kb36 x1 (x2 + 1) g_8)) else (if x3 = 0 then (if x2 ≤ 0 then chk x2 128 (lt (wr g 23 x2 x4) (fun g_6 => kb36 x1 (x2 + 1) g_6)) else chk x2 128 (lt (wr g 23 x2 (x4 + 1)) (fun g_7 => kb36 x1 (x2 + 1) g_7))) else chk x2 128 (lt (wr g 23 x2 x4) (fun g_5 => kb36 x1 (x2 + 1) g_5))))
def B_X7_payments_108 (kb36 : Int32 → Int32 → Sg → Option (Int32 × Sg)) (kb108 : Int32 → Int32 → Int32 → Int32 → Int32 → Sg → Option (Int32 × Sg)) (x1 x2 x3 x4 x5 : Int32) (g : Sg) : Option (Int32 × Sg) := (if (g.1 0) ≤ x5 then B_X7_payments_158 kb36 x1 x2 x3 x4 g else (if x4 = (-9) then B_X7_payments_158 kb36 x1 x2 x3 x4 g else (if ((x2 >>> (x5 &&& 31)) &&& 1) = 1 then chk (x2 ^^^ (1 <<< (x5 &&& 31))) 128 (lt (imax x4 (rd g 23 (x2 ^^^ (1 <<< (x5 &&& 31))))) (fun x4_4 => kb108 x1 x2 x3 x4_4 (x5 + 1) g)) else kb108 x1 x2 x3 x4 (x5 + 1) g)))
def B_X7_payments_54 (kb36 : Int32 → Int32 → Sg → Option (Int32 × Sg)) (kb54 : Int32 → Int32 → Int32 → Int32 → Int32 → Sg → Option (Int32 × Sg)) (x1 x2 x3 x4 x5 : Int32) (g : Sg) : Option (Int32 × Sg) := (if (g.1 0) ≤ x5 then lup5 (B_X7_payments_108 kb36 ) FU x1 x2 x3 x4 0 g else (if ((x2 >>> (x5 &&& 31)) &&& 1) = 0 then kb54 x1 x2 x3 x4 (x5 + 1) g else chk x5 7 ((if (rd g 21 x5) = 0 then chk x5 7 (lt (x3 + (rd g 21 x5)) (fun x3_3 => kb54 x1 x2 x3_3 (-9) (x5 + 1) g)) else chk x5 7 (lt (x3 + (rd g 21 x5)) (fun x3_2 => kb54 x1 x2 x3_2 x4 (x5 + 1) g))))))
def B_X7_payments_36 (kb36 : Int32 → Int32 → Sg → Option (Int32 × Sg)) (x1 x2 : Int32) (g : Sg) : Option (Int32 × Sg) := (if (1 <<< ((g.1 0) &&& 31)) ≤ x2 then lup3 (B_X7_payments_202 ) FU x1 0 0 g else lup5 (B_X7_payments_54 kb36 ) FU x1 x2 0 0 0 g)
def B_X7_payments_8 (kb8 : Int32 → Int32 → Sg → Option (Int32 × Sg)) (x1 x2 : Int32) (g : Sg) : Option (Int32 × Sg) := (if (g.1 0) ≤ x2 then lup2 (B_X7_payments_36 ) FU x1 0 g else chk x2 7 ((if (rd g 21 x2) = 0 then kb8 x1 (x2 + 1) g else kb8 (x1 + 1) (x2 + 1) g)))
def M_X7_payments (g : Sg) : Option (Int32 × Sg) := bV (M_X7_owe g) (fun g_1 => lup2 (B_X7_payments_8 ) FU 0 0 g_1)
set_option maxRecDepth 100000 in
set_option maxHeartbeats 4000000 in
theorem C_X7_payments {l : Launch} {D : va_G} {q : Nat → Nat} {cI : ClassId} {z : Nat × Nat} {g : Sg} {r : Int32 × Sg} (h : M_X7_payments g = some r) : CTi l (EM z) D cI (mW q cI) yX7_payments cX7_payments 6 (some .int) 4 95 [.ref (q 0)] g r := by
  refine CTi.of2 (by decide) (EM_ok z) (Nat.le_of_ble_eq_true rfl) rfl (fun p e s m args below meth c A Q C hret => ?_)
  have jb231 : ∀ (x1 x2 : Int32) (g : Sg), B_X7_payments_231 x1 x2 g = some r → J p l e (RM 4 95) s m args below meth c D (mW q cI) A 6 Q g 231 [(0, .ref (q 0)), (1, .int x1), (2, .int x2)] [] := by
    intro x1 x2 g hM
    unfold B_X7_payments_231 at hM
    refine J.iload_n (pc := 231) C dX7_payments_231 rfl rfl ?_
    refine J.aload_n (pc := 232) C dX7_payments_232 rfl rfl ?_
    refine gf_X7_0_30 (pc := 233) C tf_X7_76 dX7_payments_233 ?_
    refine J.iload_n (pc := 236) C dX7_payments_236 rfl rfl ?_
    obtain ⟨hv, hM⟩ := chk_ex hM
    refine J.iald (pc := 237) C (im_23 q cI) hv dX7_payments_237 ?_
    refine J.isub (pc := 238) C dX7_payments_238 ?_
    exact hret dX7_payments_239 hM rfl
  have jb202 : ∀ (kb202 : Int32 → Int32 → Int32 → Sg → Option (Int32 × Sg)) (hkb202 : ∀ (x1 x2 x3 : Int32) (g : Sg), kb202 x1 x2 x3 g = some r → J p l e (RM 4 95) s m args below meth c D (mW q cI) A 6 Q g 202 [(0, .ref (q 0)), (1, .int x1), (2, .int x2), (3, .int x3)] []) (x1 x2 x3 : Int32) (g : Sg), B_X7_payments_202 kb202 x1 x2 x3 g = some r → J p l e (RM 4 95) s m args below meth c D (mW q cI) A 6 Q g 202 [(0, .ref (q 0)), (1, .int x1), (2, .int x2), (3, .int x3)] [] := by
    intro kb202 hkb202 x1 x2 x3 g hM
    unfold B_X7_payments_202 at hM
    refine J.iload_n (pc := 202) C dX7_payments_202 rfl rfl ?_
    refine J.aload_n (pc := 203) C dX7_payments_203 rfl rfl ?_
    refine gf_X7_0_0 (pc := 204) C tf_X7_84 dX7_payments_204 ?_
    refine J.icmp_ge (pc := 207) C 231 dX7_payments_207 (by decide) (fun hc => ?_) (fun hc => ?_)
    · have hM := ite_t hc hM
      refine J.sub C [0, 1, 2] rfl ?_
      exact jb231 _ _ _ hM
    · have hM := ite_f hc hM
      refine J.aload_n (pc := 210) C dX7_payments_210 rfl rfl ?_
      refine gf_X7_0_28 (pc := 211) C tf_X7_70 dX7_payments_211 ?_
      refine J.iload_n (pc := 214) C dX7_payments_214 rfl rfl ?_
      obtain ⟨hv, hM⟩ := chk_ex hM
      refine J.iald (pc := 215) C (im_21 q cI) hv dX7_payments_215 ?_
      refine J.if_eq (pc := 216) C 225 dX7_payments_216 (by decide) (fun hc => ?_) (fun hc => ?_)
      · have hM := ite_t hc hM
        refine J.iinc (pc := 225) C 1 dX7_payments_225 ic_1 rfl (by decide) ?_
        refine J.goto (pc := 228) C 202 dX7_payments_228 (by decide) ?_
        refine J.sub C [0, 1, 2, 3] rfl ?_
        exact hkb202 _ _ _ _ hM
      · have hM := ite_f hc hM
        refine J.iload_n (pc := 219) C dX7_payments_219 rfl rfl ?_
        refine J.iconst (pc := 220) C 1 dX7_payments_220 ic_1 ?_
        refine J.iload_n (pc := 221) C dX7_payments_221 rfl rfl ?_
        refine J.ishl (pc := 222) C dX7_payments_222 ?_
        refine J.ior (pc := 223) C dX7_payments_223 ?_
        refine J.istore_n (pc := 224) C dX7_payments_224 rfl (by decide) ?_
        refine J.iinc (pc := 225) C 1 dX7_payments_225 ic_1 rfl (by decide) ?_
        refine J.goto (pc := 228) C 202 dX7_payments_228 (by decide) ?_
        refine J.sub C [0, 1, 2, 3] rfl ?_
        exact hkb202 _ _ _ _ hM
  have jl202 : ∀ (x1 x2 x3 : Int32) (g : Sg), lup3 (B_X7_payments_202) FU x1 x2 x3 g = some r → J p l e (RM 4 95) s m args below meth c D (mW q cI) A 6 Q g 202 [(0, .ref (q 0)), (1, .int x1), (2, .int x2), (3, .int x3)] [] := 
    lup3_ok (P := fun x1 x2 x3 g => J p l e (RM 4 95) s m args below meth c D (mW q cI) A 6 Q g 202 [(0, .ref (q 0)), (1, .int x1), (2, .int x2), (3, .int x3)] []) (fun self hself => jb202 self hself) FU
  have jb158 : ∀ (kb36 : Int32 → Int32 → Sg → Option (Int32 × Sg)) (hkb36 : ∀ (x1 x2 : Int32) (g : Sg), kb36 x1 x2 g = some r → J p l e (RM 4 95) s m args below meth c D (mW q cI) A 6 Q g 36 [(0, .ref (q 0)), (1, .int x1), (2, .int x2)] []) (x1 x2 x3 x4 : Int32) (g : Sg), B_X7_payments_158 kb36 x1 x2 x3 x4 g = some r → J p l e (RM 4 95) s m args below meth c D (mW q cI) A 6 Q g 158 [(0, .ref (q 0)), (1, .int x1), (2, .int x2), (3, .int x3), (4, .int x4)] [] := by
    intro kb36 hkb36 x1 x2 x3 x4 g hM
    unfold B_X7_payments_158 at hM
    refine J.aload_n (pc := 158) C dX7_payments_158 rfl rfl ?_
    refine gf_X7_0_30 (pc := 159) C tf_X7_76 dX7_payments_159 ?_
    refine J.iload_n (pc := 162) C dX7_payments_162 rfl rfl ?_
    refine J.iload (pc := 163) C dX7_payments_163 rfl ?_
    refine J.bipush (pc := 165) C (-9) dX7_payments_165 bp_m9 ?_
    refine J.icmp_ne (pc := 167) C 174 dX7_payments_167 (by decide) (fun hc => ?_) (fun hc => ?_)
    · have hM := ite_f hc hM
      refine J.iload_n (pc := 174) C dX7_payments_174 rfl rfl ?_
      refine J.if_ne (pc := 175) C 189 dX7_payments_175 (by decide) (fun hc => ?_) (fun hc => ?_)
      · have hM := ite_f hc hM
        refine J.iload (pc := 189) C dX7_payments_189 rfl ?_
        obtain ⟨hv, hM⟩ := chk_ex hM
        refine J.iast (pc := 191) C (im_23 q cI) hv dX7_payments_191 ?_
        obtain ⟨_, ea, hM⟩ := lt_ex hM
        refine J.cong C ea ?_
        refine J.iinc (pc := 192) C 1 dX7_payments_192 ic_1 rfl (by decide) ?_
        refine J.goto (pc := 195) C 36 dX7_payments_195 (by decide) ?_
        refine J.sub C [0, 1, 2] rfl ?_
        exact hkb36 _ _ _ hM
      · have hM := ite_t hc hM
        refine J.iload_n (pc := 178) C dX7_payments_178 rfl rfl ?_
        refine J.if_le (pc := 179) C 189 dX7_payments_179 (by decide) (fun hc => ?_) (fun hc => ?_)
        · have hM := ite_t hc hM
          refine J.iload (pc := 189) C dX7_payments_189 rfl ?_
          obtain ⟨hv, hM⟩ := chk_ex hM
          refine J.iast (pc := 191) C (im_23 q cI) hv dX7_payments_191 ?_
          obtain ⟨_, ea, hM⟩ := lt_ex hM
          refine J.cong C ea ?_
          refine J.iinc (pc := 192) C 1 dX7_payments_192 ic_1 rfl (by decide) ?_
          refine J.goto (pc := 195) C 36 dX7_payments_195 (by decide) ?_
          refine J.sub C [0, 1, 2] rfl ?_
          exact hkb36 _ _ _ hM
        · have hM := ite_f hc hM
          refine J.iload (pc := 182) C dX7_payments_182 rfl ?_
          refine J.iconst (pc := 184) C 1 dX7_payments_184 ic_1 ?_
          refine J.iadd (pc := 185) C dX7_payments_185 ?_
          refine J.goto (pc := 186) C 191 dX7_payments_186 (by decide) ?_
          obtain ⟨hv, hM⟩ := chk_ex hM
          refine J.iast (pc := 191) C (im_23 q cI) hv dX7_payments_191 ?_
          obtain ⟨_, ea, hM⟩ := lt_ex hM
          refine J.cong C ea ?_
          refine J.iinc (pc := 192) C 1 dX7_payments_192 ic_1 rfl (by decide) ?_
          refine J.goto (pc := 195) C 36 dX7_payments_195 (by decide) ?_
          refine J.sub C [0, 1, 2] rfl ?_
          exact hkb36 _ _ _ hM
    · have hM := ite_t hc hM
      refine J.iconst (pc := 170) C 0 dX7_payments_170 ic_0 ?_
      refine J.goto (pc := 171) C 191 dX7_payments_171 (by decide) ?_
      obtain ⟨hv, hM⟩ := chk_ex hM
      refine J.iast (pc := 191) C (im_23 q cI) hv dX7_payments_191 ?_
      obtain ⟨_, ea, hM⟩ := lt_ex hM
      refine J.cong C ea ?_
      refine J.iinc (pc := 192) C 1 dX7_payments_192 ic_1 rfl (by decide) ?_
      refine J.goto (pc := 195) C 36 dX7_payments_195 (by decide) ?_
      refine J.sub C [0, 1, 2] rfl ?_
      exact hkb36 _ _ _ hM
  have jb108 : ∀ (kb36 : Int32 → Int32 → Sg → Option (Int32 × Sg)) (hkb36 : ∀ (x1 x2 : Int32) (g : Sg), kb36 x1 x2 g = some r → J p l e (RM 4 95) s m args below meth c D (mW q cI) A 6 Q g 36 [(0, .ref (q 0)), (1, .int x1), (2, .int x2)] []) (kb108 : Int32 → Int32 → Int32 → Int32 → Int32 → Sg → Option (Int32 × Sg)) (hkb108 : ∀ (x1 x2 x3 x4 x5 : Int32) (g : Sg), kb108 x1 x2 x3 x4 x5 g = some r → J p l e (RM 4 95) s m args below meth c D (mW q cI) A 6 Q g 108 [(0, .ref (q 0)), (1, .int x1), (2, .int x2), (3, .int x3), (4, .int x4), (5, .int x5)] []) (x1 x2 x3 x4 x5 : Int32) (g : Sg), B_X7_payments_108 kb36 kb108 x1 x2 x3 x4 x5 g = some r → J p l e (RM 4 95) s m args below meth c D (mW q cI) A 6 Q g 108 [(0, .ref (q 0)), (1, .int x1), (2, .int x2), (3, .int x3), (4, .int x4), (5, .int x5)] [] := by
    intro kb36 hkb36 kb108 hkb108 x1 x2 x3 x4 x5 g hM
    unfold B_X7_payments_108 at hM
    refine J.iload (pc := 108) C dX7_payments_108 rfl ?_
    refine J.aload_n (pc := 110) C dX7_payments_110 rfl rfl ?_
    refine gf_X7_0_0 (pc := 111) C tf_X7_84 dX7_payments_111 ?_
    refine J.icmp_ge (pc := 114) C 158 dX7_payments_114 (by decide) (fun hc => ?_) (fun hc => ?_)
    · have hM := ite_t hc hM
      refine J.sub C [0, 1, 2, 3, 4] rfl ?_
      exact jb158 kb36 hkb36 _ _ _ _ _ hM
    · have hM := ite_f hc hM
      refine J.iload (pc := 117) C dX7_payments_117 rfl ?_
      refine J.bipush (pc := 119) C (-9) dX7_payments_119 bp_m9 ?_
      refine J.icmp_eq (pc := 121) C 158 dX7_payments_121 (by decide) (fun hc => ?_) (fun hc => ?_)
      · have hM := ite_t hc hM
        refine J.sub C [0, 1, 2, 3, 4] rfl ?_
        exact jb158 kb36 hkb36 _ _ _ _ _ hM
      · have hM := ite_f hc hM
        refine J.iload_n (pc := 124) C dX7_payments_124 rfl rfl ?_
        refine J.iload (pc := 125) C dX7_payments_125 rfl ?_
        refine J.ishr (pc := 127) C dX7_payments_127 ?_
        refine J.iconst (pc := 128) C 1 dX7_payments_128 ic_1 ?_
        refine J.iand (pc := 129) C dX7_payments_129 ?_
        refine J.iconst (pc := 130) C 1 dX7_payments_130 ic_1 ?_
        refine J.icmp_ne (pc := 131) C 152 dX7_payments_131 (by decide) (fun hc => ?_) (fun hc => ?_)
        · have hM := ite_f hc hM
          refine J.iinc (pc := 152) C 1 dX7_payments_152 ic_1 rfl (by decide) ?_
          refine J.goto (pc := 155) C 108 dX7_payments_155 (by decide) ?_
          refine J.sub C [0, 1, 2, 3, 4, 5] rfl ?_
          exact hkb108 _ _ _ _ _ _ hM
        · have hM := ite_t hc hM
          refine J.iload (pc := 134) C dX7_payments_134 rfl ?_
          refine J.aload_n (pc := 136) C dX7_payments_136 rfl rfl ?_
          refine gf_X7_0_30 (pc := 137) C tf_X7_76 dX7_payments_137 ?_
          refine J.iload_n (pc := 140) C dX7_payments_140 rfl rfl ?_
          refine J.iconst (pc := 141) C 1 dX7_payments_141 ic_1 ?_
          refine J.iload (pc := 142) C dX7_payments_142 rfl ?_
          refine J.ishl (pc := 144) C dX7_payments_144 ?_
          refine J.ixor (pc := 145) C dX7_payments_145 ?_
          obtain ⟨hv, hM⟩ := chk_ex hM
          refine J.iald (pc := 146) C (im_23 q cI) hv dX7_payments_146 ?_
          refine J.mmax (pc := 147) C tm_X7_208 (Nat.le_of_ble_eq_true rfl) (Nat.le_of_ble_eq_true rfl) dX7_payments_147 ?_
          obtain ⟨_, ea, hM⟩ := lt_ex hM
          refine J.istoreV (pc := 150) C dX7_payments_150 (by decide) ea ?_
          refine J.iinc (pc := 152) C 1 dX7_payments_152 ic_1 rfl (by decide) ?_
          refine J.goto (pc := 155) C 108 dX7_payments_155 (by decide) ?_
          refine J.sub C [0, 1, 2, 3, 4, 5] rfl ?_
          exact hkb108 _ _ _ _ _ _ hM
  have jl108 : ∀ (kb36 : Int32 → Int32 → Sg → Option (Int32 × Sg)) (hkb36 : ∀ (x1 x2 : Int32) (g : Sg), kb36 x1 x2 g = some r → J p l e (RM 4 95) s m args below meth c D (mW q cI) A 6 Q g 36 [(0, .ref (q 0)), (1, .int x1), (2, .int x2)] []) (x1 x2 x3 x4 x5 : Int32) (g : Sg), lup5 (B_X7_payments_108 kb36) FU x1 x2 x3 x4 x5 g = some r → J p l e (RM 4 95) s m args below meth c D (mW q cI) A 6 Q g 108 [(0, .ref (q 0)), (1, .int x1), (2, .int x2), (3, .int x3), (4, .int x4), (5, .int x5)] [] := 
    fun kb36 hkb36 => lup5_ok (P := fun x1 x2 x3 x4 x5 g => J p l e (RM 4 95) s m args below meth c D (mW q cI) A 6 Q g 108 [(0, .ref (q 0)), (1, .int x1), (2, .int x2), (3, .int x3), (4, .int x4), (5, .int x5)] []) (fun self hself => jb108 kb36 hkb36 self hself) FU
  have jb54 : ∀ (kb36 : Int32 → Int32 → Sg → Option (Int32 × Sg)) (hkb36 : ∀ (x1 x2 : Int32) (g : Sg), kb36 x1 x2 g = some r → J p l e (RM 4 95) s m args below meth c D (mW q cI) A 6 Q g 36 [(0, .ref (q 0)), (1, .int x1), (2, .int x2)] []) (kb54 : Int32 → Int32 → Int32 → Int32 → Int32 → Sg → Option (Int32 × Sg)) (hkb54 : ∀ (x1 x2 x3 x4 x5 : Int32) (g : Sg), kb54 x1 x2 x3 x4 x5 g = some r → J p l e (RM 4 95) s m args below meth c D (mW q cI) A 6 Q g 54 [(0, .ref (q 0)), (1, .int x1), (2, .int x2), (3, .int x3), (4, .int x4), (5, .int x5)] []) (x1 x2 x3 x4 x5 : Int32) (g : Sg), B_X7_payments_54 kb36 kb54 x1 x2 x3 x4 x5 g = some r → J p l e (RM 4 95) s m args below meth c D (mW q cI) A 6 Q g 54 [(0, .ref (q 0)), (1, .int x1), (2, .int x2), (3, .int x3), (4, .int x4), (5, .int x5)] [] := by
    intro kb36 hkb36 kb54 hkb54 x1 x2 x3 x4 x5 g hM
    unfold B_X7_payments_54 at hM
    refine J.iload (pc := 54) C dX7_payments_54 rfl ?_
    refine J.aload_n (pc := 56) C dX7_payments_56 rfl rfl ?_
    refine gf_X7_0_0 (pc := 57) C tf_X7_84 dX7_payments_57 ?_
    refine J.icmp_ge (pc := 60) C 105 dX7_payments_60 (by decide) (fun hc => ?_) (fun hc => ?_)
    · have hM := ite_t hc hM
      refine J.iconst (pc := 105) C 0 dX7_payments_105 ic_0 ?_
      refine J.istore (pc := 106) C dX7_payments_106 (by decide) ?_
      refine J.sub C [0, 1, 2, 3, 4, 5] rfl ?_
      exact jl108 kb36 hkb36 _ _ _ _ _ _ hM
    · have hM := ite_f hc hM
      refine J.iload_n (pc := 63) C dX7_payments_63 rfl rfl ?_
      refine J.iload (pc := 64) C dX7_payments_64 rfl ?_
      refine J.ishr (pc := 66) C dX7_payments_66 ?_
      refine J.iconst (pc := 67) C 1 dX7_payments_67 ic_1 ?_
      refine J.iand (pc := 68) C dX7_payments_68 ?_
      refine J.if_ne (pc := 69) C 75 dX7_payments_69 (by decide) (fun hc => ?_) (fun hc => ?_)
      · have hM := ite_f hc hM
        refine J.aload_n (pc := 75) C dX7_payments_75 rfl rfl ?_
        refine gf_X7_0_28 (pc := 76) C tf_X7_70 dX7_payments_76 ?_
        refine J.iload (pc := 79) C dX7_payments_79 rfl ?_
        obtain ⟨hv, hM⟩ := chk_ex hM
        refine J.iald (pc := 81) C (im_21 q cI) hv dX7_payments_81 ?_
        refine J.if_ne (pc := 82) C 89 dX7_payments_82 (by decide) (fun hc => ?_) (fun hc => ?_)
        · have hM := ite_f hc hM
          refine J.iload_n (pc := 89) C dX7_payments_89 rfl rfl ?_
          refine J.aload_n (pc := 90) C dX7_payments_90 rfl rfl ?_
          refine gf_X7_0_28 (pc := 91) C tf_X7_70 dX7_payments_91 ?_
          refine J.iload (pc := 94) C dX7_payments_94 rfl ?_
          obtain ⟨hv, hM⟩ := chk_ex hM
          refine J.iald (pc := 96) C (im_21 q cI) hv dX7_payments_96 ?_
          refine J.iadd (pc := 97) C dX7_payments_97 ?_
          obtain ⟨_, ea, hM⟩ := lt_ex hM
          refine J.istore_nV (pc := 98) C dX7_payments_98 rfl (by decide) ea ?_
          refine J.iinc (pc := 99) C 1 dX7_payments_99 ic_1 rfl (by decide) ?_
          refine J.goto (pc := 102) C 54 dX7_payments_102 (by decide) ?_
          refine J.sub C [0, 1, 2, 3, 4, 5] rfl ?_
          exact hkb54 _ _ _ _ _ _ hM
        · have hM := ite_t hc hM
          refine J.bipush (pc := 85) C (-9) dX7_payments_85 bp_m9 ?_
          refine J.istore (pc := 87) C dX7_payments_87 (by decide) ?_
          refine J.iload_n (pc := 89) C dX7_payments_89 rfl rfl ?_
          refine J.aload_n (pc := 90) C dX7_payments_90 rfl rfl ?_
          refine gf_X7_0_28 (pc := 91) C tf_X7_70 dX7_payments_91 ?_
          refine J.iload (pc := 94) C dX7_payments_94 rfl ?_
          obtain ⟨hv, hM⟩ := chk_ex hM
          refine J.iald (pc := 96) C (im_21 q cI) hv dX7_payments_96 ?_
          refine J.iadd (pc := 97) C dX7_payments_97 ?_
          obtain ⟨_, ea, hM⟩ := lt_ex hM
          refine J.istore_nV (pc := 98) C dX7_payments_98 rfl (by decide) ea ?_
          refine J.iinc (pc := 99) C 1 dX7_payments_99 ic_1 rfl (by decide) ?_
          refine J.goto (pc := 102) C 54 dX7_payments_102 (by decide) ?_
          refine J.sub C [0, 1, 2, 3, 4, 5] rfl ?_
          exact hkb54 _ _ _ _ _ _ hM
      · have hM := ite_t hc hM
        refine J.goto (pc := 72) C 99 dX7_payments_72 (by decide) ?_
        refine J.iinc (pc := 99) C 1 dX7_payments_99 ic_1 rfl (by decide) ?_
        refine J.goto (pc := 102) C 54 dX7_payments_102 (by decide) ?_
        refine J.sub C [0, 1, 2, 3, 4, 5] rfl ?_
        exact hkb54 _ _ _ _ _ _ hM
  have jl54 : ∀ (kb36 : Int32 → Int32 → Sg → Option (Int32 × Sg)) (hkb36 : ∀ (x1 x2 : Int32) (g : Sg), kb36 x1 x2 g = some r → J p l e (RM 4 95) s m args below meth c D (mW q cI) A 6 Q g 36 [(0, .ref (q 0)), (1, .int x1), (2, .int x2)] []) (x1 x2 x3 x4 x5 : Int32) (g : Sg), lup5 (B_X7_payments_54 kb36) FU x1 x2 x3 x4 x5 g = some r → J p l e (RM 4 95) s m args below meth c D (mW q cI) A 6 Q g 54 [(0, .ref (q 0)), (1, .int x1), (2, .int x2), (3, .int x3), (4, .int x4), (5, .int x5)] [] := 
    fun kb36 hkb36 => lup5_ok (P := fun x1 x2 x3 x4 x5 g => J p l e (RM 4 95) s m args below meth c D (mW q cI) A 6 Q g 54 [(0, .ref (q 0)), (1, .int x1), (2, .int x2), (3, .int x3), (4, .int x4), (5, .int x5)] []) (fun self hself => jb54 kb36 hkb36 self hself) FU
  have jb36 : ∀ (kb36 : Int32 → Int32 → Sg → Option (Int32 × Sg)) (hkb36 : ∀ (x1 x2 : Int32) (g : Sg), kb36 x1 x2 g = some r → J p l e (RM 4 95) s m args below meth c D (mW q cI) A 6 Q g 36 [(0, .ref (q 0)), (1, .int x1), (2, .int x2)] []) (x1 x2 : Int32) (g : Sg), B_X7_payments_36 kb36 x1 x2 g = some r → J p l e (RM 4 95) s m args below meth c D (mW q cI) A 6 Q g 36 [(0, .ref (q 0)), (1, .int x1), (2, .int x2)] [] := by
    intro kb36 hkb36 x1 x2 g hM
    unfold B_X7_payments_36 at hM
    refine J.iload_n (pc := 36) C dX7_payments_36 rfl rfl ?_
    refine J.iconst (pc := 37) C 1 dX7_payments_37 ic_1 ?_
    refine J.aload_n (pc := 38) C dX7_payments_38 rfl rfl ?_
    refine gf_X7_0_0 (pc := 39) C tf_X7_84 dX7_payments_39 ?_
    refine J.ishl (pc := 42) C dX7_payments_42 ?_
    refine J.icmp_ge (pc := 43) C 198 dX7_payments_43 (by decide) (fun hc => ?_) (fun hc => ?_)
    · have hM := ite_t hc hM
      refine J.iconst (pc := 198) C 0 dX7_payments_198 ic_0 ?_
      refine J.istore_n (pc := 199) C dX7_payments_199 rfl (by decide) ?_
      refine J.iconst (pc := 200) C 0 dX7_payments_200 ic_0 ?_
      refine J.istore_n (pc := 201) C dX7_payments_201 rfl (by decide) ?_
      refine J.sub C [0, 1, 2, 3] rfl ?_
      exact jl202 _ _ _ _ hM
    · have hM := ite_f hc hM
      refine J.iconst (pc := 46) C 0 dX7_payments_46 ic_0 ?_
      refine J.istore_n (pc := 47) C dX7_payments_47 rfl (by decide) ?_
      refine J.iconst (pc := 48) C 0 dX7_payments_48 ic_0 ?_
      refine J.istore (pc := 49) C dX7_payments_49 (by decide) ?_
      refine J.iconst (pc := 51) C 0 dX7_payments_51 ic_0 ?_
      refine J.istore (pc := 52) C dX7_payments_52 (by decide) ?_
      refine J.sub C [0, 1, 2, 3, 4, 5] rfl ?_
      exact jl54 kb36 hkb36 _ _ _ _ _ _ hM
  have jl36 : ∀ (x1 x2 : Int32) (g : Sg), lup2 (B_X7_payments_36) FU x1 x2 g = some r → J p l e (RM 4 95) s m args below meth c D (mW q cI) A 6 Q g 36 [(0, .ref (q 0)), (1, .int x1), (2, .int x2)] [] := 
    lup2_ok (P := fun x1 x2 g => J p l e (RM 4 95) s m args below meth c D (mW q cI) A 6 Q g 36 [(0, .ref (q 0)), (1, .int x1), (2, .int x2)] []) (fun self hself => jb36 self hself) FU
  have jb8 : ∀ (kb8 : Int32 → Int32 → Sg → Option (Int32 × Sg)) (hkb8 : ∀ (x1 x2 : Int32) (g : Sg), kb8 x1 x2 g = some r → J p l e (RM 4 95) s m args below meth c D (mW q cI) A 6 Q g 8 [(0, .ref (q 0)), (1, .int x1), (2, .int x2)] []) (x1 x2 : Int32) (g : Sg), B_X7_payments_8 kb8 x1 x2 g = some r → J p l e (RM 4 95) s m args below meth c D (mW q cI) A 6 Q g 8 [(0, .ref (q 0)), (1, .int x1), (2, .int x2)] [] := by
    intro kb8 hkb8 x1 x2 g hM
    unfold B_X7_payments_8 at hM
    refine J.iload_n (pc := 8) C dX7_payments_8 rfl rfl ?_
    refine J.aload_n (pc := 9) C dX7_payments_9 rfl rfl ?_
    refine gf_X7_0_0 (pc := 10) C tf_X7_84 dX7_payments_10 ?_
    refine J.icmp_ge (pc := 13) C 34 dX7_payments_13 (by decide) (fun hc => ?_) (fun hc => ?_)
    · have hM := ite_t hc hM
      refine J.iconst (pc := 34) C 0 dX7_payments_34 ic_0 ?_
      refine J.istore_n (pc := 35) C dX7_payments_35 rfl (by decide) ?_
      refine J.sub C [0, 1, 2] rfl ?_
      exact jl36 _ _ _ hM
    · have hM := ite_f hc hM
      refine J.aload_n (pc := 16) C dX7_payments_16 rfl rfl ?_
      refine gf_X7_0_28 (pc := 17) C tf_X7_70 dX7_payments_17 ?_
      refine J.iload_n (pc := 20) C dX7_payments_20 rfl rfl ?_
      obtain ⟨hv, hM⟩ := chk_ex hM
      refine J.iald (pc := 21) C (im_21 q cI) hv dX7_payments_21 ?_
      refine J.if_eq (pc := 22) C 28 dX7_payments_22 (by decide) (fun hc => ?_) (fun hc => ?_)
      · have hM := ite_t hc hM
        refine J.iinc (pc := 28) C 1 dX7_payments_28 ic_1 rfl (by decide) ?_
        refine J.goto (pc := 31) C 8 dX7_payments_31 (by decide) ?_
        refine J.sub C [0, 1, 2] rfl ?_
        exact hkb8 _ _ _ hM
      · have hM := ite_f hc hM
        refine J.iinc (pc := 25) C 1 dX7_payments_25 ic_1 rfl (by decide) ?_
        refine J.iinc (pc := 28) C 1 dX7_payments_28 ic_1 rfl (by decide) ?_
        refine J.goto (pc := 31) C 8 dX7_payments_31 (by decide) ?_
        refine J.sub C [0, 1, 2] rfl ?_
        exact hkb8 _ _ _ hM
  have jl8 : ∀ (x1 x2 : Int32) (g : Sg), lup2 (B_X7_payments_8) FU x1 x2 g = some r → J p l e (RM 4 95) s m args below meth c D (mW q cI) A 6 Q g 8 [(0, .ref (q 0)), (1, .int x1), (2, .int x2)] [] := 
    lup2_ok (P := fun x1 x2 g => J p l e (RM 4 95) s m args below meth c D (mW q cI) A 6 Q g 8 [(0, .ref (q 0)), (1, .int x1), (2, .int x2)] []) (fun self hself => jb8 self hself) FU
  have hM := h
  unfold M_X7_payments at hM
  refine J.aload_n (pc := 0) C dX7_payments_0 rfl rfl ?_
  obtain ⟨_, h1, hM⟩ := bV_ex hM
  refine J.callV0v (pc := 1) C (C_X7_owe h1) lk_X7_owe tm_X7_211 (io_m q cI) ⟨Nat.le_of_ble_eq_true rfl, Nat.le_of_ble_eq_true rfl⟩ (Nat.le_of_ble_eq_true rfl) dX7_payments_1 ?_
  refine J.iconst (pc := 4) C 0 dX7_payments_4 ic_0 ?_
  refine J.istore_n (pc := 5) C dX7_payments_5 rfl (by decide) ?_
  refine J.iconst (pc := 6) C 0 dX7_payments_6 ic_0 ?_
  refine J.istore_n (pc := 7) C dX7_payments_7 rfl (by decide) ?_
  refine J.sub C [0, 1, 2] rfl ?_
  exact jl8 _ _ _ hM
def M_X7_near (x1 x2 : Int32) (g : Sg) : Option (Int32 × Sg) := (if 0 ≤ x1 then (if x1 ≤ 11 then (if (V_X7_isCell x2 g) = 0 then bI (M_X7_no (-1) g) (fun r_2 g_3 => some (r_2, g_3)) else bV (M_X7_run_ g) (fun g_1 => chk x1 12 (some (iabs ((rd g_1 20 x1) - x2), g_1)))) else bI (M_X7_no (-6) g) (fun r_4 g_5 => some (r_4, g_5))) else bI (M_X7_no (-4) g) (fun r_6 g_7 => some (r_6, g_7)))
set_option maxRecDepth 100000 in
set_option maxHeartbeats 4000000 in
theorem C_X7_near {l : Launch} {D : va_G} {q : Nat → Nat} {cI : ClassId} {z : Nat × Nat} {x1 x2 : Int32} {g : Sg} {r : Int32 × Sg} (h : M_X7_near x1 x2 g = some r) : CTi l (EM z) D cI (mW q cI) yX7_near cX7_near 3 (some .int) 5 115 [.ref (q 0), .int x1, .int x2] g r := by
  refine CTi.of2 (by decide) (EM_ok z) (Nat.le_of_ble_eq_true rfl) rfl (fun p e s m args below meth c A Q C hret => ?_)
  have hM := h
  unfold M_X7_near at hM
  refine J.iload_n (pc := 0) C dX7_near_0 rfl rfl ?_
  refine J.if_ge (pc := 1) C 11 dX7_near_1 (by decide) (fun hc => ?_) (fun hc => ?_)
  · have hM := ite_t hc hM
    refine J.iload_n (pc := 11) C dX7_near_11 rfl rfl ?_
    refine J.bipush (pc := 12) C 11 dX7_near_12 bp_11 ?_
    refine J.icmp_le (pc := 14) C 24 dX7_near_14 (by decide) (fun hc => ?_) (fun hc => ?_)
    · have hM := ite_t hc hM
      refine J.iload_n (pc := 24) C dX7_near_24 rfl rfl ?_
      refine J.callS1i (pc := 25) C (K_X7_isCell _ _) lk_X7_isCell tm_X7_115 ⟨Nat.le_of_ble_eq_true rfl, Nat.le_of_ble_eq_true rfl⟩ (Nat.le_of_ble_eq_true rfl) dX7_near_25 ?_
      refine J.if_ne (pc := 28) C 37 dX7_near_28 (by decide) (fun hc => ?_) (fun hc => ?_)
      · have hM := ite_f hc hM
        refine J.aload_n (pc := 37) C dX7_near_37 rfl rfl ?_
        obtain ⟨_, h1, hM⟩ := bV_ex hM
        refine J.callV0v (pc := 38) C (C_X7_run_ h1) lk_X7_run_ tm_X7_186 (io_m q cI) ⟨Nat.le_of_ble_eq_true rfl, Nat.le_of_ble_eq_true rfl⟩ (Nat.le_of_ble_eq_true rfl) dX7_near_38 ?_
        refine J.aload_n (pc := 41) C dX7_near_41 rfl rfl ?_
        refine gf_X7_0_27 (pc := 42) C tf_X7_67 dX7_near_42 ?_
        refine J.iload_n (pc := 45) C dX7_near_45 rfl rfl ?_
        obtain ⟨hv, hM⟩ := chk_ex hM
        refine J.iald (pc := 46) C (im_20 q cI) hv dX7_near_46 ?_
        refine J.iload_n (pc := 47) C dX7_near_47 rfl rfl ?_
        refine J.isub (pc := 48) C dX7_near_48 ?_
        refine J.mabs (pc := 49) C tm_X7_144 (Nat.le_of_ble_eq_true rfl) (Nat.le_of_ble_eq_true rfl) dX7_near_49 ?_
        exact hret dX7_near_52 hM rfl
      · have hM := ite_t hc hM
        refine J.aload_n (pc := 31) C dX7_near_31 rfl rfl ?_
        refine J.iconst (pc := 32) C (-1) dX7_near_32 ic_m1 ?_
        obtain ⟨_, _, h1, hM⟩ := bI_ex hM
        refine J.callV1i (pc := 33) C (C_X7_no h1) lk_X7_no tm_X7_80 (io_m q cI) ⟨Nat.le_of_ble_eq_true rfl, Nat.le_of_ble_eq_true rfl⟩ (Nat.le_of_ble_eq_true rfl) dX7_near_33 ?_
        exact hret dX7_near_36 hM rfl
    · have hM := ite_f hc hM
      refine J.aload_n (pc := 17) C dX7_near_17 rfl rfl ?_
      refine J.bipush (pc := 18) C (-6) dX7_near_18 bp_m6 ?_
      obtain ⟨_, _, h1, hM⟩ := bI_ex hM
      refine J.callV1i (pc := 20) C (C_X7_no h1) lk_X7_no tm_X7_80 (io_m q cI) ⟨Nat.le_of_ble_eq_true rfl, Nat.le_of_ble_eq_true rfl⟩ (Nat.le_of_ble_eq_true rfl) dX7_near_20 ?_
      exact hret dX7_near_23 hM rfl
  · have hM := ite_f hc hM
    refine J.aload_n (pc := 4) C dX7_near_4 rfl rfl ?_
    refine J.bipush (pc := 5) C (-4) dX7_near_5 bp_m4 ?_
    obtain ⟨_, _, h1, hM⟩ := bI_ex hM
    refine J.callV1i (pc := 7) C (C_X7_no h1) lk_X7_no tm_X7_80 (io_m q cI) ⟨Nat.le_of_ble_eq_true rfl, Nat.le_of_ble_eq_true rfl⟩ (Nat.le_of_ble_eq_true rfl) dX7_near_7 ?_
    exact hret dX7_near_10 hM rfl
def B_X7_midwife_21 (kb21 : Int32 → Int32 → Int32 → Sg → Option (Int32 × Sg)) (x1 x2 x3 : Int32) (g : Sg) : Option (Int32 × Sg) := (if 12 ≤ x3 then some (x2, g) else chk x3 12 (chk x2 12 ((if (iabs ((rd g 20 x3) - x1)) ≤ (iabs ((rd g 20 x2) - x1)) then kb21 x1 x2 (x3 + 1) g else kb21 x1 x3 (x3 + 1) g))))
def M_X7_midwife (x1 : Int32) (g : Sg) : Option (Int32 × Sg) := (if (V_X7_isCell x1 g) = 0 then bI (M_X7_no (-1) g) (fun r_2 g_3 => some (r_2, g_3)) else bV (M_X7_run_ g) (fun g_1 => lup3 (B_X7_midwife_21 ) FU x1 0 1 g_1))
set_option maxRecDepth 100000 in
set_option maxHeartbeats 4000000 in
theorem C_X7_midwife {l : Launch} {D : va_G} {q : Nat → Nat} {cI : ClassId} {z : Nat × Nat} {x1 : Int32} {g : Sg} {r : Int32 × Sg} (h : M_X7_midwife x1 g = some r) : CTi l (EM z) D cI (mW q cI) yX7_midwife cX7_midwife 4 (some .int) 5 115 [.ref (q 0), .int x1] g r := by
  refine CTi.of2 (by decide) (EM_ok z) (Nat.le_of_ble_eq_true rfl) rfl (fun p e s m args below meth c A Q C hret => ?_)
  have jb21 : ∀ (kb21 : Int32 → Int32 → Int32 → Sg → Option (Int32 × Sg)) (hkb21 : ∀ (x1 x2 x3 : Int32) (g : Sg), kb21 x1 x2 x3 g = some r → J p l e (RM 5 115) s m args below meth c D (mW q cI) A 4 Q g 21 [(0, .ref (q 0)), (1, .int x1), (2, .int x2), (3, .int x3)] []) (x1 x2 x3 : Int32) (g : Sg), B_X7_midwife_21 kb21 x1 x2 x3 g = some r → J p l e (RM 5 115) s m args below meth c D (mW q cI) A 4 Q g 21 [(0, .ref (q 0)), (1, .int x1), (2, .int x2), (3, .int x3)] [] := by
    intro kb21 hkb21 x1 x2 x3 g hM
    unfold B_X7_midwife_21 at hM
    refine J.iload_n (pc := 21) C dX7_midwife_21 rfl rfl ?_
    refine J.bipush (pc := 22) C 12 dX7_midwife_22 bp_12 ?_
    refine J.icmp_ge (pc := 24) C 60 dX7_midwife_24 (by decide) (fun hc => ?_) (fun hc => ?_)
    · have hM := ite_t hc hM
      refine J.iload_n (pc := 60) C dX7_midwife_60 rfl rfl ?_
      exact hret dX7_midwife_61 hM rfl
    · have hM := ite_f hc hM
      refine J.aload_n (pc := 27) C dX7_midwife_27 rfl rfl ?_
      refine gf_X7_0_27 (pc := 28) C tf_X7_67 dX7_midwife_28 ?_
      refine J.iload_n (pc := 31) C dX7_midwife_31 rfl rfl ?_
      obtain ⟨hv, hM⟩ := chk_ex hM
      refine J.iald (pc := 32) C (im_20 q cI) hv dX7_midwife_32 ?_
      refine J.iload_n (pc := 33) C dX7_midwife_33 rfl rfl ?_
      refine J.isub (pc := 34) C dX7_midwife_34 ?_
      refine J.mabs (pc := 35) C tm_X7_144 (Nat.le_of_ble_eq_true rfl) (Nat.le_of_ble_eq_true rfl) dX7_midwife_35 ?_
      refine J.aload_n (pc := 38) C dX7_midwife_38 rfl rfl ?_
      refine gf_X7_0_27 (pc := 39) C tf_X7_67 dX7_midwife_39 ?_
      refine J.iload_n (pc := 42) C dX7_midwife_42 rfl rfl ?_
      obtain ⟨hv, hM⟩ := chk_ex hM
      refine J.iald (pc := 43) C (im_20 q cI) hv dX7_midwife_43 ?_
      refine J.iload_n (pc := 44) C dX7_midwife_44 rfl rfl ?_
      refine J.isub (pc := 45) C dX7_midwife_45 ?_
      refine J.mabs (pc := 46) C tm_X7_144 (Nat.le_of_ble_eq_true rfl) (Nat.le_of_ble_eq_true rfl) dX7_midwife_46 ?_
      refine J.icmp_le (pc := 49) C 54 dX7_midwife_49 (by decide) (fun hc => ?_) (fun hc => ?_)
      · have hM := ite_t hc hM
        refine J.iinc (pc := 54) C 1 dX7_midwife_54 ic_1 rfl (by decide) ?_
        refine J.goto (pc := 57) C 21 dX7_midwife_57 (by decide) ?_
        refine J.sub C [0, 1, 2, 3] rfl ?_
        exact hkb21 _ _ _ _ hM
      · have hM := ite_f hc hM
        refine J.iload_n (pc := 52) C dX7_midwife_52 rfl rfl ?_
        refine J.istore_n (pc := 53) C dX7_midwife_53 rfl (by decide) ?_
        refine J.iinc (pc := 54) C 1 dX7_midwife_54 ic_1 rfl (by decide) ?_
        refine J.goto (pc := 57) C 21 dX7_midwife_57 (by decide) ?_
        refine J.sub C [0, 1, 2, 3] rfl ?_
        exact hkb21 _ _ _ _ hM
  have jl21 : ∀ (x1 x2 x3 : Int32) (g : Sg), lup3 (B_X7_midwife_21) FU x1 x2 x3 g = some r → J p l e (RM 5 115) s m args below meth c D (mW q cI) A 4 Q g 21 [(0, .ref (q 0)), (1, .int x1), (2, .int x2), (3, .int x3)] [] := 
    lup3_ok (P := fun x1 x2 x3 g => J p l e (RM 5 115) s m args below meth c D (mW q cI) A 4 Q g 21 [(0, .ref (q 0)), (1, .int x1), (2, .int x2), (3, .int x3)] []) (fun self hself => jb21 self hself) FU
  have hM := h
  unfold M_X7_midwife at hM
  refine J.iload_n (pc := 0) C dX7_midwife_0 rfl rfl ?_
  refine J.callS1i (pc := 1) C (K_X7_isCell _ _) lk_X7_isCell tm_X7_115 ⟨Nat.le_of_ble_eq_true rfl, Nat.le_of_ble_eq_true rfl⟩ (Nat.le_of_ble_eq_true rfl) dX7_midwife_1 ?_
  refine J.if_ne (pc := 4) C 13 dX7_midwife_4 (by decide) (fun hc => ?_) (fun hc => ?_)
  · have hM := ite_f hc hM
    refine J.aload_n (pc := 13) C dX7_midwife_13 rfl rfl ?_
    obtain ⟨_, h1, hM⟩ := bV_ex hM
    refine J.callV0v (pc := 14) C (C_X7_run_ h1) lk_X7_run_ tm_X7_186 (io_m q cI) ⟨Nat.le_of_ble_eq_true rfl, Nat.le_of_ble_eq_true rfl⟩ (Nat.le_of_ble_eq_true rfl) dX7_midwife_14 ?_
    refine J.iconst (pc := 17) C 0 dX7_midwife_17 ic_0 ?_
    refine J.istore_n (pc := 18) C dX7_midwife_18 rfl (by decide) ?_
    refine J.iconst (pc := 19) C 1 dX7_midwife_19 ic_1 ?_
    refine J.istore_n (pc := 20) C dX7_midwife_20 rfl (by decide) ?_
    refine J.sub C [0, 1, 2, 3] rfl ?_
    exact jl21 _ _ _ _ hM
  · have hM := ite_t hc hM
    refine J.aload_n (pc := 7) C dX7_midwife_7 rfl rfl ?_
    refine J.iconst (pc := 8) C (-1) dX7_midwife_8 ic_m1 ?_
    obtain ⟨_, _, h1, hM⟩ := bI_ex hM
    refine J.callV1i (pc := 9) C (C_X7_no h1) lk_X7_no tm_X7_80 (io_m q cI) ⟨Nat.le_of_ble_eq_true rfl, Nat.le_of_ble_eq_true rfl⟩ (Nat.le_of_ble_eq_true rfl) dX7_midwife_9 ?_
    exact hret dX7_midwife_12 hM rfl
def B_X7_watch_78 (kb8 : Int32 → Int32 → Sg → Option (Int32 × Sg)) (x1 x2 x3 : Int32) (g : Sg) : Option (Int32 × Sg) := (if x3 = 0 then kb8 (x1 ||| (1 <<< (x2 &&& 31))) (x2 + 1) g else kb8 x1 (x2 + 1) g)
def B_X7_watch_19 (kb8 : Int32 → Int32 → Sg → Option (Int32 × Sg)) (kb19 : Int32 → Int32 → Int32 → Int32 → Sg → Option (Int32 × Sg)) (x1 x2 x3 x4 : Int32) (g : Sg) : Option (Int32 × Sg) := (if (g.1 0) ≤ x4 then B_X7_watch_78 kb8 x1 x2 x3 g else chk x2 12 (chk x4 7 ((if (iabs ((rd g 20 x2) - (rd g 3 x4))) < 4 then kb19 x1 x2 1 (x4 + 1) g else chk x2 12 (chk x4 7 ((if 4 ≤ (iabs ((rd g 20 x2) - (rd g 4 x4))) then kb19 x1 x2 x3 (x4 + 1) g else kb19 x1 x2 1 (x4 + 1) g)))))))
def B_X7_watch_8 (kb8 : Int32 → Int32 → Sg → Option (Int32 × Sg)) (x1 x2 : Int32) (g : Sg) : Option (Int32 × Sg) := (if 12 ≤ x2 then some (x1, g) else lup4 (B_X7_watch_19 kb8 ) FU x1 x2 0 0 g)
def M_X7_watch (g : Sg) : Option (Int32 × Sg) := bV (M_X7_run_ g) (fun g_1 => lup2 (B_X7_watch_8 ) FU 0 0 g_1)
set_option maxRecDepth 100000 in
set_option maxHeartbeats 4000000 in
theorem C_X7_watch {l : Launch} {D : va_G} {q : Nat → Nat} {cI : ClassId} {z : Nat × Nat} {g : Sg} {r : Int32 × Sg} (h : M_X7_watch g = some r) : CTi l (EM z) D cI (mW q cI) yX7_watch cX7_watch 5 (some .int) 5 115 [.ref (q 0)] g r := by
  refine CTi.of2 (by decide) (EM_ok z) (Nat.le_of_ble_eq_true rfl) rfl (fun p e s m args below meth c A Q C hret => ?_)
  have jb78 : ∀ (kb8 : Int32 → Int32 → Sg → Option (Int32 × Sg)) (hkb8 : ∀ (x1 x2 : Int32) (g : Sg), kb8 x1 x2 g = some r → J p l e (RM 5 115) s m args below meth c D (mW q cI) A 5 Q g 8 [(0, .ref (q 0)), (1, .int x1), (2, .int x2)] []) (x1 x2 x3 : Int32) (g : Sg), B_X7_watch_78 kb8 x1 x2 x3 g = some r → J p l e (RM 5 115) s m args below meth c D (mW q cI) A 5 Q g 78 [(0, .ref (q 0)), (1, .int x1), (2, .int x2), (3, .int x3)] [] := by
    intro kb8 hkb8 x1 x2 x3 g hM
    unfold B_X7_watch_78 at hM
    refine J.iload_n (pc := 78) C dX7_watch_78 rfl rfl ?_
    refine J.if_ne (pc := 79) C 88 dX7_watch_79 (by decide) (fun hc => ?_) (fun hc => ?_)
    · have hM := ite_f hc hM
      refine J.iinc (pc := 88) C 1 dX7_watch_88 ic_1 rfl (by decide) ?_
      refine J.goto (pc := 91) C 8 dX7_watch_91 (by decide) ?_
      refine J.sub C [0, 1, 2] rfl ?_
      exact hkb8 _ _ _ hM
    · have hM := ite_t hc hM
      refine J.iload_n (pc := 82) C dX7_watch_82 rfl rfl ?_
      refine J.iconst (pc := 83) C 1 dX7_watch_83 ic_1 ?_
      refine J.iload_n (pc := 84) C dX7_watch_84 rfl rfl ?_
      refine J.ishl (pc := 85) C dX7_watch_85 ?_
      refine J.ior (pc := 86) C dX7_watch_86 ?_
      refine J.istore_n (pc := 87) C dX7_watch_87 rfl (by decide) ?_
      refine J.iinc (pc := 88) C 1 dX7_watch_88 ic_1 rfl (by decide) ?_
      refine J.goto (pc := 91) C 8 dX7_watch_91 (by decide) ?_
      refine J.sub C [0, 1, 2] rfl ?_
      exact hkb8 _ _ _ hM
  have jb19 : ∀ (kb8 : Int32 → Int32 → Sg → Option (Int32 × Sg)) (hkb8 : ∀ (x1 x2 : Int32) (g : Sg), kb8 x1 x2 g = some r → J p l e (RM 5 115) s m args below meth c D (mW q cI) A 5 Q g 8 [(0, .ref (q 0)), (1, .int x1), (2, .int x2)] []) (kb19 : Int32 → Int32 → Int32 → Int32 → Sg → Option (Int32 × Sg)) (hkb19 : ∀ (x1 x2 x3 x4 : Int32) (g : Sg), kb19 x1 x2 x3 x4 g = some r → J p l e (RM 5 115) s m args below meth c D (mW q cI) A 5 Q g 19 [(0, .ref (q 0)), (1, .int x1), (2, .int x2), (3, .int x3), (4, .int x4)] []) (x1 x2 x3 x4 : Int32) (g : Sg), B_X7_watch_19 kb8 kb19 x1 x2 x3 x4 g = some r → J p l e (RM 5 115) s m args below meth c D (mW q cI) A 5 Q g 19 [(0, .ref (q 0)), (1, .int x1), (2, .int x2), (3, .int x3), (4, .int x4)] [] := by
    intro kb8 hkb8 kb19 hkb19 x1 x2 x3 x4 g hM
    unfold B_X7_watch_19 at hM
    refine J.iload (pc := 19) C dX7_watch_19 rfl ?_
    refine J.aload_n (pc := 21) C dX7_watch_21 rfl rfl ?_
    refine gf_X7_0_0 (pc := 22) C tf_X7_84 dX7_watch_22 ?_
    refine J.icmp_ge (pc := 25) C 78 dX7_watch_25 (by decide) (fun hc => ?_) (fun hc => ?_)
    · have hM := ite_t hc hM
      refine J.sub C [0, 1, 2, 3] rfl ?_
      exact jb78 kb8 hkb8 _ _ _ _ hM
    · have hM := ite_f hc hM
      refine J.aload_n (pc := 28) C dX7_watch_28 rfl rfl ?_
      refine gf_X7_0_27 (pc := 29) C tf_X7_67 dX7_watch_29 ?_
      refine J.iload_n (pc := 32) C dX7_watch_32 rfl rfl ?_
      obtain ⟨hv, hM⟩ := chk_ex hM
      refine J.iald (pc := 33) C (im_20 q cI) hv dX7_watch_33 ?_
      refine J.aload_n (pc := 34) C dX7_watch_34 rfl rfl ?_
      refine gf_X7_0_3 (pc := 35) C tf_X7_16 dX7_watch_35 ?_
      refine J.iload (pc := 38) C dX7_watch_38 rfl ?_
      obtain ⟨hv, hM⟩ := chk_ex hM
      refine J.iald (pc := 40) C (im_3 q cI) hv dX7_watch_40 ?_
      refine J.isub (pc := 41) C dX7_watch_41 ?_
      refine J.mabs (pc := 42) C tm_X7_144 (Nat.le_of_ble_eq_true rfl) (Nat.le_of_ble_eq_true rfl) dX7_watch_42 ?_
      refine J.iconst (pc := 45) C 4 dX7_watch_45 ic_4 ?_
      refine J.icmp_lt (pc := 46) C 70 dX7_watch_46 (by decide) (fun hc => ?_) (fun hc => ?_)
      · have hM := ite_t hc hM
        refine J.iconst (pc := 70) C 1 dX7_watch_70 ic_1 ?_
        refine J.istore_n (pc := 71) C dX7_watch_71 rfl (by decide) ?_
        refine J.iinc (pc := 72) C 1 dX7_watch_72 ic_1 rfl (by decide) ?_
        refine J.goto (pc := 75) C 19 dX7_watch_75 (by decide) ?_
        refine J.sub C [0, 1, 2, 3, 4] rfl ?_
        exact hkb19 _ _ _ _ _ hM
      · have hM := ite_f hc hM
        refine J.aload_n (pc := 49) C dX7_watch_49 rfl rfl ?_
        refine gf_X7_0_27 (pc := 50) C tf_X7_67 dX7_watch_50 ?_
        refine J.iload_n (pc := 53) C dX7_watch_53 rfl rfl ?_
        obtain ⟨hv, hM⟩ := chk_ex hM
        refine J.iald (pc := 54) C (im_20 q cI) hv dX7_watch_54 ?_
        refine J.aload_n (pc := 55) C dX7_watch_55 rfl rfl ?_
        refine gf_X7_0_4 (pc := 56) C tf_X7_19 dX7_watch_56 ?_
        refine J.iload (pc := 59) C dX7_watch_59 rfl ?_
        obtain ⟨hv, hM⟩ := chk_ex hM
        refine J.iald (pc := 61) C (im_4 q cI) hv dX7_watch_61 ?_
        refine J.isub (pc := 62) C dX7_watch_62 ?_
        refine J.mabs (pc := 63) C tm_X7_144 (Nat.le_of_ble_eq_true rfl) (Nat.le_of_ble_eq_true rfl) dX7_watch_63 ?_
        refine J.iconst (pc := 66) C 4 dX7_watch_66 ic_4 ?_
        refine J.icmp_ge (pc := 67) C 72 dX7_watch_67 (by decide) (fun hc => ?_) (fun hc => ?_)
        · have hM := ite_t hc hM
          refine J.iinc (pc := 72) C 1 dX7_watch_72 ic_1 rfl (by decide) ?_
          refine J.goto (pc := 75) C 19 dX7_watch_75 (by decide) ?_
          refine J.sub C [0, 1, 2, 3, 4] rfl ?_
          exact hkb19 _ _ _ _ _ hM
        · have hM := ite_f hc hM
          refine J.iconst (pc := 70) C 1 dX7_watch_70 ic_1 ?_
          refine J.istore_n (pc := 71) C dX7_watch_71 rfl (by decide) ?_
          refine J.iinc (pc := 72) C 1 dX7_watch_72 ic_1 rfl (by decide) ?_
          refine J.goto (pc := 75) C 19 dX7_watch_75 (by decide) ?_
          refine J.sub C [0, 1, 2, 3, 4] rfl ?_
          exact hkb19 _ _ _ _ _ hM
  have jl19 : ∀ (kb8 : Int32 → Int32 → Sg → Option (Int32 × Sg)) (hkb8 : ∀ (x1 x2 : Int32) (g : Sg), kb8 x1 x2 g = some r → J p l e (RM 5 115) s m args below meth c D (mW q cI) A 5 Q g 8 [(0, .ref (q 0)), (1, .int x1), (2, .int x2)] []) (x1 x2 x3 x4 : Int32) (g : Sg), lup4 (B_X7_watch_19 kb8) FU x1 x2 x3 x4 g = some r → J p l e (RM 5 115) s m args below meth c D (mW q cI) A 5 Q g 19 [(0, .ref (q 0)), (1, .int x1), (2, .int x2), (3, .int x3), (4, .int x4)] [] := 
    fun kb8 hkb8 => lup4_ok (P := fun x1 x2 x3 x4 g => J p l e (RM 5 115) s m args below meth c D (mW q cI) A 5 Q g 19 [(0, .ref (q 0)), (1, .int x1), (2, .int x2), (3, .int x3), (4, .int x4)] []) (fun self hself => jb19 kb8 hkb8 self hself) FU
  have jb8 : ∀ (kb8 : Int32 → Int32 → Sg → Option (Int32 × Sg)) (hkb8 : ∀ (x1 x2 : Int32) (g : Sg), kb8 x1 x2 g = some r → J p l e (RM 5 115) s m args below meth c D (mW q cI) A 5 Q g 8 [(0, .ref (q 0)), (1, .int x1), (2, .int x2)] []) (x1 x2 : Int32) (g : Sg), B_X7_watch_8 kb8 x1 x2 g = some r → J p l e (RM 5 115) s m args below meth c D (mW q cI) A 5 Q g 8 [(0, .ref (q 0)), (1, .int x1), (2, .int x2)] [] := by
    intro kb8 hkb8 x1 x2 g hM
    unfold B_X7_watch_8 at hM
    refine J.iload_n (pc := 8) C dX7_watch_8 rfl rfl ?_
    refine J.bipush (pc := 9) C 12 dX7_watch_9 bp_12 ?_
    refine J.icmp_ge (pc := 11) C 94 dX7_watch_11 (by decide) (fun hc => ?_) (fun hc => ?_)
    · have hM := ite_t hc hM
      refine J.iload_n (pc := 94) C dX7_watch_94 rfl rfl ?_
      exact hret dX7_watch_95 hM rfl
    · have hM := ite_f hc hM
      refine J.iconst (pc := 14) C 0 dX7_watch_14 ic_0 ?_
      refine J.istore_n (pc := 15) C dX7_watch_15 rfl (by decide) ?_
      refine J.iconst (pc := 16) C 0 dX7_watch_16 ic_0 ?_
      refine J.istore (pc := 17) C dX7_watch_17 (by decide) ?_
      refine J.sub C [0, 1, 2, 3, 4] rfl ?_
      exact jl19 kb8 hkb8 _ _ _ _ _ hM
  have jl8 : ∀ (x1 x2 : Int32) (g : Sg), lup2 (B_X7_watch_8) FU x1 x2 g = some r → J p l e (RM 5 115) s m args below meth c D (mW q cI) A 5 Q g 8 [(0, .ref (q 0)), (1, .int x1), (2, .int x2)] [] := 
    lup2_ok (P := fun x1 x2 g => J p l e (RM 5 115) s m args below meth c D (mW q cI) A 5 Q g 8 [(0, .ref (q 0)), (1, .int x1), (2, .int x2)] []) (fun self hself => jb8 self hself) FU
  have hM := h
  unfold M_X7_watch at hM
  refine J.aload_n (pc := 0) C dX7_watch_0 rfl rfl ?_
  obtain ⟨_, h1, hM⟩ := bV_ex hM
  refine J.callV0v (pc := 1) C (C_X7_run_ h1) lk_X7_run_ tm_X7_186 (io_m q cI) ⟨Nat.le_of_ble_eq_true rfl, Nat.le_of_ble_eq_true rfl⟩ (Nat.le_of_ble_eq_true rfl) dX7_watch_1 ?_
  refine J.iconst (pc := 4) C 0 dX7_watch_4 ic_0 ?_
  refine J.istore_n (pc := 5) C dX7_watch_5 rfl (by decide) ?_
  refine J.iconst (pc := 6) C 0 dX7_watch_6 ic_0 ?_
  refine J.istore_n (pc := 7) C dX7_watch_7 rfl (by decide) ?_
  refine J.sub C [0, 1, 2] rfl ?_
  exact jl8 _ _ _ hM
def B_X7_wrong_6 (kb6 : Int32 → Sg → Option (Int32 × Sg)) (x1 : Int32) (g : Sg) : Option (Int32 × Sg) := (if (g.1 3) ≤ x1 then some ((-9), g) else chk x1 12 (chk x1 12 ((if (rd g 9 x1) = (rd g 20 x1) then kb6 (x1 + 1) g else some (x1, g)))))
def M_X7_wrong (g : Sg) : Option (Int32 × Sg) := bV (M_X7_run_ g) (fun g_1 => lup1 (B_X7_wrong_6 ) FU 0 g_1)
set_option maxRecDepth 100000 in
set_option maxHeartbeats 4000000 in
theorem C_X7_wrong {l : Launch} {D : va_G} {q : Nat → Nat} {cI : ClassId} {z : Nat × Nat} {g : Sg} {r : Int32 × Sg} (h : M_X7_wrong g = some r) : CTi l (EM z) D cI (mW q cI) yX7_wrong cX7_wrong 2 (some .int) 5 115 [.ref (q 0)] g r := by
  refine CTi.of2 (by decide) (EM_ok z) (Nat.le_of_ble_eq_true rfl) rfl (fun p e s m args below meth c A Q C hret => ?_)
  have jb6 : ∀ (kb6 : Int32 → Sg → Option (Int32 × Sg)) (hkb6 : ∀ (x1 : Int32) (g : Sg), kb6 x1 g = some r → J p l e (RM 5 115) s m args below meth c D (mW q cI) A 2 Q g 6 [(0, .ref (q 0)), (1, .int x1)] []) (x1 : Int32) (g : Sg), B_X7_wrong_6 kb6 x1 g = some r → J p l e (RM 5 115) s m args below meth c D (mW q cI) A 2 Q g 6 [(0, .ref (q 0)), (1, .int x1)] [] := by
    intro kb6 hkb6 x1 g hM
    unfold B_X7_wrong_6 at hM
    refine J.iload_n (pc := 6) C dX7_wrong_6 rfl rfl ?_
    refine J.aload_n (pc := 7) C dX7_wrong_7 rfl rfl ?_
    refine gf_X7_0_11 (pc := 8) C tf_X7_214 dX7_wrong_8 ?_
    refine J.icmp_ge (pc := 11) C 37 dX7_wrong_11 (by decide) (fun hc => ?_) (fun hc => ?_)
    · have hM := ite_t hc hM
      refine J.bipush (pc := 37) C (-9) dX7_wrong_37 bp_m9 ?_
      exact hret dX7_wrong_39 hM rfl
    · have hM := ite_f hc hM
      refine J.aload_n (pc := 14) C dX7_wrong_14 rfl rfl ?_
      refine gf_X7_0_12 (pc := 15) C tf_X7_34 dX7_wrong_15 ?_
      refine J.iload_n (pc := 18) C dX7_wrong_18 rfl rfl ?_
      obtain ⟨hv, hM⟩ := chk_ex hM
      refine J.iald (pc := 19) C (im_9 q cI) hv dX7_wrong_19 ?_
      refine J.aload_n (pc := 20) C dX7_wrong_20 rfl rfl ?_
      refine gf_X7_0_27 (pc := 21) C tf_X7_67 dX7_wrong_21 ?_
      refine J.iload_n (pc := 24) C dX7_wrong_24 rfl rfl ?_
      obtain ⟨hv, hM⟩ := chk_ex hM
      refine J.iald (pc := 25) C (im_20 q cI) hv dX7_wrong_25 ?_
      refine J.icmp_eq (pc := 26) C 31 dX7_wrong_26 (by decide) (fun hc => ?_) (fun hc => ?_)
      · have hM := ite_t hc hM
        refine J.iinc (pc := 31) C 1 dX7_wrong_31 ic_1 rfl (by decide) ?_
        refine J.goto (pc := 34) C 6 dX7_wrong_34 (by decide) ?_
        refine J.sub C [0, 1] rfl ?_
        exact hkb6 _ _ hM
      · have hM := ite_f hc hM
        refine J.iload_n (pc := 29) C dX7_wrong_29 rfl rfl ?_
        exact hret dX7_wrong_30 hM rfl
  have jl6 : ∀ (x1 : Int32) (g : Sg), lup1 (B_X7_wrong_6) FU x1 g = some r → J p l e (RM 5 115) s m args below meth c D (mW q cI) A 2 Q g 6 [(0, .ref (q 0)), (1, .int x1)] [] := 
    lup1_ok (P := fun x1 g => J p l e (RM 5 115) s m args below meth c D (mW q cI) A 2 Q g 6 [(0, .ref (q 0)), (1, .int x1)] []) (fun self hself => jb6 self hself) FU
  have hM := h
  unfold M_X7_wrong at hM
  refine J.aload_n (pc := 0) C dX7_wrong_0 rfl rfl ?_
  obtain ⟨_, h1, hM⟩ := bV_ex hM
  refine J.callV0v (pc := 1) C (C_X7_run_ h1) lk_X7_run_ tm_X7_186 (io_m q cI) ⟨Nat.le_of_ble_eq_true rfl, Nat.le_of_ble_eq_true rfl⟩ (Nat.le_of_ble_eq_true rfl) dX7_wrong_1 ?_
  refine J.iconst (pc := 4) C 0 dX7_wrong_4 ic_0 ?_
  refine J.istore_n (pc := 5) C dX7_wrong_5 rfl (by decide) ?_
  refine J.sub C [0, 1] rfl ?_
  exact jl6 _ _ hM
def B_X7_whoHad_114 (x1 x3 x4 x5 : Int32) (g : Sg) : Option (Int32 × Sg) := chk x1 7 (lt (wr g 1 x1 x3) (fun g_9 => chk x1 7 (lt (wr g_9 2 x1 x4) (fun g_10 => some (x5, g_10)))))
def B_X7_whoHad_90 (kb51 : Int32 → Int32 → Int32 → Int32 → Int32 → Int32 → Sg → Option (Int32 × Sg)) (x1 x2 x3 x4 x5 x6 : Int32) (g : Sg) : Option (Int32 × Sg) := bI (M_X7_wrong g) (fun r_7 g_8 => (if r_7 = (-9) then kb51 x1 x2 x3 x4 (x5 ||| (1 <<< (x6 &&& 31))) (x6 + 1) g_8 else kb51 x1 x2 x3 x4 x5 (x6 + 1) g_8))
def B_X7_whoHad_64 (kb51 : Int32 → Int32 → Int32 → Int32 → Int32 → Int32 → Sg → Option (Int32 × Sg)) (x1 x2 x3 x4 x5 x6 y0 y1 : Int32) (g : Sg) : Option (Int32 × Sg) := (if y0 ≤ y1 then B_X7_whoHad_114 x1 x3 x4 x5 g else (if x2 = 0 then chk x1 7 (lt (wr g 1 x1 x6) (fun g_6 => B_X7_whoHad_90 kb51 x1 x2 x3 x4 x5 x6 g_6)) else chk x1 7 (lt (wr g 2 x1 x6) (fun g_5 => B_X7_whoHad_90 kb51 x1 x2 x3 x4 x5 x6 g_5))))
def B_X7_whoHad_51 (kb51 : Int32 → Int32 → Int32 → Int32 → Int32 → Int32 → Sg → Option (Int32 × Sg)) (x1 x2 x3 x4 x5 x6 : Int32) (g : Sg) : Option (Int32 × Sg) := (if x2 = 0 then B_X7_whoHad_64 kb51 x1 x2 x3 x4 x5 x6 6 x6 g else B_X7_whoHad_64 kb51 x1 x2 x3 x4 x5 x6 10 x6 g)
def M_X7_whoHad (x1 x2 : Int32) (g : Sg) : Option (Int32 × Sg) := (if (V_X7_isGoer x1 g) = 0 then bI (M_X7_no (-1) g) (fun r_3 g_4 => some (r_3, g_4)) else (if (V_X7_within x2 0 1 g) = 0 then bI (M_X7_no (-2) g) (fun r_1 g_2 => some (r_1, g_2)) else chk x1 7 (chk x1 7 (lup6 (B_X7_whoHad_51 ) FU x1 x2 (rd g 1 x1) (rd g 2 x1) 0 0 g))))
set_option maxRecDepth 100000 in
set_option maxHeartbeats 4000000 in
theorem C_X7_whoHad {l : Launch} {D : va_G} {q : Nat → Nat} {cI : ClassId} {z : Nat × Nat} {x1 x2 : Int32} {g : Sg} {r : Int32 × Sg} (h : M_X7_whoHad x1 x2 g = some r) : CTi l (EM z) D cI (mW q cI) yX7_whoHad cX7_whoHad 7 (some .int) 6 136 [.ref (q 0), .int x1, .int x2] g r := by
  refine CTi.of2 (by decide) (EM_ok z) (Nat.le_of_ble_eq_true rfl) rfl (fun p e s m args below meth c A Q C hret => ?_)
  have jb114 : ∀ (x1 x3 x4 x5 : Int32) (g : Sg), B_X7_whoHad_114 x1 x3 x4 x5 g = some r → J p l e (RM 6 136) s m args below meth c D (mW q cI) A 7 Q g 114 [(0, .ref (q 0)), (1, .int x1), (3, .int x3), (4, .int x4), (5, .int x5)] [] := by
    intro x1 x3 x4 x5 g hM
    unfold B_X7_whoHad_114 at hM
    refine J.aload_n (pc := 114) C dX7_whoHad_114 rfl rfl ?_
    refine gf_X7_0_1 (pc := 115) C tf_X7_7 dX7_whoHad_115 ?_
    refine J.iload_n (pc := 118) C dX7_whoHad_118 rfl rfl ?_
    refine J.iload_n (pc := 119) C dX7_whoHad_119 rfl rfl ?_
    obtain ⟨hv, hM⟩ := chk_ex hM
    refine J.iast (pc := 120) C (im_1 q cI) hv dX7_whoHad_120 ?_
    obtain ⟨_, ea, hM⟩ := lt_ex hM
    refine J.cong C ea ?_
    refine J.aload_n (pc := 121) C dX7_whoHad_121 rfl rfl ?_
    refine gf_X7_0_2 (pc := 122) C tf_X7_13 dX7_whoHad_122 ?_
    refine J.iload_n (pc := 125) C dX7_whoHad_125 rfl rfl ?_
    refine J.iload (pc := 126) C dX7_whoHad_126 rfl ?_
    obtain ⟨hv, hM⟩ := chk_ex hM
    refine J.iast (pc := 128) C (im_2 q cI) hv dX7_whoHad_128 ?_
    obtain ⟨_, ea, hM⟩ := lt_ex hM
    refine J.cong C ea ?_
    refine J.iload (pc := 129) C dX7_whoHad_129 rfl ?_
    exact hret dX7_whoHad_131 hM rfl
  have jb90 : ∀ (kb51 : Int32 → Int32 → Int32 → Int32 → Int32 → Int32 → Sg → Option (Int32 × Sg)) (hkb51 : ∀ (x1 x2 x3 x4 x5 x6 : Int32) (g : Sg), kb51 x1 x2 x3 x4 x5 x6 g = some r → J p l e (RM 6 136) s m args below meth c D (mW q cI) A 7 Q g 51 [(0, .ref (q 0)), (1, .int x1), (2, .int x2), (3, .int x3), (4, .int x4), (5, .int x5), (6, .int x6)] []) (x1 x2 x3 x4 x5 x6 : Int32) (g : Sg), B_X7_whoHad_90 kb51 x1 x2 x3 x4 x5 x6 g = some r → J p l e (RM 6 136) s m args below meth c D (mW q cI) A 7 Q g 90 [(0, .ref (q 0)), (1, .int x1), (2, .int x2), (3, .int x3), (4, .int x4), (5, .int x5), (6, .int x6)] [] := by
    intro kb51 hkb51 x1 x2 x3 x4 x5 x6 g hM
    unfold B_X7_whoHad_90 at hM
    refine J.aload_n (pc := 90) C dX7_whoHad_90 rfl rfl ?_
    obtain ⟨_, _, h1, hM⟩ := bI_ex hM
    refine J.callV0i (pc := 91) C (C_X7_wrong h1) lk_X7_wrong tm_X7_217 (io_m q cI) ⟨Nat.le_of_ble_eq_true rfl, Nat.le_of_ble_eq_true rfl⟩ (Nat.le_of_ble_eq_true rfl) dX7_whoHad_91 ?_
    refine J.bipush (pc := 94) C (-9) dX7_whoHad_94 bp_m9 ?_
    refine J.icmp_ne (pc := 96) C 108 dX7_whoHad_96 (by decide) (fun hc => ?_) (fun hc => ?_)
    · have hM := ite_f hc hM
      refine J.iinc (pc := 108) C 1 dX7_whoHad_108 ic_1 rfl (by decide) ?_
      refine J.goto (pc := 111) C 51 dX7_whoHad_111 (by decide) ?_
      refine J.sub C [0, 1, 2, 3, 4, 5, 6] rfl ?_
      exact hkb51 _ _ _ _ _ _ _ hM
    · have hM := ite_t hc hM
      refine J.iload (pc := 99) C dX7_whoHad_99 rfl ?_
      refine J.iconst (pc := 101) C 1 dX7_whoHad_101 ic_1 ?_
      refine J.iload (pc := 102) C dX7_whoHad_102 rfl ?_
      refine J.ishl (pc := 104) C dX7_whoHad_104 ?_
      refine J.ior (pc := 105) C dX7_whoHad_105 ?_
      refine J.istore (pc := 106) C dX7_whoHad_106 (by decide) ?_
      refine J.iinc (pc := 108) C 1 dX7_whoHad_108 ic_1 rfl (by decide) ?_
      refine J.goto (pc := 111) C 51 dX7_whoHad_111 (by decide) ?_
      refine J.sub C [0, 1, 2, 3, 4, 5, 6] rfl ?_
      exact hkb51 _ _ _ _ _ _ _ hM
  have jb64 : ∀ (kb51 : Int32 → Int32 → Int32 → Int32 → Int32 → Int32 → Sg → Option (Int32 × Sg)) (hkb51 : ∀ (x1 x2 x3 x4 x5 x6 : Int32) (g : Sg), kb51 x1 x2 x3 x4 x5 x6 g = some r → J p l e (RM 6 136) s m args below meth c D (mW q cI) A 7 Q g 51 [(0, .ref (q 0)), (1, .int x1), (2, .int x2), (3, .int x3), (4, .int x4), (5, .int x5), (6, .int x6)] []) (x1 x2 x3 x4 x5 x6 y0 y1 : Int32) (g : Sg), B_X7_whoHad_64 kb51 x1 x2 x3 x4 x5 x6 y0 y1 g = some r → J p l e (RM 6 136) s m args below meth c D (mW q cI) A 7 Q g 64 [(0, .ref (q 0)), (1, .int x1), (2, .int x2), (3, .int x3), (4, .int x4), (5, .int x5), (6, .int x6)] [.int y0, .int y1] := by
    intro kb51 hkb51 x1 x2 x3 x4 x5 x6 y0 y1 g hM
    unfold B_X7_whoHad_64 at hM
    refine J.icmp_ge (pc := 64) C 114 dX7_whoHad_64 (by decide) (fun hc => ?_) (fun hc => ?_)
    · have hM := ite_t hc hM
      refine J.sub C [0, 1, 3, 4, 5] rfl ?_
      exact jb114 _ _ _ _ _ hM
    · have hM := ite_f hc hM
      refine J.iload_n (pc := 67) C dX7_whoHad_67 rfl rfl ?_
      refine J.if_ne (pc := 68) C 82 dX7_whoHad_68 (by decide) (fun hc => ?_) (fun hc => ?_)
      · have hM := ite_f hc hM
        refine J.aload_n (pc := 82) C dX7_whoHad_82 rfl rfl ?_
        refine gf_X7_0_2 (pc := 83) C tf_X7_13 dX7_whoHad_83 ?_
        refine J.iload_n (pc := 86) C dX7_whoHad_86 rfl rfl ?_
        refine J.iload (pc := 87) C dX7_whoHad_87 rfl ?_
        obtain ⟨hv, hM⟩ := chk_ex hM
        refine J.iast (pc := 89) C (im_2 q cI) hv dX7_whoHad_89 ?_
        obtain ⟨_, ea, hM⟩ := lt_ex hM
        refine J.cong C ea ?_
        refine J.sub C [0, 1, 2, 3, 4, 5, 6] rfl ?_
        exact jb90 kb51 hkb51 _ _ _ _ _ _ _ hM
      · have hM := ite_t hc hM
        refine J.aload_n (pc := 71) C dX7_whoHad_71 rfl rfl ?_
        refine gf_X7_0_1 (pc := 72) C tf_X7_7 dX7_whoHad_72 ?_
        refine J.iload_n (pc := 75) C dX7_whoHad_75 rfl rfl ?_
        refine J.iload (pc := 76) C dX7_whoHad_76 rfl ?_
        obtain ⟨hv, hM⟩ := chk_ex hM
        refine J.iast (pc := 78) C (im_1 q cI) hv dX7_whoHad_78 ?_
        obtain ⟨_, ea, hM⟩ := lt_ex hM
        refine J.cong C ea ?_
        refine J.goto (pc := 79) C 90 dX7_whoHad_79 (by decide) ?_
        refine J.sub C [0, 1, 2, 3, 4, 5, 6] rfl ?_
        exact jb90 kb51 hkb51 _ _ _ _ _ _ _ hM
  have jb51 : ∀ (kb51 : Int32 → Int32 → Int32 → Int32 → Int32 → Int32 → Sg → Option (Int32 × Sg)) (hkb51 : ∀ (x1 x2 x3 x4 x5 x6 : Int32) (g : Sg), kb51 x1 x2 x3 x4 x5 x6 g = some r → J p l e (RM 6 136) s m args below meth c D (mW q cI) A 7 Q g 51 [(0, .ref (q 0)), (1, .int x1), (2, .int x2), (3, .int x3), (4, .int x4), (5, .int x5), (6, .int x6)] []) (x1 x2 x3 x4 x5 x6 : Int32) (g : Sg), B_X7_whoHad_51 kb51 x1 x2 x3 x4 x5 x6 g = some r → J p l e (RM 6 136) s m args below meth c D (mW q cI) A 7 Q g 51 [(0, .ref (q 0)), (1, .int x1), (2, .int x2), (3, .int x3), (4, .int x4), (5, .int x5), (6, .int x6)] [] := by
    intro kb51 hkb51 x1 x2 x3 x4 x5 x6 g hM
    unfold B_X7_whoHad_51 at hM
    refine J.iload (pc := 51) C dX7_whoHad_51 rfl ?_
    refine J.iload_n (pc := 53) C dX7_whoHad_53 rfl rfl ?_
    refine J.if_ne (pc := 54) C 62 dX7_whoHad_54 (by decide) (fun hc => ?_) (fun hc => ?_)
    · have hM := ite_f hc hM
      refine J.bipush (pc := 62) C 10 dX7_whoHad_62 bp_10 ?_
      refine J.sub C [0, 1, 2, 3, 4, 5, 6] rfl ?_
      exact jb64 kb51 hkb51 _ _ _ _ _ _ _ _ _ hM
    · have hM := ite_t hc hM
      refine J.bipush (pc := 57) C 6 dX7_whoHad_57 bp_6 ?_
      refine J.goto (pc := 59) C 64 dX7_whoHad_59 (by decide) ?_
      refine J.sub C [0, 1, 2, 3, 4, 5, 6] rfl ?_
      exact jb64 kb51 hkb51 _ _ _ _ _ _ _ _ _ hM
  have jl51 : ∀ (x1 x2 x3 x4 x5 x6 : Int32) (g : Sg), lup6 (B_X7_whoHad_51) FU x1 x2 x3 x4 x5 x6 g = some r → J p l e (RM 6 136) s m args below meth c D (mW q cI) A 7 Q g 51 [(0, .ref (q 0)), (1, .int x1), (2, .int x2), (3, .int x3), (4, .int x4), (5, .int x5), (6, .int x6)] [] := 
    lup6_ok (P := fun x1 x2 x3 x4 x5 x6 g => J p l e (RM 6 136) s m args below meth c D (mW q cI) A 7 Q g 51 [(0, .ref (q 0)), (1, .int x1), (2, .int x2), (3, .int x3), (4, .int x4), (5, .int x5), (6, .int x6)] []) (fun self hself => jb51 self hself) FU
  have hM := h
  unfold M_X7_whoHad at hM
  refine J.aload_n (pc := 0) C dX7_whoHad_0 rfl rfl ?_
  refine J.iload_n (pc := 1) C dX7_whoHad_1 rfl rfl ?_
  refine J.callV1i (pc := 2) C (K_X7_isGoer _ _) lk_X7_isGoer tm_X7_121 (io_m q cI) ⟨Nat.le_of_ble_eq_true rfl, Nat.le_of_ble_eq_true rfl⟩ (Nat.le_of_ble_eq_true rfl) dX7_whoHad_2 ?_
  refine J.if_ne (pc := 5) C 14 dX7_whoHad_5 (by decide) (fun hc => ?_) (fun hc => ?_)
  · have hM := ite_f hc hM
    refine J.iload_n (pc := 14) C dX7_whoHad_14 rfl rfl ?_
    refine J.iconst (pc := 15) C 0 dX7_whoHad_15 ic_0 ?_
    refine J.iconst (pc := 16) C 1 dX7_whoHad_16 ic_1 ?_
    refine J.callS3i (pc := 17) C (K_X7_within _ _ _ _) lk_X7_within tm_X7_88 ⟨Nat.le_of_ble_eq_true rfl, Nat.le_of_ble_eq_true rfl⟩ (Nat.le_of_ble_eq_true rfl) dX7_whoHad_17 ?_
    refine J.if_ne (pc := 20) C 30 dX7_whoHad_20 (by decide) (fun hc => ?_) (fun hc => ?_)
    · have hM := ite_f hc hM
      refine J.aload_n (pc := 30) C dX7_whoHad_30 rfl rfl ?_
      refine gf_X7_0_1 (pc := 31) C tf_X7_7 dX7_whoHad_31 ?_
      refine J.iload_n (pc := 34) C dX7_whoHad_34 rfl rfl ?_
      obtain ⟨hv, hM⟩ := chk_ex hM
      refine J.iald (pc := 35) C (im_1 q cI) hv dX7_whoHad_35 ?_
      refine J.istore_n (pc := 36) C dX7_whoHad_36 rfl (by decide) ?_
      refine J.aload_n (pc := 37) C dX7_whoHad_37 rfl rfl ?_
      refine gf_X7_0_2 (pc := 38) C tf_X7_13 dX7_whoHad_38 ?_
      refine J.iload_n (pc := 41) C dX7_whoHad_41 rfl rfl ?_
      obtain ⟨hv, hM⟩ := chk_ex hM
      refine J.iald (pc := 42) C (im_2 q cI) hv dX7_whoHad_42 ?_
      refine J.istore (pc := 43) C dX7_whoHad_43 (by decide) ?_
      refine J.iconst (pc := 45) C 0 dX7_whoHad_45 ic_0 ?_
      refine J.istore (pc := 46) C dX7_whoHad_46 (by decide) ?_
      refine J.iconst (pc := 48) C 0 dX7_whoHad_48 ic_0 ?_
      refine J.istore (pc := 49) C dX7_whoHad_49 (by decide) ?_
      refine J.sub C [0, 1, 2, 3, 4, 5, 6] rfl ?_
      exact jl51 _ _ _ _ _ _ _ hM
    · have hM := ite_t hc hM
      refine J.aload_n (pc := 23) C dX7_whoHad_23 rfl rfl ?_
      refine J.bipush (pc := 24) C (-2) dX7_whoHad_24 bp_m2 ?_
      obtain ⟨_, _, h1, hM⟩ := bI_ex hM
      refine J.callV1i (pc := 26) C (C_X7_no h1) lk_X7_no tm_X7_80 (io_m q cI) ⟨Nat.le_of_ble_eq_true rfl, Nat.le_of_ble_eq_true rfl⟩ (Nat.le_of_ble_eq_true rfl) dX7_whoHad_26 ?_
      exact hret dX7_whoHad_29 hM rfl
  · have hM := ite_t hc hM
    refine J.aload_n (pc := 8) C dX7_whoHad_8 rfl rfl ?_
    refine J.iconst (pc := 9) C (-1) dX7_whoHad_9 ic_m1 ?_
    obtain ⟨_, _, h1, hM⟩ := bI_ex hM
    refine J.callV1i (pc := 10) C (C_X7_no h1) lk_X7_no tm_X7_80 (io_m q cI) ⟨Nat.le_of_ble_eq_true rfl, Nat.le_of_ble_eq_true rfl⟩ (Nat.le_of_ble_eq_true rfl) dX7_whoHad_10 ?_
    exact hret dX7_whoHad_13 hM rfl
def B_X7_leastOil_60 (x1 x3 : Int32) (g : Sg) : Option (Int32 × Sg) := lt (wr g 6 1 x1) (fun g_7 => some (x3, g_7))
def B_X7_leastOil_30 (kb30 : Int32 → Int32 → Int32 → Int32 → Sg → Option (Int32 × Sg)) (x1 x2 x3 x4 : Int32) (g : Sg) : Option (Int32 × Sg) := (if x4 < 0 then B_X7_leastOil_60 x1 x3 g else lt (wr g 6 1 x4) (fun g_4 => bI (M_X7_costNow g_4) (fun r_5 g_6 => (if r_5 = x2 then kb30 x1 x2 x4 (x4 + (-1)) g_6 else kb30 x1 x2 x3 (x4 + (-1)) g_6))))
def M_X7_leastOil (g : Sg) : Option (Int32 × Sg) := lt (wr g 6 1 200) (fun g_1 => bI (M_X7_costNow g_1) (fun r_2 g_3 => lup4 (B_X7_leastOil_30 ) FU (rd g 6 1) r_2 200 199 g_3))
set_option maxRecDepth 100000 in
set_option maxHeartbeats 4000000 in
theorem C_X7_leastOil {l : Launch} {D : va_G} {q : Nat → Nat} {cI : ClassId} {z : Nat × Nat} {g : Sg} {r : Int32 × Sg} (h : M_X7_leastOil g = some r) : CTi l (EM z) D cI (mW q cI) yX7_leastOil cX7_leastOil 5 (some .int) 6 135 [.ref (q 0)] g r := by
  refine CTi.of2 (by decide) (EM_ok z) (Nat.le_of_ble_eq_true rfl) rfl (fun p e s m args below meth c A Q C hret => ?_)
  have jb60 : ∀ (x1 x3 : Int32) (g : Sg), B_X7_leastOil_60 x1 x3 g = some r → J p l e (RM 6 135) s m args below meth c D (mW q cI) A 5 Q g 60 [(0, .ref (q 0)), (1, .int x1), (3, .int x3)] [] := by
    intro x1 x3 g hM
    unfold B_X7_leastOil_60 at hM
    refine J.aload_n (pc := 60) C dX7_leastOil_60 rfl rfl ?_
    refine gf_X7_0_6 (pc := 61) C tf_X7_25 dX7_leastOil_61 ?_
    refine J.iconst (pc := 64) C 1 dX7_leastOil_64 ic_1 ?_
    refine J.iload_n (pc := 65) C dX7_leastOil_65 rfl rfl ?_
    refine J.iast (pc := 66) C (im_6 q cI) (vpl rfl) dX7_leastOil_66 ?_
    obtain ⟨_, ea, hM⟩ := lt_ex hM
    refine J.cong C ea ?_
    refine J.iload_n (pc := 67) C dX7_leastOil_67 rfl rfl ?_
    exact hret dX7_leastOil_68 hM rfl
  have jb30 : ∀ (kb30 : Int32 → Int32 → Int32 → Int32 → Sg → Option (Int32 × Sg)) (hkb30 : ∀ (x1 x2 x3 x4 : Int32) (g : Sg), kb30 x1 x2 x3 x4 g = some r → J p l e (RM 6 135) s m args below meth c D (mW q cI) A 5 Q g 30 [(0, .ref (q 0)), (1, .int x1), (2, .int x2), (3, .int x3), (4, .int x4)] []) (x1 x2 x3 x4 : Int32) (g : Sg), B_X7_leastOil_30 kb30 x1 x2 x3 x4 g = some r → J p l e (RM 6 135) s m args below meth c D (mW q cI) A 5 Q g 30 [(0, .ref (q 0)), (1, .int x1), (2, .int x2), (3, .int x3), (4, .int x4)] [] := by
    intro kb30 hkb30 x1 x2 x3 x4 g hM
    unfold B_X7_leastOil_30 at hM
    refine J.iload (pc := 30) C dX7_leastOil_30 rfl ?_
    refine J.if_lt (pc := 32) C 60 dX7_leastOil_32 (by decide) (fun hc => ?_) (fun hc => ?_)
    · have hM := ite_t hc hM
      refine J.sub C [0, 1, 3] rfl ?_
      exact jb60 _ _ _ hM
    · have hM := ite_f hc hM
      refine J.aload_n (pc := 35) C dX7_leastOil_35 rfl rfl ?_
      refine gf_X7_0_6 (pc := 36) C tf_X7_25 dX7_leastOil_36 ?_
      refine J.iconst (pc := 39) C 1 dX7_leastOil_39 ic_1 ?_
      refine J.iload (pc := 40) C dX7_leastOil_40 rfl ?_
      refine J.iast (pc := 42) C (im_6 q cI) (vpl rfl) dX7_leastOil_42 ?_
      obtain ⟨_, ea, hM⟩ := lt_ex hM
      refine J.cong C ea ?_
      refine J.aload_n (pc := 43) C dX7_leastOil_43 rfl rfl ?_
      obtain ⟨_, _, h1, hM⟩ := bI_ex hM
      refine J.callV0i (pc := 44) C (C_X7_costNow h1) lk_X7_costNow tm_X7_199 (io_m q cI) ⟨Nat.le_of_ble_eq_true rfl, Nat.le_of_ble_eq_true rfl⟩ (Nat.le_of_ble_eq_true rfl) dX7_leastOil_44 ?_
      refine J.iload_n (pc := 47) C dX7_leastOil_47 rfl rfl ?_
      refine J.icmp_ne (pc := 48) C 54 dX7_leastOil_48 (by decide) (fun hc => ?_) (fun hc => ?_)
      · have hM := ite_f hc hM
        refine J.iinc (pc := 54) C (-1) dX7_leastOil_54 ic_m1 rfl (by decide) ?_
        refine J.goto (pc := 57) C 30 dX7_leastOil_57 (by decide) ?_
        refine J.sub C [0, 1, 2, 3, 4] rfl ?_
        exact hkb30 _ _ _ _ _ hM
      · have hM := ite_t hc hM
        refine J.iload (pc := 51) C dX7_leastOil_51 rfl ?_
        refine J.istore_n (pc := 53) C dX7_leastOil_53 rfl (by decide) ?_
        refine J.iinc (pc := 54) C (-1) dX7_leastOil_54 ic_m1 rfl (by decide) ?_
        refine J.goto (pc := 57) C 30 dX7_leastOil_57 (by decide) ?_
        refine J.sub C [0, 1, 2, 3, 4] rfl ?_
        exact hkb30 _ _ _ _ _ hM
  have jl30 : ∀ (x1 x2 x3 x4 : Int32) (g : Sg), lup4 (B_X7_leastOil_30) FU x1 x2 x3 x4 g = some r → J p l e (RM 6 135) s m args below meth c D (mW q cI) A 5 Q g 30 [(0, .ref (q 0)), (1, .int x1), (2, .int x2), (3, .int x3), (4, .int x4)] [] := 
    lup4_ok (P := fun x1 x2 x3 x4 g => J p l e (RM 6 135) s m args below meth c D (mW q cI) A 5 Q g 30 [(0, .ref (q 0)), (1, .int x1), (2, .int x2), (3, .int x3), (4, .int x4)] []) (fun self hself => jb30 self hself) FU
  have hM := h
  unfold M_X7_leastOil at hM
  refine J.aload_n (pc := 0) C dX7_leastOil_0 rfl rfl ?_
  refine gf_X7_0_6 (pc := 1) C tf_X7_25 dX7_leastOil_1 ?_
  refine J.iconst (pc := 4) C 1 dX7_leastOil_4 ic_1 ?_
  refine J.iald (pc := 5) C (im_6 q cI) (vpl rfl) dX7_leastOil_5 ?_
  refine J.istore_n (pc := 6) C dX7_leastOil_6 rfl (by decide) ?_
  refine J.aload_n (pc := 7) C dX7_leastOil_7 rfl rfl ?_
  refine gf_X7_0_6 (pc := 8) C tf_X7_25 dX7_leastOil_8 ?_
  refine J.iconst (pc := 11) C 1 dX7_leastOil_11 ic_1 ?_
  refine J.sipush (pc := 12) C 200 dX7_leastOil_12 sp_200 ?_
  refine J.iast (pc := 15) C (im_6 q cI) (vpl rfl) dX7_leastOil_15 ?_
  obtain ⟨_, ea, hM⟩ := lt_ex hM
  refine J.cong C ea ?_
  refine J.aload_n (pc := 16) C dX7_leastOil_16 rfl rfl ?_
  obtain ⟨_, _, h1, hM⟩ := bI_ex hM
  refine J.callV0i (pc := 17) C (C_X7_costNow h1) lk_X7_costNow tm_X7_199 (io_m q cI) ⟨Nat.le_of_ble_eq_true rfl, Nat.le_of_ble_eq_true rfl⟩ (Nat.le_of_ble_eq_true rfl) dX7_leastOil_17 ?_
  refine J.istore_n (pc := 20) C dX7_leastOil_20 rfl (by decide) ?_
  refine J.sipush (pc := 21) C 200 dX7_leastOil_21 sp_200 ?_
  refine J.istore_n (pc := 24) C dX7_leastOil_24 rfl (by decide) ?_
  refine J.sipush (pc := 25) C 199 dX7_leastOil_25 sp_199 ?_
  refine J.istore (pc := 28) C dX7_leastOil_28 (by decide) ?_
  refine J.sub C [0, 1, 2, 3, 4] rfl ?_
  exact jl30 _ _ _ _ _ hM
def M_X7_row (x1 : Int32) (g : Sg) : Option (Int32 × Sg) := (if 0 ≤ x1 then (if 99 < x1 then bI (M_X7_no (-6) g) (fun r_1 g_2 => some (r_1, g_2)) else (if (g.1 3) = 12 then bI (M_X7_no (-6) g) (fun r_5 g_6 => some (r_5, g_6)) else lt (sI g 3 ((g.1 3) + 1)) (fun g_3 => chk (g.1 3) 12 (lt (wr g_3 9 (g.1 3) x1) (fun g_4 => some (g_4.1 3, g_4)))))) else bI (M_X7_no (-4) g) (fun r_7 g_8 => some (r_7, g_8)))
set_option maxRecDepth 100000 in
set_option maxHeartbeats 4000000 in
theorem C_X7_row {l : Launch} {D : va_G} {q : Nat → Nat} {cI : ClassId} {z : Nat × Nat} {x1 : Int32} {g : Sg} {r : Int32 × Sg} (h : M_X7_row x1 g = some r) : CTi l (EM z) D cI (mW q cI) yX7_row cX7_row 2 (some .int) 1 21 [.ref (q 0), .int x1] g r := by
  refine CTi.of2 (by decide) (EM_ok z) (Nat.le_of_ble_eq_true rfl) rfl (fun p e s m args below meth c A Q C hret => ?_)
  have hM := h
  unfold M_X7_row at hM
  refine J.iload_n (pc := 0) C dX7_row_0 rfl rfl ?_
  refine J.if_ge (pc := 1) C 11 dX7_row_1 (by decide) (fun hc => ?_) (fun hc => ?_)
  · have hM := ite_t hc hM
    refine J.iload_n (pc := 11) C dX7_row_11 rfl rfl ?_
    refine J.bipush (pc := 12) C 99 dX7_row_12 bp_99 ?_
    refine J.icmp_gt (pc := 14) C 26 dX7_row_14 (by decide) (fun hc => ?_) (fun hc => ?_)
    · have hM := ite_t hc hM
      refine J.aload_n (pc := 26) C dX7_row_26 rfl rfl ?_
      refine J.bipush (pc := 27) C (-6) dX7_row_27 bp_m6 ?_
      obtain ⟨_, _, h1, hM⟩ := bI_ex hM
      refine J.callV1i (pc := 29) C (C_X7_no h1) lk_X7_no tm_X7_80 (io_m q cI) ⟨Nat.le_of_ble_eq_true rfl, Nat.le_of_ble_eq_true rfl⟩ (Nat.le_of_ble_eq_true rfl) dX7_row_29 ?_
      exact hret dX7_row_32 hM rfl
    · have hM := ite_f hc hM
      refine J.aload_n (pc := 17) C dX7_row_17 rfl rfl ?_
      refine gf_X7_0_11 (pc := 18) C tf_X7_214 dX7_row_18 ?_
      refine J.bipush (pc := 21) C 12 dX7_row_21 bp_12 ?_
      refine J.icmp_ne (pc := 23) C 33 dX7_row_23 (by decide) (fun hc => ?_) (fun hc => ?_)
      · have hM := ite_f hc hM
        refine J.aload_n (pc := 33) C dX7_row_33 rfl rfl ?_
        refine gf_X7_0_12 (pc := 34) C tf_X7_34 dX7_row_34 ?_
        refine J.aload_n (pc := 37) C dX7_row_37 rfl rfl ?_
        refine J.dup (pc := 38) C dX7_row_38 rfl ?_
        refine gf_X7_0_11 (pc := 39) C tf_X7_214 dX7_row_39 ?_
        refine J.dup_x1 (pc := 42) C dX7_row_42 rfl rfl ?_
        refine J.iconst (pc := 43) C 1 dX7_row_43 ic_1 ?_
        refine J.iadd (pc := 44) C dX7_row_44 ?_
        refine pf_X7_0_11 (pc := 45) C tf_X7_214 dX7_row_45 ?_
        obtain ⟨_, ea, hM⟩ := lt_ex hM
        refine J.cong C ea ?_
        refine J.iload_n (pc := 48) C dX7_row_48 rfl rfl ?_
        obtain ⟨hv, hM⟩ := chk_ex hM
        refine J.iast (pc := 49) C (im_9 q cI) hv dX7_row_49 ?_
        obtain ⟨_, ea, hM⟩ := lt_ex hM
        refine J.cong C ea ?_
        refine J.aload_n (pc := 50) C dX7_row_50 rfl rfl ?_
        refine gf_X7_0_11 (pc := 51) C tf_X7_214 dX7_row_51 ?_
        exact hret dX7_row_54 hM rfl
      · have hM := ite_t hc hM
        refine J.aload_n (pc := 26) C dX7_row_26 rfl rfl ?_
        refine J.bipush (pc := 27) C (-6) dX7_row_27 bp_m6 ?_
        obtain ⟨_, _, h1, hM⟩ := bI_ex hM
        refine J.callV1i (pc := 29) C (C_X7_no h1) lk_X7_no tm_X7_80 (io_m q cI) ⟨Nat.le_of_ble_eq_true rfl, Nat.le_of_ble_eq_true rfl⟩ (Nat.le_of_ble_eq_true rfl) dX7_row_29 ?_
        exact hret dX7_row_32 hM rfl
  · have hM := ite_f hc hM
    refine J.aload_n (pc := 4) C dX7_row_4 rfl rfl ?_
    refine J.bipush (pc := 5) C (-4) dX7_row_5 bp_m4 ?_
    obtain ⟨_, _, h1, hM⟩ := bI_ex hM
    refine J.callV1i (pc := 7) C (C_X7_no h1) lk_X7_no tm_X7_80 (io_m q cI) ⟨Nat.le_of_ble_eq_true rfl, Nat.le_of_ble_eq_true rfl⟩ (Nat.le_of_ble_eq_true rfl) dX7_row_7 ?_
    exact hret dX7_row_10 hM rfl
def M_X7_judge (g : Sg) : Option (Int32 × Sg) := bI (M_X7_wrong g) (fun r_1 g_2 => lt (sI g_2 3 0) (fun g_3 => some (r_1, g_3)))
set_option maxRecDepth 100000 in
set_option maxHeartbeats 4000000 in
theorem C_X7_judge {l : Launch} {D : va_G} {q : Nat → Nat} {cI : ClassId} {z : Nat × Nat} {g : Sg} {r : Int32 × Sg} (h : M_X7_judge g = some r) : CTi l (EM z) D cI (mW q cI) yX7_judge cX7_judge 2 (some .int) 6 136 [.ref (q 0)] g r := by
  refine CTi.of2 (by decide) (EM_ok z) (Nat.le_of_ble_eq_true rfl) rfl (fun p e s m args below meth c A Q C hret => ?_)
  have hM := h
  unfold M_X7_judge at hM
  refine J.aload_n (pc := 0) C dX7_judge_0 rfl rfl ?_
  obtain ⟨_, _, h1, hM⟩ := bI_ex hM
  refine J.callV0i (pc := 1) C (C_X7_wrong h1) lk_X7_wrong tm_X7_217 (io_m q cI) ⟨Nat.le_of_ble_eq_true rfl, Nat.le_of_ble_eq_true rfl⟩ (Nat.le_of_ble_eq_true rfl) dX7_judge_1 ?_
  refine J.istore_n (pc := 4) C dX7_judge_4 rfl (by decide) ?_
  refine J.aload_n (pc := 5) C dX7_judge_5 rfl rfl ?_
  refine J.iconst (pc := 6) C 0 dX7_judge_6 ic_0 ?_
  refine pf_X7_0_11 (pc := 7) C tf_X7_214 dX7_judge_7 ?_
  obtain ⟨_, ea, hM⟩ := lt_ex hM
  refine J.cong C ea ?_
  refine J.iload_n (pc := 10) C dX7_judge_10 rfl rfl ?_
  exact hret dX7_judge_11 hM rfl
def M_X7_clear (g : Sg) : Option (Int32 × Sg) := lt (sI g 3 0) (fun g_1 => some (g.1 3, g_1))
set_option maxRecDepth 100000 in
set_option maxHeartbeats 4000000 in
theorem C_X7_clear {l : Launch} {D : va_G} {q : Nat → Nat} {cI : ClassId} {z : Nat × Nat} {g : Sg} {r : Int32 × Sg} (h : M_X7_clear g = some r) : CTi l (EM z) D cI (mW q cI) yX7_clear cX7_clear 2 (some .int) 0 0 [.ref (q 0)] g r := by
  refine CTi.of2 (by decide) (EM_ok z) (Nat.le_of_ble_eq_true rfl) rfl (fun p e s m args below meth c A Q C hret => ?_)
  have hM := h
  unfold M_X7_clear at hM
  refine J.aload_n (pc := 0) C dX7_clear_0 rfl rfl ?_
  refine gf_X7_0_11 (pc := 1) C tf_X7_214 dX7_clear_1 ?_
  refine J.istore_n (pc := 4) C dX7_clear_4 rfl (by decide) ?_
  refine J.aload_n (pc := 5) C dX7_clear_5 rfl rfl ?_
  refine J.iconst (pc := 6) C 0 dX7_clear_6 ic_0 ?_
  refine pf_X7_0_11 (pc := 7) C tf_X7_214 dX7_clear_7 ?_
  obtain ⟨_, ea, hM⟩ := lt_ex hM
  refine J.cong C ea ?_
  refine J.iload_n (pc := 10) C dX7_clear_10 rfl rfl ?_
  exact hret dX7_clear_11 hM rfl
def B_X7_lots_147 (x3 x5 x6 : Int32) (g : Sg) : Option (Int32 × Sg) := bV (M_X7_again 12 39 g) (fun g_11 => (if x3 = 0 then some (x5, g_11) else some (x6, g_11)))
def B_X7_lots_114 (kb61 : Int32 → Int32 → Int32 → Int32 → Int32 → Int32 → Sg → Option (Int32 × Sg)) (x1 x3 x4 x5 x6 x7 : Int32) (g : Sg) : Option (Int32 × Sg) := bI (M_X7_costNow g) (fun r_9 g_10 => (if (rd g_10 14 0) = (rd g_10 6 0) then kb61 x1 x3 x4 (x5 + r_9) (x6 + 1) (x7 + 1) g_10 else kb61 x1 x3 x4 (x5 + r_9) x6 (x7 + 1) g_10))
def B_X7_lots_70 (kb61 : Int32 → Int32 → Int32 → Int32 → Int32 → Int32 → Sg → Option (Int32 × Sg)) (kb70 : Int32 → Int32 → Int32 → Int32 → Int32 → Int32 → Int32 → Sg → Option (Int32 × Sg)) (x1 x3 x4 x5 x6 x7 x8 : Int32) (g : Sg) : Option (Int32 × Sg) := (if (g.1 0) ≤ x8 then B_X7_lots_114 kb61 x1 x3 x4 x5 x6 x7 g else chk x8 7 (lt (wr g 5 x8 (((((x4 * 1664525) + 1013904223) &&& 2147483647) / 256) - ((((x4 * 1664525) + 1013904223) &&& 2147483647) / 256) / 12 * 12)) (fun g_8 => kb70 x1 x3 ((x4 * 1664525) + 1013904223) x5 x6 x7 (x8 + 1) g_8)))
def B_X7_lots_61 (kb61 : Int32 → Int32 → Int32 → Int32 → Int32 → Int32 → Sg → Option (Int32 × Sg)) (x1 x3 x4 x5 x6 x7 : Int32) (g : Sg) : Option (Int32 × Sg) := (if x1 ≤ x7 then B_X7_lots_147 x3 x5 x6 g else lup7 (B_X7_lots_70 kb61 ) FU x1 x3 x4 x5 x6 x7 0 g)
def M_X7_lots (x1 x2 x3 : Int32) (g : Sg) : Option (Int32 × Sg) := (if 1 ≤ x1 then (if x1 ≤ 20 then (if (V_X7_within x3 0 1 g) = 0 then bI (M_X7_no (-2) g) (fun r_2 g_3 => some (r_2, g_3)) else bV (M_X7_keep 12 39 g) (fun g_1 => lup6 (B_X7_lots_61 ) FU x1 x3 x2 0 0 0 g_1)) else bI (M_X7_no (-6) g) (fun r_4 g_5 => some (r_4, g_5))) else bI (M_X7_no (-4) g) (fun r_6 g_7 => some (r_6, g_7)))
set_option maxRecDepth 100000 in
set_option maxHeartbeats 4000000 in
theorem C_X7_lots {l : Launch} {D : va_G} {q : Nat → Nat} {cI : ClassId} {z : Nat × Nat} {x1 x2 x3 : Int32} {g : Sg} {r : Int32 × Sg} (h : M_X7_lots x1 x2 x3 g = some r) : CTi l (EM z) D cI (mW q cI) yX7_lots cX7_lots 9 (some .int) 6 135 [.ref (q 0), .int x1, .int x2, .int x3] g r := by
  refine CTi.of2 (by decide) (EM_ok z) (Nat.le_of_ble_eq_true rfl) rfl (fun p e s m args below meth c A Q C hret => ?_)
  have jb147 : ∀ (x3 x5 x6 : Int32) (g : Sg), B_X7_lots_147 x3 x5 x6 g = some r → J p l e (RM 6 135) s m args below meth c D (mW q cI) A 9 Q g 147 [(0, .ref (q 0)), (3, .int x3), (5, .int x5), (6, .int x6)] [] := by
    intro x3 x5 x6 g hM
    unfold B_X7_lots_147 at hM
    refine J.aload_n (pc := 147) C dX7_lots_147 rfl rfl ?_
    refine J.aload_n (pc := 148) C dX7_lots_148 rfl rfl ?_
    refine gf_X7_0_16 (pc := 149) C tf_X7_43 dX7_lots_149 ?_
    obtain ⟨_, h1, hM⟩ := bV_ex hM
    refine J.callV1v (pc := 152) C (C_X7_again (im_12 q cI) h1) lk_X7_again tm_X7_132 (io_m q cI) ⟨Nat.le_of_ble_eq_true rfl, Nat.le_of_ble_eq_true rfl⟩ (Nat.le_of_ble_eq_true rfl) dX7_lots_152 ?_
    refine J.iload_n (pc := 155) C dX7_lots_155 rfl rfl ?_
    refine J.if_ne (pc := 156) C 164 dX7_lots_156 (by decide) (fun hc => ?_) (fun hc => ?_)
    · have hM := ite_f hc hM
      refine J.iload (pc := 164) C dX7_lots_164 rfl ?_
      exact hret dX7_lots_166 hM rfl
    · have hM := ite_t hc hM
      refine J.iload (pc := 159) C dX7_lots_159 rfl ?_
      refine J.goto (pc := 161) C 166 dX7_lots_161 (by decide) ?_
      exact hret dX7_lots_166 hM rfl
  have jb114 : ∀ (kb61 : Int32 → Int32 → Int32 → Int32 → Int32 → Int32 → Sg → Option (Int32 × Sg)) (hkb61 : ∀ (x1 x3 x4 x5 x6 x7 : Int32) (g : Sg), kb61 x1 x3 x4 x5 x6 x7 g = some r → J p l e (RM 6 135) s m args below meth c D (mW q cI) A 9 Q g 61 [(0, .ref (q 0)), (1, .int x1), (3, .int x3), (4, .int x4), (5, .int x5), (6, .int x6), (7, .int x7)] []) (x1 x3 x4 x5 x6 x7 : Int32) (g : Sg), B_X7_lots_114 kb61 x1 x3 x4 x5 x6 x7 g = some r → J p l e (RM 6 135) s m args below meth c D (mW q cI) A 9 Q g 114 [(0, .ref (q 0)), (1, .int x1), (3, .int x3), (4, .int x4), (5, .int x5), (6, .int x6), (7, .int x7)] [] := by
    intro kb61 hkb61 x1 x3 x4 x5 x6 x7 g hM
    unfold B_X7_lots_114 at hM
    refine J.iload (pc := 114) C dX7_lots_114 rfl ?_
    refine J.aload_n (pc := 116) C dX7_lots_116 rfl rfl ?_
    obtain ⟨_, _, h1, hM⟩ := bI_ex hM
    refine J.callV0i (pc := 117) C (C_X7_costNow h1) lk_X7_costNow tm_X7_199 (io_m q cI) ⟨Nat.le_of_ble_eq_true rfl, Nat.le_of_ble_eq_true rfl⟩ (Nat.le_of_ble_eq_true rfl) dX7_lots_117 ?_
    refine J.iadd (pc := 120) C dX7_lots_120 ?_
    refine J.istore (pc := 121) C dX7_lots_121 (by decide) ?_
    refine J.aload_n (pc := 123) C dX7_lots_123 rfl rfl ?_
    refine gf_X7_0_20 (pc := 124) C tf_X7_49 dX7_lots_124 ?_
    refine J.iconst (pc := 127) C 0 dX7_lots_127 ic_0 ?_
    refine J.iald (pc := 128) C (im_14 q cI) (vpl rfl) dX7_lots_128 ?_
    refine J.aload_n (pc := 129) C dX7_lots_129 rfl rfl ?_
    refine gf_X7_0_6 (pc := 130) C tf_X7_25 dX7_lots_130 ?_
    refine J.iconst (pc := 133) C 0 dX7_lots_133 ic_0 ?_
    refine J.iald (pc := 134) C (im_6 q cI) (vpl rfl) dX7_lots_134 ?_
    refine J.icmp_ne (pc := 135) C 141 dX7_lots_135 (by decide) (fun hc => ?_) (fun hc => ?_)
    · have hM := ite_f hc hM
      refine J.iinc (pc := 141) C 1 dX7_lots_141 ic_1 rfl (by decide) ?_
      refine J.goto (pc := 144) C 61 dX7_lots_144 (by decide) ?_
      refine J.sub C [0, 1, 3, 4, 5, 6, 7] rfl ?_
      exact hkb61 _ _ _ _ _ _ _ hM
    · have hM := ite_t hc hM
      refine J.iinc (pc := 138) C 1 dX7_lots_138 ic_1 rfl (by decide) ?_
      refine J.iinc (pc := 141) C 1 dX7_lots_141 ic_1 rfl (by decide) ?_
      refine J.goto (pc := 144) C 61 dX7_lots_144 (by decide) ?_
      refine J.sub C [0, 1, 3, 4, 5, 6, 7] rfl ?_
      exact hkb61 _ _ _ _ _ _ _ hM
  have jb70 : ∀ (kb61 : Int32 → Int32 → Int32 → Int32 → Int32 → Int32 → Sg → Option (Int32 × Sg)) (hkb61 : ∀ (x1 x3 x4 x5 x6 x7 : Int32) (g : Sg), kb61 x1 x3 x4 x5 x6 x7 g = some r → J p l e (RM 6 135) s m args below meth c D (mW q cI) A 9 Q g 61 [(0, .ref (q 0)), (1, .int x1), (3, .int x3), (4, .int x4), (5, .int x5), (6, .int x6), (7, .int x7)] []) (kb70 : Int32 → Int32 → Int32 → Int32 → Int32 → Int32 → Int32 → Sg → Option (Int32 × Sg)) (hkb70 : ∀ (x1 x3 x4 x5 x6 x7 x8 : Int32) (g : Sg), kb70 x1 x3 x4 x5 x6 x7 x8 g = some r → J p l e (RM 6 135) s m args below meth c D (mW q cI) A 9 Q g 70 [(0, .ref (q 0)), (1, .int x1), (3, .int x3), (4, .int x4), (5, .int x5), (6, .int x6), (7, .int x7), (8, .int x8)] []) (x1 x3 x4 x5 x6 x7 x8 : Int32) (g : Sg), B_X7_lots_70 kb61 kb70 x1 x3 x4 x5 x6 x7 x8 g = some r → J p l e (RM 6 135) s m args below meth c D (mW q cI) A 9 Q g 70 [(0, .ref (q 0)), (1, .int x1), (3, .int x3), (4, .int x4), (5, .int x5), (6, .int x6), (7, .int x7), (8, .int x8)] [] := by
    intro kb61 hkb61 kb70 hkb70 x1 x3 x4 x5 x6 x7 x8 g hM
    unfold B_X7_lots_70 at hM
    refine J.iload (pc := 70) C dX7_lots_70 rfl ?_
    refine J.aload_n (pc := 72) C dX7_lots_72 rfl rfl ?_
    refine gf_X7_0_0 (pc := 73) C tf_X7_84 dX7_lots_73 ?_
    refine J.icmp_ge (pc := 76) C 114 dX7_lots_76 (by decide) (fun hc => ?_) (fun hc => ?_)
    · have hM := ite_t hc hM
      refine J.sub C [0, 1, 3, 4, 5, 6, 7] rfl ?_
      exact jb114 kb61 hkb61 _ _ _ _ _ _ _ hM
    · have hM := ite_f hc hM
      refine J.iload (pc := 79) C dX7_lots_79 rfl ?_
      refine J.ldc (pc := 81) C tc_X7_220 dX7_lots_81 ?_
      refine J.imul (pc := 83) C dX7_lots_83 ?_
      refine J.ldc (pc := 84) C tc_X7_221 dX7_lots_84 ?_
      refine J.iadd (pc := 86) C dX7_lots_86 ?_
      refine J.istore (pc := 87) C dX7_lots_87 (by decide) ?_
      refine J.aload_n (pc := 89) C dX7_lots_89 rfl rfl ?_
      refine gf_X7_0_5 (pc := 90) C tf_X7_22 dX7_lots_90 ?_
      refine J.iload (pc := 93) C dX7_lots_93 rfl ?_
      refine J.iload (pc := 95) C dX7_lots_95 rfl ?_
      refine J.ldc (pc := 97) C tc_X7_222 dX7_lots_97 ?_
      refine J.iand (pc := 99) C dX7_lots_99 ?_
      refine J.sipush (pc := 100) C 256 dX7_lots_100 sp_256 ?_
      refine J.idiv (pc := 103) C dX7_lots_103 (by decide) ?_
      refine J.bipush (pc := 104) C 12 dX7_lots_104 bp_12 ?_
      refine J.irem (pc := 106) C dX7_lots_106 (by decide) ?_
      obtain ⟨hv, hM⟩ := chk_ex hM
      refine J.iast (pc := 107) C (im_5 q cI) hv dX7_lots_107 ?_
      obtain ⟨_, ea, hM⟩ := lt_ex hM
      refine J.cong C ea ?_
      refine J.iinc (pc := 108) C 1 dX7_lots_108 ic_1 rfl (by decide) ?_
      refine J.goto (pc := 111) C 70 dX7_lots_111 (by decide) ?_
      refine J.sub C [0, 1, 3, 4, 5, 6, 7, 8] rfl ?_
      exact hkb70 _ _ _ _ _ _ _ _ hM
  have jl70 : ∀ (kb61 : Int32 → Int32 → Int32 → Int32 → Int32 → Int32 → Sg → Option (Int32 × Sg)) (hkb61 : ∀ (x1 x3 x4 x5 x6 x7 : Int32) (g : Sg), kb61 x1 x3 x4 x5 x6 x7 g = some r → J p l e (RM 6 135) s m args below meth c D (mW q cI) A 9 Q g 61 [(0, .ref (q 0)), (1, .int x1), (3, .int x3), (4, .int x4), (5, .int x5), (6, .int x6), (7, .int x7)] []) (x1 x3 x4 x5 x6 x7 x8 : Int32) (g : Sg), lup7 (B_X7_lots_70 kb61) FU x1 x3 x4 x5 x6 x7 x8 g = some r → J p l e (RM 6 135) s m args below meth c D (mW q cI) A 9 Q g 70 [(0, .ref (q 0)), (1, .int x1), (3, .int x3), (4, .int x4), (5, .int x5), (6, .int x6), (7, .int x7), (8, .int x8)] [] := 
    fun kb61 hkb61 => lup7_ok (P := fun x1 x3 x4 x5 x6 x7 x8 g => J p l e (RM 6 135) s m args below meth c D (mW q cI) A 9 Q g 70 [(0, .ref (q 0)), (1, .int x1), (3, .int x3), (4, .int x4), (5, .int x5), (6, .int x6), (7, .int x7), (8, .int x8)] []) (fun self hself => jb70 kb61 hkb61 self hself) FU
  have jb61 : ∀ (kb61 : Int32 → Int32 → Int32 → Int32 → Int32 → Int32 → Sg → Option (Int32 × Sg)) (hkb61 : ∀ (x1 x3 x4 x5 x6 x7 : Int32) (g : Sg), kb61 x1 x3 x4 x5 x6 x7 g = some r → J p l e (RM 6 135) s m args below meth c D (mW q cI) A 9 Q g 61 [(0, .ref (q 0)), (1, .int x1), (3, .int x3), (4, .int x4), (5, .int x5), (6, .int x6), (7, .int x7)] []) (x1 x3 x4 x5 x6 x7 : Int32) (g : Sg), B_X7_lots_61 kb61 x1 x3 x4 x5 x6 x7 g = some r → J p l e (RM 6 135) s m args below meth c D (mW q cI) A 9 Q g 61 [(0, .ref (q 0)), (1, .int x1), (3, .int x3), (4, .int x4), (5, .int x5), (6, .int x6), (7, .int x7)] [] := by
    intro kb61 hkb61 x1 x3 x4 x5 x6 x7 g hM
    unfold B_X7_lots_61 at hM
    refine J.iload (pc := 61) C dX7_lots_61 rfl ?_
    refine J.iload_n (pc := 63) C dX7_lots_63 rfl rfl ?_
    refine J.icmp_ge (pc := 64) C 147 dX7_lots_64 (by decide) (fun hc => ?_) (fun hc => ?_)
    · have hM := ite_t hc hM
      refine J.sub C [0, 3, 5, 6] rfl ?_
      exact jb147 _ _ _ _ hM
    · have hM := ite_f hc hM
      refine J.iconst (pc := 67) C 0 dX7_lots_67 ic_0 ?_
      refine J.istore (pc := 68) C dX7_lots_68 (by decide) ?_
      refine J.sub C [0, 1, 3, 4, 5, 6, 7, 8] rfl ?_
      exact jl70 kb61 hkb61 _ _ _ _ _ _ _ _ hM
  have jl61 : ∀ (x1 x3 x4 x5 x6 x7 : Int32) (g : Sg), lup6 (B_X7_lots_61) FU x1 x3 x4 x5 x6 x7 g = some r → J p l e (RM 6 135) s m args below meth c D (mW q cI) A 9 Q g 61 [(0, .ref (q 0)), (1, .int x1), (3, .int x3), (4, .int x4), (5, .int x5), (6, .int x6), (7, .int x7)] [] := 
    lup6_ok (P := fun x1 x3 x4 x5 x6 x7 g => J p l e (RM 6 135) s m args below meth c D (mW q cI) A 9 Q g 61 [(0, .ref (q 0)), (1, .int x1), (3, .int x3), (4, .int x4), (5, .int x5), (6, .int x6), (7, .int x7)] []) (fun self hself => jb61 self hself) FU
  have hM := h
  unfold M_X7_lots at hM
  refine J.iload_n (pc := 0) C dX7_lots_0 rfl rfl ?_
  refine J.iconst (pc := 1) C 1 dX7_lots_1 ic_1 ?_
  refine J.icmp_ge (pc := 2) C 12 dX7_lots_2 (by decide) (fun hc => ?_) (fun hc => ?_)
  · have hM := ite_t hc hM
    refine J.iload_n (pc := 12) C dX7_lots_12 rfl rfl ?_
    refine J.bipush (pc := 13) C 20 dX7_lots_13 bp_20 ?_
    refine J.icmp_le (pc := 15) C 25 dX7_lots_15 (by decide) (fun hc => ?_) (fun hc => ?_)
    · have hM := ite_t hc hM
      refine J.iload_n (pc := 25) C dX7_lots_25 rfl rfl ?_
      refine J.iconst (pc := 26) C 0 dX7_lots_26 ic_0 ?_
      refine J.iconst (pc := 27) C 1 dX7_lots_27 ic_1 ?_
      refine J.callS3i (pc := 28) C (K_X7_within _ _ _ _) lk_X7_within tm_X7_88 ⟨Nat.le_of_ble_eq_true rfl, Nat.le_of_ble_eq_true rfl⟩ (Nat.le_of_ble_eq_true rfl) dX7_lots_28 ?_
      refine J.if_ne (pc := 31) C 41 dX7_lots_31 (by decide) (fun hc => ?_) (fun hc => ?_)
      · have hM := ite_f hc hM
        refine J.aload_n (pc := 41) C dX7_lots_41 rfl rfl ?_
        refine J.aload_n (pc := 42) C dX7_lots_42 rfl rfl ?_
        refine gf_X7_0_16 (pc := 43) C tf_X7_43 dX7_lots_43 ?_
        obtain ⟨_, h1, hM⟩ := bV_ex hM
        refine J.callV1v (pc := 46) C (C_X7_keep (im_12 q cI) h1) lk_X7_keep tm_X7_128 (io_m q cI) ⟨Nat.le_of_ble_eq_true rfl, Nat.le_of_ble_eq_true rfl⟩ (Nat.le_of_ble_eq_true rfl) dX7_lots_46 ?_
        refine J.iload_n (pc := 49) C dX7_lots_49 rfl rfl ?_
        refine J.istore (pc := 50) C dX7_lots_50 (by decide) ?_
        refine J.iconst (pc := 52) C 0 dX7_lots_52 ic_0 ?_
        refine J.istore (pc := 53) C dX7_lots_53 (by decide) ?_
        refine J.iconst (pc := 55) C 0 dX7_lots_55 ic_0 ?_
        refine J.istore (pc := 56) C dX7_lots_56 (by decide) ?_
        refine J.iconst (pc := 58) C 0 dX7_lots_58 ic_0 ?_
        refine J.istore (pc := 59) C dX7_lots_59 (by decide) ?_
        refine J.sub C [0, 1, 3, 4, 5, 6, 7] rfl ?_
        exact jl61 _ _ _ _ _ _ _ hM
      · have hM := ite_t hc hM
        refine J.aload_n (pc := 34) C dX7_lots_34 rfl rfl ?_
        refine J.bipush (pc := 35) C (-2) dX7_lots_35 bp_m2 ?_
        obtain ⟨_, _, h1, hM⟩ := bI_ex hM
        refine J.callV1i (pc := 37) C (C_X7_no h1) lk_X7_no tm_X7_80 (io_m q cI) ⟨Nat.le_of_ble_eq_true rfl, Nat.le_of_ble_eq_true rfl⟩ (Nat.le_of_ble_eq_true rfl) dX7_lots_37 ?_
        exact hret dX7_lots_40 hM rfl
    · have hM := ite_f hc hM
      refine J.aload_n (pc := 18) C dX7_lots_18 rfl rfl ?_
      refine J.bipush (pc := 19) C (-6) dX7_lots_19 bp_m6 ?_
      obtain ⟨_, _, h1, hM⟩ := bI_ex hM
      refine J.callV1i (pc := 21) C (C_X7_no h1) lk_X7_no tm_X7_80 (io_m q cI) ⟨Nat.le_of_ble_eq_true rfl, Nat.le_of_ble_eq_true rfl⟩ (Nat.le_of_ble_eq_true rfl) dX7_lots_21 ?_
      exact hret dX7_lots_24 hM rfl
  · have hM := ite_f hc hM
    refine J.aload_n (pc := 5) C dX7_lots_5 rfl rfl ?_
    refine J.bipush (pc := 6) C (-4) dX7_lots_6 bp_m4 ?_
    obtain ⟨_, _, h1, hM⟩ := bI_ex hM
    refine J.callV1i (pc := 8) C (C_X7_no h1) lk_X7_no tm_X7_80 (io_m q cI) ⟨Nat.le_of_ble_eq_true rfl, Nat.le_of_ble_eq_true rfl⟩ (Nat.le_of_ble_eq_true rfl) dX7_lots_8 ?_
    exact hret dX7_lots_11 hM rfl
def M_X7_image (g : Sg) : Option (Int32 × Sg) := lt (sI g 4 1) (fun g_1 => bV (M_X7_keep 11 39 g_1) (fun g_2 => some (g_2.1 0, g_2)))
set_option maxRecDepth 100000 in
set_option maxHeartbeats 4000000 in
theorem C_X7_image {l : Launch} {D : va_G} {q : Nat → Nat} {cI : ClassId} {z : Nat × Nat} {g : Sg} {r : Int32 × Sg} (h : M_X7_image g = some r) : CTi l (EM z) D cI (mW q cI) yX7_image cX7_image 1 (some .int) 1 22 [.ref (q 0)] g r := by
  refine CTi.of2 (by decide) (EM_ok z) (Nat.le_of_ble_eq_true rfl) rfl (fun p e s m args below meth c A Q C hret => ?_)
  have hM := h
  unfold M_X7_image at hM
  refine J.aload_n (pc := 0) C dX7_image_0 rfl rfl ?_
  refine J.iconst (pc := 1) C 1 dX7_image_1 ic_1 ?_
  refine pf_X7_0_14 (pc := 2) C rfl rfl tf_X7_223 dX7_image_2 ?_
  obtain ⟨_, ea, hM⟩ := lt_ex hM
  refine J.cong C ea ?_
  refine J.aload_n (pc := 5) C dX7_image_5 rfl rfl ?_
  refine J.aload_n (pc := 6) C dX7_image_6 rfl rfl ?_
  refine gf_X7_0_15 (pc := 7) C tf_X7_40 dX7_image_7 ?_
  obtain ⟨_, h1, hM⟩ := bV_ex hM
  refine J.callV1v (pc := 10) C (C_X7_keep (im_11 q cI) h1) lk_X7_keep tm_X7_128 (io_m q cI) ⟨Nat.le_of_ble_eq_true rfl, Nat.le_of_ble_eq_true rfl⟩ (Nat.le_of_ble_eq_true rfl) dX7_image_10 ?_
  refine J.aload_n (pc := 13) C dX7_image_13 rfl rfl ?_
  refine gf_X7_0_0 (pc := 14) C tf_X7_84 dX7_image_14 ?_
  exact hret dX7_image_17 hM rfl
def M_X7_on (g : Sg) : Option (Int32 × Sg) := (if (g.1 4) = 0 then bI (M_X7_no (-3) g) (fun r_2 g_3 => some (r_2, g_3)) else bV (M_X7_again 11 39 g) (fun g_1 => some (g_1.1 0, g_1)))
set_option maxRecDepth 100000 in
set_option maxHeartbeats 4000000 in
theorem C_X7_on {l : Launch} {D : va_G} {q : Nat → Nat} {cI : ClassId} {z : Nat × Nat} {g : Sg} {r : Int32 × Sg} (h : M_X7_on g = some r) : CTi l (EM z) D cI (mW q cI) yX7_on cX7_on 1 (some .int) 1 22 [.ref (q 0)] g r := by
  refine CTi.of2 (by decide) (EM_ok z) (Nat.le_of_ble_eq_true rfl) rfl (fun p e s m args below meth c A Q C hret => ?_)
  have hM := h
  unfold M_X7_on at hM
  refine J.aload_n (pc := 0) C dX7_on_0 rfl rfl ?_
  refine gf_X7_0_14 (pc := 1) C tf_X7_223 dX7_on_1 ?_
  refine J.if_ne (pc := 4) C 14 dX7_on_4 (by decide) (fun hc => ?_) (fun hc => ?_)
  · have hM := ite_f hc hM
    refine J.aload_n (pc := 14) C dX7_on_14 rfl rfl ?_
    refine J.aload_n (pc := 15) C dX7_on_15 rfl rfl ?_
    refine gf_X7_0_15 (pc := 16) C tf_X7_40 dX7_on_16 ?_
    obtain ⟨_, h1, hM⟩ := bV_ex hM
    refine J.callV1v (pc := 19) C (C_X7_again (im_11 q cI) h1) lk_X7_again tm_X7_132 (io_m q cI) ⟨Nat.le_of_ble_eq_true rfl, Nat.le_of_ble_eq_true rfl⟩ (Nat.le_of_ble_eq_true rfl) dX7_on_19 ?_
    refine J.aload_n (pc := 22) C dX7_on_22 rfl rfl ?_
    refine gf_X7_0_0 (pc := 23) C tf_X7_84 dX7_on_23 ?_
    exact hret dX7_on_26 hM rfl
  · have hM := ite_t hc hM
    refine J.aload_n (pc := 7) C dX7_on_7 rfl rfl ?_
    refine J.bipush (pc := 8) C (-3) dX7_on_8 bp_m3 ?_
    obtain ⟨_, _, h1, hM⟩ := bI_ex hM
    refine J.callV1i (pc := 10) C (C_X7_no h1) lk_X7_no tm_X7_80 (io_m q cI) ⟨Nat.le_of_ble_eq_true rfl, Nat.le_of_ble_eq_true rfl⟩ (Nat.le_of_ble_eq_true rfl) dX7_on_10 ?_
    exact hret dX7_on_13 hM rfl
def B_X7_count_72 (kb72 : Int32 → Int32 → Sg → Option (Int32 × Sg)) (x2 x3 : Int32) (g : Sg) : Option (Int32 × Sg) := (if (g.1 0) ≤ x3 then some (x2, g) else chk x3 7 (chk x3 7 (lt (x2 + (iabs ((rd g 3 x3) - (rd g 4 x3)))) (fun x2_1 => kb72 x2_1 (x3 + 1) g))))
def M_X7_count (x1 : Int32) (g : Sg) : Option (Int32 × Sg) := (if x1 = 0 then some (g.1 0, g) else if x1 = 1 then some (rd g 6 0, g) else if x1 = 2 then some (rd g 6 1, g) else if x1 = 3 then some (rd g 6 2, g) else if x1 = 4 then lup2 (B_X7_count_72 ) FU 0 0 g else if x1 = 5 then some (g.1 3, g) else if x1 = 6 then some (g.1 1, g) else (if (V_X7_within x1 11 16 g) = 0 then some ((-9), g) else chk (x1 - 10) 7 (some (rd g 10 (x1 - 10), g))))
set_option maxRecDepth 100000 in
set_option maxHeartbeats 4000000 in
theorem C_X7_count {l : Launch} {D : va_G} {q : Nat → Nat} {cI : ClassId} {z : Nat × Nat} {x1 : Int32} {g : Sg} {r : Int32 × Sg} (h : M_X7_count x1 g = some r) : CTi l (EM z) D cI (mW q cI) yX7_count cX7_count 4 (some .int) 1 24 [.ref (q 0), .int x1] g r := by
  refine CTi.of2 (by decide) (EM_ok z) (Nat.le_of_ble_eq_true rfl) rfl (fun p e s m args below meth c A Q C hret => ?_)
  have jb72 : ∀ (kb72 : Int32 → Int32 → Sg → Option (Int32 × Sg)) (hkb72 : ∀ (x2 x3 : Int32) (g : Sg), kb72 x2 x3 g = some r → J p l e (RM 1 24) s m args below meth c D (mW q cI) A 4 Q g 72 [(0, .ref (q 0)), (2, .int x2), (3, .int x3)] []) (x2 x3 : Int32) (g : Sg), B_X7_count_72 kb72 x2 x3 g = some r → J p l e (RM 1 24) s m args below meth c D (mW q cI) A 4 Q g 72 [(0, .ref (q 0)), (2, .int x2), (3, .int x3)] [] := by
    intro kb72 hkb72 x2 x3 g hM
    unfold B_X7_count_72 at hM
    refine J.iload_n (pc := 72) C dX7_count_72 rfl rfl ?_
    refine J.aload_n (pc := 73) C dX7_count_73 rfl rfl ?_
    refine gf_X7_0_0 (pc := 74) C tf_X7_84 dX7_count_74 ?_
    refine J.icmp_ge (pc := 77) C 105 dX7_count_77 (by decide) (fun hc => ?_) (fun hc => ?_)
    · have hM := ite_t hc hM
      refine J.iload_n (pc := 105) C dX7_count_105 rfl rfl ?_
      exact hret dX7_count_106 hM rfl
    · have hM := ite_f hc hM
      refine J.iload_n (pc := 80) C dX7_count_80 rfl rfl ?_
      refine J.aload_n (pc := 81) C dX7_count_81 rfl rfl ?_
      refine gf_X7_0_3 (pc := 82) C tf_X7_16 dX7_count_82 ?_
      refine J.iload_n (pc := 85) C dX7_count_85 rfl rfl ?_
      obtain ⟨hv, hM⟩ := chk_ex hM
      refine J.iald (pc := 86) C (im_3 q cI) hv dX7_count_86 ?_
      refine J.aload_n (pc := 87) C dX7_count_87 rfl rfl ?_
      refine gf_X7_0_4 (pc := 88) C tf_X7_19 dX7_count_88 ?_
      refine J.iload_n (pc := 91) C dX7_count_91 rfl rfl ?_
      obtain ⟨hv, hM⟩ := chk_ex hM
      refine J.iald (pc := 92) C (im_4 q cI) hv dX7_count_92 ?_
      refine J.isub (pc := 93) C dX7_count_93 ?_
      refine J.mabs (pc := 94) C tm_X7_144 (Nat.le_of_ble_eq_true rfl) (Nat.le_of_ble_eq_true rfl) dX7_count_94 ?_
      refine J.iadd (pc := 97) C dX7_count_97 ?_
      obtain ⟨_, ea, hM⟩ := lt_ex hM
      refine J.istore_nV (pc := 98) C dX7_count_98 rfl (by decide) ea ?_
      refine J.iinc (pc := 99) C 1 dX7_count_99 ic_1 rfl (by decide) ?_
      refine J.goto (pc := 102) C 72 dX7_count_102 (by decide) ?_
      refine J.sub C [0, 2, 3] rfl ?_
      exact hkb72 _ _ _ hM
  have jl72 : ∀ (x2 x3 : Int32) (g : Sg), lup2 (B_X7_count_72) FU x2 x3 g = some r → J p l e (RM 1 24) s m args below meth c D (mW q cI) A 4 Q g 72 [(0, .ref (q 0)), (2, .int x2), (3, .int x3)] [] := 
    lup2_ok (P := fun x2 x3 g => J p l e (RM 1 24) s m args below meth c D (mW q cI) A 4 Q g 72 [(0, .ref (q 0)), (2, .int x2), (3, .int x3)] []) (fun self hself => jb72 self hself) FU
  have hM := h
  unfold M_X7_count at hM
  refine J.iconst (pc := 0) C 0 dX7_count_0 ic_0 ?_
  refine J.istore_n (pc := 1) C dX7_count_1 rfl (by decide) ?_
  refine J.iload_n (pc := 2) C dX7_count_2 rfl rfl ?_
  refine J.case (pc := 3) C 0 (fun hs0 => ?_) (fun hs0 => ?_)
  · have hM := ite_t hs0 hM
    refine J.tabIn (pc := 3) C 0 44 dX7_count_3 hs0 (by decide) (by decide) rfl (by decide) ?_
    refine J.aload_n (pc := 44) C dX7_count_44 rfl rfl ?_
    refine gf_X7_0_0 (pc := 45) C tf_X7_84 dX7_count_45 ?_
    exact hret dX7_count_48 hM rfl
  · have hM := ite_f hs0 hM
    refine J.case (pc := 3) C 1 (fun hs1 => ?_) (fun hs1 => ?_)
    · have hM := ite_t hs1 hM
      refine J.tabIn (pc := 3) C 1 49 dX7_count_3 hs1 (by decide) (by decide) rfl (by decide) ?_
      refine J.aload_n (pc := 49) C dX7_count_49 rfl rfl ?_
      refine gf_X7_0_6 (pc := 50) C tf_X7_25 dX7_count_50 ?_
      refine J.iconst (pc := 53) C 0 dX7_count_53 ic_0 ?_
      refine J.iald (pc := 54) C (im_6 q cI) (vpl rfl) dX7_count_54 ?_
      exact hret dX7_count_55 hM rfl
    · have hM := ite_f hs1 hM
      refine J.case (pc := 3) C 2 (fun hs2 => ?_) (fun hs2 => ?_)
      · have hM := ite_t hs2 hM
        refine J.tabIn (pc := 3) C 2 56 dX7_count_3 hs2 (by decide) (by decide) rfl (by decide) ?_
        refine J.aload_n (pc := 56) C dX7_count_56 rfl rfl ?_
        refine gf_X7_0_6 (pc := 57) C tf_X7_25 dX7_count_57 ?_
        refine J.iconst (pc := 60) C 1 dX7_count_60 ic_1 ?_
        refine J.iald (pc := 61) C (im_6 q cI) (vpl rfl) dX7_count_61 ?_
        exact hret dX7_count_62 hM rfl
      · have hM := ite_f hs2 hM
        refine J.case (pc := 3) C 3 (fun hs3 => ?_) (fun hs3 => ?_)
        · have hM := ite_t hs3 hM
          refine J.tabIn (pc := 3) C 3 63 dX7_count_3 hs3 (by decide) (by decide) rfl (by decide) ?_
          refine J.aload_n (pc := 63) C dX7_count_63 rfl rfl ?_
          refine gf_X7_0_6 (pc := 64) C tf_X7_25 dX7_count_64 ?_
          refine J.iconst (pc := 67) C 2 dX7_count_67 ic_2 ?_
          refine J.iald (pc := 68) C (im_6 q cI) (vpl rfl) dX7_count_68 ?_
          exact hret dX7_count_69 hM rfl
        · have hM := ite_f hs3 hM
          refine J.case (pc := 3) C 4 (fun hs4 => ?_) (fun hs4 => ?_)
          · have hM := ite_t hs4 hM
            refine J.tabIn (pc := 3) C 4 70 dX7_count_3 hs4 (by decide) (by decide) rfl (by decide) ?_
            refine J.iconst (pc := 70) C 0 dX7_count_70 ic_0 ?_
            refine J.istore_n (pc := 71) C dX7_count_71 rfl (by decide) ?_
            refine J.sub C [0, 2, 3] rfl ?_
            exact jl72 _ _ _ hM
          · have hM := ite_f hs4 hM
            refine J.case (pc := 3) C 5 (fun hs5 => ?_) (fun hs5 => ?_)
            · have hM := ite_t hs5 hM
              refine J.tabIn (pc := 3) C 5 107 dX7_count_3 hs5 (by decide) (by decide) rfl (by decide) ?_
              refine J.aload_n (pc := 107) C dX7_count_107 rfl rfl ?_
              refine gf_X7_0_11 (pc := 108) C tf_X7_214 dX7_count_108 ?_
              exact hret dX7_count_111 hM rfl
            · have hM := ite_f hs5 hM
              refine J.case (pc := 3) C 6 (fun hs6 => ?_) (fun hs6 => ?_)
              · have hM := ite_t hs6 hM
                refine J.tabIn (pc := 3) C 6 112 dX7_count_3 hs6 (by decide) (by decide) rfl (by decide) ?_
                refine J.aload_n (pc := 112) C dX7_count_112 rfl rfl ?_
                refine gf_X7_0_7 (pc := 113) C tf_X7_92 dX7_count_113 ?_
                exact hret dX7_count_116 hM rfl
              · have hM := ite_f hs6 hM
                refine J.tabOut (pc := 3) C 117 dX7_count_3 (by have c0 := i_ne 0 rfl hs0; have c1 := i_ne 1 rfl hs1; have c2 := i_ne 2 rfl hs2; have c3 := i_ne 3 rfl hs3; have c4 := i_ne 4 rfl hs4; have c5 := i_ne 5 rfl hs5; have c6 := i_ne 6 rfl hs6; omega) (by decide) ?_
                refine J.iload_n (pc := 117) C dX7_count_117 rfl rfl ?_
                refine J.bipush (pc := 118) C 11 dX7_count_118 bp_11 ?_
                refine J.bipush (pc := 120) C 16 dX7_count_120 bp_16 ?_
                refine J.callS3i (pc := 122) C (K_X7_within _ _ _ _) lk_X7_within tm_X7_88 ⟨Nat.le_of_ble_eq_true rfl, Nat.le_of_ble_eq_true rfl⟩ (Nat.le_of_ble_eq_true rfl) dX7_count_122 ?_
                refine J.if_eq (pc := 125) C 140 dX7_count_125 (by decide) (fun hc => ?_) (fun hc => ?_)
                · have hM := ite_t hc hM
                  refine J.bipush (pc := 140) C (-9) dX7_count_140 bp_m9 ?_
                  exact hret dX7_count_142 hM rfl
                · have hM := ite_f hc hM
                  refine J.aload_n (pc := 128) C dX7_count_128 rfl rfl ?_
                  refine gf_X7_0_13 (pc := 129) C tf_X7_37 dX7_count_129 ?_
                  refine J.iload_n (pc := 132) C dX7_count_132 rfl rfl ?_
                  refine J.bipush (pc := 133) C 10 dX7_count_133 bp_10 ?_
                  refine J.isub (pc := 135) C dX7_count_135 ?_
                  obtain ⟨hv, hM⟩ := chk_ex hM
                  refine J.iald (pc := 136) C (im_10 q cI) hv dX7_count_136 ?_
                  refine J.goto (pc := 137) C 142 dX7_count_137 (by decide) ?_
                  exact hret dX7_count_142 hM rfl
