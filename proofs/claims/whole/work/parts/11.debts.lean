def B_X3_next_94 (kb94 : Int32 → Int32 → Sg → Option (Int32 × Sg)) (x4 x5 : Int32) (g : Sg) : Option (Int32 × Sg) := (if x5 ≤ x4 then some (1, g) else lt (U_X4_exchange 39 7 x4 x5 g) (fun g_2 => kb94 (x4 + 1) (x5 + (-1)) g_2))
def B_X3_next_75 (x1 x2 x3 : Int32) (g : Sg) : Option (Int32 × Sg) := lt (U_X4_exchange 39 7 x2 x3 g) (fun g_1 => lup2 (B_X3_next_94 ) FU (x2 + 1) (x1 - 1) g_1)
def B_X3_next_45 (kb45 : Int32 → Int32 → Int32 → Sg → Option (Int32 × Sg)) (x1 x2 x3 : Int32) (g : Sg) : Option (Int32 × Sg) := (if x3 ≤ x2 then B_X3_next_75 x1 x2 x3 g else (if (rat g 39 7 x2) ≤ (rat g 39 7 x3) then B_X3_next_75 x1 x2 x3 g else kb45 x1 x2 (x3 + (-1)) g))
def B_X3_next_35 (x1 x2 : Int32) (g : Sg) : Option (Int32 × Sg) := (if 0 ≤ x2 then lup3 (B_X3_next_45 ) FU x1 x2 (x1 - 1) g else some (0, g))
def B_X3_next_4 (kb4 : Int32 → Int32 → Sg → Option (Int32 × Sg)) (x1 x2 : Int32) (g : Sg) : Option (Int32 × Sg) := (if x2 < 0 then B_X3_next_35 x1 x2 g else (if (rat g 39 7 x2) ≤ (rat g 39 7 (x2 + 1)) then B_X3_next_35 x1 x2 g else kb4 x1 (x2 + (-1)) g))
def M_X3_next (x1 : Int32) (g : Sg) : Option (Int32 × Sg) := lup2 (B_X3_next_4 ) FU x1 (x1 - 2) g
set_option maxRecDepth 100000 in
set_option maxHeartbeats 4000000 in
theorem C_X3_next {l : Launch} {D : va_G} {q : Nat → Nat} {cI : ClassId} {z : Nat} {x1 : Int32} {g : Sg} {r : Int32 × Sg} (h : M_X3_next x1 g = some r) : CTi l (EC z) D cI (cW q cI) yX3_next cX3_next 6 (some .boolean) 2 45 [.ref (q 37), .int x1] g r := by
  refine CTi.of2 (by decide) (EC_ok z) (Nat.le_of_ble_eq_true rfl) rfl (fun p e s m args below meth c A Q C hret => ?_)
  have jb94 : ∀ (kb94 : Int32 → Int32 → Sg → Option (Int32 × Sg)) (hkb94 : ∀ (x4 x5 : Int32) (g : Sg), kb94 x4 x5 g = some r → J p l e (RM 2 45) s m args below meth c D (cW q cI) A 6 Q g 94 [(0, .ref (q 37)), (4, .int x4), (5, .int x5)] []) (x4 x5 : Int32) (g : Sg), B_X3_next_94 kb94 x4 x5 g = some r → J p l e (RM 2 45) s m args below meth c D (cW q cI) A 6 Q g 94 [(0, .ref (q 37)), (4, .int x4), (5, .int x5)] [] := by
    intro kb94 hkb94 x4 x5 g hM
    unfold B_X3_next_94 at hM
    refine J.iload (pc := 94) C dX3_next_94 rfl ?_
    refine J.iload (pc := 96) C dX3_next_96 rfl ?_
    refine J.icmp_ge (pc := 98) C 121 dX3_next_98 (by decide) (fun hc => ?_) (fun hc => ?_)
    · have hM := ite_t hc hM
      refine J.iconst (pc := 121) C 1 dX3_next_121 ic_1 ?_
      exact hret dX3_next_122 hM (by decide)
    · have hM := ite_f hc hM
      refine J.aload_n (pc := 101) C dX3_next_101 rfl rfl ?_
      refine gf_X3_37_3 (pc := 102) C tf_X3_15 dX3_next_102 ?_
      refine J.iload (pc := 105) C dX3_next_105 rfl ?_
      refine J.iload (pc := 107) C dX3_next_107 rfl ?_
      refine J.callS3v (pc := 109) C (K_X4_exchange (ia_39 q cI) _ _ _) lk_X4_exchange tm_X3_62 ⟨Nat.le_of_ble_eq_true rfl, Nat.le_of_ble_eq_true rfl⟩ (Nat.le_of_ble_eq_true rfl) dX3_next_109 ?_
      obtain ⟨_, ea, hM⟩ := lt_ex hM
      refine J.cong C ea ?_
      refine J.iinc (pc := 112) C 1 dX3_next_112 ic_1 rfl (by decide) ?_
      refine J.iinc (pc := 115) C (-1) dX3_next_115 ic_m1 rfl (by decide) ?_
      refine J.goto (pc := 118) C 94 dX3_next_118 (by decide) ?_
      refine J.sub C [0, 4, 5] rfl ?_
      exact hkb94 _ _ _ hM
  have jl94 : ∀ (x4 x5 : Int32) (g : Sg), lup2 (B_X3_next_94) FU x4 x5 g = some r → J p l e (RM 2 45) s m args below meth c D (cW q cI) A 6 Q g 94 [(0, .ref (q 37)), (4, .int x4), (5, .int x5)] [] := 
    lup2_ok (P := fun x4 x5 g => J p l e (RM 2 45) s m args below meth c D (cW q cI) A 6 Q g 94 [(0, .ref (q 37)), (4, .int x4), (5, .int x5)] []) (fun self hself => jb94 self hself) FU
  have jb75 : ∀ (x1 x2 x3 : Int32) (g : Sg), B_X3_next_75 x1 x2 x3 g = some r → J p l e (RM 2 45) s m args below meth c D (cW q cI) A 6 Q g 75 [(0, .ref (q 37)), (1, .int x1), (2, .int x2), (3, .int x3)] [] := by
    intro x1 x2 x3 g hM
    unfold B_X3_next_75 at hM
    refine J.aload_n (pc := 75) C dX3_next_75 rfl rfl ?_
    refine gf_X3_37_3 (pc := 76) C tf_X3_15 dX3_next_76 ?_
    refine J.iload_n (pc := 79) C dX3_next_79 rfl rfl ?_
    refine J.iload_n (pc := 80) C dX3_next_80 rfl rfl ?_
    refine J.callS3v (pc := 81) C (K_X4_exchange (ia_39 q cI) _ _ _) lk_X4_exchange tm_X3_62 ⟨Nat.le_of_ble_eq_true rfl, Nat.le_of_ble_eq_true rfl⟩ (Nat.le_of_ble_eq_true rfl) dX3_next_81 ?_
    obtain ⟨_, ea, hM⟩ := lt_ex hM
    refine J.cong C ea ?_
    refine J.iload_n (pc := 84) C dX3_next_84 rfl rfl ?_
    refine J.iconst (pc := 85) C 1 dX3_next_85 ic_1 ?_
    refine J.iadd (pc := 86) C dX3_next_86 ?_
    refine J.istore (pc := 87) C dX3_next_87 (by decide) ?_
    refine J.iload_n (pc := 89) C dX3_next_89 rfl rfl ?_
    refine J.iconst (pc := 90) C 1 dX3_next_90 ic_1 ?_
    refine J.isub (pc := 91) C dX3_next_91 ?_
    refine J.istore (pc := 92) C dX3_next_92 (by decide) ?_
    refine J.sub C [0, 4, 5] rfl ?_
    exact jl94 _ _ _ hM
  have jb45 : ∀ (kb45 : Int32 → Int32 → Int32 → Sg → Option (Int32 × Sg)) (hkb45 : ∀ (x1 x2 x3 : Int32) (g : Sg), kb45 x1 x2 x3 g = some r → J p l e (RM 2 45) s m args below meth c D (cW q cI) A 6 Q g 45 [(0, .ref (q 37)), (1, .int x1), (2, .int x2), (3, .int x3)] []) (x1 x2 x3 : Int32) (g : Sg), B_X3_next_45 kb45 x1 x2 x3 g = some r → J p l e (RM 2 45) s m args below meth c D (cW q cI) A 6 Q g 45 [(0, .ref (q 37)), (1, .int x1), (2, .int x2), (3, .int x3)] [] := by
    intro kb45 hkb45 x1 x2 x3 g hM
    unfold B_X3_next_45 at hM
    refine J.iload_n (pc := 45) C dX3_next_45 rfl rfl ?_
    refine J.iload_n (pc := 46) C dX3_next_46 rfl rfl ?_
    refine J.icmp_le (pc := 47) C 75 dX3_next_47 (by decide) (fun hc => ?_) (fun hc => ?_)
    · have hM := ite_t hc hM
      refine J.sub C [0, 1, 2, 3] rfl ?_
      exact jb75 _ _ _ _ hM
    · have hM := ite_f hc hM
      refine J.aload_n (pc := 50) C dX3_next_50 rfl rfl ?_
      refine gf_X3_37_3 (pc := 51) C tf_X3_15 dX3_next_51 ?_
      refine J.iload_n (pc := 54) C dX3_next_54 rfl rfl ?_
      refine J.callS2i (pc := 55) C (K_X4_at (ia_39 q cI) _ _) lk_X4_at tm_X3_58 ⟨Nat.le_of_ble_eq_true rfl, Nat.le_of_ble_eq_true rfl⟩ (Nat.le_of_ble_eq_true rfl) dX3_next_55 ?_
      refine J.aload_n (pc := 58) C dX3_next_58 rfl rfl ?_
      refine gf_X3_37_3 (pc := 59) C tf_X3_15 dX3_next_59 ?_
      refine J.iload_n (pc := 62) C dX3_next_62 rfl rfl ?_
      refine J.callS2i (pc := 63) C (K_X4_at (ia_39 q cI) _ _) lk_X4_at tm_X3_58 ⟨Nat.le_of_ble_eq_true rfl, Nat.le_of_ble_eq_true rfl⟩ (Nat.le_of_ble_eq_true rfl) dX3_next_63 ?_
      refine J.icmp_ge (pc := 66) C 75 dX3_next_66 (by decide) (fun hc => ?_) (fun hc => ?_)
      · have hM := ite_t hc hM
        refine J.sub C [0, 1, 2, 3] rfl ?_
        exact jb75 _ _ _ _ hM
      · have hM := ite_f hc hM
        refine J.iinc (pc := 69) C (-1) dX3_next_69 ic_m1 rfl (by decide) ?_
        refine J.goto (pc := 72) C 45 dX3_next_72 (by decide) ?_
        refine J.sub C [0, 1, 2, 3] rfl ?_
        exact hkb45 _ _ _ _ hM
  have jl45 : ∀ (x1 x2 x3 : Int32) (g : Sg), lup3 (B_X3_next_45) FU x1 x2 x3 g = some r → J p l e (RM 2 45) s m args below meth c D (cW q cI) A 6 Q g 45 [(0, .ref (q 37)), (1, .int x1), (2, .int x2), (3, .int x3)] [] := 
    lup3_ok (P := fun x1 x2 x3 g => J p l e (RM 2 45) s m args below meth c D (cW q cI) A 6 Q g 45 [(0, .ref (q 37)), (1, .int x1), (2, .int x2), (3, .int x3)] []) (fun self hself => jb45 self hself) FU
  have jb35 : ∀ (x1 x2 : Int32) (g : Sg), B_X3_next_35 x1 x2 g = some r → J p l e (RM 2 45) s m args below meth c D (cW q cI) A 6 Q g 35 [(0, .ref (q 37)), (1, .int x1), (2, .int x2)] [] := by
    intro x1 x2 g hM
    unfold B_X3_next_35 at hM
    refine J.iload_n (pc := 35) C dX3_next_35 rfl rfl ?_
    refine J.if_ge (pc := 36) C 41 dX3_next_36 (by decide) (fun hc => ?_) (fun hc => ?_)
    · have hM := ite_t hc hM
      refine J.iload_n (pc := 41) C dX3_next_41 rfl rfl ?_
      refine J.iconst (pc := 42) C 1 dX3_next_42 ic_1 ?_
      refine J.isub (pc := 43) C dX3_next_43 ?_
      refine J.istore_n (pc := 44) C dX3_next_44 rfl (by decide) ?_
      refine J.sub C [0, 1, 2, 3] rfl ?_
      exact jl45 _ _ _ _ hM
    · have hM := ite_f hc hM
      refine J.iconst (pc := 39) C 0 dX3_next_39 ic_0 ?_
      exact hret dX3_next_40 hM (by decide)
  have jb4 : ∀ (kb4 : Int32 → Int32 → Sg → Option (Int32 × Sg)) (hkb4 : ∀ (x1 x2 : Int32) (g : Sg), kb4 x1 x2 g = some r → J p l e (RM 2 45) s m args below meth c D (cW q cI) A 6 Q g 4 [(0, .ref (q 37)), (1, .int x1), (2, .int x2)] []) (x1 x2 : Int32) (g : Sg), B_X3_next_4 kb4 x1 x2 g = some r → J p l e (RM 2 45) s m args below meth c D (cW q cI) A 6 Q g 4 [(0, .ref (q 37)), (1, .int x1), (2, .int x2)] [] := by
    intro kb4 hkb4 x1 x2 g hM
    unfold B_X3_next_4 at hM
    refine J.iload_n (pc := 4) C dX3_next_4 rfl rfl ?_
    refine J.if_lt (pc := 5) C 35 dX3_next_5 (by decide) (fun hc => ?_) (fun hc => ?_)
    · have hM := ite_t hc hM
      refine J.sub C [0, 1, 2] rfl ?_
      exact jb35 _ _ _ hM
    · have hM := ite_f hc hM
      refine J.aload_n (pc := 8) C dX3_next_8 rfl rfl ?_
      refine gf_X3_37_3 (pc := 9) C tf_X3_15 dX3_next_9 ?_
      refine J.iload_n (pc := 12) C dX3_next_12 rfl rfl ?_
      refine J.callS2i (pc := 13) C (K_X4_at (ia_39 q cI) _ _) lk_X4_at tm_X3_58 ⟨Nat.le_of_ble_eq_true rfl, Nat.le_of_ble_eq_true rfl⟩ (Nat.le_of_ble_eq_true rfl) dX3_next_13 ?_
      refine J.aload_n (pc := 16) C dX3_next_16 rfl rfl ?_
      refine gf_X3_37_3 (pc := 17) C tf_X3_15 dX3_next_17 ?_
      refine J.iload_n (pc := 20) C dX3_next_20 rfl rfl ?_
      refine J.iconst (pc := 21) C 1 dX3_next_21 ic_1 ?_
      refine J.iadd (pc := 22) C dX3_next_22 ?_
      refine J.callS2i (pc := 23) C (K_X4_at (ia_39 q cI) _ _) lk_X4_at tm_X3_58 ⟨Nat.le_of_ble_eq_true rfl, Nat.le_of_ble_eq_true rfl⟩ (Nat.le_of_ble_eq_true rfl) dX3_next_23 ?_
      refine J.icmp_le (pc := 26) C 35 dX3_next_26 (by decide) (fun hc => ?_) (fun hc => ?_)
      · have hM := ite_t hc hM
        refine J.sub C [0, 1, 2] rfl ?_
        exact jb35 _ _ _ hM
      · have hM := ite_f hc hM
        refine J.iinc (pc := 29) C (-1) dX3_next_29 ic_m1 rfl (by decide) ?_
        refine J.goto (pc := 32) C 4 dX3_next_32 (by decide) ?_
        refine J.sub C [0, 1, 2] rfl ?_
        exact hkb4 _ _ _ hM
  have jl4 : ∀ (x1 x2 : Int32) (g : Sg), lup2 (B_X3_next_4) FU x1 x2 g = some r → J p l e (RM 2 45) s m args below meth c D (cW q cI) A 6 Q g 4 [(0, .ref (q 37)), (1, .int x1), (2, .int x2)] [] := 
    lup2_ok (P := fun x1 x2 g => J p l e (RM 2 45) s m args below meth c D (cW q cI) A 6 Q g 4 [(0, .ref (q 37)), (1, .int x1), (2, .int x2)] []) (fun self hself => jb4 self hself) FU
  have hM := h
  unfold M_X3_next at hM
  refine J.iload_n (pc := 0) C dX3_next_0 rfl rfl ?_
  refine J.iconst (pc := 1) C 2 dX3_next_1 ic_2 ?_
  refine J.isub (pc := 2) C dX3_next_2 ?_
  refine J.istore_n (pc := 3) C dX3_next_3 rfl (by decide) ?_
  refine J.sub C [0, 1, 2] rfl ?_
  exact jl4 _ _ _ hM
def B_X3_search_112 (a : Nat) (kb45 : Int32 → Int32 → Int32 → Sg → Option Sg) (x3 x5 x6 : Int32) (g : Sg) : Option Sg := lt (sI g 38 1) (fun g_10 => lt (sI g_10 37 x6) (fun g_11 => lt (rcp g_11 39 38 7) (fun g_12 => bI (M_X3_next (g_12.1 a) g_12) (fun r_13 g_14 => kb45 x3 r_13 (x5 + 1) g_14))))
def B_X3_search_89 (a : Nat) (kb45 : Int32 → Int32 → Int32 → Sg → Option Sg) (x3 x5 x6 y0 : Int32) (g : Sg) : Option Sg := (if y0 = 0 then bI (M_X3_next (g.1 a) g) (fun r_6 g_7 => kb45 x3 r_6 (x5 + 1) g_7) else (if (g.1 38) = 0 then B_X3_search_112 a kb45 x3 x5 x6 g else (if (g.1 37) ≤ x6 then bI (M_X3_next (g.1 a) g) (fun r_8 g_9 => kb45 x3 r_8 (x5 + 1) g_9) else B_X3_search_112 a kb45 x3 x5 x6 g)))
def B_X3_search_45 (a : Nat) (kb45 : Int32 → Int32 → Int32 → Sg → Option Sg) (x3 x4 x5 : Int32) (g : Sg) : Option Sg := (if 720 ≤ x5 then some g else (if x4 = 0 then some g else bI (M_X5_inOrder a 39 7 g) (fun r_4 g_5 => (if x3 = 0 then B_X3_search_89 a kb45 x3 x5 r_4 1 g_5 else (if (V_X5_firstLamp g_5) = (V_X0_pump a g_5) then B_X3_search_89 a kb45 x3 x5 r_4 1 g_5 else B_X3_search_89 a kb45 x3 x5 r_4 0 g_5)))))
def B_X3_search_13 (a : Nat) (kb13 : Int32 → Int32 → Sg → Option Sg) (x3 x4 : Int32) (g : Sg) : Option Sg := (if (g.1 a) ≤ x4 then lup3 (B_X3_search_45 a ) FU x3 1 0 g else lt (rput g 39 7 x4 x4) (fun g_3 => kb13 x3 (x4 + 1) g_3))
def M_X3_search (a : Nat) (x3 : Int32) (g : Sg) : Option Sg := lt (sI g 38 0) (fun g_1 => lt (sI g_1 37 0) (fun g_2 => lup2 (B_X3_search_13 a ) FU x3 0 g_2))
set_option maxRecDepth 100000 in
set_option maxHeartbeats 4000000 in
theorem C_X3_search {l : Launch} {D : va_G} {q : Nat → Nat} {cI : ClassId} {z : Nat} {a : Nat} (ha : isAl a) {x3 : Int32} {g : Sg} {r : Sg} (h : M_X3_search a x3 g = some r) : CTv l (EC z) D cI (cW q cI) yX3_search cX3_search 8 6 140 [.ref (q 37), .ref (q a), .ref (q 26), .int x3] g r := by
  refine CTv.of2 (by decide) (EC_ok z) (Nat.le_of_ble_eq_true rfl) rfl (fun p e s m args below meth c A Q C hret => ?_)
  have jb112 : ∀ (kb45 : Int32 → Int32 → Int32 → Sg → Option Sg) (hkb45 : ∀ (x3 x4 x5 : Int32) (g : Sg), kb45 x3 x4 x5 g = some r → J p l e (RM 6 140) s m args below meth c D (cW q cI) A 8 Q g 45 [(0, .ref (q 37)), (1, .ref (q a)), (2, .ref (q 26)), (3, .int x3), (4, .int x4), (5, .int x5)] []) (x3 x5 x6 : Int32) (g : Sg), B_X3_search_112 a kb45 x3 x5 x6 g = some r → J p l e (RM 6 140) s m args below meth c D (cW q cI) A 8 Q g 112 [(0, .ref (q 37)), (1, .ref (q a)), (2, .ref (q 26)), (3, .int x3), (5, .int x5), (6, .int x6)] [] := by
    intro kb45 hkb45 x3 x5 x6 g hM
    unfold B_X3_search_112 at hM
    refine J.aload_n (pc := 112) C dX3_search_112 rfl rfl ?_
    refine J.iconst (pc := 113) C 1 dX3_search_113 ic_1 ?_
    refine pf_X3_37_2 (pc := 114) C rfl rfl tf_X3_18 dX3_search_114 ?_
    obtain ⟨_, ea, hM⟩ := lt_ex hM
    refine J.cong C ea ?_
    refine J.aload_n (pc := 117) C dX3_search_117 rfl rfl ?_
    refine J.iload (pc := 118) C dX3_search_118 rfl ?_
    refine pf_X3_37_1 (pc := 120) C tf_X3_22 dX3_search_120 ?_
    obtain ⟨_, ea, hM⟩ := lt_ex hM
    refine J.cong C ea ?_
    refine J.aload_n (pc := 123) C dX3_search_123 rfl rfl ?_
    refine gf_X3_37_3 (pc := 124) C tf_X3_15 dX3_search_124 ?_
    refine J.aload_n (pc := 127) C dX3_search_127 rfl rfl ?_
    refine gf_X3_37_0 (pc := 128) C tf_X3_9 dX3_search_128 ?_
    refine J.callS2v (pc := 131) C (K_X4_copy (ia_39 q cI) (ia_38 q cI) _) lk_X4_copy tm_X3_50 ⟨Nat.le_of_ble_eq_true rfl, Nat.le_of_ble_eq_true rfl⟩ (Nat.le_of_ble_eq_true rfl) dX3_search_131 ?_
    obtain ⟨_, ea, hM⟩ := lt_ex hM
    refine J.cong C ea ?_
    refine J.aload_n (pc := 134) C dX3_search_134 rfl rfl ?_
    refine J.aload_n (pc := 135) C dX3_search_135 rfl rfl ?_
    refine gf_X0_6 (pc := 136) ha C tf_X3_26 dX3_search_136 ?_
    obtain ⟨_, _, h1, hM⟩ := bI_ex hM
    refine J.callV1i (pc := 139) C (C_X3_next h1) lk_X3_next tm_X3_54 (io_37 q cI) ⟨Nat.le_of_ble_eq_true rfl, Nat.le_of_ble_eq_true rfl⟩ (Nat.le_of_ble_eq_true rfl) dX3_search_139 ?_
    refine J.istore (pc := 142) C dX3_search_142 (by decide) ?_
    refine J.iinc (pc := 144) C 1 dX3_search_144 ic_1 rfl (by decide) ?_
    refine J.goto (pc := 147) C 45 dX3_search_147 (by decide) ?_
    refine J.sub C [0, 1, 2, 3, 4, 5] rfl ?_
    exact hkb45 _ _ _ _ hM
  have jb89 : ∀ (kb45 : Int32 → Int32 → Int32 → Sg → Option Sg) (hkb45 : ∀ (x3 x4 x5 : Int32) (g : Sg), kb45 x3 x4 x5 g = some r → J p l e (RM 6 140) s m args below meth c D (cW q cI) A 8 Q g 45 [(0, .ref (q 37)), (1, .ref (q a)), (2, .ref (q 26)), (3, .int x3), (4, .int x4), (5, .int x5)] []) (x3 x5 x6 y0 : Int32) (g : Sg), B_X3_search_89 a kb45 x3 x5 x6 y0 g = some r → J p l e (RM 6 140) s m args below meth c D (cW q cI) A 8 Q g 89 [(0, .ref (q 37)), (1, .ref (q a)), (2, .ref (q 26)), (3, .int x3), (5, .int x5), (6, .int x6)] [.int y0] := by
    intro kb45 hkb45 x3 x5 x6 y0 g hM
    unfold B_X3_search_89 at hM
    refine J.istore (pc := 89) C dX3_search_89 (by decide) ?_
    refine J.iload (pc := 91) C dX3_search_91 rfl ?_
    refine J.if_eq (pc := 93) C 134 dX3_search_93 (by decide) (fun hc => ?_) (fun hc => ?_)
    · have hM := ite_t hc hM
      refine J.aload_n (pc := 134) C dX3_search_134 rfl rfl ?_
      refine J.aload_n (pc := 135) C dX3_search_135 rfl rfl ?_
      refine gf_X0_6 (pc := 136) ha C tf_X3_26 dX3_search_136 ?_
      obtain ⟨_, _, h1, hM⟩ := bI_ex hM
      refine J.callV1i (pc := 139) C (C_X3_next h1) lk_X3_next tm_X3_54 (io_37 q cI) ⟨Nat.le_of_ble_eq_true rfl, Nat.le_of_ble_eq_true rfl⟩ (Nat.le_of_ble_eq_true rfl) dX3_search_139 ?_
      refine J.istore (pc := 142) C dX3_search_142 (by decide) ?_
      refine J.iinc (pc := 144) C 1 dX3_search_144 ic_1 rfl (by decide) ?_
      refine J.goto (pc := 147) C 45 dX3_search_147 (by decide) ?_
      refine J.sub C [0, 1, 2, 3, 4, 5] rfl ?_
      exact hkb45 _ _ _ _ hM
    · have hM := ite_f hc hM
      refine J.aload_n (pc := 96) C dX3_search_96 rfl rfl ?_
      refine gf_X3_37_2 (pc := 97) C tf_X3_18 dX3_search_97 ?_
      refine J.if_eq (pc := 100) C 112 dX3_search_100 (by decide) (fun hc => ?_) (fun hc => ?_)
      · have hM := ite_t hc hM
        refine J.sub C [0, 1, 2, 3, 5, 6] rfl ?_
        exact jb112 kb45 hkb45 _ _ _ _ hM
      · have hM := ite_f hc hM
        refine J.iload (pc := 103) C dX3_search_103 rfl ?_
        refine J.aload_n (pc := 105) C dX3_search_105 rfl rfl ?_
        refine gf_X3_37_1 (pc := 106) C tf_X3_22 dX3_search_106 ?_
        refine J.icmp_ge (pc := 109) C 134 dX3_search_109 (by decide) (fun hc => ?_) (fun hc => ?_)
        · have hM := ite_t hc hM
          refine J.aload_n (pc := 134) C dX3_search_134 rfl rfl ?_
          refine J.aload_n (pc := 135) C dX3_search_135 rfl rfl ?_
          refine gf_X0_6 (pc := 136) ha C tf_X3_26 dX3_search_136 ?_
          obtain ⟨_, _, h1, hM⟩ := bI_ex hM
          refine J.callV1i (pc := 139) C (C_X3_next h1) lk_X3_next tm_X3_54 (io_37 q cI) ⟨Nat.le_of_ble_eq_true rfl, Nat.le_of_ble_eq_true rfl⟩ (Nat.le_of_ble_eq_true rfl) dX3_search_139 ?_
          refine J.istore (pc := 142) C dX3_search_142 (by decide) ?_
          refine J.iinc (pc := 144) C 1 dX3_search_144 ic_1 rfl (by decide) ?_
          refine J.goto (pc := 147) C 45 dX3_search_147 (by decide) ?_
          refine J.sub C [0, 1, 2, 3, 4, 5] rfl ?_
          exact hkb45 _ _ _ _ hM
        · have hM := ite_f hc hM
          refine J.sub C [0, 1, 2, 3, 5, 6] rfl ?_
          exact jb112 kb45 hkb45 _ _ _ _ hM
  have jb45 : ∀ (kb45 : Int32 → Int32 → Int32 → Sg → Option Sg) (hkb45 : ∀ (x3 x4 x5 : Int32) (g : Sg), kb45 x3 x4 x5 g = some r → J p l e (RM 6 140) s m args below meth c D (cW q cI) A 8 Q g 45 [(0, .ref (q 37)), (1, .ref (q a)), (2, .ref (q 26)), (3, .int x3), (4, .int x4), (5, .int x5)] []) (x3 x4 x5 : Int32) (g : Sg), B_X3_search_45 a kb45 x3 x4 x5 g = some r → J p l e (RM 6 140) s m args below meth c D (cW q cI) A 8 Q g 45 [(0, .ref (q 37)), (1, .ref (q a)), (2, .ref (q 26)), (3, .int x3), (4, .int x4), (5, .int x5)] [] := by
    intro kb45 hkb45 x3 x4 x5 g hM
    unfold B_X3_search_45 at hM
    refine J.iload (pc := 45) C dX3_search_45 rfl ?_
    refine J.sipush (pc := 47) C 720 dX3_search_47 sp_720 ?_
    refine J.icmp_ge (pc := 50) C 150 dX3_search_50 (by decide) (fun hc => ?_) (fun hc => ?_)
    · have hM := ite_t hc hM
      exact hret dX3_search_150 hM
    · have hM := ite_f hc hM
      refine J.iload (pc := 53) C dX3_search_53 rfl ?_
      refine J.if_eq (pc := 55) C 150 dX3_search_55 (by decide) (fun hc => ?_) (fun hc => ?_)
      · have hM := ite_t hc hM
        exact hret dX3_search_150 hM
      · have hM := ite_f hc hM
        refine J.aload_n (pc := 58) C dX3_search_58 rfl rfl ?_
        refine J.aload_n (pc := 59) C dX3_search_59 rfl rfl ?_
        refine J.aload_n (pc := 60) C dX3_search_60 rfl rfl ?_
        refine gf_X3_37_3 (pc := 61) C tf_X3_15 dX3_search_61 ?_
        obtain ⟨_, _, h1, hM⟩ := bI_ex hM
        refine J.callV2i (pc := 64) C (C_X5_inOrder ha (ia_39 q cI) h1) lk_X5_inOrder tm_X3_37 (io_26 q cI) ⟨Nat.le_of_ble_eq_true rfl, Nat.le_of_ble_eq_true rfl⟩ (Nat.le_of_ble_eq_true rfl) dX3_search_64 ?_
        refine J.istore (pc := 67) C dX3_search_67 (by decide) ?_
        refine J.iload_n (pc := 69) C dX3_search_69 rfl rfl ?_
        refine J.if_eq (pc := 70) C 84 dX3_search_70 (by decide) (fun hc => ?_) (fun hc => ?_)
        · have hM := ite_t hc hM
          refine J.iconst (pc := 84) C 1 dX3_search_84 ic_1 ?_
          refine J.goto (pc := 85) C 89 dX3_search_85 (by decide) ?_
          refine J.sub C [0, 1, 2, 3, 5, 6] rfl ?_
          exact jb89 kb45 hkb45 _ _ _ _ _ hM
        · have hM := ite_f hc hM
          refine J.aload_n (pc := 73) C dX3_search_73 rfl rfl ?_
          refine J.callV0i (pc := 74) C (K_X5_firstLamp _) lk_X5_firstLamp tm_X3_43 (io_26 q cI) ⟨Nat.le_of_ble_eq_true rfl, Nat.le_of_ble_eq_true rfl⟩ (Nat.le_of_ble_eq_true rfl) dX3_search_74 ?_
          refine J.aload_n (pc := 77) C dX3_search_77 rfl rfl ?_
          refine J.callV0i (pc := 78) C (K_X0_pump ha _) lk_X0_pump tm_X3_47 (io_al q cI ha) ⟨Nat.le_of_ble_eq_true rfl, Nat.le_of_ble_eq_true rfl⟩ (Nat.le_of_ble_eq_true rfl) dX3_search_78 ?_
          refine J.icmp_ne (pc := 81) C 88 dX3_search_81 (by decide) (fun hc => ?_) (fun hc => ?_)
          · have hM := ite_f hc hM
            refine J.iconst (pc := 88) C 0 dX3_search_88 ic_0 ?_
            refine J.sub C [0, 1, 2, 3, 5, 6] rfl ?_
            exact jb89 kb45 hkb45 _ _ _ _ _ hM
          · have hM := ite_t hc hM
            refine J.iconst (pc := 84) C 1 dX3_search_84 ic_1 ?_
            refine J.goto (pc := 85) C 89 dX3_search_85 (by decide) ?_
            refine J.sub C [0, 1, 2, 3, 5, 6] rfl ?_
            exact jb89 kb45 hkb45 _ _ _ _ _ hM
  have jl45 : ∀ (x3 x4 x5 : Int32) (g : Sg), lup3 (B_X3_search_45 a) FU x3 x4 x5 g = some r → J p l e (RM 6 140) s m args below meth c D (cW q cI) A 8 Q g 45 [(0, .ref (q 37)), (1, .ref (q a)), (2, .ref (q 26)), (3, .int x3), (4, .int x4), (5, .int x5)] [] := 
    lup3_ok (P := fun x3 x4 x5 g => J p l e (RM 6 140) s m args below meth c D (cW q cI) A 8 Q g 45 [(0, .ref (q 37)), (1, .ref (q a)), (2, .ref (q 26)), (3, .int x3), (4, .int x4), (5, .int x5)] []) (fun self hself => jb45 self hself) FU
  have jb13 : ∀ (kb13 : Int32 → Int32 → Sg → Option Sg) (hkb13 : ∀ (x3 x4 : Int32) (g : Sg), kb13 x3 x4 g = some r → J p l e (RM 6 140) s m args below meth c D (cW q cI) A 8 Q g 13 [(0, .ref (q 37)), (1, .ref (q a)), (2, .ref (q 26)), (3, .int x3), (4, .int x4)] []) (x3 x4 : Int32) (g : Sg), B_X3_search_13 a kb13 x3 x4 g = some r → J p l e (RM 6 140) s m args below meth c D (cW q cI) A 8 Q g 13 [(0, .ref (q 37)), (1, .ref (q a)), (2, .ref (q 26)), (3, .int x3), (4, .int x4)] [] := by
    intro kb13 hkb13 x3 x4 g hM
    unfold B_X3_search_13 at hM
    refine J.iload (pc := 13) C dX3_search_13 rfl ?_
    refine J.aload_n (pc := 15) C dX3_search_15 rfl rfl ?_
    refine gf_X0_6 (pc := 16) ha C tf_X3_26 dX3_search_16 ?_
    refine J.icmp_ge (pc := 19) C 39 dX3_search_19 (by decide) (fun hc => ?_) (fun hc => ?_)
    · have hM := ite_t hc hM
      refine J.iconst (pc := 39) C 1 dX3_search_39 ic_1 ?_
      refine J.istore (pc := 40) C dX3_search_40 (by decide) ?_
      refine J.iconst (pc := 42) C 0 dX3_search_42 ic_0 ?_
      refine J.istore (pc := 43) C dX3_search_43 (by decide) ?_
      refine J.sub C [0, 1, 2, 3, 4, 5] rfl ?_
      exact jl45 _ _ _ _ hM
    · have hM := ite_f hc hM
      refine J.aload_n (pc := 22) C dX3_search_22 rfl rfl ?_
      refine gf_X3_37_3 (pc := 23) C tf_X3_15 dX3_search_23 ?_
      refine J.iload (pc := 26) C dX3_search_26 rfl ?_
      refine J.iload (pc := 28) C dX3_search_28 rfl ?_
      refine J.callS3v (pc := 30) C (K_X4_put (ia_39 q cI) _ _ _) lk_X4_put tm_X3_31 ⟨Nat.le_of_ble_eq_true rfl, Nat.le_of_ble_eq_true rfl⟩ (Nat.le_of_ble_eq_true rfl) dX3_search_30 ?_
      obtain ⟨_, ea, hM⟩ := lt_ex hM
      refine J.cong C ea ?_
      refine J.iinc (pc := 33) C 1 dX3_search_33 ic_1 rfl (by decide) ?_
      refine J.goto (pc := 36) C 13 dX3_search_36 (by decide) ?_
      refine J.sub C [0, 1, 2, 3, 4] rfl ?_
      exact hkb13 _ _ _ hM
  have jl13 : ∀ (x3 x4 : Int32) (g : Sg), lup2 (B_X3_search_13 a) FU x3 x4 g = some r → J p l e (RM 6 140) s m args below meth c D (cW q cI) A 8 Q g 13 [(0, .ref (q 37)), (1, .ref (q a)), (2, .ref (q 26)), (3, .int x3), (4, .int x4)] [] := 
    lup2_ok (P := fun x3 x4 g => J p l e (RM 6 140) s m args below meth c D (cW q cI) A 8 Q g 13 [(0, .ref (q 37)), (1, .ref (q a)), (2, .ref (q 26)), (3, .int x3), (4, .int x4)] []) (fun self hself => jb13 self hself) FU
  have hM := h
  unfold M_X3_search at hM
  refine J.aload_n (pc := 0) C dX3_search_0 rfl rfl ?_
  refine J.iconst (pc := 1) C 0 dX3_search_1 ic_0 ?_
  refine pf_X3_37_2 (pc := 2) C rfl rfl tf_X3_18 dX3_search_2 ?_
  obtain ⟨_, ea, hM⟩ := lt_ex hM
  refine J.cong C ea ?_
  refine J.aload_n (pc := 5) C dX3_search_5 rfl rfl ?_
  refine J.iconst (pc := 6) C 0 dX3_search_6 ic_0 ?_
  refine pf_X3_37_1 (pc := 7) C tf_X3_22 dX3_search_7 ?_
  obtain ⟨_, ea, hM⟩ := lt_ex hM
  refine J.cong C ea ?_
  refine J.iconst (pc := 10) C 0 dX3_search_10 ic_0 ?_
  refine J.istore (pc := 11) C dX3_search_11 (by decide) ?_
  refine J.sub C [0, 1, 2, 3, 4] rfl ?_
  exact jl13 _ _ _ hM
def M_X1_stepsFarther (a : Nat) (x1 x2 : Int32) (g : Sg) : Option (Int32 × Sg) := lt (rat g (a + 4) 7 x2) (fun x3_1 => some (imax 0 ((iabs (x1 - x3_1)) - (iabs ((V_X0_pump a g) - x3_1))), g))
set_option maxRecDepth 100000 in
set_option maxHeartbeats 4000000 in
theorem C_X1_stepsFarther {l : Launch} {D : va_G} {q : Nat → Nat} {cI : ClassId} {z : Nat} {a : Nat} (ha : isAl a) {x1 x2 : Int32} {g : Sg} {r : Int32 × Sg} (h : M_X1_stepsFarther a x1 x2 g = some r) : CTi l (EC z) D cI (cW q cI) yX1_stepsFarther cX1_stepsFarther 4 (some .int) 2 41 [.ref (q a), .int x1, .int x2] g r := by
  refine CTi.of2 (by decide) (EC_ok z) (Nat.le_of_ble_eq_true rfl) rfl (fun p e s m args below meth c A Q C hret => ?_)
  have hM := h
  unfold M_X1_stepsFarther at hM
  refine J.aload_n (pc := 0) C dX1_stepsFarther_0 rfl rfl ?_
  refine gf_X0_3 (pc := 1) ha C tf_X1_50 dX1_stepsFarther_1 ?_
  refine J.iload_n (pc := 4) C dX1_stepsFarther_4 rfl rfl ?_
  refine J.callS2i (pc := 5) C (K_X4_at (ia_al4 q cI ha) _ _) lk_X4_at tm_X1_36 ⟨Nat.le_of_ble_eq_true rfl, Nat.le_of_ble_eq_true rfl⟩ (Nat.le_of_ble_eq_true rfl) dX1_stepsFarther_5 ?_
  obtain ⟨_, ea, hM⟩ := lt_ex hM
  refine J.istore_nV (pc := 8) C dX1_stepsFarther_8 rfl (by decide) ea ?_
  refine J.iconst (pc := 9) C 0 dX1_stepsFarther_9 ic_0 ?_
  refine J.iload_n (pc := 10) C dX1_stepsFarther_10 rfl rfl ?_
  refine J.iload_n (pc := 11) C dX1_stepsFarther_11 rfl rfl ?_
  refine J.isub (pc := 12) C dX1_stepsFarther_12 ?_
  refine J.mabs (pc := 13) C tm_X1_55 (Nat.le_of_ble_eq_true rfl) (Nat.le_of_ble_eq_true rfl) dX1_stepsFarther_13 ?_
  refine J.aload_n (pc := 16) C dX1_stepsFarther_16 rfl rfl ?_
  refine J.callV0i (pc := 17) C (K_X0_pump ha _) lk_X0_pump tm_X1_61 (io_al q cI ha) ⟨Nat.le_of_ble_eq_true rfl, Nat.le_of_ble_eq_true rfl⟩ (Nat.le_of_ble_eq_true rfl) dX1_stepsFarther_17 ?_
  refine J.iload_n (pc := 20) C dX1_stepsFarther_20 rfl rfl ?_
  refine J.isub (pc := 21) C dX1_stepsFarther_21 ?_
  refine J.mabs (pc := 22) C tm_X1_55 (Nat.le_of_ble_eq_true rfl) (Nat.le_of_ble_eq_true rfl) dX1_stepsFarther_22 ?_
  refine J.isub (pc := 25) C dX1_stepsFarther_25 ?_
  refine J.mmax (pc := 26) C tm_X1_65 (Nat.le_of_ble_eq_true rfl) (Nat.le_of_ble_eq_true rfl) dX1_stepsFarther_26 ?_
  exact hret dX1_stepsFarther_29 hM rfl
def V_X1_stepsFarther (a : Nat) (x1 x2 : Int32) (g : Sg) : Int32 := let x3_1 := (rat g (a + 4) 7 x2); imax 0 ((iabs (x1 - x3_1)) - (iabs ((V_X0_pump a g) - x3_1)))
theorem E_X1_stepsFarther (a : Nat) (x1 x2 : Int32) (g : Sg) : M_X1_stepsFarther a x1 x2 g = some (V_X1_stepsFarther a x1 x2 g, g) := by
  unfold M_X1_stepsFarther V_X1_stepsFarther
  first | rfl | ((try dsimp only [lt]); (repeat' split) <;> rfl)
theorem K_X1_stepsFarther {l : Launch} {D : va_G} {q : Nat → Nat} {cI : ClassId} {z : Nat} {a : Nat} (ha : isAl a) (x1 x2 : Int32) (g : Sg) : CTi l (EC z) D cI (cW q cI) yX1_stepsFarther cX1_stepsFarther 4 (some .int) 2 41 [.ref (q a), .int x1, .int x2] g (V_X1_stepsFarther a x1 x2 g, g) := C_X1_stepsFarther ha (E_X1_stepsFarther a x1 x2 g)
def B_X1_reckon_25 (a : Nat) (kb25 : Int32 → Sg → Option Sg) (x3 : Int32) (g : Sg) : Option Sg := (if ((g.1 27) - 1) ≤ x3 then some g else lt (rat g 32 7 x3) (fun x4_2 => (if (rat g 31 7 x4_2) = 1 then lt (rat g 32 7 (x3 + 1)) (fun x5_3 => lt (V_X1_stepsFarther a (rat g 33 7 x3) x5_3 g) (fun x6_4 => lt (rput g 41 7 x4_2 ((rat g 41 7 x4_2) - x6_4)) (fun g_5 => lt (rput g_5 41 7 x5_3 ((rat g_5 41 7 x5_3) + x6_4)) (fun g_6 => kb25 (x3 + 1) g_6)))) else kb25 (x3 + 1) g)))
def B_X1_reckon_2 (a : Nat) (kb2 : Int32 → Sg → Option Sg) (x3 : Int32) (g : Sg) : Option Sg := (if 7 ≤ x3 then lup1 (B_X1_reckon_25 a ) FU 0 g else lt (rput g 41 7 x3 0) (fun g_1 => kb2 (x3 + 1) g_1))
def M_X1_reckon (a : Nat) (g : Sg) : Option Sg := lup1 (B_X1_reckon_2 a ) FU 0 g
set_option maxRecDepth 100000 in
set_option maxHeartbeats 4000000 in
theorem C_X1_reckon {l : Launch} {D : va_G} {q : Nat → Nat} {cI : ClassId} {z : Nat} {a : Nat} (ha : isAl a) {g : Sg} {r : Sg} (h : M_X1_reckon a g = some r) : CTv l (EC z) D cI (cW q cI) yX1_reckon cX1_reckon 7 3 64 [.ref (q 40), .ref (q a), .ref (q 26)] g r := by
  refine CTv.of2 (by decide) (EC_ok z) (Nat.le_of_ble_eq_true rfl) rfl (fun p e s m args below meth c A Q C hret => ?_)
  have jb25 : ∀ (kb25 : Int32 → Sg → Option Sg) (hkb25 : ∀ (x3 : Int32) (g : Sg), kb25 x3 g = some r → J p l e (RM 3 64) s m args below meth c D (cW q cI) A 7 Q g 25 [(0, .ref (q 40)), (1, .ref (q a)), (2, .ref (q 26)), (3, .int x3)] []) (x3 : Int32) (g : Sg), B_X1_reckon_25 a kb25 x3 g = some r → J p l e (RM 3 64) s m args below meth c D (cW q cI) A 7 Q g 25 [(0, .ref (q 40)), (1, .ref (q a)), (2, .ref (q 26)), (3, .int x3)] [] := by
    intro kb25 hkb25 x3 g hM
    unfold B_X1_reckon_25 at hM
    refine J.iload_n (pc := 25) C dX1_reckon_25 rfl rfl ?_
    refine J.aload_n (pc := 26) C dX1_reckon_26 rfl rfl ?_
    refine gf_X5_26_11 (pc := 27) C tf_X1_27 dX1_reckon_27 ?_
    refine J.iconst (pc := 30) C 1 dX1_reckon_30 ic_1 ?_
    refine J.isub (pc := 31) C dX1_reckon_31 ?_
    refine J.icmp_ge (pc := 32) C 134 dX1_reckon_32 (by decide) (fun hc => ?_) (fun hc => ?_)
    · have hM := ite_t hc hM
      exact hret dX1_reckon_134 hM
    · have hM := ite_f hc hM
      refine J.aload_n (pc := 35) C dX1_reckon_35 rfl rfl ?_
      refine gf_X5_26_5 (pc := 36) C tf_X1_33 dX1_reckon_36 ?_
      refine J.iload_n (pc := 39) C dX1_reckon_39 rfl rfl ?_
      refine J.callS2i (pc := 40) C (K_X4_at (ia_32 q cI) _ _) lk_X4_at tm_X1_36 ⟨Nat.le_of_ble_eq_true rfl, Nat.le_of_ble_eq_true rfl⟩ (Nat.le_of_ble_eq_true rfl) dX1_reckon_40 ?_
      obtain ⟨_, ea, hM⟩ := lt_ex hM
      refine J.istoreV (pc := 43) C dX1_reckon_43 (by decide) ea ?_
      refine J.aload_n (pc := 45) C dX1_reckon_45 rfl rfl ?_
      refine gf_X5_26_4 (pc := 46) C tf_X1_40 dX1_reckon_46 ?_
      refine J.iload (pc := 49) C dX1_reckon_49 rfl ?_
      refine J.callS2i (pc := 51) C (K_X4_at (ia_31 q cI) _ _) lk_X4_at tm_X1_36 ⟨Nat.le_of_ble_eq_true rfl, Nat.le_of_ble_eq_true rfl⟩ (Nat.le_of_ble_eq_true rfl) dX1_reckon_51 ?_
      refine J.iconst (pc := 54) C 1 dX1_reckon_54 ic_1 ?_
      refine J.icmp_ne (pc := 55) C 128 dX1_reckon_55 (by decide) (fun hc => ?_) (fun hc => ?_)
      · have hM := ite_f hc hM
        refine J.iinc (pc := 128) C 1 dX1_reckon_128 ic_1 rfl (by decide) ?_
        refine J.goto (pc := 131) C 25 dX1_reckon_131 (by decide) ?_
        refine J.sub C [0, 1, 2, 3] rfl ?_
        exact hkb25 _ _ hM
      · have hM := ite_t hc hM
        refine J.aload_n (pc := 58) C dX1_reckon_58 rfl rfl ?_
        refine gf_X5_26_5 (pc := 59) C tf_X1_33 dX1_reckon_59 ?_
        refine J.iload_n (pc := 62) C dX1_reckon_62 rfl rfl ?_
        refine J.iconst (pc := 63) C 1 dX1_reckon_63 ic_1 ?_
        refine J.iadd (pc := 64) C dX1_reckon_64 ?_
        refine J.callS2i (pc := 65) C (K_X4_at (ia_32 q cI) _ _) lk_X4_at tm_X1_36 ⟨Nat.le_of_ble_eq_true rfl, Nat.le_of_ble_eq_true rfl⟩ (Nat.le_of_ble_eq_true rfl) dX1_reckon_65 ?_
        obtain ⟨_, ea, hM⟩ := lt_ex hM
        refine J.istoreV (pc := 68) C dX1_reckon_68 (by decide) ea ?_
        refine J.aload_n (pc := 70) C dX1_reckon_70 rfl rfl ?_
        refine J.aload_n (pc := 71) C dX1_reckon_71 rfl rfl ?_
        refine gf_X5_26_6 (pc := 72) C tf_X1_43 dX1_reckon_72 ?_
        refine J.iload_n (pc := 75) C dX1_reckon_75 rfl rfl ?_
        refine J.callS2i (pc := 76) C (K_X4_at (ia_33 q cI) _ _) lk_X4_at tm_X1_36 ⟨Nat.le_of_ble_eq_true rfl, Nat.le_of_ble_eq_true rfl⟩ (Nat.le_of_ble_eq_true rfl) dX1_reckon_76 ?_
        refine J.iload (pc := 79) C dX1_reckon_79 rfl ?_
        refine J.callS3i (pc := 81) C (K_X1_stepsFarther ha _ _ _) lk_X1_stepsFarther tm_X1_46 ⟨Nat.le_of_ble_eq_true rfl, Nat.le_of_ble_eq_true rfl⟩ (Nat.le_of_ble_eq_true rfl) dX1_reckon_81 ?_
        obtain ⟨_, ea, hM⟩ := lt_ex hM
        refine J.istoreV (pc := 84) C dX1_reckon_84 (by decide) ea ?_
        refine J.aload_n (pc := 86) C dX1_reckon_86 rfl rfl ?_
        refine gf_X1_40_0 (pc := 87) C tf_X1_9 dX1_reckon_87 ?_
        refine J.iload (pc := 90) C dX1_reckon_90 rfl ?_
        refine J.aload_n (pc := 92) C dX1_reckon_92 rfl rfl ?_
        refine gf_X1_40_0 (pc := 93) C tf_X1_9 dX1_reckon_93 ?_
        refine J.iload (pc := 96) C dX1_reckon_96 rfl ?_
        refine J.callS2i (pc := 98) C (K_X4_at (ia_41 q cI) _ _) lk_X4_at tm_X1_36 ⟨Nat.le_of_ble_eq_true rfl, Nat.le_of_ble_eq_true rfl⟩ (Nat.le_of_ble_eq_true rfl) dX1_reckon_98 ?_
        refine J.iload (pc := 101) C dX1_reckon_101 rfl ?_
        refine J.isub (pc := 103) C dX1_reckon_103 ?_
        refine J.callS3v (pc := 104) C (K_X4_put (ia_41 q cI) _ _ _) lk_X4_put tm_X1_21 ⟨Nat.le_of_ble_eq_true rfl, Nat.le_of_ble_eq_true rfl⟩ (Nat.le_of_ble_eq_true rfl) dX1_reckon_104 ?_
        obtain ⟨_, ea, hM⟩ := lt_ex hM
        refine J.cong C ea ?_
        refine J.aload_n (pc := 107) C dX1_reckon_107 rfl rfl ?_
        refine gf_X1_40_0 (pc := 108) C tf_X1_9 dX1_reckon_108 ?_
        refine J.iload (pc := 111) C dX1_reckon_111 rfl ?_
        refine J.aload_n (pc := 113) C dX1_reckon_113 rfl rfl ?_
        refine gf_X1_40_0 (pc := 114) C tf_X1_9 dX1_reckon_114 ?_
        refine J.iload (pc := 117) C dX1_reckon_117 rfl ?_
        refine J.callS2i (pc := 119) C (K_X4_at (ia_41 q cI) _ _) lk_X4_at tm_X1_36 ⟨Nat.le_of_ble_eq_true rfl, Nat.le_of_ble_eq_true rfl⟩ (Nat.le_of_ble_eq_true rfl) dX1_reckon_119 ?_
        refine J.iload (pc := 122) C dX1_reckon_122 rfl ?_
        refine J.iadd (pc := 124) C dX1_reckon_124 ?_
        refine J.callS3v (pc := 125) C (K_X4_put (ia_41 q cI) _ _ _) lk_X4_put tm_X1_21 ⟨Nat.le_of_ble_eq_true rfl, Nat.le_of_ble_eq_true rfl⟩ (Nat.le_of_ble_eq_true rfl) dX1_reckon_125 ?_
        obtain ⟨_, ea, hM⟩ := lt_ex hM
        refine J.cong C ea ?_
        refine J.iinc (pc := 128) C 1 dX1_reckon_128 ic_1 rfl (by decide) ?_
        refine J.goto (pc := 131) C 25 dX1_reckon_131 (by decide) ?_
        refine J.sub C [0, 1, 2, 3] rfl ?_
        exact hkb25 _ _ hM
  have jl25 : ∀ (x3 : Int32) (g : Sg), lup1 (B_X1_reckon_25 a) FU x3 g = some r → J p l e (RM 3 64) s m args below meth c D (cW q cI) A 7 Q g 25 [(0, .ref (q 40)), (1, .ref (q a)), (2, .ref (q 26)), (3, .int x3)] [] := 
    lup1_ok (P := fun x3 g => J p l e (RM 3 64) s m args below meth c D (cW q cI) A 7 Q g 25 [(0, .ref (q 40)), (1, .ref (q a)), (2, .ref (q 26)), (3, .int x3)] []) (fun self hself => jb25 self hself) FU
  have jb2 : ∀ (kb2 : Int32 → Sg → Option Sg) (hkb2 : ∀ (x3 : Int32) (g : Sg), kb2 x3 g = some r → J p l e (RM 3 64) s m args below meth c D (cW q cI) A 7 Q g 2 [(0, .ref (q 40)), (1, .ref (q a)), (2, .ref (q 26)), (3, .int x3)] []) (x3 : Int32) (g : Sg), B_X1_reckon_2 a kb2 x3 g = some r → J p l e (RM 3 64) s m args below meth c D (cW q cI) A 7 Q g 2 [(0, .ref (q 40)), (1, .ref (q a)), (2, .ref (q 26)), (3, .int x3)] [] := by
    intro kb2 hkb2 x3 g hM
    unfold B_X1_reckon_2 at hM
    refine J.iload_n (pc := 2) C dX1_reckon_2 rfl rfl ?_
    refine J.bipush (pc := 3) C 7 dX1_reckon_3 bp_7 ?_
    refine J.icmp_ge (pc := 5) C 23 dX1_reckon_5 (by decide) (fun hc => ?_) (fun hc => ?_)
    · have hM := ite_t hc hM
      refine J.iconst (pc := 23) C 0 dX1_reckon_23 ic_0 ?_
      refine J.istore_n (pc := 24) C dX1_reckon_24 rfl (by decide) ?_
      refine J.sub C [0, 1, 2, 3] rfl ?_
      exact jl25 _ _ hM
    · have hM := ite_f hc hM
      refine J.aload_n (pc := 8) C dX1_reckon_8 rfl rfl ?_
      refine gf_X1_40_0 (pc := 9) C tf_X1_9 dX1_reckon_9 ?_
      refine J.iload_n (pc := 12) C dX1_reckon_12 rfl rfl ?_
      refine J.iconst (pc := 13) C 0 dX1_reckon_13 ic_0 ?_
      refine J.callS3v (pc := 14) C (K_X4_put (ia_41 q cI) _ _ _) lk_X4_put tm_X1_21 ⟨Nat.le_of_ble_eq_true rfl, Nat.le_of_ble_eq_true rfl⟩ (Nat.le_of_ble_eq_true rfl) dX1_reckon_14 ?_
      obtain ⟨_, ea, hM⟩ := lt_ex hM
      refine J.cong C ea ?_
      refine J.iinc (pc := 17) C 1 dX1_reckon_17 ic_1 rfl (by decide) ?_
      refine J.goto (pc := 20) C 2 dX1_reckon_20 (by decide) ?_
      refine J.sub C [0, 1, 2, 3] rfl ?_
      exact hkb2 _ _ hM
  have jl2 : ∀ (x3 : Int32) (g : Sg), lup1 (B_X1_reckon_2 a) FU x3 g = some r → J p l e (RM 3 64) s m args below meth c D (cW q cI) A 7 Q g 2 [(0, .ref (q 40)), (1, .ref (q a)), (2, .ref (q 26)), (3, .int x3)] [] := 
    lup1_ok (P := fun x3 g => J p l e (RM 3 64) s m args below meth c D (cW q cI) A 7 Q g 2 [(0, .ref (q 40)), (1, .ref (q a)), (2, .ref (q 26)), (3, .int x3)] []) (fun self hself => jb2 self hself) FU
  have hM := h
  unfold M_X1_reckon at hM
  refine J.iconst (pc := 0) C 0 dX1_reckon_0 ic_0 ?_
  refine J.istore_n (pc := 1) C dX1_reckon_1 rfl (by decide) ?_
  refine J.sub C [0, 1, 2, 3] rfl ?_
  exact jl2 _ _ hM
def B_X1_joinUp_74 (x1 x3 : Int32) (g : Sg) : Option Sg := (if (rat g 42 128 x1) = 0 then lt (rput g 43 128 x1 (x3 + 1)) (fun g_5 => some g_5) else lt (rput g 43 128 x1 x3) (fun g_4 => some g_4))
def B_X1_joinUp_5 (kb5 : Int32 → Int32 → Int32 → Int32 → Sg → Option Sg) (x1 x2 x3 x4 : Int32) (g : Sg) : Option Sg := (if x2 ≤ x4 then B_X1_joinUp_74 x1 x3 g else lt (x1 &&& ((1 <<< (x4 &&& 31)) ^^^ (-1))) (fun x5_1 => (if x5_1 = x1 then kb5 x1 x2 x3 (x4 + 1) g else lt (imax x3 (rat g 43 128 x5_1)) (fun x3_2 => lt (rput g 42 128 x1 ((rat g 42 128 x5_1) + (rat g 41 7 x4))) (fun g_3 => kb5 x1 x2 x3_2 (x4 + 1) g_3)))))
def M_X1_joinUp (x1 x2 : Int32) (g : Sg) : Option Sg := lup4 (B_X1_joinUp_5 ) FU x1 x2 0 0 g
set_option maxRecDepth 100000 in
set_option maxHeartbeats 4000000 in
theorem C_X1_joinUp {l : Launch} {D : va_G} {q : Nat → Nat} {cI : ClassId} {z : Nat} {x1 x2 : Int32} {g : Sg} {r : Sg} (h : M_X1_joinUp x1 x2 g = some r) : CTv l (EC z) D cI (cW q cI) yX1_joinUp cX1_joinUp 6 1 24 [.ref (q 40), .int x1, .int x2] g r := by
  refine CTv.of2 (by decide) (EC_ok z) (Nat.le_of_ble_eq_true rfl) rfl (fun p e s m args below meth c A Q C hret => ?_)
  have jb74 : ∀ (x1 x3 : Int32) (g : Sg), B_X1_joinUp_74 x1 x3 g = some r → J p l e (RM 1 24) s m args below meth c D (cW q cI) A 6 Q g 74 [(0, .ref (q 40)), (1, .int x1), (3, .int x3)] [] := by
    intro x1 x3 g hM
    unfold B_X1_joinUp_74 at hM
    refine J.aload_n (pc := 74) C dX1_joinUp_74 rfl rfl ?_
    refine gf_X1_40_2 (pc := 75) C tf_X1_18 dX1_joinUp_75 ?_
    refine J.iload_n (pc := 78) C dX1_joinUp_78 rfl rfl ?_
    refine J.aload_n (pc := 79) C dX1_joinUp_79 rfl rfl ?_
    refine gf_X1_40_1 (pc := 80) C tf_X1_15 dX1_joinUp_80 ?_
    refine J.iload_n (pc := 83) C dX1_joinUp_83 rfl rfl ?_
    refine J.callS2i (pc := 84) C (K_X4_at (ia_42 q cI) _ _) lk_X4_at tm_X1_36 ⟨Nat.le_of_ble_eq_true rfl, Nat.le_of_ble_eq_true rfl⟩ (Nat.le_of_ble_eq_true rfl) dX1_joinUp_84 ?_
    refine J.if_ne (pc := 87) C 96 dX1_joinUp_87 (by decide) (fun hc => ?_) (fun hc => ?_)
    · have hM := ite_f hc hM
      refine J.iload_n (pc := 96) C dX1_joinUp_96 rfl rfl ?_
      refine J.callS3v (pc := 97) C (K_X4_put (ia_43 q cI) _ _ _) lk_X4_put tm_X1_21 ⟨Nat.le_of_ble_eq_true rfl, Nat.le_of_ble_eq_true rfl⟩ (Nat.le_of_ble_eq_true rfl) dX1_joinUp_97 ?_
      obtain ⟨_, ea, hM⟩ := lt_ex hM
      refine J.cong C ea ?_
      exact hret dX1_joinUp_100 hM
    · have hM := ite_t hc hM
      refine J.iload_n (pc := 90) C dX1_joinUp_90 rfl rfl ?_
      refine J.iconst (pc := 91) C 1 dX1_joinUp_91 ic_1 ?_
      refine J.iadd (pc := 92) C dX1_joinUp_92 ?_
      refine J.goto (pc := 93) C 97 dX1_joinUp_93 (by decide) ?_
      refine J.callS3v (pc := 97) C (K_X4_put (ia_43 q cI) _ _ _) lk_X4_put tm_X1_21 ⟨Nat.le_of_ble_eq_true rfl, Nat.le_of_ble_eq_true rfl⟩ (Nat.le_of_ble_eq_true rfl) dX1_joinUp_97 ?_
      obtain ⟨_, ea, hM⟩ := lt_ex hM
      refine J.cong C ea ?_
      exact hret dX1_joinUp_100 hM
  have jb5 : ∀ (kb5 : Int32 → Int32 → Int32 → Int32 → Sg → Option Sg) (hkb5 : ∀ (x1 x2 x3 x4 : Int32) (g : Sg), kb5 x1 x2 x3 x4 g = some r → J p l e (RM 1 24) s m args below meth c D (cW q cI) A 6 Q g 5 [(0, .ref (q 40)), (1, .int x1), (2, .int x2), (3, .int x3), (4, .int x4)] []) (x1 x2 x3 x4 : Int32) (g : Sg), B_X1_joinUp_5 kb5 x1 x2 x3 x4 g = some r → J p l e (RM 1 24) s m args below meth c D (cW q cI) A 6 Q g 5 [(0, .ref (q 40)), (1, .int x1), (2, .int x2), (3, .int x3), (4, .int x4)] [] := by
    intro kb5 hkb5 x1 x2 x3 x4 g hM
    unfold B_X1_joinUp_5 at hM
    refine J.iload (pc := 5) C dX1_joinUp_5 rfl ?_
    refine J.iload_n (pc := 7) C dX1_joinUp_7 rfl rfl ?_
    refine J.icmp_ge (pc := 8) C 74 dX1_joinUp_8 (by decide) (fun hc => ?_) (fun hc => ?_)
    · have hM := ite_t hc hM
      refine J.sub C [0, 1, 3] rfl ?_
      exact jb74 _ _ _ hM
    · have hM := ite_f hc hM
      refine J.iload_n (pc := 11) C dX1_joinUp_11 rfl rfl ?_
      refine J.iconst (pc := 12) C 1 dX1_joinUp_12 ic_1 ?_
      refine J.iload (pc := 13) C dX1_joinUp_13 rfl ?_
      refine J.ishl (pc := 15) C dX1_joinUp_15 ?_
      refine J.iconst (pc := 16) C (-1) dX1_joinUp_16 ic_m1 ?_
      refine J.ixor (pc := 17) C dX1_joinUp_17 ?_
      refine J.iand (pc := 18) C dX1_joinUp_18 ?_
      obtain ⟨_, ea, hM⟩ := lt_ex hM
      refine J.istoreV (pc := 19) C dX1_joinUp_19 (by decide) ea ?_
      refine J.iload (pc := 21) C dX1_joinUp_21 rfl ?_
      refine J.iload_n (pc := 23) C dX1_joinUp_23 rfl rfl ?_
      refine J.icmp_eq (pc := 24) C 68 dX1_joinUp_24 (by decide) (fun hc => ?_) (fun hc => ?_)
      · have hM := ite_t hc hM
        refine J.iinc (pc := 68) C 1 dX1_joinUp_68 ic_1 rfl (by decide) ?_
        refine J.goto (pc := 71) C 5 dX1_joinUp_71 (by decide) ?_
        refine J.sub C [0, 1, 2, 3, 4] rfl ?_
        exact hkb5 _ _ _ _ _ hM
      · have hM := ite_f hc hM
        refine J.iload_n (pc := 27) C dX1_joinUp_27 rfl rfl ?_
        refine J.aload_n (pc := 28) C dX1_joinUp_28 rfl rfl ?_
        refine gf_X1_40_2 (pc := 29) C tf_X1_18 dX1_joinUp_29 ?_
        refine J.iload (pc := 32) C dX1_joinUp_32 rfl ?_
        refine J.callS2i (pc := 34) C (K_X4_at (ia_43 q cI) _ _) lk_X4_at tm_X1_36 ⟨Nat.le_of_ble_eq_true rfl, Nat.le_of_ble_eq_true rfl⟩ (Nat.le_of_ble_eq_true rfl) dX1_joinUp_34 ?_
        refine J.mmax (pc := 37) C tm_X1_65 (Nat.le_of_ble_eq_true rfl) (Nat.le_of_ble_eq_true rfl) dX1_joinUp_37 ?_
        obtain ⟨_, ea, hM⟩ := lt_ex hM
        refine J.istore_nV (pc := 40) C dX1_joinUp_40 rfl (by decide) ea ?_
        refine J.aload_n (pc := 41) C dX1_joinUp_41 rfl rfl ?_
        refine gf_X1_40_1 (pc := 42) C tf_X1_15 dX1_joinUp_42 ?_
        refine J.iload_n (pc := 45) C dX1_joinUp_45 rfl rfl ?_
        refine J.aload_n (pc := 46) C dX1_joinUp_46 rfl rfl ?_
        refine gf_X1_40_1 (pc := 47) C tf_X1_15 dX1_joinUp_47 ?_
        refine J.iload (pc := 50) C dX1_joinUp_50 rfl ?_
        refine J.callS2i (pc := 52) C (K_X4_at (ia_42 q cI) _ _) lk_X4_at tm_X1_36 ⟨Nat.le_of_ble_eq_true rfl, Nat.le_of_ble_eq_true rfl⟩ (Nat.le_of_ble_eq_true rfl) dX1_joinUp_52 ?_
        refine J.aload_n (pc := 55) C dX1_joinUp_55 rfl rfl ?_
        refine gf_X1_40_0 (pc := 56) C tf_X1_9 dX1_joinUp_56 ?_
        refine J.iload (pc := 59) C dX1_joinUp_59 rfl ?_
        refine J.callS2i (pc := 61) C (K_X4_at (ia_41 q cI) _ _) lk_X4_at tm_X1_36 ⟨Nat.le_of_ble_eq_true rfl, Nat.le_of_ble_eq_true rfl⟩ (Nat.le_of_ble_eq_true rfl) dX1_joinUp_61 ?_
        refine J.iadd (pc := 64) C dX1_joinUp_64 ?_
        refine J.callS3v (pc := 65) C (K_X4_put (ia_42 q cI) _ _ _) lk_X4_put tm_X1_21 ⟨Nat.le_of_ble_eq_true rfl, Nat.le_of_ble_eq_true rfl⟩ (Nat.le_of_ble_eq_true rfl) dX1_joinUp_65 ?_
        obtain ⟨_, ea, hM⟩ := lt_ex hM
        refine J.cong C ea ?_
        refine J.iinc (pc := 68) C 1 dX1_joinUp_68 ic_1 rfl (by decide) ?_
        refine J.goto (pc := 71) C 5 dX1_joinUp_71 (by decide) ?_
        refine J.sub C [0, 1, 2, 3, 4] rfl ?_
        exact hkb5 _ _ _ _ _ hM
  have jl5 : ∀ (x1 x2 x3 x4 : Int32) (g : Sg), lup4 (B_X1_joinUp_5) FU x1 x2 x3 x4 g = some r → J p l e (RM 1 24) s m args below meth c D (cW q cI) A 6 Q g 5 [(0, .ref (q 40)), (1, .int x1), (2, .int x2), (3, .int x3), (4, .int x4)] [] := 
    lup4_ok (P := fun x1 x2 x3 x4 g => J p l e (RM 1 24) s m args below meth c D (cW q cI) A 6 Q g 5 [(0, .ref (q 40)), (1, .int x1), (2, .int x2), (3, .int x3), (4, .int x4)] []) (fun self hself => jb5 self hself) FU
  have hM := h
  unfold M_X1_joinUp at hM
  refine J.iconst (pc := 0) C 0 dX1_joinUp_0 ic_0 ?_
  refine J.istore_n (pc := 1) C dX1_joinUp_1 rfl (by decide) ?_
  refine J.iconst (pc := 2) C 0 dX1_joinUp_2 ic_0 ?_
  refine J.istore (pc := 3) C dX1_joinUp_3 (by decide) ?_
  refine J.sub C [0, 1, 2, 3, 4] rfl ?_
  exact jl5 _ _ _ _ _ hM
def B_X1_fewestPayments_51 (x1 x2 : Int32) (g : Sg) : Option (Int32 × Sg) := some (x1 - (rat g 43 128 x2), g)
def B_X1_fewestPayments_34 (kb34 : Int32 → Int32 → Int32 → Sg → Option (Int32 × Sg)) (x1 x2 x3 : Int32) (g : Sg) : Option (Int32 × Sg) := (if x2 < x3 then B_X1_fewestPayments_51 x1 x2 g else bV (M_X1_joinUp x3 x1 g) (fun g_3 => kb34 x1 x2 (x3 + 1) g_3))
def M_X1_fewestPayments (x1 : Int32) (g : Sg) : Option (Int32 × Sg) := (if x1 ≤ 7 then lt (rput g 42 128 0 0) (fun g_1 => lt (rput g_1 43 128 0 0) (fun g_2 => lup3 (B_X1_fewestPayments_34 ) FU x1 ((1 <<< (x1 &&& 31)) - 1) 1 g_2)) else some (0, g))
set_option maxRecDepth 100000 in
set_option maxHeartbeats 4000000 in
theorem C_X1_fewestPayments {l : Launch} {D : va_G} {q : Nat → Nat} {cI : ClassId} {z : Nat} {x1 : Int32} {g : Sg} {r : Int32 × Sg} (h : M_X1_fewestPayments x1 g = some r) : CTi l (EC z) D cI (cW q cI) yX1_fewestPayments cX1_fewestPayments 4 (some .int) 2 49 [.ref (q 40), .int x1] g r := by
  refine CTi.of2 (by decide) (EC_ok z) (Nat.le_of_ble_eq_true rfl) rfl (fun p e s m args below meth c A Q C hret => ?_)
  have jb51 : ∀ (x1 x2 : Int32) (g : Sg), B_X1_fewestPayments_51 x1 x2 g = some r → J p l e (RM 2 49) s m args below meth c D (cW q cI) A 4 Q g 51 [(0, .ref (q 40)), (1, .int x1), (2, .int x2)] [] := by
    intro x1 x2 g hM
    unfold B_X1_fewestPayments_51 at hM
    refine J.iload_n (pc := 51) C dX1_fewestPayments_51 rfl rfl ?_
    refine J.aload_n (pc := 52) C dX1_fewestPayments_52 rfl rfl ?_
    refine gf_X1_40_2 (pc := 53) C tf_X1_18 dX1_fewestPayments_53 ?_
    refine J.iload_n (pc := 56) C dX1_fewestPayments_56 rfl rfl ?_
    refine J.callS2i (pc := 57) C (K_X4_at (ia_43 q cI) _ _) lk_X4_at tm_X1_36 ⟨Nat.le_of_ble_eq_true rfl, Nat.le_of_ble_eq_true rfl⟩ (Nat.le_of_ble_eq_true rfl) dX1_fewestPayments_57 ?_
    refine J.isub (pc := 60) C dX1_fewestPayments_60 ?_
    exact hret dX1_fewestPayments_61 hM rfl
  have jb34 : ∀ (kb34 : Int32 → Int32 → Int32 → Sg → Option (Int32 × Sg)) (hkb34 : ∀ (x1 x2 x3 : Int32) (g : Sg), kb34 x1 x2 x3 g = some r → J p l e (RM 2 49) s m args below meth c D (cW q cI) A 4 Q g 34 [(0, .ref (q 40)), (1, .int x1), (2, .int x2), (3, .int x3)] []) (x1 x2 x3 : Int32) (g : Sg), B_X1_fewestPayments_34 kb34 x1 x2 x3 g = some r → J p l e (RM 2 49) s m args below meth c D (cW q cI) A 4 Q g 34 [(0, .ref (q 40)), (1, .int x1), (2, .int x2), (3, .int x3)] [] := by
    intro kb34 hkb34 x1 x2 x3 g hM
    unfold B_X1_fewestPayments_34 at hM
    refine J.iload_n (pc := 34) C dX1_fewestPayments_34 rfl rfl ?_
    refine J.iload_n (pc := 35) C dX1_fewestPayments_35 rfl rfl ?_
    refine J.icmp_gt (pc := 36) C 51 dX1_fewestPayments_36 (by decide) (fun hc => ?_) (fun hc => ?_)
    · have hM := ite_t hc hM
      refine J.sub C [0, 1, 2] rfl ?_
      exact jb51 _ _ _ hM
    · have hM := ite_f hc hM
      refine J.aload_n (pc := 39) C dX1_fewestPayments_39 rfl rfl ?_
      refine J.iload_n (pc := 40) C dX1_fewestPayments_40 rfl rfl ?_
      refine J.iload_n (pc := 41) C dX1_fewestPayments_41 rfl rfl ?_
      obtain ⟨_, h1, hM⟩ := bV_ex hM
      refine J.callV2v (pc := 42) C (C_X1_joinUp h1) lk_X1_joinUp tm_X1_69 (io_40 q cI) ⟨Nat.le_of_ble_eq_true rfl, Nat.le_of_ble_eq_true rfl⟩ (Nat.le_of_ble_eq_true rfl) dX1_fewestPayments_42 ?_
      refine J.iinc (pc := 45) C 1 dX1_fewestPayments_45 ic_1 rfl (by decide) ?_
      refine J.goto (pc := 48) C 34 dX1_fewestPayments_48 (by decide) ?_
      refine J.sub C [0, 1, 2, 3] rfl ?_
      exact hkb34 _ _ _ _ hM
  have jl34 : ∀ (x1 x2 x3 : Int32) (g : Sg), lup3 (B_X1_fewestPayments_34) FU x1 x2 x3 g = some r → J p l e (RM 2 49) s m args below meth c D (cW q cI) A 4 Q g 34 [(0, .ref (q 40)), (1, .int x1), (2, .int x2), (3, .int x3)] [] := 
    lup3_ok (P := fun x1 x2 x3 g => J p l e (RM 2 49) s m args below meth c D (cW q cI) A 4 Q g 34 [(0, .ref (q 40)), (1, .int x1), (2, .int x2), (3, .int x3)] []) (fun self hself => jb34 self hself) FU
  have hM := h
  unfold M_X1_fewestPayments at hM
  refine J.iload_n (pc := 0) C dX1_fewestPayments_0 rfl rfl ?_
  refine J.bipush (pc := 1) C 7 dX1_fewestPayments_1 bp_7 ?_
  refine J.icmp_le (pc := 3) C 8 dX1_fewestPayments_3 (by decide) (fun hc => ?_) (fun hc => ?_)
  · have hM := ite_t hc hM
    refine J.aload_n (pc := 8) C dX1_fewestPayments_8 rfl rfl ?_
    refine gf_X1_40_1 (pc := 9) C tf_X1_15 dX1_fewestPayments_9 ?_
    refine J.iconst (pc := 12) C 0 dX1_fewestPayments_12 ic_0 ?_
    refine J.iconst (pc := 13) C 0 dX1_fewestPayments_13 ic_0 ?_
    refine J.callS3v (pc := 14) C (K_X4_put (ia_42 q cI) _ _ _) lk_X4_put tm_X1_21 ⟨Nat.le_of_ble_eq_true rfl, Nat.le_of_ble_eq_true rfl⟩ (Nat.le_of_ble_eq_true rfl) dX1_fewestPayments_14 ?_
    obtain ⟨_, ea, hM⟩ := lt_ex hM
    refine J.cong C ea ?_
    refine J.aload_n (pc := 17) C dX1_fewestPayments_17 rfl rfl ?_
    refine gf_X1_40_2 (pc := 18) C tf_X1_18 dX1_fewestPayments_18 ?_
    refine J.iconst (pc := 21) C 0 dX1_fewestPayments_21 ic_0 ?_
    refine J.iconst (pc := 22) C 0 dX1_fewestPayments_22 ic_0 ?_
    refine J.callS3v (pc := 23) C (K_X4_put (ia_43 q cI) _ _ _) lk_X4_put tm_X1_21 ⟨Nat.le_of_ble_eq_true rfl, Nat.le_of_ble_eq_true rfl⟩ (Nat.le_of_ble_eq_true rfl) dX1_fewestPayments_23 ?_
    obtain ⟨_, ea, hM⟩ := lt_ex hM
    refine J.cong C ea ?_
    refine J.iconst (pc := 26) C 1 dX1_fewestPayments_26 ic_1 ?_
    refine J.iload_n (pc := 27) C dX1_fewestPayments_27 rfl rfl ?_
    refine J.ishl (pc := 28) C dX1_fewestPayments_28 ?_
    refine J.iconst (pc := 29) C 1 dX1_fewestPayments_29 ic_1 ?_
    refine J.isub (pc := 30) C dX1_fewestPayments_30 ?_
    refine J.istore_n (pc := 31) C dX1_fewestPayments_31 rfl (by decide) ?_
    refine J.iconst (pc := 32) C 1 dX1_fewestPayments_32 ic_1 ?_
    refine J.istore_n (pc := 33) C dX1_fewestPayments_33 rfl (by decide) ?_
    refine J.sub C [0, 1, 2, 3] rfl ?_
    exact jl34 _ _ _ _ hM
  · have hM := ite_f hc hM
    refine J.iconst (pc := 6) C 0 dX1_fewestPayments_6 ic_0 ?_
    exact hret dX1_fewestPayments_7 hM rfl
