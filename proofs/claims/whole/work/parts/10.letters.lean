def M_X2_add (x1 : Int32) (g : Sg) : Option Sg := lt (rput g 25 96 (g.1 24) x1) (fun g_1 => lt (sI g_1 24 ((g_1.1 24) + 1)) (fun g_2 => some g_2))
set_option maxRecDepth 100000 in
set_option maxHeartbeats 4000000 in
theorem C_X2_add {l : Launch} {D : va_G} {q : Nat → Nat} {cI : ClassId} {z : Nat} {x1 : Int32} {g : Sg} {r : Sg} (h : M_X2_add x1 g = some r) : CTv l (EC z) D cI (cW q cI) yX2_add cX2_add 2 1 22 [.ref (q 24), .int x1] g r := by
  refine CTv.of2 (by decide) (EC_ok z) (Nat.le_of_ble_eq_true rfl) rfl (fun p e s m args below meth c A Q C hret => ?_)
  have hM := h
  unfold M_X2_add at hM
  refine J.aload_n (pc := 0) C dX2_add_0 rfl rfl ?_
  refine gf_X2_24_0 (pc := 1) C tf_X2_9 dX2_add_1 ?_
  refine J.aload_n (pc := 4) C dX2_add_4 rfl rfl ?_
  refine gf_X2_24_1 (pc := 5) C tf_X2_15 dX2_add_5 ?_
  refine J.iload_n (pc := 8) C dX2_add_8 rfl rfl ?_
  refine J.callS3v (pc := 9) C (K_X4_put (ia_25 q cI) _ _ _) lk_X4_put tm_X2_19 ⟨Nat.le_of_ble_eq_true rfl, Nat.le_of_ble_eq_true rfl⟩ (Nat.le_of_ble_eq_true rfl) dX2_add_9 ?_
  obtain ⟨_, ea, hM⟩ := lt_ex hM
  refine J.cong C ea ?_
  refine J.aload_n (pc := 12) C dX2_add_12 rfl rfl ?_
  refine J.dup (pc := 13) C dX2_add_13 rfl ?_
  refine gf_X2_24_1 (pc := 14) C tf_X2_15 dX2_add_14 ?_
  refine J.iconst (pc := 17) C 1 dX2_add_17 ic_1 ?_
  refine J.iadd (pc := 18) C dX2_add_18 ?_
  refine pf_X2_24_1 (pc := 19) C tf_X2_15 dX2_add_19 ?_
  obtain ⟨_, ea, hM⟩ := lt_ex hM
  refine J.cong C ea ?_
  exact hret dX2_add_22 hM
def U_X2_add (x1 : Int32) (g : Sg) : Sg := let g_1 := (rput g 25 96 (g.1 24) x1); let g_2 := (sI g_1 24 ((g_1.1 24) + 1)); g_2
theorem E_X2_add (x1 : Int32) (g : Sg) : M_X2_add x1 g = some (U_X2_add x1 g) := by
  unfold M_X2_add U_X2_add
  first | rfl | ((try dsimp only [lt]); (repeat' split) <;> rfl)
theorem K_X2_add {l : Launch} {D : va_G} {q : Nat → Nat} {cI : ClassId} {z : Nat} (x1 : Int32) (g : Sg) : CTv l (EC z) D cI (cW q cI) yX2_add cX2_add 2 1 22 [.ref (q 24), .int x1] g (U_X2_add x1 g) := C_X2_add (E_X2_add x1 g)
def M_X2_digitsOf (x0 : Int32) (g : Sg) : Option (Int32 × Sg) := (if x0 = 100 then some (1, g) else if x0 = 103 then some (7, g) else if x0 = 104 then some (3, g) else if x0 = 111 then some (3, g) else if x0 = 112 then some (2, g) else if x0 = 120 then some (2, g) else some ((-1), g))
set_option maxRecDepth 100000 in
set_option maxHeartbeats 4000000 in
theorem C_X2_digitsOf {l : Launch} {D : va_G} {q : Nat → Nat} {cI : ClassId} {z : Nat} {x0 : Int32} {g : Sg} {r : Int32 × Sg} (h : M_X2_digitsOf x0 g = some r) : CTi l (EC z) D cI (cW q cI) yX2_digitsOf cX2_digitsOf 1 (some .int) 0 0 [.int x0] g r := by
  refine CTi.of2 (by decide) (EC_ok z) (Nat.le_of_ble_eq_true rfl) rfl (fun p e s m args below meth c A Q C hret => ?_)
  have hM := h
  unfold M_X2_digitsOf at hM
  refine J.iload_n (pc := 0) C dX2_digitsOf_0 rfl rfl ?_
  refine J.case (pc := 1) C 100 (fun hs0 => ?_) (fun hs0 => ?_)
  · have hM := ite_t hs0 hM
    refine J.look (pc := 1) (off := 66) C 67 dX2_digitsOf_1 rfl (by rw [hs0]; first | done | rfl) (by decide) ?_
    refine J.iconst (pc := 67) C 1 dX2_digitsOf_67 ic_1 ?_
    exact hret dX2_digitsOf_68 hM rfl
  · have hM := ite_f hs0 hM
    refine J.case (pc := 1) C 103 (fun hs1 => ?_) (fun hs1 => ?_)
    · have hM := ite_t hs1 hM
      refine J.look (pc := 1) (off := 59) C 60 dX2_digitsOf_1 rfl (by rw [hs1]; first | done | rfl) (by decide) ?_
      refine J.bipush (pc := 60) C 7 dX2_digitsOf_60 bp_7 ?_
      exact hret dX2_digitsOf_62 hM rfl
    · have hM := ite_f hs1 hM
      refine J.case (pc := 1) C 104 (fun hs2 => ?_) (fun hs2 => ?_)
      · have hM := ite_t hs2 hM
        refine J.look (pc := 1) (off := 70) C 71 dX2_digitsOf_1 rfl (by rw [hs2]; first | done | rfl) (by decide) ?_
        refine J.iconst (pc := 71) C 3 dX2_digitsOf_71 ic_3 ?_
        exact hret dX2_digitsOf_72 hM rfl
      · have hM := ite_f hs2 hM
        refine J.case (pc := 1) C 111 (fun hs3 => ?_) (fun hs3 => ?_)
        · have hM := ite_t hs3 hM
          refine J.look (pc := 1) (off := 64) C 65 dX2_digitsOf_1 rfl (by rw [hs3]; first | done | rfl) (by decide) ?_
          refine J.iconst (pc := 65) C 3 dX2_digitsOf_65 ic_3 ?_
          exact hret dX2_digitsOf_66 hM rfl
        · have hM := ite_f hs3 hM
          refine J.case (pc := 1) C 112 (fun hs4 => ?_) (fun hs4 => ?_)
          · have hM := ite_t hs4 hM
            refine J.look (pc := 1) (off := 62) C 63 dX2_digitsOf_1 rfl (by rw [hs4]; first | done | rfl) (by decide) ?_
            refine J.iconst (pc := 63) C 2 dX2_digitsOf_63 ic_2 ?_
            exact hret dX2_digitsOf_64 hM rfl
          · have hM := ite_f hs4 hM
            refine J.case (pc := 1) C 120 (fun hs5 => ?_) (fun hs5 => ?_)
            · have hM := ite_t hs5 hM
              refine J.look (pc := 1) (off := 68) C 69 dX2_digitsOf_1 rfl (by rw [hs5]; first | done | rfl) (by decide) ?_
              refine J.iconst (pc := 69) C 2 dX2_digitsOf_69 ic_2 ?_
              exact hret dX2_digitsOf_70 hM rfl
            · have hM := ite_f hs5 hM
              refine J.look (pc := 1) (off := 72) C 73 dX2_digitsOf_1 rfl (by have c0 := i_ne 100 rfl hs0; have c1 := i_ne 103 rfl hs1; have c2 := i_ne 104 rfl hs2; have c3 := i_ne 111 rfl hs3; have c4 := i_ne 112 rfl hs4; have c5 := i_ne 120 rfl hs5; exact (if_neg (Ne.symm c0)).trans ((if_neg (Ne.symm c1)).trans ((if_neg (Ne.symm c2)).trans ((if_neg (Ne.symm c3)).trans ((if_neg (Ne.symm c4)).trans ((if_neg (Ne.symm c5)).trans (rfl))))))) (by decide) ?_
              refine J.iconst (pc := 73) C (-1) dX2_digitsOf_73 ic_m1 ?_
              exact hret dX2_digitsOf_74 hM rfl
def V_X2_digitsOf (x0 : Int32) (g : Sg) : Int32 := (if x0 = 100 then 1 else if x0 = 103 then 7 else if x0 = 104 then 3 else if x0 = 111 then 3 else if x0 = 112 then 2 else if x0 = 120 then 2 else (-1))
theorem E_X2_digitsOf (x0 : Int32) (g : Sg) : M_X2_digitsOf x0 g = some (V_X2_digitsOf x0 g, g) := by
  unfold M_X2_digitsOf V_X2_digitsOf
  first | rfl | ((try dsimp only [lt]); (repeat' split) <;> rfl)
theorem K_X2_digitsOf {l : Launch} {D : va_G} {q : Nat → Nat} {cI : ClassId} {z : Nat} (x0 : Int32) (g : Sg) : CTi l (EC z) D cI (cW q cI) yX2_digitsOf cX2_digitsOf 1 (some .int) 0 0 [.int x0] g (V_X2_digitsOf x0 g, g) := C_X2_digitsOf (E_X2_digitsOf x0 g)
def M_X2_lengthOf (x0 : Int32) (g : Sg) : Option (Int32 × Sg) := (if x0 = 103 then some ((V_X2_digitsOf x0 g) + 3, g) else some ((V_X2_digitsOf x0 g) + 2, g))
set_option maxRecDepth 100000 in
set_option maxHeartbeats 4000000 in
theorem C_X2_lengthOf {l : Launch} {D : va_G} {q : Nat → Nat} {cI : ClassId} {z : Nat} {x0 : Int32} {g : Sg} {r : Int32 × Sg} (h : M_X2_lengthOf x0 g = some r) : CTi l (EC z) D cI (cW q cI) yX2_lengthOf cX2_lengthOf 2 (some .int) 1 20 [.int x0] g r := by
  refine CTi.of2 (by decide) (EC_ok z) (Nat.le_of_ble_eq_true rfl) rfl (fun p e s m args below meth c A Q C hret => ?_)
  have hM := h
  unfold M_X2_lengthOf at hM
  refine J.iload_n (pc := 0) C dX2_lengthOf_0 rfl rfl ?_
  refine J.bipush (pc := 1) C 103 dX2_lengthOf_1 bp_103 ?_
  refine J.icmp_ne (pc := 3) C 10 dX2_lengthOf_3 (by decide) (fun hc => ?_) (fun hc => ?_)
  · have hM := ite_f hc hM
    refine J.iconst (pc := 10) C 2 dX2_lengthOf_10 ic_2 ?_
    refine J.istore_n (pc := 11) C dX2_lengthOf_11 rfl (by decide) ?_
    refine J.iload_n (pc := 12) C dX2_lengthOf_12 rfl rfl ?_
    refine J.callS1i (pc := 13) C (K_X2_digitsOf _ _) lk_X2_digitsOf tm_X2_41 ⟨Nat.le_of_ble_eq_true rfl, Nat.le_of_ble_eq_true rfl⟩ (Nat.le_of_ble_eq_true rfl) dX2_lengthOf_13 ?_
    refine J.iload_n (pc := 16) C dX2_lengthOf_16 rfl rfl ?_
    refine J.iadd (pc := 17) C dX2_lengthOf_17 ?_
    exact hret dX2_lengthOf_18 hM rfl
  · have hM := ite_t hc hM
    refine J.iconst (pc := 6) C 3 dX2_lengthOf_6 ic_3 ?_
    refine J.goto (pc := 7) C 11 dX2_lengthOf_7 (by decide) ?_
    refine J.istore_n (pc := 11) C dX2_lengthOf_11 rfl (by decide) ?_
    refine J.iload_n (pc := 12) C dX2_lengthOf_12 rfl rfl ?_
    refine J.callS1i (pc := 13) C (K_X2_digitsOf _ _) lk_X2_digitsOf tm_X2_41 ⟨Nat.le_of_ble_eq_true rfl, Nat.le_of_ble_eq_true rfl⟩ (Nat.le_of_ble_eq_true rfl) dX2_lengthOf_13 ?_
    refine J.iload_n (pc := 16) C dX2_lengthOf_16 rfl rfl ?_
    refine J.iadd (pc := 17) C dX2_lengthOf_17 ?_
    exact hret dX2_lengthOf_18 hM rfl
def V_X2_lengthOf (x0 : Int32) (g : Sg) : Int32 := (if x0 = 103 then (V_X2_digitsOf x0 g) + 3 else (V_X2_digitsOf x0 g) + 2)
theorem E_X2_lengthOf (x0 : Int32) (g : Sg) : M_X2_lengthOf x0 g = some (V_X2_lengthOf x0 g, g) := by
  unfold M_X2_lengthOf V_X2_lengthOf
  first | rfl | ((try dsimp only [lt]); (repeat' split) <;> rfl)
theorem K_X2_lengthOf {l : Launch} {D : va_G} {q : Nat → Nat} {cI : ClassId} {z : Nat} (x0 : Int32) (g : Sg) : CTi l (EC z) D cI (cW q cI) yX2_lengthOf cX2_lengthOf 2 (some .int) 1 20 [.int x0] g (V_X2_lengthOf x0 g, g) := C_X2_lengthOf (E_X2_lengthOf x0 g)
def M_X2_kindOf (x0 : Int32) (g : Sg) : Option (Int32 × Sg) := (if x0 = 99 then some (3, g) else if x0 = 100 then some (1, g) else if x0 = 103 then some (0, g) else if x0 = 108 then some (5, g) else if x0 = 109 then some (2, g) else if x0 = 116 then some (4, g) else some ((-1), g))
set_option maxRecDepth 100000 in
set_option maxHeartbeats 4000000 in
theorem C_X2_kindOf {l : Launch} {D : va_G} {q : Nat → Nat} {cI : ClassId} {z : Nat} {x0 : Int32} {g : Sg} {r : Int32 × Sg} (h : M_X2_kindOf x0 g = some r) : CTi l (EC z) D cI (cW q cI) yX2_kindOf cX2_kindOf 1 (some .int) 0 0 [.int x0] g r := by
  refine CTi.of2 (by decide) (EC_ok z) (Nat.le_of_ble_eq_true rfl) rfl (fun p e s m args below meth c A Q C hret => ?_)
  have hM := h
  unfold M_X2_kindOf at hM
  refine J.iload_n (pc := 0) C dX2_kindOf_0 rfl rfl ?_
  refine J.case (pc := 1) C 99 (fun hs0 => ?_) (fun hs0 => ?_)
  · have hM := ite_t hs0 hM
    refine J.tabIn (pc := 1) C 99 94 dX2_kindOf_1 hs0 (by decide) (by decide) rfl (by decide) ?_
    refine J.iconst (pc := 94) C 3 dX2_kindOf_94 ic_3 ?_
    exact hret dX2_kindOf_95 hM rfl
  · have hM := ite_f hs0 hM
    refine J.case (pc := 1) C 100 (fun hs1 => ?_) (fun hs1 => ?_)
    · have hM := ite_t hs1 hM
      refine J.tabIn (pc := 1) C 100 90 dX2_kindOf_1 hs1 (by decide) (by decide) rfl (by decide) ?_
      refine J.iconst (pc := 90) C 1 dX2_kindOf_90 ic_1 ?_
      exact hret dX2_kindOf_91 hM rfl
    · have hM := ite_f hs1 hM
      refine J.case (pc := 1) C 103 (fun hs2 => ?_) (fun hs2 => ?_)
      · have hM := ite_t hs2 hM
        refine J.tabIn (pc := 1) C 103 88 dX2_kindOf_1 hs2 (by decide) (by decide) rfl (by decide) ?_
        refine J.iconst (pc := 88) C 0 dX2_kindOf_88 ic_0 ?_
        exact hret dX2_kindOf_89 hM rfl
      · have hM := ite_f hs2 hM
        refine J.case (pc := 1) C 108 (fun hs3 => ?_) (fun hs3 => ?_)
        · have hM := ite_t hs3 hM
          refine J.tabIn (pc := 1) C 108 98 dX2_kindOf_1 hs3 (by decide) (by decide) rfl (by decide) ?_
          refine J.iconst (pc := 98) C 5 dX2_kindOf_98 ic_5 ?_
          exact hret dX2_kindOf_99 hM rfl
        · have hM := ite_f hs3 hM
          refine J.case (pc := 1) C 109 (fun hs4 => ?_) (fun hs4 => ?_)
          · have hM := ite_t hs4 hM
            refine J.tabIn (pc := 1) C 109 92 dX2_kindOf_1 hs4 (by decide) (by decide) rfl (by decide) ?_
            refine J.iconst (pc := 92) C 2 dX2_kindOf_92 ic_2 ?_
            exact hret dX2_kindOf_93 hM rfl
          · have hM := ite_f hs4 hM
            refine J.case (pc := 1) C 116 (fun hs5 => ?_) (fun hs5 => ?_)
            · have hM := ite_t hs5 hM
              refine J.tabIn (pc := 1) C 116 96 dX2_kindOf_1 hs5 (by decide) (by decide) rfl (by decide) ?_
              refine J.iconst (pc := 96) C 4 dX2_kindOf_96 ic_4 ?_
              exact hret dX2_kindOf_97 hM rfl
            · have hM := ite_f hs5 hM
              refine J.tabD (pc := 1) C 18 100 dX2_kindOf_1 rfl (fun k hk ek => by have c0 := i_ne 99 rfl hs0; have c1 := i_ne 100 rfl hs1; have c2 := i_ne 103 rfl hs2; have c3 := i_ne 108 rfl hs3; have c4 := i_ne 109 rfl hs4; have c5 := i_ne 116 rfl hs5; rcases (show k = 0 ∨ k = 1 ∨ k = 2 ∨ k = 3 ∨ k = 4 ∨ k = 5 ∨ k = 6 ∨ k = 7 ∨ k = 8 ∨ k = 9 ∨ k = 10 ∨ k = 11 ∨ k = 12 ∨ k = 13 ∨ k = 14 ∨ k = 15 ∨ k = 16 ∨ k = 17 by omega) with rfl | rfl | rfl | rfl | rfl | rfl | rfl | rfl | rfl | rfl | rfl | rfl | rfl | rfl | rfl | rfl | rfl | rfl <;> first | rfl | (exfalso; omega)) (by decide) (by decide) ?_
              refine J.iconst (pc := 100) C (-1) dX2_kindOf_100 ic_m1 ?_
              exact hret dX2_kindOf_101 hM rfl
def V_X2_kindOf (x0 : Int32) (g : Sg) : Int32 := (if x0 = 99 then 3 else if x0 = 100 then 1 else if x0 = 103 then 0 else if x0 = 108 then 5 else if x0 = 109 then 2 else if x0 = 116 then 4 else (-1))
theorem E_X2_kindOf (x0 : Int32) (g : Sg) : M_X2_kindOf x0 g = some (V_X2_kindOf x0 g, g) := by
  unfold M_X2_kindOf V_X2_kindOf
  first | rfl | ((try dsimp only [lt]); (repeat' split) <;> rfl)
theorem K_X2_kindOf {l : Launch} {D : va_G} {q : Nat → Nat} {cI : ClassId} {z : Nat} (x0 : Int32) (g : Sg) : CTi l (EC z) D cI (cW q cI) yX2_kindOf cX2_kindOf 1 (some .int) 0 0 [.int x0] g (V_X2_kindOf x0 g, g) := C_X2_kindOf (E_X2_kindOf x0 g)
def M_X2_isDigit (x0 : Int32) (g : Sg) : Option (Int32 × Sg) := (if x0 < 48 then some (0, g) else (if 57 < x0 then some (0, g) else some (1, g)))
set_option maxRecDepth 100000 in
set_option maxHeartbeats 4000000 in
theorem C_X2_isDigit {l : Launch} {D : va_G} {q : Nat → Nat} {cI : ClassId} {z : Nat} {x0 : Int32} {g : Sg} {r : Int32 × Sg} (h : M_X2_isDigit x0 g = some r) : CTi l (EC z) D cI (cW q cI) yX2_isDigit cX2_isDigit 1 (some .boolean) 0 0 [.int x0] g r := by
  refine CTi.of2 (by decide) (EC_ok z) (Nat.le_of_ble_eq_true rfl) rfl (fun p e s m args below meth c A Q C hret => ?_)
  have hM := h
  unfold M_X2_isDigit at hM
  refine J.iload_n (pc := 0) C dX2_isDigit_0 rfl rfl ?_
  refine J.bipush (pc := 1) C 48 dX2_isDigit_1 bp_48 ?_
  refine J.icmp_lt (pc := 3) C 16 dX2_isDigit_3 (by decide) (fun hc => ?_) (fun hc => ?_)
  · have hM := ite_t hc hM
    refine J.iconst (pc := 16) C 0 dX2_isDigit_16 ic_0 ?_
    exact hret dX2_isDigit_17 hM (by decide)
  · have hM := ite_f hc hM
    refine J.iload_n (pc := 6) C dX2_isDigit_6 rfl rfl ?_
    refine J.bipush (pc := 7) C 57 dX2_isDigit_7 bp_57 ?_
    refine J.icmp_gt (pc := 9) C 16 dX2_isDigit_9 (by decide) (fun hc => ?_) (fun hc => ?_)
    · have hM := ite_t hc hM
      refine J.iconst (pc := 16) C 0 dX2_isDigit_16 ic_0 ?_
      exact hret dX2_isDigit_17 hM (by decide)
    · have hM := ite_f hc hM
      refine J.iconst (pc := 12) C 1 dX2_isDigit_12 ic_1 ?_
      refine J.goto (pc := 13) C 17 dX2_isDigit_13 (by decide) ?_
      exact hret dX2_isDigit_17 hM (by decide)
def V_X2_isDigit (x0 : Int32) (g : Sg) : Int32 := (if x0 < 48 then 0 else (if 57 < x0 then 0 else 1))
theorem E_X2_isDigit (x0 : Int32) (g : Sg) : M_X2_isDigit x0 g = some (V_X2_isDigit x0 g, g) := by
  unfold M_X2_isDigit V_X2_isDigit
  first | rfl | ((try dsimp only [lt]); (repeat' split) <;> rfl)
theorem K_X2_isDigit {l : Launch} {D : va_G} {q : Nat → Nat} {cI : ClassId} {z : Nat} (x0 : Int32) (g : Sg) : CTi l (EC z) D cI (cW q cI) yX2_isDigit cX2_isDigit 1 (some .boolean) 0 0 [.int x0] g (V_X2_isDigit x0 g, g) := C_X2_isDigit (E_X2_isDigit x0 g)
def B_X2_firstOutOfPlace_126 (x1 : Int32) (g : Sg) : Option (Int32 × Sg) := (if (g.1 24) = 0 then some (g.1 24, g) else (if x1 ≤ 0 then some ((-1), g) else some (g.1 24, g)))
def B_X2_firstOutOfPlace_6 (kb6 : Int32 → Int32 → Int32 → Sg → Option (Int32 × Sg)) (x1 x2 x3 : Int32) (g : Sg) : Option (Int32 × Sg) := (if (g.1 24) ≤ x3 then B_X2_firstOutOfPlace_126 x1 g else lt (rat g 25 96 x3) (fun x4_1 => (if x1 = 0 then (if (V_X2_digitsOf x4_1 g) = (-1) then some (x3, g) else (if x4_1 = 103 then kb6 ((V_X2_digitsOf x4_1 g) + 1) 1 (x3 + 1) g else kb6 ((V_X2_digitsOf x4_1 g) + 1) 0 (x3 + 1) g)) else (if x2 = 0 then (if x1 ≤ 1 then (if x4_1 = 59 then kb6 (x1 + (-1)) x2 (x3 + 1) g else some (x3, g)) else (if (V_X2_isDigit x4_1 g) = 0 then some (x3, g) else kb6 (x1 + (-1)) x2 (x3 + 1) g)) else (if (V_X2_kindOf x4_1 g) = (-1) then some (x3, g) else kb6 x1 0 (x3 + 1) g)))))
def M_X2_firstOutOfPlace (g : Sg) : Option (Int32 × Sg) := lup3 (B_X2_firstOutOfPlace_6 ) FU 0 0 0 g
set_option maxRecDepth 100000 in
set_option maxHeartbeats 4000000 in
theorem C_X2_firstOutOfPlace {l : Launch} {D : va_G} {q : Nat → Nat} {cI : ClassId} {z : Nat} {g : Sg} {r : Int32 × Sg} (h : M_X2_firstOutOfPlace g = some r) : CTi l (EC z) D cI (cW q cI) yX2_firstOutOfPlace cX2_firstOutOfPlace 6 (some .int) 1 21 [.ref (q 24)] g r := by
  refine CTi.of2 (by decide) (EC_ok z) (Nat.le_of_ble_eq_true rfl) rfl (fun p e s m args below meth c A Q C hret => ?_)
  have jb126 : ∀ (x1 : Int32) (g : Sg), B_X2_firstOutOfPlace_126 x1 g = some r → J p l e (RM 1 21) s m args below meth c D (cW q cI) A 6 Q g 126 [(0, .ref (q 24)), (1, .int x1)] [] := by
    intro x1 g hM
    unfold B_X2_firstOutOfPlace_126 at hM
    refine J.aload_n (pc := 126) C dX2_firstOutOfPlace_126 rfl rfl ?_
    refine gf_X2_24_1 (pc := 127) C tf_X2_15 dX2_firstOutOfPlace_127 ?_
    refine J.if_eq (pc := 130) C 137 dX2_firstOutOfPlace_130 (by decide) (fun hc => ?_) (fun hc => ?_)
    · have hM := ite_t hc hM
      refine J.aload_n (pc := 137) C dX2_firstOutOfPlace_137 rfl rfl ?_
      refine gf_X2_24_1 (pc := 138) C tf_X2_15 dX2_firstOutOfPlace_138 ?_
      refine J.goto (pc := 141) C 145 dX2_firstOutOfPlace_141 (by decide) ?_
      exact hret dX2_firstOutOfPlace_145 hM rfl
    · have hM := ite_f hc hM
      refine J.iload_n (pc := 133) C dX2_firstOutOfPlace_133 rfl rfl ?_
      refine J.if_le (pc := 134) C 144 dX2_firstOutOfPlace_134 (by decide) (fun hc => ?_) (fun hc => ?_)
      · have hM := ite_t hc hM
        refine J.iconst (pc := 144) C (-1) dX2_firstOutOfPlace_144 ic_m1 ?_
        exact hret dX2_firstOutOfPlace_145 hM rfl
      · have hM := ite_f hc hM
        refine J.aload_n (pc := 137) C dX2_firstOutOfPlace_137 rfl rfl ?_
        refine gf_X2_24_1 (pc := 138) C tf_X2_15 dX2_firstOutOfPlace_138 ?_
        refine J.goto (pc := 141) C 145 dX2_firstOutOfPlace_141 (by decide) ?_
        exact hret dX2_firstOutOfPlace_145 hM rfl
  have jb6 : ∀ (kb6 : Int32 → Int32 → Int32 → Sg → Option (Int32 × Sg)) (hkb6 : ∀ (x1 x2 x3 : Int32) (g : Sg), kb6 x1 x2 x3 g = some r → J p l e (RM 1 21) s m args below meth c D (cW q cI) A 6 Q g 6 [(0, .ref (q 24)), (1, .int x1), (2, .int x2), (3, .int x3)] []) (x1 x2 x3 : Int32) (g : Sg), B_X2_firstOutOfPlace_6 kb6 x1 x2 x3 g = some r → J p l e (RM 1 21) s m args below meth c D (cW q cI) A 6 Q g 6 [(0, .ref (q 24)), (1, .int x1), (2, .int x2), (3, .int x3)] [] := by
    intro kb6 hkb6 x1 x2 x3 g hM
    unfold B_X2_firstOutOfPlace_6 at hM
    refine J.iload_n (pc := 6) C dX2_firstOutOfPlace_6 rfl rfl ?_
    refine J.aload_n (pc := 7) C dX2_firstOutOfPlace_7 rfl rfl ?_
    refine gf_X2_24_1 (pc := 8) C tf_X2_15 dX2_firstOutOfPlace_8 ?_
    refine J.icmp_ge (pc := 11) C 126 dX2_firstOutOfPlace_11 (by decide) (fun hc => ?_) (fun hc => ?_)
    · have hM := ite_t hc hM
      refine J.sub C [0, 1] rfl ?_
      exact jb126 _ _ hM
    · have hM := ite_f hc hM
      refine J.aload_n (pc := 14) C dX2_firstOutOfPlace_14 rfl rfl ?_
      refine gf_X2_24_0 (pc := 15) C tf_X2_9 dX2_firstOutOfPlace_15 ?_
      refine J.iload_n (pc := 18) C dX2_firstOutOfPlace_18 rfl rfl ?_
      refine J.callS2i (pc := 19) C (K_X4_at (ia_25 q cI) _ _) lk_X4_at tm_X2_33 ⟨Nat.le_of_ble_eq_true rfl, Nat.le_of_ble_eq_true rfl⟩ (Nat.le_of_ble_eq_true rfl) dX2_firstOutOfPlace_19 ?_
      obtain ⟨_, ea, hM⟩ := lt_ex hM
      refine J.istoreV (pc := 22) C dX2_firstOutOfPlace_22 (by decide) ea ?_
      refine J.iload_n (pc := 24) C dX2_firstOutOfPlace_24 rfl rfl ?_
      refine J.if_ne (pc := 25) C 63 dX2_firstOutOfPlace_25 (by decide) (fun hc => ?_) (fun hc => ?_)
      · have hM := ite_f hc hM
        refine J.iload_n (pc := 63) C dX2_firstOutOfPlace_63 rfl rfl ?_
        refine J.if_eq (pc := 64) C 83 dX2_firstOutOfPlace_64 (by decide) (fun hc => ?_) (fun hc => ?_)
        · have hM := ite_t hc hM
          refine J.iload_n (pc := 83) C dX2_firstOutOfPlace_83 rfl rfl ?_
          refine J.iconst (pc := 84) C 1 dX2_firstOutOfPlace_84 ic_1 ?_
          refine J.icmp_le (pc := 85) C 96 dX2_firstOutOfPlace_85 (by decide) (fun hc => ?_) (fun hc => ?_)
          · have hM := ite_t hc hM
            refine J.iload (pc := 96) C dX2_firstOutOfPlace_96 rfl ?_
            refine J.bipush (pc := 98) C 59 dX2_firstOutOfPlace_98 bp_59 ?_
            refine J.icmp_ne (pc := 100) C 107 dX2_firstOutOfPlace_100 (by decide) (fun hc => ?_) (fun hc => ?_)
            · have hM := ite_f hc hM
              refine J.iconst (pc := 107) C 0 dX2_firstOutOfPlace_107 ic_0 ?_
              refine J.istore (pc := 108) C dX2_firstOutOfPlace_108 (by decide) ?_
              refine J.iload (pc := 110) C dX2_firstOutOfPlace_110 rfl ?_
              refine J.if_ne (pc := 112) C 117 dX2_firstOutOfPlace_112 (by decide) (fun hc => ?_) (fun hc => ?_)
              · exact absurd hc (by decide)
              · refine J.iload_n (pc := 115) C dX2_firstOutOfPlace_115 rfl rfl ?_
                exact hret dX2_firstOutOfPlace_116 hM rfl
            · have hM := ite_t hc hM
              refine J.iconst (pc := 103) C 1 dX2_firstOutOfPlace_103 ic_1 ?_
              refine J.goto (pc := 104) C 108 dX2_firstOutOfPlace_104 (by decide) ?_
              refine J.istore (pc := 108) C dX2_firstOutOfPlace_108 (by decide) ?_
              refine J.iload (pc := 110) C dX2_firstOutOfPlace_110 rfl ?_
              refine J.if_ne (pc := 112) C 117 dX2_firstOutOfPlace_112 (by decide) (fun hc => ?_) (fun hc => ?_)
              · refine J.iinc (pc := 117) C (-1) dX2_firstOutOfPlace_117 ic_m1 rfl (by decide) ?_
                refine J.iinc (pc := 120) C 1 dX2_firstOutOfPlace_120 ic_1 rfl (by decide) ?_
                refine J.goto (pc := 123) C 6 dX2_firstOutOfPlace_123 (by decide) ?_
                refine J.sub C [0, 1, 2, 3] rfl ?_
                exact hkb6 _ _ _ _ hM
              · exact absurd hc (by decide)
          · have hM := ite_f hc hM
            refine J.iload (pc := 88) C dX2_firstOutOfPlace_88 rfl ?_
            refine J.callS1i (pc := 90) C (K_X2_isDigit _ _) lk_X2_isDigit tm_X2_49 ⟨Nat.le_of_ble_eq_true rfl, Nat.le_of_ble_eq_true rfl⟩ (Nat.le_of_ble_eq_true rfl) dX2_firstOutOfPlace_90 ?_
            refine J.goto (pc := 93) C 108 dX2_firstOutOfPlace_93 (by decide) ?_
            refine J.istore (pc := 108) C dX2_firstOutOfPlace_108 (by decide) ?_
            refine J.iload (pc := 110) C dX2_firstOutOfPlace_110 rfl ?_
            refine J.if_ne (pc := 112) C 117 dX2_firstOutOfPlace_112 (by decide) (fun hc => ?_) (fun hc => ?_)
            · have hM := ite_f hc hM
              refine J.iinc (pc := 117) C (-1) dX2_firstOutOfPlace_117 ic_m1 rfl (by decide) ?_
              refine J.iinc (pc := 120) C 1 dX2_firstOutOfPlace_120 ic_1 rfl (by decide) ?_
              refine J.goto (pc := 123) C 6 dX2_firstOutOfPlace_123 (by decide) ?_
              refine J.sub C [0, 1, 2, 3] rfl ?_
              exact hkb6 _ _ _ _ hM
            · have hM := ite_t hc hM
              refine J.iload_n (pc := 115) C dX2_firstOutOfPlace_115 rfl rfl ?_
              exact hret dX2_firstOutOfPlace_116 hM rfl
        · have hM := ite_f hc hM
          refine J.iload (pc := 67) C dX2_firstOutOfPlace_67 rfl ?_
          refine J.callS1i (pc := 69) C (K_X2_kindOf _ _) lk_X2_kindOf tm_X2_44 ⟨Nat.le_of_ble_eq_true rfl, Nat.le_of_ble_eq_true rfl⟩ (Nat.le_of_ble_eq_true rfl) dX2_firstOutOfPlace_69 ?_
          refine J.iconst (pc := 72) C (-1) dX2_firstOutOfPlace_72 ic_m1 ?_
          refine J.icmp_ne (pc := 73) C 78 dX2_firstOutOfPlace_73 (by decide) (fun hc => ?_) (fun hc => ?_)
          · have hM := ite_f hc hM
            refine J.iconst (pc := 78) C 0 dX2_firstOutOfPlace_78 ic_0 ?_
            refine J.istore_n (pc := 79) C dX2_firstOutOfPlace_79 rfl (by decide) ?_
            refine J.goto (pc := 80) C 120 dX2_firstOutOfPlace_80 (by decide) ?_
            refine J.iinc (pc := 120) C 1 dX2_firstOutOfPlace_120 ic_1 rfl (by decide) ?_
            refine J.goto (pc := 123) C 6 dX2_firstOutOfPlace_123 (by decide) ?_
            refine J.sub C [0, 1, 2, 3] rfl ?_
            exact hkb6 _ _ _ _ hM
          · have hM := ite_t hc hM
            refine J.iload_n (pc := 76) C dX2_firstOutOfPlace_76 rfl rfl ?_
            exact hret dX2_firstOutOfPlace_77 hM rfl
      · have hM := ite_t hc hM
        refine J.iload (pc := 28) C dX2_firstOutOfPlace_28 rfl ?_
        refine J.callS1i (pc := 30) C (K_X2_digitsOf _ _) lk_X2_digitsOf tm_X2_41 ⟨Nat.le_of_ble_eq_true rfl, Nat.le_of_ble_eq_true rfl⟩ (Nat.le_of_ble_eq_true rfl) dX2_firstOutOfPlace_30 ?_
        refine J.iconst (pc := 33) C (-1) dX2_firstOutOfPlace_33 ic_m1 ?_
        refine J.icmp_ne (pc := 34) C 39 dX2_firstOutOfPlace_34 (by decide) (fun hc => ?_) (fun hc => ?_)
        · have hM := ite_f hc hM
          refine J.iload (pc := 39) C dX2_firstOutOfPlace_39 rfl ?_
          refine J.callS1i (pc := 41) C (K_X2_digitsOf _ _) lk_X2_digitsOf tm_X2_41 ⟨Nat.le_of_ble_eq_true rfl, Nat.le_of_ble_eq_true rfl⟩ (Nat.le_of_ble_eq_true rfl) dX2_firstOutOfPlace_41 ?_
          refine J.iconst (pc := 44) C 1 dX2_firstOutOfPlace_44 ic_1 ?_
          refine J.iadd (pc := 45) C dX2_firstOutOfPlace_45 ?_
          refine J.istore_n (pc := 46) C dX2_firstOutOfPlace_46 rfl (by decide) ?_
          refine J.iload (pc := 47) C dX2_firstOutOfPlace_47 rfl ?_
          refine J.bipush (pc := 49) C 103 dX2_firstOutOfPlace_49 bp_103 ?_
          refine J.icmp_ne (pc := 51) C 58 dX2_firstOutOfPlace_51 (by decide) (fun hc => ?_) (fun hc => ?_)
          · have hM := ite_f hc hM
            refine J.iconst (pc := 58) C 0 dX2_firstOutOfPlace_58 ic_0 ?_
            refine J.istore_n (pc := 59) C dX2_firstOutOfPlace_59 rfl (by decide) ?_
            refine J.goto (pc := 60) C 120 dX2_firstOutOfPlace_60 (by decide) ?_
            refine J.iinc (pc := 120) C 1 dX2_firstOutOfPlace_120 ic_1 rfl (by decide) ?_
            refine J.goto (pc := 123) C 6 dX2_firstOutOfPlace_123 (by decide) ?_
            refine J.sub C [0, 1, 2, 3] rfl ?_
            exact hkb6 _ _ _ _ hM
          · have hM := ite_t hc hM
            refine J.iconst (pc := 54) C 1 dX2_firstOutOfPlace_54 ic_1 ?_
            refine J.goto (pc := 55) C 59 dX2_firstOutOfPlace_55 (by decide) ?_
            refine J.istore_n (pc := 59) C dX2_firstOutOfPlace_59 rfl (by decide) ?_
            refine J.goto (pc := 60) C 120 dX2_firstOutOfPlace_60 (by decide) ?_
            refine J.iinc (pc := 120) C 1 dX2_firstOutOfPlace_120 ic_1 rfl (by decide) ?_
            refine J.goto (pc := 123) C 6 dX2_firstOutOfPlace_123 (by decide) ?_
            refine J.sub C [0, 1, 2, 3] rfl ?_
            exact hkb6 _ _ _ _ hM
        · have hM := ite_t hc hM
          refine J.iload_n (pc := 37) C dX2_firstOutOfPlace_37 rfl rfl ?_
          exact hret dX2_firstOutOfPlace_38 hM rfl
  have jl6 : ∀ (x1 x2 x3 : Int32) (g : Sg), lup3 (B_X2_firstOutOfPlace_6) FU x1 x2 x3 g = some r → J p l e (RM 1 21) s m args below meth c D (cW q cI) A 6 Q g 6 [(0, .ref (q 24)), (1, .int x1), (2, .int x2), (3, .int x3)] [] := 
    lup3_ok (P := fun x1 x2 x3 g => J p l e (RM 1 21) s m args below meth c D (cW q cI) A 6 Q g 6 [(0, .ref (q 24)), (1, .int x1), (2, .int x2), (3, .int x3)] []) (fun self hself => jb6 self hself) FU
  have hM := h
  unfold M_X2_firstOutOfPlace at hM
  refine J.iconst (pc := 0) C 0 dX2_firstOutOfPlace_0 ic_0 ?_
  refine J.istore_n (pc := 1) C dX2_firstOutOfPlace_1 rfl (by decide) ?_
  refine J.iconst (pc := 2) C 0 dX2_firstOutOfPlace_2 ic_0 ?_
  refine J.istore_n (pc := 3) C dX2_firstOutOfPlace_3 rfl (by decide) ?_
  refine J.iconst (pc := 4) C 0 dX2_firstOutOfPlace_4 ic_0 ?_
  refine J.istore_n (pc := 5) C dX2_firstOutOfPlace_5 rfl (by decide) ?_
  refine J.sub C [0, 1, 2, 3] rfl ?_
  exact jl6 _ _ _ _ hM
def B_X2_number_5 (kb5 : Int32 → Int32 → Int32 → Int32 → Sg → Option (Int32 × Sg)) (x1 x2 x3 x4 : Int32) (g : Sg) : Option (Int32 × Sg) := (if (x1 + x2) ≤ x4 then some (x3, g) else lt (((x3 * 10) + (rat g 25 96 x4)) - 48) (fun x3_1 => kb5 x1 x2 x3_1 (x4 + 1) g))
def M_X2_number (x1 x2 : Int32) (g : Sg) : Option (Int32 × Sg) := lup4 (B_X2_number_5 ) FU x1 x2 0 x1 g
set_option maxRecDepth 100000 in
set_option maxHeartbeats 4000000 in
theorem C_X2_number {l : Launch} {D : va_G} {q : Nat → Nat} {cI : ClassId} {z : Nat} {x1 x2 : Int32} {g : Sg} {r : Int32 × Sg} (h : M_X2_number x1 x2 g = some r) : CTi l (EC z) D cI (cW q cI) yX2_number cX2_number 5 (some .int) 1 21 [.ref (q 24), .int x1, .int x2] g r := by
  refine CTi.of2 (by decide) (EC_ok z) (Nat.le_of_ble_eq_true rfl) rfl (fun p e s m args below meth c A Q C hret => ?_)
  have jb5 : ∀ (kb5 : Int32 → Int32 → Int32 → Int32 → Sg → Option (Int32 × Sg)) (hkb5 : ∀ (x1 x2 x3 x4 : Int32) (g : Sg), kb5 x1 x2 x3 x4 g = some r → J p l e (RM 1 21) s m args below meth c D (cW q cI) A 5 Q g 5 [(0, .ref (q 24)), (1, .int x1), (2, .int x2), (3, .int x3), (4, .int x4)] []) (x1 x2 x3 x4 : Int32) (g : Sg), B_X2_number_5 kb5 x1 x2 x3 x4 g = some r → J p l e (RM 1 21) s m args below meth c D (cW q cI) A 5 Q g 5 [(0, .ref (q 24)), (1, .int x1), (2, .int x2), (3, .int x3), (4, .int x4)] [] := by
    intro kb5 hkb5 x1 x2 x3 x4 g hM
    unfold B_X2_number_5 at hM
    refine J.iload (pc := 5) C dX2_number_5 rfl ?_
    refine J.iload_n (pc := 7) C dX2_number_7 rfl rfl ?_
    refine J.iload_n (pc := 8) C dX2_number_8 rfl rfl ?_
    refine J.iadd (pc := 9) C dX2_number_9 ?_
    refine J.icmp_ge (pc := 10) C 37 dX2_number_10 (by decide) (fun hc => ?_) (fun hc => ?_)
    · have hM := ite_t hc hM
      refine J.iload_n (pc := 37) C dX2_number_37 rfl rfl ?_
      exact hret dX2_number_38 hM rfl
    · have hM := ite_f hc hM
      refine J.iload_n (pc := 13) C dX2_number_13 rfl rfl ?_
      refine J.bipush (pc := 14) C 10 dX2_number_14 bp_10 ?_
      refine J.imul (pc := 16) C dX2_number_16 ?_
      refine J.aload_n (pc := 17) C dX2_number_17 rfl rfl ?_
      refine gf_X2_24_0 (pc := 18) C tf_X2_9 dX2_number_18 ?_
      refine J.iload (pc := 21) C dX2_number_21 rfl ?_
      refine J.callS2i (pc := 23) C (K_X4_at (ia_25 q cI) _ _) lk_X4_at tm_X2_33 ⟨Nat.le_of_ble_eq_true rfl, Nat.le_of_ble_eq_true rfl⟩ (Nat.le_of_ble_eq_true rfl) dX2_number_23 ?_
      refine J.iadd (pc := 26) C dX2_number_26 ?_
      refine J.bipush (pc := 27) C 48 dX2_number_27 bp_48 ?_
      refine J.isub (pc := 29) C dX2_number_29 ?_
      obtain ⟨_, ea, hM⟩ := lt_ex hM
      refine J.istore_nV (pc := 30) C dX2_number_30 rfl (by decide) ea ?_
      refine J.iinc (pc := 31) C 1 dX2_number_31 ic_1 rfl (by decide) ?_
      refine J.goto (pc := 34) C 5 dX2_number_34 (by decide) ?_
      refine J.sub C [0, 1, 2, 3, 4] rfl ?_
      exact hkb5 _ _ _ _ _ hM
  have jl5 : ∀ (x1 x2 x3 x4 : Int32) (g : Sg), lup4 (B_X2_number_5) FU x1 x2 x3 x4 g = some r → J p l e (RM 1 21) s m args below meth c D (cW q cI) A 5 Q g 5 [(0, .ref (q 24)), (1, .int x1), (2, .int x2), (3, .int x3), (4, .int x4)] [] := 
    lup4_ok (P := fun x1 x2 x3 x4 g => J p l e (RM 1 21) s m args below meth c D (cW q cI) A 5 Q g 5 [(0, .ref (q 24)), (1, .int x1), (2, .int x2), (3, .int x3), (4, .int x4)] []) (fun self hself => jb5 self hself) FU
  have hM := h
  unfold M_X2_number at hM
  refine J.iconst (pc := 0) C 0 dX2_number_0 ic_0 ?_
  refine J.istore_n (pc := 1) C dX2_number_1 rfl (by decide) ?_
  refine J.iload_n (pc := 2) C dX2_number_2 rfl rfl ?_
  refine J.istore (pc := 3) C dX2_number_3 (by decide) ?_
  refine J.sub C [0, 1, 2, 3, 4] rfl ?_
  exact jl5 _ _ _ _ _ hM
def M_X2_tellStatement (a : Nat) (x2 : Int32) (g : Sg) : Option (Int32 × Sg) := (if (rat g 25 96 x2) = 100 then bI (M_X2_number (x2 + 1) 1 g) (fun r_31 g_32 => bI (M_X0_settle a 2 r_31 g_32) (fun r_33 g_34 => rz r_33 g_34)) else if (rat g 25 96 x2) = 103 then bI (M_X2_number (x2 + 2) 1 g) (fun r_21 g_22 => bI (M_X2_number (x2 + 3) 2 g_22) (fun r_23 g_24 => bI (M_X2_number (x2 + 5) 2 g_24) (fun r_25 g_26 => bI (M_X2_number (x2 + 7) 2 g_26) (fun r_27 g_28 => bI (M_X0_add a (V_X2_kindOf (rat g 25 96 (x2 + 1)) g) r_21 r_23 r_25 r_27 g_28) (fun r_29 g_30 => rz r_29 g_30))))) else if (rat g 25 96 x2) = 104 then bI (M_X2_number (x2 + 1) 1 g) (fun r_15 g_16 => bI (M_X2_number (x2 + 2) 2 g_16) (fun r_17 g_18 => bI (M_X0_changeHour a r_15 r_17 g_18) (fun r_19 g_20 => rz r_19 g_20))) else if (rat g 25 96 x2) = 111 then bI (M_X2_number (x2 + 1) 3 g) (fun r_11 g_12 => bI (M_X0_settle a 1 r_11 g_12) (fun r_13 g_14 => rz r_13 g_14)) else if (rat g 25 96 x2) = 112 then bI (M_X2_number (x2 + 1) 2 g) (fun r_7 g_8 => bI (M_X0_settle a 0 r_7 g_8) (fun r_9 g_10 => rz r_9 g_10)) else if (rat g 25 96 x2) = 120 then bI (M_X2_number (x2 + 1) 1 g) (fun r_1 g_2 => bI (M_X2_number (x2 + 2) 1 g_2) (fun r_3 g_4 => bI (M_X0_exchangeHours a r_1 r_3 g_4) (fun r_5 g_6 => rz r_5 g_6))) else some (0, g))
set_option maxRecDepth 100000 in
set_option maxHeartbeats 4000000 in
theorem C_X2_tellStatement {l : Launch} {D : va_G} {q : Nat → Nat} {cI : ClassId} {z : Nat} {a : Nat} (ha : isAl a) {x2 : Int32} {g : Sg} {r : Int32 × Sg} (h : M_X2_tellStatement a x2 g = some r) : CTi l (EC z) D cI (cW q cI) yX2_tellStatement cX2_tellStatement 3 (some .boolean) 3 67 [.ref (q 24), .ref (q a), .int x2] g r := by
  refine CTi.of2 (by decide) (EC_ok z) (Nat.le_of_ble_eq_true rfl) rfl (fun p e s m args below meth c A Q C hret => ?_)
  have hM := h
  unfold M_X2_tellStatement at hM
  refine J.aload_n (pc := 0) C dX2_tellStatement_0 rfl rfl ?_
  refine gf_X2_24_0 (pc := 1) C tf_X2_9 dX2_tellStatement_1 ?_
  refine J.iload_n (pc := 4) C dX2_tellStatement_4 rfl rfl ?_
  refine J.callS2i (pc := 5) C (K_X4_at (ia_25 q cI) _ _) lk_X4_at tm_X2_33 ⟨Nat.le_of_ble_eq_true rfl, Nat.le_of_ble_eq_true rfl⟩ (Nat.le_of_ble_eq_true rfl) dX2_tellStatement_5 ?_
  refine J.case (pc := 8) C 100 (fun hs0 => ?_) (fun hs0 => ?_)
  · have hM := ite_t hs0 hM
    refine J.look (pc := 8) (off := 139) C 147 dX2_tellStatement_8 rfl (by rw [hs0]; first | done | rfl) (by decide) ?_
    refine J.aload_n (pc := 147) C dX2_tellStatement_147 rfl rfl ?_
    refine J.iconst (pc := 148) C 2 dX2_tellStatement_148 ic_2 ?_
    refine J.aload_n (pc := 149) C dX2_tellStatement_149 rfl rfl ?_
    refine J.iload_n (pc := 150) C dX2_tellStatement_150 rfl rfl ?_
    refine J.iconst (pc := 151) C 1 dX2_tellStatement_151 ic_1 ?_
    refine J.iadd (pc := 152) C dX2_tellStatement_152 ?_
    refine J.iconst (pc := 153) C 1 dX2_tellStatement_153 ic_1 ?_
    obtain ⟨_, _, h1, hM⟩ := bI_ex hM
    refine J.callV2i (pc := 154) C (C_X2_number h1) lk_X2_number tm_X2_53 (io_24 q cI) ⟨Nat.le_of_ble_eq_true rfl, Nat.le_of_ble_eq_true rfl⟩ (Nat.le_of_ble_eq_true rfl) dX2_tellStatement_154 ?_
    obtain ⟨_, _, h1, hM⟩ := bI_ex hM
    refine J.callV2i (pc := 157) C (C_X0_settle ha h1) lk_X0_settle tm_X2_61 (io_al q cI ha) ⟨Nat.le_of_ble_eq_true rfl, Nat.le_of_ble_eq_true rfl⟩ (Nat.le_of_ble_eq_true rfl) dX2_tellStatement_157 ?_
    obtain ⟨hM, hz⟩ := rz_ex hM
    exact hret dX2_tellStatement_160 hM hz
  · have hM := ite_f hs0 hM
    refine J.case (pc := 8) C 103 (fun hs1 => ?_) (fun hs1 => ?_)
    · have hM := ite_t hs1 hM
      refine J.look (pc := 8) (off := 60) C 68 dX2_tellStatement_8 rfl (by rw [hs1]; first | done | rfl) (by decide) ?_
      refine J.aload_n (pc := 68) C dX2_tellStatement_68 rfl rfl ?_
      refine J.aload_n (pc := 69) C dX2_tellStatement_69 rfl rfl ?_
      refine gf_X2_24_0 (pc := 70) C tf_X2_9 dX2_tellStatement_70 ?_
      refine J.iload_n (pc := 73) C dX2_tellStatement_73 rfl rfl ?_
      refine J.iconst (pc := 74) C 1 dX2_tellStatement_74 ic_1 ?_
      refine J.iadd (pc := 75) C dX2_tellStatement_75 ?_
      refine J.callS2i (pc := 76) C (K_X4_at (ia_25 q cI) _ _) lk_X4_at tm_X2_33 ⟨Nat.le_of_ble_eq_true rfl, Nat.le_of_ble_eq_true rfl⟩ (Nat.le_of_ble_eq_true rfl) dX2_tellStatement_76 ?_
      refine J.callS1i (pc := 79) C (K_X2_kindOf _ _) lk_X2_kindOf tm_X2_44 ⟨Nat.le_of_ble_eq_true rfl, Nat.le_of_ble_eq_true rfl⟩ (Nat.le_of_ble_eq_true rfl) dX2_tellStatement_79 ?_
      refine J.aload_n (pc := 82) C dX2_tellStatement_82 rfl rfl ?_
      refine J.iload_n (pc := 83) C dX2_tellStatement_83 rfl rfl ?_
      refine J.iconst (pc := 84) C 2 dX2_tellStatement_84 ic_2 ?_
      refine J.iadd (pc := 85) C dX2_tellStatement_85 ?_
      refine J.iconst (pc := 86) C 1 dX2_tellStatement_86 ic_1 ?_
      obtain ⟨_, _, h1, hM⟩ := bI_ex hM
      refine J.callV2i (pc := 87) C (C_X2_number h1) lk_X2_number tm_X2_53 (io_24 q cI) ⟨Nat.le_of_ble_eq_true rfl, Nat.le_of_ble_eq_true rfl⟩ (Nat.le_of_ble_eq_true rfl) dX2_tellStatement_87 ?_
      refine J.aload_n (pc := 90) C dX2_tellStatement_90 rfl rfl ?_
      refine J.iload_n (pc := 91) C dX2_tellStatement_91 rfl rfl ?_
      refine J.iconst (pc := 92) C 3 dX2_tellStatement_92 ic_3 ?_
      refine J.iadd (pc := 93) C dX2_tellStatement_93 ?_
      refine J.iconst (pc := 94) C 2 dX2_tellStatement_94 ic_2 ?_
      obtain ⟨_, _, h1, hM⟩ := bI_ex hM
      refine J.callV2i (pc := 95) C (C_X2_number h1) lk_X2_number tm_X2_53 (io_24 q cI) ⟨Nat.le_of_ble_eq_true rfl, Nat.le_of_ble_eq_true rfl⟩ (Nat.le_of_ble_eq_true rfl) dX2_tellStatement_95 ?_
      refine J.aload_n (pc := 98) C dX2_tellStatement_98 rfl rfl ?_
      refine J.iload_n (pc := 99) C dX2_tellStatement_99 rfl rfl ?_
      refine J.iconst (pc := 100) C 5 dX2_tellStatement_100 ic_5 ?_
      refine J.iadd (pc := 101) C dX2_tellStatement_101 ?_
      refine J.iconst (pc := 102) C 2 dX2_tellStatement_102 ic_2 ?_
      obtain ⟨_, _, h1, hM⟩ := bI_ex hM
      refine J.callV2i (pc := 103) C (C_X2_number h1) lk_X2_number tm_X2_53 (io_24 q cI) ⟨Nat.le_of_ble_eq_true rfl, Nat.le_of_ble_eq_true rfl⟩ (Nat.le_of_ble_eq_true rfl) dX2_tellStatement_103 ?_
      refine J.aload_n (pc := 106) C dX2_tellStatement_106 rfl rfl ?_
      refine J.iload_n (pc := 107) C dX2_tellStatement_107 rfl rfl ?_
      refine J.bipush (pc := 108) C 7 dX2_tellStatement_108 bp_7 ?_
      refine J.iadd (pc := 110) C dX2_tellStatement_110 ?_
      refine J.iconst (pc := 111) C 2 dX2_tellStatement_111 ic_2 ?_
      obtain ⟨_, _, h1, hM⟩ := bI_ex hM
      refine J.callV2i (pc := 112) C (C_X2_number h1) lk_X2_number tm_X2_53 (io_24 q cI) ⟨Nat.le_of_ble_eq_true rfl, Nat.le_of_ble_eq_true rfl⟩ (Nat.le_of_ble_eq_true rfl) dX2_tellStatement_112 ?_
      obtain ⟨_, _, h1, hM⟩ := bI_ex hM
      refine J.callV5i (pc := 115) C (C_X0_add ha h1) lk_X0_add tm_X2_57 (io_al q cI ha) ⟨Nat.le_of_ble_eq_true rfl, Nat.le_of_ble_eq_true rfl⟩ (Nat.le_of_ble_eq_true rfl) dX2_tellStatement_115 ?_
      obtain ⟨hM, hz⟩ := rz_ex hM
      exact hret dX2_tellStatement_118 hM hz
    · have hM := ite_f hs1 hM
      refine J.case (pc := 8) C 104 (fun hs2 => ?_) (fun hs2 => ?_)
      · have hM := ite_t hs2 hM
        refine J.look (pc := 8) (off := 174) C 182 dX2_tellStatement_8 rfl (by rw [hs2]; first | done | rfl) (by decide) ?_
        refine J.aload_n (pc := 182) C dX2_tellStatement_182 rfl rfl ?_
        refine J.aload_n (pc := 183) C dX2_tellStatement_183 rfl rfl ?_
        refine J.iload_n (pc := 184) C dX2_tellStatement_184 rfl rfl ?_
        refine J.iconst (pc := 185) C 1 dX2_tellStatement_185 ic_1 ?_
        refine J.iadd (pc := 186) C dX2_tellStatement_186 ?_
        refine J.iconst (pc := 187) C 1 dX2_tellStatement_187 ic_1 ?_
        obtain ⟨_, _, h1, hM⟩ := bI_ex hM
        refine J.callV2i (pc := 188) C (C_X2_number h1) lk_X2_number tm_X2_53 (io_24 q cI) ⟨Nat.le_of_ble_eq_true rfl, Nat.le_of_ble_eq_true rfl⟩ (Nat.le_of_ble_eq_true rfl) dX2_tellStatement_188 ?_
        refine J.aload_n (pc := 191) C dX2_tellStatement_191 rfl rfl ?_
        refine J.iload_n (pc := 192) C dX2_tellStatement_192 rfl rfl ?_
        refine J.iconst (pc := 193) C 2 dX2_tellStatement_193 ic_2 ?_
        refine J.iadd (pc := 194) C dX2_tellStatement_194 ?_
        refine J.iconst (pc := 195) C 2 dX2_tellStatement_195 ic_2 ?_
        obtain ⟨_, _, h1, hM⟩ := bI_ex hM
        refine J.callV2i (pc := 196) C (C_X2_number h1) lk_X2_number tm_X2_53 (io_24 q cI) ⟨Nat.le_of_ble_eq_true rfl, Nat.le_of_ble_eq_true rfl⟩ (Nat.le_of_ble_eq_true rfl) dX2_tellStatement_196 ?_
        obtain ⟨_, _, h1, hM⟩ := bI_ex hM
        refine J.callV2i (pc := 199) C (C_X0_changeHour ha h1) lk_X0_changeHour tm_X2_68 (io_al q cI ha) ⟨Nat.le_of_ble_eq_true rfl, Nat.le_of_ble_eq_true rfl⟩ (Nat.le_of_ble_eq_true rfl) dX2_tellStatement_199 ?_
        obtain ⟨hM, hz⟩ := rz_ex hM
        exact hret dX2_tellStatement_202 hM hz
      · have hM := ite_f hs2 hM
        refine J.case (pc := 8) C 111 (fun hs3 => ?_) (fun hs3 => ?_)
        · have hM := ite_t hs3 hM
          refine J.look (pc := 8) (off := 125) C 133 dX2_tellStatement_8 rfl (by rw [hs3]; first | done | rfl) (by decide) ?_
          refine J.aload_n (pc := 133) C dX2_tellStatement_133 rfl rfl ?_
          refine J.iconst (pc := 134) C 1 dX2_tellStatement_134 ic_1 ?_
          refine J.aload_n (pc := 135) C dX2_tellStatement_135 rfl rfl ?_
          refine J.iload_n (pc := 136) C dX2_tellStatement_136 rfl rfl ?_
          refine J.iconst (pc := 137) C 1 dX2_tellStatement_137 ic_1 ?_
          refine J.iadd (pc := 138) C dX2_tellStatement_138 ?_
          refine J.iconst (pc := 139) C 3 dX2_tellStatement_139 ic_3 ?_
          obtain ⟨_, _, h1, hM⟩ := bI_ex hM
          refine J.callV2i (pc := 140) C (C_X2_number h1) lk_X2_number tm_X2_53 (io_24 q cI) ⟨Nat.le_of_ble_eq_true rfl, Nat.le_of_ble_eq_true rfl⟩ (Nat.le_of_ble_eq_true rfl) dX2_tellStatement_140 ?_
          obtain ⟨_, _, h1, hM⟩ := bI_ex hM
          refine J.callV2i (pc := 143) C (C_X0_settle ha h1) lk_X0_settle tm_X2_61 (io_al q cI ha) ⟨Nat.le_of_ble_eq_true rfl, Nat.le_of_ble_eq_true rfl⟩ (Nat.le_of_ble_eq_true rfl) dX2_tellStatement_143 ?_
          obtain ⟨hM, hz⟩ := rz_ex hM
          exact hret dX2_tellStatement_146 hM hz
        · have hM := ite_f hs3 hM
          refine J.case (pc := 8) C 112 (fun hs4 => ?_) (fun hs4 => ?_)
          · have hM := ite_t hs4 hM
            refine J.look (pc := 8) (off := 111) C 119 dX2_tellStatement_8 rfl (by rw [hs4]; first | done | rfl) (by decide) ?_
            refine J.aload_n (pc := 119) C dX2_tellStatement_119 rfl rfl ?_
            refine J.iconst (pc := 120) C 0 dX2_tellStatement_120 ic_0 ?_
            refine J.aload_n (pc := 121) C dX2_tellStatement_121 rfl rfl ?_
            refine J.iload_n (pc := 122) C dX2_tellStatement_122 rfl rfl ?_
            refine J.iconst (pc := 123) C 1 dX2_tellStatement_123 ic_1 ?_
            refine J.iadd (pc := 124) C dX2_tellStatement_124 ?_
            refine J.iconst (pc := 125) C 2 dX2_tellStatement_125 ic_2 ?_
            obtain ⟨_, _, h1, hM⟩ := bI_ex hM
            refine J.callV2i (pc := 126) C (C_X2_number h1) lk_X2_number tm_X2_53 (io_24 q cI) ⟨Nat.le_of_ble_eq_true rfl, Nat.le_of_ble_eq_true rfl⟩ (Nat.le_of_ble_eq_true rfl) dX2_tellStatement_126 ?_
            obtain ⟨_, _, h1, hM⟩ := bI_ex hM
            refine J.callV2i (pc := 129) C (C_X0_settle ha h1) lk_X0_settle tm_X2_61 (io_al q cI ha) ⟨Nat.le_of_ble_eq_true rfl, Nat.le_of_ble_eq_true rfl⟩ (Nat.le_of_ble_eq_true rfl) dX2_tellStatement_129 ?_
            obtain ⟨hM, hz⟩ := rz_ex hM
            exact hret dX2_tellStatement_132 hM hz
          · have hM := ite_f hs4 hM
            refine J.case (pc := 8) C 120 (fun hs5 => ?_) (fun hs5 => ?_)
            · have hM := ite_t hs5 hM
              refine J.look (pc := 8) (off := 153) C 161 dX2_tellStatement_8 rfl (by rw [hs5]; first | done | rfl) (by decide) ?_
              refine J.aload_n (pc := 161) C dX2_tellStatement_161 rfl rfl ?_
              refine J.aload_n (pc := 162) C dX2_tellStatement_162 rfl rfl ?_
              refine J.iload_n (pc := 163) C dX2_tellStatement_163 rfl rfl ?_
              refine J.iconst (pc := 164) C 1 dX2_tellStatement_164 ic_1 ?_
              refine J.iadd (pc := 165) C dX2_tellStatement_165 ?_
              refine J.iconst (pc := 166) C 1 dX2_tellStatement_166 ic_1 ?_
              obtain ⟨_, _, h1, hM⟩ := bI_ex hM
              refine J.callV2i (pc := 167) C (C_X2_number h1) lk_X2_number tm_X2_53 (io_24 q cI) ⟨Nat.le_of_ble_eq_true rfl, Nat.le_of_ble_eq_true rfl⟩ (Nat.le_of_ble_eq_true rfl) dX2_tellStatement_167 ?_
              refine J.aload_n (pc := 170) C dX2_tellStatement_170 rfl rfl ?_
              refine J.iload_n (pc := 171) C dX2_tellStatement_171 rfl rfl ?_
              refine J.iconst (pc := 172) C 2 dX2_tellStatement_172 ic_2 ?_
              refine J.iadd (pc := 173) C dX2_tellStatement_173 ?_
              refine J.iconst (pc := 174) C 1 dX2_tellStatement_174 ic_1 ?_
              obtain ⟨_, _, h1, hM⟩ := bI_ex hM
              refine J.callV2i (pc := 175) C (C_X2_number h1) lk_X2_number tm_X2_53 (io_24 q cI) ⟨Nat.le_of_ble_eq_true rfl, Nat.le_of_ble_eq_true rfl⟩ (Nat.le_of_ble_eq_true rfl) dX2_tellStatement_175 ?_
              obtain ⟨_, _, h1, hM⟩ := bI_ex hM
              refine J.callV2i (pc := 178) C (C_X0_exchangeHours ha h1) lk_X0_exchangeHours tm_X2_65 (io_al q cI ha) ⟨Nat.le_of_ble_eq_true rfl, Nat.le_of_ble_eq_true rfl⟩ (Nat.le_of_ble_eq_true rfl) dX2_tellStatement_178 ?_
              obtain ⟨hM, hz⟩ := rz_ex hM
              exact hret dX2_tellStatement_181 hM hz
            · have hM := ite_f hs5 hM
              refine J.look (pc := 8) (off := 195) C 203 dX2_tellStatement_8 rfl (by have c0 := i_ne 100 rfl hs0; have c1 := i_ne 103 rfl hs1; have c2 := i_ne 104 rfl hs2; have c3 := i_ne 111 rfl hs3; have c4 := i_ne 112 rfl hs4; have c5 := i_ne 120 rfl hs5; exact (if_neg (Ne.symm c0)).trans ((if_neg (Ne.symm c1)).trans ((if_neg (Ne.symm c2)).trans ((if_neg (Ne.symm c3)).trans ((if_neg (Ne.symm c4)).trans ((if_neg (Ne.symm c5)).trans (rfl))))))) (by decide) ?_
              refine J.iconst (pc := 203) C 0 dX2_tellStatement_203 ic_0 ?_
              exact hret dX2_tellStatement_204 hM (by decide)
def B_X2_tellTo_21 (a : Nat) (kb21 : Int32 → Int32 → Sg → Option (Int32 × Sg)) (x3 x4 : Int32) (g : Sg) : Option (Int32 × Sg) := (if 96 ≤ x4 then some (x4, g) else (if (g.1 24) ≤ x3 then some (x4, g) else bI (M_X2_tellStatement a x3 g) (fun r_3 g_4 => (if r_3 = 0 then some ((-2000) - x3, g_4) else lt (x3 + (V_X2_lengthOf (rat g_4 25 96 x3) g_4)) (fun x3_5 => kb21 x3_5 (x4 + 1) g_4)))))
def M_X2_tellTo (a : Nat) (g : Sg) : Option (Int32 × Sg) := bI (M_X2_firstOutOfPlace g) (fun r_1 g_2 => (if r_1 = (-1) then lup2 (B_X2_tellTo_21 a ) FU 0 0 g_2 else some ((-1000) - r_1, g_2)))
set_option maxRecDepth 100000 in
set_option maxHeartbeats 4000000 in
theorem C_X2_tellTo {l : Launch} {D : va_G} {q : Nat → Nat} {cI : ClassId} {z : Nat} {a : Nat} (ha : isAl a) {g : Sg} {r : Int32 × Sg} (h : M_X2_tellTo a g = some r) : CTi l (EC z) D cI (cW q cI) yX2_tellTo cX2_tellTo 5 (some .int) 4 89 [.ref (q 24), .ref (q a)] g r := by
  refine CTi.of2 (by decide) (EC_ok z) (Nat.le_of_ble_eq_true rfl) rfl (fun p e s m args below meth c A Q C hret => ?_)
  have jb21 : ∀ (kb21 : Int32 → Int32 → Sg → Option (Int32 × Sg)) (hkb21 : ∀ (x3 x4 : Int32) (g : Sg), kb21 x3 x4 g = some r → J p l e (RM 4 89) s m args below meth c D (cW q cI) A 5 Q g 21 [(0, .ref (q 24)), (1, .ref (q a)), (3, .int x3), (4, .int x4)] []) (x3 x4 : Int32) (g : Sg), B_X2_tellTo_21 a kb21 x3 x4 g = some r → J p l e (RM 4 89) s m args below meth c D (cW q cI) A 5 Q g 21 [(0, .ref (q 24)), (1, .ref (q a)), (3, .int x3), (4, .int x4)] [] := by
    intro kb21 hkb21 x3 x4 g hM
    unfold B_X2_tellTo_21 at hM
    refine J.iload (pc := 21) C dX2_tellTo_21 rfl ?_
    refine J.bipush (pc := 23) C 96 dX2_tellTo_23 bp_96 ?_
    refine J.icmp_ge (pc := 25) C 71 dX2_tellTo_25 (by decide) (fun hc => ?_) (fun hc => ?_)
    · have hM := ite_t hc hM
      refine J.iload (pc := 71) C dX2_tellTo_71 rfl ?_
      exact hret dX2_tellTo_73 hM rfl
    · have hM := ite_f hc hM
      refine J.iload_n (pc := 28) C dX2_tellTo_28 rfl rfl ?_
      refine J.aload_n (pc := 29) C dX2_tellTo_29 rfl rfl ?_
      refine gf_X2_24_1 (pc := 30) C tf_X2_15 dX2_tellTo_30 ?_
      refine J.icmp_ge (pc := 33) C 71 dX2_tellTo_33 (by decide) (fun hc => ?_) (fun hc => ?_)
      · have hM := ite_t hc hM
        refine J.iload (pc := 71) C dX2_tellTo_71 rfl ?_
        exact hret dX2_tellTo_73 hM rfl
      · have hM := ite_f hc hM
        refine J.aload_n (pc := 36) C dX2_tellTo_36 rfl rfl ?_
        refine J.aload_n (pc := 37) C dX2_tellTo_37 rfl rfl ?_
        refine J.iload_n (pc := 38) C dX2_tellTo_38 rfl rfl ?_
        obtain ⟨_, _, h1, hM⟩ := bI_ex hM
        refine J.callV2i (pc := 39) C (C_X2_tellStatement ha h1) lk_X2_tellStatement tm_X2_29 (io_24 q cI) ⟨Nat.le_of_ble_eq_true rfl, Nat.le_of_ble_eq_true rfl⟩ (Nat.le_of_ble_eq_true rfl) dX2_tellTo_39 ?_
        refine J.if_ne (pc := 42) C 51 dX2_tellTo_42 (by decide) (fun hc => ?_) (fun hc => ?_)
        · have hM := ite_f hc hM
          refine J.iload_n (pc := 51) C dX2_tellTo_51 rfl rfl ?_
          refine J.aload_n (pc := 52) C dX2_tellTo_52 rfl rfl ?_
          refine gf_X2_24_0 (pc := 53) C tf_X2_9 dX2_tellTo_53 ?_
          refine J.iload_n (pc := 56) C dX2_tellTo_56 rfl rfl ?_
          refine J.callS2i (pc := 57) C (K_X4_at (ia_25 q cI) _ _) lk_X4_at tm_X2_33 ⟨Nat.le_of_ble_eq_true rfl, Nat.le_of_ble_eq_true rfl⟩ (Nat.le_of_ble_eq_true rfl) dX2_tellTo_57 ?_
          refine J.callS1i (pc := 60) C (K_X2_lengthOf _ _) lk_X2_lengthOf tm_X2_37 ⟨Nat.le_of_ble_eq_true rfl, Nat.le_of_ble_eq_true rfl⟩ (Nat.le_of_ble_eq_true rfl) dX2_tellTo_60 ?_
          refine J.iadd (pc := 63) C dX2_tellTo_63 ?_
          obtain ⟨_, ea, hM⟩ := lt_ex hM
          refine J.istore_nV (pc := 64) C dX2_tellTo_64 rfl (by decide) ea ?_
          refine J.iinc (pc := 65) C 1 dX2_tellTo_65 ic_1 rfl (by decide) ?_
          refine J.goto (pc := 68) C 21 dX2_tellTo_68 (by decide) ?_
          refine J.sub C [0, 1, 3, 4] rfl ?_
          exact hkb21 _ _ _ hM
        · have hM := ite_t hc hM
          refine J.sipush (pc := 45) C (-2000) dX2_tellTo_45 sp_m2000 ?_
          refine J.iload_n (pc := 48) C dX2_tellTo_48 rfl rfl ?_
          refine J.isub (pc := 49) C dX2_tellTo_49 ?_
          exact hret dX2_tellTo_50 hM rfl
  have jl21 : ∀ (x3 x4 : Int32) (g : Sg), lup2 (B_X2_tellTo_21 a) FU x3 x4 g = some r → J p l e (RM 4 89) s m args below meth c D (cW q cI) A 5 Q g 21 [(0, .ref (q 24)), (1, .ref (q a)), (3, .int x3), (4, .int x4)] [] := 
    lup2_ok (P := fun x3 x4 g => J p l e (RM 4 89) s m args below meth c D (cW q cI) A 5 Q g 21 [(0, .ref (q 24)), (1, .ref (q a)), (3, .int x3), (4, .int x4)] []) (fun self hself => jb21 self hself) FU
  have hM := h
  unfold M_X2_tellTo at hM
  refine J.aload_n (pc := 0) C dX2_tellTo_0 rfl rfl ?_
  obtain ⟨_, _, h1, hM⟩ := bI_ex hM
  refine J.callV0i (pc := 1) C (C_X2_firstOutOfPlace h1) lk_X2_firstOutOfPlace tm_X2_25 (io_24 q cI) ⟨Nat.le_of_ble_eq_true rfl, Nat.le_of_ble_eq_true rfl⟩ (Nat.le_of_ble_eq_true rfl) dX2_tellTo_1 ?_
  refine J.istore_n (pc := 4) C dX2_tellTo_4 rfl (by decide) ?_
  refine J.iload_n (pc := 5) C dX2_tellTo_5 rfl rfl ?_
  refine J.iconst (pc := 6) C (-1) dX2_tellTo_6 ic_m1 ?_
  refine J.icmp_eq (pc := 7) C 16 dX2_tellTo_7 (by decide) (fun hc => ?_) (fun hc => ?_)
  · have hM := ite_t hc hM
    refine J.iconst (pc := 16) C 0 dX2_tellTo_16 ic_0 ?_
    refine J.istore_n (pc := 17) C dX2_tellTo_17 rfl (by decide) ?_
    refine J.iconst (pc := 18) C 0 dX2_tellTo_18 ic_0 ?_
    refine J.istore (pc := 19) C dX2_tellTo_19 (by decide) ?_
    refine J.sub C [0, 1, 3, 4] rfl ?_
    exact jl21 _ _ _ hM
  · have hM := ite_f hc hM
    refine J.sipush (pc := 10) C (-1000) dX2_tellTo_10 sp_m1000 ?_
    refine J.iload_n (pc := 13) C dX2_tellTo_13 rfl rfl ?_
    refine J.isub (pc := 14) C dX2_tellTo_14 ?_
    exact hret dX2_tellTo_15 hM rfl
