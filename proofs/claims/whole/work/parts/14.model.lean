def M_X7_no (x1 : Int32) (g : Sg) : Option (Int32 × Sg) := chk (-x1) 7 (chk (-x1) 7 (lt (wr g 10 (-x1) ((rd g 10 (-x1)) + 1)) (fun g_1 => some (x1, g_1))))
set_option maxRecDepth 100000 in
set_option maxHeartbeats 4000000 in
theorem C_X7_no {l : Launch} {D : va_G} {q : Nat → Nat} {cI : ClassId} {z : Nat × Nat} {x1 : Int32} {g : Sg} {r : Int32 × Sg} (h : M_X7_no x1 g = some r) : CTi l (EM z) D cI (mW q cI) yX7_no cX7_no 2 (some .int) 0 0 [.ref (q 0), .int x1] g r := by
  refine CTi.of2 (by decide) (EM_ok z) (Nat.le_of_ble_eq_true rfl) rfl (fun p e s m args below meth c A Q C hret => ?_)
  have hM := h
  unfold M_X7_no at hM
  refine J.aload_n (pc := 0) C dX7_no_0 rfl rfl ?_
  refine gf_X7_0_13 (pc := 1) C tf_X7_37 dX7_no_1 ?_
  refine J.iload_n (pc := 4) C dX7_no_4 rfl rfl ?_
  refine J.ineg (pc := 5) C dX7_no_5 ?_
  refine J.dup2 (pc := 6) C dX7_no_6 rfl rfl ?_
  obtain ⟨hv, hM⟩ := chk_ex hM
  refine J.iald (pc := 7) C (im_10 q cI) hv dX7_no_7 ?_
  refine J.iconst (pc := 8) C 1 dX7_no_8 ic_1 ?_
  refine J.iadd (pc := 9) C dX7_no_9 ?_
  obtain ⟨hv, hM⟩ := chk_ex hM
  refine J.iast (pc := 10) C (im_10 q cI) hv dX7_no_10 ?_
  obtain ⟨_, ea, hM⟩ := lt_ex hM
  refine J.cong C ea ?_
  refine J.iload_n (pc := 11) C dX7_no_11 rfl rfl ?_
  exact hret dX7_no_12 hM rfl
def M_X7_noMuch (x1 : Int32) (g : Sg) : Option (Int32 × Sg) := bI (M_X7_no x1 g) (fun r_1 g_2 => some (1000000000 - r_1, g_2))
set_option maxRecDepth 100000 in
set_option maxHeartbeats 4000000 in
theorem C_X7_noMuch {l : Launch} {D : va_G} {q : Nat → Nat} {cI : ClassId} {z : Nat × Nat} {x1 : Int32} {g : Sg} {r : Int32 × Sg} (h : M_X7_noMuch x1 g = some r) : CTi l (EM z) D cI (mW q cI) yX7_noMuch cX7_noMuch 2 (some .int) 1 21 [.ref (q 0), .int x1] g r := by
  refine CTi.of2 (by decide) (EM_ok z) (Nat.le_of_ble_eq_true rfl) rfl (fun p e s m args below meth c A Q C hret => ?_)
  have hM := h
  unfold M_X7_noMuch at hM
  refine J.ldc (pc := 0) C tc_X7_79 dX7_noMuch_0 ?_
  refine J.aload_n (pc := 2) C dX7_noMuch_2 rfl rfl ?_
  refine J.iload_n (pc := 3) C dX7_noMuch_3 rfl rfl ?_
  obtain ⟨_, _, h1, hM⟩ := bI_ex hM
  refine J.callV1i (pc := 4) C (C_X7_no h1) lk_X7_no tm_X7_80 (io_m q cI) ⟨Nat.le_of_ble_eq_true rfl, Nat.le_of_ble_eq_true rfl⟩ (Nat.le_of_ble_eq_true rfl) dX7_noMuch_4 ?_
  refine J.isub (pc := 7) C dX7_noMuch_7 ?_
  exact hret dX7_noMuch_8 hM rfl
def M_X7_within (x0 x1 x2 : Int32) (g : Sg) : Option (Int32 × Sg) := (if x0 < x1 then some (0, g) else (if x2 < x0 then some (0, g) else some (1, g)))
set_option maxRecDepth 100000 in
set_option maxHeartbeats 4000000 in
theorem C_X7_within {l : Launch} {D : va_G} {q : Nat → Nat} {cI : ClassId} {z : Nat × Nat} {x0 x1 x2 : Int32} {g : Sg} {r : Int32 × Sg} (h : M_X7_within x0 x1 x2 g = some r) : CTi l (EM z) D cI (mW q cI) yX7_within cX7_within 3 (some .boolean) 0 0 [.int x0, .int x1, .int x2] g r := by
  refine CTi.of2 (by decide) (EM_ok z) (Nat.le_of_ble_eq_true rfl) rfl (fun p e s m args below meth c A Q C hret => ?_)
  have hM := h
  unfold M_X7_within at hM
  refine J.iload_n (pc := 0) C dX7_within_0 rfl rfl ?_
  refine J.iload_n (pc := 1) C dX7_within_1 rfl rfl ?_
  refine J.icmp_lt (pc := 2) C 14 dX7_within_2 (by decide) (fun hc => ?_) (fun hc => ?_)
  · have hM := ite_t hc hM
    refine J.iconst (pc := 14) C 0 dX7_within_14 ic_0 ?_
    exact hret dX7_within_15 hM (by decide)
  · have hM := ite_f hc hM
    refine J.iload_n (pc := 5) C dX7_within_5 rfl rfl ?_
    refine J.iload_n (pc := 6) C dX7_within_6 rfl rfl ?_
    refine J.icmp_gt (pc := 7) C 14 dX7_within_7 (by decide) (fun hc => ?_) (fun hc => ?_)
    · have hM := ite_t hc hM
      refine J.iconst (pc := 14) C 0 dX7_within_14 ic_0 ?_
      exact hret dX7_within_15 hM (by decide)
    · have hM := ite_f hc hM
      refine J.iconst (pc := 10) C 1 dX7_within_10 ic_1 ?_
      refine J.goto (pc := 11) C 15 dX7_within_11 (by decide) ?_
      exact hret dX7_within_15 hM (by decide)
def V_X7_within (x0 x1 x2 : Int32) (g : Sg) : Int32 := (if x0 < x1 then 0 else (if x2 < x0 then 0 else 1))
theorem E_X7_within (x0 x1 x2 : Int32) (g : Sg) : M_X7_within x0 x1 x2 g = some (V_X7_within x0 x1 x2 g, g) := by
  unfold M_X7_within V_X7_within
  first | rfl | ((try dsimp only [lt]); (repeat' split) <;> rfl)
theorem K_X7_within {l : Launch} {D : va_G} {q : Nat → Nat} {cI : ClassId} {z : Nat × Nat} (x0 x1 x2 : Int32) (g : Sg) : CTi l (EM z) D cI (mW q cI) yX7_within cX7_within 3 (some .boolean) 0 0 [.int x0, .int x1, .int x2] g (V_X7_within x0 x1 x2 g, g) := C_X7_within (E_X7_within x0 x1 x2 g)
def M_X7_isGoer (x1 : Int32) (g : Sg) : Option (Int32 × Sg) := rz (V_X7_within x1 0 ((g.1 0) - 1) g) g
set_option maxRecDepth 100000 in
set_option maxHeartbeats 4000000 in
theorem C_X7_isGoer {l : Launch} {D : va_G} {q : Nat → Nat} {cI : ClassId} {z : Nat × Nat} {x1 : Int32} {g : Sg} {r : Int32 × Sg} (h : M_X7_isGoer x1 g = some r) : CTi l (EM z) D cI (mW q cI) yX7_isGoer cX7_isGoer 2 (some .boolean) 1 22 [.ref (q 0), .int x1] g r := by
  refine CTi.of2 (by decide) (EM_ok z) (Nat.le_of_ble_eq_true rfl) rfl (fun p e s m args below meth c A Q C hret => ?_)
  have hM := h
  unfold M_X7_isGoer at hM
  refine J.iload_n (pc := 0) C dX7_isGoer_0 rfl rfl ?_
  refine J.iconst (pc := 1) C 0 dX7_isGoer_1 ic_0 ?_
  refine J.aload_n (pc := 2) C dX7_isGoer_2 rfl rfl ?_
  refine gf_X7_0_0 (pc := 3) C tf_X7_84 dX7_isGoer_3 ?_
  refine J.iconst (pc := 6) C 1 dX7_isGoer_6 ic_1 ?_
  refine J.isub (pc := 7) C dX7_isGoer_7 ?_
  refine J.callS3i (pc := 8) C (K_X7_within _ _ _ _) lk_X7_within tm_X7_88 ⟨Nat.le_of_ble_eq_true rfl, Nat.le_of_ble_eq_true rfl⟩ (Nat.le_of_ble_eq_true rfl) dX7_isGoer_8 ?_
  obtain ⟨hM, hz⟩ := rz_ex hM
  exact hret dX7_isGoer_11 hM hz
theorem rz01 {v : Int32} {g : Sg} (h : v = 0 ∨ v = 1) : rz v g = some (v, g) := by
  unfold rz
  rcases h with h | h
  · rw [if_pos h]
  · subst h; rfl
theorem within01 (x0 x1 x2 : Int32) (g : Sg) : V_X7_within x0 x1 x2 g = 0 ∨ V_X7_within x0 x1 x2 g = 1 := by
  unfold V_X7_within
  (repeat' split) <;> first | exact Or.inl rfl | exact Or.inr rfl
def V_X7_isGoer (x1 : Int32) (g : Sg) : Int32 := V_X7_within x1 0 ((g.1 0) - 1) g
theorem E_X7_isGoer (x1 : Int32) (g : Sg) : M_X7_isGoer x1 g = some (V_X7_isGoer x1 g, g) := by
  unfold M_X7_isGoer V_X7_isGoer
  exact rz01 (within01 _ _ _ g)
theorem K_X7_isGoer {l : Launch} {D : va_G} {q : Nat → Nat} {cI : ClassId} {z : Nat × Nat} (x1 : Int32) (g : Sg) : CTi l (EM z) D cI (mW q cI) yX7_isGoer cX7_isGoer 2 (some .boolean) 1 22 [.ref (q 0), .int x1] g (V_X7_isGoer x1 g, g) := C_X7_isGoer (E_X7_isGoer x1 g)
def M_X7_isCell (x0 : Int32) (g : Sg) : Option (Int32 × Sg) := rz (V_X7_within x0 0 39 g) g
set_option maxRecDepth 100000 in
set_option maxHeartbeats 4000000 in
theorem C_X7_isCell {l : Launch} {D : va_G} {q : Nat → Nat} {cI : ClassId} {z : Nat × Nat} {x0 : Int32} {g : Sg} {r : Int32 × Sg} (h : M_X7_isCell x0 g = some r) : CTi l (EM z) D cI (mW q cI) yX7_isCell cX7_isCell 1 (some .boolean) 1 22 [.int x0] g r := by
  refine CTi.of2 (by decide) (EM_ok z) (Nat.le_of_ble_eq_true rfl) rfl (fun p e s m args below meth c A Q C hret => ?_)
  have hM := h
  unfold M_X7_isCell at hM
  refine J.iload_n (pc := 0) C dX7_isCell_0 rfl rfl ?_
  refine J.iconst (pc := 1) C 0 dX7_isCell_1 ic_0 ?_
  refine J.bipush (pc := 2) C 39 dX7_isCell_2 bp_39 ?_
  refine J.callS3i (pc := 4) C (K_X7_within _ _ _ _) lk_X7_within tm_X7_88 ⟨Nat.le_of_ble_eq_true rfl, Nat.le_of_ble_eq_true rfl⟩ (Nat.le_of_ble_eq_true rfl) dX7_isCell_4 ?_
  obtain ⟨hM, hz⟩ := rz_ex hM
  exact hret dX7_isCell_7 hM hz
def V_X7_isCell (x0 : Int32) (g : Sg) : Int32 := V_X7_within x0 0 39 g
theorem E_X7_isCell (x0 : Int32) (g : Sg) : M_X7_isCell x0 g = some (V_X7_isCell x0 g, g) := by
  unfold M_X7_isCell V_X7_isCell
  exact rz01 (within01 _ _ _ g)
theorem K_X7_isCell {l : Launch} {D : va_G} {q : Nat → Nat} {cI : ClassId} {z : Nat × Nat} (x0 : Int32) (g : Sg) : CTi l (EM z) D cI (mW q cI) yX7_isCell cX7_isCell 1 (some .boolean) 1 22 [.int x0] g (V_X7_isCell x0 g, g) := C_X7_isCell (E_X7_isCell x0 g)
def M_X7_isHour (x0 : Int32) (g : Sg) : Option (Int32 × Sg) := rz (V_X7_within x0 0 11 g) g
set_option maxRecDepth 100000 in
set_option maxHeartbeats 4000000 in
theorem C_X7_isHour {l : Launch} {D : va_G} {q : Nat → Nat} {cI : ClassId} {z : Nat × Nat} {x0 : Int32} {g : Sg} {r : Int32 × Sg} (h : M_X7_isHour x0 g = some r) : CTi l (EM z) D cI (mW q cI) yX7_isHour cX7_isHour 1 (some .boolean) 1 22 [.int x0] g r := by
  refine CTi.of2 (by decide) (EM_ok z) (Nat.le_of_ble_eq_true rfl) rfl (fun p e s m args below meth c A Q C hret => ?_)
  have hM := h
  unfold M_X7_isHour at hM
  refine J.iload_n (pc := 0) C dX7_isHour_0 rfl rfl ?_
  refine J.iconst (pc := 1) C 0 dX7_isHour_1 ic_0 ?_
  refine J.bipush (pc := 2) C 11 dX7_isHour_2 bp_11 ?_
  refine J.callS3i (pc := 4) C (K_X7_within _ _ _ _) lk_X7_within tm_X7_88 ⟨Nat.le_of_ble_eq_true rfl, Nat.le_of_ble_eq_true rfl⟩ (Nat.le_of_ble_eq_true rfl) dX7_isHour_4 ?_
  obtain ⟨hM, hz⟩ := rz_ex hM
  exact hret dX7_isHour_7 hM hz
def V_X7_isHour (x0 : Int32) (g : Sg) : Int32 := V_X7_within x0 0 11 g
theorem E_X7_isHour (x0 : Int32) (g : Sg) : M_X7_isHour x0 g = some (V_X7_isHour x0 g, g) := by
  unfold M_X7_isHour V_X7_isHour
  exact rz01 (within01 _ _ _ g)
theorem K_X7_isHour {l : Launch} {D : va_G} {q : Nat → Nat} {cI : ClassId} {z : Nat × Nat} (x0 : Int32) (g : Sg) : CTi l (EM z) D cI (mW q cI) yX7_isHour cX7_isHour 1 (some .boolean) 1 22 [.int x0] g (V_X7_isHour x0 g, g) := C_X7_isHour (E_X7_isHour x0 g)
def M_X7_mostOf (x0 : Int32) (g : Sg) : Option (Int32 × Sg) := (if x0 = 0 then some (39, g) else (if x0 = 1 then some (200, g) else some (9, g)))
set_option maxRecDepth 100000 in
set_option maxHeartbeats 4000000 in
theorem C_X7_mostOf {l : Launch} {D : va_G} {q : Nat → Nat} {cI : ClassId} {z : Nat × Nat} {x0 : Int32} {g : Sg} {r : Int32 × Sg} (h : M_X7_mostOf x0 g = some r) : CTi l (EM z) D cI (mW q cI) yX7_mostOf cX7_mostOf 1 (some .int) 0 0 [.int x0] g r := by
  refine CTi.of2 (by decide) (EM_ok z) (Nat.le_of_ble_eq_true rfl) rfl (fun p e s m args below meth c A Q C hret => ?_)
  have hM := h
  unfold M_X7_mostOf at hM
  refine J.iload_n (pc := 0) C dX7_mostOf_0 rfl rfl ?_
  refine J.if_ne (pc := 1) C 9 dX7_mostOf_1 (by decide) (fun hc => ?_) (fun hc => ?_)
  · have hM := ite_f hc hM
    refine J.iload_n (pc := 9) C dX7_mostOf_9 rfl rfl ?_
    refine J.iconst (pc := 10) C 1 dX7_mostOf_10 ic_1 ?_
    refine J.icmp_ne (pc := 11) C 20 dX7_mostOf_11 (by decide) (fun hc => ?_) (fun hc => ?_)
    · have hM := ite_f hc hM
      refine J.bipush (pc := 20) C 9 dX7_mostOf_20 bp_9 ?_
      exact hret dX7_mostOf_22 hM rfl
    · have hM := ite_t hc hM
      refine J.sipush (pc := 14) C 200 dX7_mostOf_14 sp_200 ?_
      refine J.goto (pc := 17) C 22 dX7_mostOf_17 (by decide) ?_
      exact hret dX7_mostOf_22 hM rfl
  · have hM := ite_t hc hM
    refine J.bipush (pc := 4) C 39 dX7_mostOf_4 bp_39 ?_
    refine J.goto (pc := 6) C 22 dX7_mostOf_6 (by decide) ?_
    exact hret dX7_mostOf_22 hM rfl
def V_X7_mostOf (x0 : Int32) (g : Sg) : Int32 := (if x0 = 0 then 39 else (if x0 = 1 then 200 else 9))
theorem E_X7_mostOf (x0 : Int32) (g : Sg) : M_X7_mostOf x0 g = some (V_X7_mostOf x0 g, g) := by
  unfold M_X7_mostOf V_X7_mostOf
  first | rfl | ((try dsimp only [lt]); (repeat' split) <;> rfl)
theorem K_X7_mostOf {l : Launch} {D : va_G} {q : Nat → Nat} {cI : ClassId} {z : Nat × Nat} (x0 : Int32) (g : Sg) : CTi l (EM z) D cI (mW q cI) yX7_mostOf cX7_mostOf 1 (some .int) 0 0 [.int x0] g (V_X7_mostOf x0 g, g) := C_X7_mostOf (E_X7_mostOf x0 g)
def M_X7_letter (x1 : Int32) (g : Sg) : Option (Int32 × Sg) := (if 0 ≤ x1 then (if 255 < x1 then bI (M_X7_no (-6) g) (fun r_1 g_2 => some (r_1, g_2)) else (if (g.1 1) = 96 then bI (M_X7_no (-6) g) (fun r_5 g_6 => some (r_5, g_6)) else lt (sI g 1 ((g.1 1) + 1)) (fun g_3 => chk (g.1 1) 96 (lt (wr g_3 7 (g.1 1) x1) (fun g_4 => some (g_4.1 1, g_4)))))) else bI (M_X7_no (-4) g) (fun r_7 g_8 => some (r_7, g_8)))
set_option maxRecDepth 100000 in
set_option maxHeartbeats 4000000 in
theorem C_X7_letter {l : Launch} {D : va_G} {q : Nat → Nat} {cI : ClassId} {z : Nat × Nat} {x1 : Int32} {g : Sg} {r : Int32 × Sg} (h : M_X7_letter x1 g = some r) : CTi l (EM z) D cI (mW q cI) yX7_letter cX7_letter 2 (some .int) 1 21 [.ref (q 0), .int x1] g r := by
  refine CTi.of2 (by decide) (EM_ok z) (Nat.le_of_ble_eq_true rfl) rfl (fun p e s m args below meth c A Q C hret => ?_)
  have hM := h
  unfold M_X7_letter at hM
  refine J.iload_n (pc := 0) C dX7_letter_0 rfl rfl ?_
  refine J.if_ge (pc := 1) C 11 dX7_letter_1 (by decide) (fun hc => ?_) (fun hc => ?_)
  · have hM := ite_t hc hM
    refine J.iload_n (pc := 11) C dX7_letter_11 rfl rfl ?_
    refine J.sipush (pc := 12) C 255 dX7_letter_12 sp_255 ?_
    refine J.icmp_gt (pc := 15) C 27 dX7_letter_15 (by decide) (fun hc => ?_) (fun hc => ?_)
    · have hM := ite_t hc hM
      refine J.aload_n (pc := 27) C dX7_letter_27 rfl rfl ?_
      refine J.bipush (pc := 28) C (-6) dX7_letter_28 bp_m6 ?_
      obtain ⟨_, _, h1, hM⟩ := bI_ex hM
      refine J.callV1i (pc := 30) C (C_X7_no h1) lk_X7_no tm_X7_80 (io_m q cI) ⟨Nat.le_of_ble_eq_true rfl, Nat.le_of_ble_eq_true rfl⟩ (Nat.le_of_ble_eq_true rfl) dX7_letter_30 ?_
      exact hret dX7_letter_33 hM rfl
    · have hM := ite_f hc hM
      refine J.aload_n (pc := 18) C dX7_letter_18 rfl rfl ?_
      refine gf_X7_0_7 (pc := 19) C tf_X7_92 dX7_letter_19 ?_
      refine J.bipush (pc := 22) C 96 dX7_letter_22 bp_96 ?_
      refine J.icmp_ne (pc := 24) C 34 dX7_letter_24 (by decide) (fun hc => ?_) (fun hc => ?_)
      · have hM := ite_f hc hM
        refine J.aload_n (pc := 34) C dX7_letter_34 rfl rfl ?_
        refine gf_X7_0_8 (pc := 35) C tf_X7_28 dX7_letter_35 ?_
        refine J.aload_n (pc := 38) C dX7_letter_38 rfl rfl ?_
        refine J.dup (pc := 39) C dX7_letter_39 rfl ?_
        refine gf_X7_0_7 (pc := 40) C tf_X7_92 dX7_letter_40 ?_
        refine J.dup_x1 (pc := 43) C dX7_letter_43 rfl rfl ?_
        refine J.iconst (pc := 44) C 1 dX7_letter_44 ic_1 ?_
        refine J.iadd (pc := 45) C dX7_letter_45 ?_
        refine pf_X7_0_7 (pc := 46) C tf_X7_92 dX7_letter_46 ?_
        obtain ⟨_, ea, hM⟩ := lt_ex hM
        refine J.cong C ea ?_
        refine J.iload_n (pc := 49) C dX7_letter_49 rfl rfl ?_
        obtain ⟨hv, hM⟩ := chk_ex hM
        refine J.iast (pc := 50) C (im_7 q cI) hv dX7_letter_50 ?_
        obtain ⟨_, ea, hM⟩ := lt_ex hM
        refine J.cong C ea ?_
        refine J.aload_n (pc := 51) C dX7_letter_51 rfl rfl ?_
        refine gf_X7_0_7 (pc := 52) C tf_X7_92 dX7_letter_52 ?_
        exact hret dX7_letter_55 hM rfl
      · have hM := ite_t hc hM
        refine J.aload_n (pc := 27) C dX7_letter_27 rfl rfl ?_
        refine J.bipush (pc := 28) C (-6) dX7_letter_28 bp_m6 ?_
        obtain ⟨_, _, h1, hM⟩ := bI_ex hM
        refine J.callV1i (pc := 30) C (C_X7_no h1) lk_X7_no tm_X7_80 (io_m q cI) ⟨Nat.le_of_ble_eq_true rfl, Nat.le_of_ble_eq_true rfl⟩ (Nat.le_of_ble_eq_true rfl) dX7_letter_30 ?_
        exact hret dX7_letter_33 hM rfl
  · have hM := ite_f hc hM
    refine J.aload_n (pc := 4) C dX7_letter_4 rfl rfl ?_
    refine J.bipush (pc := 5) C (-4) dX7_letter_5 bp_m4 ?_
    obtain ⟨_, _, h1, hM⟩ := bI_ex hM
    refine J.callV1i (pc := 7) C (C_X7_no h1) lk_X7_no tm_X7_80 (io_m q cI) ⟨Nat.le_of_ble_eq_true rfl, Nat.le_of_ble_eq_true rfl⟩ (Nat.le_of_ble_eq_true rfl) dX7_letter_7 ?_
    exact hret dX7_letter_10 hM rfl
def M_X7_is (x1 : Int32) (g : Sg) : Option (Int32 × Sg) := (if (g.1 2) = (g.1 1) then some (0, g) else chk (g.1 2) 96 ((if (rd g 7 (g.1 2)) = x1 then lt (sI g 2 ((g.1 2) + 1)) (fun g_1 => some (1, g_1)) else some (0, g))))
set_option maxRecDepth 100000 in
set_option maxHeartbeats 4000000 in
theorem C_X7_is {l : Launch} {D : va_G} {q : Nat → Nat} {cI : ClassId} {z : Nat × Nat} {x1 : Int32} {g : Sg} {r : Int32 × Sg} (h : M_X7_is x1 g = some r) : CTi l (EM z) D cI (mW q cI) yX7_is cX7_is 2 (some .boolean) 0 0 [.ref (q 0), .int x1] g r := by
  refine CTi.of2 (by decide) (EM_ok z) (Nat.le_of_ble_eq_true rfl) rfl (fun p e s m args below meth c A Q C hret => ?_)
  have hM := h
  unfold M_X7_is at hM
  refine J.aload_n (pc := 0) C dX7_is_0 rfl rfl ?_
  refine gf_X7_0_9 (pc := 1) C tf_X7_95 dX7_is_1 ?_
  refine J.aload_n (pc := 4) C dX7_is_4 rfl rfl ?_
  refine gf_X7_0_7 (pc := 5) C tf_X7_92 dX7_is_5 ?_
  refine J.icmp_eq (pc := 8) C 24 dX7_is_8 (by decide) (fun hc => ?_) (fun hc => ?_)
  · have hM := ite_t hc hM
    refine J.iconst (pc := 24) C 0 dX7_is_24 ic_0 ?_
    exact hret dX7_is_25 hM (by decide)
  · have hM := ite_f hc hM
    refine J.aload_n (pc := 11) C dX7_is_11 rfl rfl ?_
    refine gf_X7_0_8 (pc := 12) C tf_X7_28 dX7_is_12 ?_
    refine J.aload_n (pc := 15) C dX7_is_15 rfl rfl ?_
    refine gf_X7_0_9 (pc := 16) C tf_X7_95 dX7_is_16 ?_
    obtain ⟨hv, hM⟩ := chk_ex hM
    refine J.iald (pc := 19) C (im_7 q cI) hv dX7_is_19 ?_
    refine J.iload_n (pc := 20) C dX7_is_20 rfl rfl ?_
    refine J.icmp_eq (pc := 21) C 26 dX7_is_21 (by decide) (fun hc => ?_) (fun hc => ?_)
    · have hM := ite_t hc hM
      refine J.aload_n (pc := 26) C dX7_is_26 rfl rfl ?_
      refine J.dup (pc := 27) C dX7_is_27 rfl ?_
      refine gf_X7_0_9 (pc := 28) C tf_X7_95 dX7_is_28 ?_
      refine J.iconst (pc := 31) C 1 dX7_is_31 ic_1 ?_
      refine J.iadd (pc := 32) C dX7_is_32 ?_
      refine pf_X7_0_9 (pc := 33) C tf_X7_95 dX7_is_33 ?_
      obtain ⟨_, ea, hM⟩ := lt_ex hM
      refine J.cong C ea ?_
      refine J.iconst (pc := 36) C 1 dX7_is_36 ic_1 ?_
      exact hret dX7_is_37 hM (by decide)
    · have hM := ite_f hc hM
      refine J.iconst (pc := 24) C 0 dX7_is_24 ic_0 ?_
      exact hret dX7_is_25 hM (by decide)
def B_X7_digits_2 (kb2 : Int32 → Int32 → Sg → Option (Int32 × Sg)) (x1 x2 : Int32) (g : Sg) : Option (Int32 × Sg) := (if x1 ≤ x2 then some (1, g) else (if (g.1 2) = (g.1 1) then some (0, g) else chk (g.1 2) 96 ((if (rd g 7 (g.1 2)) < 48 then some (0, g) else chk (g.1 2) 96 ((if (rd g 7 (g.1 2)) ≤ 57 then lt (sI g 2 ((g.1 2) + 1)) (fun g_1 => chk (g.1 2) 96 (chk x2 8 (lt (wr g_1 8 x2 ((rd g_1 7 (g.1 2)) - 48)) (fun g_2 => kb2 x1 (x2 + 1) g_2)))) else some (0, g)))))))
def M_X7_digits (x1 : Int32) (g : Sg) : Option (Int32 × Sg) := lup2 (B_X7_digits_2 ) FU x1 0 g
set_option maxRecDepth 100000 in
set_option maxHeartbeats 4000000 in
theorem C_X7_digits {l : Launch} {D : va_G} {q : Nat → Nat} {cI : ClassId} {z : Nat × Nat} {x1 : Int32} {g : Sg} {r : Int32 × Sg} (h : M_X7_digits x1 g = some r) : CTi l (EM z) D cI (mW q cI) yX7_digits cX7_digits 3 (some .boolean) 0 0 [.ref (q 0), .int x1] g r := by
  refine CTi.of2 (by decide) (EM_ok z) (Nat.le_of_ble_eq_true rfl) rfl (fun p e s m args below meth c A Q C hret => ?_)
  have jb2 : ∀ (kb2 : Int32 → Int32 → Sg → Option (Int32 × Sg)) (hkb2 : ∀ (x1 x2 : Int32) (g : Sg), kb2 x1 x2 g = some r → J p l e (RM 0 0) s m args below meth c D (mW q cI) A 3 Q g 2 [(0, .ref (q 0)), (1, .int x1), (2, .int x2)] []) (x1 x2 : Int32) (g : Sg), B_X7_digits_2 kb2 x1 x2 g = some r → J p l e (RM 0 0) s m args below meth c D (mW q cI) A 3 Q g 2 [(0, .ref (q 0)), (1, .int x1), (2, .int x2)] [] := by
    intro kb2 hkb2 x1 x2 g hM
    unfold B_X7_digits_2 at hM
    refine J.iload_n (pc := 2) C dX7_digits_2 rfl rfl ?_
    refine J.iload_n (pc := 3) C dX7_digits_3 rfl rfl ?_
    refine J.icmp_ge (pc := 4) C 79 dX7_digits_4 (by decide) (fun hc => ?_) (fun hc => ?_)
    · have hM := ite_t hc hM
      refine J.iconst (pc := 79) C 1 dX7_digits_79 ic_1 ?_
      exact hret dX7_digits_80 hM (by decide)
    · have hM := ite_f hc hM
      refine J.aload_n (pc := 7) C dX7_digits_7 rfl rfl ?_
      refine gf_X7_0_9 (pc := 8) C tf_X7_95 dX7_digits_8 ?_
      refine J.aload_n (pc := 11) C dX7_digits_11 rfl rfl ?_
      refine gf_X7_0_7 (pc := 12) C tf_X7_92 dX7_digits_12 ?_
      refine J.icmp_eq (pc := 15) C 46 dX7_digits_15 (by decide) (fun hc => ?_) (fun hc => ?_)
      · have hM := ite_t hc hM
        refine J.iconst (pc := 46) C 0 dX7_digits_46 ic_0 ?_
        exact hret dX7_digits_47 hM (by decide)
      · have hM := ite_f hc hM
        refine J.aload_n (pc := 18) C dX7_digits_18 rfl rfl ?_
        refine gf_X7_0_8 (pc := 19) C tf_X7_28 dX7_digits_19 ?_
        refine J.aload_n (pc := 22) C dX7_digits_22 rfl rfl ?_
        refine gf_X7_0_9 (pc := 23) C tf_X7_95 dX7_digits_23 ?_
        obtain ⟨hv, hM⟩ := chk_ex hM
        refine J.iald (pc := 26) C (im_7 q cI) hv dX7_digits_26 ?_
        refine J.bipush (pc := 27) C 48 dX7_digits_27 bp_48 ?_
        refine J.icmp_lt (pc := 29) C 46 dX7_digits_29 (by decide) (fun hc => ?_) (fun hc => ?_)
        · have hM := ite_t hc hM
          refine J.iconst (pc := 46) C 0 dX7_digits_46 ic_0 ?_
          exact hret dX7_digits_47 hM (by decide)
        · have hM := ite_f hc hM
          refine J.aload_n (pc := 32) C dX7_digits_32 rfl rfl ?_
          refine gf_X7_0_8 (pc := 33) C tf_X7_28 dX7_digits_33 ?_
          refine J.aload_n (pc := 36) C dX7_digits_36 rfl rfl ?_
          refine gf_X7_0_9 (pc := 37) C tf_X7_95 dX7_digits_37 ?_
          obtain ⟨hv, hM⟩ := chk_ex hM
          refine J.iald (pc := 40) C (im_7 q cI) hv dX7_digits_40 ?_
          refine J.bipush (pc := 41) C 57 dX7_digits_41 bp_57 ?_
          refine J.icmp_le (pc := 43) C 48 dX7_digits_43 (by decide) (fun hc => ?_) (fun hc => ?_)
          · have hM := ite_t hc hM
            refine J.aload_n (pc := 48) C dX7_digits_48 rfl rfl ?_
            refine gf_X7_0_10 (pc := 49) C tf_X7_31 dX7_digits_49 ?_
            refine J.iload_n (pc := 52) C dX7_digits_52 rfl rfl ?_
            refine J.aload_n (pc := 53) C dX7_digits_53 rfl rfl ?_
            refine gf_X7_0_8 (pc := 54) C tf_X7_28 dX7_digits_54 ?_
            refine J.aload_n (pc := 57) C dX7_digits_57 rfl rfl ?_
            refine J.dup (pc := 58) C dX7_digits_58 rfl ?_
            refine gf_X7_0_9 (pc := 59) C tf_X7_95 dX7_digits_59 ?_
            refine J.dup_x1 (pc := 62) C dX7_digits_62 rfl rfl ?_
            refine J.iconst (pc := 63) C 1 dX7_digits_63 ic_1 ?_
            refine J.iadd (pc := 64) C dX7_digits_64 ?_
            refine pf_X7_0_9 (pc := 65) C tf_X7_95 dX7_digits_65 ?_
            obtain ⟨_, ea, hM⟩ := lt_ex hM
            refine J.cong C ea ?_
            obtain ⟨hv, hM⟩ := chk_ex hM
            refine J.iald (pc := 68) C (im_7 q cI) hv dX7_digits_68 ?_
            refine J.bipush (pc := 69) C 48 dX7_digits_69 bp_48 ?_
            refine J.isub (pc := 71) C dX7_digits_71 ?_
            obtain ⟨hv, hM⟩ := chk_ex hM
            refine J.iast (pc := 72) C (im_8 q cI) hv dX7_digits_72 ?_
            obtain ⟨_, ea, hM⟩ := lt_ex hM
            refine J.cong C ea ?_
            refine J.iinc (pc := 73) C 1 dX7_digits_73 ic_1 rfl (by decide) ?_
            refine J.goto (pc := 76) C 2 dX7_digits_76 (by decide) ?_
            refine J.sub C [0, 1, 2] rfl ?_
            exact hkb2 _ _ _ hM
          · have hM := ite_f hc hM
            refine J.iconst (pc := 46) C 0 dX7_digits_46 ic_0 ?_
            exact hret dX7_digits_47 hM (by decide)
  have jl2 : ∀ (x1 x2 : Int32) (g : Sg), lup2 (B_X7_digits_2) FU x1 x2 g = some r → J p l e (RM 0 0) s m args below meth c D (mW q cI) A 3 Q g 2 [(0, .ref (q 0)), (1, .int x1), (2, .int x2)] [] := 
    lup2_ok (P := fun x1 x2 g => J p l e (RM 0 0) s m args below meth c D (mW q cI) A 3 Q g 2 [(0, .ref (q 0)), (1, .int x1), (2, .int x2)] []) (fun self hself => jb2 self hself) FU
  have hM := h
  unfold M_X7_digits at hM
  refine J.iconst (pc := 0) C 0 dX7_digits_0 ic_0 ?_
  refine J.istore_n (pc := 1) C dX7_digits_1 rfl (by decide) ?_
  refine J.sub C [0, 1, 2] rfl ?_
  exact jl2 _ _ _ hM
def M_X7_two (x1 : Int32) (g : Sg) : Option (Int32 × Sg) := chk x1 8 (chk (x1 + 1) 8 (some ((10 * (rd g 8 x1)) + (rd g 8 (x1 + 1)), g)))
set_option maxRecDepth 100000 in
set_option maxHeartbeats 4000000 in
theorem C_X7_two {l : Launch} {D : va_G} {q : Nat → Nat} {cI : ClassId} {z : Nat × Nat} {x1 : Int32} {g : Sg} {r : Int32 × Sg} (h : M_X7_two x1 g = some r) : CTi l (EM z) D cI (mW q cI) yX7_two cX7_two 2 (some .int) 0 0 [.ref (q 0), .int x1] g r := by
  refine CTi.of2 (by decide) (EM_ok z) (Nat.le_of_ble_eq_true rfl) rfl (fun p e s m args below meth c A Q C hret => ?_)
  have hM := h
  unfold M_X7_two at hM
  refine J.bipush (pc := 0) C 10 dX7_two_0 bp_10 ?_
  refine J.aload_n (pc := 2) C dX7_two_2 rfl rfl ?_
  refine gf_X7_0_10 (pc := 3) C tf_X7_31 dX7_two_3 ?_
  refine J.iload_n (pc := 6) C dX7_two_6 rfl rfl ?_
  obtain ⟨hv, hM⟩ := chk_ex hM
  refine J.iald (pc := 7) C (im_8 q cI) hv dX7_two_7 ?_
  refine J.imul (pc := 8) C dX7_two_8 ?_
  refine J.aload_n (pc := 9) C dX7_two_9 rfl rfl ?_
  refine gf_X7_0_10 (pc := 10) C tf_X7_31 dX7_two_10 ?_
  refine J.iload_n (pc := 13) C dX7_two_13 rfl rfl ?_
  refine J.iconst (pc := 14) C 1 dX7_two_14 ic_1 ?_
  refine J.iadd (pc := 15) C dX7_two_15 ?_
  obtain ⟨hv, hM⟩ := chk_ex hM
  refine J.iald (pc := 16) C (im_8 q cI) hv dX7_two_16 ?_
  refine J.iadd (pc := 17) C dX7_two_17 ?_
  exact hret dX7_two_18 hM rfl
def B_X7_statement_50 (x1 y0 : Int32) (g : Sg) : Option (Int32 × Sg) := (if 0 ≤ y0 then lt (sI g 2 ((g.1 2) + 1)) (fun g_41 => bI (M_X7_digits 7 g_41) (fun r_42 g_43 => (if r_42 = 0 then some ((-1), g_43) else (if x1 = 0 then some (1, g_43) else bI (M_X7_two 1 g_43) (fun r_44 g_45 => (if (V_X7_isCell r_44 g_45) = 0 then some (0, g_45) else bI (M_X7_two 3 g_45) (fun r_46 g_47 => (if (V_X7_isCell r_46 g_47) = 0 then some (0, g_47) else bI (M_X7_two 5 g_47) (fun r_48 g_49 => (if (V_X7_isHour r_48 g_49) = 0 then some (0, g_49) else (if (g_49.1 0) = 7 then some (0, g_49) else chk (g_49.1 0) 7 (lt (wr g_49 1 (g_49.1 0) y0) (fun g_50 => chk (g_50.1 0) 7 (lt (wr g_50 2 (g_50.1 0) (rd g_50 8 0)) (fun g_51 => bI (M_X7_two 1 g_51) (fun r_52 g_53 => chk (g_51.1 0) 7 (lt (wr g_53 3 (g_51.1 0) r_52) (fun g_54 => bI (M_X7_two 3 g_54) (fun r_55 g_56 => chk (g_54.1 0) 7 (lt (wr g_56 4 (g_54.1 0) r_55) (fun g_57 => bI (M_X7_two 5 g_57) (fun r_58 g_59 => chk (g_57.1 0) 7 (lt (wr g_59 5 (g_57.1 0) r_58) (fun g_60 => lt (sI g_60 0 ((g_60.1 0) + 1)) (fun g_61 => some (1, g_61)))))))))))))))))))))))))) else some ((-1), g))
def M_X7_statement (x1 : Int32) (g : Sg) : Option (Int32 × Sg) := bI (M_X7_is 103 g) (fun r_1 g_2 => (if r_1 = 0 then bI (M_X7_is 112 g_2) (fun r_3 g_4 => (if r_3 = 0 then bI (M_X7_is 111 g_4) (fun r_5 g_6 => (if r_5 = 0 then bI (M_X7_is 100 g_6) (fun r_7 g_8 => (if r_7 = 0 then bI (M_X7_is 120 g_8) (fun r_9 g_10 => (if r_9 = 0 then bI (M_X7_is 104 g_10) (fun r_11 g_12 => (if r_11 = 0 then some ((-1), g_12) else bI (M_X7_digits 3 g_12) (fun r_13 g_14 => (if r_13 = 0 then some ((-1), g_14) else (if x1 = 0 then some (1, g_14) else (if (V_X7_isGoer (rd g_14 8 0) g_14) = 0 then some (0, g_14) else bI (M_X7_two 1 g_14) (fun r_15 g_16 => (if (V_X7_isHour r_15 g_16) = 0 then some (0, g_16) else bI (M_X7_two 1 g_16) (fun r_17 g_18 => chk (rd g_16 8 0) 7 (lt (wr g_18 5 (rd g_16 8 0) r_17) (fun g_19 => some (1, g_19)))))))))))) else bI (M_X7_digits 2 g_10) (fun r_20 g_21 => (if r_20 = 0 then some ((-1), g_21) else (if x1 = 0 then some (1, g_21) else (if (V_X7_isGoer (rd g_21 8 0) g_21) = 0 then some (0, g_21) else (if (V_X7_isGoer (rd g_21 8 1) g_21) = 0 then some (0, g_21) else (if (rd g_21 8 0) = (rd g_21 8 1) then some (0, g_21) else chk (rd g_21 8 0) 7 (lt (rd g_21 5 (rd g_21 8 0)) (fun x2_22 => chk (rd g_21 8 1) 7 (chk (rd g_21 8 0) 7 (lt (wr g_21 5 (rd g_21 8 0) (rd g_21 5 (rd g_21 8 1))) (fun g_23 => chk (rd g_23 8 1) 7 (lt (wr g_23 5 (rd g_23 8 1) x2_22) (fun g_24 => some (1, g_24)))))))))))))))) else bI (M_X7_digits 1 g_8) (fun r_25 g_26 => (if r_25 = 0 then some ((-1), g_26) else (if x1 = 0 then some (1, g_26) else lt (wr g_26 6 2 (rd g_26 8 0)) (fun g_27 => some (1, g_27))))))) else bI (M_X7_digits 3 g_6) (fun r_28 g_29 => (if r_28 = 0 then some ((-1), g_29) else (if x1 = 0 then some (1, g_29) else bI (M_X7_two 1 g_29) (fun r_30 g_31 => lt ((100 * (rd g_29 8 0)) + r_30) (fun x2_32 => (if x2_32 ≤ 200 then lt (wr g_31 6 1 x2_32) (fun g_33 => some (1, g_33)) else some (0, g_31))))))))) else bI (M_X7_digits 2 g_4) (fun r_34 g_35 => (if r_34 = 0 then some ((-1), g_35) else (if x1 = 0 then some (1, g_35) else bI (M_X7_two 0 g_35) (fun r_36 g_37 => (if (V_X7_isCell r_36 g_37) = 0 then some (0, g_37) else bI (M_X7_two 0 g_37) (fun r_38 g_39 => lt (wr g_39 6 0 r_38) (fun g_40 => some (1, g_40)))))))))) else (if (g_2.1 1) ≤ (g_2.1 2) then B_X7_statement_50 x1 (-1) g_2 else chk (g_2.1 2) 96 ((if (rd g_2 7 (g_2.1 2)) ≤ 0 then B_X7_statement_50 x1 (-1) g_2 else chk (g_2.1 2) 96 (B_X7_statement_50 x1 (sidx (rd g_2 7 (g_2.1 2))) g_2))))))
set_option maxRecDepth 100000 in
set_option maxHeartbeats 4000000 in
theorem C_X7_statement {l : Launch} {D : va_G} {q : Nat → Nat} {cI : ClassId} {z : Nat × Nat} {x1 : Int32} {g : Sg} {r : Int32 × Sg} (h : M_X7_statement x1 g = some r) : CTi l (EM z) D cI (mW q cI) yX7_statement cX7_statement 3 (some .int) 5 150 [.ref (q 0), .int x1] g r := by
  refine CTi.of2 (by decide) (EM_ok z) (Nat.le_of_ble_eq_true rfl) rfl (fun p e s m args below meth c A Q C hret => ?_)
  have jb50 : ∀ (x1 y0 : Int32) (g : Sg), B_X7_statement_50 x1 y0 g = some r → J p l e (RM 5 150) s m args below meth c D (mW q cI) A 3 Q g 50 [(0, .ref (q 0)), (1, .int x1)] [.int y0] := by
    intro x1 y0 g hM
    unfold B_X7_statement_50 at hM
    refine J.istore_n (pc := 50) C dX7_statement_50 rfl (by decide) ?_
    refine J.iload_n (pc := 51) C dX7_statement_51 rfl rfl ?_
    refine J.if_ge (pc := 52) C 57 dX7_statement_52 (by decide) (fun hc => ?_) (fun hc => ?_)
    · have hM := ite_t hc hM
      refine J.aload_n (pc := 57) C dX7_statement_57 rfl rfl ?_
      refine J.dup (pc := 58) C dX7_statement_58 rfl ?_
      refine gf_X7_0_9 (pc := 59) C tf_X7_95 dX7_statement_59 ?_
      refine J.iconst (pc := 62) C 1 dX7_statement_62 ic_1 ?_
      refine J.iadd (pc := 63) C dX7_statement_63 ?_
      refine pf_X7_0_9 (pc := 64) C tf_X7_95 dX7_statement_64 ?_
      obtain ⟨_, ea, hM⟩ := lt_ex hM
      refine J.cong C ea ?_
      refine J.aload_n (pc := 67) C dX7_statement_67 rfl rfl ?_
      refine J.bipush (pc := 68) C 7 dX7_statement_68 bp_7 ?_
      obtain ⟨_, _, h1, hM⟩ := bI_ex hM
      refine J.callV1i (pc := 70) C (C_X7_digits h1) lk_X7_digits tm_X7_109 (io_m q cI) ⟨Nat.le_of_ble_eq_true rfl, Nat.le_of_ble_eq_true rfl⟩ (Nat.le_of_ble_eq_true rfl) dX7_statement_70 ?_
      refine J.if_ne (pc := 73) C 78 dX7_statement_73 (by decide) (fun hc => ?_) (fun hc => ?_)
      · have hM := ite_f hc hM
        refine J.iload_n (pc := 78) C dX7_statement_78 rfl rfl ?_
        refine J.if_ne (pc := 79) C 84 dX7_statement_79 (by decide) (fun hc => ?_) (fun hc => ?_)
        · have hM := ite_f hc hM
          refine J.aload_n (pc := 84) C dX7_statement_84 rfl rfl ?_
          refine J.iconst (pc := 85) C 1 dX7_statement_85 ic_1 ?_
          obtain ⟨_, _, h1, hM⟩ := bI_ex hM
          refine J.callV1i (pc := 86) C (C_X7_two h1) lk_X7_two tm_X7_112 (io_m q cI) ⟨Nat.le_of_ble_eq_true rfl, Nat.le_of_ble_eq_true rfl⟩ (Nat.le_of_ble_eq_true rfl) dX7_statement_86 ?_
          refine J.callS1i (pc := 89) C (K_X7_isCell _ _) lk_X7_isCell tm_X7_115 ⟨Nat.le_of_ble_eq_true rfl, Nat.le_of_ble_eq_true rfl⟩ (Nat.le_of_ble_eq_true rfl) dX7_statement_89 ?_
          refine J.if_eq (pc := 92) C 126 dX7_statement_92 (by decide) (fun hc => ?_) (fun hc => ?_)
          · have hM := ite_t hc hM
            refine J.iconst (pc := 126) C 0 dX7_statement_126 ic_0 ?_
            exact hret dX7_statement_127 hM rfl
          · have hM := ite_f hc hM
            refine J.aload_n (pc := 95) C dX7_statement_95 rfl rfl ?_
            refine J.iconst (pc := 96) C 3 dX7_statement_96 ic_3 ?_
            obtain ⟨_, _, h1, hM⟩ := bI_ex hM
            refine J.callV1i (pc := 97) C (C_X7_two h1) lk_X7_two tm_X7_112 (io_m q cI) ⟨Nat.le_of_ble_eq_true rfl, Nat.le_of_ble_eq_true rfl⟩ (Nat.le_of_ble_eq_true rfl) dX7_statement_97 ?_
            refine J.callS1i (pc := 100) C (K_X7_isCell _ _) lk_X7_isCell tm_X7_115 ⟨Nat.le_of_ble_eq_true rfl, Nat.le_of_ble_eq_true rfl⟩ (Nat.le_of_ble_eq_true rfl) dX7_statement_100 ?_
            refine J.if_eq (pc := 103) C 126 dX7_statement_103 (by decide) (fun hc => ?_) (fun hc => ?_)
            · have hM := ite_t hc hM
              refine J.iconst (pc := 126) C 0 dX7_statement_126 ic_0 ?_
              exact hret dX7_statement_127 hM rfl
            · have hM := ite_f hc hM
              refine J.aload_n (pc := 106) C dX7_statement_106 rfl rfl ?_
              refine J.iconst (pc := 107) C 5 dX7_statement_107 ic_5 ?_
              obtain ⟨_, _, h1, hM⟩ := bI_ex hM
              refine J.callV1i (pc := 108) C (C_X7_two h1) lk_X7_two tm_X7_112 (io_m q cI) ⟨Nat.le_of_ble_eq_true rfl, Nat.le_of_ble_eq_true rfl⟩ (Nat.le_of_ble_eq_true rfl) dX7_statement_108 ?_
              refine J.callS1i (pc := 111) C (K_X7_isHour _ _) lk_X7_isHour tm_X7_118 ⟨Nat.le_of_ble_eq_true rfl, Nat.le_of_ble_eq_true rfl⟩ (Nat.le_of_ble_eq_true rfl) dX7_statement_111 ?_
              refine J.if_eq (pc := 114) C 126 dX7_statement_114 (by decide) (fun hc => ?_) (fun hc => ?_)
              · have hM := ite_t hc hM
                refine J.iconst (pc := 126) C 0 dX7_statement_126 ic_0 ?_
                exact hret dX7_statement_127 hM rfl
              · have hM := ite_f hc hM
                refine J.aload_n (pc := 117) C dX7_statement_117 rfl rfl ?_
                refine gf_X7_0_0 (pc := 118) C tf_X7_84 dX7_statement_118 ?_
                refine J.bipush (pc := 121) C 7 dX7_statement_121 bp_7 ?_
                refine J.icmp_ne (pc := 123) C 128 dX7_statement_123 (by decide) (fun hc => ?_) (fun hc => ?_)
                · have hM := ite_f hc hM
                  refine J.aload_n (pc := 128) C dX7_statement_128 rfl rfl ?_
                  refine gf_X7_0_1 (pc := 129) C tf_X7_7 dX7_statement_129 ?_
                  refine J.aload_n (pc := 132) C dX7_statement_132 rfl rfl ?_
                  refine gf_X7_0_0 (pc := 133) C tf_X7_84 dX7_statement_133 ?_
                  refine J.iload_n (pc := 136) C dX7_statement_136 rfl rfl ?_
                  obtain ⟨hv, hM⟩ := chk_ex hM
                  refine J.iast (pc := 137) C (im_1 q cI) hv dX7_statement_137 ?_
                  obtain ⟨_, ea, hM⟩ := lt_ex hM
                  refine J.cong C ea ?_
                  refine J.aload_n (pc := 138) C dX7_statement_138 rfl rfl ?_
                  refine gf_X7_0_2 (pc := 139) C tf_X7_13 dX7_statement_139 ?_
                  refine J.aload_n (pc := 142) C dX7_statement_142 rfl rfl ?_
                  refine gf_X7_0_0 (pc := 143) C tf_X7_84 dX7_statement_143 ?_
                  refine J.aload_n (pc := 146) C dX7_statement_146 rfl rfl ?_
                  refine gf_X7_0_10 (pc := 147) C tf_X7_31 dX7_statement_147 ?_
                  refine J.iconst (pc := 150) C 0 dX7_statement_150 ic_0 ?_
                  refine J.iald (pc := 151) C (im_8 q cI) (vpl rfl) dX7_statement_151 ?_
                  obtain ⟨hv, hM⟩ := chk_ex hM
                  refine J.iast (pc := 152) C (im_2 q cI) hv dX7_statement_152 ?_
                  obtain ⟨_, ea, hM⟩ := lt_ex hM
                  refine J.cong C ea ?_
                  refine J.aload_n (pc := 153) C dX7_statement_153 rfl rfl ?_
                  refine gf_X7_0_3 (pc := 154) C tf_X7_16 dX7_statement_154 ?_
                  refine J.aload_n (pc := 157) C dX7_statement_157 rfl rfl ?_
                  refine gf_X7_0_0 (pc := 158) C tf_X7_84 dX7_statement_158 ?_
                  refine J.aload_n (pc := 161) C dX7_statement_161 rfl rfl ?_
                  refine J.iconst (pc := 162) C 1 dX7_statement_162 ic_1 ?_
                  obtain ⟨_, _, h1, hM⟩ := bI_ex hM
                  refine J.callV1i (pc := 163) C (C_X7_two h1) lk_X7_two tm_X7_112 (io_m q cI) ⟨Nat.le_of_ble_eq_true rfl, Nat.le_of_ble_eq_true rfl⟩ (Nat.le_of_ble_eq_true rfl) dX7_statement_163 ?_
                  obtain ⟨hv, hM⟩ := chk_ex hM
                  refine J.iast (pc := 166) C (im_3 q cI) hv dX7_statement_166 ?_
                  obtain ⟨_, ea, hM⟩ := lt_ex hM
                  refine J.cong C ea ?_
                  refine J.aload_n (pc := 167) C dX7_statement_167 rfl rfl ?_
                  refine gf_X7_0_4 (pc := 168) C tf_X7_19 dX7_statement_168 ?_
                  refine J.aload_n (pc := 171) C dX7_statement_171 rfl rfl ?_
                  refine gf_X7_0_0 (pc := 172) C tf_X7_84 dX7_statement_172 ?_
                  refine J.aload_n (pc := 175) C dX7_statement_175 rfl rfl ?_
                  refine J.iconst (pc := 176) C 3 dX7_statement_176 ic_3 ?_
                  obtain ⟨_, _, h1, hM⟩ := bI_ex hM
                  refine J.callV1i (pc := 177) C (C_X7_two h1) lk_X7_two tm_X7_112 (io_m q cI) ⟨Nat.le_of_ble_eq_true rfl, Nat.le_of_ble_eq_true rfl⟩ (Nat.le_of_ble_eq_true rfl) dX7_statement_177 ?_
                  obtain ⟨hv, hM⟩ := chk_ex hM
                  refine J.iast (pc := 180) C (im_4 q cI) hv dX7_statement_180 ?_
                  obtain ⟨_, ea, hM⟩ := lt_ex hM
                  refine J.cong C ea ?_
                  refine J.aload_n (pc := 181) C dX7_statement_181 rfl rfl ?_
                  refine gf_X7_0_5 (pc := 182) C tf_X7_22 dX7_statement_182 ?_
                  refine J.aload_n (pc := 185) C dX7_statement_185 rfl rfl ?_
                  refine gf_X7_0_0 (pc := 186) C tf_X7_84 dX7_statement_186 ?_
                  refine J.aload_n (pc := 189) C dX7_statement_189 rfl rfl ?_
                  refine J.iconst (pc := 190) C 5 dX7_statement_190 ic_5 ?_
                  obtain ⟨_, _, h1, hM⟩ := bI_ex hM
                  refine J.callV1i (pc := 191) C (C_X7_two h1) lk_X7_two tm_X7_112 (io_m q cI) ⟨Nat.le_of_ble_eq_true rfl, Nat.le_of_ble_eq_true rfl⟩ (Nat.le_of_ble_eq_true rfl) dX7_statement_191 ?_
                  obtain ⟨hv, hM⟩ := chk_ex hM
                  refine J.iast (pc := 194) C (im_5 q cI) hv dX7_statement_194 ?_
                  obtain ⟨_, ea, hM⟩ := lt_ex hM
                  refine J.cong C ea ?_
                  refine J.aload_n (pc := 195) C dX7_statement_195 rfl rfl ?_
                  refine J.dup (pc := 196) C dX7_statement_196 rfl ?_
                  refine gf_X7_0_0 (pc := 197) C tf_X7_84 dX7_statement_197 ?_
                  refine J.iconst (pc := 200) C 1 dX7_statement_200 ic_1 ?_
                  refine J.iadd (pc := 201) C dX7_statement_201 ?_
                  refine pf_X7_0_0 (pc := 202) C tf_X7_84 dX7_statement_202 ?_
                  obtain ⟨_, ea, hM⟩ := lt_ex hM
                  refine J.cong C ea ?_
                  refine J.iconst (pc := 205) C 1 dX7_statement_205 ic_1 ?_
                  exact hret dX7_statement_206 hM rfl
                · have hM := ite_t hc hM
                  refine J.iconst (pc := 126) C 0 dX7_statement_126 ic_0 ?_
                  exact hret dX7_statement_127 hM rfl
        · have hM := ite_t hc hM
          refine J.iconst (pc := 82) C 1 dX7_statement_82 ic_1 ?_
          exact hret dX7_statement_83 hM rfl
      · have hM := ite_t hc hM
        refine J.iconst (pc := 76) C (-1) dX7_statement_76 ic_m1 ?_
        exact hret dX7_statement_77 hM rfl
    · have hM := ite_f hc hM
      refine J.iconst (pc := 55) C (-1) dX7_statement_55 ic_m1 ?_
      exact hret dX7_statement_56 hM rfl
  have hM := h
  unfold M_X7_statement at hM
  refine J.aload_n (pc := 0) C dX7_statement_0 rfl rfl ?_
  refine J.bipush (pc := 1) C 103 dX7_statement_1 bp_103 ?_
  obtain ⟨_, _, h1, hM⟩ := bI_ex hM
  refine J.callV1i (pc := 3) C (C_X7_is h1) lk_X7_is tm_X7_98 (io_m q cI) ⟨Nat.le_of_ble_eq_true rfl, Nat.le_of_ble_eq_true rfl⟩ (Nat.le_of_ble_eq_true rfl) dX7_statement_3 ?_
  refine J.if_eq (pc := 6) C 207 dX7_statement_6 (by decide) (fun hc => ?_) (fun hc => ?_)
  · have hM := ite_t hc hM
    refine J.aload_n (pc := 207) C dX7_statement_207 rfl rfl ?_
    refine J.bipush (pc := 208) C 112 dX7_statement_208 bp_112 ?_
    obtain ⟨_, _, h1, hM⟩ := bI_ex hM
    refine J.callV1i (pc := 210) C (C_X7_is h1) lk_X7_is tm_X7_98 (io_m q cI) ⟨Nat.le_of_ble_eq_true rfl, Nat.le_of_ble_eq_true rfl⟩ (Nat.le_of_ble_eq_true rfl) dX7_statement_210 ?_
    refine J.if_eq (pc := 213) C 258 dX7_statement_213 (by decide) (fun hc => ?_) (fun hc => ?_)
    · have hM := ite_t hc hM
      refine J.aload_n (pc := 258) C dX7_statement_258 rfl rfl ?_
      refine J.bipush (pc := 259) C 111 dX7_statement_259 bp_111 ?_
      obtain ⟨_, _, h1, hM⟩ := bI_ex hM
      refine J.callV1i (pc := 261) C (C_X7_is h1) lk_X7_is tm_X7_98 (io_m q cI) ⟨Nat.le_of_ble_eq_true rfl, Nat.le_of_ble_eq_true rfl⟩ (Nat.le_of_ble_eq_true rfl) dX7_statement_261 ?_
      refine J.if_eq (pc := 264) C 317 dX7_statement_264 (by decide) (fun hc => ?_) (fun hc => ?_)
      · have hM := ite_t hc hM
        refine J.aload_n (pc := 317) C dX7_statement_317 rfl rfl ?_
        refine J.bipush (pc := 318) C 100 dX7_statement_318 bp_100 ?_
        obtain ⟨_, _, h1, hM⟩ := bI_ex hM
        refine J.callV1i (pc := 320) C (C_X7_is h1) lk_X7_is tm_X7_98 (io_m q cI) ⟨Nat.le_of_ble_eq_true rfl, Nat.le_of_ble_eq_true rfl⟩ (Nat.le_of_ble_eq_true rfl) dX7_statement_320 ?_
        refine J.if_eq (pc := 323) C 354 dX7_statement_323 (by decide) (fun hc => ?_) (fun hc => ?_)
        · have hM := ite_t hc hM
          refine J.aload_n (pc := 354) C dX7_statement_354 rfl rfl ?_
          refine J.bipush (pc := 355) C 120 dX7_statement_355 bp_120 ?_
          obtain ⟨_, _, h1, hM⟩ := bI_ex hM
          refine J.callV1i (pc := 357) C (C_X7_is h1) lk_X7_is tm_X7_98 (io_m q cI) ⟨Nat.le_of_ble_eq_true rfl, Nat.le_of_ble_eq_true rfl⟩ (Nat.le_of_ble_eq_true rfl) dX7_statement_357 ?_
          refine J.if_eq (pc := 360) C 470 dX7_statement_360 (by decide) (fun hc => ?_) (fun hc => ?_)
          · have hM := ite_t hc hM
            refine J.aload_n (pc := 470) C dX7_statement_470 rfl rfl ?_
            refine J.bipush (pc := 471) C 104 dX7_statement_471 bp_104 ?_
            obtain ⟨_, _, h1, hM⟩ := bI_ex hM
            refine J.callV1i (pc := 473) C (C_X7_is h1) lk_X7_is tm_X7_98 (io_m q cI) ⟨Nat.le_of_ble_eq_true rfl, Nat.le_of_ble_eq_true rfl⟩ (Nat.le_of_ble_eq_true rfl) dX7_statement_473 ?_
            refine J.if_eq (pc := 476) C 487 dX7_statement_476 (by decide) (fun hc => ?_) (fun hc => ?_)
            · have hM := ite_t hc hM
              refine J.iconst (pc := 487) C (-1) dX7_statement_487 ic_m1 ?_
              exact hret dX7_statement_488 hM rfl
            · have hM := ite_f hc hM
              refine J.aload_n (pc := 479) C dX7_statement_479 rfl rfl ?_
              refine J.iconst (pc := 480) C 3 dX7_statement_480 ic_3 ?_
              obtain ⟨_, _, h1, hM⟩ := bI_ex hM
              refine J.callV1i (pc := 481) C (C_X7_digits h1) lk_X7_digits tm_X7_109 (io_m q cI) ⟨Nat.le_of_ble_eq_true rfl, Nat.le_of_ble_eq_true rfl⟩ (Nat.le_of_ble_eq_true rfl) dX7_statement_481 ?_
              refine J.if_ne (pc := 484) C 489 dX7_statement_484 (by decide) (fun hc => ?_) (fun hc => ?_)
              · have hM := ite_f hc hM
                refine J.iload_n (pc := 489) C dX7_statement_489 rfl rfl ?_
                refine J.if_ne (pc := 490) C 495 dX7_statement_490 (by decide) (fun hc => ?_) (fun hc => ?_)
                · have hM := ite_f hc hM
                  refine J.aload_n (pc := 495) C dX7_statement_495 rfl rfl ?_
                  refine J.aload_n (pc := 496) C dX7_statement_496 rfl rfl ?_
                  refine gf_X7_0_10 (pc := 497) C tf_X7_31 dX7_statement_497 ?_
                  refine J.iconst (pc := 500) C 0 dX7_statement_500 ic_0 ?_
                  refine J.iald (pc := 501) C (im_8 q cI) (vpl rfl) dX7_statement_501 ?_
                  refine J.callV1i (pc := 502) C (K_X7_isGoer _ _) lk_X7_isGoer tm_X7_121 (io_m q cI) ⟨Nat.le_of_ble_eq_true rfl, Nat.le_of_ble_eq_true rfl⟩ (Nat.le_of_ble_eq_true rfl) dX7_statement_502 ?_
                  refine J.if_eq (pc := 505) C 519 dX7_statement_505 (by decide) (fun hc => ?_) (fun hc => ?_)
                  · have hM := ite_t hc hM
                    refine J.iconst (pc := 519) C 0 dX7_statement_519 ic_0 ?_
                    exact hret dX7_statement_520 hM rfl
                  · have hM := ite_f hc hM
                    refine J.aload_n (pc := 508) C dX7_statement_508 rfl rfl ?_
                    refine J.iconst (pc := 509) C 1 dX7_statement_509 ic_1 ?_
                    obtain ⟨_, _, h1, hM⟩ := bI_ex hM
                    refine J.callV1i (pc := 510) C (C_X7_two h1) lk_X7_two tm_X7_112 (io_m q cI) ⟨Nat.le_of_ble_eq_true rfl, Nat.le_of_ble_eq_true rfl⟩ (Nat.le_of_ble_eq_true rfl) dX7_statement_510 ?_
                    refine J.callS1i (pc := 513) C (K_X7_isHour _ _) lk_X7_isHour tm_X7_118 ⟨Nat.le_of_ble_eq_true rfl, Nat.le_of_ble_eq_true rfl⟩ (Nat.le_of_ble_eq_true rfl) dX7_statement_513 ?_
                    refine J.if_ne (pc := 516) C 521 dX7_statement_516 (by decide) (fun hc => ?_) (fun hc => ?_)
                    · have hM := ite_f hc hM
                      refine J.aload_n (pc := 521) C dX7_statement_521 rfl rfl ?_
                      refine gf_X7_0_5 (pc := 522) C tf_X7_22 dX7_statement_522 ?_
                      refine J.aload_n (pc := 525) C dX7_statement_525 rfl rfl ?_
                      refine gf_X7_0_10 (pc := 526) C tf_X7_31 dX7_statement_526 ?_
                      refine J.iconst (pc := 529) C 0 dX7_statement_529 ic_0 ?_
                      refine J.iald (pc := 530) C (im_8 q cI) (vpl rfl) dX7_statement_530 ?_
                      refine J.aload_n (pc := 531) C dX7_statement_531 rfl rfl ?_
                      refine J.iconst (pc := 532) C 1 dX7_statement_532 ic_1 ?_
                      obtain ⟨_, _, h1, hM⟩ := bI_ex hM
                      refine J.callV1i (pc := 533) C (C_X7_two h1) lk_X7_two tm_X7_112 (io_m q cI) ⟨Nat.le_of_ble_eq_true rfl, Nat.le_of_ble_eq_true rfl⟩ (Nat.le_of_ble_eq_true rfl) dX7_statement_533 ?_
                      obtain ⟨hv, hM⟩ := chk_ex hM
                      refine J.iast (pc := 536) C (im_5 q cI) hv dX7_statement_536 ?_
                      obtain ⟨_, ea, hM⟩ := lt_ex hM
                      refine J.cong C ea ?_
                      refine J.iconst (pc := 537) C 1 dX7_statement_537 ic_1 ?_
                      exact hret dX7_statement_538 hM rfl
                    · have hM := ite_t hc hM
                      refine J.iconst (pc := 519) C 0 dX7_statement_519 ic_0 ?_
                      exact hret dX7_statement_520 hM rfl
                · have hM := ite_t hc hM
                  refine J.iconst (pc := 493) C 1 dX7_statement_493 ic_1 ?_
                  exact hret dX7_statement_494 hM rfl
              · have hM := ite_t hc hM
                refine J.iconst (pc := 487) C (-1) dX7_statement_487 ic_m1 ?_
                exact hret dX7_statement_488 hM rfl
          · have hM := ite_f hc hM
            refine J.aload_n (pc := 363) C dX7_statement_363 rfl rfl ?_
            refine J.iconst (pc := 364) C 2 dX7_statement_364 ic_2 ?_
            obtain ⟨_, _, h1, hM⟩ := bI_ex hM
            refine J.callV1i (pc := 365) C (C_X7_digits h1) lk_X7_digits tm_X7_109 (io_m q cI) ⟨Nat.le_of_ble_eq_true rfl, Nat.le_of_ble_eq_true rfl⟩ (Nat.le_of_ble_eq_true rfl) dX7_statement_365 ?_
            refine J.if_ne (pc := 368) C 373 dX7_statement_368 (by decide) (fun hc => ?_) (fun hc => ?_)
            · have hM := ite_f hc hM
              refine J.iload_n (pc := 373) C dX7_statement_373 rfl rfl ?_
              refine J.if_ne (pc := 374) C 379 dX7_statement_374 (by decide) (fun hc => ?_) (fun hc => ?_)
              · have hM := ite_f hc hM
                refine J.aload_n (pc := 379) C dX7_statement_379 rfl rfl ?_
                refine J.aload_n (pc := 380) C dX7_statement_380 rfl rfl ?_
                refine gf_X7_0_10 (pc := 381) C tf_X7_31 dX7_statement_381 ?_
                refine J.iconst (pc := 384) C 0 dX7_statement_384 ic_0 ?_
                refine J.iald (pc := 385) C (im_8 q cI) (vpl rfl) dX7_statement_385 ?_
                refine J.callV1i (pc := 386) C (K_X7_isGoer _ _) lk_X7_isGoer tm_X7_121 (io_m q cI) ⟨Nat.le_of_ble_eq_true rfl, Nat.le_of_ble_eq_true rfl⟩ (Nat.le_of_ble_eq_true rfl) dX7_statement_386 ?_
                refine J.if_eq (pc := 389) C 420 dX7_statement_389 (by decide) (fun hc => ?_) (fun hc => ?_)
                · have hM := ite_t hc hM
                  refine J.iconst (pc := 420) C 0 dX7_statement_420 ic_0 ?_
                  exact hret dX7_statement_421 hM rfl
                · have hM := ite_f hc hM
                  refine J.aload_n (pc := 392) C dX7_statement_392 rfl rfl ?_
                  refine J.aload_n (pc := 393) C dX7_statement_393 rfl rfl ?_
                  refine gf_X7_0_10 (pc := 394) C tf_X7_31 dX7_statement_394 ?_
                  refine J.iconst (pc := 397) C 1 dX7_statement_397 ic_1 ?_
                  refine J.iald (pc := 398) C (im_8 q cI) (vpl rfl) dX7_statement_398 ?_
                  refine J.callV1i (pc := 399) C (K_X7_isGoer _ _) lk_X7_isGoer tm_X7_121 (io_m q cI) ⟨Nat.le_of_ble_eq_true rfl, Nat.le_of_ble_eq_true rfl⟩ (Nat.le_of_ble_eq_true rfl) dX7_statement_399 ?_
                  refine J.if_eq (pc := 402) C 420 dX7_statement_402 (by decide) (fun hc => ?_) (fun hc => ?_)
                  · have hM := ite_t hc hM
                    refine J.iconst (pc := 420) C 0 dX7_statement_420 ic_0 ?_
                    exact hret dX7_statement_421 hM rfl
                  · have hM := ite_f hc hM
                    refine J.aload_n (pc := 405) C dX7_statement_405 rfl rfl ?_
                    refine gf_X7_0_10 (pc := 406) C tf_X7_31 dX7_statement_406 ?_
                    refine J.iconst (pc := 409) C 0 dX7_statement_409 ic_0 ?_
                    refine J.iald (pc := 410) C (im_8 q cI) (vpl rfl) dX7_statement_410 ?_
                    refine J.aload_n (pc := 411) C dX7_statement_411 rfl rfl ?_
                    refine gf_X7_0_10 (pc := 412) C tf_X7_31 dX7_statement_412 ?_
                    refine J.iconst (pc := 415) C 1 dX7_statement_415 ic_1 ?_
                    refine J.iald (pc := 416) C (im_8 q cI) (vpl rfl) dX7_statement_416 ?_
                    refine J.icmp_ne (pc := 417) C 422 dX7_statement_417 (by decide) (fun hc => ?_) (fun hc => ?_)
                    · have hM := ite_f hc hM
                      refine J.aload_n (pc := 422) C dX7_statement_422 rfl rfl ?_
                      refine gf_X7_0_5 (pc := 423) C tf_X7_22 dX7_statement_423 ?_
                      refine J.aload_n (pc := 426) C dX7_statement_426 rfl rfl ?_
                      refine gf_X7_0_10 (pc := 427) C tf_X7_31 dX7_statement_427 ?_
                      refine J.iconst (pc := 430) C 0 dX7_statement_430 ic_0 ?_
                      refine J.iald (pc := 431) C (im_8 q cI) (vpl rfl) dX7_statement_431 ?_
                      obtain ⟨hv, hM⟩ := chk_ex hM
                      refine J.iald (pc := 432) C (im_5 q cI) hv dX7_statement_432 ?_
                      obtain ⟨_, ea, hM⟩ := lt_ex hM
                      refine J.istore_nV (pc := 433) C dX7_statement_433 rfl (by decide) ea ?_
                      refine J.aload_n (pc := 434) C dX7_statement_434 rfl rfl ?_
                      refine gf_X7_0_5 (pc := 435) C tf_X7_22 dX7_statement_435 ?_
                      refine J.aload_n (pc := 438) C dX7_statement_438 rfl rfl ?_
                      refine gf_X7_0_10 (pc := 439) C tf_X7_31 dX7_statement_439 ?_
                      refine J.iconst (pc := 442) C 0 dX7_statement_442 ic_0 ?_
                      refine J.iald (pc := 443) C (im_8 q cI) (vpl rfl) dX7_statement_443 ?_
                      refine J.aload_n (pc := 444) C dX7_statement_444 rfl rfl ?_
                      refine gf_X7_0_5 (pc := 445) C tf_X7_22 dX7_statement_445 ?_
                      refine J.aload_n (pc := 448) C dX7_statement_448 rfl rfl ?_
                      refine gf_X7_0_10 (pc := 449) C tf_X7_31 dX7_statement_449 ?_
                      refine J.iconst (pc := 452) C 1 dX7_statement_452 ic_1 ?_
                      refine J.iald (pc := 453) C (im_8 q cI) (vpl rfl) dX7_statement_453 ?_
                      obtain ⟨hv, hM⟩ := chk_ex hM
                      refine J.iald (pc := 454) C (im_5 q cI) hv dX7_statement_454 ?_
                      obtain ⟨hv, hM⟩ := chk_ex hM
                      refine J.iast (pc := 455) C (im_5 q cI) hv dX7_statement_455 ?_
                      obtain ⟨_, ea, hM⟩ := lt_ex hM
                      refine J.cong C ea ?_
                      refine J.aload_n (pc := 456) C dX7_statement_456 rfl rfl ?_
                      refine gf_X7_0_5 (pc := 457) C tf_X7_22 dX7_statement_457 ?_
                      refine J.aload_n (pc := 460) C dX7_statement_460 rfl rfl ?_
                      refine gf_X7_0_10 (pc := 461) C tf_X7_31 dX7_statement_461 ?_
                      refine J.iconst (pc := 464) C 1 dX7_statement_464 ic_1 ?_
                      refine J.iald (pc := 465) C (im_8 q cI) (vpl rfl) dX7_statement_465 ?_
                      refine J.iload_n (pc := 466) C dX7_statement_466 rfl rfl ?_
                      obtain ⟨hv, hM⟩ := chk_ex hM
                      refine J.iast (pc := 467) C (im_5 q cI) hv dX7_statement_467 ?_
                      obtain ⟨_, ea, hM⟩ := lt_ex hM
                      refine J.cong C ea ?_
                      refine J.iconst (pc := 468) C 1 dX7_statement_468 ic_1 ?_
                      exact hret dX7_statement_469 hM rfl
                    · have hM := ite_t hc hM
                      refine J.iconst (pc := 420) C 0 dX7_statement_420 ic_0 ?_
                      exact hret dX7_statement_421 hM rfl
              · have hM := ite_t hc hM
                refine J.iconst (pc := 377) C 1 dX7_statement_377 ic_1 ?_
                exact hret dX7_statement_378 hM rfl
            · have hM := ite_t hc hM
              refine J.iconst (pc := 371) C (-1) dX7_statement_371 ic_m1 ?_
              exact hret dX7_statement_372 hM rfl
        · have hM := ite_f hc hM
          refine J.aload_n (pc := 326) C dX7_statement_326 rfl rfl ?_
          refine J.iconst (pc := 327) C 1 dX7_statement_327 ic_1 ?_
          obtain ⟨_, _, h1, hM⟩ := bI_ex hM
          refine J.callV1i (pc := 328) C (C_X7_digits h1) lk_X7_digits tm_X7_109 (io_m q cI) ⟨Nat.le_of_ble_eq_true rfl, Nat.le_of_ble_eq_true rfl⟩ (Nat.le_of_ble_eq_true rfl) dX7_statement_328 ?_
          refine J.if_ne (pc := 331) C 336 dX7_statement_331 (by decide) (fun hc => ?_) (fun hc => ?_)
          · have hM := ite_f hc hM
            refine J.iload_n (pc := 336) C dX7_statement_336 rfl rfl ?_
            refine J.if_eq (pc := 337) C 352 dX7_statement_337 (by decide) (fun hc => ?_) (fun hc => ?_)
            · have hM := ite_t hc hM
              refine J.iconst (pc := 352) C 1 dX7_statement_352 ic_1 ?_
              exact hret dX7_statement_353 hM rfl
            · have hM := ite_f hc hM
              refine J.aload_n (pc := 340) C dX7_statement_340 rfl rfl ?_
              refine gf_X7_0_6 (pc := 341) C tf_X7_25 dX7_statement_341 ?_
              refine J.iconst (pc := 344) C 2 dX7_statement_344 ic_2 ?_
              refine J.aload_n (pc := 345) C dX7_statement_345 rfl rfl ?_
              refine gf_X7_0_10 (pc := 346) C tf_X7_31 dX7_statement_346 ?_
              refine J.iconst (pc := 349) C 0 dX7_statement_349 ic_0 ?_
              refine J.iald (pc := 350) C (im_8 q cI) (vpl rfl) dX7_statement_350 ?_
              refine J.iast (pc := 351) C (im_6 q cI) (vpl rfl) dX7_statement_351 ?_
              obtain ⟨_, ea, hM⟩ := lt_ex hM
              refine J.cong C ea ?_
              refine J.iconst (pc := 352) C 1 dX7_statement_352 ic_1 ?_
              exact hret dX7_statement_353 hM rfl
          · have hM := ite_t hc hM
            refine J.iconst (pc := 334) C (-1) dX7_statement_334 ic_m1 ?_
            exact hret dX7_statement_335 hM rfl
      · have hM := ite_f hc hM
        refine J.aload_n (pc := 267) C dX7_statement_267 rfl rfl ?_
        refine J.iconst (pc := 268) C 3 dX7_statement_268 ic_3 ?_
        obtain ⟨_, _, h1, hM⟩ := bI_ex hM
        refine J.callV1i (pc := 269) C (C_X7_digits h1) lk_X7_digits tm_X7_109 (io_m q cI) ⟨Nat.le_of_ble_eq_true rfl, Nat.le_of_ble_eq_true rfl⟩ (Nat.le_of_ble_eq_true rfl) dX7_statement_269 ?_
        refine J.if_ne (pc := 272) C 277 dX7_statement_272 (by decide) (fun hc => ?_) (fun hc => ?_)
        · have hM := ite_f hc hM
          refine J.iload_n (pc := 277) C dX7_statement_277 rfl rfl ?_
          refine J.if_ne (pc := 278) C 283 dX7_statement_278 (by decide) (fun hc => ?_) (fun hc => ?_)
          · have hM := ite_f hc hM
            refine J.bipush (pc := 283) C 100 dX7_statement_283 bp_100 ?_
            refine J.aload_n (pc := 285) C dX7_statement_285 rfl rfl ?_
            refine gf_X7_0_10 (pc := 286) C tf_X7_31 dX7_statement_286 ?_
            refine J.iconst (pc := 289) C 0 dX7_statement_289 ic_0 ?_
            refine J.iald (pc := 290) C (im_8 q cI) (vpl rfl) dX7_statement_290 ?_
            refine J.imul (pc := 291) C dX7_statement_291 ?_
            refine J.aload_n (pc := 292) C dX7_statement_292 rfl rfl ?_
            refine J.iconst (pc := 293) C 1 dX7_statement_293 ic_1 ?_
            obtain ⟨_, _, h1, hM⟩ := bI_ex hM
            refine J.callV1i (pc := 294) C (C_X7_two h1) lk_X7_two tm_X7_112 (io_m q cI) ⟨Nat.le_of_ble_eq_true rfl, Nat.le_of_ble_eq_true rfl⟩ (Nat.le_of_ble_eq_true rfl) dX7_statement_294 ?_
            refine J.iadd (pc := 297) C dX7_statement_297 ?_
            obtain ⟨_, ea, hM⟩ := lt_ex hM
            refine J.istore_nV (pc := 298) C dX7_statement_298 rfl (by decide) ea ?_
            refine J.iload_n (pc := 299) C dX7_statement_299 rfl rfl ?_
            refine J.sipush (pc := 300) C 200 dX7_statement_300 sp_200 ?_
            refine J.icmp_le (pc := 303) C 308 dX7_statement_303 (by decide) (fun hc => ?_) (fun hc => ?_)
            · have hM := ite_t hc hM
              refine J.aload_n (pc := 308) C dX7_statement_308 rfl rfl ?_
              refine gf_X7_0_6 (pc := 309) C tf_X7_25 dX7_statement_309 ?_
              refine J.iconst (pc := 312) C 1 dX7_statement_312 ic_1 ?_
              refine J.iload_n (pc := 313) C dX7_statement_313 rfl rfl ?_
              refine J.iast (pc := 314) C (im_6 q cI) (vpl rfl) dX7_statement_314 ?_
              obtain ⟨_, ea, hM⟩ := lt_ex hM
              refine J.cong C ea ?_
              refine J.iconst (pc := 315) C 1 dX7_statement_315 ic_1 ?_
              exact hret dX7_statement_316 hM rfl
            · have hM := ite_f hc hM
              refine J.iconst (pc := 306) C 0 dX7_statement_306 ic_0 ?_
              exact hret dX7_statement_307 hM rfl
          · have hM := ite_t hc hM
            refine J.iconst (pc := 281) C 1 dX7_statement_281 ic_1 ?_
            exact hret dX7_statement_282 hM rfl
        · have hM := ite_t hc hM
          refine J.iconst (pc := 275) C (-1) dX7_statement_275 ic_m1 ?_
          exact hret dX7_statement_276 hM rfl
    · have hM := ite_f hc hM
      refine J.aload_n (pc := 216) C dX7_statement_216 rfl rfl ?_
      refine J.iconst (pc := 217) C 2 dX7_statement_217 ic_2 ?_
      obtain ⟨_, _, h1, hM⟩ := bI_ex hM
      refine J.callV1i (pc := 218) C (C_X7_digits h1) lk_X7_digits tm_X7_109 (io_m q cI) ⟨Nat.le_of_ble_eq_true rfl, Nat.le_of_ble_eq_true rfl⟩ (Nat.le_of_ble_eq_true rfl) dX7_statement_218 ?_
      refine J.if_ne (pc := 221) C 226 dX7_statement_221 (by decide) (fun hc => ?_) (fun hc => ?_)
      · have hM := ite_f hc hM
        refine J.iload_n (pc := 226) C dX7_statement_226 rfl rfl ?_
        refine J.if_ne (pc := 227) C 232 dX7_statement_227 (by decide) (fun hc => ?_) (fun hc => ?_)
        · have hM := ite_f hc hM
          refine J.aload_n (pc := 232) C dX7_statement_232 rfl rfl ?_
          refine J.iconst (pc := 233) C 0 dX7_statement_233 ic_0 ?_
          obtain ⟨_, _, h1, hM⟩ := bI_ex hM
          refine J.callV1i (pc := 234) C (C_X7_two h1) lk_X7_two tm_X7_112 (io_m q cI) ⟨Nat.le_of_ble_eq_true rfl, Nat.le_of_ble_eq_true rfl⟩ (Nat.le_of_ble_eq_true rfl) dX7_statement_234 ?_
          refine J.callS1i (pc := 237) C (K_X7_isCell _ _) lk_X7_isCell tm_X7_115 ⟨Nat.le_of_ble_eq_true rfl, Nat.le_of_ble_eq_true rfl⟩ (Nat.le_of_ble_eq_true rfl) dX7_statement_237 ?_
          refine J.if_ne (pc := 240) C 245 dX7_statement_240 (by decide) (fun hc => ?_) (fun hc => ?_)
          · have hM := ite_f hc hM
            refine J.aload_n (pc := 245) C dX7_statement_245 rfl rfl ?_
            refine gf_X7_0_6 (pc := 246) C tf_X7_25 dX7_statement_246 ?_
            refine J.iconst (pc := 249) C 0 dX7_statement_249 ic_0 ?_
            refine J.aload_n (pc := 250) C dX7_statement_250 rfl rfl ?_
            refine J.iconst (pc := 251) C 0 dX7_statement_251 ic_0 ?_
            obtain ⟨_, _, h1, hM⟩ := bI_ex hM
            refine J.callV1i (pc := 252) C (C_X7_two h1) lk_X7_two tm_X7_112 (io_m q cI) ⟨Nat.le_of_ble_eq_true rfl, Nat.le_of_ble_eq_true rfl⟩ (Nat.le_of_ble_eq_true rfl) dX7_statement_252 ?_
            refine J.iast (pc := 255) C (im_6 q cI) (vpl rfl) dX7_statement_255 ?_
            obtain ⟨_, ea, hM⟩ := lt_ex hM
            refine J.cong C ea ?_
            refine J.iconst (pc := 256) C 1 dX7_statement_256 ic_1 ?_
            exact hret dX7_statement_257 hM rfl
          · have hM := ite_t hc hM
            refine J.iconst (pc := 243) C 0 dX7_statement_243 ic_0 ?_
            exact hret dX7_statement_244 hM rfl
        · have hM := ite_t hc hM
          refine J.iconst (pc := 230) C 1 dX7_statement_230 ic_1 ?_
          exact hret dX7_statement_231 hM rfl
      · have hM := ite_t hc hM
        refine J.iconst (pc := 224) C (-1) dX7_statement_224 ic_m1 ?_
        exact hret dX7_statement_225 hM rfl
  · have hM := ite_f hc hM
    refine J.aload_n (pc := 9) C dX7_statement_9 rfl rfl ?_
    refine gf_X7_0_9 (pc := 10) C tf_X7_95 dX7_statement_10 ?_
    refine J.aload_n (pc := 13) C dX7_statement_13 rfl rfl ?_
    refine gf_X7_0_7 (pc := 14) C tf_X7_92 dX7_statement_14 ?_
    refine J.icmp_ge (pc := 17) C 49 dX7_statement_17 (by decide) (fun hc => ?_) (fun hc => ?_)
    · have hM := ite_t hc hM
      refine J.iconst (pc := 49) C (-1) dX7_statement_49 ic_m1 ?_
      refine J.sub C [0, 1] rfl ?_
      exact jb50 _ _ _ hM
    · have hM := ite_f hc hM
      refine J.aload_n (pc := 20) C dX7_statement_20 rfl rfl ?_
      refine gf_X7_0_8 (pc := 21) C tf_X7_28 dX7_statement_21 ?_
      refine J.aload_n (pc := 24) C dX7_statement_24 rfl rfl ?_
      refine gf_X7_0_9 (pc := 25) C tf_X7_95 dX7_statement_25 ?_
      obtain ⟨hv, hM⟩ := chk_ex hM
      refine J.iald (pc := 28) C (im_7 q cI) hv dX7_statement_28 ?_
      refine J.if_le (pc := 29) C 49 dX7_statement_29 (by decide) (fun hc => ?_) (fun hc => ?_)
      · have hM := ite_t hc hM
        refine J.iconst (pc := 49) C (-1) dX7_statement_49 ic_m1 ?_
        refine J.sub C [0, 1] rfl ?_
        exact jb50 _ _ _ hM
      · have hM := ite_f hc hM
        refine J.ldcS (pc := 32) C dX7_statement_32 ?_
        refine J.aload_n (pc := 34) C dX7_statement_34 rfl rfl ?_
        refine gf_X7_0_8 (pc := 35) C tf_X7_28 dX7_statement_35 ?_
        refine J.aload_n (pc := 38) C dX7_statement_38 rfl rfl ?_
        refine gf_X7_0_9 (pc := 39) C tf_X7_95 dX7_statement_39 ?_
        obtain ⟨hv, hM⟩ := chk_ex hM
        refine J.iald (pc := 42) C (im_7 q cI) hv dX7_statement_42 ?_
        refine J.sidx (pc := 43) C ⟨Nat.le_of_ble_eq_true rfl, Nat.le_of_ble_eq_true rfl⟩ (Nat.le_of_ble_eq_true rfl) dX7_statement_43 ?_
        refine J.goto (pc := 46) C 50 dX7_statement_46 (by decide) ?_
        refine J.sub C [0, 1] rfl ?_
        exact jb50 _ _ _ hM
def B_X7_keep_96 (k1 n1 : Nat) (g : Sg) : Option Sg := chk 38 n1 (lt (wr g k1 38 (g.1 0)) (fun g_7 => some g_7))
def B_X7_keep_73 (k1 n1 : Nat) (kb73 : Int32 → Sg → Option Sg) (x2 : Int32) (g : Sg) : Option Sg := (if 3 ≤ x2 then B_X7_keep_96 k1 n1 g else chk x2 3 (chk (35 + x2) n1 (lt (wr g k1 (35 + x2) (rd g 6 x2)) (fun g_6 => kb73 (x2 + 1) g_6))))
def B_X7_keep_2 (k1 n1 : Nat) (kb2 : Int32 → Sg → Option Sg) (x2 : Int32) (g : Sg) : Option Sg := (if 7 ≤ x2 then lup1 (B_X7_keep_73 k1 n1 ) FU 0 g else chk x2 7 (chk x2 n1 (lt (wr g k1 x2 (rd g 1 x2)) (fun g_1 => chk x2 7 (chk (7 + x2) n1 (lt (wr g_1 k1 (7 + x2) (rd g_1 2 x2)) (fun g_2 => chk x2 7 (chk (14 + x2) n1 (lt (wr g_2 k1 (14 + x2) (rd g_2 3 x2)) (fun g_3 => chk x2 7 (chk (21 + x2) n1 (lt (wr g_3 k1 (21 + x2) (rd g_3 4 x2)) (fun g_4 => chk x2 7 (chk (28 + x2) n1 (lt (wr g_4 k1 (28 + x2) (rd g_4 5 x2)) (fun g_5 => kb2 (x2 + 1) g_5))))))))))))))))
def M_X7_keep (k1 n1 : Nat) (g : Sg) : Option Sg := lup1 (B_X7_keep_2 k1 n1 ) FU 0 g
set_option maxRecDepth 100000 in
set_option maxHeartbeats 4000000 in
theorem C_X7_keep {l : Launch} {D : va_G} {q : Nat → Nat} {cI : ClassId} {z : Nat × Nat} {k1 n1 : Nat} (hk1 : isArr (mW q cI) cI (q k1) k1 n1) {g : Sg} {r : Sg} (h : M_X7_keep k1 n1 g = some r) : CTv l (EM z) D cI (mW q cI) yX7_keep cX7_keep 3 0 0 [.ref (q 0), .ref (q k1)] g r := by
  refine CTv.of2 (by decide) (EM_ok z) (Nat.le_of_ble_eq_true rfl) rfl (fun p e s m args below meth c A Q C hret => ?_)
  have jb96 : ∀ (g : Sg), B_X7_keep_96 k1 n1 g = some r → J p l e (RM 0 0) s m args below meth c D (mW q cI) A 3 Q g 96 [(0, .ref (q 0)), (1, .ref (q k1))] [] := by
    intro g hM
    unfold B_X7_keep_96 at hM
    refine J.aload_n (pc := 96) C dX7_keep_96 rfl rfl ?_
    refine J.bipush (pc := 97) C 38 dX7_keep_97 bp_38 ?_
    refine J.aload_n (pc := 99) C dX7_keep_99 rfl rfl ?_
    refine gf_X7_0_0 (pc := 100) C tf_X7_84 dX7_keep_100 ?_
    obtain ⟨hv, hM⟩ := chk_ex hM
    refine J.iast (pc := 103) C hk1 hv dX7_keep_103 ?_
    obtain ⟨_, ea, hM⟩ := lt_ex hM
    refine J.cong C ea ?_
    exact hret dX7_keep_104 hM
  have jb73 : ∀ (kb73 : Int32 → Sg → Option Sg) (hkb73 : ∀ (x2 : Int32) (g : Sg), kb73 x2 g = some r → J p l e (RM 0 0) s m args below meth c D (mW q cI) A 3 Q g 73 [(0, .ref (q 0)), (1, .ref (q k1)), (2, .int x2)] []) (x2 : Int32) (g : Sg), B_X7_keep_73 k1 n1 kb73 x2 g = some r → J p l e (RM 0 0) s m args below meth c D (mW q cI) A 3 Q g 73 [(0, .ref (q 0)), (1, .ref (q k1)), (2, .int x2)] [] := by
    intro kb73 hkb73 x2 g hM
    unfold B_X7_keep_73 at hM
    refine J.iload_n (pc := 73) C dX7_keep_73 rfl rfl ?_
    refine J.iconst (pc := 74) C 3 dX7_keep_74 ic_3 ?_
    refine J.icmp_ge (pc := 75) C 96 dX7_keep_75 (by decide) (fun hc => ?_) (fun hc => ?_)
    · have hM := ite_t hc hM
      refine J.sub C [0, 1] rfl ?_
      exact jb96 _ hM
    · have hM := ite_f hc hM
      refine J.aload_n (pc := 78) C dX7_keep_78 rfl rfl ?_
      refine J.bipush (pc := 79) C 35 dX7_keep_79 bp_35 ?_
      refine J.iload_n (pc := 81) C dX7_keep_81 rfl rfl ?_
      refine J.iadd (pc := 82) C dX7_keep_82 ?_
      refine J.aload_n (pc := 83) C dX7_keep_83 rfl rfl ?_
      refine gf_X7_0_6 (pc := 84) C tf_X7_25 dX7_keep_84 ?_
      refine J.iload_n (pc := 87) C dX7_keep_87 rfl rfl ?_
      obtain ⟨hv, hM⟩ := chk_ex hM
      refine J.iald (pc := 88) C (im_6 q cI) hv dX7_keep_88 ?_
      obtain ⟨hv, hM⟩ := chk_ex hM
      refine J.iast (pc := 89) C hk1 hv dX7_keep_89 ?_
      obtain ⟨_, ea, hM⟩ := lt_ex hM
      refine J.cong C ea ?_
      refine J.iinc (pc := 90) C 1 dX7_keep_90 ic_1 rfl (by decide) ?_
      refine J.goto (pc := 93) C 73 dX7_keep_93 (by decide) ?_
      refine J.sub C [0, 1, 2] rfl ?_
      exact hkb73 _ _ hM
  have jl73 : ∀ (x2 : Int32) (g : Sg), lup1 (B_X7_keep_73 k1 n1) FU x2 g = some r → J p l e (RM 0 0) s m args below meth c D (mW q cI) A 3 Q g 73 [(0, .ref (q 0)), (1, .ref (q k1)), (2, .int x2)] [] := 
    lup1_ok (P := fun x2 g => J p l e (RM 0 0) s m args below meth c D (mW q cI) A 3 Q g 73 [(0, .ref (q 0)), (1, .ref (q k1)), (2, .int x2)] []) (fun self hself => jb73 self hself) FU
  have jb2 : ∀ (kb2 : Int32 → Sg → Option Sg) (hkb2 : ∀ (x2 : Int32) (g : Sg), kb2 x2 g = some r → J p l e (RM 0 0) s m args below meth c D (mW q cI) A 3 Q g 2 [(0, .ref (q 0)), (1, .ref (q k1)), (2, .int x2)] []) (x2 : Int32) (g : Sg), B_X7_keep_2 k1 n1 kb2 x2 g = some r → J p l e (RM 0 0) s m args below meth c D (mW q cI) A 3 Q g 2 [(0, .ref (q 0)), (1, .ref (q k1)), (2, .int x2)] [] := by
    intro kb2 hkb2 x2 g hM
    unfold B_X7_keep_2 at hM
    refine J.iload_n (pc := 2) C dX7_keep_2 rfl rfl ?_
    refine J.bipush (pc := 3) C 7 dX7_keep_3 bp_7 ?_
    refine J.icmp_ge (pc := 5) C 71 dX7_keep_5 (by decide) (fun hc => ?_) (fun hc => ?_)
    · have hM := ite_t hc hM
      refine J.iconst (pc := 71) C 0 dX7_keep_71 ic_0 ?_
      refine J.istore_n (pc := 72) C dX7_keep_72 rfl (by decide) ?_
      refine J.sub C [0, 1, 2] rfl ?_
      exact jl73 _ _ hM
    · have hM := ite_f hc hM
      refine J.aload_n (pc := 8) C dX7_keep_8 rfl rfl ?_
      refine J.iload_n (pc := 9) C dX7_keep_9 rfl rfl ?_
      refine J.aload_n (pc := 10) C dX7_keep_10 rfl rfl ?_
      refine gf_X7_0_1 (pc := 11) C tf_X7_7 dX7_keep_11 ?_
      refine J.iload_n (pc := 14) C dX7_keep_14 rfl rfl ?_
      obtain ⟨hv, hM⟩ := chk_ex hM
      refine J.iald (pc := 15) C (im_1 q cI) hv dX7_keep_15 ?_
      obtain ⟨hv, hM⟩ := chk_ex hM
      refine J.iast (pc := 16) C hk1 hv dX7_keep_16 ?_
      obtain ⟨_, ea, hM⟩ := lt_ex hM
      refine J.cong C ea ?_
      refine J.aload_n (pc := 17) C dX7_keep_17 rfl rfl ?_
      refine J.bipush (pc := 18) C 7 dX7_keep_18 bp_7 ?_
      refine J.iload_n (pc := 20) C dX7_keep_20 rfl rfl ?_
      refine J.iadd (pc := 21) C dX7_keep_21 ?_
      refine J.aload_n (pc := 22) C dX7_keep_22 rfl rfl ?_
      refine gf_X7_0_2 (pc := 23) C tf_X7_13 dX7_keep_23 ?_
      refine J.iload_n (pc := 26) C dX7_keep_26 rfl rfl ?_
      obtain ⟨hv, hM⟩ := chk_ex hM
      refine J.iald (pc := 27) C (im_2 q cI) hv dX7_keep_27 ?_
      obtain ⟨hv, hM⟩ := chk_ex hM
      refine J.iast (pc := 28) C hk1 hv dX7_keep_28 ?_
      obtain ⟨_, ea, hM⟩ := lt_ex hM
      refine J.cong C ea ?_
      refine J.aload_n (pc := 29) C dX7_keep_29 rfl rfl ?_
      refine J.bipush (pc := 30) C 14 dX7_keep_30 bp_14 ?_
      refine J.iload_n (pc := 32) C dX7_keep_32 rfl rfl ?_
      refine J.iadd (pc := 33) C dX7_keep_33 ?_
      refine J.aload_n (pc := 34) C dX7_keep_34 rfl rfl ?_
      refine gf_X7_0_3 (pc := 35) C tf_X7_16 dX7_keep_35 ?_
      refine J.iload_n (pc := 38) C dX7_keep_38 rfl rfl ?_
      obtain ⟨hv, hM⟩ := chk_ex hM
      refine J.iald (pc := 39) C (im_3 q cI) hv dX7_keep_39 ?_
      obtain ⟨hv, hM⟩ := chk_ex hM
      refine J.iast (pc := 40) C hk1 hv dX7_keep_40 ?_
      obtain ⟨_, ea, hM⟩ := lt_ex hM
      refine J.cong C ea ?_
      refine J.aload_n (pc := 41) C dX7_keep_41 rfl rfl ?_
      refine J.bipush (pc := 42) C 21 dX7_keep_42 bp_21 ?_
      refine J.iload_n (pc := 44) C dX7_keep_44 rfl rfl ?_
      refine J.iadd (pc := 45) C dX7_keep_45 ?_
      refine J.aload_n (pc := 46) C dX7_keep_46 rfl rfl ?_
      refine gf_X7_0_4 (pc := 47) C tf_X7_19 dX7_keep_47 ?_
      refine J.iload_n (pc := 50) C dX7_keep_50 rfl rfl ?_
      obtain ⟨hv, hM⟩ := chk_ex hM
      refine J.iald (pc := 51) C (im_4 q cI) hv dX7_keep_51 ?_
      obtain ⟨hv, hM⟩ := chk_ex hM
      refine J.iast (pc := 52) C hk1 hv dX7_keep_52 ?_
      obtain ⟨_, ea, hM⟩ := lt_ex hM
      refine J.cong C ea ?_
      refine J.aload_n (pc := 53) C dX7_keep_53 rfl rfl ?_
      refine J.bipush (pc := 54) C 28 dX7_keep_54 bp_28 ?_
      refine J.iload_n (pc := 56) C dX7_keep_56 rfl rfl ?_
      refine J.iadd (pc := 57) C dX7_keep_57 ?_
      refine J.aload_n (pc := 58) C dX7_keep_58 rfl rfl ?_
      refine gf_X7_0_5 (pc := 59) C tf_X7_22 dX7_keep_59 ?_
      refine J.iload_n (pc := 62) C dX7_keep_62 rfl rfl ?_
      obtain ⟨hv, hM⟩ := chk_ex hM
      refine J.iald (pc := 63) C (im_5 q cI) hv dX7_keep_63 ?_
      obtain ⟨hv, hM⟩ := chk_ex hM
      refine J.iast (pc := 64) C hk1 hv dX7_keep_64 ?_
      obtain ⟨_, ea, hM⟩ := lt_ex hM
      refine J.cong C ea ?_
      refine J.iinc (pc := 65) C 1 dX7_keep_65 ic_1 rfl (by decide) ?_
      refine J.goto (pc := 68) C 2 dX7_keep_68 (by decide) ?_
      refine J.sub C [0, 1, 2] rfl ?_
      exact hkb2 _ _ hM
  have jl2 : ∀ (x2 : Int32) (g : Sg), lup1 (B_X7_keep_2 k1 n1) FU x2 g = some r → J p l e (RM 0 0) s m args below meth c D (mW q cI) A 3 Q g 2 [(0, .ref (q 0)), (1, .ref (q k1)), (2, .int x2)] [] := 
    lup1_ok (P := fun x2 g => J p l e (RM 0 0) s m args below meth c D (mW q cI) A 3 Q g 2 [(0, .ref (q 0)), (1, .ref (q k1)), (2, .int x2)] []) (fun self hself => jb2 self hself) FU
  have hM := h
  unfold M_X7_keep at hM
  refine J.iconst (pc := 0) C 0 dX7_keep_0 ic_0 ?_
  refine J.istore_n (pc := 1) C dX7_keep_1 rfl (by decide) ?_
  refine J.sub C [0, 1, 2] rfl ?_
  exact jl2 _ _ hM
def B_X7_again_96 (k1 n1 : Nat) (g : Sg) : Option Sg := chk 38 n1 (lt (sI g 0 (rd g k1 38)) (fun g_7 => some g_7))
def B_X7_again_73 (k1 n1 : Nat) (kb73 : Int32 → Sg → Option Sg) (x2 : Int32) (g : Sg) : Option Sg := (if 3 ≤ x2 then B_X7_again_96 k1 n1 g else chk (35 + x2) n1 (chk x2 3 (lt (wr g 6 x2 (rd g k1 (35 + x2))) (fun g_6 => kb73 (x2 + 1) g_6))))
def B_X7_again_2 (k1 n1 : Nat) (kb2 : Int32 → Sg → Option Sg) (x2 : Int32) (g : Sg) : Option Sg := (if 7 ≤ x2 then lup1 (B_X7_again_73 k1 n1 ) FU 0 g else chk x2 n1 (chk x2 7 (lt (wr g 1 x2 (rd g k1 x2)) (fun g_1 => chk (7 + x2) n1 (chk x2 7 (lt (wr g_1 2 x2 (rd g_1 k1 (7 + x2))) (fun g_2 => chk (14 + x2) n1 (chk x2 7 (lt (wr g_2 3 x2 (rd g_2 k1 (14 + x2))) (fun g_3 => chk (21 + x2) n1 (chk x2 7 (lt (wr g_3 4 x2 (rd g_3 k1 (21 + x2))) (fun g_4 => chk (28 + x2) n1 (chk x2 7 (lt (wr g_4 5 x2 (rd g_4 k1 (28 + x2))) (fun g_5 => kb2 (x2 + 1) g_5))))))))))))))))
def M_X7_again (k1 n1 : Nat) (g : Sg) : Option Sg := lup1 (B_X7_again_2 k1 n1 ) FU 0 g
set_option maxRecDepth 100000 in
set_option maxHeartbeats 4000000 in
theorem C_X7_again {l : Launch} {D : va_G} {q : Nat → Nat} {cI : ClassId} {z : Nat × Nat} {k1 n1 : Nat} (hk1 : isArr (mW q cI) cI (q k1) k1 n1) {g : Sg} {r : Sg} (h : M_X7_again k1 n1 g = some r) : CTv l (EM z) D cI (mW q cI) yX7_again cX7_again 3 0 0 [.ref (q 0), .ref (q k1)] g r := by
  refine CTv.of2 (by decide) (EM_ok z) (Nat.le_of_ble_eq_true rfl) rfl (fun p e s m args below meth c A Q C hret => ?_)
  have jb96 : ∀ (g : Sg), B_X7_again_96 k1 n1 g = some r → J p l e (RM 0 0) s m args below meth c D (mW q cI) A 3 Q g 96 [(0, .ref (q 0)), (1, .ref (q k1))] [] := by
    intro g hM
    unfold B_X7_again_96 at hM
    refine J.aload_n (pc := 96) C dX7_again_96 rfl rfl ?_
    refine J.aload_n (pc := 97) C dX7_again_97 rfl rfl ?_
    refine J.bipush (pc := 98) C 38 dX7_again_98 bp_38 ?_
    obtain ⟨hv, hM⟩ := chk_ex hM
    refine J.iald (pc := 100) C hk1 hv dX7_again_100 ?_
    refine pf_X7_0_0 (pc := 101) C tf_X7_84 dX7_again_101 ?_
    obtain ⟨_, ea, hM⟩ := lt_ex hM
    refine J.cong C ea ?_
    exact hret dX7_again_104 hM
  have jb73 : ∀ (kb73 : Int32 → Sg → Option Sg) (hkb73 : ∀ (x2 : Int32) (g : Sg), kb73 x2 g = some r → J p l e (RM 0 0) s m args below meth c D (mW q cI) A 3 Q g 73 [(0, .ref (q 0)), (1, .ref (q k1)), (2, .int x2)] []) (x2 : Int32) (g : Sg), B_X7_again_73 k1 n1 kb73 x2 g = some r → J p l e (RM 0 0) s m args below meth c D (mW q cI) A 3 Q g 73 [(0, .ref (q 0)), (1, .ref (q k1)), (2, .int x2)] [] := by
    intro kb73 hkb73 x2 g hM
    unfold B_X7_again_73 at hM
    refine J.iload_n (pc := 73) C dX7_again_73 rfl rfl ?_
    refine J.iconst (pc := 74) C 3 dX7_again_74 ic_3 ?_
    refine J.icmp_ge (pc := 75) C 96 dX7_again_75 (by decide) (fun hc => ?_) (fun hc => ?_)
    · have hM := ite_t hc hM
      refine J.sub C [0, 1] rfl ?_
      exact jb96 _ hM
    · have hM := ite_f hc hM
      refine J.aload_n (pc := 78) C dX7_again_78 rfl rfl ?_
      refine gf_X7_0_6 (pc := 79) C tf_X7_25 dX7_again_79 ?_
      refine J.iload_n (pc := 82) C dX7_again_82 rfl rfl ?_
      refine J.aload_n (pc := 83) C dX7_again_83 rfl rfl ?_
      refine J.bipush (pc := 84) C 35 dX7_again_84 bp_35 ?_
      refine J.iload_n (pc := 86) C dX7_again_86 rfl rfl ?_
      refine J.iadd (pc := 87) C dX7_again_87 ?_
      obtain ⟨hv, hM⟩ := chk_ex hM
      refine J.iald (pc := 88) C hk1 hv dX7_again_88 ?_
      obtain ⟨hv, hM⟩ := chk_ex hM
      refine J.iast (pc := 89) C (im_6 q cI) hv dX7_again_89 ?_
      obtain ⟨_, ea, hM⟩ := lt_ex hM
      refine J.cong C ea ?_
      refine J.iinc (pc := 90) C 1 dX7_again_90 ic_1 rfl (by decide) ?_
      refine J.goto (pc := 93) C 73 dX7_again_93 (by decide) ?_
      refine J.sub C [0, 1, 2] rfl ?_
      exact hkb73 _ _ hM
  have jl73 : ∀ (x2 : Int32) (g : Sg), lup1 (B_X7_again_73 k1 n1) FU x2 g = some r → J p l e (RM 0 0) s m args below meth c D (mW q cI) A 3 Q g 73 [(0, .ref (q 0)), (1, .ref (q k1)), (2, .int x2)] [] := 
    lup1_ok (P := fun x2 g => J p l e (RM 0 0) s m args below meth c D (mW q cI) A 3 Q g 73 [(0, .ref (q 0)), (1, .ref (q k1)), (2, .int x2)] []) (fun self hself => jb73 self hself) FU
  have jb2 : ∀ (kb2 : Int32 → Sg → Option Sg) (hkb2 : ∀ (x2 : Int32) (g : Sg), kb2 x2 g = some r → J p l e (RM 0 0) s m args below meth c D (mW q cI) A 3 Q g 2 [(0, .ref (q 0)), (1, .ref (q k1)), (2, .int x2)] []) (x2 : Int32) (g : Sg), B_X7_again_2 k1 n1 kb2 x2 g = some r → J p l e (RM 0 0) s m args below meth c D (mW q cI) A 3 Q g 2 [(0, .ref (q 0)), (1, .ref (q k1)), (2, .int x2)] [] := by
    intro kb2 hkb2 x2 g hM
    unfold B_X7_again_2 at hM
    refine J.iload_n (pc := 2) C dX7_again_2 rfl rfl ?_
    refine J.bipush (pc := 3) C 7 dX7_again_3 bp_7 ?_
    refine J.icmp_ge (pc := 5) C 71 dX7_again_5 (by decide) (fun hc => ?_) (fun hc => ?_)
    · have hM := ite_t hc hM
      refine J.iconst (pc := 71) C 0 dX7_again_71 ic_0 ?_
      refine J.istore_n (pc := 72) C dX7_again_72 rfl (by decide) ?_
      refine J.sub C [0, 1, 2] rfl ?_
      exact jl73 _ _ hM
    · have hM := ite_f hc hM
      refine J.aload_n (pc := 8) C dX7_again_8 rfl rfl ?_
      refine gf_X7_0_1 (pc := 9) C tf_X7_7 dX7_again_9 ?_
      refine J.iload_n (pc := 12) C dX7_again_12 rfl rfl ?_
      refine J.aload_n (pc := 13) C dX7_again_13 rfl rfl ?_
      refine J.iload_n (pc := 14) C dX7_again_14 rfl rfl ?_
      obtain ⟨hv, hM⟩ := chk_ex hM
      refine J.iald (pc := 15) C hk1 hv dX7_again_15 ?_
      obtain ⟨hv, hM⟩ := chk_ex hM
      refine J.iast (pc := 16) C (im_1 q cI) hv dX7_again_16 ?_
      obtain ⟨_, ea, hM⟩ := lt_ex hM
      refine J.cong C ea ?_
      refine J.aload_n (pc := 17) C dX7_again_17 rfl rfl ?_
      refine gf_X7_0_2 (pc := 18) C tf_X7_13 dX7_again_18 ?_
      refine J.iload_n (pc := 21) C dX7_again_21 rfl rfl ?_
      refine J.aload_n (pc := 22) C dX7_again_22 rfl rfl ?_
      refine J.bipush (pc := 23) C 7 dX7_again_23 bp_7 ?_
      refine J.iload_n (pc := 25) C dX7_again_25 rfl rfl ?_
      refine J.iadd (pc := 26) C dX7_again_26 ?_
      obtain ⟨hv, hM⟩ := chk_ex hM
      refine J.iald (pc := 27) C hk1 hv dX7_again_27 ?_
      obtain ⟨hv, hM⟩ := chk_ex hM
      refine J.iast (pc := 28) C (im_2 q cI) hv dX7_again_28 ?_
      obtain ⟨_, ea, hM⟩ := lt_ex hM
      refine J.cong C ea ?_
      refine J.aload_n (pc := 29) C dX7_again_29 rfl rfl ?_
      refine gf_X7_0_3 (pc := 30) C tf_X7_16 dX7_again_30 ?_
      refine J.iload_n (pc := 33) C dX7_again_33 rfl rfl ?_
      refine J.aload_n (pc := 34) C dX7_again_34 rfl rfl ?_
      refine J.bipush (pc := 35) C 14 dX7_again_35 bp_14 ?_
      refine J.iload_n (pc := 37) C dX7_again_37 rfl rfl ?_
      refine J.iadd (pc := 38) C dX7_again_38 ?_
      obtain ⟨hv, hM⟩ := chk_ex hM
      refine J.iald (pc := 39) C hk1 hv dX7_again_39 ?_
      obtain ⟨hv, hM⟩ := chk_ex hM
      refine J.iast (pc := 40) C (im_3 q cI) hv dX7_again_40 ?_
      obtain ⟨_, ea, hM⟩ := lt_ex hM
      refine J.cong C ea ?_
      refine J.aload_n (pc := 41) C dX7_again_41 rfl rfl ?_
      refine gf_X7_0_4 (pc := 42) C tf_X7_19 dX7_again_42 ?_
      refine J.iload_n (pc := 45) C dX7_again_45 rfl rfl ?_
      refine J.aload_n (pc := 46) C dX7_again_46 rfl rfl ?_
      refine J.bipush (pc := 47) C 21 dX7_again_47 bp_21 ?_
      refine J.iload_n (pc := 49) C dX7_again_49 rfl rfl ?_
      refine J.iadd (pc := 50) C dX7_again_50 ?_
      obtain ⟨hv, hM⟩ := chk_ex hM
      refine J.iald (pc := 51) C hk1 hv dX7_again_51 ?_
      obtain ⟨hv, hM⟩ := chk_ex hM
      refine J.iast (pc := 52) C (im_4 q cI) hv dX7_again_52 ?_
      obtain ⟨_, ea, hM⟩ := lt_ex hM
      refine J.cong C ea ?_
      refine J.aload_n (pc := 53) C dX7_again_53 rfl rfl ?_
      refine gf_X7_0_5 (pc := 54) C tf_X7_22 dX7_again_54 ?_
      refine J.iload_n (pc := 57) C dX7_again_57 rfl rfl ?_
      refine J.aload_n (pc := 58) C dX7_again_58 rfl rfl ?_
      refine J.bipush (pc := 59) C 28 dX7_again_59 bp_28 ?_
      refine J.iload_n (pc := 61) C dX7_again_61 rfl rfl ?_
      refine J.iadd (pc := 62) C dX7_again_62 ?_
      obtain ⟨hv, hM⟩ := chk_ex hM
      refine J.iald (pc := 63) C hk1 hv dX7_again_63 ?_
      obtain ⟨hv, hM⟩ := chk_ex hM
      refine J.iast (pc := 64) C (im_5 q cI) hv dX7_again_64 ?_
      obtain ⟨_, ea, hM⟩ := lt_ex hM
      refine J.cong C ea ?_
      refine J.iinc (pc := 65) C 1 dX7_again_65 ic_1 rfl (by decide) ?_
      refine J.goto (pc := 68) C 2 dX7_again_68 (by decide) ?_
      refine J.sub C [0, 1, 2] rfl ?_
      exact hkb2 _ _ hM
  have jl2 : ∀ (x2 : Int32) (g : Sg), lup1 (B_X7_again_2 k1 n1) FU x2 g = some r → J p l e (RM 0 0) s m args below meth c D (mW q cI) A 3 Q g 2 [(0, .ref (q 0)), (1, .ref (q k1)), (2, .int x2)] [] := 
    lup1_ok (P := fun x2 g => J p l e (RM 0 0) s m args below meth c D (mW q cI) A 3 Q g 2 [(0, .ref (q 0)), (1, .ref (q k1)), (2, .int x2)] []) (fun self hself => jb2 self hself) FU
  have hM := h
  unfold M_X7_again at hM
  refine J.iconst (pc := 0) C 0 dX7_again_0 ic_0 ?_
  refine J.istore_n (pc := 1) C dX7_again_1 rfl (by decide) ?_
  refine J.sub C [0, 1, 2] rfl ?_
  exact jl2 _ _ hM
def B_X7_night_110 (x3 : Int32) (g : Sg) : Option (Int32 × Sg) := bV (M_X7_again 12 39 g) (fun g_14 => lt (sI g_14 1 0) (fun g_15 => some ((-2000) - x3, g_15)))
def B_X7_night_86 (kb86 : Int32 → Sg → Option (Int32 × Sg)) (x2 : Int32) (g : Sg) : Option (Int32 × Sg) := (if (g.1 1) ≤ (g.1 2) then lt (sI g 1 0) (fun g_9 => some (x2, g_9)) else bI (M_X7_statement 1 g) (fun r_10 g_11 => (if r_10 = 0 then B_X7_night_110 (g.1 2) g_11 else bI (M_X7_is 59 g_11) (fun r_12 g_13 => kb86 (x2 + 1) g_13))))
def B_X7_night_53 (x1 : Int32) (g : Sg) : Option (Int32 × Sg) := (if x1 = 0 then lt (sI g 1 0) (fun g_8 => some ((-1000) - (g_8.1 2), g_8)) else bV (M_X7_keep 12 39 g) (fun g_6 => lt (sI g_6 2 0) (fun g_7 => lup1 (B_X7_night_86 ) FU 0 g_7)))
def B_X7_night_7 (kb7 : Int32 → Sg → Option (Int32 × Sg)) (x1 : Int32) (g : Sg) : Option (Int32 × Sg) := (if x1 = 0 then B_X7_night_53 x1 g else bI (M_X7_statement 0 g) (fun r_2 g_3 => (if r_2 = 1 then bI (M_X7_is 59 g_3) (fun r_4 g_5 => (if r_4 = 0 then kb7 0 g_5 else (if (g_5.1 2) = (g_5.1 1) then B_X7_night_53 1 g_5 else kb7 1 g_5))) else kb7 0 g_3)))
def M_X7_night (g : Sg) : Option (Int32 × Sg) := lt (sI g 2 0) (fun g_1 => lup1 (B_X7_night_7 ) FU 1 g_1)
set_option maxRecDepth 100000 in
set_option maxHeartbeats 4000000 in
theorem C_X7_night {l : Launch} {D : va_G} {q : Nat → Nat} {cI : ClassId} {z : Nat × Nat} {g : Sg} {r : Int32 × Sg} (h : M_X7_night g = some r) : CTi l (EM z) D cI (mW q cI) yX7_night cX7_night 4 (some .int) 6 172 [.ref (q 0)] g r := by
  refine CTi.of2 (by decide) (EM_ok z) (Nat.le_of_ble_eq_true rfl) rfl (fun p e s m args below meth c A Q C hret => ?_)
  have jb110 : ∀ (x3 : Int32) (g : Sg), B_X7_night_110 x3 g = some r → J p l e (RM 6 172) s m args below meth c D (mW q cI) A 4 Q g 110 [(0, .ref (q 0)), (3, .int x3)] [] := by
    intro x3 g hM
    unfold B_X7_night_110 at hM
    refine J.aload_n (pc := 110) C dX7_night_110 rfl rfl ?_
    refine J.aload_n (pc := 111) C dX7_night_111 rfl rfl ?_
    refine gf_X7_0_16 (pc := 112) C tf_X7_43 dX7_night_112 ?_
    obtain ⟨_, h1, hM⟩ := bV_ex hM
    refine J.callV1v (pc := 115) C (C_X7_again (im_12 q cI) h1) lk_X7_again tm_X7_132 (io_m q cI) ⟨Nat.le_of_ble_eq_true rfl, Nat.le_of_ble_eq_true rfl⟩ (Nat.le_of_ble_eq_true rfl) dX7_night_115 ?_
    refine J.aload_n (pc := 118) C dX7_night_118 rfl rfl ?_
    refine J.iconst (pc := 119) C 0 dX7_night_119 ic_0 ?_
    refine pf_X7_0_7 (pc := 120) C tf_X7_92 dX7_night_120 ?_
    obtain ⟨_, ea, hM⟩ := lt_ex hM
    refine J.cong C ea ?_
    refine J.sipush (pc := 123) C (-2000) dX7_night_123 sp_m2000 ?_
    refine J.iload_n (pc := 126) C dX7_night_126 rfl rfl ?_
    refine J.isub (pc := 127) C dX7_night_127 ?_
    exact hret dX7_night_128 hM rfl
  have jb86 : ∀ (kb86 : Int32 → Sg → Option (Int32 × Sg)) (hkb86 : ∀ (x2 : Int32) (g : Sg), kb86 x2 g = some r → J p l e (RM 6 172) s m args below meth c D (mW q cI) A 4 Q g 86 [(0, .ref (q 0)), (2, .int x2)] []) (x2 : Int32) (g : Sg), B_X7_night_86 kb86 x2 g = some r → J p l e (RM 6 172) s m args below meth c D (mW q cI) A 4 Q g 86 [(0, .ref (q 0)), (2, .int x2)] [] := by
    intro kb86 hkb86 x2 g hM
    unfold B_X7_night_86 at hM
    refine J.aload_n (pc := 86) C dX7_night_86 rfl rfl ?_
    refine gf_X7_0_9 (pc := 87) C tf_X7_95 dX7_night_87 ?_
    refine J.aload_n (pc := 90) C dX7_night_90 rfl rfl ?_
    refine gf_X7_0_7 (pc := 91) C tf_X7_92 dX7_night_91 ?_
    refine J.icmp_ge (pc := 94) C 142 dX7_night_94 (by decide) (fun hc => ?_) (fun hc => ?_)
    · have hM := ite_t hc hM
      refine J.aload_n (pc := 142) C dX7_night_142 rfl rfl ?_
      refine J.iconst (pc := 143) C 0 dX7_night_143 ic_0 ?_
      refine pf_X7_0_7 (pc := 144) C tf_X7_92 dX7_night_144 ?_
      obtain ⟨_, ea, hM⟩ := lt_ex hM
      refine J.cong C ea ?_
      refine J.iload_n (pc := 147) C dX7_night_147 rfl rfl ?_
      exact hret dX7_night_148 hM rfl
    · have hM := ite_f hc hM
      refine J.aload_n (pc := 97) C dX7_night_97 rfl rfl ?_
      refine gf_X7_0_9 (pc := 98) C tf_X7_95 dX7_night_98 ?_
      refine J.istore_n (pc := 101) C dX7_night_101 rfl (by decide) ?_
      refine J.aload_n (pc := 102) C dX7_night_102 rfl rfl ?_
      refine J.iconst (pc := 103) C 1 dX7_night_103 ic_1 ?_
      obtain ⟨_, _, h1, hM⟩ := bI_ex hM
      refine J.callV1i (pc := 104) C (C_X7_statement h1) lk_X7_statement tm_X7_124 (io_m q cI) ⟨Nat.le_of_ble_eq_true rfl, Nat.le_of_ble_eq_true rfl⟩ (Nat.le_of_ble_eq_true rfl) dX7_night_104 ?_
      refine J.if_ne (pc := 107) C 129 dX7_night_107 (by decide) (fun hc => ?_) (fun hc => ?_)
      · have hM := ite_f hc hM
        refine J.aload_n (pc := 129) C dX7_night_129 rfl rfl ?_
        refine J.bipush (pc := 130) C 59 dX7_night_130 bp_59 ?_
        obtain ⟨_, _, h1, hM⟩ := bI_ex hM
        refine J.callV1i (pc := 132) C (C_X7_is h1) lk_X7_is tm_X7_98 (io_m q cI) ⟨Nat.le_of_ble_eq_true rfl, Nat.le_of_ble_eq_true rfl⟩ (Nat.le_of_ble_eq_true rfl) dX7_night_132 ?_
        refine J.pop (pc := 135) C dX7_night_135 rfl ?_
        refine J.iinc (pc := 136) C 1 dX7_night_136 ic_1 rfl (by decide) ?_
        refine J.goto (pc := 139) C 86 dX7_night_139 (by decide) ?_
        refine J.sub C [0, 2] rfl ?_
        exact hkb86 _ _ hM
      · have hM := ite_t hc hM
        refine J.sub C [0, 3] rfl ?_
        exact jb110 _ _ hM
  have jl86 : ∀ (x2 : Int32) (g : Sg), lup1 (B_X7_night_86) FU x2 g = some r → J p l e (RM 6 172) s m args below meth c D (mW q cI) A 4 Q g 86 [(0, .ref (q 0)), (2, .int x2)] [] := 
    lup1_ok (P := fun x2 g => J p l e (RM 6 172) s m args below meth c D (mW q cI) A 4 Q g 86 [(0, .ref (q 0)), (2, .int x2)] []) (fun self hself => jb86 self hself) FU
  have jb53 : ∀ (x1 : Int32) (g : Sg), B_X7_night_53 x1 g = some r → J p l e (RM 6 172) s m args below meth c D (mW q cI) A 4 Q g 53 [(0, .ref (q 0)), (1, .int x1)] [] := by
    intro x1 g hM
    unfold B_X7_night_53 at hM
    refine J.iload_n (pc := 53) C dX7_night_53 rfl rfl ?_
    refine J.if_ne (pc := 54) C 71 dX7_night_54 (by decide) (fun hc => ?_) (fun hc => ?_)
    · have hM := ite_f hc hM
      refine J.aload_n (pc := 71) C dX7_night_71 rfl rfl ?_
      refine J.aload_n (pc := 72) C dX7_night_72 rfl rfl ?_
      refine gf_X7_0_16 (pc := 73) C tf_X7_43 dX7_night_73 ?_
      obtain ⟨_, h1, hM⟩ := bV_ex hM
      refine J.callV1v (pc := 76) C (C_X7_keep (im_12 q cI) h1) lk_X7_keep tm_X7_128 (io_m q cI) ⟨Nat.le_of_ble_eq_true rfl, Nat.le_of_ble_eq_true rfl⟩ (Nat.le_of_ble_eq_true rfl) dX7_night_76 ?_
      refine J.aload_n (pc := 79) C dX7_night_79 rfl rfl ?_
      refine J.iconst (pc := 80) C 0 dX7_night_80 ic_0 ?_
      refine pf_X7_0_9 (pc := 81) C tf_X7_95 dX7_night_81 ?_
      obtain ⟨_, ea, hM⟩ := lt_ex hM
      refine J.cong C ea ?_
      refine J.iconst (pc := 84) C 0 dX7_night_84 ic_0 ?_
      refine J.istore_n (pc := 85) C dX7_night_85 rfl (by decide) ?_
      refine J.sub C [0, 2] rfl ?_
      exact jl86 _ _ hM
    · have hM := ite_t hc hM
      refine J.aload_n (pc := 57) C dX7_night_57 rfl rfl ?_
      refine J.iconst (pc := 58) C 0 dX7_night_58 ic_0 ?_
      refine pf_X7_0_7 (pc := 59) C tf_X7_92 dX7_night_59 ?_
      obtain ⟨_, ea, hM⟩ := lt_ex hM
      refine J.cong C ea ?_
      refine J.sipush (pc := 62) C (-1000) dX7_night_62 sp_m1000 ?_
      refine J.aload_n (pc := 65) C dX7_night_65 rfl rfl ?_
      refine gf_X7_0_9 (pc := 66) C tf_X7_95 dX7_night_66 ?_
      refine J.isub (pc := 69) C dX7_night_69 ?_
      exact hret dX7_night_70 hM rfl
  have jb7 : ∀ (kb7 : Int32 → Sg → Option (Int32 × Sg)) (hkb7 : ∀ (x1 : Int32) (g : Sg), kb7 x1 g = some r → J p l e (RM 6 172) s m args below meth c D (mW q cI) A 4 Q g 7 [(0, .ref (q 0)), (1, .int x1)] []) (x1 : Int32) (g : Sg), B_X7_night_7 kb7 x1 g = some r → J p l e (RM 6 172) s m args below meth c D (mW q cI) A 4 Q g 7 [(0, .ref (q 0)), (1, .int x1)] [] := by
    intro kb7 hkb7 x1 g hM
    unfold B_X7_night_7 at hM
    refine J.iload_n (pc := 7) C dX7_night_7 rfl rfl ?_
    refine J.if_eq (pc := 8) C 53 dX7_night_8 (by decide) (fun hc => ?_) (fun hc => ?_)
    · have hM := ite_t hc hM
      refine J.sub C [0, 1] rfl ?_
      exact jb53 _ _ hM
    · have hM := ite_f hc hM
      refine J.aload_n (pc := 11) C dX7_night_11 rfl rfl ?_
      refine J.iconst (pc := 12) C 0 dX7_night_12 ic_0 ?_
      obtain ⟨_, _, h1, hM⟩ := bI_ex hM
      refine J.callV1i (pc := 13) C (C_X7_statement h1) lk_X7_statement tm_X7_124 (io_m q cI) ⟨Nat.le_of_ble_eq_true rfl, Nat.le_of_ble_eq_true rfl⟩ (Nat.le_of_ble_eq_true rfl) dX7_night_13 ?_
      refine J.iconst (pc := 16) C 1 dX7_night_16 ic_1 ?_
      refine J.icmp_ne (pc := 17) C 33 dX7_night_17 (by decide) (fun hc => ?_) (fun hc => ?_)
      · have hM := ite_f hc hM
        refine J.iconst (pc := 33) C 0 dX7_night_33 ic_0 ?_
        refine J.istore_n (pc := 34) C dX7_night_34 rfl (by decide) ?_
        refine J.iload_n (pc := 35) C dX7_night_35 rfl rfl ?_
        refine J.if_eq (pc := 36) C 7 dX7_night_36 (by decide) (fun hc => ?_) (fun hc => ?_)
        · refine J.sub C [0, 1] rfl ?_
          exact hkb7 _ _ hM
        · exact absurd hc (by decide)
      · have hM := ite_t hc hM
        refine J.aload_n (pc := 20) C dX7_night_20 rfl rfl ?_
        refine J.bipush (pc := 21) C 59 dX7_night_21 bp_59 ?_
        obtain ⟨_, _, h1, hM⟩ := bI_ex hM
        refine J.callV1i (pc := 23) C (C_X7_is h1) lk_X7_is tm_X7_98 (io_m q cI) ⟨Nat.le_of_ble_eq_true rfl, Nat.le_of_ble_eq_true rfl⟩ (Nat.le_of_ble_eq_true rfl) dX7_night_23 ?_
        refine J.if_eq (pc := 26) C 33 dX7_night_26 (by decide) (fun hc => ?_) (fun hc => ?_)
        · have hM := ite_t hc hM
          refine J.iconst (pc := 33) C 0 dX7_night_33 ic_0 ?_
          refine J.istore_n (pc := 34) C dX7_night_34 rfl (by decide) ?_
          refine J.iload_n (pc := 35) C dX7_night_35 rfl rfl ?_
          refine J.if_eq (pc := 36) C 7 dX7_night_36 (by decide) (fun hc => ?_) (fun hc => ?_)
          · refine J.sub C [0, 1] rfl ?_
            exact hkb7 _ _ hM
          · exact absurd hc (by decide)
        · have hM := ite_f hc hM
          refine J.iconst (pc := 29) C 1 dX7_night_29 ic_1 ?_
          refine J.goto (pc := 30) C 34 dX7_night_30 (by decide) ?_
          refine J.istore_n (pc := 34) C dX7_night_34 rfl (by decide) ?_
          refine J.iload_n (pc := 35) C dX7_night_35 rfl rfl ?_
          refine J.if_eq (pc := 36) C 7 dX7_night_36 (by decide) (fun hc => ?_) (fun hc => ?_)
          · exact absurd hc (by decide)
          · refine J.aload_n (pc := 39) C dX7_night_39 rfl rfl ?_
            refine gf_X7_0_9 (pc := 40) C tf_X7_95 dX7_night_40 ?_
            refine J.aload_n (pc := 43) C dX7_night_43 rfl rfl ?_
            refine gf_X7_0_7 (pc := 44) C tf_X7_92 dX7_night_44 ?_
            refine J.icmp_ne (pc := 47) C 7 dX7_night_47 (by decide) (fun hc => ?_) (fun hc => ?_)
            · have hM := ite_f hc hM
              refine J.sub C [0, 1] rfl ?_
              exact hkb7 _ _ hM
            · have hM := ite_t hc hM
              refine J.goto (pc := 50) C 53 dX7_night_50 (by decide) ?_
              refine J.sub C [0, 1] rfl ?_
              exact jb53 _ _ hM
  have jl7 : ∀ (x1 : Int32) (g : Sg), lup1 (B_X7_night_7) FU x1 g = some r → J p l e (RM 6 172) s m args below meth c D (mW q cI) A 4 Q g 7 [(0, .ref (q 0)), (1, .int x1)] [] := 
    lup1_ok (P := fun x1 g => J p l e (RM 6 172) s m args below meth c D (mW q cI) A 4 Q g 7 [(0, .ref (q 0)), (1, .int x1)] []) (fun self hself => jb7 self hself) FU
  have hM := h
  unfold M_X7_night at hM
  refine J.aload_n (pc := 0) C dX7_night_0 rfl rfl ?_
  refine J.iconst (pc := 1) C 0 dX7_night_1 ic_0 ?_
  refine pf_X7_0_9 (pc := 2) C tf_X7_95 dX7_night_2 ?_
  obtain ⟨_, ea, hM⟩ := lt_ex hM
  refine J.cong C ea ?_
  refine J.iconst (pc := 5) C 1 dX7_night_5 ic_1 ?_
  refine J.istore_n (pc := 6) C dX7_night_6 rfl (by decide) ?_
  refine J.sub C [0, 1] rfl ?_
  exact jl7 _ _ hM
def M_X7_fetches (x1 : Int32) (g : Sg) : Option (Int32 × Sg) := chk x1 7 ((if (rd g 1 x1) = 1 then some (0, g) else if (rd g 1 x1) = 2 then some (39, g) else if (rd g 1 x1) = 3 then chk x1 7 (some (6 + (rd g 2 x1), g)) else some (6, g)))
set_option maxRecDepth 100000 in
set_option maxHeartbeats 4000000 in
theorem C_X7_fetches {l : Launch} {D : va_G} {q : Nat → Nat} {cI : ClassId} {z : Nat × Nat} {x1 : Int32} {g : Sg} {r : Int32 × Sg} (h : M_X7_fetches x1 g = some r) : CTi l (EM z) D cI (mW q cI) yX7_fetches cX7_fetches 2 (some .int) 0 0 [.ref (q 0), .int x1] g r := by
  refine CTi.of2 (by decide) (EM_ok z) (Nat.le_of_ble_eq_true rfl) rfl (fun p e s m args below meth c A Q C hret => ?_)
  have hM := h
  unfold M_X7_fetches at hM
  refine J.aload_n (pc := 0) C dX7_fetches_0 rfl rfl ?_
  refine gf_X7_0_1 (pc := 1) C tf_X7_7 dX7_fetches_1 ?_
  refine J.iload_n (pc := 4) C dX7_fetches_4 rfl rfl ?_
  obtain ⟨hv, hM⟩ := chk_ex hM
  refine J.iald (pc := 5) C (im_1 q cI) hv dX7_fetches_5 ?_
  refine J.case (pc := 6) C 1 (fun hs0 => ?_) (fun hs0 => ?_)
  · have hM := ite_t hs0 hM
    refine J.tabIn (pc := 6) C 1 32 dX7_fetches_6 hs0 (by decide) (by decide) rfl (by decide) ?_
    refine J.iconst (pc := 32) C 0 dX7_fetches_32 ic_0 ?_
    exact hret dX7_fetches_33 hM rfl
  · have hM := ite_f hs0 hM
    refine J.case (pc := 6) C 2 (fun hs1 => ?_) (fun hs1 => ?_)
    · have hM := ite_t hs1 hM
      refine J.tabIn (pc := 6) C 2 34 dX7_fetches_6 hs1 (by decide) (by decide) rfl (by decide) ?_
      refine J.bipush (pc := 34) C 39 dX7_fetches_34 bp_39 ?_
      exact hret dX7_fetches_36 hM rfl
    · have hM := ite_f hs1 hM
      refine J.case (pc := 6) C 3 (fun hs2 => ?_) (fun hs2 => ?_)
      · have hM := ite_t hs2 hM
        refine J.tabIn (pc := 6) C 3 37 dX7_fetches_6 hs2 (by decide) (by decide) rfl (by decide) ?_
        refine J.bipush (pc := 37) C 6 dX7_fetches_37 bp_6 ?_
        refine J.aload_n (pc := 39) C dX7_fetches_39 rfl rfl ?_
        refine gf_X7_0_2 (pc := 40) C tf_X7_13 dX7_fetches_40 ?_
        refine J.iload_n (pc := 43) C dX7_fetches_43 rfl rfl ?_
        obtain ⟨hv, hM⟩ := chk_ex hM
        refine J.iald (pc := 44) C (im_2 q cI) hv dX7_fetches_44 ?_
        refine J.iadd (pc := 45) C dX7_fetches_45 ?_
        exact hret dX7_fetches_46 hM rfl
      · have hM := ite_f hs2 hM
        refine J.tabOut (pc := 6) C 47 dX7_fetches_6 (by have c0 := i_ne 1 rfl hs0; have c1 := i_ne 2 rfl hs1; have c2 := i_ne 3 rfl hs2; omega) (by decide) ?_
        refine J.bipush (pc := 47) C 6 dX7_fetches_47 bp_6 ?_
        exact hret dX7_fetches_49 hM rfl
def M_X7_costs (x1 : Int32) (g : Sg) : Option (Int32 × Sg) := chk x1 7 ((if (rd g 1 x1) = 1 then some ((rd g 6 2) / 2, g) else if (rd g 1 x1) = 2 then some (2 * (rd g 6 2), g) else if (rd g 1 x1) = 3 then some ((rd g 6 2) + 1, g) else if (rd g 1 x1) = 4 then some (0, g) else if (rd g 1 x1) = 5 then some (0, g) else some (rd g 6 2, g)))
set_option maxRecDepth 100000 in
set_option maxHeartbeats 4000000 in
theorem C_X7_costs {l : Launch} {D : va_G} {q : Nat → Nat} {cI : ClassId} {z : Nat × Nat} {x1 : Int32} {g : Sg} {r : Int32 × Sg} (h : M_X7_costs x1 g = some r) : CTi l (EM z) D cI (mW q cI) yX7_costs cX7_costs 2 (some .int) 0 0 [.ref (q 0), .int x1] g r := by
  refine CTi.of2 (by decide) (EM_ok z) (Nat.le_of_ble_eq_true rfl) rfl (fun p e s m args below meth c A Q C hret => ?_)
  have hM := h
  unfold M_X7_costs at hM
  refine J.aload_n (pc := 0) C dX7_costs_0 rfl rfl ?_
  refine gf_X7_0_1 (pc := 1) C tf_X7_7 dX7_costs_1 ?_
  refine J.iload_n (pc := 4) C dX7_costs_4 rfl rfl ?_
  obtain ⟨hv, hM⟩ := chk_ex hM
  refine J.iald (pc := 5) C (im_1 q cI) hv dX7_costs_5 ?_
  refine J.case (pc := 6) C 1 (fun hs0 => ?_) (fun hs0 => ?_)
  · have hM := ite_t hs0 hM
    refine J.tabIn (pc := 6) C 1 40 dX7_costs_6 hs0 (by decide) (by decide) rfl (by decide) ?_
    refine J.aload_n (pc := 40) C dX7_costs_40 rfl rfl ?_
    refine gf_X7_0_6 (pc := 41) C tf_X7_25 dX7_costs_41 ?_
    refine J.iconst (pc := 44) C 2 dX7_costs_44 ic_2 ?_
    refine J.iald (pc := 45) C (im_6 q cI) (vpl rfl) dX7_costs_45 ?_
    refine J.iconst (pc := 46) C 2 dX7_costs_46 ic_2 ?_
    refine J.idiv (pc := 47) C dX7_costs_47 (by decide) ?_
    exact hret dX7_costs_48 hM rfl
  · have hM := ite_f hs0 hM
    refine J.case (pc := 6) C 2 (fun hs1 => ?_) (fun hs1 => ?_)
    · have hM := ite_t hs1 hM
      refine J.tabIn (pc := 6) C 2 49 dX7_costs_6 hs1 (by decide) (by decide) rfl (by decide) ?_
      refine J.iconst (pc := 49) C 2 dX7_costs_49 ic_2 ?_
      refine J.aload_n (pc := 50) C dX7_costs_50 rfl rfl ?_
      refine gf_X7_0_6 (pc := 51) C tf_X7_25 dX7_costs_51 ?_
      refine J.iconst (pc := 54) C 2 dX7_costs_54 ic_2 ?_
      refine J.iald (pc := 55) C (im_6 q cI) (vpl rfl) dX7_costs_55 ?_
      refine J.imul (pc := 56) C dX7_costs_56 ?_
      exact hret dX7_costs_57 hM rfl
    · have hM := ite_f hs1 hM
      refine J.case (pc := 6) C 3 (fun hs2 => ?_) (fun hs2 => ?_)
      · have hM := ite_t hs2 hM
        refine J.tabIn (pc := 6) C 3 58 dX7_costs_6 hs2 (by decide) (by decide) rfl (by decide) ?_
        refine J.aload_n (pc := 58) C dX7_costs_58 rfl rfl ?_
        refine gf_X7_0_6 (pc := 59) C tf_X7_25 dX7_costs_59 ?_
        refine J.iconst (pc := 62) C 2 dX7_costs_62 ic_2 ?_
        refine J.iald (pc := 63) C (im_6 q cI) (vpl rfl) dX7_costs_63 ?_
        refine J.iconst (pc := 64) C 1 dX7_costs_64 ic_1 ?_
        refine J.iadd (pc := 65) C dX7_costs_65 ?_
        exact hret dX7_costs_66 hM rfl
      · have hM := ite_f hs2 hM
        refine J.case (pc := 6) C 4 (fun hs3 => ?_) (fun hs3 => ?_)
        · have hM := ite_t hs3 hM
          refine J.tabIn (pc := 6) C 4 67 dX7_costs_6 hs3 (by decide) (by decide) rfl (by decide) ?_
          refine J.iconst (pc := 67) C 0 dX7_costs_67 ic_0 ?_
          exact hret dX7_costs_68 hM rfl
        · have hM := ite_f hs3 hM
          refine J.case (pc := 6) C 5 (fun hs4 => ?_) (fun hs4 => ?_)
          · have hM := ite_t hs4 hM
            refine J.tabIn (pc := 6) C 5 67 dX7_costs_6 hs4 (by decide) (by decide) rfl (by decide) ?_
            refine J.iconst (pc := 67) C 0 dX7_costs_67 ic_0 ?_
            exact hret dX7_costs_68 hM rfl
          · have hM := ite_f hs4 hM
            refine J.tabOut (pc := 6) C 69 dX7_costs_6 (by have c0 := i_ne 1 rfl hs0; have c1 := i_ne 2 rfl hs1; have c2 := i_ne 3 rfl hs2; have c3 := i_ne 4 rfl hs3; have c4 := i_ne 5 rfl hs4; omega) (by decide) ?_
            refine J.aload_n (pc := 69) C dX7_costs_69 rfl rfl ?_
            refine gf_X7_0_6 (pc := 70) C tf_X7_25 dX7_costs_70 ?_
            refine J.iconst (pc := 73) C 2 dX7_costs_73 ic_2 ?_
            refine J.iald (pc := 74) C (im_6 q cI) (vpl rfl) dX7_costs_74 ?_
            exact hret dX7_costs_75 hM rfl
def M_X7_goer (x1 x2 : Int32) (g : Sg) : Option (Int32 × Sg) := (if (V_X7_isGoer x1 g) = 0 then bI (M_X7_no (-1) g) (fun r_7 g_8 => some (r_7, g_8)) else (if x2 = 0 then chk x1 7 (some (rd g 1 x1, g)) else if x2 = 1 then chk x1 7 (some (rd g 2 x1, g)) else if x2 = 2 then chk x1 7 (some (rd g 3 x1, g)) else if x2 = 3 then chk x1 7 (some (rd g 4 x1, g)) else if x2 = 4 then chk x1 7 (some (rd g 5 x1, g)) else if x2 = 5 then bI (M_X7_fetches x1 g) (fun r_5 g_6 => some (r_5, g_6)) else if x2 = 6 then bI (M_X7_costs x1 g) (fun r_3 g_4 => some (r_3, g_4)) else bI (M_X7_no (-2) g) (fun r_1 g_2 => some (r_1, g_2))))
set_option maxRecDepth 100000 in
set_option maxHeartbeats 4000000 in
theorem C_X7_goer {l : Launch} {D : va_G} {q : Nat → Nat} {cI : ClassId} {z : Nat × Nat} {x1 x2 : Int32} {g : Sg} {r : Int32 × Sg} (h : M_X7_goer x1 x2 g = some r) : CTi l (EM z) D cI (mW q cI) yX7_goer cX7_goer 3 (some .int) 2 43 [.ref (q 0), .int x1, .int x2] g r := by
  refine CTi.of2 (by decide) (EM_ok z) (Nat.le_of_ble_eq_true rfl) rfl (fun p e s m args below meth c A Q C hret => ?_)
  have hM := h
  unfold M_X7_goer at hM
  refine J.aload_n (pc := 0) C dX7_goer_0 rfl rfl ?_
  refine J.iload_n (pc := 1) C dX7_goer_1 rfl rfl ?_
  refine J.callV1i (pc := 2) C (K_X7_isGoer _ _) lk_X7_isGoer tm_X7_121 (io_m q cI) ⟨Nat.le_of_ble_eq_true rfl, Nat.le_of_ble_eq_true rfl⟩ (Nat.le_of_ble_eq_true rfl) dX7_goer_2 ?_
  refine J.if_ne (pc := 5) C 14 dX7_goer_5 (by decide) (fun hc => ?_) (fun hc => ?_)
  · have hM := ite_f hc hM
    refine J.iload_n (pc := 14) C dX7_goer_14 rfl rfl ?_
    refine J.case (pc := 15) C 0 (fun hs0 => ?_) (fun hs0 => ?_)
    · have hM := ite_t hs0 hM
      refine J.tabIn (pc := 15) C 0 56 dX7_goer_15 hs0 (by decide) (by decide) rfl (by decide) ?_
      refine J.aload_n (pc := 56) C dX7_goer_56 rfl rfl ?_
      refine gf_X7_0_1 (pc := 57) C tf_X7_7 dX7_goer_57 ?_
      refine J.iload_n (pc := 60) C dX7_goer_60 rfl rfl ?_
      obtain ⟨hv, hM⟩ := chk_ex hM
      refine J.iald (pc := 61) C (im_1 q cI) hv dX7_goer_61 ?_
      exact hret dX7_goer_62 hM rfl
    · have hM := ite_f hs0 hM
      refine J.case (pc := 15) C 1 (fun hs1 => ?_) (fun hs1 => ?_)
      · have hM := ite_t hs1 hM
        refine J.tabIn (pc := 15) C 1 63 dX7_goer_15 hs1 (by decide) (by decide) rfl (by decide) ?_
        refine J.aload_n (pc := 63) C dX7_goer_63 rfl rfl ?_
        refine gf_X7_0_2 (pc := 64) C tf_X7_13 dX7_goer_64 ?_
        refine J.iload_n (pc := 67) C dX7_goer_67 rfl rfl ?_
        obtain ⟨hv, hM⟩ := chk_ex hM
        refine J.iald (pc := 68) C (im_2 q cI) hv dX7_goer_68 ?_
        exact hret dX7_goer_69 hM rfl
      · have hM := ite_f hs1 hM
        refine J.case (pc := 15) C 2 (fun hs2 => ?_) (fun hs2 => ?_)
        · have hM := ite_t hs2 hM
          refine J.tabIn (pc := 15) C 2 70 dX7_goer_15 hs2 (by decide) (by decide) rfl (by decide) ?_
          refine J.aload_n (pc := 70) C dX7_goer_70 rfl rfl ?_
          refine gf_X7_0_3 (pc := 71) C tf_X7_16 dX7_goer_71 ?_
          refine J.iload_n (pc := 74) C dX7_goer_74 rfl rfl ?_
          obtain ⟨hv, hM⟩ := chk_ex hM
          refine J.iald (pc := 75) C (im_3 q cI) hv dX7_goer_75 ?_
          exact hret dX7_goer_76 hM rfl
        · have hM := ite_f hs2 hM
          refine J.case (pc := 15) C 3 (fun hs3 => ?_) (fun hs3 => ?_)
          · have hM := ite_t hs3 hM
            refine J.tabIn (pc := 15) C 3 77 dX7_goer_15 hs3 (by decide) (by decide) rfl (by decide) ?_
            refine J.aload_n (pc := 77) C dX7_goer_77 rfl rfl ?_
            refine gf_X7_0_4 (pc := 78) C tf_X7_19 dX7_goer_78 ?_
            refine J.iload_n (pc := 81) C dX7_goer_81 rfl rfl ?_
            obtain ⟨hv, hM⟩ := chk_ex hM
            refine J.iald (pc := 82) C (im_4 q cI) hv dX7_goer_82 ?_
            exact hret dX7_goer_83 hM rfl
          · have hM := ite_f hs3 hM
            refine J.case (pc := 15) C 4 (fun hs4 => ?_) (fun hs4 => ?_)
            · have hM := ite_t hs4 hM
              refine J.tabIn (pc := 15) C 4 84 dX7_goer_15 hs4 (by decide) (by decide) rfl (by decide) ?_
              refine J.aload_n (pc := 84) C dX7_goer_84 rfl rfl ?_
              refine gf_X7_0_5 (pc := 85) C tf_X7_22 dX7_goer_85 ?_
              refine J.iload_n (pc := 88) C dX7_goer_88 rfl rfl ?_
              obtain ⟨hv, hM⟩ := chk_ex hM
              refine J.iald (pc := 89) C (im_5 q cI) hv dX7_goer_89 ?_
              exact hret dX7_goer_90 hM rfl
            · have hM := ite_f hs4 hM
              refine J.case (pc := 15) C 5 (fun hs5 => ?_) (fun hs5 => ?_)
              · have hM := ite_t hs5 hM
                refine J.tabIn (pc := 15) C 5 91 dX7_goer_15 hs5 (by decide) (by decide) rfl (by decide) ?_
                refine J.aload_n (pc := 91) C dX7_goer_91 rfl rfl ?_
                refine J.iload_n (pc := 92) C dX7_goer_92 rfl rfl ?_
                obtain ⟨_, _, h1, hM⟩ := bI_ex hM
                refine J.callV1i (pc := 93) C (C_X7_fetches h1) lk_X7_fetches tm_X7_135 (io_m q cI) ⟨Nat.le_of_ble_eq_true rfl, Nat.le_of_ble_eq_true rfl⟩ (Nat.le_of_ble_eq_true rfl) dX7_goer_93 ?_
                exact hret dX7_goer_96 hM rfl
              · have hM := ite_f hs5 hM
                refine J.case (pc := 15) C 6 (fun hs6 => ?_) (fun hs6 => ?_)
                · have hM := ite_t hs6 hM
                  refine J.tabIn (pc := 15) C 6 97 dX7_goer_15 hs6 (by decide) (by decide) rfl (by decide) ?_
                  refine J.aload_n (pc := 97) C dX7_goer_97 rfl rfl ?_
                  refine J.iload_n (pc := 98) C dX7_goer_98 rfl rfl ?_
                  obtain ⟨_, _, h1, hM⟩ := bI_ex hM
                  refine J.callV1i (pc := 99) C (C_X7_costs h1) lk_X7_costs tm_X7_138 (io_m q cI) ⟨Nat.le_of_ble_eq_true rfl, Nat.le_of_ble_eq_true rfl⟩ (Nat.le_of_ble_eq_true rfl) dX7_goer_99 ?_
                  exact hret dX7_goer_102 hM rfl
                · have hM := ite_f hs6 hM
                  refine J.tabOut (pc := 15) C 103 dX7_goer_15 (by have c0 := i_ne 0 rfl hs0; have c1 := i_ne 1 rfl hs1; have c2 := i_ne 2 rfl hs2; have c3 := i_ne 3 rfl hs3; have c4 := i_ne 4 rfl hs4; have c5 := i_ne 5 rfl hs5; have c6 := i_ne 6 rfl hs6; omega) (by decide) ?_
                  refine J.aload_n (pc := 103) C dX7_goer_103 rfl rfl ?_
                  refine J.bipush (pc := 104) C (-2) dX7_goer_104 bp_m2 ?_
                  obtain ⟨_, _, h1, hM⟩ := bI_ex hM
                  refine J.callV1i (pc := 106) C (C_X7_no h1) lk_X7_no tm_X7_80 (io_m q cI) ⟨Nat.le_of_ble_eq_true rfl, Nat.le_of_ble_eq_true rfl⟩ (Nat.le_of_ble_eq_true rfl) dX7_goer_106 ?_
                  exact hret dX7_goer_109 hM rfl
  · have hM := ite_t hc hM
    refine J.aload_n (pc := 8) C dX7_goer_8 rfl rfl ?_
    refine J.iconst (pc := 9) C (-1) dX7_goer_9 ic_m1 ?_
    obtain ⟨_, _, h1, hM⟩ := bI_ex hM
    refine J.callV1i (pc := 10) C (C_X7_no h1) lk_X7_no tm_X7_80 (io_m q cI) ⟨Nat.le_of_ble_eq_true rfl, Nat.le_of_ble_eq_true rfl⟩ (Nat.le_of_ble_eq_true rfl) dX7_goer_10 ?_
    exact hret dX7_goer_13 hM rfl
def M_X7_hour (x1 x2 : Int32) (g : Sg) : Option (Int32 × Sg) := (if (V_X7_isGoer x1 g) = 0 then bI (M_X7_no (-1) g) (fun r_6 g_7 => some (r_6, g_7)) else (if 0 ≤ x2 then (if x2 ≤ 11 then chk x1 7 (chk x1 7 (lt (wr g 5 x1 x2) (fun g_1 => some (rd g 5 x1, g_1)))) else bI (M_X7_no (-6) g) (fun r_2 g_3 => some (r_2, g_3))) else bI (M_X7_no (-4) g) (fun r_4 g_5 => some (r_4, g_5))))
set_option maxRecDepth 100000 in
set_option maxHeartbeats 4000000 in
theorem C_X7_hour {l : Launch} {D : va_G} {q : Nat → Nat} {cI : ClassId} {z : Nat × Nat} {x1 x2 : Int32} {g : Sg} {r : Int32 × Sg} (h : M_X7_hour x1 x2 g = some r) : CTi l (EM z) D cI (mW q cI) yX7_hour cX7_hour 4 (some .int) 2 43 [.ref (q 0), .int x1, .int x2] g r := by
  refine CTi.of2 (by decide) (EM_ok z) (Nat.le_of_ble_eq_true rfl) rfl (fun p e s m args below meth c A Q C hret => ?_)
  have hM := h
  unfold M_X7_hour at hM
  refine J.aload_n (pc := 0) C dX7_hour_0 rfl rfl ?_
  refine J.iload_n (pc := 1) C dX7_hour_1 rfl rfl ?_
  refine J.callV1i (pc := 2) C (K_X7_isGoer _ _) lk_X7_isGoer tm_X7_121 (io_m q cI) ⟨Nat.le_of_ble_eq_true rfl, Nat.le_of_ble_eq_true rfl⟩ (Nat.le_of_ble_eq_true rfl) dX7_hour_2 ?_
  refine J.if_ne (pc := 5) C 14 dX7_hour_5 (by decide) (fun hc => ?_) (fun hc => ?_)
  · have hM := ite_f hc hM
    refine J.iload_n (pc := 14) C dX7_hour_14 rfl rfl ?_
    refine J.if_ge (pc := 15) C 25 dX7_hour_15 (by decide) (fun hc => ?_) (fun hc => ?_)
    · have hM := ite_t hc hM
      refine J.iload_n (pc := 25) C dX7_hour_25 rfl rfl ?_
      refine J.bipush (pc := 26) C 11 dX7_hour_26 bp_11 ?_
      refine J.icmp_le (pc := 28) C 38 dX7_hour_28 (by decide) (fun hc => ?_) (fun hc => ?_)
      · have hM := ite_t hc hM
        refine J.aload_n (pc := 38) C dX7_hour_38 rfl rfl ?_
        refine gf_X7_0_5 (pc := 39) C tf_X7_22 dX7_hour_39 ?_
        refine J.iload_n (pc := 42) C dX7_hour_42 rfl rfl ?_
        obtain ⟨hv, hM⟩ := chk_ex hM
        refine J.iald (pc := 43) C (im_5 q cI) hv dX7_hour_43 ?_
        refine J.istore_n (pc := 44) C dX7_hour_44 rfl (by decide) ?_
        refine J.aload_n (pc := 45) C dX7_hour_45 rfl rfl ?_
        refine gf_X7_0_5 (pc := 46) C tf_X7_22 dX7_hour_46 ?_
        refine J.iload_n (pc := 49) C dX7_hour_49 rfl rfl ?_
        refine J.iload_n (pc := 50) C dX7_hour_50 rfl rfl ?_
        obtain ⟨hv, hM⟩ := chk_ex hM
        refine J.iast (pc := 51) C (im_5 q cI) hv dX7_hour_51 ?_
        obtain ⟨_, ea, hM⟩ := lt_ex hM
        refine J.cong C ea ?_
        refine J.iload_n (pc := 52) C dX7_hour_52 rfl rfl ?_
        exact hret dX7_hour_53 hM rfl
      · have hM := ite_f hc hM
        refine J.aload_n (pc := 31) C dX7_hour_31 rfl rfl ?_
        refine J.bipush (pc := 32) C (-6) dX7_hour_32 bp_m6 ?_
        obtain ⟨_, _, h1, hM⟩ := bI_ex hM
        refine J.callV1i (pc := 34) C (C_X7_no h1) lk_X7_no tm_X7_80 (io_m q cI) ⟨Nat.le_of_ble_eq_true rfl, Nat.le_of_ble_eq_true rfl⟩ (Nat.le_of_ble_eq_true rfl) dX7_hour_34 ?_
        exact hret dX7_hour_37 hM rfl
    · have hM := ite_f hc hM
      refine J.aload_n (pc := 18) C dX7_hour_18 rfl rfl ?_
      refine J.bipush (pc := 19) C (-4) dX7_hour_19 bp_m4 ?_
      obtain ⟨_, _, h1, hM⟩ := bI_ex hM
      refine J.callV1i (pc := 21) C (C_X7_no h1) lk_X7_no tm_X7_80 (io_m q cI) ⟨Nat.le_of_ble_eq_true rfl, Nat.le_of_ble_eq_true rfl⟩ (Nat.le_of_ble_eq_true rfl) dX7_hour_21 ?_
      exact hret dX7_hour_24 hM rfl
  · have hM := ite_t hc hM
    refine J.aload_n (pc := 8) C dX7_hour_8 rfl rfl ?_
    refine J.iconst (pc := 9) C (-1) dX7_hour_9 ic_m1 ?_
    obtain ⟨_, _, h1, hM⟩ := bI_ex hM
    refine J.callV1i (pc := 10) C (C_X7_no h1) lk_X7_no tm_X7_80 (io_m q cI) ⟨Nat.le_of_ble_eq_true rfl, Nat.le_of_ble_eq_true rfl⟩ (Nat.le_of_ble_eq_true rfl) dX7_hour_10 ?_
    exact hret dX7_hour_13 hM rfl
def M_X7_set (x1 x2 : Int32) (g : Sg) : Option (Int32 × Sg) := (if (V_X7_within x1 0 2 g) = 0 then bI (M_X7_no (-2) g) (fun r_6 g_7 => some (r_6, g_7)) else (if 0 ≤ x2 then (if x2 ≤ (V_X7_mostOf x1 g) then chk x1 3 (chk x1 3 (lt (wr g 6 x1 x2) (fun g_1 => some (rd g 6 x1, g_1)))) else bI (M_X7_no (-6) g) (fun r_2 g_3 => some (r_2, g_3))) else bI (M_X7_no (-4) g) (fun r_4 g_5 => some (r_4, g_5))))
set_option maxRecDepth 100000 in
set_option maxHeartbeats 4000000 in
theorem C_X7_set {l : Launch} {D : va_G} {q : Nat → Nat} {cI : ClassId} {z : Nat × Nat} {x1 x2 : Int32} {g : Sg} {r : Int32 × Sg} (h : M_X7_set x1 x2 g = some r) : CTi l (EM z) D cI (mW q cI) yX7_set cX7_set 4 (some .int) 1 22 [.ref (q 0), .int x1, .int x2] g r := by
  refine CTi.of2 (by decide) (EM_ok z) (Nat.le_of_ble_eq_true rfl) rfl (fun p e s m args below meth c A Q C hret => ?_)
  have hM := h
  unfold M_X7_set at hM
  refine J.iload_n (pc := 0) C dX7_set_0 rfl rfl ?_
  refine J.iconst (pc := 1) C 0 dX7_set_1 ic_0 ?_
  refine J.iconst (pc := 2) C 2 dX7_set_2 ic_2 ?_
  refine J.callS3i (pc := 3) C (K_X7_within _ _ _ _) lk_X7_within tm_X7_88 ⟨Nat.le_of_ble_eq_true rfl, Nat.le_of_ble_eq_true rfl⟩ (Nat.le_of_ble_eq_true rfl) dX7_set_3 ?_
  refine J.if_ne (pc := 6) C 16 dX7_set_6 (by decide) (fun hc => ?_) (fun hc => ?_)
  · have hM := ite_f hc hM
    refine J.iload_n (pc := 16) C dX7_set_16 rfl rfl ?_
    refine J.if_ge (pc := 17) C 27 dX7_set_17 (by decide) (fun hc => ?_) (fun hc => ?_)
    · have hM := ite_t hc hM
      refine J.iload_n (pc := 27) C dX7_set_27 rfl rfl ?_
      refine J.iload_n (pc := 28) C dX7_set_28 rfl rfl ?_
      refine J.callS1i (pc := 29) C (K_X7_mostOf _ _) lk_X7_mostOf tm_X7_141 ⟨Nat.le_of_ble_eq_true rfl, Nat.le_of_ble_eq_true rfl⟩ (Nat.le_of_ble_eq_true rfl) dX7_set_29 ?_
      refine J.icmp_le (pc := 32) C 42 dX7_set_32 (by decide) (fun hc => ?_) (fun hc => ?_)
      · have hM := ite_t hc hM
        refine J.aload_n (pc := 42) C dX7_set_42 rfl rfl ?_
        refine gf_X7_0_6 (pc := 43) C tf_X7_25 dX7_set_43 ?_
        refine J.iload_n (pc := 46) C dX7_set_46 rfl rfl ?_
        obtain ⟨hv, hM⟩ := chk_ex hM
        refine J.iald (pc := 47) C (im_6 q cI) hv dX7_set_47 ?_
        refine J.istore_n (pc := 48) C dX7_set_48 rfl (by decide) ?_
        refine J.aload_n (pc := 49) C dX7_set_49 rfl rfl ?_
        refine gf_X7_0_6 (pc := 50) C tf_X7_25 dX7_set_50 ?_
        refine J.iload_n (pc := 53) C dX7_set_53 rfl rfl ?_
        refine J.iload_n (pc := 54) C dX7_set_54 rfl rfl ?_
        obtain ⟨hv, hM⟩ := chk_ex hM
        refine J.iast (pc := 55) C (im_6 q cI) hv dX7_set_55 ?_
        obtain ⟨_, ea, hM⟩ := lt_ex hM
        refine J.cong C ea ?_
        refine J.iload_n (pc := 56) C dX7_set_56 rfl rfl ?_
        exact hret dX7_set_57 hM rfl
      · have hM := ite_f hc hM
        refine J.aload_n (pc := 35) C dX7_set_35 rfl rfl ?_
        refine J.bipush (pc := 36) C (-6) dX7_set_36 bp_m6 ?_
        obtain ⟨_, _, h1, hM⟩ := bI_ex hM
        refine J.callV1i (pc := 38) C (C_X7_no h1) lk_X7_no tm_X7_80 (io_m q cI) ⟨Nat.le_of_ble_eq_true rfl, Nat.le_of_ble_eq_true rfl⟩ (Nat.le_of_ble_eq_true rfl) dX7_set_38 ?_
        exact hret dX7_set_41 hM rfl
    · have hM := ite_f hc hM
      refine J.aload_n (pc := 20) C dX7_set_20 rfl rfl ?_
      refine J.bipush (pc := 21) C (-4) dX7_set_21 bp_m4 ?_
      obtain ⟨_, _, h1, hM⟩ := bI_ex hM
      refine J.callV1i (pc := 23) C (C_X7_no h1) lk_X7_no tm_X7_80 (io_m q cI) ⟨Nat.le_of_ble_eq_true rfl, Nat.le_of_ble_eq_true rfl⟩ (Nat.le_of_ble_eq_true rfl) dX7_set_23 ?_
      exact hret dX7_set_26 hM rfl
  · have hM := ite_t hc hM
    refine J.aload_n (pc := 9) C dX7_set_9 rfl rfl ?_
    refine J.bipush (pc := 10) C (-2) dX7_set_10 bp_m2 ?_
    obtain ⟨_, _, h1, hM⟩ := bI_ex hM
    refine J.callV1i (pc := 12) C (C_X7_no h1) lk_X7_no tm_X7_80 (io_m q cI) ⟨Nat.le_of_ble_eq_true rfl, Nat.le_of_ble_eq_true rfl⟩ (Nat.le_of_ble_eq_true rfl) dX7_set_12 ?_
    exact hret dX7_set_15 hM rfl
def M_X7_walksDark (x1 x2 x3 : Int32) (g : Sg) : Option Sg := chk x1 7 (chk x1 7 (lt (wr g 16 x1 ((rd g 16 x1) + (iabs (x2 - x3)))) (fun g_1 => some g_1)))
set_option maxRecDepth 100000 in
set_option maxHeartbeats 4000000 in
theorem C_X7_walksDark {l : Launch} {D : va_G} {q : Nat → Nat} {cI : ClassId} {z : Nat × Nat} {x1 x2 x3 : Int32} {g : Sg} {r : Sg} (h : M_X7_walksDark x1 x2 x3 g = some r) : CTv l (EM z) D cI (mW q cI) yX7_walksDark cX7_walksDark 4 1 24 [.ref (q 0), .int x1, .int x2, .int x3] g r := by
  refine CTv.of2 (by decide) (EM_ok z) (Nat.le_of_ble_eq_true rfl) rfl (fun p e s m args below meth c A Q C hret => ?_)
  have hM := h
  unfold M_X7_walksDark at hM
  refine J.aload_n (pc := 0) C dX7_walksDark_0 rfl rfl ?_
  refine gf_X7_0_22 (pc := 1) C tf_X7_55 dX7_walksDark_1 ?_
  refine J.iload_n (pc := 4) C dX7_walksDark_4 rfl rfl ?_
  refine J.dup2 (pc := 5) C dX7_walksDark_5 rfl rfl ?_
  obtain ⟨hv, hM⟩ := chk_ex hM
  refine J.iald (pc := 6) C (im_16 q cI) hv dX7_walksDark_6 ?_
  refine J.iload_n (pc := 7) C dX7_walksDark_7 rfl rfl ?_
  refine J.iload_n (pc := 8) C dX7_walksDark_8 rfl rfl ?_
  refine J.isub (pc := 9) C dX7_walksDark_9 ?_
  refine J.mabs (pc := 10) C tm_X7_144 (Nat.le_of_ble_eq_true rfl) (Nat.le_of_ble_eq_true rfl) dX7_walksDark_10 ?_
  refine J.iadd (pc := 13) C dX7_walksDark_13 ?_
  obtain ⟨hv, hM⟩ := chk_ex hM
  refine J.iast (pc := 14) C (im_16 q cI) hv dX7_walksDark_14 ?_
  obtain ⟨_, ea, hM⟩ := lt_ex hM
  refine J.cong C ea ?_
  exact hret dX7_walksDark_15 hM
def M_X7_carries (x1 x2 x3 : Int32) (g : Sg) : Option Sg := chk x2 2 (lt (iabs ((rd g 14 x2) - x3)) (fun x4_1 => chk x2 2 (lt (imin x4_1 (rd g 15 x2)) (fun x5_2 => chk x2 2 (chk x2 2 (lt (wr g 15 x2 ((rd g 15 x2) - x5_2)) (fun g_3 => chk x1 7 (chk x1 7 (lt (wr g_3 17 x1 ((rd g_3 17 x1) + x5_2)) (fun g_4 => chk x1 7 (chk x1 7 (lt (wr g_4 16 x1 ((rd g_4 16 x1) + (x4_1 - x5_2))) (fun g_5 => chk x2 2 (lt (wr g_5 14 x2 x3) (fun g_6 => some g_6)))))))))))))))
set_option maxRecDepth 100000 in
set_option maxHeartbeats 4000000 in
theorem C_X7_carries {l : Launch} {D : va_G} {q : Nat → Nat} {cI : ClassId} {z : Nat × Nat} {x1 x2 x3 : Int32} {g : Sg} {r : Sg} (h : M_X7_carries x1 x2 x3 g = some r) : CTv l (EM z) D cI (mW q cI) yX7_carries cX7_carries 6 1 24 [.ref (q 0), .int x1, .int x2, .int x3] g r := by
  refine CTv.of2 (by decide) (EM_ok z) (Nat.le_of_ble_eq_true rfl) rfl (fun p e s m args below meth c A Q C hret => ?_)
  have hM := h
  unfold M_X7_carries at hM
  refine J.aload_n (pc := 0) C dX7_carries_0 rfl rfl ?_
  refine gf_X7_0_20 (pc := 1) C tf_X7_49 dX7_carries_1 ?_
  refine J.iload_n (pc := 4) C dX7_carries_4 rfl rfl ?_
  obtain ⟨hv, hM⟩ := chk_ex hM
  refine J.iald (pc := 5) C (im_14 q cI) hv dX7_carries_5 ?_
  refine J.iload_n (pc := 6) C dX7_carries_6 rfl rfl ?_
  refine J.isub (pc := 7) C dX7_carries_7 ?_
  refine J.mabs (pc := 8) C tm_X7_144 (Nat.le_of_ble_eq_true rfl) (Nat.le_of_ble_eq_true rfl) dX7_carries_8 ?_
  obtain ⟨_, ea, hM⟩ := lt_ex hM
  refine J.istoreV (pc := 11) C dX7_carries_11 (by decide) ea ?_
  refine J.iload (pc := 13) C dX7_carries_13 rfl ?_
  refine J.aload_n (pc := 15) C dX7_carries_15 rfl rfl ?_
  refine gf_X7_0_21 (pc := 16) C tf_X7_52 dX7_carries_16 ?_
  refine J.iload_n (pc := 19) C dX7_carries_19 rfl rfl ?_
  obtain ⟨hv, hM⟩ := chk_ex hM
  refine J.iald (pc := 20) C (im_15 q cI) hv dX7_carries_20 ?_
  refine J.mmin (pc := 21) C tm_X7_149 (Nat.le_of_ble_eq_true rfl) (Nat.le_of_ble_eq_true rfl) dX7_carries_21 ?_
  obtain ⟨_, ea, hM⟩ := lt_ex hM
  refine J.istoreV (pc := 24) C dX7_carries_24 (by decide) ea ?_
  refine J.aload_n (pc := 26) C dX7_carries_26 rfl rfl ?_
  refine gf_X7_0_21 (pc := 27) C tf_X7_52 dX7_carries_27 ?_
  refine J.iload_n (pc := 30) C dX7_carries_30 rfl rfl ?_
  refine J.dup2 (pc := 31) C dX7_carries_31 rfl rfl ?_
  obtain ⟨hv, hM⟩ := chk_ex hM
  refine J.iald (pc := 32) C (im_15 q cI) hv dX7_carries_32 ?_
  refine J.iload (pc := 33) C dX7_carries_33 rfl ?_
  refine J.isub (pc := 35) C dX7_carries_35 ?_
  obtain ⟨hv, hM⟩ := chk_ex hM
  refine J.iast (pc := 36) C (im_15 q cI) hv dX7_carries_36 ?_
  obtain ⟨_, ea, hM⟩ := lt_ex hM
  refine J.cong C ea ?_
  refine J.aload_n (pc := 37) C dX7_carries_37 rfl rfl ?_
  refine gf_X7_0_23 (pc := 38) C tf_X7_58 dX7_carries_38 ?_
  refine J.iload_n (pc := 41) C dX7_carries_41 rfl rfl ?_
  refine J.dup2 (pc := 42) C dX7_carries_42 rfl rfl ?_
  obtain ⟨hv, hM⟩ := chk_ex hM
  refine J.iald (pc := 43) C (im_17 q cI) hv dX7_carries_43 ?_
  refine J.iload (pc := 44) C dX7_carries_44 rfl ?_
  refine J.iadd (pc := 46) C dX7_carries_46 ?_
  obtain ⟨hv, hM⟩ := chk_ex hM
  refine J.iast (pc := 47) C (im_17 q cI) hv dX7_carries_47 ?_
  obtain ⟨_, ea, hM⟩ := lt_ex hM
  refine J.cong C ea ?_
  refine J.aload_n (pc := 48) C dX7_carries_48 rfl rfl ?_
  refine gf_X7_0_22 (pc := 49) C tf_X7_55 dX7_carries_49 ?_
  refine J.iload_n (pc := 52) C dX7_carries_52 rfl rfl ?_
  refine J.dup2 (pc := 53) C dX7_carries_53 rfl rfl ?_
  obtain ⟨hv, hM⟩ := chk_ex hM
  refine J.iald (pc := 54) C (im_16 q cI) hv dX7_carries_54 ?_
  refine J.iload (pc := 55) C dX7_carries_55 rfl ?_
  refine J.iload (pc := 57) C dX7_carries_57 rfl ?_
  refine J.isub (pc := 59) C dX7_carries_59 ?_
  refine J.iadd (pc := 60) C dX7_carries_60 ?_
  obtain ⟨hv, hM⟩ := chk_ex hM
  refine J.iast (pc := 61) C (im_16 q cI) hv dX7_carries_61 ?_
  obtain ⟨_, ea, hM⟩ := lt_ex hM
  refine J.cong C ea ?_
  refine J.aload_n (pc := 62) C dX7_carries_62 rfl rfl ?_
  refine gf_X7_0_20 (pc := 63) C tf_X7_49 dX7_carries_63 ?_
  refine J.iload_n (pc := 66) C dX7_carries_66 rfl rfl ?_
  refine J.iload_n (pc := 67) C dX7_carries_67 rfl rfl ?_
  obtain ⟨hv, hM⟩ := chk_ex hM
  refine J.iast (pc := 68) C (im_14 q cI) hv dX7_carries_68 ?_
  obtain ⟨_, ea, hM⟩ := lt_ex hM
  refine J.cong C ea ?_
  exact hret dX7_carries_69 hM
def M_X7_carriedTo (x1 x2 : Int32) (g : Sg) : Option (Int32 × Sg) := chk x1 7 ((if (rd g 1 x1) = 5 then some (x2, g) else chk x1 7 ((if (rd g 1 x1) = 1 then chk x1 7 (lt ((rd g 4 x1) - x2) (fun x3_1 => chk x1 7 ((if (rd g 2 x1) < (iabs x3_1) then (if x3_1 ≤ 0 then chk x1 7 (chk x1 7 (some ((rd g 4 x1) + (rd g 2 x1), g))) else chk x1 7 (chk x1 7 (some ((rd g 4 x1) - (rd g 2 x1), g)))) else some (x2, g))))) else chk x1 7 (some (rd g 4 x1, g))))))
set_option maxRecDepth 100000 in
set_option maxHeartbeats 4000000 in
theorem C_X7_carriedTo {l : Launch} {D : va_G} {q : Nat → Nat} {cI : ClassId} {z : Nat × Nat} {x1 x2 : Int32} {g : Sg} {r : Int32 × Sg} (h : M_X7_carriedTo x1 x2 g = some r) : CTi l (EM z) D cI (mW q cI) yX7_carriedTo cX7_carriedTo 4 (some .int) 1 24 [.ref (q 0), .int x1, .int x2] g r := by
  refine CTi.of2 (by decide) (EM_ok z) (Nat.le_of_ble_eq_true rfl) rfl (fun p e s m args below meth c A Q C hret => ?_)
  have hM := h
  unfold M_X7_carriedTo at hM
  refine J.aload_n (pc := 0) C dX7_carriedTo_0 rfl rfl ?_
  refine gf_X7_0_1 (pc := 1) C tf_X7_7 dX7_carriedTo_1 ?_
  refine J.iload_n (pc := 4) C dX7_carriedTo_4 rfl rfl ?_
  obtain ⟨hv, hM⟩ := chk_ex hM
  refine J.iald (pc := 5) C (im_1 q cI) hv dX7_carriedTo_5 ?_
  refine J.iconst (pc := 6) C 5 dX7_carriedTo_6 ic_5 ?_
  refine J.icmp_ne (pc := 7) C 12 dX7_carriedTo_7 (by decide) (fun hc => ?_) (fun hc => ?_)
  · have hM := ite_f hc hM
    refine J.aload_n (pc := 12) C dX7_carriedTo_12 rfl rfl ?_
    refine gf_X7_0_1 (pc := 13) C tf_X7_7 dX7_carriedTo_13 ?_
    refine J.iload_n (pc := 16) C dX7_carriedTo_16 rfl rfl ?_
    obtain ⟨hv, hM⟩ := chk_ex hM
    refine J.iald (pc := 17) C (im_1 q cI) hv dX7_carriedTo_17 ?_
    refine J.iconst (pc := 18) C 1 dX7_carriedTo_18 ic_1 ?_
    refine J.icmp_eq (pc := 19) C 29 dX7_carriedTo_19 (by decide) (fun hc => ?_) (fun hc => ?_)
    · have hM := ite_t hc hM
      refine J.aload_n (pc := 29) C dX7_carriedTo_29 rfl rfl ?_
      refine gf_X7_0_4 (pc := 30) C tf_X7_19 dX7_carriedTo_30 ?_
      refine J.iload_n (pc := 33) C dX7_carriedTo_33 rfl rfl ?_
      obtain ⟨hv, hM⟩ := chk_ex hM
      refine J.iald (pc := 34) C (im_4 q cI) hv dX7_carriedTo_34 ?_
      refine J.iload_n (pc := 35) C dX7_carriedTo_35 rfl rfl ?_
      refine J.isub (pc := 36) C dX7_carriedTo_36 ?_
      obtain ⟨_, ea, hM⟩ := lt_ex hM
      refine J.istore_nV (pc := 37) C dX7_carriedTo_37 rfl (by decide) ea ?_
      refine J.iload_n (pc := 38) C dX7_carriedTo_38 rfl rfl ?_
      refine J.mabs (pc := 39) C tm_X7_144 (Nat.le_of_ble_eq_true rfl) (Nat.le_of_ble_eq_true rfl) dX7_carriedTo_39 ?_
      refine J.aload_n (pc := 42) C dX7_carriedTo_42 rfl rfl ?_
      refine gf_X7_0_2 (pc := 43) C tf_X7_13 dX7_carriedTo_43 ?_
      refine J.iload_n (pc := 46) C dX7_carriedTo_46 rfl rfl ?_
      obtain ⟨hv, hM⟩ := chk_ex hM
      refine J.iald (pc := 47) C (im_2 q cI) hv dX7_carriedTo_47 ?_
      refine J.icmp_gt (pc := 48) C 53 dX7_carriedTo_48 (by decide) (fun hc => ?_) (fun hc => ?_)
      · have hM := ite_t hc hM
        refine J.iload_n (pc := 53) C dX7_carriedTo_53 rfl rfl ?_
        refine J.if_le (pc := 54) C 73 dX7_carriedTo_54 (by decide) (fun hc => ?_) (fun hc => ?_)
        · have hM := ite_t hc hM
          refine J.aload_n (pc := 73) C dX7_carriedTo_73 rfl rfl ?_
          refine gf_X7_0_4 (pc := 74) C tf_X7_19 dX7_carriedTo_74 ?_
          refine J.iload_n (pc := 77) C dX7_carriedTo_77 rfl rfl ?_
          obtain ⟨hv, hM⟩ := chk_ex hM
          refine J.iald (pc := 78) C (im_4 q cI) hv dX7_carriedTo_78 ?_
          refine J.aload_n (pc := 79) C dX7_carriedTo_79 rfl rfl ?_
          refine gf_X7_0_2 (pc := 80) C tf_X7_13 dX7_carriedTo_80 ?_
          refine J.iload_n (pc := 83) C dX7_carriedTo_83 rfl rfl ?_
          obtain ⟨hv, hM⟩ := chk_ex hM
          refine J.iald (pc := 84) C (im_2 q cI) hv dX7_carriedTo_84 ?_
          refine J.iadd (pc := 85) C dX7_carriedTo_85 ?_
          exact hret dX7_carriedTo_86 hM rfl
        · have hM := ite_f hc hM
          refine J.aload_n (pc := 57) C dX7_carriedTo_57 rfl rfl ?_
          refine gf_X7_0_4 (pc := 58) C tf_X7_19 dX7_carriedTo_58 ?_
          refine J.iload_n (pc := 61) C dX7_carriedTo_61 rfl rfl ?_
          obtain ⟨hv, hM⟩ := chk_ex hM
          refine J.iald (pc := 62) C (im_4 q cI) hv dX7_carriedTo_62 ?_
          refine J.aload_n (pc := 63) C dX7_carriedTo_63 rfl rfl ?_
          refine gf_X7_0_2 (pc := 64) C tf_X7_13 dX7_carriedTo_64 ?_
          refine J.iload_n (pc := 67) C dX7_carriedTo_67 rfl rfl ?_
          obtain ⟨hv, hM⟩ := chk_ex hM
          refine J.iald (pc := 68) C (im_2 q cI) hv dX7_carriedTo_68 ?_
          refine J.isub (pc := 69) C dX7_carriedTo_69 ?_
          refine J.goto (pc := 70) C 86 dX7_carriedTo_70 (by decide) ?_
          exact hret dX7_carriedTo_86 hM rfl
      · have hM := ite_f hc hM
        refine J.iload_n (pc := 51) C dX7_carriedTo_51 rfl rfl ?_
        exact hret dX7_carriedTo_52 hM rfl
    · have hM := ite_f hc hM
      refine J.aload_n (pc := 22) C dX7_carriedTo_22 rfl rfl ?_
      refine gf_X7_0_4 (pc := 23) C tf_X7_19 dX7_carriedTo_23 ?_
      refine J.iload_n (pc := 26) C dX7_carriedTo_26 rfl rfl ?_
      obtain ⟨hv, hM⟩ := chk_ex hM
      refine J.iald (pc := 27) C (im_4 q cI) hv dX7_carriedTo_27 ?_
      exact hret dX7_carriedTo_28 hM rfl
  · have hM := ite_t hc hM
    refine J.iload_n (pc := 10) C dX7_carriedTo_10 rfl rfl ?_
    exact hret dX7_carriedTo_11 hM rfl
def B_X7_nearer_5 (kb5 : Int32 → Int32 → Int32 → Sg → Option (Int32 × Sg)) (x1 x2 x3 : Int32) (g : Sg) : Option (Int32 × Sg) := (if (g.1 6) ≤ x3 then some (x2, g) else chk x3 2 ((if (rd g 15 x3) ≤ 0 then kb5 x1 x2 (x3 + 1) g else (if x2 = (-9) then kb5 x1 x3 (x3 + 1) g else chk x3 2 (chk x1 7 (chk x2 2 (chk x1 7 ((if (iabs ((rd g 14 x2) - (rd g 3 x1))) ≤ (iabs ((rd g 14 x3) - (rd g 3 x1))) then kb5 x1 x2 (x3 + 1) g else kb5 x1 x3 (x3 + 1) g)))))))))
def M_X7_nearer (x1 : Int32) (g : Sg) : Option (Int32 × Sg) := lup3 (B_X7_nearer_5 ) FU x1 (-9) 0 g
set_option maxRecDepth 100000 in
set_option maxHeartbeats 4000000 in
theorem C_X7_nearer {l : Launch} {D : va_G} {q : Nat → Nat} {cI : ClassId} {z : Nat × Nat} {x1 : Int32} {g : Sg} {r : Int32 × Sg} (h : M_X7_nearer x1 g = some r) : CTi l (EM z) D cI (mW q cI) yX7_nearer cX7_nearer 4 (some .int) 1 24 [.ref (q 0), .int x1] g r := by
  refine CTi.of2 (by decide) (EM_ok z) (Nat.le_of_ble_eq_true rfl) rfl (fun p e s m args below meth c A Q C hret => ?_)
  have jb5 : ∀ (kb5 : Int32 → Int32 → Int32 → Sg → Option (Int32 × Sg)) (hkb5 : ∀ (x1 x2 x3 : Int32) (g : Sg), kb5 x1 x2 x3 g = some r → J p l e (RM 1 24) s m args below meth c D (mW q cI) A 4 Q g 5 [(0, .ref (q 0)), (1, .int x1), (2, .int x2), (3, .int x3)] []) (x1 x2 x3 : Int32) (g : Sg), B_X7_nearer_5 kb5 x1 x2 x3 g = some r → J p l e (RM 1 24) s m args below meth c D (mW q cI) A 4 Q g 5 [(0, .ref (q 0)), (1, .int x1), (2, .int x2), (3, .int x3)] [] := by
    intro kb5 hkb5 x1 x2 x3 g hM
    unfold B_X7_nearer_5 at hM
    refine J.iload_n (pc := 5) C dX7_nearer_5 rfl rfl ?_
    refine J.aload_n (pc := 6) C dX7_nearer_6 rfl rfl ?_
    refine gf_X7_0_19 (pc := 7) C tf_X7_153 dX7_nearer_7 ?_
    refine J.icmp_ge (pc := 10) C 71 dX7_nearer_10 (by decide) (fun hc => ?_) (fun hc => ?_)
    · have hM := ite_t hc hM
      refine J.iload_n (pc := 71) C dX7_nearer_71 rfl rfl ?_
      exact hret dX7_nearer_72 hM rfl
    · have hM := ite_f hc hM
      refine J.aload_n (pc := 13) C dX7_nearer_13 rfl rfl ?_
      refine gf_X7_0_21 (pc := 14) C tf_X7_52 dX7_nearer_14 ?_
      refine J.iload_n (pc := 17) C dX7_nearer_17 rfl rfl ?_
      obtain ⟨hv, hM⟩ := chk_ex hM
      refine J.iald (pc := 18) C (im_15 q cI) hv dX7_nearer_18 ?_
      refine J.if_le (pc := 19) C 65 dX7_nearer_19 (by decide) (fun hc => ?_) (fun hc => ?_)
      · have hM := ite_t hc hM
        refine J.iinc (pc := 65) C 1 dX7_nearer_65 ic_1 rfl (by decide) ?_
        refine J.goto (pc := 68) C 5 dX7_nearer_68 (by decide) ?_
        refine J.sub C [0, 1, 2, 3] rfl ?_
        exact hkb5 _ _ _ _ hM
      · have hM := ite_f hc hM
        refine J.iload_n (pc := 22) C dX7_nearer_22 rfl rfl ?_
        refine J.bipush (pc := 23) C (-9) dX7_nearer_23 bp_m9 ?_
        refine J.icmp_eq (pc := 25) C 63 dX7_nearer_25 (by decide) (fun hc => ?_) (fun hc => ?_)
        · have hM := ite_t hc hM
          refine J.iload_n (pc := 63) C dX7_nearer_63 rfl rfl ?_
          refine J.istore_n (pc := 64) C dX7_nearer_64 rfl (by decide) ?_
          refine J.iinc (pc := 65) C 1 dX7_nearer_65 ic_1 rfl (by decide) ?_
          refine J.goto (pc := 68) C 5 dX7_nearer_68 (by decide) ?_
          refine J.sub C [0, 1, 2, 3] rfl ?_
          exact hkb5 _ _ _ _ hM
        · have hM := ite_f hc hM
          refine J.aload_n (pc := 28) C dX7_nearer_28 rfl rfl ?_
          refine gf_X7_0_20 (pc := 29) C tf_X7_49 dX7_nearer_29 ?_
          refine J.iload_n (pc := 32) C dX7_nearer_32 rfl rfl ?_
          obtain ⟨hv, hM⟩ := chk_ex hM
          refine J.iald (pc := 33) C (im_14 q cI) hv dX7_nearer_33 ?_
          refine J.aload_n (pc := 34) C dX7_nearer_34 rfl rfl ?_
          refine gf_X7_0_3 (pc := 35) C tf_X7_16 dX7_nearer_35 ?_
          refine J.iload_n (pc := 38) C dX7_nearer_38 rfl rfl ?_
          obtain ⟨hv, hM⟩ := chk_ex hM
          refine J.iald (pc := 39) C (im_3 q cI) hv dX7_nearer_39 ?_
          refine J.isub (pc := 40) C dX7_nearer_40 ?_
          refine J.mabs (pc := 41) C tm_X7_144 (Nat.le_of_ble_eq_true rfl) (Nat.le_of_ble_eq_true rfl) dX7_nearer_41 ?_
          refine J.aload_n (pc := 44) C dX7_nearer_44 rfl rfl ?_
          refine gf_X7_0_20 (pc := 45) C tf_X7_49 dX7_nearer_45 ?_
          refine J.iload_n (pc := 48) C dX7_nearer_48 rfl rfl ?_
          obtain ⟨hv, hM⟩ := chk_ex hM
          refine J.iald (pc := 49) C (im_14 q cI) hv dX7_nearer_49 ?_
          refine J.aload_n (pc := 50) C dX7_nearer_50 rfl rfl ?_
          refine gf_X7_0_3 (pc := 51) C tf_X7_16 dX7_nearer_51 ?_
          refine J.iload_n (pc := 54) C dX7_nearer_54 rfl rfl ?_
          obtain ⟨hv, hM⟩ := chk_ex hM
          refine J.iald (pc := 55) C (im_3 q cI) hv dX7_nearer_55 ?_
          refine J.isub (pc := 56) C dX7_nearer_56 ?_
          refine J.mabs (pc := 57) C tm_X7_144 (Nat.le_of_ble_eq_true rfl) (Nat.le_of_ble_eq_true rfl) dX7_nearer_57 ?_
          refine J.icmp_ge (pc := 60) C 65 dX7_nearer_60 (by decide) (fun hc => ?_) (fun hc => ?_)
          · have hM := ite_t hc hM
            refine J.iinc (pc := 65) C 1 dX7_nearer_65 ic_1 rfl (by decide) ?_
            refine J.goto (pc := 68) C 5 dX7_nearer_68 (by decide) ?_
            refine J.sub C [0, 1, 2, 3] rfl ?_
            exact hkb5 _ _ _ _ hM
          · have hM := ite_f hc hM
            refine J.iload_n (pc := 63) C dX7_nearer_63 rfl rfl ?_
            refine J.istore_n (pc := 64) C dX7_nearer_64 rfl (by decide) ?_
            refine J.iinc (pc := 65) C 1 dX7_nearer_65 ic_1 rfl (by decide) ?_
            refine J.goto (pc := 68) C 5 dX7_nearer_68 (by decide) ?_
            refine J.sub C [0, 1, 2, 3] rfl ?_
            exact hkb5 _ _ _ _ hM
  have jl5 : ∀ (x1 x2 x3 : Int32) (g : Sg), lup3 (B_X7_nearer_5) FU x1 x2 x3 g = some r → J p l e (RM 1 24) s m args below meth c D (mW q cI) A 4 Q g 5 [(0, .ref (q 0)), (1, .int x1), (2, .int x2), (3, .int x3)] [] := 
    lup3_ok (P := fun x1 x2 x3 g => J p l e (RM 1 24) s m args below meth c D (mW q cI) A 4 Q g 5 [(0, .ref (q 0)), (1, .int x1), (2, .int x2), (3, .int x3)] []) (fun self hself => jb5 self hself) FU
  have hM := h
  unfold M_X7_nearer at hM
  refine J.bipush (pc := 0) C (-9) dX7_nearer_0 bp_m9 ?_
  refine J.istore_n (pc := 2) C dX7_nearer_2 rfl (by decide) ?_
  refine J.iconst (pc := 3) C 0 dX7_nearer_3 ic_0 ?_
  refine J.istore_n (pc := 4) C dX7_nearer_4 rfl (by decide) ?_
  refine J.sub C [0, 1, 2, 3] rfl ?_
  exact jl5 _ _ _ _ hM
def B_X7_goes_173 (x1 x2 : Int32) (g : Sg) : Option Sg := chk x1 7 ((if (rd g 1 x1) = 4 then chk x1 7 (bV (M_X7_carries x1 x2 (rd g 3 x1) g) (fun g_16 => some g_16)) else some g))
def B_X7_goes_62 (x1 : Int32) (g : Sg) : Option Sg := chk x1 7 (lt (wr g 19 x1 (-9)) (fun g_17 => chk x1 7 (chk x1 7 (bV (M_X7_walksDark x1 (rd g_17 3 x1) (rd g_17 4 x1) g_17) (fun g_18 => some g_18)))))
def M_X7_goes (x1 : Int32) (g : Sg) : Option Sg := chk x1 7 (lt (wr g 16 x1 0) (fun g_1 => chk x1 7 (lt (wr g_1 17 x1 0) (fun g_2 => chk x1 7 (lt (wr g_2 18 x1 (rd g_2 14 0)) (fun g_3 => bI (M_X7_nearer x1 g_3) (fun r_4 g_5 => (if r_4 = (-9) then B_X7_goes_62 x1 g_5 else chk r_4 2 (chk x1 7 (bI (M_X7_fetches x1 g_5) (fun r_6 g_7 => (if (iabs ((rd g_5 14 r_4) - (rd g_5 3 x1))) ≤ r_6 then chk x1 7 (lt (wr g_7 19 x1 r_4) (fun g_8 => lt (sI g_8 7 x1) (fun g_9 => chk x1 7 (chk r_4 2 (bV (M_X7_walksDark x1 (rd g_9 3 x1) (rd g_9 14 r_4) g_9) (fun g_10 => chk r_4 2 (bI (M_X7_carriedTo x1 (rd g_10 14 r_4) g_10) (fun r_11 g_12 => bV (M_X7_carries x1 r_4 r_11 g_12) (fun g_13 => chk r_4 2 (chk x1 7 (bV (M_X7_walksDark x1 (rd g_13 14 r_4) (rd g_13 4 x1) g_13) (fun g_14 => chk x1 7 ((if (rd g_14 1 x1) = 3 then bV (M_X7_carries x1 r_4 (rd g_14 6 0) g_14) (fun g_15 => B_X7_goes_173 x1 r_4 g_15) else B_X7_goes_173 x1 r_4 g_14)))))))))))))) else B_X7_goes_62 x1 g_7))))))))))))
set_option maxRecDepth 100000 in
set_option maxHeartbeats 4000000 in
theorem C_X7_goes {l : Launch} {D : va_G} {q : Nat → Nat} {cI : ClassId} {z : Nat × Nat} {x1 : Int32} {g : Sg} {r : Sg} (h : M_X7_goes x1 g = some r) : CTv l (EM z) D cI (mW q cI) yX7_goes cX7_goes 3 2 49 [.ref (q 0), .int x1] g r := by
  refine CTv.of2 (by decide) (EM_ok z) (Nat.le_of_ble_eq_true rfl) rfl (fun p e s m args below meth c A Q C hret => ?_)
  have jb173 : ∀ (x1 x2 : Int32) (g : Sg), B_X7_goes_173 x1 x2 g = some r → J p l e (RM 2 49) s m args below meth c D (mW q cI) A 3 Q g 173 [(0, .ref (q 0)), (1, .int x1), (2, .int x2)] [] := by
    intro x1 x2 g hM
    unfold B_X7_goes_173 at hM
    refine J.aload_n (pc := 173) C dX7_goes_173 rfl rfl ?_
    refine gf_X7_0_1 (pc := 174) C tf_X7_7 dX7_goes_174 ?_
    refine J.iload_n (pc := 177) C dX7_goes_177 rfl rfl ?_
    obtain ⟨hv, hM⟩ := chk_ex hM
    refine J.iald (pc := 178) C (im_1 q cI) hv dX7_goes_178 ?_
    refine J.iconst (pc := 179) C 4 dX7_goes_179 ic_4 ?_
    refine J.icmp_ne (pc := 180) C 195 dX7_goes_180 (by decide) (fun hc => ?_) (fun hc => ?_)
    · have hM := ite_f hc hM
      exact hret dX7_goes_195 hM
    · have hM := ite_t hc hM
      refine J.aload_n (pc := 183) C dX7_goes_183 rfl rfl ?_
      refine J.iload_n (pc := 184) C dX7_goes_184 rfl rfl ?_
      refine J.iload_n (pc := 185) C dX7_goes_185 rfl rfl ?_
      refine J.aload_n (pc := 186) C dX7_goes_186 rfl rfl ?_
      refine gf_X7_0_3 (pc := 187) C tf_X7_16 dX7_goes_187 ?_
      refine J.iload_n (pc := 190) C dX7_goes_190 rfl rfl ?_
      obtain ⟨hv, hM⟩ := chk_ex hM
      refine J.iald (pc := 191) C (im_3 q cI) hv dX7_goes_191 ?_
      obtain ⟨_, h1, hM⟩ := bV_ex hM
      refine J.callV3v (pc := 192) C (C_X7_carries h1) lk_X7_carries tm_X7_169 (io_m q cI) ⟨Nat.le_of_ble_eq_true rfl, Nat.le_of_ble_eq_true rfl⟩ (Nat.le_of_ble_eq_true rfl) dX7_goes_192 ?_
      exact hret dX7_goes_195 hM
  have jb62 : ∀ (x1 : Int32) (g : Sg), B_X7_goes_62 x1 g = some r → J p l e (RM 2 49) s m args below meth c D (mW q cI) A 3 Q g 62 [(0, .ref (q 0)), (1, .int x1)] [] := by
    intro x1 g hM
    unfold B_X7_goes_62 at hM
    refine J.aload_n (pc := 62) C dX7_goes_62 rfl rfl ?_
    refine gf_X7_0_25 (pc := 63) C tf_X7_64 dX7_goes_63 ?_
    refine J.iload_n (pc := 66) C dX7_goes_66 rfl rfl ?_
    refine J.bipush (pc := 67) C (-9) dX7_goes_67 bp_m9 ?_
    obtain ⟨hv, hM⟩ := chk_ex hM
    refine J.iast (pc := 69) C (im_19 q cI) hv dX7_goes_69 ?_
    obtain ⟨_, ea, hM⟩ := lt_ex hM
    refine J.cong C ea ?_
    refine J.aload_n (pc := 70) C dX7_goes_70 rfl rfl ?_
    refine J.iload_n (pc := 71) C dX7_goes_71 rfl rfl ?_
    refine J.aload_n (pc := 72) C dX7_goes_72 rfl rfl ?_
    refine gf_X7_0_3 (pc := 73) C tf_X7_16 dX7_goes_73 ?_
    refine J.iload_n (pc := 76) C dX7_goes_76 rfl rfl ?_
    obtain ⟨hv, hM⟩ := chk_ex hM
    refine J.iald (pc := 77) C (im_3 q cI) hv dX7_goes_77 ?_
    refine J.aload_n (pc := 78) C dX7_goes_78 rfl rfl ?_
    refine gf_X7_0_4 (pc := 79) C tf_X7_19 dX7_goes_79 ?_
    refine J.iload_n (pc := 82) C dX7_goes_82 rfl rfl ?_
    obtain ⟨hv, hM⟩ := chk_ex hM
    refine J.iald (pc := 83) C (im_4 q cI) hv dX7_goes_83 ?_
    obtain ⟨_, h1, hM⟩ := bV_ex hM
    refine J.callV3v (pc := 84) C (C_X7_walksDark h1) lk_X7_walksDark tm_X7_159 (io_m q cI) ⟨Nat.le_of_ble_eq_true rfl, Nat.le_of_ble_eq_true rfl⟩ (Nat.le_of_ble_eq_true rfl) dX7_goes_84 ?_
    exact hret dX7_goes_87 hM
  have hM := h
  unfold M_X7_goes at hM
  refine J.aload_n (pc := 0) C dX7_goes_0 rfl rfl ?_
  refine gf_X7_0_22 (pc := 1) C tf_X7_55 dX7_goes_1 ?_
  refine J.iload_n (pc := 4) C dX7_goes_4 rfl rfl ?_
  refine J.iconst (pc := 5) C 0 dX7_goes_5 ic_0 ?_
  obtain ⟨hv, hM⟩ := chk_ex hM
  refine J.iast (pc := 6) C (im_16 q cI) hv dX7_goes_6 ?_
  obtain ⟨_, ea, hM⟩ := lt_ex hM
  refine J.cong C ea ?_
  refine J.aload_n (pc := 7) C dX7_goes_7 rfl rfl ?_
  refine gf_X7_0_23 (pc := 8) C tf_X7_58 dX7_goes_8 ?_
  refine J.iload_n (pc := 11) C dX7_goes_11 rfl rfl ?_
  refine J.iconst (pc := 12) C 0 dX7_goes_12 ic_0 ?_
  obtain ⟨hv, hM⟩ := chk_ex hM
  refine J.iast (pc := 13) C (im_17 q cI) hv dX7_goes_13 ?_
  obtain ⟨_, ea, hM⟩ := lt_ex hM
  refine J.cong C ea ?_
  refine J.aload_n (pc := 14) C dX7_goes_14 rfl rfl ?_
  refine gf_X7_0_24 (pc := 15) C tf_X7_61 dX7_goes_15 ?_
  refine J.iload_n (pc := 18) C dX7_goes_18 rfl rfl ?_
  refine J.aload_n (pc := 19) C dX7_goes_19 rfl rfl ?_
  refine gf_X7_0_20 (pc := 20) C tf_X7_49 dX7_goes_20 ?_
  refine J.iconst (pc := 23) C 0 dX7_goes_23 ic_0 ?_
  refine J.iald (pc := 24) C (im_14 q cI) (vpl rfl) dX7_goes_24 ?_
  obtain ⟨hv, hM⟩ := chk_ex hM
  refine J.iast (pc := 25) C (im_18 q cI) hv dX7_goes_25 ?_
  obtain ⟨_, ea, hM⟩ := lt_ex hM
  refine J.cong C ea ?_
  refine J.aload_n (pc := 26) C dX7_goes_26 rfl rfl ?_
  refine J.iload_n (pc := 27) C dX7_goes_27 rfl rfl ?_
  obtain ⟨_, _, h1, hM⟩ := bI_ex hM
  refine J.callV1i (pc := 28) C (C_X7_nearer h1) lk_X7_nearer tm_X7_156 (io_m q cI) ⟨Nat.le_of_ble_eq_true rfl, Nat.le_of_ble_eq_true rfl⟩ (Nat.le_of_ble_eq_true rfl) dX7_goes_28 ?_
  refine J.istore_n (pc := 31) C dX7_goes_31 rfl (by decide) ?_
  refine J.iload_n (pc := 32) C dX7_goes_32 rfl rfl ?_
  refine J.bipush (pc := 33) C (-9) dX7_goes_33 bp_m9 ?_
  refine J.icmp_eq (pc := 35) C 62 dX7_goes_35 (by decide) (fun hc => ?_) (fun hc => ?_)
  · have hM := ite_t hc hM
    refine J.sub C [0, 1] rfl ?_
    exact jb62 _ _ hM
  · have hM := ite_f hc hM
    refine J.aload_n (pc := 38) C dX7_goes_38 rfl rfl ?_
    refine gf_X7_0_20 (pc := 39) C tf_X7_49 dX7_goes_39 ?_
    refine J.iload_n (pc := 42) C dX7_goes_42 rfl rfl ?_
    obtain ⟨hv, hM⟩ := chk_ex hM
    refine J.iald (pc := 43) C (im_14 q cI) hv dX7_goes_43 ?_
    refine J.aload_n (pc := 44) C dX7_goes_44 rfl rfl ?_
    refine gf_X7_0_3 (pc := 45) C tf_X7_16 dX7_goes_45 ?_
    refine J.iload_n (pc := 48) C dX7_goes_48 rfl rfl ?_
    obtain ⟨hv, hM⟩ := chk_ex hM
    refine J.iald (pc := 49) C (im_3 q cI) hv dX7_goes_49 ?_
    refine J.isub (pc := 50) C dX7_goes_50 ?_
    refine J.mabs (pc := 51) C tm_X7_144 (Nat.le_of_ble_eq_true rfl) (Nat.le_of_ble_eq_true rfl) dX7_goes_51 ?_
    refine J.aload_n (pc := 54) C dX7_goes_54 rfl rfl ?_
    refine J.iload_n (pc := 55) C dX7_goes_55 rfl rfl ?_
    obtain ⟨_, _, h1, hM⟩ := bI_ex hM
    refine J.callV1i (pc := 56) C (C_X7_fetches h1) lk_X7_fetches tm_X7_135 (io_m q cI) ⟨Nat.le_of_ble_eq_true rfl, Nat.le_of_ble_eq_true rfl⟩ (Nat.le_of_ble_eq_true rfl) dX7_goes_56 ?_
    refine J.icmp_le (pc := 59) C 88 dX7_goes_59 (by decide) (fun hc => ?_) (fun hc => ?_)
    · have hM := ite_t hc hM
      refine J.aload_n (pc := 88) C dX7_goes_88 rfl rfl ?_
      refine gf_X7_0_25 (pc := 89) C tf_X7_64 dX7_goes_89 ?_
      refine J.iload_n (pc := 92) C dX7_goes_92 rfl rfl ?_
      refine J.iload_n (pc := 93) C dX7_goes_93 rfl rfl ?_
      obtain ⟨hv, hM⟩ := chk_ex hM
      refine J.iast (pc := 94) C (im_19 q cI) hv dX7_goes_94 ?_
      obtain ⟨_, ea, hM⟩ := lt_ex hM
      refine J.cong C ea ?_
      refine J.aload_n (pc := 95) C dX7_goes_95 rfl rfl ?_
      refine J.iload_n (pc := 96) C dX7_goes_96 rfl rfl ?_
      refine pf_X7_0_26 (pc := 97) C tf_X7_163 dX7_goes_97 ?_
      obtain ⟨_, ea, hM⟩ := lt_ex hM
      refine J.cong C ea ?_
      refine J.aload_n (pc := 100) C dX7_goes_100 rfl rfl ?_
      refine J.iload_n (pc := 101) C dX7_goes_101 rfl rfl ?_
      refine J.aload_n (pc := 102) C dX7_goes_102 rfl rfl ?_
      refine gf_X7_0_3 (pc := 103) C tf_X7_16 dX7_goes_103 ?_
      refine J.iload_n (pc := 106) C dX7_goes_106 rfl rfl ?_
      obtain ⟨hv, hM⟩ := chk_ex hM
      refine J.iald (pc := 107) C (im_3 q cI) hv dX7_goes_107 ?_
      refine J.aload_n (pc := 108) C dX7_goes_108 rfl rfl ?_
      refine gf_X7_0_20 (pc := 109) C tf_X7_49 dX7_goes_109 ?_
      refine J.iload_n (pc := 112) C dX7_goes_112 rfl rfl ?_
      obtain ⟨hv, hM⟩ := chk_ex hM
      refine J.iald (pc := 113) C (im_14 q cI) hv dX7_goes_113 ?_
      obtain ⟨_, h1, hM⟩ := bV_ex hM
      refine J.callV3v (pc := 114) C (C_X7_walksDark h1) lk_X7_walksDark tm_X7_159 (io_m q cI) ⟨Nat.le_of_ble_eq_true rfl, Nat.le_of_ble_eq_true rfl⟩ (Nat.le_of_ble_eq_true rfl) dX7_goes_114 ?_
      refine J.aload_n (pc := 117) C dX7_goes_117 rfl rfl ?_
      refine J.iload_n (pc := 118) C dX7_goes_118 rfl rfl ?_
      refine J.iload_n (pc := 119) C dX7_goes_119 rfl rfl ?_
      refine J.aload_n (pc := 120) C dX7_goes_120 rfl rfl ?_
      refine J.iload_n (pc := 121) C dX7_goes_121 rfl rfl ?_
      refine J.aload_n (pc := 122) C dX7_goes_122 rfl rfl ?_
      refine gf_X7_0_20 (pc := 123) C tf_X7_49 dX7_goes_123 ?_
      refine J.iload_n (pc := 126) C dX7_goes_126 rfl rfl ?_
      obtain ⟨hv, hM⟩ := chk_ex hM
      refine J.iald (pc := 127) C (im_14 q cI) hv dX7_goes_127 ?_
      obtain ⟨_, _, h1, hM⟩ := bI_ex hM
      refine J.callV2i (pc := 128) C (C_X7_carriedTo h1) lk_X7_carriedTo tm_X7_166 (io_m q cI) ⟨Nat.le_of_ble_eq_true rfl, Nat.le_of_ble_eq_true rfl⟩ (Nat.le_of_ble_eq_true rfl) dX7_goes_128 ?_
      obtain ⟨_, h1, hM⟩ := bV_ex hM
      refine J.callV3v (pc := 131) C (C_X7_carries h1) lk_X7_carries tm_X7_169 (io_m q cI) ⟨Nat.le_of_ble_eq_true rfl, Nat.le_of_ble_eq_true rfl⟩ (Nat.le_of_ble_eq_true rfl) dX7_goes_131 ?_
      refine J.aload_n (pc := 134) C dX7_goes_134 rfl rfl ?_
      refine J.iload_n (pc := 135) C dX7_goes_135 rfl rfl ?_
      refine J.aload_n (pc := 136) C dX7_goes_136 rfl rfl ?_
      refine gf_X7_0_20 (pc := 137) C tf_X7_49 dX7_goes_137 ?_
      refine J.iload_n (pc := 140) C dX7_goes_140 rfl rfl ?_
      obtain ⟨hv, hM⟩ := chk_ex hM
      refine J.iald (pc := 141) C (im_14 q cI) hv dX7_goes_141 ?_
      refine J.aload_n (pc := 142) C dX7_goes_142 rfl rfl ?_
      refine gf_X7_0_4 (pc := 143) C tf_X7_19 dX7_goes_143 ?_
      refine J.iload_n (pc := 146) C dX7_goes_146 rfl rfl ?_
      obtain ⟨hv, hM⟩ := chk_ex hM
      refine J.iald (pc := 147) C (im_4 q cI) hv dX7_goes_147 ?_
      obtain ⟨_, h1, hM⟩ := bV_ex hM
      refine J.callV3v (pc := 148) C (C_X7_walksDark h1) lk_X7_walksDark tm_X7_159 (io_m q cI) ⟨Nat.le_of_ble_eq_true rfl, Nat.le_of_ble_eq_true rfl⟩ (Nat.le_of_ble_eq_true rfl) dX7_goes_148 ?_
      refine J.aload_n (pc := 151) C dX7_goes_151 rfl rfl ?_
      refine gf_X7_0_1 (pc := 152) C tf_X7_7 dX7_goes_152 ?_
      refine J.iload_n (pc := 155) C dX7_goes_155 rfl rfl ?_
      obtain ⟨hv, hM⟩ := chk_ex hM
      refine J.iald (pc := 156) C (im_1 q cI) hv dX7_goes_156 ?_
      refine J.iconst (pc := 157) C 3 dX7_goes_157 ic_3 ?_
      refine J.icmp_ne (pc := 158) C 173 dX7_goes_158 (by decide) (fun hc => ?_) (fun hc => ?_)
      · have hM := ite_f hc hM
        refine J.sub C [0, 1, 2] rfl ?_
        exact jb173 _ _ _ hM
      · have hM := ite_t hc hM
        refine J.aload_n (pc := 161) C dX7_goes_161 rfl rfl ?_
        refine J.iload_n (pc := 162) C dX7_goes_162 rfl rfl ?_
        refine J.iload_n (pc := 163) C dX7_goes_163 rfl rfl ?_
        refine J.aload_n (pc := 164) C dX7_goes_164 rfl rfl ?_
        refine gf_X7_0_6 (pc := 165) C tf_X7_25 dX7_goes_165 ?_
        refine J.iconst (pc := 168) C 0 dX7_goes_168 ic_0 ?_
        refine J.iald (pc := 169) C (im_6 q cI) (vpl rfl) dX7_goes_169 ?_
        obtain ⟨_, h1, hM⟩ := bV_ex hM
        refine J.callV3v (pc := 170) C (C_X7_carries h1) lk_X7_carries tm_X7_169 (io_m q cI) ⟨Nat.le_of_ble_eq_true rfl, Nat.le_of_ble_eq_true rfl⟩ (Nat.le_of_ble_eq_true rfl) dX7_goes_170 ?_
        refine J.sub C [0, 1, 2] rfl ?_
        exact jb173 _ _ _ hM
    · have hM := ite_f hc hM
      refine J.sub C [0, 1] rfl ?_
      exact jb62 _ _ hM
def B_X7_sets_12 (x1 y0 : Int32) (g : Sg) : Option Sg := lt (sI g 6 y0) (fun g_1 => lt (wr g_1 14 0 (rd g_1 6 0)) (fun g_2 => lt (wr g_2 14 1 x1) (fun g_3 => lt (wr g_3 15 0 (rd g_3 6 1)) (fun g_4 => lt (wr g_4 15 1 (rd g_4 6 1)) (fun g_5 => lt (sI g_5 7 (-9)) (fun g_6 => some g_6))))))
def M_X7_sets (x1 : Int32) (g : Sg) : Option Sg := (if x1 = (-9) then B_X7_sets_12 x1 1 g else B_X7_sets_12 x1 2 g)
set_option maxRecDepth 100000 in
set_option maxHeartbeats 4000000 in
theorem C_X7_sets {l : Launch} {D : va_G} {q : Nat → Nat} {cI : ClassId} {z : Nat × Nat} {x1 : Int32} {g : Sg} {r : Sg} (h : M_X7_sets x1 g = some r) : CTv l (EM z) D cI (mW q cI) yX7_sets cX7_sets 2 0 0 [.ref (q 0), .int x1] g r := by
  refine CTv.of2 (by decide) (EM_ok z) (Nat.le_of_ble_eq_true rfl) rfl (fun p e s m args below meth c A Q C hret => ?_)
  have jb12 : ∀ (x1 y0 : Int32) (g : Sg), B_X7_sets_12 x1 y0 g = some r → J p l e (RM 0 0) s m args below meth c D (mW q cI) A 2 Q g 12 [(0, .ref (q 0)), (1, .int x1)] [.int y0, .ref (q 0)] := by
    intro x1 y0 g hM
    unfold B_X7_sets_12 at hM
    refine pf_X7_0_19 (pc := 12) C tf_X7_153 dX7_sets_12 ?_
    obtain ⟨_, ea, hM⟩ := lt_ex hM
    refine J.cong C ea ?_
    refine J.aload_n (pc := 15) C dX7_sets_15 rfl rfl ?_
    refine gf_X7_0_20 (pc := 16) C tf_X7_49 dX7_sets_16 ?_
    refine J.iconst (pc := 19) C 0 dX7_sets_19 ic_0 ?_
    refine J.aload_n (pc := 20) C dX7_sets_20 rfl rfl ?_
    refine gf_X7_0_6 (pc := 21) C tf_X7_25 dX7_sets_21 ?_
    refine J.iconst (pc := 24) C 0 dX7_sets_24 ic_0 ?_
    refine J.iald (pc := 25) C (im_6 q cI) (vpl rfl) dX7_sets_25 ?_
    refine J.iast (pc := 26) C (im_14 q cI) (vpl rfl) dX7_sets_26 ?_
    obtain ⟨_, ea, hM⟩ := lt_ex hM
    refine J.cong C ea ?_
    refine J.aload_n (pc := 27) C dX7_sets_27 rfl rfl ?_
    refine gf_X7_0_20 (pc := 28) C tf_X7_49 dX7_sets_28 ?_
    refine J.iconst (pc := 31) C 1 dX7_sets_31 ic_1 ?_
    refine J.iload_n (pc := 32) C dX7_sets_32 rfl rfl ?_
    refine J.iast (pc := 33) C (im_14 q cI) (vpl rfl) dX7_sets_33 ?_
    obtain ⟨_, ea, hM⟩ := lt_ex hM
    refine J.cong C ea ?_
    refine J.aload_n (pc := 34) C dX7_sets_34 rfl rfl ?_
    refine gf_X7_0_21 (pc := 35) C tf_X7_52 dX7_sets_35 ?_
    refine J.iconst (pc := 38) C 0 dX7_sets_38 ic_0 ?_
    refine J.aload_n (pc := 39) C dX7_sets_39 rfl rfl ?_
    refine gf_X7_0_6 (pc := 40) C tf_X7_25 dX7_sets_40 ?_
    refine J.iconst (pc := 43) C 1 dX7_sets_43 ic_1 ?_
    refine J.iald (pc := 44) C (im_6 q cI) (vpl rfl) dX7_sets_44 ?_
    refine J.iast (pc := 45) C (im_15 q cI) (vpl rfl) dX7_sets_45 ?_
    obtain ⟨_, ea, hM⟩ := lt_ex hM
    refine J.cong C ea ?_
    refine J.aload_n (pc := 46) C dX7_sets_46 rfl rfl ?_
    refine gf_X7_0_21 (pc := 47) C tf_X7_52 dX7_sets_47 ?_
    refine J.iconst (pc := 50) C 1 dX7_sets_50 ic_1 ?_
    refine J.aload_n (pc := 51) C dX7_sets_51 rfl rfl ?_
    refine gf_X7_0_6 (pc := 52) C tf_X7_25 dX7_sets_52 ?_
    refine J.iconst (pc := 55) C 1 dX7_sets_55 ic_1 ?_
    refine J.iald (pc := 56) C (im_6 q cI) (vpl rfl) dX7_sets_56 ?_
    refine J.iast (pc := 57) C (im_15 q cI) (vpl rfl) dX7_sets_57 ?_
    obtain ⟨_, ea, hM⟩ := lt_ex hM
    refine J.cong C ea ?_
    refine J.aload_n (pc := 58) C dX7_sets_58 rfl rfl ?_
    refine J.bipush (pc := 59) C (-9) dX7_sets_59 bp_m9 ?_
    refine pf_X7_0_26 (pc := 61) C tf_X7_163 dX7_sets_61 ?_
    obtain ⟨_, ea, hM⟩ := lt_ex hM
    refine J.cong C ea ?_
    exact hret dX7_sets_64 hM
  have hM := h
  unfold M_X7_sets at hM
  refine J.aload_n (pc := 0) C dX7_sets_0 rfl rfl ?_
  refine J.iload_n (pc := 1) C dX7_sets_1 rfl rfl ?_
  refine J.bipush (pc := 2) C (-9) dX7_sets_2 bp_m9 ?_
  refine J.icmp_ne (pc := 4) C 11 dX7_sets_4 (by decide) (fun hc => ?_) (fun hc => ?_)
  · have hM := ite_f hc hM
    refine J.iconst (pc := 11) C 2 dX7_sets_11 ic_2 ?_
    refine J.sub C [0, 1] rfl ?_
    exact jb12 _ _ _ hM
  · have hM := ite_t hc hM
    refine J.iconst (pc := 7) C 1 dX7_sets_7 ic_1 ?_
    refine J.goto (pc := 8) C 12 dX7_sets_8 (by decide) ?_
    refine J.sub C [0, 1] rfl ?_
    exact jb12 _ _ _ hM
def B_X7_run_80 (kb12 : Int32 → Int32 → Sg → Option Sg) (x1 x3 : Int32) (g : Sg) : Option Sg := chk x3 12 (lt (wr g 20 x3 (rd g 14 0)) (fun g_6 => kb12 x1 (x3 + 1) g_6))
def B_X7_run_21 (kb12 : Int32 → Int32 → Sg → Option Sg) (kb21 : Int32 → Int32 → Int32 → Sg → Option Sg) (x1 x3 x4 : Int32) (g : Sg) : Option Sg := (if (g.1 0) ≤ x4 then B_X7_run_80 kb12 x1 x3 g else chk x4 7 ((if (rd g 5 x4) = x3 then (if x4 = x1 then kb21 x1 x3 (x4 + 1) g else bV (M_X7_goes x4 g) (fun g_3 => lt (sI g_3 5 ((g_3.1 5) + 1)) (fun g_4 => chk (g_3.1 5) 7 (lt (wr g_4 13 (g_3.1 5) x4) (fun g_5 => kb21 x1 x3 (x4 + 1) g_5))))) else kb21 x1 x3 (x4 + 1) g)))
def B_X7_run_12 (kb12 : Int32 → Int32 → Sg → Option Sg) (x1 x3 : Int32) (g : Sg) : Option Sg := (if 12 ≤ x3 then some g else lup3 (B_X7_run_21 kb12 ) FU x1 x3 0 g)
def M_X7_run (x1 x2 : Int32) (g : Sg) : Option Sg := bV (M_X7_sets x2 g) (fun g_1 => lt (sI g_1 5 0) (fun g_2 => lup2 (B_X7_run_12 ) FU x1 0 g_2))
set_option maxRecDepth 100000 in
set_option maxHeartbeats 4000000 in
theorem C_X7_run {l : Launch} {D : va_G} {q : Nat → Nat} {cI : ClassId} {z : Nat × Nat} {x1 x2 : Int32} {g : Sg} {r : Sg} (h : M_X7_run x1 x2 g = some r) : CTv l (EM z) D cI (mW q cI) yX7_run cX7_run 5 3 71 [.ref (q 0), .int x1, .int x2] g r := by
  refine CTv.of2 (by decide) (EM_ok z) (Nat.le_of_ble_eq_true rfl) rfl (fun p e s m args below meth c A Q C hret => ?_)
  have jb80 : ∀ (kb12 : Int32 → Int32 → Sg → Option Sg) (hkb12 : ∀ (x1 x3 : Int32) (g : Sg), kb12 x1 x3 g = some r → J p l e (RM 3 71) s m args below meth c D (mW q cI) A 5 Q g 12 [(0, .ref (q 0)), (1, .int x1), (3, .int x3)] []) (x1 x3 : Int32) (g : Sg), B_X7_run_80 kb12 x1 x3 g = some r → J p l e (RM 3 71) s m args below meth c D (mW q cI) A 5 Q g 80 [(0, .ref (q 0)), (1, .int x1), (3, .int x3)] [] := by
    intro kb12 hkb12 x1 x3 g hM
    unfold B_X7_run_80 at hM
    refine J.aload_n (pc := 80) C dX7_run_80 rfl rfl ?_
    refine gf_X7_0_27 (pc := 81) C tf_X7_67 dX7_run_81 ?_
    refine J.iload_n (pc := 84) C dX7_run_84 rfl rfl ?_
    refine J.aload_n (pc := 85) C dX7_run_85 rfl rfl ?_
    refine gf_X7_0_20 (pc := 86) C tf_X7_49 dX7_run_86 ?_
    refine J.iconst (pc := 89) C 0 dX7_run_89 ic_0 ?_
    refine J.iald (pc := 90) C (im_14 q cI) (vpl rfl) dX7_run_90 ?_
    obtain ⟨hv, hM⟩ := chk_ex hM
    refine J.iast (pc := 91) C (im_20 q cI) hv dX7_run_91 ?_
    obtain ⟨_, ea, hM⟩ := lt_ex hM
    refine J.cong C ea ?_
    refine J.iinc (pc := 92) C 1 dX7_run_92 ic_1 rfl (by decide) ?_
    refine J.goto (pc := 95) C 12 dX7_run_95 (by decide) ?_
    refine J.sub C [0, 1, 3] rfl ?_
    exact hkb12 _ _ _ hM
  have jb21 : ∀ (kb12 : Int32 → Int32 → Sg → Option Sg) (hkb12 : ∀ (x1 x3 : Int32) (g : Sg), kb12 x1 x3 g = some r → J p l e (RM 3 71) s m args below meth c D (mW q cI) A 5 Q g 12 [(0, .ref (q 0)), (1, .int x1), (3, .int x3)] []) (kb21 : Int32 → Int32 → Int32 → Sg → Option Sg) (hkb21 : ∀ (x1 x3 x4 : Int32) (g : Sg), kb21 x1 x3 x4 g = some r → J p l e (RM 3 71) s m args below meth c D (mW q cI) A 5 Q g 21 [(0, .ref (q 0)), (1, .int x1), (3, .int x3), (4, .int x4)] []) (x1 x3 x4 : Int32) (g : Sg), B_X7_run_21 kb12 kb21 x1 x3 x4 g = some r → J p l e (RM 3 71) s m args below meth c D (mW q cI) A 5 Q g 21 [(0, .ref (q 0)), (1, .int x1), (3, .int x3), (4, .int x4)] [] := by
    intro kb12 hkb12 kb21 hkb21 x1 x3 x4 g hM
    unfold B_X7_run_21 at hM
    refine J.iload (pc := 21) C dX7_run_21 rfl ?_
    refine J.aload_n (pc := 23) C dX7_run_23 rfl rfl ?_
    refine gf_X7_0_0 (pc := 24) C tf_X7_84 dX7_run_24 ?_
    refine J.icmp_ge (pc := 27) C 80 dX7_run_27 (by decide) (fun hc => ?_) (fun hc => ?_)
    · have hM := ite_t hc hM
      refine J.sub C [0, 1, 3] rfl ?_
      exact jb80 kb12 hkb12 _ _ _ hM
    · have hM := ite_f hc hM
      refine J.aload_n (pc := 30) C dX7_run_30 rfl rfl ?_
      refine gf_X7_0_5 (pc := 31) C tf_X7_22 dX7_run_31 ?_
      refine J.iload (pc := 34) C dX7_run_34 rfl ?_
      obtain ⟨hv, hM⟩ := chk_ex hM
      refine J.iald (pc := 36) C (im_5 q cI) hv dX7_run_36 ?_
      refine J.iload_n (pc := 37) C dX7_run_37 rfl rfl ?_
      refine J.icmp_ne (pc := 38) C 74 dX7_run_38 (by decide) (fun hc => ?_) (fun hc => ?_)
      · have hM := ite_f hc hM
        refine J.iinc (pc := 74) C 1 dX7_run_74 ic_1 rfl (by decide) ?_
        refine J.goto (pc := 77) C 21 dX7_run_77 (by decide) ?_
        refine J.sub C [0, 1, 3, 4] rfl ?_
        exact hkb21 _ _ _ _ hM
      · have hM := ite_t hc hM
        refine J.iload (pc := 41) C dX7_run_41 rfl ?_
        refine J.iload_n (pc := 43) C dX7_run_43 rfl rfl ?_
        refine J.icmp_ne (pc := 44) C 50 dX7_run_44 (by decide) (fun hc => ?_) (fun hc => ?_)
        · have hM := ite_f hc hM
          refine J.aload_n (pc := 50) C dX7_run_50 rfl rfl ?_
          refine J.iload (pc := 51) C dX7_run_51 rfl ?_
          obtain ⟨_, h1, hM⟩ := bV_ex hM
          refine J.callV1v (pc := 53) C (C_X7_goes h1) lk_X7_goes tm_X7_179 (io_m q cI) ⟨Nat.le_of_ble_eq_true rfl, Nat.le_of_ble_eq_true rfl⟩ (Nat.le_of_ble_eq_true rfl) dX7_run_53 ?_
          refine J.aload_n (pc := 56) C dX7_run_56 rfl rfl ?_
          refine gf_X7_0_18 (pc := 57) C tf_X7_46 dX7_run_57 ?_
          refine J.aload_n (pc := 60) C dX7_run_60 rfl rfl ?_
          refine J.dup (pc := 61) C dX7_run_61 rfl ?_
          refine gf_X7_0_17 (pc := 62) C tf_X7_176 dX7_run_62 ?_
          refine J.dup_x1 (pc := 65) C dX7_run_65 rfl rfl ?_
          refine J.iconst (pc := 66) C 1 dX7_run_66 ic_1 ?_
          refine J.iadd (pc := 67) C dX7_run_67 ?_
          refine pf_X7_0_17 (pc := 68) C tf_X7_176 dX7_run_68 ?_
          obtain ⟨_, ea, hM⟩ := lt_ex hM
          refine J.cong C ea ?_
          refine J.iload (pc := 71) C dX7_run_71 rfl ?_
          obtain ⟨hv, hM⟩ := chk_ex hM
          refine J.iast (pc := 73) C (im_13 q cI) hv dX7_run_73 ?_
          obtain ⟨_, ea, hM⟩ := lt_ex hM
          refine J.cong C ea ?_
          refine J.iinc (pc := 74) C 1 dX7_run_74 ic_1 rfl (by decide) ?_
          refine J.goto (pc := 77) C 21 dX7_run_77 (by decide) ?_
          refine J.sub C [0, 1, 3, 4] rfl ?_
          exact hkb21 _ _ _ _ hM
        · have hM := ite_t hc hM
          refine J.goto (pc := 47) C 74 dX7_run_47 (by decide) ?_
          refine J.iinc (pc := 74) C 1 dX7_run_74 ic_1 rfl (by decide) ?_
          refine J.goto (pc := 77) C 21 dX7_run_77 (by decide) ?_
          refine J.sub C [0, 1, 3, 4] rfl ?_
          exact hkb21 _ _ _ _ hM
  have jl21 : ∀ (kb12 : Int32 → Int32 → Sg → Option Sg) (hkb12 : ∀ (x1 x3 : Int32) (g : Sg), kb12 x1 x3 g = some r → J p l e (RM 3 71) s m args below meth c D (mW q cI) A 5 Q g 12 [(0, .ref (q 0)), (1, .int x1), (3, .int x3)] []) (x1 x3 x4 : Int32) (g : Sg), lup3 (B_X7_run_21 kb12) FU x1 x3 x4 g = some r → J p l e (RM 3 71) s m args below meth c D (mW q cI) A 5 Q g 21 [(0, .ref (q 0)), (1, .int x1), (3, .int x3), (4, .int x4)] [] := 
    fun kb12 hkb12 => lup3_ok (P := fun x1 x3 x4 g => J p l e (RM 3 71) s m args below meth c D (mW q cI) A 5 Q g 21 [(0, .ref (q 0)), (1, .int x1), (3, .int x3), (4, .int x4)] []) (fun self hself => jb21 kb12 hkb12 self hself) FU
  have jb12 : ∀ (kb12 : Int32 → Int32 → Sg → Option Sg) (hkb12 : ∀ (x1 x3 : Int32) (g : Sg), kb12 x1 x3 g = some r → J p l e (RM 3 71) s m args below meth c D (mW q cI) A 5 Q g 12 [(0, .ref (q 0)), (1, .int x1), (3, .int x3)] []) (x1 x3 : Int32) (g : Sg), B_X7_run_12 kb12 x1 x3 g = some r → J p l e (RM 3 71) s m args below meth c D (mW q cI) A 5 Q g 12 [(0, .ref (q 0)), (1, .int x1), (3, .int x3)] [] := by
    intro kb12 hkb12 x1 x3 g hM
    unfold B_X7_run_12 at hM
    refine J.iload_n (pc := 12) C dX7_run_12 rfl rfl ?_
    refine J.bipush (pc := 13) C 12 dX7_run_13 bp_12 ?_
    refine J.icmp_ge (pc := 15) C 98 dX7_run_15 (by decide) (fun hc => ?_) (fun hc => ?_)
    · have hM := ite_t hc hM
      exact hret dX7_run_98 hM
    · have hM := ite_f hc hM
      refine J.iconst (pc := 18) C 0 dX7_run_18 ic_0 ?_
      refine J.istore (pc := 19) C dX7_run_19 (by decide) ?_
      refine J.sub C [0, 1, 3, 4] rfl ?_
      exact jl21 kb12 hkb12 _ _ _ _ hM
  have jl12 : ∀ (x1 x3 : Int32) (g : Sg), lup2 (B_X7_run_12) FU x1 x3 g = some r → J p l e (RM 3 71) s m args below meth c D (mW q cI) A 5 Q g 12 [(0, .ref (q 0)), (1, .int x1), (3, .int x3)] [] := 
    lup2_ok (P := fun x1 x3 g => J p l e (RM 3 71) s m args below meth c D (mW q cI) A 5 Q g 12 [(0, .ref (q 0)), (1, .int x1), (3, .int x3)] []) (fun self hself => jb12 self hself) FU
  have hM := h
  unfold M_X7_run at hM
  refine J.aload_n (pc := 0) C dX7_run_0 rfl rfl ?_
  refine J.iload_n (pc := 1) C dX7_run_1 rfl rfl ?_
  obtain ⟨_, h1, hM⟩ := bV_ex hM
  refine J.callV1v (pc := 2) C (C_X7_sets h1) lk_X7_sets tm_X7_172 (io_m q cI) ⟨Nat.le_of_ble_eq_true rfl, Nat.le_of_ble_eq_true rfl⟩ (Nat.le_of_ble_eq_true rfl) dX7_run_2 ?_
  refine J.aload_n (pc := 5) C dX7_run_5 rfl rfl ?_
  refine J.iconst (pc := 6) C 0 dX7_run_6 ic_0 ?_
  refine pf_X7_0_17 (pc := 7) C tf_X7_176 dX7_run_7 ?_
  obtain ⟨_, ea, hM⟩ := lt_ex hM
  refine J.cong C ea ?_
  refine J.iconst (pc := 10) C 0 dX7_run_10 ic_0 ?_
  refine J.istore_n (pc := 11) C dX7_run_11 rfl (by decide) ?_
  refine J.sub C [0, 1, 3] rfl ?_
  exact jl12 _ _ _ hM
def M_X7_run_ (g : Sg) : Option Sg := bV (M_X7_run (-9) (-9) g) (fun g_1 => some g_1)
set_option maxRecDepth 100000 in
set_option maxHeartbeats 4000000 in
theorem C_X7_run_ {l : Launch} {D : va_G} {q : Nat → Nat} {cI : ClassId} {z : Nat × Nat} {g : Sg} {r : Sg} (h : M_X7_run_ g = some r) : CTv l (EM z) D cI (mW q cI) yX7_run_ cX7_run_ 1 4 95 [.ref (q 0)] g r := by
  refine CTv.of2 (by decide) (EM_ok z) (Nat.le_of_ble_eq_true rfl) rfl (fun p e s m args below meth c A Q C hret => ?_)
  have hM := h
  unfold M_X7_run_ at hM
  refine J.aload_n (pc := 0) C dX7_run__0 rfl rfl ?_
  refine J.bipush (pc := 1) C (-9) dX7_run__1 bp_m9 ?_
  refine J.bipush (pc := 3) C (-9) dX7_run__3 bp_m9 ?_
  obtain ⟨_, h1, hM⟩ := bV_ex hM
  refine J.callV2v (pc := 5) C (C_X7_run h1) lk_X7_run tm_X7_182 (io_m q cI) ⟨Nat.le_of_ble_eq_true rfl, Nat.le_of_ble_eq_true rfl⟩ (Nat.le_of_ble_eq_true rfl) dX7_run__5 ?_
  exact hret dX7_run__8 hM
def B_X7_cost_4 (kb4 : Int32 → Int32 → Sg → Option (Int32 × Sg)) (x1 x2 : Int32) (g : Sg) : Option (Int32 × Sg) := (if (g.1 5) ≤ x2 then some (x1, g) else chk x2 7 (chk (rd g 13 x2) 7 (chk x2 7 (bI (M_X7_costs (rd g 13 x2) g) (fun r_1 g_2 => lt (x1 + ((rd g 16 (rd g 13 x2)) * r_1)) (fun x1_3 => kb4 x1_3 (x2 + 1) g_2))))))
def M_X7_cost (g : Sg) : Option (Int32 × Sg) := lup2 (B_X7_cost_4 ) FU 0 0 g
set_option maxRecDepth 100000 in
set_option maxHeartbeats 4000000 in
theorem C_X7_cost {l : Launch} {D : va_G} {q : Nat → Nat} {cI : ClassId} {z : Nat × Nat} {g : Sg} {r : Int32 × Sg} (h : M_X7_cost g = some r) : CTi l (EM z) D cI (mW q cI) yX7_cost cX7_cost 3 (some .int) 1 21 [.ref (q 0)] g r := by
  refine CTi.of2 (by decide) (EM_ok z) (Nat.le_of_ble_eq_true rfl) rfl (fun p e s m args below meth c A Q C hret => ?_)
  have jb4 : ∀ (kb4 : Int32 → Int32 → Sg → Option (Int32 × Sg)) (hkb4 : ∀ (x1 x2 : Int32) (g : Sg), kb4 x1 x2 g = some r → J p l e (RM 1 21) s m args below meth c D (mW q cI) A 3 Q g 4 [(0, .ref (q 0)), (1, .int x1), (2, .int x2)] []) (x1 x2 : Int32) (g : Sg), B_X7_cost_4 kb4 x1 x2 g = some r → J p l e (RM 1 21) s m args below meth c D (mW q cI) A 3 Q g 4 [(0, .ref (q 0)), (1, .int x1), (2, .int x2)] [] := by
    intro kb4 hkb4 x1 x2 g hM
    unfold B_X7_cost_4 at hM
    refine J.iload_n (pc := 4) C dX7_cost_4 rfl rfl ?_
    refine J.aload_n (pc := 5) C dX7_cost_5 rfl rfl ?_
    refine gf_X7_0_17 (pc := 6) C tf_X7_176 dX7_cost_6 ?_
    refine J.icmp_ge (pc := 9) C 43 dX7_cost_9 (by decide) (fun hc => ?_) (fun hc => ?_)
    · have hM := ite_t hc hM
      refine J.iload_n (pc := 43) C dX7_cost_43 rfl rfl ?_
      exact hret dX7_cost_44 hM rfl
    · have hM := ite_f hc hM
      refine J.iload_n (pc := 12) C dX7_cost_12 rfl rfl ?_
      refine J.aload_n (pc := 13) C dX7_cost_13 rfl rfl ?_
      refine gf_X7_0_22 (pc := 14) C tf_X7_55 dX7_cost_14 ?_
      refine J.aload_n (pc := 17) C dX7_cost_17 rfl rfl ?_
      refine gf_X7_0_18 (pc := 18) C tf_X7_46 dX7_cost_18 ?_
      refine J.iload_n (pc := 21) C dX7_cost_21 rfl rfl ?_
      obtain ⟨hv, hM⟩ := chk_ex hM
      refine J.iald (pc := 22) C (im_13 q cI) hv dX7_cost_22 ?_
      obtain ⟨hv, hM⟩ := chk_ex hM
      refine J.iald (pc := 23) C (im_16 q cI) hv dX7_cost_23 ?_
      refine J.aload_n (pc := 24) C dX7_cost_24 rfl rfl ?_
      refine J.aload_n (pc := 25) C dX7_cost_25 rfl rfl ?_
      refine gf_X7_0_18 (pc := 26) C tf_X7_46 dX7_cost_26 ?_
      refine J.iload_n (pc := 29) C dX7_cost_29 rfl rfl ?_
      obtain ⟨hv, hM⟩ := chk_ex hM
      refine J.iald (pc := 30) C (im_13 q cI) hv dX7_cost_30 ?_
      obtain ⟨_, _, h1, hM⟩ := bI_ex hM
      refine J.callV1i (pc := 31) C (C_X7_costs h1) lk_X7_costs tm_X7_138 (io_m q cI) ⟨Nat.le_of_ble_eq_true rfl, Nat.le_of_ble_eq_true rfl⟩ (Nat.le_of_ble_eq_true rfl) dX7_cost_31 ?_
      refine J.imul (pc := 34) C dX7_cost_34 ?_
      refine J.iadd (pc := 35) C dX7_cost_35 ?_
      obtain ⟨_, ea, hM⟩ := lt_ex hM
      refine J.istore_nV (pc := 36) C dX7_cost_36 rfl (by decide) ea ?_
      refine J.iinc (pc := 37) C 1 dX7_cost_37 ic_1 rfl (by decide) ?_
      refine J.goto (pc := 40) C 4 dX7_cost_40 (by decide) ?_
      refine J.sub C [0, 1, 2] rfl ?_
      exact hkb4 _ _ _ hM
  have jl4 : ∀ (x1 x2 : Int32) (g : Sg), lup2 (B_X7_cost_4) FU x1 x2 g = some r → J p l e (RM 1 21) s m args below meth c D (mW q cI) A 3 Q g 4 [(0, .ref (q 0)), (1, .int x1), (2, .int x2)] [] := 
    lup2_ok (P := fun x1 x2 g => J p l e (RM 1 21) s m args below meth c D (mW q cI) A 3 Q g 4 [(0, .ref (q 0)), (1, .int x1), (2, .int x2)] []) (fun self hself => jb4 self hself) FU
  have hM := h
  unfold M_X7_cost at hM
  refine J.iconst (pc := 0) C 0 dX7_cost_0 ic_0 ?_
  refine J.istore_n (pc := 1) C dX7_cost_1 rfl (by decide) ?_
  refine J.iconst (pc := 2) C 0 dX7_cost_2 ic_0 ?_
  refine J.istore_n (pc := 3) C dX7_cost_3 rfl (by decide) ?_
  refine J.sub C [0, 1, 2] rfl ?_
  exact jl4 _ _ _ hM
def M_X7_costNow (g : Sg) : Option (Int32 × Sg) := bV (M_X7_run_ g) (fun g_1 => bI (M_X7_cost g_1) (fun r_2 g_3 => some (r_2, g_3)))
set_option maxRecDepth 100000 in
set_option maxHeartbeats 4000000 in
theorem C_X7_costNow {l : Launch} {D : va_G} {q : Nat → Nat} {cI : ClassId} {z : Nat × Nat} {g : Sg} {r : Int32 × Sg} (h : M_X7_costNow g = some r) : CTi l (EM z) D cI (mW q cI) yX7_costNow cX7_costNow 1 (some .int) 5 115 [.ref (q 0)] g r := by
  refine CTi.of2 (by decide) (EM_ok z) (Nat.le_of_ble_eq_true rfl) rfl (fun p e s m args below meth c A Q C hret => ?_)
  have hM := h
  unfold M_X7_costNow at hM
  refine J.aload_n (pc := 0) C dX7_costNow_0 rfl rfl ?_
  obtain ⟨_, h1, hM⟩ := bV_ex hM
  refine J.callV0v (pc := 1) C (C_X7_run_ h1) lk_X7_run_ tm_X7_186 (io_m q cI) ⟨Nat.le_of_ble_eq_true rfl, Nat.le_of_ble_eq_true rfl⟩ (Nat.le_of_ble_eq_true rfl) dX7_costNow_1 ?_
  refine J.aload_n (pc := 4) C dX7_costNow_4 rfl rfl ?_
  obtain ⟨_, _, h1, hM⟩ := bI_ex hM
  refine J.callV0i (pc := 5) C (C_X7_cost h1) lk_X7_cost tm_X7_188 (io_m q cI) ⟨Nat.le_of_ble_eq_true rfl, Nat.le_of_ble_eq_true rfl⟩ (Nat.le_of_ble_eq_true rfl) dX7_costNow_5 ?_
  exact hret dX7_costNow_8 hM rfl
def B_X7_sums_94 (kb94 : Int32 → Int32 → Int32 → Sg → Option (Int32 × Sg)) (x1 x2 x3 : Int32) (g : Sg) : Option (Int32 × Sg) := (if (g.1 0) ≤ x3 then some (x2, g) else (if x1 = 1 then chk x3 7 (lt (x2 + (rd g 16 x3)) (fun x2_7 => kb94 x1 x2_7 (x3 + 1) g)) else (if x1 = 2 then chk x3 7 (lt (x2 + (rd g 17 x3)) (fun x2_6 => kb94 x1 x2_6 (x3 + 1) g)) else chk x3 7 ((if (rd g 19 x3) = (-9) then kb94 x1 (x2 + 0) (x3 + 1) g else kb94 x1 (x2 + 1) (x3 + 1) g)))))
def M_X7_sums (x1 : Int32) (g : Sg) : Option (Int32 × Sg) := (if (V_X7_within x1 0 6 g) = 0 then bI (M_X7_no (-2) g) (fun r_4 g_5 => some (r_4, g_5)) else bV (M_X7_run_ g) (fun g_1 => (if x1 = 0 then bI (M_X7_cost g_1) (fun r_2 g_3 => some (r_2, g_3)) else if x1 = 3 then some (rd g_1 14 0, g_1) else if x1 = 4 then some (rd g_1 15 0, g_1) else if x1 = 6 then some (g_1.1 7, g_1) else lup3 (B_X7_sums_94 ) FU x1 0 0 g_1)))
set_option maxRecDepth 100000 in
set_option maxHeartbeats 4000000 in
theorem C_X7_sums {l : Launch} {D : va_G} {q : Nat → Nat} {cI : ClassId} {z : Nat × Nat} {x1 : Int32} {g : Sg} {r : Int32 × Sg} (h : M_X7_sums x1 g = some r) : CTi l (EM z) D cI (mW q cI) yX7_sums cX7_sums 4 (some .int) 5 115 [.ref (q 0), .int x1] g r := by
  refine CTi.of2 (by decide) (EM_ok z) (Nat.le_of_ble_eq_true rfl) rfl (fun p e s m args below meth c A Q C hret => ?_)
  have jb94 : ∀ (kb94 : Int32 → Int32 → Int32 → Sg → Option (Int32 × Sg)) (hkb94 : ∀ (x1 x2 x3 : Int32) (g : Sg), kb94 x1 x2 x3 g = some r → J p l e (RM 5 115) s m args below meth c D (mW q cI) A 4 Q g 94 [(0, .ref (q 0)), (1, .int x1), (2, .int x2), (3, .int x3)] []) (x1 x2 x3 : Int32) (g : Sg), B_X7_sums_94 kb94 x1 x2 x3 g = some r → J p l e (RM 5 115) s m args below meth c D (mW q cI) A 4 Q g 94 [(0, .ref (q 0)), (1, .int x1), (2, .int x2), (3, .int x3)] [] := by
    intro kb94 hkb94 x1 x2 x3 g hM
    unfold B_X7_sums_94 at hM
    refine J.iload_n (pc := 94) C dX7_sums_94 rfl rfl ?_
    refine J.aload_n (pc := 95) C dX7_sums_95 rfl rfl ?_
    refine gf_X7_0_0 (pc := 96) C tf_X7_84 dX7_sums_96 ?_
    refine J.icmp_ge (pc := 99) C 155 dX7_sums_99 (by decide) (fun hc => ?_) (fun hc => ?_)
    · have hM := ite_t hc hM
      refine J.iload_n (pc := 155) C dX7_sums_155 rfl rfl ?_
      exact hret dX7_sums_156 hM rfl
    · have hM := ite_f hc hM
      refine J.iload_n (pc := 102) C dX7_sums_102 rfl rfl ?_
      refine J.iload_n (pc := 103) C dX7_sums_103 rfl rfl ?_
      refine J.iconst (pc := 104) C 1 dX7_sums_104 ic_1 ?_
      refine J.icmp_ne (pc := 105) C 117 dX7_sums_105 (by decide) (fun hc => ?_) (fun hc => ?_)
      · have hM := ite_f hc hM
        refine J.iload_n (pc := 117) C dX7_sums_117 rfl rfl ?_
        refine J.iconst (pc := 118) C 2 dX7_sums_118 ic_2 ?_
        refine J.icmp_ne (pc := 119) C 131 dX7_sums_119 (by decide) (fun hc => ?_) (fun hc => ?_)
        · have hM := ite_f hc hM
          refine J.aload_n (pc := 131) C dX7_sums_131 rfl rfl ?_
          refine gf_X7_0_25 (pc := 132) C tf_X7_64 dX7_sums_132 ?_
          refine J.iload_n (pc := 135) C dX7_sums_135 rfl rfl ?_
          obtain ⟨hv, hM⟩ := chk_ex hM
          refine J.iald (pc := 136) C (im_19 q cI) hv dX7_sums_136 ?_
          refine J.bipush (pc := 137) C (-9) dX7_sums_137 bp_m9 ?_
          refine J.icmp_ne (pc := 139) C 146 dX7_sums_139 (by decide) (fun hc => ?_) (fun hc => ?_)
          · have hM := ite_f hc hM
            refine J.iconst (pc := 146) C 1 dX7_sums_146 ic_1 ?_
            refine J.iadd (pc := 147) C dX7_sums_147 ?_
            refine J.istore_n (pc := 148) C dX7_sums_148 rfl (by decide) ?_
            refine J.iinc (pc := 149) C 1 dX7_sums_149 ic_1 rfl (by decide) ?_
            refine J.goto (pc := 152) C 94 dX7_sums_152 (by decide) ?_
            refine J.sub C [0, 1, 2, 3] rfl ?_
            exact hkb94 _ _ _ _ hM
          · have hM := ite_t hc hM
            refine J.iconst (pc := 142) C 0 dX7_sums_142 ic_0 ?_
            refine J.goto (pc := 143) C 147 dX7_sums_143 (by decide) ?_
            refine J.iadd (pc := 147) C dX7_sums_147 ?_
            refine J.istore_n (pc := 148) C dX7_sums_148 rfl (by decide) ?_
            refine J.iinc (pc := 149) C 1 dX7_sums_149 ic_1 rfl (by decide) ?_
            refine J.goto (pc := 152) C 94 dX7_sums_152 (by decide) ?_
            refine J.sub C [0, 1, 2, 3] rfl ?_
            exact hkb94 _ _ _ _ hM
        · have hM := ite_t hc hM
          refine J.aload_n (pc := 122) C dX7_sums_122 rfl rfl ?_
          refine gf_X7_0_23 (pc := 123) C tf_X7_58 dX7_sums_123 ?_
          refine J.iload_n (pc := 126) C dX7_sums_126 rfl rfl ?_
          obtain ⟨hv, hM⟩ := chk_ex hM
          refine J.iald (pc := 127) C (im_17 q cI) hv dX7_sums_127 ?_
          refine J.goto (pc := 128) C 147 dX7_sums_128 (by decide) ?_
          refine J.iadd (pc := 147) C dX7_sums_147 ?_
          obtain ⟨_, ea, hM⟩ := lt_ex hM
          refine J.istore_nV (pc := 148) C dX7_sums_148 rfl (by decide) ea ?_
          refine J.iinc (pc := 149) C 1 dX7_sums_149 ic_1 rfl (by decide) ?_
          refine J.goto (pc := 152) C 94 dX7_sums_152 (by decide) ?_
          refine J.sub C [0, 1, 2, 3] rfl ?_
          exact hkb94 _ _ _ _ hM
      · have hM := ite_t hc hM
        refine J.aload_n (pc := 108) C dX7_sums_108 rfl rfl ?_
        refine gf_X7_0_22 (pc := 109) C tf_X7_55 dX7_sums_109 ?_
        refine J.iload_n (pc := 112) C dX7_sums_112 rfl rfl ?_
        obtain ⟨hv, hM⟩ := chk_ex hM
        refine J.iald (pc := 113) C (im_16 q cI) hv dX7_sums_113 ?_
        refine J.goto (pc := 114) C 147 dX7_sums_114 (by decide) ?_
        refine J.iadd (pc := 147) C dX7_sums_147 ?_
        obtain ⟨_, ea, hM⟩ := lt_ex hM
        refine J.istore_nV (pc := 148) C dX7_sums_148 rfl (by decide) ea ?_
        refine J.iinc (pc := 149) C 1 dX7_sums_149 ic_1 rfl (by decide) ?_
        refine J.goto (pc := 152) C 94 dX7_sums_152 (by decide) ?_
        refine J.sub C [0, 1, 2, 3] rfl ?_
        exact hkb94 _ _ _ _ hM
  have jl94 : ∀ (x1 x2 x3 : Int32) (g : Sg), lup3 (B_X7_sums_94) FU x1 x2 x3 g = some r → J p l e (RM 5 115) s m args below meth c D (mW q cI) A 4 Q g 94 [(0, .ref (q 0)), (1, .int x1), (2, .int x2), (3, .int x3)] [] := 
    lup3_ok (P := fun x1 x2 x3 g => J p l e (RM 5 115) s m args below meth c D (mW q cI) A 4 Q g 94 [(0, .ref (q 0)), (1, .int x1), (2, .int x2), (3, .int x3)] []) (fun self hself => jb94 self hself) FU
  have hM := h
  unfold M_X7_sums at hM
  refine J.iload_n (pc := 0) C dX7_sums_0 rfl rfl ?_
  refine J.iconst (pc := 1) C 0 dX7_sums_1 ic_0 ?_
  refine J.bipush (pc := 2) C 6 dX7_sums_2 bp_6 ?_
  refine J.callS3i (pc := 4) C (K_X7_within _ _ _ _) lk_X7_within tm_X7_88 ⟨Nat.le_of_ble_eq_true rfl, Nat.le_of_ble_eq_true rfl⟩ (Nat.le_of_ble_eq_true rfl) dX7_sums_4 ?_
  refine J.if_ne (pc := 7) C 17 dX7_sums_7 (by decide) (fun hc => ?_) (fun hc => ?_)
  · have hM := ite_f hc hM
    refine J.aload_n (pc := 17) C dX7_sums_17 rfl rfl ?_
    obtain ⟨_, h1, hM⟩ := bV_ex hM
    refine J.callV0v (pc := 18) C (C_X7_run_ h1) lk_X7_run_ tm_X7_186 (io_m q cI) ⟨Nat.le_of_ble_eq_true rfl, Nat.le_of_ble_eq_true rfl⟩ (Nat.le_of_ble_eq_true rfl) dX7_sums_18 ?_
    refine J.iconst (pc := 21) C 0 dX7_sums_21 ic_0 ?_
    refine J.istore_n (pc := 22) C dX7_sums_22 rfl (by decide) ?_
    refine J.iload_n (pc := 23) C dX7_sums_23 rfl rfl ?_
    refine J.case (pc := 24) C 0 (fun hs0 => ?_) (fun hs0 => ?_)
    · have hM := ite_t hs0 hM
      refine J.tabIn (pc := 24) C 0 68 dX7_sums_24 hs0 (by decide) (by decide) rfl (by decide) ?_
      refine J.aload_n (pc := 68) C dX7_sums_68 rfl rfl ?_
      obtain ⟨_, _, h1, hM⟩ := bI_ex hM
      refine J.callV0i (pc := 69) C (C_X7_cost h1) lk_X7_cost tm_X7_188 (io_m q cI) ⟨Nat.le_of_ble_eq_true rfl, Nat.le_of_ble_eq_true rfl⟩ (Nat.le_of_ble_eq_true rfl) dX7_sums_69 ?_
      exact hret dX7_sums_72 hM rfl
    · have hM := ite_f hs0 hM
      refine J.case (pc := 24) C 3 (fun hs1 => ?_) (fun hs1 => ?_)
      · have hM := ite_t hs1 hM
        refine J.tabIn (pc := 24) C 3 73 dX7_sums_24 hs1 (by decide) (by decide) rfl (by decide) ?_
        refine J.aload_n (pc := 73) C dX7_sums_73 rfl rfl ?_
        refine gf_X7_0_20 (pc := 74) C tf_X7_49 dX7_sums_74 ?_
        refine J.iconst (pc := 77) C 0 dX7_sums_77 ic_0 ?_
        refine J.iald (pc := 78) C (im_14 q cI) (vpl rfl) dX7_sums_78 ?_
        exact hret dX7_sums_79 hM rfl
      · have hM := ite_f hs1 hM
        refine J.case (pc := 24) C 4 (fun hs2 => ?_) (fun hs2 => ?_)
        · have hM := ite_t hs2 hM
          refine J.tabIn (pc := 24) C 4 80 dX7_sums_24 hs2 (by decide) (by decide) rfl (by decide) ?_
          refine J.aload_n (pc := 80) C dX7_sums_80 rfl rfl ?_
          refine gf_X7_0_21 (pc := 81) C tf_X7_52 dX7_sums_81 ?_
          refine J.iconst (pc := 84) C 0 dX7_sums_84 ic_0 ?_
          refine J.iald (pc := 85) C (im_15 q cI) (vpl rfl) dX7_sums_85 ?_
          exact hret dX7_sums_86 hM rfl
        · have hM := ite_f hs2 hM
          refine J.case (pc := 24) C 6 (fun hs3 => ?_) (fun hs3 => ?_)
          · have hM := ite_t hs3 hM
            refine J.tabIn (pc := 24) C 6 87 dX7_sums_24 hs3 (by decide) (by decide) rfl (by decide) ?_
            refine J.aload_n (pc := 87) C dX7_sums_87 rfl rfl ?_
            refine gf_X7_0_26 (pc := 88) C tf_X7_163 dX7_sums_88 ?_
            exact hret dX7_sums_91 hM rfl
          · have hM := ite_f hs3 hM
            refine J.tabD (pc := 24) C 7 92 dX7_sums_24 rfl (fun k hk ek => by have c0 := i_ne 0 rfl hs0; have c1 := i_ne 3 rfl hs1; have c2 := i_ne 4 rfl hs2; have c3 := i_ne 6 rfl hs3; rcases (show k = 0 ∨ k = 1 ∨ k = 2 ∨ k = 3 ∨ k = 4 ∨ k = 5 ∨ k = 6 by omega) with rfl | rfl | rfl | rfl | rfl | rfl | rfl <;> first | rfl | (exfalso; omega)) (by decide) (by decide) ?_
            refine J.iconst (pc := 92) C 0 dX7_sums_92 ic_0 ?_
            refine J.istore_n (pc := 93) C dX7_sums_93 rfl (by decide) ?_
            refine J.sub C [0, 1, 2, 3] rfl ?_
            exact jl94 _ _ _ _ hM
  · have hM := ite_t hc hM
    refine J.aload_n (pc := 10) C dX7_sums_10 rfl rfl ?_
    refine J.bipush (pc := 11) C (-2) dX7_sums_11 bp_m2 ?_
    obtain ⟨_, _, h1, hM⟩ := bI_ex hM
    refine J.callV1i (pc := 13) C (C_X7_no h1) lk_X7_no tm_X7_80 (io_m q cI) ⟨Nat.le_of_ble_eq_true rfl, Nat.le_of_ble_eq_true rfl⟩ (Nat.le_of_ble_eq_true rfl) dX7_sums_13 ?_
    exact hret dX7_sums_16 hM rfl
def M_X7_of (x1 x2 : Int32) (g : Sg) : Option (Int32 × Sg) := (if (V_X7_isGoer x1 g) = 0 then bI (M_X7_no (-1) g) (fun r_6 g_7 => some (r_6, g_7)) else bV (M_X7_run_ g) (fun g_1 => (if x2 = 0 then chk x1 7 (some (rd g_1 16 x1, g_1)) else if x2 = 1 then chk x1 7 (some (rd g_1 17 x1, g_1)) else if x2 = 2 then chk x1 7 (bI (M_X7_costs x1 g_1) (fun r_4 g_5 => some ((rd g_1 16 x1) * r_4, g_5))) else if x2 = 3 then chk x1 7 (some (rd g_1 18 x1, g_1)) else if x2 = 4 then chk x1 7 ((if (rd g_1 19 x1) = (-9) then some (0, g_1) else some (1, g_1))) else bI (M_X7_no (-2) g_1) (fun r_2 g_3 => some (r_2, g_3)))))
set_option maxRecDepth 100000 in
set_option maxHeartbeats 4000000 in
theorem C_X7_of {l : Launch} {D : va_G} {q : Nat → Nat} {cI : ClassId} {z : Nat × Nat} {x1 x2 : Int32} {g : Sg} {r : Int32 × Sg} (h : M_X7_of x1 x2 g = some r) : CTi l (EM z) D cI (mW q cI) yX7_of cX7_of 3 (some .int) 5 115 [.ref (q 0), .int x1, .int x2] g r := by
  refine CTi.of2 (by decide) (EM_ok z) (Nat.le_of_ble_eq_true rfl) rfl (fun p e s m args below meth c A Q C hret => ?_)
  have hM := h
  unfold M_X7_of at hM
  refine J.aload_n (pc := 0) C dX7_of_0 rfl rfl ?_
  refine J.iload_n (pc := 1) C dX7_of_1 rfl rfl ?_
  refine J.callV1i (pc := 2) C (K_X7_isGoer _ _) lk_X7_isGoer tm_X7_121 (io_m q cI) ⟨Nat.le_of_ble_eq_true rfl, Nat.le_of_ble_eq_true rfl⟩ (Nat.le_of_ble_eq_true rfl) dX7_of_2 ?_
  refine J.if_ne (pc := 5) C 14 dX7_of_5 (by decide) (fun hc => ?_) (fun hc => ?_)
  · have hM := ite_f hc hM
    refine J.aload_n (pc := 14) C dX7_of_14 rfl rfl ?_
    obtain ⟨_, h1, hM⟩ := bV_ex hM
    refine J.callV0v (pc := 15) C (C_X7_run_ h1) lk_X7_run_ tm_X7_186 (io_m q cI) ⟨Nat.le_of_ble_eq_true rfl, Nat.le_of_ble_eq_true rfl⟩ (Nat.le_of_ble_eq_true rfl) dX7_of_15 ?_
    refine J.iload_n (pc := 18) C dX7_of_18 rfl rfl ?_
    refine J.case (pc := 19) C 0 (fun hs0 => ?_) (fun hs0 => ?_)
    · have hM := ite_t hs0 hM
      refine J.tabIn (pc := 19) C 0 52 dX7_of_19 hs0 (by decide) (by decide) rfl (by decide) ?_
      refine J.aload_n (pc := 52) C dX7_of_52 rfl rfl ?_
      refine gf_X7_0_22 (pc := 53) C tf_X7_55 dX7_of_53 ?_
      refine J.iload_n (pc := 56) C dX7_of_56 rfl rfl ?_
      obtain ⟨hv, hM⟩ := chk_ex hM
      refine J.iald (pc := 57) C (im_16 q cI) hv dX7_of_57 ?_
      exact hret dX7_of_58 hM rfl
    · have hM := ite_f hs0 hM
      refine J.case (pc := 19) C 1 (fun hs1 => ?_) (fun hs1 => ?_)
      · have hM := ite_t hs1 hM
        refine J.tabIn (pc := 19) C 1 59 dX7_of_19 hs1 (by decide) (by decide) rfl (by decide) ?_
        refine J.aload_n (pc := 59) C dX7_of_59 rfl rfl ?_
        refine gf_X7_0_23 (pc := 60) C tf_X7_58 dX7_of_60 ?_
        refine J.iload_n (pc := 63) C dX7_of_63 rfl rfl ?_
        obtain ⟨hv, hM⟩ := chk_ex hM
        refine J.iald (pc := 64) C (im_17 q cI) hv dX7_of_64 ?_
        exact hret dX7_of_65 hM rfl
      · have hM := ite_f hs1 hM
        refine J.case (pc := 19) C 2 (fun hs2 => ?_) (fun hs2 => ?_)
        · have hM := ite_t hs2 hM
          refine J.tabIn (pc := 19) C 2 66 dX7_of_19 hs2 (by decide) (by decide) rfl (by decide) ?_
          refine J.aload_n (pc := 66) C dX7_of_66 rfl rfl ?_
          refine gf_X7_0_22 (pc := 67) C tf_X7_55 dX7_of_67 ?_
          refine J.iload_n (pc := 70) C dX7_of_70 rfl rfl ?_
          obtain ⟨hv, hM⟩ := chk_ex hM
          refine J.iald (pc := 71) C (im_16 q cI) hv dX7_of_71 ?_
          refine J.aload_n (pc := 72) C dX7_of_72 rfl rfl ?_
          refine J.iload_n (pc := 73) C dX7_of_73 rfl rfl ?_
          obtain ⟨_, _, h1, hM⟩ := bI_ex hM
          refine J.callV1i (pc := 74) C (C_X7_costs h1) lk_X7_costs tm_X7_138 (io_m q cI) ⟨Nat.le_of_ble_eq_true rfl, Nat.le_of_ble_eq_true rfl⟩ (Nat.le_of_ble_eq_true rfl) dX7_of_74 ?_
          refine J.imul (pc := 77) C dX7_of_77 ?_
          exact hret dX7_of_78 hM rfl
        · have hM := ite_f hs2 hM
          refine J.case (pc := 19) C 3 (fun hs3 => ?_) (fun hs3 => ?_)
          · have hM := ite_t hs3 hM
            refine J.tabIn (pc := 19) C 3 79 dX7_of_19 hs3 (by decide) (by decide) rfl (by decide) ?_
            refine J.aload_n (pc := 79) C dX7_of_79 rfl rfl ?_
            refine gf_X7_0_24 (pc := 80) C tf_X7_61 dX7_of_80 ?_
            refine J.iload_n (pc := 83) C dX7_of_83 rfl rfl ?_
            obtain ⟨hv, hM⟩ := chk_ex hM
            refine J.iald (pc := 84) C (im_18 q cI) hv dX7_of_84 ?_
            exact hret dX7_of_85 hM rfl
          · have hM := ite_f hs3 hM
            refine J.case (pc := 19) C 4 (fun hs4 => ?_) (fun hs4 => ?_)
            · have hM := ite_t hs4 hM
              refine J.tabIn (pc := 19) C 4 86 dX7_of_19 hs4 (by decide) (by decide) rfl (by decide) ?_
              refine J.aload_n (pc := 86) C dX7_of_86 rfl rfl ?_
              refine gf_X7_0_25 (pc := 87) C tf_X7_64 dX7_of_87 ?_
              refine J.iload_n (pc := 90) C dX7_of_90 rfl rfl ?_
              obtain ⟨hv, hM⟩ := chk_ex hM
              refine J.iald (pc := 91) C (im_19 q cI) hv dX7_of_91 ?_
              refine J.bipush (pc := 92) C (-9) dX7_of_92 bp_m9 ?_
              refine J.icmp_ne (pc := 94) C 101 dX7_of_94 (by decide) (fun hc => ?_) (fun hc => ?_)
              · have hM := ite_f hc hM
                refine J.iconst (pc := 101) C 1 dX7_of_101 ic_1 ?_
                exact hret dX7_of_102 hM rfl
              · have hM := ite_t hc hM
                refine J.iconst (pc := 97) C 0 dX7_of_97 ic_0 ?_
                refine J.goto (pc := 98) C 102 dX7_of_98 (by decide) ?_
                exact hret dX7_of_102 hM rfl
            · have hM := ite_f hs4 hM
              refine J.tabOut (pc := 19) C 103 dX7_of_19 (by have c0 := i_ne 0 rfl hs0; have c1 := i_ne 1 rfl hs1; have c2 := i_ne 2 rfl hs2; have c3 := i_ne 3 rfl hs3; have c4 := i_ne 4 rfl hs4; omega) (by decide) ?_
              refine J.aload_n (pc := 103) C dX7_of_103 rfl rfl ?_
              refine J.bipush (pc := 104) C (-2) dX7_of_104 bp_m2 ?_
              obtain ⟨_, _, h1, hM⟩ := bI_ex hM
              refine J.callV1i (pc := 106) C (C_X7_no h1) lk_X7_no tm_X7_80 (io_m q cI) ⟨Nat.le_of_ble_eq_true rfl, Nat.le_of_ble_eq_true rfl⟩ (Nat.le_of_ble_eq_true rfl) dX7_of_106 ?_
              exact hret dX7_of_109 hM rfl
  · have hM := ite_t hc hM
    refine J.aload_n (pc := 8) C dX7_of_8 rfl rfl ?_
    refine J.iconst (pc := 9) C (-1) dX7_of_9 ic_m1 ?_
    obtain ⟨_, _, h1, hM⟩ := bI_ex hM
    refine J.callV1i (pc := 10) C (C_X7_no h1) lk_X7_no tm_X7_80 (io_m q cI) ⟨Nat.le_of_ble_eq_true rfl, Nat.le_of_ble_eq_true rfl⟩ (Nat.le_of_ble_eq_true rfl) dX7_of_10 ?_
    exact hret dX7_of_13 hM rfl
def M_X7_lamp (x1 : Int32) (g : Sg) : Option (Int32 × Sg) := (if 0 ≤ x1 then (if x1 ≤ 11 then bV (M_X7_run_ g) (fun g_1 => chk x1 12 (some (rd g_1 20 x1, g_1))) else bI (M_X7_no (-6) g) (fun r_2 g_3 => some (r_2, g_3))) else bI (M_X7_no (-4) g) (fun r_4 g_5 => some (r_4, g_5)))
set_option maxRecDepth 100000 in
set_option maxHeartbeats 4000000 in
theorem C_X7_lamp {l : Launch} {D : va_G} {q : Nat → Nat} {cI : ClassId} {z : Nat × Nat} {x1 : Int32} {g : Sg} {r : Int32 × Sg} (h : M_X7_lamp x1 g = some r) : CTi l (EM z) D cI (mW q cI) yX7_lamp cX7_lamp 2 (some .int) 5 115 [.ref (q 0), .int x1] g r := by
  refine CTi.of2 (by decide) (EM_ok z) (Nat.le_of_ble_eq_true rfl) rfl (fun p e s m args below meth c A Q C hret => ?_)
  have hM := h
  unfold M_X7_lamp at hM
  refine J.iload_n (pc := 0) C dX7_lamp_0 rfl rfl ?_
  refine J.if_ge (pc := 1) C 11 dX7_lamp_1 (by decide) (fun hc => ?_) (fun hc => ?_)
  · have hM := ite_t hc hM
    refine J.iload_n (pc := 11) C dX7_lamp_11 rfl rfl ?_
    refine J.bipush (pc := 12) C 11 dX7_lamp_12 bp_11 ?_
    refine J.icmp_le (pc := 14) C 24 dX7_lamp_14 (by decide) (fun hc => ?_) (fun hc => ?_)
    · have hM := ite_t hc hM
      refine J.aload_n (pc := 24) C dX7_lamp_24 rfl rfl ?_
      obtain ⟨_, h1, hM⟩ := bV_ex hM
      refine J.callV0v (pc := 25) C (C_X7_run_ h1) lk_X7_run_ tm_X7_186 (io_m q cI) ⟨Nat.le_of_ble_eq_true rfl, Nat.le_of_ble_eq_true rfl⟩ (Nat.le_of_ble_eq_true rfl) dX7_lamp_25 ?_
      refine J.aload_n (pc := 28) C dX7_lamp_28 rfl rfl ?_
      refine gf_X7_0_27 (pc := 29) C tf_X7_67 dX7_lamp_29 ?_
      refine J.iload_n (pc := 32) C dX7_lamp_32 rfl rfl ?_
      obtain ⟨hv, hM⟩ := chk_ex hM
      refine J.iald (pc := 33) C (im_20 q cI) hv dX7_lamp_33 ?_
      exact hret dX7_lamp_34 hM rfl
    · have hM := ite_f hc hM
      refine J.aload_n (pc := 17) C dX7_lamp_17 rfl rfl ?_
      refine J.bipush (pc := 18) C (-6) dX7_lamp_18 bp_m6 ?_
      obtain ⟨_, _, h1, hM⟩ := bI_ex hM
      refine J.callV1i (pc := 20) C (C_X7_no h1) lk_X7_no tm_X7_80 (io_m q cI) ⟨Nat.le_of_ble_eq_true rfl, Nat.le_of_ble_eq_true rfl⟩ (Nat.le_of_ble_eq_true rfl) dX7_lamp_20 ?_
      exact hret dX7_lamp_23 hM rfl
  · have hM := ite_f hc hM
    refine J.aload_n (pc := 4) C dX7_lamp_4 rfl rfl ?_
    refine J.bipush (pc := 5) C (-4) dX7_lamp_5 bp_m4 ?_
    obtain ⟨_, _, h1, hM⟩ := bI_ex hM
    refine J.callV1i (pc := 7) C (C_X7_no h1) lk_X7_no tm_X7_80 (io_m q cI) ⟨Nat.le_of_ble_eq_true rfl, Nat.le_of_ble_eq_true rfl⟩ (Nat.le_of_ble_eq_true rfl) dX7_lamp_7 ?_
    exact hret dX7_lamp_10 hM rfl
