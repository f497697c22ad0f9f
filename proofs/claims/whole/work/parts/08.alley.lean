def M_X0_pump (a : Nat) (g : Sg) : Option (Int32 × Sg) := some (rat g (a + 1) 3 0, g)
set_option maxRecDepth 100000 in
set_option maxHeartbeats 4000000 in
theorem C_X0_pump {l : Launch} {D : va_G} {q : Nat → Nat} {cI : ClassId} {z : Nat} {a : Nat} (ha : isAl a) {g : Sg} {r : Int32 × Sg} (h : M_X0_pump a g = some r) : CTi l (EC z) D cI (cW q cI) yX0_pump cX0_pump 1 (some .int) 1 21 [.ref (q a)] g r := by
  refine CTi.of2 (by decide) (EC_ok z) (Nat.le_of_ble_eq_true rfl) rfl (fun p e s m args below meth c A Q C hret => ?_)
  have hM := h
  unfold M_X0_pump at hM
  refine J.aload_n (pc := 0) C dX0_pump_0 rfl rfl ?_
  refine gf_X0_0 (pc := 1) ha C tf_X0_11 dX0_pump_1 ?_
  refine J.iconst (pc := 4) C 0 dX0_pump_4 ic_0 ?_
  refine J.callS2i (pc := 5) C (K_X4_at (ia_al1 q cI ha) _ _) lk_X4_at tm_X0_47 ⟨Nat.le_of_ble_eq_true rfl, Nat.le_of_ble_eq_true rfl⟩ (Nat.le_of_ble_eq_true rfl) dX0_pump_5 ?_
  exact hret dX0_pump_8 hM rfl
def V_X0_pump (a : Nat) (g : Sg) : Int32 := rat g (a + 1) 3 0
theorem E_X0_pump (a : Nat) (g : Sg) : M_X0_pump a g = some (V_X0_pump a g, g) := by
  unfold M_X0_pump V_X0_pump
  first | rfl | ((try dsimp only [lt]); (repeat' split) <;> rfl)
theorem K_X0_pump {l : Launch} {D : va_G} {q : Nat → Nat} {cI : ClassId} {z : Nat} {a : Nat} (ha : isAl a) (g : Sg) : CTi l (EC z) D cI (cW q cI) yX0_pump cX0_pump 1 (some .int) 1 21 [.ref (q a)] g (V_X0_pump a g, g) := C_X0_pump ha (E_X0_pump a g)
def M_X0_oil (a : Nat) (g : Sg) : Option (Int32 × Sg) := some (rat g (a + 1) 3 1, g)
set_option maxRecDepth 100000 in
set_option maxHeartbeats 4000000 in
theorem C_X0_oil {l : Launch} {D : va_G} {q : Nat → Nat} {cI : ClassId} {z : Nat} {a : Nat} (ha : isAl a) {g : Sg} {r : Int32 × Sg} (h : M_X0_oil a g = some r) : CTi l (EC z) D cI (cW q cI) yX0_oil cX0_oil 1 (some .int) 1 21 [.ref (q a)] g r := by
  refine CTi.of2 (by decide) (EC_ok z) (Nat.le_of_ble_eq_true rfl) rfl (fun p e s m args below meth c A Q C hret => ?_)
  have hM := h
  unfold M_X0_oil at hM
  refine J.aload_n (pc := 0) C dX0_oil_0 rfl rfl ?_
  refine gf_X0_0 (pc := 1) ha C tf_X0_11 dX0_oil_1 ?_
  refine J.iconst (pc := 4) C 1 dX0_oil_4 ic_1 ?_
  refine J.callS2i (pc := 5) C (K_X4_at (ia_al1 q cI ha) _ _) lk_X4_at tm_X0_47 ⟨Nat.le_of_ble_eq_true rfl, Nat.le_of_ble_eq_true rfl⟩ (Nat.le_of_ble_eq_true rfl) dX0_oil_5 ?_
  exact hret dX0_oil_8 hM rfl
def V_X0_oil (a : Nat) (g : Sg) : Int32 := rat g (a + 1) 3 1
theorem E_X0_oil (a : Nat) (g : Sg) : M_X0_oil a g = some (V_X0_oil a g, g) := by
  unfold M_X0_oil V_X0_oil
  first | rfl | ((try dsimp only [lt]); (repeat' split) <;> rfl)
theorem K_X0_oil {l : Launch} {D : va_G} {q : Nat → Nat} {cI : ClassId} {z : Nat} {a : Nat} (ha : isAl a) (g : Sg) : CTi l (EC z) D cI (cW q cI) yX0_oil cX0_oil 1 (some .int) 1 21 [.ref (q a)] g (V_X0_oil a g, g) := C_X0_oil ha (E_X0_oil a g)
def M_X0_dark (a : Nat) (g : Sg) : Option (Int32 × Sg) := some (rat g (a + 1) 3 2, g)
set_option maxRecDepth 100000 in
set_option maxHeartbeats 4000000 in
theorem C_X0_dark {l : Launch} {D : va_G} {q : Nat → Nat} {cI : ClassId} {z : Nat} {a : Nat} (ha : isAl a) {g : Sg} {r : Int32 × Sg} (h : M_X0_dark a g = some r) : CTi l (EC z) D cI (cW q cI) yX0_dark cX0_dark 1 (some .int) 1 21 [.ref (q a)] g r := by
  refine CTi.of2 (by decide) (EC_ok z) (Nat.le_of_ble_eq_true rfl) rfl (fun p e s m args below meth c A Q C hret => ?_)
  have hM := h
  unfold M_X0_dark at hM
  refine J.aload_n (pc := 0) C dX0_dark_0 rfl rfl ?_
  refine gf_X0_0 (pc := 1) ha C tf_X0_11 dX0_dark_1 ?_
  refine J.iconst (pc := 4) C 2 dX0_dark_4 ic_2 ?_
  refine J.callS2i (pc := 5) C (K_X4_at (ia_al1 q cI ha) _ _) lk_X4_at tm_X0_47 ⟨Nat.le_of_ble_eq_true rfl, Nat.le_of_ble_eq_true rfl⟩ (Nat.le_of_ble_eq_true rfl) dX0_dark_5 ?_
  exact hret dX0_dark_8 hM rfl
def V_X0_dark (a : Nat) (g : Sg) : Int32 := rat g (a + 1) 3 2
theorem E_X0_dark (a : Nat) (g : Sg) : M_X0_dark a g = some (V_X0_dark a g, g) := by
  unfold M_X0_dark V_X0_dark
  first | rfl | ((try dsimp only [lt]); (repeat' split) <;> rfl)
theorem K_X0_dark {l : Launch} {D : va_G} {q : Nat → Nat} {cI : ClassId} {z : Nat} {a : Nat} (ha : isAl a) (g : Sg) : CTi l (EC z) D cI (cW q cI) yX0_dark cX0_dark 1 (some .int) 1 21 [.ref (q a)] g (V_X0_dark a g, g) := C_X0_dark ha (E_X0_dark a g)
def M_X0_knows (a : Nat) (x1 : Int32) (g : Sg) : Option (Int32 × Sg) := (if x1 < 0 then some (0, g) else (if (g.1 a) ≤ x1 then some (0, g) else some (1, g)))
set_option maxRecDepth 100000 in
set_option maxHeartbeats 4000000 in
theorem C_X0_knows {l : Launch} {D : va_G} {q : Nat → Nat} {cI : ClassId} {z : Nat} {a : Nat} (ha : isAl a) {x1 : Int32} {g : Sg} {r : Int32 × Sg} (h : M_X0_knows a x1 g = some r) : CTi l (EC z) D cI (cW q cI) yX0_knows cX0_knows 2 (some .boolean) 0 0 [.ref (q a), .int x1] g r := by
  refine CTi.of2 (by decide) (EC_ok z) (Nat.le_of_ble_eq_true rfl) rfl (fun p e s m args below meth c A Q C hret => ?_)
  have hM := h
  unfold M_X0_knows at hM
  refine J.iload_n (pc := 0) C dX0_knows_0 rfl rfl ?_
  refine J.if_lt (pc := 1) C 16 dX0_knows_1 (by decide) (fun hc => ?_) (fun hc => ?_)
  · have hM := ite_t hc hM
    refine J.iconst (pc := 16) C 0 dX0_knows_16 ic_0 ?_
    exact hret dX0_knows_17 hM (by decide)
  · have hM := ite_f hc hM
    refine J.iload_n (pc := 4) C dX0_knows_4 rfl rfl ?_
    refine J.aload_n (pc := 5) C dX0_knows_5 rfl rfl ?_
    refine gf_X0_6 (pc := 6) ha C tf_X0_36 dX0_knows_6 ?_
    refine J.icmp_ge (pc := 9) C 16 dX0_knows_9 (by decide) (fun hc => ?_) (fun hc => ?_)
    · have hM := ite_t hc hM
      refine J.iconst (pc := 16) C 0 dX0_knows_16 ic_0 ?_
      exact hret dX0_knows_17 hM (by decide)
    · have hM := ite_f hc hM
      refine J.iconst (pc := 12) C 1 dX0_knows_12 ic_1 ?_
      refine J.goto (pc := 13) C 17 dX0_knows_13 (by decide) ?_
      exact hret dX0_knows_17 hM (by decide)
def V_X0_knows (a : Nat) (x1 : Int32) (g : Sg) : Int32 := (if x1 < 0 then 0 else (if (g.1 a) ≤ x1 then 0 else 1))
theorem E_X0_knows (a : Nat) (x1 : Int32) (g : Sg) : M_X0_knows a x1 g = some (V_X0_knows a x1 g, g) := by
  unfold M_X0_knows V_X0_knows
  first | rfl | ((try dsimp only [lt]); (repeat' split) <;> rfl)
theorem K_X0_knows {l : Launch} {D : va_G} {q : Nat → Nat} {cI : ClassId} {z : Nat} {a : Nat} (ha : isAl a) (x1 : Int32) (g : Sg) : CTi l (EC z) D cI (cW q cI) yX0_knows cX0_knows 2 (some .boolean) 0 0 [.ref (q a), .int x1] g (V_X0_knows a x1 g, g) := C_X0_knows ha (E_X0_knows a x1 g)
def M_X0_settle (a : Nat) (x1 x2 : Int32) (g : Sg) : Option (Int32 × Sg) := (if x2 ≤ (ratZ x1) then lt (rput g (a + 1) 3 x1 x2) (fun g_1 => some (1, g_1)) else some (0, g))
set_option maxRecDepth 100000 in
set_option maxHeartbeats 4000000 in
theorem C_X0_settle {l : Launch} {D : va_G} {q : Nat → Nat} {cI : ClassId} {z : Nat} {a : Nat} (ha : isAl a) {x1 x2 : Int32} {g : Sg} {r : Int32 × Sg} (h : M_X0_settle a x1 x2 g = some r) : CTi l (EC z) D cI (cW q cI) yX0_settle cX0_settle 3 (some .boolean) 1 22 [.ref (q a), .int x1, .int x2] g r := by
  refine CTi.of2 (by decide) (EC_ok z) (Nat.le_of_ble_eq_true rfl) rfl (fun p e s m args below meth c A Q C hret => ?_)
  have hM := h
  unfold M_X0_settle at hM
  refine J.iload_n (pc := 0) C dX0_settle_0 rfl rfl ?_
  refine J.getsZ (pc := 1) C tf_X0_51 dX0_settle_1 ?_
  refine J.iload_n (pc := 4) C dX0_settle_4 rfl rfl ?_
  refine J.callS2i (pc := 5) C (K_X4_atZ _ _) lk_X4_at tm_X0_47 ⟨Nat.le_of_ble_eq_true rfl, Nat.le_of_ble_eq_true rfl⟩ (Nat.le_of_ble_eq_true rfl) dX0_settle_5 ?_
  refine J.icmp_le (pc := 8) C 13 dX0_settle_8 (by decide) (fun hc => ?_) (fun hc => ?_)
  · have hM := ite_t hc hM
    refine J.aload_n (pc := 13) C dX0_settle_13 rfl rfl ?_
    refine gf_X0_0 (pc := 14) ha C tf_X0_11 dX0_settle_14 ?_
    refine J.iload_n (pc := 17) C dX0_settle_17 rfl rfl ?_
    refine J.iload_n (pc := 18) C dX0_settle_18 rfl rfl ?_
    refine J.callS3v (pc := 19) C (K_X4_put (ia_al1 q cI ha) _ _ _) lk_X4_put tm_X0_30 ⟨Nat.le_of_ble_eq_true rfl, Nat.le_of_ble_eq_true rfl⟩ (Nat.le_of_ble_eq_true rfl) dX0_settle_19 ?_
    obtain ⟨_, ea, hM⟩ := lt_ex hM
    refine J.cong C ea ?_
    refine J.iconst (pc := 22) C 1 dX0_settle_22 ic_1 ?_
    exact hret dX0_settle_23 hM (by decide)
  · have hM := ite_f hc hM
    refine J.iconst (pc := 11) C 0 dX0_settle_11 ic_0 ?_
    exact hret dX0_settle_12 hM (by decide)
def M_X0_becomeLike (a : Nat) (b : Nat) (g : Sg) : Option Sg := lt (rcp g (b + 1) (a + 1) 3) (fun g_1 => lt (rcp g_1 (b + 2) (a + 2) 7) (fun g_2 => lt (rcp g_2 (b + 3) (a + 3) 7) (fun g_3 => lt (rcp g_3 (b + 4) (a + 4) 7) (fun g_4 => lt (rcp g_4 (b + 5) (a + 5) 7) (fun g_5 => lt (rcp g_5 (b + 6) (a + 6) 7) (fun g_6 => lt (sI g_6 a (g_6.1 b)) (fun g_7 => lt (sI g_7 (a + 1) (g_7.1 (b + 1))) (fun g_8 => some g_8))))))))
set_option maxRecDepth 100000 in
set_option maxHeartbeats 4000000 in
theorem C_X0_becomeLike {l : Launch} {D : va_G} {q : Nat → Nat} {cI : ClassId} {z : Nat} {a : Nat} {b : Nat} (ha : isAl a) (hb : isAl b) {g : Sg} {r : Sg} (h : M_X0_becomeLike a b g = some r) : CTv l (EC z) D cI (cW q cI) yX0_becomeLike cX0_becomeLike 2 1 22 [.ref (q a), .ref (q b)] g r := by
  refine CTv.of2 (by decide) (EC_ok z) (Nat.le_of_ble_eq_true rfl) rfl (fun p e s m args below meth c A Q C hret => ?_)
  have hM := h
  unfold M_X0_becomeLike at hM
  refine J.aload_n (pc := 0) C dX0_becomeLike_0 rfl rfl ?_
  refine gf_X0_0 (pc := 1) hb C tf_X0_11 dX0_becomeLike_1 ?_
  refine J.aload_n (pc := 4) C dX0_becomeLike_4 rfl rfl ?_
  refine gf_X0_0 (pc := 5) ha C tf_X0_11 dX0_becomeLike_5 ?_
  refine J.callS2v (pc := 8) C (K_X4_copy (ia_al1 q cI hb) (ia_al1 q cI ha) _) lk_X4_copy tm_X0_43 ⟨Nat.le_of_ble_eq_true rfl, Nat.le_of_ble_eq_true rfl⟩ (Nat.le_of_ble_eq_true rfl) dX0_becomeLike_8 ?_
  obtain ⟨_, ea, hM⟩ := lt_ex hM
  refine J.cong C ea ?_
  refine J.aload_n (pc := 11) C dX0_becomeLike_11 rfl rfl ?_
  refine gf_X0_1 (pc := 12) hb C tf_X0_15 dX0_becomeLike_12 ?_
  refine J.aload_n (pc := 15) C dX0_becomeLike_15 rfl rfl ?_
  refine gf_X0_1 (pc := 16) ha C tf_X0_15 dX0_becomeLike_16 ?_
  refine J.callS2v (pc := 19) C (K_X4_copy (ia_al2 q cI hb) (ia_al2 q cI ha) _) lk_X4_copy tm_X0_43 ⟨Nat.le_of_ble_eq_true rfl, Nat.le_of_ble_eq_true rfl⟩ (Nat.le_of_ble_eq_true rfl) dX0_becomeLike_19 ?_
  obtain ⟨_, ea, hM⟩ := lt_ex hM
  refine J.cong C ea ?_
  refine J.aload_n (pc := 22) C dX0_becomeLike_22 rfl rfl ?_
  refine gf_X0_2 (pc := 23) hb C tf_X0_18 dX0_becomeLike_23 ?_
  refine J.aload_n (pc := 26) C dX0_becomeLike_26 rfl rfl ?_
  refine gf_X0_2 (pc := 27) ha C tf_X0_18 dX0_becomeLike_27 ?_
  refine J.callS2v (pc := 30) C (K_X4_copy (ia_al3 q cI hb) (ia_al3 q cI ha) _) lk_X4_copy tm_X0_43 ⟨Nat.le_of_ble_eq_true rfl, Nat.le_of_ble_eq_true rfl⟩ (Nat.le_of_ble_eq_true rfl) dX0_becomeLike_30 ?_
  obtain ⟨_, ea, hM⟩ := lt_ex hM
  refine J.cong C ea ?_
  refine J.aload_n (pc := 33) C dX0_becomeLike_33 rfl rfl ?_
  refine gf_X0_3 (pc := 34) hb C tf_X0_21 dX0_becomeLike_34 ?_
  refine J.aload_n (pc := 37) C dX0_becomeLike_37 rfl rfl ?_
  refine gf_X0_3 (pc := 38) ha C tf_X0_21 dX0_becomeLike_38 ?_
  refine J.callS2v (pc := 41) C (K_X4_copy (ia_al4 q cI hb) (ia_al4 q cI ha) _) lk_X4_copy tm_X0_43 ⟨Nat.le_of_ble_eq_true rfl, Nat.le_of_ble_eq_true rfl⟩ (Nat.le_of_ble_eq_true rfl) dX0_becomeLike_41 ?_
  obtain ⟨_, ea, hM⟩ := lt_ex hM
  refine J.cong C ea ?_
  refine J.aload_n (pc := 44) C dX0_becomeLike_44 rfl rfl ?_
  refine gf_X0_4 (pc := 45) hb C tf_X0_24 dX0_becomeLike_45 ?_
  refine J.aload_n (pc := 48) C dX0_becomeLike_48 rfl rfl ?_
  refine gf_X0_4 (pc := 49) ha C tf_X0_24 dX0_becomeLike_49 ?_
  refine J.callS2v (pc := 52) C (K_X4_copy (ia_al5 q cI hb) (ia_al5 q cI ha) _) lk_X4_copy tm_X0_43 ⟨Nat.le_of_ble_eq_true rfl, Nat.le_of_ble_eq_true rfl⟩ (Nat.le_of_ble_eq_true rfl) dX0_becomeLike_52 ?_
  obtain ⟨_, ea, hM⟩ := lt_ex hM
  refine J.cong C ea ?_
  refine J.aload_n (pc := 55) C dX0_becomeLike_55 rfl rfl ?_
  refine gf_X0_5 (pc := 56) hb C tf_X0_27 dX0_becomeLike_56 ?_
  refine J.aload_n (pc := 59) C dX0_becomeLike_59 rfl rfl ?_
  refine gf_X0_5 (pc := 60) ha C tf_X0_27 dX0_becomeLike_60 ?_
  refine J.callS2v (pc := 63) C (K_X4_copy (ia_al6 q cI hb) (ia_al6 q cI ha) _) lk_X4_copy tm_X0_43 ⟨Nat.le_of_ble_eq_true rfl, Nat.le_of_ble_eq_true rfl⟩ (Nat.le_of_ble_eq_true rfl) dX0_becomeLike_63 ?_
  obtain ⟨_, ea, hM⟩ := lt_ex hM
  refine J.cong C ea ?_
  refine J.aload_n (pc := 66) C dX0_becomeLike_66 rfl rfl ?_
  refine J.aload_n (pc := 67) C dX0_becomeLike_67 rfl rfl ?_
  refine gf_X0_6 (pc := 68) hb C tf_X0_36 dX0_becomeLike_68 ?_
  refine pf_X0_6 (pc := 71) ha C tf_X0_36 dX0_becomeLike_71 ?_
  obtain ⟨_, ea, hM⟩ := lt_ex hM
  refine J.cong C ea ?_
  refine J.aload_n (pc := 74) C dX0_becomeLike_74 rfl rfl ?_
  refine J.aload_n (pc := 75) C dX0_becomeLike_75 rfl rfl ?_
  refine gf_X0_7 (pc := 76) hb C tf_X0_40 dX0_becomeLike_76 ?_
  refine pf_X0_7 (pc := 79) ha C tf_X0_40 dX0_becomeLike_79 ?_
  obtain ⟨_, ea, hM⟩ := lt_ex hM
  refine J.cong C ea ?_
  exact hret dX0_becomeLike_82 hM
def U_X0_becomeLike (a : Nat) (b : Nat) (g : Sg) : Sg := let g_1 := (rcp g (b + 1) (a + 1) 3); let g_2 := (rcp g_1 (b + 2) (a + 2) 7); let g_3 := (rcp g_2 (b + 3) (a + 3) 7); let g_4 := (rcp g_3 (b + 4) (a + 4) 7); let g_5 := (rcp g_4 (b + 5) (a + 5) 7); let g_6 := (rcp g_5 (b + 6) (a + 6) 7); let g_7 := (sI g_6 a (g_6.1 b)); let g_8 := (sI g_7 (a + 1) (g_7.1 (b + 1))); g_8
theorem E_X0_becomeLike (a : Nat) (b : Nat) (g : Sg) : M_X0_becomeLike a b g = some (U_X0_becomeLike a b g) := by
  unfold M_X0_becomeLike U_X0_becomeLike
  first | rfl | ((try dsimp only [lt]); (repeat' split) <;> rfl)
theorem K_X0_becomeLike {l : Launch} {D : va_G} {q : Nat → Nat} {cI : ClassId} {z : Nat} {a : Nat} {b : Nat} (ha : isAl a) (hb : isAl b) (g : Sg) : CTv l (EC z) D cI (cW q cI) yX0_becomeLike cX0_becomeLike 2 1 22 [.ref (q a), .ref (q b)] g (U_X0_becomeLike a b g) := C_X0_becomeLike ha hb (E_X0_becomeLike a b g)
def M_X0_add (a : Nat) (x1 x2 x3 x4 x5 : Int32) (g : Sg) : Option (Int32 × Sg) := (if 7 ≤ (g.1 a) then some (0, g) else (if 40 ≤ x3 then some (0, g) else (if 40 ≤ x4 then some (0, g) else (if x5 < 12 then lt (rput g (a + 2) 7 (g.1 a) x1) (fun g_1 => lt (rput g_1 (a + 3) 7 (g_1.1 a) x2) (fun g_2 => lt (rput g_2 (a + 4) 7 (g_2.1 a) x3) (fun g_3 => lt (rput g_3 (a + 5) 7 (g_3.1 a) x4) (fun g_4 => lt (rput g_4 (a + 6) 7 (g_4.1 a) x5) (fun g_5 => lt (sI g_5 a ((g_5.1 a) + 1)) (fun g_6 => some (1, g_6))))))) else some (0, g)))))
set_option maxRecDepth 100000 in
set_option maxHeartbeats 4000000 in
theorem C_X0_add {l : Launch} {D : va_G} {q : Nat → Nat} {cI : ClassId} {z : Nat} {a : Nat} (ha : isAl a) {x1 x2 x3 x4 x5 : Int32} {g : Sg} {r : Int32 × Sg} (h : M_X0_add a x1 x2 x3 x4 x5 g = some r) : CTi l (EC z) D cI (cW q cI) yX0_add cX0_add 6 (some .boolean) 1 22 [.ref (q a), .int x1, .int x2, .int x3, .int x4, .int x5] g r := by
  refine CTi.of2 (by decide) (EC_ok z) (Nat.le_of_ble_eq_true rfl) rfl (fun p e s m args below meth c A Q C hret => ?_)
  have hM := h
  unfold M_X0_add at hM
  refine J.aload_n (pc := 0) C dX0_add_0 rfl rfl ?_
  refine gf_X0_6 (pc := 1) ha C tf_X0_36 dX0_add_1 ?_
  refine J.bipush (pc := 4) C 7 dX0_add_4 bp_7 ?_
  refine J.icmp_ge (pc := 6) C 29 dX0_add_6 (by decide) (fun hc => ?_) (fun hc => ?_)
  · have hM := ite_t hc hM
    refine J.iconst (pc := 29) C 0 dX0_add_29 ic_0 ?_
    exact hret dX0_add_30 hM (by decide)
  · have hM := ite_f hc hM
    refine J.iload_n (pc := 9) C dX0_add_9 rfl rfl ?_
    refine J.bipush (pc := 10) C 40 dX0_add_10 bp_40 ?_
    refine J.icmp_ge (pc := 12) C 29 dX0_add_12 (by decide) (fun hc => ?_) (fun hc => ?_)
    · have hM := ite_t hc hM
      refine J.iconst (pc := 29) C 0 dX0_add_29 ic_0 ?_
      exact hret dX0_add_30 hM (by decide)
    · have hM := ite_f hc hM
      refine J.iload (pc := 15) C dX0_add_15 rfl ?_
      refine J.bipush (pc := 17) C 40 dX0_add_17 bp_40 ?_
      refine J.icmp_ge (pc := 19) C 29 dX0_add_19 (by decide) (fun hc => ?_) (fun hc => ?_)
      · have hM := ite_t hc hM
        refine J.iconst (pc := 29) C 0 dX0_add_29 ic_0 ?_
        exact hret dX0_add_30 hM (by decide)
      · have hM := ite_f hc hM
        refine J.iload (pc := 22) C dX0_add_22 rfl ?_
        refine J.bipush (pc := 24) C 12 dX0_add_24 bp_12 ?_
        refine J.icmp_lt (pc := 26) C 31 dX0_add_26 (by decide) (fun hc => ?_) (fun hc => ?_)
        · have hM := ite_t hc hM
          refine J.aload_n (pc := 31) C dX0_add_31 rfl rfl ?_
          refine gf_X0_1 (pc := 32) ha C tf_X0_15 dX0_add_32 ?_
          refine J.aload_n (pc := 35) C dX0_add_35 rfl rfl ?_
          refine gf_X0_6 (pc := 36) ha C tf_X0_36 dX0_add_36 ?_
          refine J.iload_n (pc := 39) C dX0_add_39 rfl rfl ?_
          refine J.callS3v (pc := 40) C (K_X4_put (ia_al2 q cI ha) _ _ _) lk_X4_put tm_X0_30 ⟨Nat.le_of_ble_eq_true rfl, Nat.le_of_ble_eq_true rfl⟩ (Nat.le_of_ble_eq_true rfl) dX0_add_40 ?_
          obtain ⟨_, ea, hM⟩ := lt_ex hM
          refine J.cong C ea ?_
          refine J.aload_n (pc := 43) C dX0_add_43 rfl rfl ?_
          refine gf_X0_2 (pc := 44) ha C tf_X0_18 dX0_add_44 ?_
          refine J.aload_n (pc := 47) C dX0_add_47 rfl rfl ?_
          refine gf_X0_6 (pc := 48) ha C tf_X0_36 dX0_add_48 ?_
          refine J.iload_n (pc := 51) C dX0_add_51 rfl rfl ?_
          refine J.callS3v (pc := 52) C (K_X4_put (ia_al3 q cI ha) _ _ _) lk_X4_put tm_X0_30 ⟨Nat.le_of_ble_eq_true rfl, Nat.le_of_ble_eq_true rfl⟩ (Nat.le_of_ble_eq_true rfl) dX0_add_52 ?_
          obtain ⟨_, ea, hM⟩ := lt_ex hM
          refine J.cong C ea ?_
          refine J.aload_n (pc := 55) C dX0_add_55 rfl rfl ?_
          refine gf_X0_3 (pc := 56) ha C tf_X0_21 dX0_add_56 ?_
          refine J.aload_n (pc := 59) C dX0_add_59 rfl rfl ?_
          refine gf_X0_6 (pc := 60) ha C tf_X0_36 dX0_add_60 ?_
          refine J.iload_n (pc := 63) C dX0_add_63 rfl rfl ?_
          refine J.callS3v (pc := 64) C (K_X4_put (ia_al4 q cI ha) _ _ _) lk_X4_put tm_X0_30 ⟨Nat.le_of_ble_eq_true rfl, Nat.le_of_ble_eq_true rfl⟩ (Nat.le_of_ble_eq_true rfl) dX0_add_64 ?_
          obtain ⟨_, ea, hM⟩ := lt_ex hM
          refine J.cong C ea ?_
          refine J.aload_n (pc := 67) C dX0_add_67 rfl rfl ?_
          refine gf_X0_4 (pc := 68) ha C tf_X0_24 dX0_add_68 ?_
          refine J.aload_n (pc := 71) C dX0_add_71 rfl rfl ?_
          refine gf_X0_6 (pc := 72) ha C tf_X0_36 dX0_add_72 ?_
          refine J.iload (pc := 75) C dX0_add_75 rfl ?_
          refine J.callS3v (pc := 77) C (K_X4_put (ia_al5 q cI ha) _ _ _) lk_X4_put tm_X0_30 ⟨Nat.le_of_ble_eq_true rfl, Nat.le_of_ble_eq_true rfl⟩ (Nat.le_of_ble_eq_true rfl) dX0_add_77 ?_
          obtain ⟨_, ea, hM⟩ := lt_ex hM
          refine J.cong C ea ?_
          refine J.aload_n (pc := 80) C dX0_add_80 rfl rfl ?_
          refine gf_X0_5 (pc := 81) ha C tf_X0_27 dX0_add_81 ?_
          refine J.aload_n (pc := 84) C dX0_add_84 rfl rfl ?_
          refine gf_X0_6 (pc := 85) ha C tf_X0_36 dX0_add_85 ?_
          refine J.iload (pc := 88) C dX0_add_88 rfl ?_
          refine J.callS3v (pc := 90) C (K_X4_put (ia_al6 q cI ha) _ _ _) lk_X4_put tm_X0_30 ⟨Nat.le_of_ble_eq_true rfl, Nat.le_of_ble_eq_true rfl⟩ (Nat.le_of_ble_eq_true rfl) dX0_add_90 ?_
          obtain ⟨_, ea, hM⟩ := lt_ex hM
          refine J.cong C ea ?_
          refine J.aload_n (pc := 93) C dX0_add_93 rfl rfl ?_
          refine J.dup (pc := 94) C dX0_add_94 rfl ?_
          refine gf_X0_6 (pc := 95) ha C tf_X0_36 dX0_add_95 ?_
          refine J.iconst (pc := 98) C 1 dX0_add_98 ic_1 ?_
          refine J.iadd (pc := 99) C dX0_add_99 ?_
          refine pf_X0_6 (pc := 100) ha C tf_X0_36 dX0_add_100 ?_
          obtain ⟨_, ea, hM⟩ := lt_ex hM
          refine J.cong C ea ?_
          refine J.iconst (pc := 103) C 1 dX0_add_103 ic_1 ?_
          exact hret dX0_add_104 hM (by decide)
        · have hM := ite_f hc hM
          refine J.iconst (pc := 29) C 0 dX0_add_29 ic_0 ?_
          exact hret dX0_add_30 hM (by decide)
def M_X0_exchangeHours (a : Nat) (x1 x2 : Int32) (g : Sg) : Option (Int32 × Sg) := (if (V_X0_knows a x1 g) = 0 then some (0, g) else (if (V_X0_knows a x2 g) = 0 then some (0, g) else (if x1 = x2 then some (0, g) else lt (U_X4_exchange (a + 6) 7 x1 x2 g) (fun g_1 => some (1, g_1)))))
set_option maxRecDepth 100000 in
set_option maxHeartbeats 4000000 in
theorem C_X0_exchangeHours {l : Launch} {D : va_G} {q : Nat → Nat} {cI : ClassId} {z : Nat} {a : Nat} (ha : isAl a) {x1 x2 : Int32} {g : Sg} {r : Int32 × Sg} (h : M_X0_exchangeHours a x1 x2 g = some r) : CTi l (EC z) D cI (cW q cI) yX0_exchangeHours cX0_exchangeHours 3 (some .boolean) 2 45 [.ref (q a), .int x1, .int x2] g r := by
  refine CTi.of2 (by decide) (EC_ok z) (Nat.le_of_ble_eq_true rfl) rfl (fun p e s m args below meth c A Q C hret => ?_)
  have hM := h
  unfold M_X0_exchangeHours at hM
  refine J.aload_n (pc := 0) C dX0_exchangeHours_0 rfl rfl ?_
  refine J.iload_n (pc := 1) C dX0_exchangeHours_1 rfl rfl ?_
  refine J.callV1i (pc := 2) C (K_X0_knows ha _ _) lk_X0_knows tm_X0_54 (io_al q cI ha) ⟨Nat.le_of_ble_eq_true rfl, Nat.le_of_ble_eq_true rfl⟩ (Nat.le_of_ble_eq_true rfl) dX0_exchangeHours_2 ?_
  refine J.if_eq (pc := 5) C 21 dX0_exchangeHours_5 (by decide) (fun hc => ?_) (fun hc => ?_)
  · have hM := ite_t hc hM
    refine J.iconst (pc := 21) C 0 dX0_exchangeHours_21 ic_0 ?_
    exact hret dX0_exchangeHours_22 hM (by decide)
  · have hM := ite_f hc hM
    refine J.aload_n (pc := 8) C dX0_exchangeHours_8 rfl rfl ?_
    refine J.iload_n (pc := 9) C dX0_exchangeHours_9 rfl rfl ?_
    refine J.callV1i (pc := 10) C (K_X0_knows ha _ _) lk_X0_knows tm_X0_54 (io_al q cI ha) ⟨Nat.le_of_ble_eq_true rfl, Nat.le_of_ble_eq_true rfl⟩ (Nat.le_of_ble_eq_true rfl) dX0_exchangeHours_10 ?_
    refine J.if_eq (pc := 13) C 21 dX0_exchangeHours_13 (by decide) (fun hc => ?_) (fun hc => ?_)
    · have hM := ite_t hc hM
      refine J.iconst (pc := 21) C 0 dX0_exchangeHours_21 ic_0 ?_
      exact hret dX0_exchangeHours_22 hM (by decide)
    · have hM := ite_f hc hM
      refine J.iload_n (pc := 16) C dX0_exchangeHours_16 rfl rfl ?_
      refine J.iload_n (pc := 17) C dX0_exchangeHours_17 rfl rfl ?_
      refine J.icmp_ne (pc := 18) C 23 dX0_exchangeHours_18 (by decide) (fun hc => ?_) (fun hc => ?_)
      · have hM := ite_f hc hM
        refine J.aload_n (pc := 23) C dX0_exchangeHours_23 rfl rfl ?_
        refine gf_X0_5 (pc := 24) ha C tf_X0_27 dX0_exchangeHours_24 ?_
        refine J.iload_n (pc := 27) C dX0_exchangeHours_27 rfl rfl ?_
        refine J.iload_n (pc := 28) C dX0_exchangeHours_28 rfl rfl ?_
        refine J.callS3v (pc := 29) C (K_X4_exchange (ia_al6 q cI ha) _ _ _) lk_X4_exchange tm_X0_58 ⟨Nat.le_of_ble_eq_true rfl, Nat.le_of_ble_eq_true rfl⟩ (Nat.le_of_ble_eq_true rfl) dX0_exchangeHours_29 ?_
        obtain ⟨_, ea, hM⟩ := lt_ex hM
        refine J.cong C ea ?_
        refine J.iconst (pc := 32) C 1 dX0_exchangeHours_32 ic_1 ?_
        exact hret dX0_exchangeHours_33 hM (by decide)
      · have hM := ite_t hc hM
        refine J.iconst (pc := 21) C 0 dX0_exchangeHours_21 ic_0 ?_
        exact hret dX0_exchangeHours_22 hM (by decide)
def M_X0_changeHour (a : Nat) (x1 x2 : Int32) (g : Sg) : Option (Int32 × Sg) := (if (V_X0_knows a x1 g) = 0 then some (0, g) else (if x2 < 12 then lt (rput g (a + 6) 7 x1 x2) (fun g_1 => some (1, g_1)) else some (0, g)))
set_option maxRecDepth 100000 in
set_option maxHeartbeats 4000000 in
theorem C_X0_changeHour {l : Launch} {D : va_G} {q : Nat → Nat} {cI : ClassId} {z : Nat} {a : Nat} (ha : isAl a) {x1 x2 : Int32} {g : Sg} {r : Int32 × Sg} (h : M_X0_changeHour a x1 x2 g = some r) : CTi l (EC z) D cI (cW q cI) yX0_changeHour cX0_changeHour 3 (some .boolean) 1 22 [.ref (q a), .int x1, .int x2] g r := by
  refine CTi.of2 (by decide) (EC_ok z) (Nat.le_of_ble_eq_true rfl) rfl (fun p e s m args below meth c A Q C hret => ?_)
  have hM := h
  unfold M_X0_changeHour at hM
  refine J.aload_n (pc := 0) C dX0_changeHour_0 rfl rfl ?_
  refine J.iload_n (pc := 1) C dX0_changeHour_1 rfl rfl ?_
  refine J.callV1i (pc := 2) C (K_X0_knows ha _ _) lk_X0_knows tm_X0_54 (io_al q cI ha) ⟨Nat.le_of_ble_eq_true rfl, Nat.le_of_ble_eq_true rfl⟩ (Nat.le_of_ble_eq_true rfl) dX0_changeHour_2 ?_
  refine J.if_eq (pc := 5) C 14 dX0_changeHour_5 (by decide) (fun hc => ?_) (fun hc => ?_)
  · have hM := ite_t hc hM
    refine J.iconst (pc := 14) C 0 dX0_changeHour_14 ic_0 ?_
    exact hret dX0_changeHour_15 hM (by decide)
  · have hM := ite_f hc hM
    refine J.iload_n (pc := 8) C dX0_changeHour_8 rfl rfl ?_
    refine J.bipush (pc := 9) C 12 dX0_changeHour_9 bp_12 ?_
    refine J.icmp_lt (pc := 11) C 16 dX0_changeHour_11 (by decide) (fun hc => ?_) (fun hc => ?_)
    · have hM := ite_t hc hM
      refine J.aload_n (pc := 16) C dX0_changeHour_16 rfl rfl ?_
      refine gf_X0_5 (pc := 17) ha C tf_X0_27 dX0_changeHour_17 ?_
      refine J.iload_n (pc := 20) C dX0_changeHour_20 rfl rfl ?_
      refine J.iload_n (pc := 21) C dX0_changeHour_21 rfl rfl ?_
      refine J.callS3v (pc := 22) C (K_X4_put (ia_al6 q cI ha) _ _ _) lk_X4_put tm_X0_30 ⟨Nat.le_of_ble_eq_true rfl, Nat.le_of_ble_eq_true rfl⟩ (Nat.le_of_ble_eq_true rfl) dX0_changeHour_22 ?_
      obtain ⟨_, ea, hM⟩ := lt_ex hM
      refine J.cong C ea ?_
      refine J.iconst (pc := 25) C 1 dX0_changeHour_25 ic_1 ?_
      exact hret dX0_changeHour_26 hM (by decide)
    · have hM := ite_f hc hM
      refine J.iconst (pc := 14) C 0 dX0_changeHour_14 ic_0 ?_
      exact hret dX0_changeHour_15 hM (by decide)
def B_X0_sendHome_108 (a : Nat) (x1 : Int32) (g : Sg) : Option Sg := (if (V_X0_knows a x1 g) = 0 then some g else lt (sI g a ((g.1 a) - 1)) (fun g_6 => some g_6))
def B_X0_sendHome_2 (a : Nat) (kb2 : Int32 → Int32 → Sg → Option Sg) (x1 x2 : Int32) (g : Sg) : Option Sg := (if ((g.1 a) - 1) ≤ x2 then B_X0_sendHome_108 a x1 g else lt (rput g (a + 2) 7 x2 (rat g (a + 2) 7 (x2 + 1))) (fun g_1 => lt (rput g_1 (a + 3) 7 x2 (rat g_1 (a + 3) 7 (x2 + 1))) (fun g_2 => lt (rput g_2 (a + 4) 7 x2 (rat g_2 (a + 4) 7 (x2 + 1))) (fun g_3 => lt (rput g_3 (a + 5) 7 x2 (rat g_3 (a + 5) 7 (x2 + 1))) (fun g_4 => lt (rput g_4 (a + 6) 7 x2 (rat g_4 (a + 6) 7 (x2 + 1))) (fun g_5 => kb2 x1 (x2 + 1) g_5))))))
def M_X0_sendHome (a : Nat) (x1 : Int32) (g : Sg) : Option Sg := lup2 (B_X0_sendHome_2 a ) FU x1 x1 g
set_option maxRecDepth 100000 in
set_option maxHeartbeats 4000000 in
theorem C_X0_sendHome {l : Launch} {D : va_G} {q : Nat → Nat} {cI : ClassId} {z : Nat} {a : Nat} (ha : isAl a) {x1 : Int32} {g : Sg} {r : Sg} (h : M_X0_sendHome a x1 g = some r) : CTv l (EC z) D cI (cW q cI) yX0_sendHome cX0_sendHome 3 1 22 [.ref (q a), .int x1] g r := by
  refine CTv.of2 (by decide) (EC_ok z) (Nat.le_of_ble_eq_true rfl) rfl (fun p e s m args below meth c A Q C hret => ?_)
  have jb108 : ∀ (x1 : Int32) (g : Sg), B_X0_sendHome_108 a x1 g = some r → J p l e (RM 1 22) s m args below meth c D (cW q cI) A 3 Q g 108 [(0, .ref (q a)), (1, .int x1)] [] := by
    intro x1 g hM
    unfold B_X0_sendHome_108 at hM
    refine J.aload_n (pc := 108) C dX0_sendHome_108 rfl rfl ?_
    refine J.iload_n (pc := 109) C dX0_sendHome_109 rfl rfl ?_
    refine J.callV1i (pc := 110) C (K_X0_knows ha _ _) lk_X0_knows tm_X0_54 (io_al q cI ha) ⟨Nat.le_of_ble_eq_true rfl, Nat.le_of_ble_eq_true rfl⟩ (Nat.le_of_ble_eq_true rfl) dX0_sendHome_110 ?_
    refine J.if_eq (pc := 113) C 126 dX0_sendHome_113 (by decide) (fun hc => ?_) (fun hc => ?_)
    · have hM := ite_t hc hM
      exact hret dX0_sendHome_126 hM
    · have hM := ite_f hc hM
      refine J.aload_n (pc := 116) C dX0_sendHome_116 rfl rfl ?_
      refine J.dup (pc := 117) C dX0_sendHome_117 rfl ?_
      refine gf_X0_6 (pc := 118) ha C tf_X0_36 dX0_sendHome_118 ?_
      refine J.iconst (pc := 121) C 1 dX0_sendHome_121 ic_1 ?_
      refine J.isub (pc := 122) C dX0_sendHome_122 ?_
      refine pf_X0_6 (pc := 123) ha C tf_X0_36 dX0_sendHome_123 ?_
      obtain ⟨_, ea, hM⟩ := lt_ex hM
      refine J.cong C ea ?_
      exact hret dX0_sendHome_126 hM
  have jb2 : ∀ (kb2 : Int32 → Int32 → Sg → Option Sg) (hkb2 : ∀ (x1 x2 : Int32) (g : Sg), kb2 x1 x2 g = some r → J p l e (RM 1 22) s m args below meth c D (cW q cI) A 3 Q g 2 [(0, .ref (q a)), (1, .int x1), (2, .int x2)] []) (x1 x2 : Int32) (g : Sg), B_X0_sendHome_2 a kb2 x1 x2 g = some r → J p l e (RM 1 22) s m args below meth c D (cW q cI) A 3 Q g 2 [(0, .ref (q a)), (1, .int x1), (2, .int x2)] [] := by
    intro kb2 hkb2 x1 x2 g hM
    unfold B_X0_sendHome_2 at hM
    refine J.iload_n (pc := 2) C dX0_sendHome_2 rfl rfl ?_
    refine J.aload_n (pc := 3) C dX0_sendHome_3 rfl rfl ?_
    refine gf_X0_6 (pc := 4) ha C tf_X0_36 dX0_sendHome_4 ?_
    refine J.iconst (pc := 7) C 1 dX0_sendHome_7 ic_1 ?_
    refine J.isub (pc := 8) C dX0_sendHome_8 ?_
    refine J.icmp_ge (pc := 9) C 108 dX0_sendHome_9 (by decide) (fun hc => ?_) (fun hc => ?_)
    · have hM := ite_t hc hM
      refine J.sub C [0, 1] rfl ?_
      exact jb108 _ _ hM
    · have hM := ite_f hc hM
      refine J.aload_n (pc := 12) C dX0_sendHome_12 rfl rfl ?_
      refine gf_X0_1 (pc := 13) ha C tf_X0_15 dX0_sendHome_13 ?_
      refine J.iload_n (pc := 16) C dX0_sendHome_16 rfl rfl ?_
      refine J.aload_n (pc := 17) C dX0_sendHome_17 rfl rfl ?_
      refine gf_X0_1 (pc := 18) ha C tf_X0_15 dX0_sendHome_18 ?_
      refine J.iload_n (pc := 21) C dX0_sendHome_21 rfl rfl ?_
      refine J.iconst (pc := 22) C 1 dX0_sendHome_22 ic_1 ?_
      refine J.iadd (pc := 23) C dX0_sendHome_23 ?_
      refine J.callS2i (pc := 24) C (K_X4_at (ia_al2 q cI ha) _ _) lk_X4_at tm_X0_47 ⟨Nat.le_of_ble_eq_true rfl, Nat.le_of_ble_eq_true rfl⟩ (Nat.le_of_ble_eq_true rfl) dX0_sendHome_24 ?_
      refine J.callS3v (pc := 27) C (K_X4_put (ia_al2 q cI ha) _ _ _) lk_X4_put tm_X0_30 ⟨Nat.le_of_ble_eq_true rfl, Nat.le_of_ble_eq_true rfl⟩ (Nat.le_of_ble_eq_true rfl) dX0_sendHome_27 ?_
      obtain ⟨_, ea, hM⟩ := lt_ex hM
      refine J.cong C ea ?_
      refine J.aload_n (pc := 30) C dX0_sendHome_30 rfl rfl ?_
      refine gf_X0_2 (pc := 31) ha C tf_X0_18 dX0_sendHome_31 ?_
      refine J.iload_n (pc := 34) C dX0_sendHome_34 rfl rfl ?_
      refine J.aload_n (pc := 35) C dX0_sendHome_35 rfl rfl ?_
      refine gf_X0_2 (pc := 36) ha C tf_X0_18 dX0_sendHome_36 ?_
      refine J.iload_n (pc := 39) C dX0_sendHome_39 rfl rfl ?_
      refine J.iconst (pc := 40) C 1 dX0_sendHome_40 ic_1 ?_
      refine J.iadd (pc := 41) C dX0_sendHome_41 ?_
      refine J.callS2i (pc := 42) C (K_X4_at (ia_al3 q cI ha) _ _) lk_X4_at tm_X0_47 ⟨Nat.le_of_ble_eq_true rfl, Nat.le_of_ble_eq_true rfl⟩ (Nat.le_of_ble_eq_true rfl) dX0_sendHome_42 ?_
      refine J.callS3v (pc := 45) C (K_X4_put (ia_al3 q cI ha) _ _ _) lk_X4_put tm_X0_30 ⟨Nat.le_of_ble_eq_true rfl, Nat.le_of_ble_eq_true rfl⟩ (Nat.le_of_ble_eq_true rfl) dX0_sendHome_45 ?_
      obtain ⟨_, ea, hM⟩ := lt_ex hM
      refine J.cong C ea ?_
      refine J.aload_n (pc := 48) C dX0_sendHome_48 rfl rfl ?_
      refine gf_X0_3 (pc := 49) ha C tf_X0_21 dX0_sendHome_49 ?_
      refine J.iload_n (pc := 52) C dX0_sendHome_52 rfl rfl ?_
      refine J.aload_n (pc := 53) C dX0_sendHome_53 rfl rfl ?_
      refine gf_X0_3 (pc := 54) ha C tf_X0_21 dX0_sendHome_54 ?_
      refine J.iload_n (pc := 57) C dX0_sendHome_57 rfl rfl ?_
      refine J.iconst (pc := 58) C 1 dX0_sendHome_58 ic_1 ?_
      refine J.iadd (pc := 59) C dX0_sendHome_59 ?_
      refine J.callS2i (pc := 60) C (K_X4_at (ia_al4 q cI ha) _ _) lk_X4_at tm_X0_47 ⟨Nat.le_of_ble_eq_true rfl, Nat.le_of_ble_eq_true rfl⟩ (Nat.le_of_ble_eq_true rfl) dX0_sendHome_60 ?_
      refine J.callS3v (pc := 63) C (K_X4_put (ia_al4 q cI ha) _ _ _) lk_X4_put tm_X0_30 ⟨Nat.le_of_ble_eq_true rfl, Nat.le_of_ble_eq_true rfl⟩ (Nat.le_of_ble_eq_true rfl) dX0_sendHome_63 ?_
      obtain ⟨_, ea, hM⟩ := lt_ex hM
      refine J.cong C ea ?_
      refine J.aload_n (pc := 66) C dX0_sendHome_66 rfl rfl ?_
      refine gf_X0_4 (pc := 67) ha C tf_X0_24 dX0_sendHome_67 ?_
      refine J.iload_n (pc := 70) C dX0_sendHome_70 rfl rfl ?_
      refine J.aload_n (pc := 71) C dX0_sendHome_71 rfl rfl ?_
      refine gf_X0_4 (pc := 72) ha C tf_X0_24 dX0_sendHome_72 ?_
      refine J.iload_n (pc := 75) C dX0_sendHome_75 rfl rfl ?_
      refine J.iconst (pc := 76) C 1 dX0_sendHome_76 ic_1 ?_
      refine J.iadd (pc := 77) C dX0_sendHome_77 ?_
      refine J.callS2i (pc := 78) C (K_X4_at (ia_al5 q cI ha) _ _) lk_X4_at tm_X0_47 ⟨Nat.le_of_ble_eq_true rfl, Nat.le_of_ble_eq_true rfl⟩ (Nat.le_of_ble_eq_true rfl) dX0_sendHome_78 ?_
      refine J.callS3v (pc := 81) C (K_X4_put (ia_al5 q cI ha) _ _ _) lk_X4_put tm_X0_30 ⟨Nat.le_of_ble_eq_true rfl, Nat.le_of_ble_eq_true rfl⟩ (Nat.le_of_ble_eq_true rfl) dX0_sendHome_81 ?_
      obtain ⟨_, ea, hM⟩ := lt_ex hM
      refine J.cong C ea ?_
      refine J.aload_n (pc := 84) C dX0_sendHome_84 rfl rfl ?_
      refine gf_X0_5 (pc := 85) ha C tf_X0_27 dX0_sendHome_85 ?_
      refine J.iload_n (pc := 88) C dX0_sendHome_88 rfl rfl ?_
      refine J.aload_n (pc := 89) C dX0_sendHome_89 rfl rfl ?_
      refine gf_X0_5 (pc := 90) ha C tf_X0_27 dX0_sendHome_90 ?_
      refine J.iload_n (pc := 93) C dX0_sendHome_93 rfl rfl ?_
      refine J.iconst (pc := 94) C 1 dX0_sendHome_94 ic_1 ?_
      refine J.iadd (pc := 95) C dX0_sendHome_95 ?_
      refine J.callS2i (pc := 96) C (K_X4_at (ia_al6 q cI ha) _ _) lk_X4_at tm_X0_47 ⟨Nat.le_of_ble_eq_true rfl, Nat.le_of_ble_eq_true rfl⟩ (Nat.le_of_ble_eq_true rfl) dX0_sendHome_96 ?_
      refine J.callS3v (pc := 99) C (K_X4_put (ia_al6 q cI ha) _ _ _) lk_X4_put tm_X0_30 ⟨Nat.le_of_ble_eq_true rfl, Nat.le_of_ble_eq_true rfl⟩ (Nat.le_of_ble_eq_true rfl) dX0_sendHome_99 ?_
      obtain ⟨_, ea, hM⟩ := lt_ex hM
      refine J.cong C ea ?_
      refine J.iinc (pc := 102) C 1 dX0_sendHome_102 ic_1 rfl (by decide) ?_
      refine J.goto (pc := 105) C 2 dX0_sendHome_105 (by decide) ?_
      refine J.sub C [0, 1, 2] rfl ?_
      exact hkb2 _ _ _ hM
  have jl2 : ∀ (x1 x2 : Int32) (g : Sg), lup2 (B_X0_sendHome_2 a) FU x1 x2 g = some r → J p l e (RM 1 22) s m args below meth c D (cW q cI) A 3 Q g 2 [(0, .ref (q a)), (1, .int x1), (2, .int x2)] [] := 
    lup2_ok (P := fun x1 x2 g => J p l e (RM 1 22) s m args below meth c D (cW q cI) A 3 Q g 2 [(0, .ref (q a)), (1, .int x1), (2, .int x2)] []) (fun self hself => jb2 self hself) FU
  have hM := h
  unfold M_X0_sendHome at hM
  refine J.iload_n (pc := 0) C dX0_sendHome_0 rfl rfl ?_
  refine J.istore_n (pc := 1) C dX0_sendHome_1 rfl (by decide) ?_
  refine J.sub C [0, 1, 2] rfl ?_
  exact jl2 _ _ _ hM
def B_X0_drawHours_4 (a : Nat) (kb4 : Int32 → Int32 → Sg → Option (Int32 × Sg)) (x2 x3 : Int32) (g : Sg) : Option (Int32 × Sg) := (if (g.1 a) ≤ x3 then some (x2, g) else lt (rput g (a + 6) 7 x3 (((((x2 * 1664525) + 1013904223) &&& 2147483647) / 256) - ((((x2 * 1664525) + 1013904223) &&& 2147483647) / 256) / 12 * 12)) (fun g_1 => kb4 ((x2 * 1664525) + 1013904223) (x3 + 1) g_1))
def M_X0_drawHours (a : Nat) (x1 : Int32) (g : Sg) : Option (Int32 × Sg) := lup2 (B_X0_drawHours_4 a ) FU x1 0 g
set_option maxRecDepth 100000 in
set_option maxHeartbeats 4000000 in
theorem C_X0_drawHours {l : Launch} {D : va_G} {q : Nat → Nat} {cI : ClassId} {z : Nat} {a : Nat} (ha : isAl a) {x1 : Int32} {g : Sg} {r : Int32 × Sg} (h : M_X0_drawHours a x1 g = some r) : CTi l (EC z) D cI (cW q cI) yX0_drawHours cX0_drawHours 4 (some .int) 1 22 [.ref (q a), .int x1] g r := by
  refine CTi.of2 (by decide) (EC_ok z) (Nat.le_of_ble_eq_true rfl) rfl (fun p e s m args below meth c A Q C hret => ?_)
  have jb4 : ∀ (kb4 : Int32 → Int32 → Sg → Option (Int32 × Sg)) (hkb4 : ∀ (x2 x3 : Int32) (g : Sg), kb4 x2 x3 g = some r → J p l e (RM 1 22) s m args below meth c D (cW q cI) A 4 Q g 4 [(0, .ref (q a)), (2, .int x2), (3, .int x3)] []) (x2 x3 : Int32) (g : Sg), B_X0_drawHours_4 a kb4 x2 x3 g = some r → J p l e (RM 1 22) s m args below meth c D (cW q cI) A 4 Q g 4 [(0, .ref (q a)), (2, .int x2), (3, .int x3)] [] := by
    intro kb4 hkb4 x2 x3 g hM
    unfold B_X0_drawHours_4 at hM
    refine J.iload_n (pc := 4) C dX0_drawHours_4 rfl rfl ?_
    refine J.aload_n (pc := 5) C dX0_drawHours_5 rfl rfl ?_
    refine gf_X0_6 (pc := 6) ha C tf_X0_36 dX0_drawHours_6 ?_
    refine J.icmp_ge (pc := 9) C 45 dX0_drawHours_9 (by decide) (fun hc => ?_) (fun hc => ?_)
    · have hM := ite_t hc hM
      refine J.iload_n (pc := 45) C dX0_drawHours_45 rfl rfl ?_
      exact hret dX0_drawHours_46 hM rfl
    · have hM := ite_f hc hM
      refine J.iload_n (pc := 12) C dX0_drawHours_12 rfl rfl ?_
      refine J.ldc (pc := 13) C tc_X0_61 dX0_drawHours_13 ?_
      refine J.imul (pc := 15) C dX0_drawHours_15 ?_
      refine J.ldc (pc := 16) C tc_X0_62 dX0_drawHours_16 ?_
      refine J.iadd (pc := 18) C dX0_drawHours_18 ?_
      refine J.istore_n (pc := 19) C dX0_drawHours_19 rfl (by decide) ?_
      refine J.aload_n (pc := 20) C dX0_drawHours_20 rfl rfl ?_
      refine gf_X0_5 (pc := 21) ha C tf_X0_27 dX0_drawHours_21 ?_
      refine J.iload_n (pc := 24) C dX0_drawHours_24 rfl rfl ?_
      refine J.iload_n (pc := 25) C dX0_drawHours_25 rfl rfl ?_
      refine J.ldc (pc := 26) C tc_X0_65 dX0_drawHours_26 ?_
      refine J.iand (pc := 28) C dX0_drawHours_28 ?_
      refine J.sipush (pc := 29) C 256 dX0_drawHours_29 sp_256 ?_
      refine J.idiv (pc := 32) C dX0_drawHours_32 (by decide) ?_
      refine J.bipush (pc := 33) C 12 dX0_drawHours_33 bp_12 ?_
      refine J.irem (pc := 35) C dX0_drawHours_35 (by decide) ?_
      refine J.callS3v (pc := 36) C (K_X4_put (ia_al6 q cI ha) _ _ _) lk_X4_put tm_X0_30 ⟨Nat.le_of_ble_eq_true rfl, Nat.le_of_ble_eq_true rfl⟩ (Nat.le_of_ble_eq_true rfl) dX0_drawHours_36 ?_
      obtain ⟨_, ea, hM⟩ := lt_ex hM
      refine J.cong C ea ?_
      refine J.iinc (pc := 39) C 1 dX0_drawHours_39 ic_1 rfl (by decide) ?_
      refine J.goto (pc := 42) C 4 dX0_drawHours_42 (by decide) ?_
      refine J.sub C [0, 2, 3] rfl ?_
      exact hkb4 _ _ _ hM
  have jl4 : ∀ (x2 x3 : Int32) (g : Sg), lup2 (B_X0_drawHours_4 a) FU x2 x3 g = some r → J p l e (RM 1 22) s m args below meth c D (cW q cI) A 4 Q g 4 [(0, .ref (q a)), (2, .int x2), (3, .int x3)] [] := 
    lup2_ok (P := fun x2 x3 g => J p l e (RM 1 22) s m args below meth c D (cW q cI) A 4 Q g 4 [(0, .ref (q a)), (2, .int x2), (3, .int x3)] []) (fun self hself => jb4 self hself) FU
  have hM := h
  unfold M_X0_drawHours at hM
  refine J.iload_n (pc := 0) C dX0_drawHours_0 rfl rfl ?_
  refine J.istore_n (pc := 1) C dX0_drawHours_1 rfl (by decide) ?_
  refine J.iconst (pc := 2) C 0 dX0_drawHours_2 ic_0 ?_
  refine J.istore_n (pc := 3) C dX0_drawHours_3 rfl (by decide) ?_
  refine J.sub C [0, 2, 3] rfl ?_
  exact jl4 _ _ _ hM
def M_X0_stepsOf (a : Nat) (x1 : Int32) (g : Sg) : Option (Int32 × Sg) := some (iabs ((rat g (a + 4) 7 x1) - (rat g (a + 5) 7 x1)), g)
set_option maxRecDepth 100000 in
set_option maxHeartbeats 4000000 in
theorem C_X0_stepsOf {l : Launch} {D : va_G} {q : Nat → Nat} {cI : ClassId} {z : Nat} {a : Nat} (ha : isAl a) {x1 : Int32} {g : Sg} {r : Int32 × Sg} (h : M_X0_stepsOf a x1 g = some r) : CTi l (EC z) D cI (cW q cI) yX0_stepsOf cX0_stepsOf 2 (some .int) 1 24 [.ref (q a), .int x1] g r := by
  refine CTi.of2 (by decide) (EC_ok z) (Nat.le_of_ble_eq_true rfl) rfl (fun p e s m args below meth c A Q C hret => ?_)
  have hM := h
  unfold M_X0_stepsOf at hM
  refine J.aload_n (pc := 0) C dX0_stepsOf_0 rfl rfl ?_
  refine gf_X0_3 (pc := 1) ha C tf_X0_21 dX0_stepsOf_1 ?_
  refine J.iload_n (pc := 4) C dX0_stepsOf_4 rfl rfl ?_
  refine J.callS2i (pc := 5) C (K_X4_at (ia_al4 q cI ha) _ _) lk_X4_at tm_X0_47 ⟨Nat.le_of_ble_eq_true rfl, Nat.le_of_ble_eq_true rfl⟩ (Nat.le_of_ble_eq_true rfl) dX0_stepsOf_5 ?_
  refine J.aload_n (pc := 8) C dX0_stepsOf_8 rfl rfl ?_
  refine gf_X0_4 (pc := 9) ha C tf_X0_24 dX0_stepsOf_9 ?_
  refine J.iload_n (pc := 12) C dX0_stepsOf_12 rfl rfl ?_
  refine J.callS2i (pc := 13) C (K_X4_at (ia_al5 q cI ha) _ _) lk_X4_at tm_X0_47 ⟨Nat.le_of_ble_eq_true rfl, Nat.le_of_ble_eq_true rfl⟩ (Nat.le_of_ble_eq_true rfl) dX0_stepsOf_13 ?_
  refine J.isub (pc := 16) C dX0_stepsOf_16 ?_
  refine J.mabs (pc := 17) C tm_X0_66 (Nat.le_of_ble_eq_true rfl) (Nat.le_of_ble_eq_true rfl) dX0_stepsOf_17 ?_
  exact hret dX0_stepsOf_20 hM rfl
def V_X0_stepsOf (a : Nat) (x1 : Int32) (g : Sg) : Int32 := iabs ((rat g (a + 4) 7 x1) - (rat g (a + 5) 7 x1))
theorem E_X0_stepsOf (a : Nat) (x1 : Int32) (g : Sg) : M_X0_stepsOf a x1 g = some (V_X0_stepsOf a x1 g, g) := by
  unfold M_X0_stepsOf V_X0_stepsOf
  first | rfl | ((try dsimp only [lt]); (repeat' split) <;> rfl)
theorem K_X0_stepsOf {l : Launch} {D : va_G} {q : Nat → Nat} {cI : ClassId} {z : Nat} {a : Nat} (ha : isAl a) (x1 : Int32) (g : Sg) : CTi l (EC z) D cI (cW q cI) yX0_stepsOf cX0_stepsOf 2 (some .int) 1 24 [.ref (q a), .int x1] g (V_X0_stepsOf a x1 g, g) := C_X0_stepsOf ha (E_X0_stepsOf a x1 g)
def B_X0_allSteps_4 (a : Nat) (kb4 : Int32 → Int32 → Sg → Option (Int32 × Sg)) (x1 x2 : Int32) (g : Sg) : Option (Int32 × Sg) := (if (g.1 a) ≤ x2 then some (x1, g) else lt (x1 + (V_X0_stepsOf a x2 g)) (fun x1_1 => kb4 x1_1 (x2 + 1) g))
def M_X0_allSteps (a : Nat) (g : Sg) : Option (Int32 × Sg) := lup2 (B_X0_allSteps_4 a ) FU 0 0 g
set_option maxRecDepth 100000 in
set_option maxHeartbeats 4000000 in
theorem C_X0_allSteps {l : Launch} {D : va_G} {q : Nat → Nat} {cI : ClassId} {z : Nat} {a : Nat} (ha : isAl a) {g : Sg} {r : Int32 × Sg} (h : M_X0_allSteps a g = some r) : CTi l (EC z) D cI (cW q cI) yX0_allSteps cX0_allSteps 3 (some .int) 2 45 [.ref (q a)] g r := by
  refine CTi.of2 (by decide) (EC_ok z) (Nat.le_of_ble_eq_true rfl) rfl (fun p e s m args below meth c A Q C hret => ?_)
  have jb4 : ∀ (kb4 : Int32 → Int32 → Sg → Option (Int32 × Sg)) (hkb4 : ∀ (x1 x2 : Int32) (g : Sg), kb4 x1 x2 g = some r → J p l e (RM 2 45) s m args below meth c D (cW q cI) A 3 Q g 4 [(0, .ref (q a)), (1, .int x1), (2, .int x2)] []) (x1 x2 : Int32) (g : Sg), B_X0_allSteps_4 a kb4 x1 x2 g = some r → J p l e (RM 2 45) s m args below meth c D (cW q cI) A 3 Q g 4 [(0, .ref (q a)), (1, .int x1), (2, .int x2)] [] := by
    intro kb4 hkb4 x1 x2 g hM
    unfold B_X0_allSteps_4 at hM
    refine J.iload_n (pc := 4) C dX0_allSteps_4 rfl rfl ?_
    refine J.aload_n (pc := 5) C dX0_allSteps_5 rfl rfl ?_
    refine gf_X0_6 (pc := 6) ha C tf_X0_36 dX0_allSteps_6 ?_
    refine J.icmp_ge (pc := 9) C 26 dX0_allSteps_9 (by decide) (fun hc => ?_) (fun hc => ?_)
    · have hM := ite_t hc hM
      refine J.iload_n (pc := 26) C dX0_allSteps_26 rfl rfl ?_
      exact hret dX0_allSteps_27 hM rfl
    · have hM := ite_f hc hM
      refine J.iload_n (pc := 12) C dX0_allSteps_12 rfl rfl ?_
      refine J.aload_n (pc := 13) C dX0_allSteps_13 rfl rfl ?_
      refine J.iload_n (pc := 14) C dX0_allSteps_14 rfl rfl ?_
      refine J.callV1i (pc := 15) C (K_X0_stepsOf ha _ _) lk_X0_stepsOf tm_X0_72 (io_al q cI ha) ⟨Nat.le_of_ble_eq_true rfl, Nat.le_of_ble_eq_true rfl⟩ (Nat.le_of_ble_eq_true rfl) dX0_allSteps_15 ?_
      refine J.iadd (pc := 18) C dX0_allSteps_18 ?_
      obtain ⟨_, ea, hM⟩ := lt_ex hM
      refine J.istore_nV (pc := 19) C dX0_allSteps_19 rfl (by decide) ea ?_
      refine J.iinc (pc := 20) C 1 dX0_allSteps_20 ic_1 rfl (by decide) ?_
      refine J.goto (pc := 23) C 4 dX0_allSteps_23 (by decide) ?_
      refine J.sub C [0, 1, 2] rfl ?_
      exact hkb4 _ _ _ hM
  have jl4 : ∀ (x1 x2 : Int32) (g : Sg), lup2 (B_X0_allSteps_4 a) FU x1 x2 g = some r → J p l e (RM 2 45) s m args below meth c D (cW q cI) A 3 Q g 4 [(0, .ref (q a)), (1, .int x1), (2, .int x2)] [] := 
    lup2_ok (P := fun x1 x2 g => J p l e (RM 2 45) s m args below meth c D (cW q cI) A 3 Q g 4 [(0, .ref (q a)), (1, .int x1), (2, .int x2)] []) (fun self hself => jb4 self hself) FU
  have hM := h
  unfold M_X0_allSteps at hM
  refine J.iconst (pc := 0) C 0 dX0_allSteps_0 ic_0 ?_
  refine J.istore_n (pc := 1) C dX0_allSteps_1 rfl (by decide) ?_
  refine J.iconst (pc := 2) C 0 dX0_allSteps_2 ic_0 ?_
  refine J.istore_n (pc := 3) C dX0_allSteps_3 rfl (by decide) ?_
  refine J.sub C [0, 1, 2] rfl ?_
  exact jl4 _ _ _ hM
def B_X0_anybodyWithin_2 (a : Nat) (kb2 : Int32 → Int32 → Int32 → Sg → Option (Int32 × Sg)) (x1 x2 x3 : Int32) (g : Sg) : Option (Int32 × Sg) := (if (g.1 a) ≤ x3 then some (0, g) else (if (iabs ((rat g (a + 4) 7 x3) - x2)) ≤ x1 then some (1, g) else (if x1 < (iabs ((rat g (a + 5) 7 x3) - x2)) then kb2 x1 x2 (x3 + 1) g else some (1, g))))
def M_X0_anybodyWithin (a : Nat) (x1 x2 : Int32) (g : Sg) : Option (Int32 × Sg) := lup3 (B_X0_anybodyWithin_2 a ) FU x1 x2 0 g
set_option maxRecDepth 100000 in
set_option maxHeartbeats 4000000 in
theorem C_X0_anybodyWithin {l : Launch} {D : va_G} {q : Nat → Nat} {cI : ClassId} {z : Nat} {a : Nat} (ha : isAl a) {x1 x2 : Int32} {g : Sg} {r : Int32 × Sg} (h : M_X0_anybodyWithin a x1 x2 g = some r) : CTi l (EC z) D cI (cW q cI) yX0_anybodyWithin cX0_anybodyWithin 4 (some .boolean) 1 24 [.ref (q a), .int x1, .int x2] g r := by
  refine CTi.of2 (by decide) (EC_ok z) (Nat.le_of_ble_eq_true rfl) rfl (fun p e s m args below meth c A Q C hret => ?_)
  have jb2 : ∀ (kb2 : Int32 → Int32 → Int32 → Sg → Option (Int32 × Sg)) (hkb2 : ∀ (x1 x2 x3 : Int32) (g : Sg), kb2 x1 x2 x3 g = some r → J p l e (RM 1 24) s m args below meth c D (cW q cI) A 4 Q g 2 [(0, .ref (q a)), (1, .int x1), (2, .int x2), (3, .int x3)] []) (x1 x2 x3 : Int32) (g : Sg), B_X0_anybodyWithin_2 a kb2 x1 x2 x3 g = some r → J p l e (RM 1 24) s m args below meth c D (cW q cI) A 4 Q g 2 [(0, .ref (q a)), (1, .int x1), (2, .int x2), (3, .int x3)] [] := by
    intro kb2 hkb2 x1 x2 x3 g hM
    unfold B_X0_anybodyWithin_2 at hM
    refine J.iload_n (pc := 2) C dX0_anybodyWithin_2 rfl rfl ?_
    refine J.aload_n (pc := 3) C dX0_anybodyWithin_3 rfl rfl ?_
    refine gf_X0_6 (pc := 4) ha C tf_X0_36 dX0_anybodyWithin_4 ?_
    refine J.icmp_ge (pc := 7) C 52 dX0_anybodyWithin_7 (by decide) (fun hc => ?_) (fun hc => ?_)
    · have hM := ite_t hc hM
      refine J.iconst (pc := 52) C 0 dX0_anybodyWithin_52 ic_0 ?_
      exact hret dX0_anybodyWithin_53 hM (by decide)
    · have hM := ite_f hc hM
      refine J.aload_n (pc := 10) C dX0_anybodyWithin_10 rfl rfl ?_
      refine gf_X0_3 (pc := 11) ha C tf_X0_21 dX0_anybodyWithin_11 ?_
      refine J.iload_n (pc := 14) C dX0_anybodyWithin_14 rfl rfl ?_
      refine J.callS2i (pc := 15) C (K_X4_at (ia_al4 q cI ha) _ _) lk_X4_at tm_X0_47 ⟨Nat.le_of_ble_eq_true rfl, Nat.le_of_ble_eq_true rfl⟩ (Nat.le_of_ble_eq_true rfl) dX0_anybodyWithin_15 ?_
      refine J.iload_n (pc := 18) C dX0_anybodyWithin_18 rfl rfl ?_
      refine J.isub (pc := 19) C dX0_anybodyWithin_19 ?_
      refine J.mabs (pc := 20) C tm_X0_66 (Nat.le_of_ble_eq_true rfl) (Nat.le_of_ble_eq_true rfl) dX0_anybodyWithin_20 ?_
      refine J.iload_n (pc := 23) C dX0_anybodyWithin_23 rfl rfl ?_
      refine J.icmp_le (pc := 24) C 44 dX0_anybodyWithin_24 (by decide) (fun hc => ?_) (fun hc => ?_)
      · have hM := ite_t hc hM
        refine J.iconst (pc := 44) C 1 dX0_anybodyWithin_44 ic_1 ?_
        exact hret dX0_anybodyWithin_45 hM (by decide)
      · have hM := ite_f hc hM
        refine J.aload_n (pc := 27) C dX0_anybodyWithin_27 rfl rfl ?_
        refine gf_X0_4 (pc := 28) ha C tf_X0_24 dX0_anybodyWithin_28 ?_
        refine J.iload_n (pc := 31) C dX0_anybodyWithin_31 rfl rfl ?_
        refine J.callS2i (pc := 32) C (K_X4_at (ia_al5 q cI ha) _ _) lk_X4_at tm_X0_47 ⟨Nat.le_of_ble_eq_true rfl, Nat.le_of_ble_eq_true rfl⟩ (Nat.le_of_ble_eq_true rfl) dX0_anybodyWithin_32 ?_
        refine J.iload_n (pc := 35) C dX0_anybodyWithin_35 rfl rfl ?_
        refine J.isub (pc := 36) C dX0_anybodyWithin_36 ?_
        refine J.mabs (pc := 37) C tm_X0_66 (Nat.le_of_ble_eq_true rfl) (Nat.le_of_ble_eq_true rfl) dX0_anybodyWithin_37 ?_
        refine J.iload_n (pc := 40) C dX0_anybodyWithin_40 rfl rfl ?_
        refine J.icmp_gt (pc := 41) C 46 dX0_anybodyWithin_41 (by decide) (fun hc => ?_) (fun hc => ?_)
        · have hM := ite_t hc hM
          refine J.iinc (pc := 46) C 1 dX0_anybodyWithin_46 ic_1 rfl (by decide) ?_
          refine J.goto (pc := 49) C 2 dX0_anybodyWithin_49 (by decide) ?_
          refine J.sub C [0, 1, 2, 3] rfl ?_
          exact hkb2 _ _ _ _ hM
        · have hM := ite_f hc hM
          refine J.iconst (pc := 44) C 1 dX0_anybodyWithin_44 ic_1 ?_
          exact hret dX0_anybodyWithin_45 hM (by decide)
  have jl2 : ∀ (x1 x2 x3 : Int32) (g : Sg), lup3 (B_X0_anybodyWithin_2 a) FU x1 x2 x3 g = some r → J p l e (RM 1 24) s m args below meth c D (cW q cI) A 4 Q g 2 [(0, .ref (q a)), (1, .int x1), (2, .int x2), (3, .int x3)] [] := 
    lup3_ok (P := fun x1 x2 x3 g => J p l e (RM 1 24) s m args below meth c D (cW q cI) A 4 Q g 2 [(0, .ref (q a)), (1, .int x1), (2, .int x2), (3, .int x3)] []) (fun self hself => jb2 self hself) FU
  have hM := h
  unfold M_X0_anybodyWithin at hM
  refine J.iconst (pc := 0) C 0 dX0_anybodyWithin_0 ic_0 ?_
  refine J.istore_n (pc := 1) C dX0_anybodyWithin_1 rfl (by decide) ?_
  refine J.sub C [0, 1, 2, 3] rfl ?_
  exact jl2 _ _ _ _ hM
def M_X0_fetches (a : Nat) (x1 : Int32) (g : Sg) : Option (Int32 × Sg) := (if (rat g (a + 2) 7 x1) = 1 then some (0, g) else if (rat g (a + 2) 7 x1) = 2 then some (39, g) else if (rat g (a + 2) 7 x1) = 3 then some (6 + (rat g (a + 3) 7 x1), g) else some (6, g))
set_option maxRecDepth 100000 in
set_option maxHeartbeats 4000000 in
theorem C_X0_fetches {l : Launch} {D : va_G} {q : Nat → Nat} {cI : ClassId} {z : Nat} {a : Nat} (ha : isAl a) {x1 : Int32} {g : Sg} {r : Int32 × Sg} (h : M_X0_fetches a x1 g = some r) : CTi l (EC z) D cI (cW q cI) yX0_fetches cX0_fetches 2 (some .int) 1 21 [.ref (q a), .int x1] g r := by
  refine CTi.of2 (by decide) (EC_ok z) (Nat.le_of_ble_eq_true rfl) rfl (fun p e s m args below meth c A Q C hret => ?_)
  have hM := h
  unfold M_X0_fetches at hM
  refine J.aload_n (pc := 0) C dX0_fetches_0 rfl rfl ?_
  refine gf_X0_1 (pc := 1) ha C tf_X0_15 dX0_fetches_1 ?_
  refine J.iload_n (pc := 4) C dX0_fetches_4 rfl rfl ?_
  refine J.callS2i (pc := 5) C (K_X4_at (ia_al2 q cI ha) _ _) lk_X4_at tm_X0_47 ⟨Nat.le_of_ble_eq_true rfl, Nat.le_of_ble_eq_true rfl⟩ (Nat.le_of_ble_eq_true rfl) dX0_fetches_5 ?_
  refine J.case (pc := 8) C 1 (fun hs0 => ?_) (fun hs0 => ?_)
  · have hM := ite_t hs0 hM
    refine J.tabIn (pc := 8) C 1 36 dX0_fetches_8 hs0 (by decide) (by decide) rfl (by decide) ?_
    refine J.iconst (pc := 36) C 0 dX0_fetches_36 ic_0 ?_
    exact hret dX0_fetches_37 hM rfl
  · have hM := ite_f hs0 hM
    refine J.case (pc := 8) C 2 (fun hs1 => ?_) (fun hs1 => ?_)
    · have hM := ite_t hs1 hM
      refine J.tabIn (pc := 8) C 2 38 dX0_fetches_8 hs1 (by decide) (by decide) rfl (by decide) ?_
      refine J.bipush (pc := 38) C 39 dX0_fetches_38 bp_39 ?_
      exact hret dX0_fetches_40 hM rfl
    · have hM := ite_f hs1 hM
      refine J.case (pc := 8) C 3 (fun hs2 => ?_) (fun hs2 => ?_)
      · have hM := ite_t hs2 hM
        refine J.tabIn (pc := 8) C 3 41 dX0_fetches_8 hs2 (by decide) (by decide) rfl (by decide) ?_
        refine J.bipush (pc := 41) C 6 dX0_fetches_41 bp_6 ?_
        refine J.aload_n (pc := 43) C dX0_fetches_43 rfl rfl ?_
        refine gf_X0_2 (pc := 44) ha C tf_X0_18 dX0_fetches_44 ?_
        refine J.iload_n (pc := 47) C dX0_fetches_47 rfl rfl ?_
        refine J.callS2i (pc := 48) C (K_X4_at (ia_al3 q cI ha) _ _) lk_X4_at tm_X0_47 ⟨Nat.le_of_ble_eq_true rfl, Nat.le_of_ble_eq_true rfl⟩ (Nat.le_of_ble_eq_true rfl) dX0_fetches_48 ?_
        refine J.iadd (pc := 51) C dX0_fetches_51 ?_
        exact hret dX0_fetches_52 hM rfl
      · have hM := ite_f hs2 hM
        refine J.tabOut (pc := 8) C 53 dX0_fetches_8 (by have c0 := i_ne 1 rfl hs0; have c1 := i_ne 2 rfl hs1; have c2 := i_ne 3 rfl hs2; omega) (by decide) ?_
        refine J.bipush (pc := 53) C 6 dX0_fetches_53 bp_6 ?_
        exact hret dX0_fetches_55 hM rfl
def V_X0_fetches (a : Nat) (x1 : Int32) (g : Sg) : Int32 := (if (rat g (a + 2) 7 x1) = 1 then 0 else if (rat g (a + 2) 7 x1) = 2 then 39 else if (rat g (a + 2) 7 x1) = 3 then 6 + (rat g (a + 3) 7 x1) else 6)
theorem E_X0_fetches (a : Nat) (x1 : Int32) (g : Sg) : M_X0_fetches a x1 g = some (V_X0_fetches a x1 g, g) := by
  unfold M_X0_fetches V_X0_fetches
  first | rfl | ((try dsimp only [lt]); (repeat' split) <;> rfl)
theorem K_X0_fetches {l : Launch} {D : va_G} {q : Nat → Nat} {cI : ClassId} {z : Nat} {a : Nat} (ha : isAl a) (x1 : Int32) (g : Sg) : CTi l (EC z) D cI (cW q cI) yX0_fetches cX0_fetches 2 (some .int) 1 21 [.ref (q a), .int x1] g (V_X0_fetches a x1 g, g) := C_X0_fetches ha (E_X0_fetches a x1 g)
def M_X0_darkStepCosts (a : Nat) (x1 : Int32) (g : Sg) : Option (Int32 × Sg) := (if (rat g (a + 2) 7 x1) = 1 then some ((V_X0_dark a g) / 2, g) else if (rat g (a + 2) 7 x1) = 2 then some (2 * (V_X0_dark a g), g) else if (rat g (a + 2) 7 x1) = 3 then some ((V_X0_dark a g) + 1, g) else if (rat g (a + 2) 7 x1) = 4 then some (0, g) else if (rat g (a + 2) 7 x1) = 5 then some (0, g) else some (V_X0_dark a g, g))
set_option maxRecDepth 100000 in
set_option maxHeartbeats 4000000 in
theorem C_X0_darkStepCosts {l : Launch} {D : va_G} {q : Nat → Nat} {cI : ClassId} {z : Nat} {a : Nat} (ha : isAl a) {x1 : Int32} {g : Sg} {r : Int32 × Sg} (h : M_X0_darkStepCosts a x1 g = some r) : CTi l (EC z) D cI (cW q cI) yX0_darkStepCosts cX0_darkStepCosts 2 (some .int) 2 41 [.ref (q a), .int x1] g r := by
  refine CTi.of2 (by decide) (EC_ok z) (Nat.le_of_ble_eq_true rfl) rfl (fun p e s m args below meth c A Q C hret => ?_)
  have hM := h
  unfold M_X0_darkStepCosts at hM
  refine J.aload_n (pc := 0) C dX0_darkStepCosts_0 rfl rfl ?_
  refine gf_X0_1 (pc := 1) ha C tf_X0_15 dX0_darkStepCosts_1 ?_
  refine J.iload_n (pc := 4) C dX0_darkStepCosts_4 rfl rfl ?_
  refine J.callS2i (pc := 5) C (K_X4_at (ia_al2 q cI ha) _ _) lk_X4_at tm_X0_47 ⟨Nat.le_of_ble_eq_true rfl, Nat.le_of_ble_eq_true rfl⟩ (Nat.le_of_ble_eq_true rfl) dX0_darkStepCosts_5 ?_
  refine J.case (pc := 8) C 1 (fun hs0 => ?_) (fun hs0 => ?_)
  · have hM := ite_t hs0 hM
    refine J.tabIn (pc := 8) C 1 44 dX0_darkStepCosts_8 hs0 (by decide) (by decide) rfl (by decide) ?_
    refine J.aload_n (pc := 44) C dX0_darkStepCosts_44 rfl rfl ?_
    refine J.callV0i (pc := 45) C (K_X0_dark ha _) lk_X0_dark tm_X0_75 (io_al q cI ha) ⟨Nat.le_of_ble_eq_true rfl, Nat.le_of_ble_eq_true rfl⟩ (Nat.le_of_ble_eq_true rfl) dX0_darkStepCosts_45 ?_
    refine J.iconst (pc := 48) C 2 dX0_darkStepCosts_48 ic_2 ?_
    refine J.idiv (pc := 49) C dX0_darkStepCosts_49 (by decide) ?_
    exact hret dX0_darkStepCosts_50 hM rfl
  · have hM := ite_f hs0 hM
    refine J.case (pc := 8) C 2 (fun hs1 => ?_) (fun hs1 => ?_)
    · have hM := ite_t hs1 hM
      refine J.tabIn (pc := 8) C 2 51 dX0_darkStepCosts_8 hs1 (by decide) (by decide) rfl (by decide) ?_
      refine J.iconst (pc := 51) C 2 dX0_darkStepCosts_51 ic_2 ?_
      refine J.aload_n (pc := 52) C dX0_darkStepCosts_52 rfl rfl ?_
      refine J.callV0i (pc := 53) C (K_X0_dark ha _) lk_X0_dark tm_X0_75 (io_al q cI ha) ⟨Nat.le_of_ble_eq_true rfl, Nat.le_of_ble_eq_true rfl⟩ (Nat.le_of_ble_eq_true rfl) dX0_darkStepCosts_53 ?_
      refine J.imul (pc := 56) C dX0_darkStepCosts_56 ?_
      exact hret dX0_darkStepCosts_57 hM rfl
    · have hM := ite_f hs1 hM
      refine J.case (pc := 8) C 3 (fun hs2 => ?_) (fun hs2 => ?_)
      · have hM := ite_t hs2 hM
        refine J.tabIn (pc := 8) C 3 58 dX0_darkStepCosts_8 hs2 (by decide) (by decide) rfl (by decide) ?_
        refine J.aload_n (pc := 58) C dX0_darkStepCosts_58 rfl rfl ?_
        refine J.callV0i (pc := 59) C (K_X0_dark ha _) lk_X0_dark tm_X0_75 (io_al q cI ha) ⟨Nat.le_of_ble_eq_true rfl, Nat.le_of_ble_eq_true rfl⟩ (Nat.le_of_ble_eq_true rfl) dX0_darkStepCosts_59 ?_
        refine J.iconst (pc := 62) C 1 dX0_darkStepCosts_62 ic_1 ?_
        refine J.iadd (pc := 63) C dX0_darkStepCosts_63 ?_
        exact hret dX0_darkStepCosts_64 hM rfl
      · have hM := ite_f hs2 hM
        refine J.case (pc := 8) C 4 (fun hs3 => ?_) (fun hs3 => ?_)
        · have hM := ite_t hs3 hM
          refine J.tabIn (pc := 8) C 4 65 dX0_darkStepCosts_8 hs3 (by decide) (by decide) rfl (by decide) ?_
          refine J.iconst (pc := 65) C 0 dX0_darkStepCosts_65 ic_0 ?_
          exact hret dX0_darkStepCosts_66 hM rfl
        · have hM := ite_f hs3 hM
          refine J.case (pc := 8) C 5 (fun hs4 => ?_) (fun hs4 => ?_)
          · have hM := ite_t hs4 hM
            refine J.tabIn (pc := 8) C 5 65 dX0_darkStepCosts_8 hs4 (by decide) (by decide) rfl (by decide) ?_
            refine J.iconst (pc := 65) C 0 dX0_darkStepCosts_65 ic_0 ?_
            exact hret dX0_darkStepCosts_66 hM rfl
          · have hM := ite_f hs4 hM
            refine J.tabOut (pc := 8) C 67 dX0_darkStepCosts_8 (by have c0 := i_ne 1 rfl hs0; have c1 := i_ne 2 rfl hs1; have c2 := i_ne 3 rfl hs2; have c3 := i_ne 4 rfl hs3; have c4 := i_ne 5 rfl hs4; omega) (by decide) ?_
            refine J.aload_n (pc := 67) C dX0_darkStepCosts_67 rfl rfl ?_
            refine J.callV0i (pc := 68) C (K_X0_dark ha _) lk_X0_dark tm_X0_75 (io_al q cI ha) ⟨Nat.le_of_ble_eq_true rfl, Nat.le_of_ble_eq_true rfl⟩ (Nat.le_of_ble_eq_true rfl) dX0_darkStepCosts_68 ?_
            exact hret dX0_darkStepCosts_71 hM rfl
def V_X0_darkStepCosts (a : Nat) (x1 : Int32) (g : Sg) : Int32 := (if (rat g (a + 2) 7 x1) = 1 then (V_X0_dark a g) / 2 else if (rat g (a + 2) 7 x1) = 2 then 2 * (V_X0_dark a g) else if (rat g (a + 2) 7 x1) = 3 then (V_X0_dark a g) + 1 else if (rat g (a + 2) 7 x1) = 4 then 0 else if (rat g (a + 2) 7 x1) = 5 then 0 else V_X0_dark a g)
theorem E_X0_darkStepCosts (a : Nat) (x1 : Int32) (g : Sg) : M_X0_darkStepCosts a x1 g = some (V_X0_darkStepCosts a x1 g, g) := by
  unfold M_X0_darkStepCosts V_X0_darkStepCosts
  first | rfl | ((try dsimp only [lt]); (repeat' split) <;> rfl)
theorem K_X0_darkStepCosts {l : Launch} {D : va_G} {q : Nat → Nat} {cI : ClassId} {z : Nat} {a : Nat} (ha : isAl a) (x1 : Int32) (g : Sg) : CTi l (EC z) D cI (cW q cI) yX0_darkStepCosts cX0_darkStepCosts 2 (some .int) 2 41 [.ref (q a), .int x1] g (V_X0_darkStepCosts a x1 g, g) := C_X0_darkStepCosts ha (E_X0_darkStepCosts a x1 g)
def M_X0_carriesTo (a : Nat) (x1 x2 : Int32) (g : Sg) : Option (Int32 × Sg) := lt (rat g (a + 5) 7 x1) (fun x3_1 => lt (rat g (a + 3) 7 x1) (fun x4_2 => (if (rat g (a + 2) 7 x1) = 1 then (if x3_1 < x2 then some (imin x2 (x3_1 + x4_2), g) else some (imax x2 (x3_1 - x4_2), g)) else if (rat g (a + 2) 7 x1) = 5 then some (x2, g) else some (x3_1, g))))
set_option maxRecDepth 100000 in
set_option maxHeartbeats 4000000 in
theorem C_X0_carriesTo {l : Launch} {D : va_G} {q : Nat → Nat} {cI : ClassId} {z : Nat} {a : Nat} (ha : isAl a) {x1 x2 : Int32} {g : Sg} {r : Int32 × Sg} (h : M_X0_carriesTo a x1 x2 g = some r) : CTi l (EC z) D cI (cW q cI) yX0_carriesTo cX0_carriesTo 5 (some .int) 1 24 [.ref (q a), .int x1, .int x2] g r := by
  refine CTi.of2 (by decide) (EC_ok z) (Nat.le_of_ble_eq_true rfl) rfl (fun p e s m args below meth c A Q C hret => ?_)
  have hM := h
  unfold M_X0_carriesTo at hM
  refine J.aload_n (pc := 0) C dX0_carriesTo_0 rfl rfl ?_
  refine gf_X0_4 (pc := 1) ha C tf_X0_24 dX0_carriesTo_1 ?_
  refine J.iload_n (pc := 4) C dX0_carriesTo_4 rfl rfl ?_
  refine J.callS2i (pc := 5) C (K_X4_at (ia_al5 q cI ha) _ _) lk_X4_at tm_X0_47 ⟨Nat.le_of_ble_eq_true rfl, Nat.le_of_ble_eq_true rfl⟩ (Nat.le_of_ble_eq_true rfl) dX0_carriesTo_5 ?_
  obtain ⟨_, ea, hM⟩ := lt_ex hM
  refine J.istore_nV (pc := 8) C dX0_carriesTo_8 rfl (by decide) ea ?_
  refine J.aload_n (pc := 9) C dX0_carriesTo_9 rfl rfl ?_
  refine gf_X0_2 (pc := 10) ha C tf_X0_18 dX0_carriesTo_10 ?_
  refine J.iload_n (pc := 13) C dX0_carriesTo_13 rfl rfl ?_
  refine J.callS2i (pc := 14) C (K_X4_at (ia_al3 q cI ha) _ _) lk_X4_at tm_X0_47 ⟨Nat.le_of_ble_eq_true rfl, Nat.le_of_ble_eq_true rfl⟩ (Nat.le_of_ble_eq_true rfl) dX0_carriesTo_14 ?_
  obtain ⟨_, ea, hM⟩ := lt_ex hM
  refine J.istoreV (pc := 17) C dX0_carriesTo_17 (by decide) ea ?_
  refine J.aload_n (pc := 19) C dX0_carriesTo_19 rfl rfl ?_
  refine gf_X0_1 (pc := 20) ha C tf_X0_15 dX0_carriesTo_20 ?_
  refine J.iload_n (pc := 23) C dX0_carriesTo_23 rfl rfl ?_
  refine J.callS2i (pc := 24) C (K_X4_at (ia_al2 q cI ha) _ _) lk_X4_at tm_X0_47 ⟨Nat.le_of_ble_eq_true rfl, Nat.le_of_ble_eq_true rfl⟩ (Nat.le_of_ble_eq_true rfl) dX0_carriesTo_24 ?_
  refine J.case (pc := 27) C 1 (fun hs0 => ?_) (fun hs0 => ?_)
  · have hM := ite_t hs0 hM
    refine J.look (pc := 27) (off := 25) C 52 dX0_carriesTo_27 rfl (by rw [hs0]; first | done | rfl) (by decide) ?_
    refine J.iload_n (pc := 52) C dX0_carriesTo_52 rfl rfl ?_
    refine J.iload_n (pc := 53) C dX0_carriesTo_53 rfl rfl ?_
    refine J.icmp_gt (pc := 54) C 68 dX0_carriesTo_54 (by decide) (fun hc => ?_) (fun hc => ?_)
    · have hM := ite_t hc hM
      refine J.iload_n (pc := 68) C dX0_carriesTo_68 rfl rfl ?_
      refine J.iload_n (pc := 69) C dX0_carriesTo_69 rfl rfl ?_
      refine J.iload (pc := 70) C dX0_carriesTo_70 rfl ?_
      refine J.iadd (pc := 72) C dX0_carriesTo_72 ?_
      refine J.mmin (pc := 73) C tm_X0_83 (Nat.le_of_ble_eq_true rfl) (Nat.le_of_ble_eq_true rfl) dX0_carriesTo_73 ?_
      exact hret dX0_carriesTo_76 hM rfl
    · have hM := ite_f hc hM
      refine J.iload_n (pc := 57) C dX0_carriesTo_57 rfl rfl ?_
      refine J.iload_n (pc := 58) C dX0_carriesTo_58 rfl rfl ?_
      refine J.iload (pc := 59) C dX0_carriesTo_59 rfl ?_
      refine J.isub (pc := 61) C dX0_carriesTo_61 ?_
      refine J.mmax (pc := 62) C tm_X0_79 (Nat.le_of_ble_eq_true rfl) (Nat.le_of_ble_eq_true rfl) dX0_carriesTo_62 ?_
      refine J.goto (pc := 65) C 76 dX0_carriesTo_65 (by decide) ?_
      exact hret dX0_carriesTo_76 hM rfl
  · have hM := ite_f hs0 hM
    refine J.case (pc := 27) C 5 (fun hs1 => ?_) (fun hs1 => ?_)
    · have hM := ite_t hs1 hM
      refine J.look (pc := 27) (off := 50) C 77 dX0_carriesTo_27 rfl (by rw [hs1]; first | done | rfl) (by decide) ?_
      refine J.iload_n (pc := 77) C dX0_carriesTo_77 rfl rfl ?_
      exact hret dX0_carriesTo_78 hM rfl
    · have hM := ite_f hs1 hM
      refine J.look (pc := 27) (off := 52) C 79 dX0_carriesTo_27 rfl (by have c0 := i_ne 1 rfl hs0; have c1 := i_ne 5 rfl hs1; exact (if_neg (Ne.symm c0)).trans ((if_neg (Ne.symm c1)).trans (rfl))) (by decide) ?_
      refine J.iload_n (pc := 79) C dX0_carriesTo_79 rfl rfl ?_
      exact hret dX0_carriesTo_80 hM rfl
def V_X0_carriesTo (a : Nat) (x1 x2 : Int32) (g : Sg) : Int32 := let x3_1 := (rat g (a + 5) 7 x1); let x4_2 := (rat g (a + 3) 7 x1); (if (rat g (a + 2) 7 x1) = 1 then (if x3_1 < x2 then imin x2 (x3_1 + x4_2) else imax x2 (x3_1 - x4_2)) else if (rat g (a + 2) 7 x1) = 5 then x2 else x3_1)
theorem E_X0_carriesTo (a : Nat) (x1 x2 : Int32) (g : Sg) : M_X0_carriesTo a x1 x2 g = some (V_X0_carriesTo a x1 x2 g, g) := by
  unfold M_X0_carriesTo V_X0_carriesTo
  first | rfl | ((try dsimp only [lt]); (repeat' split) <;> rfl)
theorem K_X0_carriesTo {l : Launch} {D : va_G} {q : Nat → Nat} {cI : ClassId} {z : Nat} {a : Nat} (ha : isAl a) (x1 x2 : Int32) (g : Sg) : CTi l (EC z) D cI (cW q cI) yX0_carriesTo cX0_carriesTo 5 (some .int) 1 24 [.ref (q a), .int x1, .int x2] g (V_X0_carriesTo a x1 x2 g, g) := C_X0_carriesTo ha (E_X0_carriesTo a x1 x2 g)
def M_X0_bringsTo (a : Nat) (x1 x2 : Int32) (g : Sg) : Option (Int32 × Sg) := (if (rat g (a + 2) 7 x1) = 3 then some (V_X0_pump a g, g) else if (rat g (a + 2) 7 x1) = 4 then some (rat g (a + 4) 7 x1, g) else some (x2, g))
set_option maxRecDepth 100000 in
set_option maxHeartbeats 4000000 in
theorem C_X0_bringsTo {l : Launch} {D : va_G} {q : Nat → Nat} {cI : ClassId} {z : Nat} {a : Nat} (ha : isAl a) {x1 x2 : Int32} {g : Sg} {r : Int32 × Sg} (h : M_X0_bringsTo a x1 x2 g = some r) : CTi l (EC z) D cI (cW q cI) yX0_bringsTo cX0_bringsTo 3 (some .int) 2 41 [.ref (q a), .int x1, .int x2] g r := by
  refine CTi.of2 (by decide) (EC_ok z) (Nat.le_of_ble_eq_true rfl) rfl (fun p e s m args below meth c A Q C hret => ?_)
  have hM := h
  unfold M_X0_bringsTo at hM
  refine J.aload_n (pc := 0) C dX0_bringsTo_0 rfl rfl ?_
  refine gf_X0_1 (pc := 1) ha C tf_X0_15 dX0_bringsTo_1 ?_
  refine J.iload_n (pc := 4) C dX0_bringsTo_4 rfl rfl ?_
  refine J.callS2i (pc := 5) C (K_X4_at (ia_al2 q cI ha) _ _) lk_X4_at tm_X0_47 ⟨Nat.le_of_ble_eq_true rfl, Nat.le_of_ble_eq_true rfl⟩ (Nat.le_of_ble_eq_true rfl) dX0_bringsTo_5 ?_
  refine J.case (pc := 8) C 3 (fun hs0 => ?_) (fun hs0 => ?_)
  · have hM := ite_t hs0 hM
    refine J.look (pc := 8) (off := 28) C 36 dX0_bringsTo_8 rfl (by rw [hs0]; first | done | rfl) (by decide) ?_
    refine J.aload_n (pc := 36) C dX0_bringsTo_36 rfl rfl ?_
    refine J.callV0i (pc := 37) C (K_X0_pump ha _) lk_X0_pump tm_X0_86 (io_al q cI ha) ⟨Nat.le_of_ble_eq_true rfl, Nat.le_of_ble_eq_true rfl⟩ (Nat.le_of_ble_eq_true rfl) dX0_bringsTo_37 ?_
    exact hret dX0_bringsTo_40 hM rfl
  · have hM := ite_f hs0 hM
    refine J.case (pc := 8) C 4 (fun hs1 => ?_) (fun hs1 => ?_)
    · have hM := ite_t hs1 hM
      refine J.look (pc := 8) (off := 33) C 41 dX0_bringsTo_8 rfl (by rw [hs1]; first | done | rfl) (by decide) ?_
      refine J.aload_n (pc := 41) C dX0_bringsTo_41 rfl rfl ?_
      refine gf_X0_3 (pc := 42) ha C tf_X0_21 dX0_bringsTo_42 ?_
      refine J.iload_n (pc := 45) C dX0_bringsTo_45 rfl rfl ?_
      refine J.callS2i (pc := 46) C (K_X4_at (ia_al4 q cI ha) _ _) lk_X4_at tm_X0_47 ⟨Nat.le_of_ble_eq_true rfl, Nat.le_of_ble_eq_true rfl⟩ (Nat.le_of_ble_eq_true rfl) dX0_bringsTo_46 ?_
      exact hret dX0_bringsTo_49 hM rfl
    · have hM := ite_f hs1 hM
      refine J.look (pc := 8) (off := 42) C 50 dX0_bringsTo_8 rfl (by have c0 := i_ne 3 rfl hs0; have c1 := i_ne 4 rfl hs1; exact (if_neg (Ne.symm c0)).trans ((if_neg (Ne.symm c1)).trans (rfl))) (by decide) ?_
      refine J.iload_n (pc := 50) C dX0_bringsTo_50 rfl rfl ?_
      exact hret dX0_bringsTo_51 hM rfl
def V_X0_bringsTo (a : Nat) (x1 x2 : Int32) (g : Sg) : Int32 := (if (rat g (a + 2) 7 x1) = 3 then V_X0_pump a g else if (rat g (a + 2) 7 x1) = 4 then rat g (a + 4) 7 x1 else x2)
theorem E_X0_bringsTo (a : Nat) (x1 x2 : Int32) (g : Sg) : M_X0_bringsTo a x1 x2 g = some (V_X0_bringsTo a x1 x2 g, g) := by
  unfold M_X0_bringsTo V_X0_bringsTo
  first | rfl | ((try dsimp only [lt]); (repeat' split) <;> rfl)
theorem K_X0_bringsTo {l : Launch} {D : va_G} {q : Nat → Nat} {cI : ClassId} {z : Nat} {a : Nat} (ha : isAl a) (x1 x2 : Int32) (g : Sg) : CTi l (EC z) D cI (cW q cI) yX0_bringsTo cX0_bringsTo 3 (some .int) 2 41 [.ref (q a), .int x1, .int x2] g (V_X0_bringsTo a x1 x2 g, g) := C_X0_bringsTo ha (E_X0_bringsTo a x1 x2 g)
