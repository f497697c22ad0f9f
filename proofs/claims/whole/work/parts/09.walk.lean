def M_X5_firstLamp (g : Sg) : Option (Int32 × Sg) := some (rat g 35 2 0, g)
set_option maxRecDepth 100000 in
set_option maxHeartbeats 4000000 in
theorem C_X5_firstLamp {l : Launch} {D : va_G} {q : Nat → Nat} {cI : ClassId} {z : Nat} {g : Sg} {r : Int32 × Sg} (h : M_X5_firstLamp g = some r) : CTi l (EC z) D cI (cW q cI) yX5_firstLamp cX5_firstLamp 1 (some .int) 1 21 [.ref (q 26)] g r := by
  refine CTi.of2 (by decide) (EC_ok z) (Nat.le_of_ble_eq_true rfl) rfl (fun p e s m args below meth c A Q C hret => ?_)
  have hM := h
  unfold M_X5_firstLamp at hM
  refine J.aload_n (pc := 0) C dX5_firstLamp_0 rfl rfl ?_
  refine gf_X5_26_8 (pc := 1) C tf_X5_36 dX5_firstLamp_1 ?_
  refine J.iconst (pc := 4) C 0 dX5_firstLamp_4 ic_0 ?_
  refine J.callS2i (pc := 5) C (K_X4_at (ia_35 q cI) _ _) lk_X4_at tm_X5_42 ⟨Nat.le_of_ble_eq_true rfl, Nat.le_of_ble_eq_true rfl⟩ (Nat.le_of_ble_eq_true rfl) dX5_firstLamp_5 ?_
  exact hret dX5_firstLamp_8 hM rfl
def V_X5_firstLamp (g : Sg) : Int32 := rat g 35 2 0
theorem E_X5_firstLamp (g : Sg) : M_X5_firstLamp g = some (V_X5_firstLamp g, g) := by
  unfold M_X5_firstLamp V_X5_firstLamp
  first | rfl | ((try dsimp only [lt]); (repeat' split) <;> rfl)
theorem K_X5_firstLamp {l : Launch} {D : va_G} {q : Nat → Nat} {cI : ClassId} {z : Nat} (g : Sg) : CTi l (EC z) D cI (cW q cI) yX5_firstLamp cX5_firstLamp 1 (some .int) 1 21 [.ref (q 26)] g (V_X5_firstLamp g, g) := C_X5_firstLamp (E_X5_firstLamp g)
def M_X5_oilLeft (g : Sg) : Option (Int32 × Sg) := some (rat g 36 2 0, g)
set_option maxRecDepth 100000 in
set_option maxHeartbeats 4000000 in
theorem C_X5_oilLeft {l : Launch} {D : va_G} {q : Nat → Nat} {cI : ClassId} {z : Nat} {g : Sg} {r : Int32 × Sg} (h : M_X5_oilLeft g = some r) : CTi l (EC z) D cI (cW q cI) yX5_oilLeft cX5_oilLeft 1 (some .int) 1 21 [.ref (q 26)] g r := by
  refine CTi.of2 (by decide) (EC_ok z) (Nat.le_of_ble_eq_true rfl) rfl (fun p e s m args below meth c A Q C hret => ?_)
  have hM := h
  unfold M_X5_oilLeft at hM
  refine J.aload_n (pc := 0) C dX5_oilLeft_0 rfl rfl ?_
  refine gf_X5_26_9 (pc := 1) C tf_X5_39 dX5_oilLeft_1 ?_
  refine J.iconst (pc := 4) C 0 dX5_oilLeft_4 ic_0 ?_
  refine J.callS2i (pc := 5) C (K_X4_at (ia_36 q cI) _ _) lk_X4_at tm_X5_42 ⟨Nat.le_of_ble_eq_true rfl, Nat.le_of_ble_eq_true rfl⟩ (Nat.le_of_ble_eq_true rfl) dX5_oilLeft_5 ?_
  exact hret dX5_oilLeft_8 hM rfl
def V_X5_oilLeft (g : Sg) : Int32 := rat g 36 2 0
theorem E_X5_oilLeft (g : Sg) : M_X5_oilLeft g = some (V_X5_oilLeft g, g) := by
  unfold M_X5_oilLeft V_X5_oilLeft
  first | rfl | ((try dsimp only [lt]); (repeat' split) <;> rfl)
theorem K_X5_oilLeft {l : Launch} {D : va_G} {q : Nat → Nat} {cI : ClassId} {z : Nat} (g : Sg) : CTi l (EC z) D cI (cW q cI) yX5_oilLeft cX5_oilLeft 1 (some .int) 1 21 [.ref (q 26)] g (V_X5_oilLeft g, g) := C_X5_oilLeft (E_X5_oilLeft g)
def M_X5_addLamp (x1 x2 : Int32) (g : Sg) : Option Sg := lt (rput g 35 2 (g.1 26) x1) (fun g_1 => lt (rput g_1 36 2 (g_1.1 26) x2) (fun g_2 => lt (sI g_2 26 ((g_2.1 26) + 1)) (fun g_3 => some g_3)))
set_option maxRecDepth 100000 in
set_option maxHeartbeats 4000000 in
theorem C_X5_addLamp {l : Launch} {D : va_G} {q : Nat → Nat} {cI : ClassId} {z : Nat} {x1 x2 : Int32} {g : Sg} {r : Sg} (h : M_X5_addLamp x1 x2 g = some r) : CTv l (EC z) D cI (cW q cI) yX5_addLamp cX5_addLamp 3 1 22 [.ref (q 26), .int x1, .int x2] g r := by
  refine CTv.of2 (by decide) (EC_ok z) (Nat.le_of_ble_eq_true rfl) rfl (fun p e s m args below meth c A Q C hret => ?_)
  have hM := h
  unfold M_X5_addLamp at hM
  refine J.aload_n (pc := 0) C dX5_addLamp_0 rfl rfl ?_
  refine gf_X5_26_8 (pc := 1) C tf_X5_36 dX5_addLamp_1 ?_
  refine J.aload_n (pc := 4) C dX5_addLamp_4 rfl rfl ?_
  refine gf_X5_26_10 (pc := 5) C tf_X5_76 dX5_addLamp_5 ?_
  refine J.iload_n (pc := 8) C dX5_addLamp_8 rfl rfl ?_
  refine J.callS3v (pc := 9) C (K_X4_put (ia_35 q cI) _ _ _) lk_X4_put tm_X5_69 ⟨Nat.le_of_ble_eq_true rfl, Nat.le_of_ble_eq_true rfl⟩ (Nat.le_of_ble_eq_true rfl) dX5_addLamp_9 ?_
  obtain ⟨_, ea, hM⟩ := lt_ex hM
  refine J.cong C ea ?_
  refine J.aload_n (pc := 12) C dX5_addLamp_12 rfl rfl ?_
  refine gf_X5_26_9 (pc := 13) C tf_X5_39 dX5_addLamp_13 ?_
  refine J.aload_n (pc := 16) C dX5_addLamp_16 rfl rfl ?_
  refine gf_X5_26_10 (pc := 17) C tf_X5_76 dX5_addLamp_17 ?_
  refine J.iload_n (pc := 20) C dX5_addLamp_20 rfl rfl ?_
  refine J.callS3v (pc := 21) C (K_X4_put (ia_36 q cI) _ _ _) lk_X4_put tm_X5_69 ⟨Nat.le_of_ble_eq_true rfl, Nat.le_of_ble_eq_true rfl⟩ (Nat.le_of_ble_eq_true rfl) dX5_addLamp_21 ?_
  obtain ⟨_, ea, hM⟩ := lt_ex hM
  refine J.cong C ea ?_
  refine J.aload_n (pc := 24) C dX5_addLamp_24 rfl rfl ?_
  refine J.dup (pc := 25) C dX5_addLamp_25 rfl ?_
  refine gf_X5_26_10 (pc := 26) C tf_X5_76 dX5_addLamp_26 ?_
  refine J.iconst (pc := 29) C 1 dX5_addLamp_29 ic_1 ?_
  refine J.iadd (pc := 30) C dX5_addLamp_30 ?_
  refine pf_X5_26_10 (pc := 31) C tf_X5_76 dX5_addLamp_31 ?_
  obtain ⟨_, ea, hM⟩ := lt_ex hM
  refine J.cong C ea ?_
  exact hret dX5_addLamp_34 hM
def U_X5_addLamp (x1 x2 : Int32) (g : Sg) : Sg := let g_1 := (rput g 35 2 (g.1 26) x1); let g_2 := (rput g_1 36 2 (g_1.1 26) x2); let g_3 := (sI g_2 26 ((g_2.1 26) + 1)); g_3
theorem E_X5_addLamp (x1 x2 : Int32) (g : Sg) : M_X5_addLamp x1 x2 g = some (U_X5_addLamp x1 x2 g) := by
  unfold M_X5_addLamp U_X5_addLamp
  first | rfl | ((try dsimp only [lt]); (repeat' split) <;> rfl)
theorem K_X5_addLamp {l : Launch} {D : va_G} {q : Nat → Nat} {cI : ClassId} {z : Nat} (x1 x2 : Int32) (g : Sg) : CTv l (EC z) D cI (cW q cI) yX5_addLamp cX5_addLamp 3 1 22 [.ref (q 26), .int x1, .int x2] g (U_X5_addLamp x1 x2 g) := C_X5_addLamp (E_X5_addLamp x1 x2 g)
def B_X5_begin_37 (a : Nat) (g : Sg) : Option Sg := lt (sI g 27 0) (fun g_4 => lt (sI g_4 28 0) (fun g_5 => lt (sI g_5 29 0) (fun g_6 => lt (sI g_6 30 0) (fun g_7 => lt (sI g_7 31 0) (fun g_8 => lt (sI g_8 32 (-9)) (fun g_9 => some g_9))))))
def M_X5_begin (a : Nat) (g : Sg) : Option Sg := lt (sI g 26 0) (fun g_1 => lt (U_X5_addLamp (V_X0_pump a g_1) (V_X0_oil a g_1) g_1) (fun g_2 => (if (g_2.1 (a + 1)) = (-1) then B_X5_begin_37 a g_2 else lt (U_X5_addLamp (g_2.1 (a + 1)) (V_X0_oil a g_2) g_2) (fun g_3 => B_X5_begin_37 a g_3))))
set_option maxRecDepth 100000 in
set_option maxHeartbeats 4000000 in
theorem C_X5_begin {l : Launch} {D : va_G} {q : Nat → Nat} {cI : ClassId} {z : Nat} {a : Nat} (ha : isAl a) {g : Sg} {r : Sg} (h : M_X5_begin a g = some r) : CTv l (EC z) D cI (cW q cI) yX5_begin cX5_begin 2 2 44 [.ref (q 26), .ref (q a)] g r := by
  refine CTv.of2 (by decide) (EC_ok z) (Nat.le_of_ble_eq_true rfl) rfl (fun p e s m args below meth c A Q C hret => ?_)
  have jb37 : ∀ (g : Sg), B_X5_begin_37 a g = some r → J p l e (RM 2 44) s m args below meth c D (cW q cI) A 2 Q g 37 [(0, .ref (q 26))] [] := by
    intro g hM
    unfold B_X5_begin_37 at hM
    refine J.aload_n (pc := 37) C dX5_begin_37 rfl rfl ?_
    refine J.iconst (pc := 38) C 0 dX5_begin_38 ic_0 ?_
    refine pf_X5_26_11 (pc := 39) C tf_X5_92 dX5_begin_39 ?_
    obtain ⟨_, ea, hM⟩ := lt_ex hM
    refine J.cong C ea ?_
    refine J.aload_n (pc := 42) C dX5_begin_42 rfl rfl ?_
    refine J.iconst (pc := 43) C 0 dX5_begin_43 ic_0 ?_
    refine pf_X5_26_12 (pc := 44) C tf_X5_73 dX5_begin_44 ?_
    obtain ⟨_, ea, hM⟩ := lt_ex hM
    refine J.cong C ea ?_
    refine J.aload_n (pc := 47) C dX5_begin_47 rfl rfl ?_
    refine J.iconst (pc := 48) C 0 dX5_begin_48 ic_0 ?_
    refine pf_X5_26_13 (pc := 49) C tf_X5_95 dX5_begin_49 ?_
    obtain ⟨_, ea, hM⟩ := lt_ex hM
    refine J.cong C ea ?_
    refine J.aload_n (pc := 52) C dX5_begin_52 rfl rfl ?_
    refine J.iconst (pc := 53) C 0 dX5_begin_53 ic_0 ?_
    refine pf_X5_26_14 (pc := 54) C tf_X5_98 dX5_begin_54 ?_
    obtain ⟨_, ea, hM⟩ := lt_ex hM
    refine J.cong C ea ?_
    refine J.aload_n (pc := 57) C dX5_begin_57 rfl rfl ?_
    refine J.iconst (pc := 58) C 0 dX5_begin_58 ic_0 ?_
    refine pf_X5_26_15 (pc := 59) C tf_X5_101 dX5_begin_59 ?_
    obtain ⟨_, ea, hM⟩ := lt_ex hM
    refine J.cong C ea ?_
    refine J.aload_n (pc := 62) C dX5_begin_62 rfl rfl ?_
    refine J.bipush (pc := 63) C (-9) dX5_begin_63 bp_m9 ?_
    refine pf_X5_26_16 (pc := 65) C tf_X5_104 dX5_begin_65 ?_
    obtain ⟨_, ea, hM⟩ := lt_ex hM
    refine J.cong C ea ?_
    exact hret dX5_begin_68 hM
  have hM := h
  unfold M_X5_begin at hM
  refine J.aload_n (pc := 0) C dX5_begin_0 rfl rfl ?_
  refine J.iconst (pc := 1) C 0 dX5_begin_1 ic_0 ?_
  refine pf_X5_26_10 (pc := 2) C tf_X5_76 dX5_begin_2 ?_
  obtain ⟨_, ea, hM⟩ := lt_ex hM
  refine J.cong C ea ?_
  refine J.aload_n (pc := 5) C dX5_begin_5 rfl rfl ?_
  refine J.aload_n (pc := 6) C dX5_begin_6 rfl rfl ?_
  refine J.callV0i (pc := 7) C (K_X0_pump ha _) lk_X0_pump tm_X5_79 (io_al q cI ha) ⟨Nat.le_of_ble_eq_true rfl, Nat.le_of_ble_eq_true rfl⟩ (Nat.le_of_ble_eq_true rfl) dX5_begin_7 ?_
  refine J.aload_n (pc := 10) C dX5_begin_10 rfl rfl ?_
  refine J.callV0i (pc := 11) C (K_X0_oil ha _) lk_X0_oil tm_X5_82 (io_al q cI ha) ⟨Nat.le_of_ble_eq_true rfl, Nat.le_of_ble_eq_true rfl⟩ (Nat.le_of_ble_eq_true rfl) dX5_begin_11 ?_
  refine J.callV2v (pc := 14) C (K_X5_addLamp _ _ _) lk_X5_addLamp tm_X5_85 (io_26 q cI) ⟨Nat.le_of_ble_eq_true rfl, Nat.le_of_ble_eq_true rfl⟩ (Nat.le_of_ble_eq_true rfl) dX5_begin_14 ?_
  obtain ⟨_, ea, hM⟩ := lt_ex hM
  refine J.cong C ea ?_
  refine J.aload_n (pc := 17) C dX5_begin_17 rfl rfl ?_
  refine gf_X0_7 (pc := 18) ha C tf_X5_89 dX5_begin_18 ?_
  refine J.iconst (pc := 21) C (-1) dX5_begin_21 ic_m1 ?_
  refine J.icmp_eq (pc := 22) C 37 dX5_begin_22 (by decide) (fun hc => ?_) (fun hc => ?_)
  · have hM := ite_t hc hM
    refine J.sub C [0] rfl ?_
    exact jb37 _ hM
  · have hM := ite_f hc hM
    refine J.aload_n (pc := 25) C dX5_begin_25 rfl rfl ?_
    refine J.aload_n (pc := 26) C dX5_begin_26 rfl rfl ?_
    refine gf_X0_7 (pc := 27) ha C tf_X5_89 dX5_begin_27 ?_
    refine J.aload_n (pc := 30) C dX5_begin_30 rfl rfl ?_
    refine J.callV0i (pc := 31) C (K_X0_oil ha _) lk_X0_oil tm_X5_82 (io_al q cI ha) ⟨Nat.le_of_ble_eq_true rfl, Nat.le_of_ble_eq_true rfl⟩ (Nat.le_of_ble_eq_true rfl) dX5_begin_31 ?_
    refine J.callV2v (pc := 34) C (K_X5_addLamp _ _ _) lk_X5_addLamp tm_X5_85 (io_26 q cI) ⟨Nat.le_of_ble_eq_true rfl, Nat.le_of_ble_eq_true rfl⟩ (Nat.le_of_ble_eq_true rfl) dX5_begin_34 ?_
    obtain ⟨_, ea, hM⟩ := lt_ex hM
    refine J.cong C ea ?_
    refine J.sub C [0] rfl ?_
    exact jb37 _ hM
def B_X5_lampThatHeHas_24 (a : Nat) (kb24 : Int32 → Int32 → Int32 → Int32 → Sg → Option (Int32 × Sg)) (x3 x4 x5 x6 : Int32) (g : Sg) : Option (Int32 × Sg) := (if (g.1 26) ≤ x6 then some (x4, g) else lt (iabs ((rat g 35 2 x6) - x3)) (fun x7_3 => (if (rat g 36 2 x6) ≤ 0 then kb24 x3 x4 x5 (x6 + 1) g else (if x5 ≤ x7_3 then kb24 x3 x4 x5 (x6 + 1) g else kb24 x3 x6 x7_3 (x6 + 1) g))))
def M_X5_lampThatHeHas (a : Nat) (x2 : Int32) (g : Sg) : Option (Int32 × Sg) := lt (rat g (a + 4) 7 x2) (fun x3_1 => lt ((V_X0_fetches a x2 g) + 1) (fun x5_2 => lup4 (B_X5_lampThatHeHas_24 a ) FU x3_1 (-1) x5_2 0 g))
set_option maxRecDepth 100000 in
set_option maxHeartbeats 4000000 in
theorem C_X5_lampThatHeHas {l : Launch} {D : va_G} {q : Nat → Nat} {cI : ClassId} {z : Nat} {a : Nat} (ha : isAl a) {x2 : Int32} {g : Sg} {r : Int32 × Sg} (h : M_X5_lampThatHeHas a x2 g = some r) : CTi l (EC z) D cI (cW q cI) yX5_lampThatHeHas cX5_lampThatHeHas 8 (some .int) 2 42 [.ref (q 26), .ref (q a), .int x2] g r := by
  refine CTi.of2 (by decide) (EC_ok z) (Nat.le_of_ble_eq_true rfl) rfl (fun p e s m args below meth c A Q C hret => ?_)
  have jb24 : ∀ (kb24 : Int32 → Int32 → Int32 → Int32 → Sg → Option (Int32 × Sg)) (hkb24 : ∀ (x3 x4 x5 x6 : Int32) (g : Sg), kb24 x3 x4 x5 x6 g = some r → J p l e (RM 2 42) s m args below meth c D (cW q cI) A 8 Q g 24 [(0, .ref (q 26)), (3, .int x3), (4, .int x4), (5, .int x5), (6, .int x6)] []) (x3 x4 x5 x6 : Int32) (g : Sg), B_X5_lampThatHeHas_24 a kb24 x3 x4 x5 x6 g = some r → J p l e (RM 2 42) s m args below meth c D (cW q cI) A 8 Q g 24 [(0, .ref (q 26)), (3, .int x3), (4, .int x4), (5, .int x5), (6, .int x6)] [] := by
    intro kb24 hkb24 x3 x4 x5 x6 g hM
    unfold B_X5_lampThatHeHas_24 at hM
    refine J.iload (pc := 24) C dX5_lampThatHeHas_24 rfl ?_
    refine J.aload_n (pc := 26) C dX5_lampThatHeHas_26 rfl rfl ?_
    refine gf_X5_26_10 (pc := 27) C tf_X5_76 dX5_lampThatHeHas_27 ?_
    refine J.icmp_ge (pc := 30) C 82 dX5_lampThatHeHas_30 (by decide) (fun hc => ?_) (fun hc => ?_)
    · have hM := ite_t hc hM
      refine J.iload (pc := 82) C dX5_lampThatHeHas_82 rfl ?_
      exact hret dX5_lampThatHeHas_84 hM rfl
    · have hM := ite_f hc hM
      refine J.aload_n (pc := 33) C dX5_lampThatHeHas_33 rfl rfl ?_
      refine gf_X5_26_8 (pc := 34) C tf_X5_36 dX5_lampThatHeHas_34 ?_
      refine J.iload (pc := 37) C dX5_lampThatHeHas_37 rfl ?_
      refine J.callS2i (pc := 39) C (K_X4_at (ia_35 q cI) _ _) lk_X4_at tm_X5_42 ⟨Nat.le_of_ble_eq_true rfl, Nat.le_of_ble_eq_true rfl⟩ (Nat.le_of_ble_eq_true rfl) dX5_lampThatHeHas_39 ?_
      refine J.iload_n (pc := 42) C dX5_lampThatHeHas_42 rfl rfl ?_
      refine J.isub (pc := 43) C dX5_lampThatHeHas_43 ?_
      refine J.mabs (pc := 44) C tm_X5_128 (Nat.le_of_ble_eq_true rfl) (Nat.le_of_ble_eq_true rfl) dX5_lampThatHeHas_44 ?_
      obtain ⟨_, ea, hM⟩ := lt_ex hM
      refine J.istoreV (pc := 47) C dX5_lampThatHeHas_47 (by decide) ea ?_
      refine J.aload_n (pc := 49) C dX5_lampThatHeHas_49 rfl rfl ?_
      refine gf_X5_26_9 (pc := 50) C tf_X5_39 dX5_lampThatHeHas_50 ?_
      refine J.iload (pc := 53) C dX5_lampThatHeHas_53 rfl ?_
      refine J.callS2i (pc := 55) C (K_X4_at (ia_36 q cI) _ _) lk_X4_at tm_X5_42 ⟨Nat.le_of_ble_eq_true rfl, Nat.le_of_ble_eq_true rfl⟩ (Nat.le_of_ble_eq_true rfl) dX5_lampThatHeHas_55 ?_
      refine J.if_le (pc := 58) C 76 dX5_lampThatHeHas_58 (by decide) (fun hc => ?_) (fun hc => ?_)
      · have hM := ite_t hc hM
        refine J.iinc (pc := 76) C 1 dX5_lampThatHeHas_76 ic_1 rfl (by decide) ?_
        refine J.goto (pc := 79) C 24 dX5_lampThatHeHas_79 (by decide) ?_
        refine J.sub C [0, 3, 4, 5, 6] rfl ?_
        exact hkb24 _ _ _ _ _ hM
      · have hM := ite_f hc hM
        refine J.iload (pc := 61) C dX5_lampThatHeHas_61 rfl ?_
        refine J.iload (pc := 63) C dX5_lampThatHeHas_63 rfl ?_
        refine J.icmp_ge (pc := 65) C 76 dX5_lampThatHeHas_65 (by decide) (fun hc => ?_) (fun hc => ?_)
        · have hM := ite_t hc hM
          refine J.iinc (pc := 76) C 1 dX5_lampThatHeHas_76 ic_1 rfl (by decide) ?_
          refine J.goto (pc := 79) C 24 dX5_lampThatHeHas_79 (by decide) ?_
          refine J.sub C [0, 3, 4, 5, 6] rfl ?_
          exact hkb24 _ _ _ _ _ hM
        · have hM := ite_f hc hM
          refine J.iload (pc := 68) C dX5_lampThatHeHas_68 rfl ?_
          refine J.istore (pc := 70) C dX5_lampThatHeHas_70 (by decide) ?_
          refine J.iload (pc := 72) C dX5_lampThatHeHas_72 rfl ?_
          refine J.istore (pc := 74) C dX5_lampThatHeHas_74 (by decide) ?_
          refine J.iinc (pc := 76) C 1 dX5_lampThatHeHas_76 ic_1 rfl (by decide) ?_
          refine J.goto (pc := 79) C 24 dX5_lampThatHeHas_79 (by decide) ?_
          refine J.sub C [0, 3, 4, 5, 6] rfl ?_
          exact hkb24 _ _ _ _ _ hM
  have jl24 : ∀ (x3 x4 x5 x6 : Int32) (g : Sg), lup4 (B_X5_lampThatHeHas_24 a) FU x3 x4 x5 x6 g = some r → J p l e (RM 2 42) s m args below meth c D (cW q cI) A 8 Q g 24 [(0, .ref (q 26)), (3, .int x3), (4, .int x4), (5, .int x5), (6, .int x6)] [] := 
    lup4_ok (P := fun x3 x4 x5 x6 g => J p l e (RM 2 42) s m args below meth c D (cW q cI) A 8 Q g 24 [(0, .ref (q 26)), (3, .int x3), (4, .int x4), (5, .int x5), (6, .int x6)] []) (fun self hself => jb24 self hself) FU
  have hM := h
  unfold M_X5_lampThatHeHas at hM
  refine J.aload_n (pc := 0) C dX5_lampThatHeHas_0 rfl rfl ?_
  refine gf_X0_3 (pc := 1) ha C tf_X5_122 dX5_lampThatHeHas_1 ?_
  refine J.iload_n (pc := 4) C dX5_lampThatHeHas_4 rfl rfl ?_
  refine J.callS2i (pc := 5) C (K_X4_at (ia_al4 q cI ha) _ _) lk_X4_at tm_X5_42 ⟨Nat.le_of_ble_eq_true rfl, Nat.le_of_ble_eq_true rfl⟩ (Nat.le_of_ble_eq_true rfl) dX5_lampThatHeHas_5 ?_
  obtain ⟨_, ea, hM⟩ := lt_ex hM
  refine J.istore_nV (pc := 8) C dX5_lampThatHeHas_8 rfl (by decide) ea ?_
  refine J.iconst (pc := 9) C (-1) dX5_lampThatHeHas_9 ic_m1 ?_
  refine J.istore (pc := 10) C dX5_lampThatHeHas_10 (by decide) ?_
  refine J.aload_n (pc := 12) C dX5_lampThatHeHas_12 rfl rfl ?_
  refine J.iload_n (pc := 13) C dX5_lampThatHeHas_13 rfl rfl ?_
  refine J.callV1i (pc := 14) C (K_X0_fetches ha _ _) lk_X0_fetches tm_X5_125 (io_al q cI ha) ⟨Nat.le_of_ble_eq_true rfl, Nat.le_of_ble_eq_true rfl⟩ (Nat.le_of_ble_eq_true rfl) dX5_lampThatHeHas_14 ?_
  refine J.iconst (pc := 17) C 1 dX5_lampThatHeHas_17 ic_1 ?_
  refine J.iadd (pc := 18) C dX5_lampThatHeHas_18 ?_
  obtain ⟨_, ea, hM⟩ := lt_ex hM
  refine J.istoreV (pc := 19) C dX5_lampThatHeHas_19 (by decide) ea ?_
  refine J.iconst (pc := 21) C 0 dX5_lampThatHeHas_21 ic_0 ?_
  refine J.istore (pc := 22) C dX5_lampThatHeHas_22 (by decide) ?_
  refine J.sub C [0, 3, 4, 5, 6] rfl ?_
  exact jl24 _ _ _ _ _ hM
def M_X5_goInTheDark (a : Nat) (x2 : Int32) (g : Sg) : Option Sg := lt (rput g 27 7 x2 (V_X0_stepsOf a x2 g)) (fun g_1 => lt (rput g_1 28 7 x2 0) (fun g_2 => lt (rput g_2 31 7 x2 0) (fun g_3 => some g_3)))
set_option maxRecDepth 100000 in
set_option maxHeartbeats 4000000 in
theorem C_X5_goInTheDark {l : Launch} {D : va_G} {q : Nat → Nat} {cI : ClassId} {z : Nat} {a : Nat} (ha : isAl a) {x2 : Int32} {g : Sg} {r : Sg} (h : M_X5_goInTheDark a x2 g = some r) : CTv l (EC z) D cI (cW q cI) yX5_goInTheDark cX5_goInTheDark 3 2 45 [.ref (q 26), .ref (q a), .int x2] g r := by
  refine CTv.of2 (by decide) (EC_ok z) (Nat.le_of_ble_eq_true rfl) rfl (fun p e s m args below meth c A Q C hret => ?_)
  have hM := h
  unfold M_X5_goInTheDark at hM
  refine J.aload_n (pc := 0) C dX5_goInTheDark_0 rfl rfl ?_
  refine gf_X5_26_0 (pc := 1) C tf_X5_9 dX5_goInTheDark_1 ?_
  refine J.iload_n (pc := 4) C dX5_goInTheDark_4 rfl rfl ?_
  refine J.aload_n (pc := 5) C dX5_goInTheDark_5 rfl rfl ?_
  refine J.iload_n (pc := 6) C dX5_goInTheDark_6 rfl rfl ?_
  refine J.callV1i (pc := 7) C (K_X0_stepsOf ha _ _) lk_X0_stepsOf tm_X5_133 (io_al q cI ha) ⟨Nat.le_of_ble_eq_true rfl, Nat.le_of_ble_eq_true rfl⟩ (Nat.le_of_ble_eq_true rfl) dX5_goInTheDark_7 ?_
  refine J.callS3v (pc := 10) C (K_X4_put (ia_27 q cI) _ _ _) lk_X4_put tm_X5_69 ⟨Nat.le_of_ble_eq_true rfl, Nat.le_of_ble_eq_true rfl⟩ (Nat.le_of_ble_eq_true rfl) dX5_goInTheDark_10 ?_
  obtain ⟨_, ea, hM⟩ := lt_ex hM
  refine J.cong C ea ?_
  refine J.aload_n (pc := 13) C dX5_goInTheDark_13 rfl rfl ?_
  refine gf_X5_26_1 (pc := 14) C tf_X5_15 dX5_goInTheDark_14 ?_
  refine J.iload_n (pc := 17) C dX5_goInTheDark_17 rfl rfl ?_
  refine J.iconst (pc := 18) C 0 dX5_goInTheDark_18 ic_0 ?_
  refine J.callS3v (pc := 19) C (K_X4_put (ia_28 q cI) _ _ _) lk_X4_put tm_X5_69 ⟨Nat.le_of_ble_eq_true rfl, Nat.le_of_ble_eq_true rfl⟩ (Nat.le_of_ble_eq_true rfl) dX5_goInTheDark_19 ?_
  obtain ⟨_, ea, hM⟩ := lt_ex hM
  refine J.cong C ea ?_
  refine J.aload_n (pc := 22) C dX5_goInTheDark_22 rfl rfl ?_
  refine gf_X5_26_4 (pc := 23) C tf_X5_24 dX5_goInTheDark_23 ?_
  refine J.iload_n (pc := 26) C dX5_goInTheDark_26 rfl rfl ?_
  refine J.iconst (pc := 27) C 0 dX5_goInTheDark_27 ic_0 ?_
  refine J.callS3v (pc := 28) C (K_X4_put (ia_31 q cI) _ _ _) lk_X4_put tm_X5_69 ⟨Nat.le_of_ble_eq_true rfl, Nat.le_of_ble_eq_true rfl⟩ (Nat.le_of_ble_eq_true rfl) dX5_goInTheDark_28 ?_
  obtain ⟨_, ea, hM⟩ := lt_ex hM
  refine J.cong C ea ?_
  exact hret dX5_goInTheDark_31 hM
def U_X5_goInTheDark (a : Nat) (x2 : Int32) (g : Sg) : Sg := let g_1 := (rput g 27 7 x2 (V_X0_stepsOf a x2 g)); let g_2 := (rput g_1 28 7 x2 0); let g_3 := (rput g_2 31 7 x2 0); g_3
theorem E_X5_goInTheDark (a : Nat) (x2 : Int32) (g : Sg) : M_X5_goInTheDark a x2 g = some (U_X5_goInTheDark a x2 g) := by
  unfold M_X5_goInTheDark U_X5_goInTheDark
  first | rfl | ((try dsimp only [lt]); (repeat' split) <;> rfl)
theorem K_X5_goInTheDark {l : Launch} {D : va_G} {q : Nat → Nat} {cI : ClassId} {z : Nat} {a : Nat} (ha : isAl a) (x2 : Int32) (g : Sg) : CTv l (EC z) D cI (cW q cI) yX5_goInTheDark cX5_goInTheDark 3 2 45 [.ref (q 26), .ref (q a), .int x2] g (U_X5_goInTheDark a x2 g) := C_X5_goInTheDark ha (E_X5_goInTheDark a x2 g)
def M_X5_goWithLamp (a : Nat) (x2 x3 : Int32) (g : Sg) : Option Sg := lt (rat g 35 2 x3) (fun x4_1 => lt (rat g 36 2 x3) (fun x5_2 => lt (V_X0_carriesTo a x2 x4_1 g) (fun x6_3 => lt (V_X0_bringsTo a x2 x6_3 g) (fun x7_4 => lt ((iabs (x6_3 - x4_1)) + (iabs (x7_4 - x6_3))) (fun x8_5 => lt ((iabs (x4_1 - (rat g (a + 4) 7 x2))) + (iabs ((rat g (a + 5) 7 x2) - x6_3))) (fun x9_6 => lt (rput g 27 7 x2 ((x9_6 + x8_5) - (imin x8_5 x5_2))) (fun g_7 => lt (rput g_7 28 7 x2 (imin x8_5 x5_2)) (fun g_8 => lt (rput g_8 31 7 x2 1) (fun g_9 => lt (rput g_9 35 2 x3 x7_4) (fun g_10 => lt (rput g_10 36 2 x3 (x5_2 - (imin x8_5 x5_2))) (fun g_11 => lt (sI g_11 31 ((g_11.1 31) + 1)) (fun g_12 => lt (sI g_12 32 x2) (fun g_13 => some g_13)))))))))))))
set_option maxRecDepth 100000 in
set_option maxHeartbeats 4000000 in
theorem C_X5_goWithLamp {l : Launch} {D : va_G} {q : Nat → Nat} {cI : ClassId} {z : Nat} {a : Nat} (ha : isAl a) {x2 x3 : Int32} {g : Sg} {r : Sg} (h : M_X5_goWithLamp a x2 x3 g = some r) : CTv l (EC z) D cI (cW q cI) yX5_goWithLamp cX5_goWithLamp 11 3 63 [.ref (q 26), .ref (q a), .int x2, .int x3] g r := by
  refine CTv.of2 (by decide) (EC_ok z) (Nat.le_of_ble_eq_true rfl) rfl (fun p e s m args below meth c A Q C hret => ?_)
  have hM := h
  unfold M_X5_goWithLamp at hM
  refine J.aload_n (pc := 0) C dX5_goWithLamp_0 rfl rfl ?_
  refine gf_X5_26_8 (pc := 1) C tf_X5_36 dX5_goWithLamp_1 ?_
  refine J.iload_n (pc := 4) C dX5_goWithLamp_4 rfl rfl ?_
  refine J.callS2i (pc := 5) C (K_X4_at (ia_35 q cI) _ _) lk_X4_at tm_X5_42 ⟨Nat.le_of_ble_eq_true rfl, Nat.le_of_ble_eq_true rfl⟩ (Nat.le_of_ble_eq_true rfl) dX5_goWithLamp_5 ?_
  obtain ⟨_, ea, hM⟩ := lt_ex hM
  refine J.istoreV (pc := 8) C dX5_goWithLamp_8 (by decide) ea ?_
  refine J.aload_n (pc := 10) C dX5_goWithLamp_10 rfl rfl ?_
  refine gf_X5_26_9 (pc := 11) C tf_X5_39 dX5_goWithLamp_11 ?_
  refine J.iload_n (pc := 14) C dX5_goWithLamp_14 rfl rfl ?_
  refine J.callS2i (pc := 15) C (K_X4_at (ia_36 q cI) _ _) lk_X4_at tm_X5_42 ⟨Nat.le_of_ble_eq_true rfl, Nat.le_of_ble_eq_true rfl⟩ (Nat.le_of_ble_eq_true rfl) dX5_goWithLamp_15 ?_
  obtain ⟨_, ea, hM⟩ := lt_ex hM
  refine J.istoreV (pc := 18) C dX5_goWithLamp_18 (by decide) ea ?_
  refine J.aload_n (pc := 20) C dX5_goWithLamp_20 rfl rfl ?_
  refine J.iload_n (pc := 21) C dX5_goWithLamp_21 rfl rfl ?_
  refine J.iload (pc := 22) C dX5_goWithLamp_22 rfl ?_
  refine J.callV2i (pc := 24) C (K_X0_carriesTo ha _ _ _) lk_X0_carriesTo tm_X5_136 (io_al q cI ha) ⟨Nat.le_of_ble_eq_true rfl, Nat.le_of_ble_eq_true rfl⟩ (Nat.le_of_ble_eq_true rfl) dX5_goWithLamp_24 ?_
  obtain ⟨_, ea, hM⟩ := lt_ex hM
  refine J.istoreV (pc := 27) C dX5_goWithLamp_27 (by decide) ea ?_
  refine J.aload_n (pc := 29) C dX5_goWithLamp_29 rfl rfl ?_
  refine J.iload_n (pc := 30) C dX5_goWithLamp_30 rfl rfl ?_
  refine J.iload (pc := 31) C dX5_goWithLamp_31 rfl ?_
  refine J.callV2i (pc := 33) C (K_X0_bringsTo ha _ _ _) lk_X0_bringsTo tm_X5_140 (io_al q cI ha) ⟨Nat.le_of_ble_eq_true rfl, Nat.le_of_ble_eq_true rfl⟩ (Nat.le_of_ble_eq_true rfl) dX5_goWithLamp_33 ?_
  obtain ⟨_, ea, hM⟩ := lt_ex hM
  refine J.istoreV (pc := 36) C dX5_goWithLamp_36 (by decide) ea ?_
  refine J.iload (pc := 38) C dX5_goWithLamp_38 rfl ?_
  refine J.iload (pc := 40) C dX5_goWithLamp_40 rfl ?_
  refine J.isub (pc := 42) C dX5_goWithLamp_42 ?_
  refine J.mabs (pc := 43) C tm_X5_128 (Nat.le_of_ble_eq_true rfl) (Nat.le_of_ble_eq_true rfl) dX5_goWithLamp_43 ?_
  refine J.iload (pc := 46) C dX5_goWithLamp_46 rfl ?_
  refine J.iload (pc := 48) C dX5_goWithLamp_48 rfl ?_
  refine J.isub (pc := 50) C dX5_goWithLamp_50 ?_
  refine J.mabs (pc := 51) C tm_X5_128 (Nat.le_of_ble_eq_true rfl) (Nat.le_of_ble_eq_true rfl) dX5_goWithLamp_51 ?_
  refine J.iadd (pc := 54) C dX5_goWithLamp_54 ?_
  obtain ⟨_, ea, hM⟩ := lt_ex hM
  refine J.istoreV (pc := 55) C dX5_goWithLamp_55 (by decide) ea ?_
  refine J.iload (pc := 57) C dX5_goWithLamp_57 rfl ?_
  refine J.aload_n (pc := 59) C dX5_goWithLamp_59 rfl rfl ?_
  refine gf_X0_3 (pc := 60) ha C tf_X5_122 dX5_goWithLamp_60 ?_
  refine J.iload_n (pc := 63) C dX5_goWithLamp_63 rfl rfl ?_
  refine J.callS2i (pc := 64) C (K_X4_at (ia_al4 q cI ha) _ _) lk_X4_at tm_X5_42 ⟨Nat.le_of_ble_eq_true rfl, Nat.le_of_ble_eq_true rfl⟩ (Nat.le_of_ble_eq_true rfl) dX5_goWithLamp_64 ?_
  refine J.isub (pc := 67) C dX5_goWithLamp_67 ?_
  refine J.mabs (pc := 68) C tm_X5_128 (Nat.le_of_ble_eq_true rfl) (Nat.le_of_ble_eq_true rfl) dX5_goWithLamp_68 ?_
  refine J.aload_n (pc := 71) C dX5_goWithLamp_71 rfl rfl ?_
  refine gf_X0_4 (pc := 72) ha C tf_X5_143 dX5_goWithLamp_72 ?_
  refine J.iload_n (pc := 75) C dX5_goWithLamp_75 rfl rfl ?_
  refine J.callS2i (pc := 76) C (K_X4_at (ia_al5 q cI ha) _ _) lk_X4_at tm_X5_42 ⟨Nat.le_of_ble_eq_true rfl, Nat.le_of_ble_eq_true rfl⟩ (Nat.le_of_ble_eq_true rfl) dX5_goWithLamp_76 ?_
  refine J.iload (pc := 79) C dX5_goWithLamp_79 rfl ?_
  refine J.isub (pc := 81) C dX5_goWithLamp_81 ?_
  refine J.mabs (pc := 82) C tm_X5_128 (Nat.le_of_ble_eq_true rfl) (Nat.le_of_ble_eq_true rfl) dX5_goWithLamp_82 ?_
  refine J.iadd (pc := 85) C dX5_goWithLamp_85 ?_
  obtain ⟨_, ea, hM⟩ := lt_ex hM
  refine J.istoreV (pc := 86) C dX5_goWithLamp_86 (by decide) ea ?_
  refine J.iload (pc := 88) C dX5_goWithLamp_88 rfl ?_
  refine J.iload (pc := 90) C dX5_goWithLamp_90 rfl ?_
  refine J.mmin (pc := 92) C tm_X5_146 (Nat.le_of_ble_eq_true rfl) (Nat.le_of_ble_eq_true rfl) dX5_goWithLamp_92 ?_
  refine J.istore (pc := 95) C dX5_goWithLamp_95 (by decide) ?_
  refine J.aload_n (pc := 97) C dX5_goWithLamp_97 rfl rfl ?_
  refine gf_X5_26_0 (pc := 98) C tf_X5_9 dX5_goWithLamp_98 ?_
  refine J.iload_n (pc := 101) C dX5_goWithLamp_101 rfl rfl ?_
  refine J.iload (pc := 102) C dX5_goWithLamp_102 rfl ?_
  refine J.iload (pc := 104) C dX5_goWithLamp_104 rfl ?_
  refine J.iadd (pc := 106) C dX5_goWithLamp_106 ?_
  refine J.iload (pc := 107) C dX5_goWithLamp_107 rfl ?_
  refine J.isub (pc := 109) C dX5_goWithLamp_109 ?_
  refine J.callS3v (pc := 110) C (K_X4_put (ia_27 q cI) _ _ _) lk_X4_put tm_X5_69 ⟨Nat.le_of_ble_eq_true rfl, Nat.le_of_ble_eq_true rfl⟩ (Nat.le_of_ble_eq_true rfl) dX5_goWithLamp_110 ?_
  obtain ⟨_, ea, hM⟩ := lt_ex hM
  refine J.cong C ea ?_
  refine J.aload_n (pc := 113) C dX5_goWithLamp_113 rfl rfl ?_
  refine gf_X5_26_1 (pc := 114) C tf_X5_15 dX5_goWithLamp_114 ?_
  refine J.iload_n (pc := 117) C dX5_goWithLamp_117 rfl rfl ?_
  refine J.iload (pc := 118) C dX5_goWithLamp_118 rfl ?_
  refine J.callS3v (pc := 120) C (K_X4_put (ia_28 q cI) _ _ _) lk_X4_put tm_X5_69 ⟨Nat.le_of_ble_eq_true rfl, Nat.le_of_ble_eq_true rfl⟩ (Nat.le_of_ble_eq_true rfl) dX5_goWithLamp_120 ?_
  obtain ⟨_, ea, hM⟩ := lt_ex hM
  refine J.cong C ea ?_
  refine J.aload_n (pc := 123) C dX5_goWithLamp_123 rfl rfl ?_
  refine gf_X5_26_4 (pc := 124) C tf_X5_24 dX5_goWithLamp_124 ?_
  refine J.iload_n (pc := 127) C dX5_goWithLamp_127 rfl rfl ?_
  refine J.iconst (pc := 128) C 1 dX5_goWithLamp_128 ic_1 ?_
  refine J.callS3v (pc := 129) C (K_X4_put (ia_31 q cI) _ _ _) lk_X4_put tm_X5_69 ⟨Nat.le_of_ble_eq_true rfl, Nat.le_of_ble_eq_true rfl⟩ (Nat.le_of_ble_eq_true rfl) dX5_goWithLamp_129 ?_
  obtain ⟨_, ea, hM⟩ := lt_ex hM
  refine J.cong C ea ?_
  refine J.aload_n (pc := 132) C dX5_goWithLamp_132 rfl rfl ?_
  refine gf_X5_26_8 (pc := 133) C tf_X5_36 dX5_goWithLamp_133 ?_
  refine J.iload_n (pc := 136) C dX5_goWithLamp_136 rfl rfl ?_
  refine J.iload (pc := 137) C dX5_goWithLamp_137 rfl ?_
  refine J.callS3v (pc := 139) C (K_X4_put (ia_35 q cI) _ _ _) lk_X4_put tm_X5_69 ⟨Nat.le_of_ble_eq_true rfl, Nat.le_of_ble_eq_true rfl⟩ (Nat.le_of_ble_eq_true rfl) dX5_goWithLamp_139 ?_
  obtain ⟨_, ea, hM⟩ := lt_ex hM
  refine J.cong C ea ?_
  refine J.aload_n (pc := 142) C dX5_goWithLamp_142 rfl rfl ?_
  refine gf_X5_26_9 (pc := 143) C tf_X5_39 dX5_goWithLamp_143 ?_
  refine J.iload_n (pc := 146) C dX5_goWithLamp_146 rfl rfl ?_
  refine J.iload (pc := 147) C dX5_goWithLamp_147 rfl ?_
  refine J.iload (pc := 149) C dX5_goWithLamp_149 rfl ?_
  refine J.isub (pc := 151) C dX5_goWithLamp_151 ?_
  refine J.callS3v (pc := 152) C (K_X4_put (ia_36 q cI) _ _ _) lk_X4_put tm_X5_69 ⟨Nat.le_of_ble_eq_true rfl, Nat.le_of_ble_eq_true rfl⟩ (Nat.le_of_ble_eq_true rfl) dX5_goWithLamp_152 ?_
  obtain ⟨_, ea, hM⟩ := lt_ex hM
  refine J.cong C ea ?_
  refine J.aload_n (pc := 155) C dX5_goWithLamp_155 rfl rfl ?_
  refine J.dup (pc := 156) C dX5_goWithLamp_156 rfl ?_
  refine gf_X5_26_15 (pc := 157) C tf_X5_101 dX5_goWithLamp_157 ?_
  refine J.iconst (pc := 160) C 1 dX5_goWithLamp_160 ic_1 ?_
  refine J.iadd (pc := 161) C dX5_goWithLamp_161 ?_
  refine pf_X5_26_15 (pc := 162) C tf_X5_101 dX5_goWithLamp_162 ?_
  obtain ⟨_, ea, hM⟩ := lt_ex hM
  refine J.cong C ea ?_
  refine J.aload_n (pc := 165) C dX5_goWithLamp_165 rfl rfl ?_
  refine J.iload_n (pc := 166) C dX5_goWithLamp_166 rfl rfl ?_
  refine pf_X5_26_16 (pc := 167) C tf_X5_104 dX5_goWithLamp_167 ?_
  obtain ⟨_, ea, hM⟩ := lt_ex hM
  refine J.cong C ea ?_
  exact hret dX5_goWithLamp_170 hM
def U_X5_goWithLamp (a : Nat) (x2 x3 : Int32) (g : Sg) : Sg := let x4_1 := (rat g 35 2 x3); let x5_2 := (rat g 36 2 x3); let x6_3 := (V_X0_carriesTo a x2 x4_1 g); let x7_4 := (V_X0_bringsTo a x2 x6_3 g); let x8_5 := ((iabs (x6_3 - x4_1)) + (iabs (x7_4 - x6_3))); let x9_6 := ((iabs (x4_1 - (rat g (a + 4) 7 x2))) + (iabs ((rat g (a + 5) 7 x2) - x6_3))); let g_7 := (rput g 27 7 x2 ((x9_6 + x8_5) - (imin x8_5 x5_2))); let g_8 := (rput g_7 28 7 x2 (imin x8_5 x5_2)); let g_9 := (rput g_8 31 7 x2 1); let g_10 := (rput g_9 35 2 x3 x7_4); let g_11 := (rput g_10 36 2 x3 (x5_2 - (imin x8_5 x5_2))); let g_12 := (sI g_11 31 ((g_11.1 31) + 1)); let g_13 := (sI g_12 32 x2); g_13
theorem E_X5_goWithLamp (a : Nat) (x2 x3 : Int32) (g : Sg) : M_X5_goWithLamp a x2 x3 g = some (U_X5_goWithLamp a x2 x3 g) := by
  unfold M_X5_goWithLamp U_X5_goWithLamp
  first | rfl | ((try dsimp only [lt]); (repeat' split) <;> rfl)
theorem K_X5_goWithLamp {l : Launch} {D : va_G} {q : Nat → Nat} {cI : ClassId} {z : Nat} {a : Nat} (ha : isAl a) (x2 x3 : Int32) (g : Sg) : CTv l (EC z) D cI (cW q cI) yX5_goWithLamp cX5_goWithLamp 11 3 63 [.ref (q 26), .ref (q a), .int x2, .int x3] g (U_X5_goWithLamp a x2 x3 g) := C_X5_goWithLamp ha (E_X5_goWithLamp a x2 x3 g)
def B_X5_go_40 (a : Nat) (x2 : Int32) (g : Sg) : Option Sg := lt ((rat g 27 7 x2) * (V_X0_darkStepCosts a x2 g)) (fun x4_6 => lt (rput g 29 7 x2 x4_6) (fun g_7 => lt (sI g_7 28 ((g_7.1 28) + x4_6)) (fun g_8 => lt (sI g_8 29 ((g_8.1 29) + (rat g_8 27 7 x2))) (fun g_9 => lt (sI g_9 30 ((g_9.1 30) + (rat g_9 28 7 x2))) (fun g_10 => lt (rput g_10 32 7 (g_10.1 27) x2) (fun g_11 => lt (rput g_11 33 7 (g_11.1 27) (V_X5_firstLamp g_11)) (fun g_12 => lt (sI g_12 27 ((g_12.1 27) + 1)) (fun g_13 => some g_13))))))))
def M_X5_go (a : Nat) (x2 : Int32) (g : Sg) : Option Sg := lt (rput g 30 7 x2 (V_X5_firstLamp g)) (fun g_1 => bI (M_X5_lampThatHeHas a x2 g_1) (fun r_2 g_3 => (if r_2 = (-1) then lt (U_X5_goInTheDark a x2 g_3) (fun g_5 => B_X5_go_40 a x2 g_5) else lt (U_X5_goWithLamp a x2 r_2 g_3) (fun g_4 => B_X5_go_40 a x2 g_4))))
set_option maxRecDepth 100000 in
set_option maxHeartbeats 4000000 in
theorem C_X5_go {l : Launch} {D : va_G} {q : Nat → Nat} {cI : ClassId} {z : Nat} {a : Nat} (ha : isAl a) {x2 : Int32} {g : Sg} {r : Sg} (h : M_X5_go a x2 g = some r) : CTv l (EC z) D cI (cW q cI) yX5_go cX5_go 5 4 93 [.ref (q 26), .ref (q a), .int x2] g r := by
  refine CTv.of2 (by decide) (EC_ok z) (Nat.le_of_ble_eq_true rfl) rfl (fun p e s m args below meth c A Q C hret => ?_)
  have jb40 : ∀ (x2 : Int32) (g : Sg), B_X5_go_40 a x2 g = some r → J p l e (RM 4 93) s m args below meth c D (cW q cI) A 5 Q g 40 [(0, .ref (q 26)), (1, .ref (q a)), (2, .int x2)] [] := by
    intro x2 g hM
    unfold B_X5_go_40 at hM
    refine J.aload_n (pc := 40) C dX5_go_40 rfl rfl ?_
    refine gf_X5_26_0 (pc := 41) C tf_X5_9 dX5_go_41 ?_
    refine J.iload_n (pc := 44) C dX5_go_44 rfl rfl ?_
    refine J.callS2i (pc := 45) C (K_X4_at (ia_27 q cI) _ _) lk_X4_at tm_X5_42 ⟨Nat.le_of_ble_eq_true rfl, Nat.le_of_ble_eq_true rfl⟩ (Nat.le_of_ble_eq_true rfl) dX5_go_45 ?_
    refine J.aload_n (pc := 48) C dX5_go_48 rfl rfl ?_
    refine J.iload_n (pc := 49) C dX5_go_49 rfl rfl ?_
    refine J.callV1i (pc := 50) C (K_X0_darkStepCosts ha _ _) lk_X0_darkStepCosts tm_X5_118 (io_al q cI ha) ⟨Nat.le_of_ble_eq_true rfl, Nat.le_of_ble_eq_true rfl⟩ (Nat.le_of_ble_eq_true rfl) dX5_go_50 ?_
    refine J.imul (pc := 53) C dX5_go_53 ?_
    obtain ⟨_, ea, hM⟩ := lt_ex hM
    refine J.istoreV (pc := 54) C dX5_go_54 (by decide) ea ?_
    refine J.aload_n (pc := 56) C dX5_go_56 rfl rfl ?_
    refine gf_X5_26_2 (pc := 57) C tf_X5_18 dX5_go_57 ?_
    refine J.iload_n (pc := 60) C dX5_go_60 rfl rfl ?_
    refine J.iload (pc := 61) C dX5_go_61 rfl ?_
    refine J.callS3v (pc := 63) C (K_X4_put (ia_29 q cI) _ _ _) lk_X4_put tm_X5_69 ⟨Nat.le_of_ble_eq_true rfl, Nat.le_of_ble_eq_true rfl⟩ (Nat.le_of_ble_eq_true rfl) dX5_go_63 ?_
    obtain ⟨_, ea, hM⟩ := lt_ex hM
    refine J.cong C ea ?_
    refine J.aload_n (pc := 66) C dX5_go_66 rfl rfl ?_
    refine J.dup (pc := 67) C dX5_go_67 rfl ?_
    refine gf_X5_26_12 (pc := 68) C tf_X5_73 dX5_go_68 ?_
    refine J.iload (pc := 71) C dX5_go_71 rfl ?_
    refine J.iadd (pc := 73) C dX5_go_73 ?_
    refine pf_X5_26_12 (pc := 74) C tf_X5_73 dX5_go_74 ?_
    obtain ⟨_, ea, hM⟩ := lt_ex hM
    refine J.cong C ea ?_
    refine J.aload_n (pc := 77) C dX5_go_77 rfl rfl ?_
    refine J.dup (pc := 78) C dX5_go_78 rfl ?_
    refine gf_X5_26_13 (pc := 79) C tf_X5_95 dX5_go_79 ?_
    refine J.aload_n (pc := 82) C dX5_go_82 rfl rfl ?_
    refine gf_X5_26_0 (pc := 83) C tf_X5_9 dX5_go_83 ?_
    refine J.iload_n (pc := 86) C dX5_go_86 rfl rfl ?_
    refine J.callS2i (pc := 87) C (K_X4_at (ia_27 q cI) _ _) lk_X4_at tm_X5_42 ⟨Nat.le_of_ble_eq_true rfl, Nat.le_of_ble_eq_true rfl⟩ (Nat.le_of_ble_eq_true rfl) dX5_go_87 ?_
    refine J.iadd (pc := 90) C dX5_go_90 ?_
    refine pf_X5_26_13 (pc := 91) C tf_X5_95 dX5_go_91 ?_
    obtain ⟨_, ea, hM⟩ := lt_ex hM
    refine J.cong C ea ?_
    refine J.aload_n (pc := 94) C dX5_go_94 rfl rfl ?_
    refine J.dup (pc := 95) C dX5_go_95 rfl ?_
    refine gf_X5_26_14 (pc := 96) C tf_X5_98 dX5_go_96 ?_
    refine J.aload_n (pc := 99) C dX5_go_99 rfl rfl ?_
    refine gf_X5_26_1 (pc := 100) C tf_X5_15 dX5_go_100 ?_
    refine J.iload_n (pc := 103) C dX5_go_103 rfl rfl ?_
    refine J.callS2i (pc := 104) C (K_X4_at (ia_28 q cI) _ _) lk_X4_at tm_X5_42 ⟨Nat.le_of_ble_eq_true rfl, Nat.le_of_ble_eq_true rfl⟩ (Nat.le_of_ble_eq_true rfl) dX5_go_104 ?_
    refine J.iadd (pc := 107) C dX5_go_107 ?_
    refine pf_X5_26_14 (pc := 108) C tf_X5_98 dX5_go_108 ?_
    obtain ⟨_, ea, hM⟩ := lt_ex hM
    refine J.cong C ea ?_
    refine J.aload_n (pc := 111) C dX5_go_111 rfl rfl ?_
    refine gf_X5_26_5 (pc := 112) C tf_X5_27 dX5_go_112 ?_
    refine J.aload_n (pc := 115) C dX5_go_115 rfl rfl ?_
    refine gf_X5_26_11 (pc := 116) C tf_X5_92 dX5_go_116 ?_
    refine J.iload_n (pc := 119) C dX5_go_119 rfl rfl ?_
    refine J.callS3v (pc := 120) C (K_X4_put (ia_32 q cI) _ _ _) lk_X4_put tm_X5_69 ⟨Nat.le_of_ble_eq_true rfl, Nat.le_of_ble_eq_true rfl⟩ (Nat.le_of_ble_eq_true rfl) dX5_go_120 ?_
    obtain ⟨_, ea, hM⟩ := lt_ex hM
    refine J.cong C ea ?_
    refine J.aload_n (pc := 123) C dX5_go_123 rfl rfl ?_
    refine gf_X5_26_6 (pc := 124) C tf_X5_30 dX5_go_124 ?_
    refine J.aload_n (pc := 127) C dX5_go_127 rfl rfl ?_
    refine gf_X5_26_11 (pc := 128) C tf_X5_92 dX5_go_128 ?_
    refine J.aload_n (pc := 131) C dX5_go_131 rfl rfl ?_
    refine J.callV0i (pc := 132) C (K_X5_firstLamp _) lk_X5_firstLamp tm_X5_65 (io_26 q cI) ⟨Nat.le_of_ble_eq_true rfl, Nat.le_of_ble_eq_true rfl⟩ (Nat.le_of_ble_eq_true rfl) dX5_go_132 ?_
    refine J.callS3v (pc := 135) C (K_X4_put (ia_33 q cI) _ _ _) lk_X4_put tm_X5_69 ⟨Nat.le_of_ble_eq_true rfl, Nat.le_of_ble_eq_true rfl⟩ (Nat.le_of_ble_eq_true rfl) dX5_go_135 ?_
    obtain ⟨_, ea, hM⟩ := lt_ex hM
    refine J.cong C ea ?_
    refine J.aload_n (pc := 138) C dX5_go_138 rfl rfl ?_
    refine J.dup (pc := 139) C dX5_go_139 rfl ?_
    refine gf_X5_26_11 (pc := 140) C tf_X5_92 dX5_go_140 ?_
    refine J.iconst (pc := 143) C 1 dX5_go_143 ic_1 ?_
    refine J.iadd (pc := 144) C dX5_go_144 ?_
    refine pf_X5_26_11 (pc := 145) C tf_X5_92 dX5_go_145 ?_
    obtain ⟨_, ea, hM⟩ := lt_ex hM
    refine J.cong C ea ?_
    exact hret dX5_go_148 hM
  have hM := h
  unfold M_X5_go at hM
  refine J.aload_n (pc := 0) C dX5_go_0 rfl rfl ?_
  refine gf_X5_26_3 (pc := 1) C tf_X5_21 dX5_go_1 ?_
  refine J.iload_n (pc := 4) C dX5_go_4 rfl rfl ?_
  refine J.aload_n (pc := 5) C dX5_go_5 rfl rfl ?_
  refine J.callV0i (pc := 6) C (K_X5_firstLamp _) lk_X5_firstLamp tm_X5_65 (io_26 q cI) ⟨Nat.le_of_ble_eq_true rfl, Nat.le_of_ble_eq_true rfl⟩ (Nat.le_of_ble_eq_true rfl) dX5_go_6 ?_
  refine J.callS3v (pc := 9) C (K_X4_put (ia_30 q cI) _ _ _) lk_X4_put tm_X5_69 ⟨Nat.le_of_ble_eq_true rfl, Nat.le_of_ble_eq_true rfl⟩ (Nat.le_of_ble_eq_true rfl) dX5_go_9 ?_
  obtain ⟨_, ea, hM⟩ := lt_ex hM
  refine J.cong C ea ?_
  refine J.aload_n (pc := 12) C dX5_go_12 rfl rfl ?_
  refine J.aload_n (pc := 13) C dX5_go_13 rfl rfl ?_
  refine J.iload_n (pc := 14) C dX5_go_14 rfl rfl ?_
  obtain ⟨_, _, h1, hM⟩ := bI_ex hM
  refine J.callV2i (pc := 15) C (C_X5_lampThatHeHas ha h1) lk_X5_lampThatHeHas tm_X5_107 (io_26 q cI) ⟨Nat.le_of_ble_eq_true rfl, Nat.le_of_ble_eq_true rfl⟩ (Nat.le_of_ble_eq_true rfl) dX5_go_15 ?_
  refine J.istore_n (pc := 18) C dX5_go_18 rfl (by decide) ?_
  refine J.iload_n (pc := 19) C dX5_go_19 rfl rfl ?_
  refine J.iconst (pc := 20) C (-1) dX5_go_20 ic_m1 ?_
  refine J.icmp_ne (pc := 21) C 33 dX5_go_21 (by decide) (fun hc => ?_) (fun hc => ?_)
  · have hM := ite_f hc hM
    refine J.aload_n (pc := 33) C dX5_go_33 rfl rfl ?_
    refine J.aload_n (pc := 34) C dX5_go_34 rfl rfl ?_
    refine J.iload_n (pc := 35) C dX5_go_35 rfl rfl ?_
    refine J.iload_n (pc := 36) C dX5_go_36 rfl rfl ?_
    refine J.callV3v (pc := 37) C (K_X5_goWithLamp ha _ _ _) lk_X5_goWithLamp tm_X5_114 (io_26 q cI) ⟨Nat.le_of_ble_eq_true rfl, Nat.le_of_ble_eq_true rfl⟩ (Nat.le_of_ble_eq_true rfl) dX5_go_37 ?_
    obtain ⟨_, ea, hM⟩ := lt_ex hM
    refine J.cong C ea ?_
    refine J.sub C [0, 1, 2] rfl ?_
    exact jb40 _ _ hM
  · have hM := ite_t hc hM
    refine J.aload_n (pc := 24) C dX5_go_24 rfl rfl ?_
    refine J.aload_n (pc := 25) C dX5_go_25 rfl rfl ?_
    refine J.iload_n (pc := 26) C dX5_go_26 rfl rfl ?_
    refine J.callV2v (pc := 27) C (K_X5_goInTheDark ha _ _) lk_X5_goInTheDark tm_X5_111 (io_26 q cI) ⟨Nat.le_of_ble_eq_true rfl, Nat.le_of_ble_eq_true rfl⟩ (Nat.le_of_ble_eq_true rfl) dX5_go_27 ?_
    obtain ⟨_, ea, hM⟩ := lt_ex hM
    refine J.cong C ea ?_
    refine J.goto (pc := 30) C 40 dX5_go_30 (by decide) ?_
    refine J.sub C [0, 1, 2] rfl ?_
    exact jb40 _ _ hM
def B_X5_byHours_47 (a : Nat) (kb7 : Int32 → Sg → Option (Int32 × Sg)) (x2 : Int32) (g : Sg) : Option (Int32 × Sg) := lt (rput g 34 12 x2 (V_X5_firstLamp g)) (fun g_3 => kb7 (x2 + 1) g_3)
def B_X5_byHours_15 (a : Nat) (kb7 : Int32 → Sg → Option (Int32 × Sg)) (kb15 : Int32 → Int32 → Sg → Option (Int32 × Sg)) (x2 x3 : Int32) (g : Sg) : Option (Int32 × Sg) := (if (g.1 a) ≤ x3 then B_X5_byHours_47 a kb7 x2 g else (if (rat g (a + 6) 7 x3) = x2 then bV (M_X5_go a x3 g) (fun g_2 => kb15 x2 (x3 + 1) g_2) else kb15 x2 (x3 + 1) g))
def B_X5_byHours_7 (a : Nat) (kb7 : Int32 → Sg → Option (Int32 × Sg)) (x2 : Int32) (g : Sg) : Option (Int32 × Sg) := (if 12 ≤ x2 then some (g.1 28, g) else lup2 (B_X5_byHours_15 a kb7 ) FU x2 0 g)
def M_X5_byHours (a : Nat) (g : Sg) : Option (Int32 × Sg) := bV (M_X5_begin a g) (fun g_1 => lup1 (B_X5_byHours_7 a ) FU 0 g_1)
set_option maxRecDepth 100000 in
set_option maxHeartbeats 4000000 in
theorem C_X5_byHours {l : Launch} {D : va_G} {q : Nat → Nat} {cI : ClassId} {z : Nat} {a : Nat} (ha : isAl a) {g : Sg} {r : Int32 × Sg} (h : M_X5_byHours a g = some r) : CTi l (EC z) D cI (cW q cI) yX5_byHours cX5_byHours 4 (some .int) 5 117 [.ref (q 26), .ref (q a)] g r := by
  refine CTi.of2 (by decide) (EC_ok z) (Nat.le_of_ble_eq_true rfl) rfl (fun p e s m args below meth c A Q C hret => ?_)
  have jb47 : ∀ (kb7 : Int32 → Sg → Option (Int32 × Sg)) (hkb7 : ∀ (x2 : Int32) (g : Sg), kb7 x2 g = some r → J p l e (RM 5 117) s m args below meth c D (cW q cI) A 4 Q g 7 [(0, .ref (q 26)), (1, .ref (q a)), (2, .int x2)] []) (x2 : Int32) (g : Sg), B_X5_byHours_47 a kb7 x2 g = some r → J p l e (RM 5 117) s m args below meth c D (cW q cI) A 4 Q g 47 [(0, .ref (q 26)), (1, .ref (q a)), (2, .int x2)] [] := by
    intro kb7 hkb7 x2 g hM
    unfold B_X5_byHours_47 at hM
    refine J.aload_n (pc := 47) C dX5_byHours_47 rfl rfl ?_
    refine gf_X5_26_7 (pc := 48) C tf_X5_33 dX5_byHours_48 ?_
    refine J.iload_n (pc := 51) C dX5_byHours_51 rfl rfl ?_
    refine J.aload_n (pc := 52) C dX5_byHours_52 rfl rfl ?_
    refine J.callV0i (pc := 53) C (K_X5_firstLamp _) lk_X5_firstLamp tm_X5_65 (io_26 q cI) ⟨Nat.le_of_ble_eq_true rfl, Nat.le_of_ble_eq_true rfl⟩ (Nat.le_of_ble_eq_true rfl) dX5_byHours_53 ?_
    refine J.callS3v (pc := 56) C (K_X4_put (ia_34 q cI) _ _ _) lk_X4_put tm_X5_69 ⟨Nat.le_of_ble_eq_true rfl, Nat.le_of_ble_eq_true rfl⟩ (Nat.le_of_ble_eq_true rfl) dX5_byHours_56 ?_
    obtain ⟨_, ea, hM⟩ := lt_ex hM
    refine J.cong C ea ?_
    refine J.iinc (pc := 59) C 1 dX5_byHours_59 ic_1 rfl (by decide) ?_
    refine J.goto (pc := 62) C 7 dX5_byHours_62 (by decide) ?_
    refine J.sub C [0, 1, 2] rfl ?_
    exact hkb7 _ _ hM
  have jb15 : ∀ (kb7 : Int32 → Sg → Option (Int32 × Sg)) (hkb7 : ∀ (x2 : Int32) (g : Sg), kb7 x2 g = some r → J p l e (RM 5 117) s m args below meth c D (cW q cI) A 4 Q g 7 [(0, .ref (q 26)), (1, .ref (q a)), (2, .int x2)] []) (kb15 : Int32 → Int32 → Sg → Option (Int32 × Sg)) (hkb15 : ∀ (x2 x3 : Int32) (g : Sg), kb15 x2 x3 g = some r → J p l e (RM 5 117) s m args below meth c D (cW q cI) A 4 Q g 15 [(0, .ref (q 26)), (1, .ref (q a)), (2, .int x2), (3, .int x3)] []) (x2 x3 : Int32) (g : Sg), B_X5_byHours_15 a kb7 kb15 x2 x3 g = some r → J p l e (RM 5 117) s m args below meth c D (cW q cI) A 4 Q g 15 [(0, .ref (q 26)), (1, .ref (q a)), (2, .int x2), (3, .int x3)] [] := by
    intro kb7 hkb7 kb15 hkb15 x2 x3 g hM
    unfold B_X5_byHours_15 at hM
    refine J.iload_n (pc := 15) C dX5_byHours_15 rfl rfl ?_
    refine J.aload_n (pc := 16) C dX5_byHours_16 rfl rfl ?_
    refine gf_X0_6 (pc := 17) ha C tf_X5_52 dX5_byHours_17 ?_
    refine J.icmp_ge (pc := 20) C 47 dX5_byHours_20 (by decide) (fun hc => ?_) (fun hc => ?_)
    · have hM := ite_t hc hM
      refine J.sub C [0, 1, 2] rfl ?_
      exact jb47 kb7 hkb7 _ _ hM
    · have hM := ite_f hc hM
      refine J.aload_n (pc := 23) C dX5_byHours_23 rfl rfl ?_
      refine gf_X0_5 (pc := 24) ha C tf_X5_58 dX5_byHours_24 ?_
      refine J.iload_n (pc := 27) C dX5_byHours_27 rfl rfl ?_
      refine J.callS2i (pc := 28) C (K_X4_at (ia_al6 q cI ha) _ _) lk_X4_at tm_X5_42 ⟨Nat.le_of_ble_eq_true rfl, Nat.le_of_ble_eq_true rfl⟩ (Nat.le_of_ble_eq_true rfl) dX5_byHours_28 ?_
      refine J.iload_n (pc := 31) C dX5_byHours_31 rfl rfl ?_
      refine J.icmp_ne (pc := 32) C 41 dX5_byHours_32 (by decide) (fun hc => ?_) (fun hc => ?_)
      · have hM := ite_f hc hM
        refine J.iinc (pc := 41) C 1 dX5_byHours_41 ic_1 rfl (by decide) ?_
        refine J.goto (pc := 44) C 15 dX5_byHours_44 (by decide) ?_
        refine J.sub C [0, 1, 2, 3] rfl ?_
        exact hkb15 _ _ _ hM
      · have hM := ite_t hc hM
        refine J.aload_n (pc := 35) C dX5_byHours_35 rfl rfl ?_
        refine J.aload_n (pc := 36) C dX5_byHours_36 rfl rfl ?_
        refine J.iload_n (pc := 37) C dX5_byHours_37 rfl rfl ?_
        obtain ⟨_, h1, hM⟩ := bV_ex hM
        refine J.callV2v (pc := 38) C (C_X5_go ha h1) lk_X5_go tm_X5_61 (io_26 q cI) ⟨Nat.le_of_ble_eq_true rfl, Nat.le_of_ble_eq_true rfl⟩ (Nat.le_of_ble_eq_true rfl) dX5_byHours_38 ?_
        refine J.iinc (pc := 41) C 1 dX5_byHours_41 ic_1 rfl (by decide) ?_
        refine J.goto (pc := 44) C 15 dX5_byHours_44 (by decide) ?_
        refine J.sub C [0, 1, 2, 3] rfl ?_
        exact hkb15 _ _ _ hM
  have jl15 : ∀ (kb7 : Int32 → Sg → Option (Int32 × Sg)) (hkb7 : ∀ (x2 : Int32) (g : Sg), kb7 x2 g = some r → J p l e (RM 5 117) s m args below meth c D (cW q cI) A 4 Q g 7 [(0, .ref (q 26)), (1, .ref (q a)), (2, .int x2)] []) (x2 x3 : Int32) (g : Sg), lup2 (B_X5_byHours_15 a kb7) FU x2 x3 g = some r → J p l e (RM 5 117) s m args below meth c D (cW q cI) A 4 Q g 15 [(0, .ref (q 26)), (1, .ref (q a)), (2, .int x2), (3, .int x3)] [] := 
    fun kb7 hkb7 => lup2_ok (P := fun x2 x3 g => J p l e (RM 5 117) s m args below meth c D (cW q cI) A 4 Q g 15 [(0, .ref (q 26)), (1, .ref (q a)), (2, .int x2), (3, .int x3)] []) (fun self hself => jb15 kb7 hkb7 self hself) FU
  have jb7 : ∀ (kb7 : Int32 → Sg → Option (Int32 × Sg)) (hkb7 : ∀ (x2 : Int32) (g : Sg), kb7 x2 g = some r → J p l e (RM 5 117) s m args below meth c D (cW q cI) A 4 Q g 7 [(0, .ref (q 26)), (1, .ref (q a)), (2, .int x2)] []) (x2 : Int32) (g : Sg), B_X5_byHours_7 a kb7 x2 g = some r → J p l e (RM 5 117) s m args below meth c D (cW q cI) A 4 Q g 7 [(0, .ref (q 26)), (1, .ref (q a)), (2, .int x2)] [] := by
    intro kb7 hkb7 x2 g hM
    unfold B_X5_byHours_7 at hM
    refine J.iload_n (pc := 7) C dX5_byHours_7 rfl rfl ?_
    refine J.bipush (pc := 8) C 12 dX5_byHours_8 bp_12 ?_
    refine J.icmp_ge (pc := 10) C 65 dX5_byHours_10 (by decide) (fun hc => ?_) (fun hc => ?_)
    · have hM := ite_t hc hM
      refine J.aload_n (pc := 65) C dX5_byHours_65 rfl rfl ?_
      refine gf_X5_26_12 (pc := 66) C tf_X5_73 dX5_byHours_66 ?_
      exact hret dX5_byHours_69 hM rfl
    · have hM := ite_f hc hM
      refine J.iconst (pc := 13) C 0 dX5_byHours_13 ic_0 ?_
      refine J.istore_n (pc := 14) C dX5_byHours_14 rfl (by decide) ?_
      refine J.sub C [0, 1, 2, 3] rfl ?_
      exact jl15 kb7 hkb7 _ _ _ hM
  have jl7 : ∀ (x2 : Int32) (g : Sg), lup1 (B_X5_byHours_7 a) FU x2 g = some r → J p l e (RM 5 117) s m args below meth c D (cW q cI) A 4 Q g 7 [(0, .ref (q 26)), (1, .ref (q a)), (2, .int x2)] [] := 
    lup1_ok (P := fun x2 g => J p l e (RM 5 117) s m args below meth c D (cW q cI) A 4 Q g 7 [(0, .ref (q 26)), (1, .ref (q a)), (2, .int x2)] []) (fun self hself => jb7 self hself) FU
  have hM := h
  unfold M_X5_byHours at hM
  refine J.aload_n (pc := 0) C dX5_byHours_0 rfl rfl ?_
  refine J.aload_n (pc := 1) C dX5_byHours_1 rfl rfl ?_
  obtain ⟨_, h1, hM⟩ := bV_ex hM
  refine J.callV1v (pc := 2) C (C_X5_begin ha h1) lk_X5_begin tm_X5_48 (io_26 q cI) ⟨Nat.le_of_ble_eq_true rfl, Nat.le_of_ble_eq_true rfl⟩ (Nat.le_of_ble_eq_true rfl) dX5_byHours_2 ?_
  refine J.iconst (pc := 5) C 0 dX5_byHours_5 ic_0 ?_
  refine J.istore_n (pc := 6) C dX5_byHours_6 rfl (by decide) ?_
  refine J.sub C [0, 1, 2] rfl ?_
  exact jl7 _ _ hM
def B_X5_inOrder_7 (a : Nat) (k1 n1 : Nat) (kb7 : Int32 → Sg → Option (Int32 × Sg)) (x3 : Int32) (g : Sg) : Option (Int32 × Sg) := (if (g.1 a) ≤ x3 then some (g.1 28, g) else bV (M_X5_go a (rat g k1 n1 x3) g) (fun g_2 => kb7 (x3 + 1) g_2))
def M_X5_inOrder (a : Nat) (k1 n1 : Nat) (g : Sg) : Option (Int32 × Sg) := bV (M_X5_begin a g) (fun g_1 => lup1 (B_X5_inOrder_7 a k1 n1 ) FU 0 g_1)
set_option maxRecDepth 100000 in
set_option maxHeartbeats 4000000 in
theorem C_X5_inOrder {l : Launch} {D : va_G} {q : Nat → Nat} {cI : ClassId} {z : Nat} {a : Nat} {k1 n1 : Nat} (ha : isAl a) (hk1 : isArr (cW q cI) cI (q k1) k1 n1) {g : Sg} {r : Int32 × Sg} (h : M_X5_inOrder a k1 n1 g = some r) : CTi l (EC z) D cI (cW q cI) yX5_inOrder cX5_inOrder 4 (some .int) 5 117 [.ref (q 26), .ref (q a), .ref (q k1)] g r := by
  refine CTi.of2 (by decide) (EC_ok z) (Nat.le_of_ble_eq_true rfl) rfl (fun p e s m args below meth c A Q C hret => ?_)
  have jb7 : ∀ (kb7 : Int32 → Sg → Option (Int32 × Sg)) (hkb7 : ∀ (x3 : Int32) (g : Sg), kb7 x3 g = some r → J p l e (RM 5 117) s m args below meth c D (cW q cI) A 4 Q g 7 [(0, .ref (q 26)), (1, .ref (q a)), (2, .ref (q k1)), (3, .int x3)] []) (x3 : Int32) (g : Sg), B_X5_inOrder_7 a k1 n1 kb7 x3 g = some r → J p l e (RM 5 117) s m args below meth c D (cW q cI) A 4 Q g 7 [(0, .ref (q 26)), (1, .ref (q a)), (2, .ref (q k1)), (3, .int x3)] [] := by
    intro kb7 hkb7 x3 g hM
    unfold B_X5_inOrder_7 at hM
    refine J.iload_n (pc := 7) C dX5_inOrder_7 rfl rfl ?_
    refine J.aload_n (pc := 8) C dX5_inOrder_8 rfl rfl ?_
    refine gf_X0_6 (pc := 9) ha C tf_X5_52 dX5_inOrder_9 ?_
    refine J.icmp_ge (pc := 12) C 31 dX5_inOrder_12 (by decide) (fun hc => ?_) (fun hc => ?_)
    · have hM := ite_t hc hM
      refine J.aload_n (pc := 31) C dX5_inOrder_31 rfl rfl ?_
      refine gf_X5_26_12 (pc := 32) C tf_X5_73 dX5_inOrder_32 ?_
      exact hret dX5_inOrder_35 hM rfl
    · have hM := ite_f hc hM
      refine J.aload_n (pc := 15) C dX5_inOrder_15 rfl rfl ?_
      refine J.aload_n (pc := 16) C dX5_inOrder_16 rfl rfl ?_
      refine J.aload_n (pc := 17) C dX5_inOrder_17 rfl rfl ?_
      refine J.iload_n (pc := 18) C dX5_inOrder_18 rfl rfl ?_
      refine J.callS2i (pc := 19) C (K_X4_at hk1 _ _) lk_X4_at tm_X5_42 ⟨Nat.le_of_ble_eq_true rfl, Nat.le_of_ble_eq_true rfl⟩ (Nat.le_of_ble_eq_true rfl) dX5_inOrder_19 ?_
      obtain ⟨_, h1, hM⟩ := bV_ex hM
      refine J.callV2v (pc := 22) C (C_X5_go ha h1) lk_X5_go tm_X5_61 (io_26 q cI) ⟨Nat.le_of_ble_eq_true rfl, Nat.le_of_ble_eq_true rfl⟩ (Nat.le_of_ble_eq_true rfl) dX5_inOrder_22 ?_
      refine J.iinc (pc := 25) C 1 dX5_inOrder_25 ic_1 rfl (by decide) ?_
      refine J.goto (pc := 28) C 7 dX5_inOrder_28 (by decide) ?_
      refine J.sub C [0, 1, 2, 3] rfl ?_
      exact hkb7 _ _ hM
  have jl7 : ∀ (x3 : Int32) (g : Sg), lup1 (B_X5_inOrder_7 a k1 n1) FU x3 g = some r → J p l e (RM 5 117) s m args below meth c D (cW q cI) A 4 Q g 7 [(0, .ref (q 26)), (1, .ref (q a)), (2, .ref (q k1)), (3, .int x3)] [] := 
    lup1_ok (P := fun x3 g => J p l e (RM 5 117) s m args below meth c D (cW q cI) A 4 Q g 7 [(0, .ref (q 26)), (1, .ref (q a)), (2, .ref (q k1)), (3, .int x3)] []) (fun self hself => jb7 self hself) FU
  have hM := h
  unfold M_X5_inOrder at hM
  refine J.aload_n (pc := 0) C dX5_inOrder_0 rfl rfl ?_
  refine J.aload_n (pc := 1) C dX5_inOrder_1 rfl rfl ?_
  obtain ⟨_, h1, hM⟩ := bV_ex hM
  refine J.callV1v (pc := 2) C (C_X5_begin ha h1) lk_X5_begin tm_X5_48 (io_26 q cI) ⟨Nat.le_of_ble_eq_true rfl, Nat.le_of_ble_eq_true rfl⟩ (Nat.le_of_ble_eq_true rfl) dX5_inOrder_2 ?_
  refine J.iconst (pc := 5) C 0 dX5_inOrder_5 ic_0 ?_
  refine J.istore_n (pc := 6) C dX5_inOrder_6 rfl (by decide) ?_
  refine J.sub C [0, 1, 2, 3] rfl ?_
  exact jl7 _ _ hM
