def cW (q : Nat → Nat) (cI : ClassId) (g : Sg) : va_W := [(q 0, .inr (5, [.ref (q 3), .ref (q 10), .ref (q 17), .ref (q 24), .ref (q 26), .ref (q 37), .ref (q 40), .ref (q 1), .int (g.1 0), .ref (q 2), .int (g.1 1)])), (q 1, .inl (cI, 12, .inl (g.2 1))), (q 2, .inl (cI, 7, .inl (g.2 2))), (q 3, .inr (0, [.ref (q 4), .ref (q 5), .ref (q 6), .ref (q 7), .ref (q 8), .ref (q 9), .int (g.1 3), .int (g.1 4)])), (q 4, .inl (cI, 3, .inl (g.2 4))), (q 5, .inl (cI, 7, .inl (g.2 5))), (q 6, .inl (cI, 7, .inl (g.2 6))), (q 7, .inl (cI, 7, .inl (g.2 7))), (q 8, .inl (cI, 7, .inl (g.2 8))), (q 9, .inl (cI, 7, .inl (g.2 9))), (q 10, .inr (0, [.ref (q 11), .ref (q 12), .ref (q 13), .ref (q 14), .ref (q 15), .ref (q 16), .int (g.1 10), .int (g.1 11)])), (q 11, .inl (cI, 3, .inl (g.2 11))), (q 12, .inl (cI, 7, .inl (g.2 12))), (q 13, .inl (cI, 7, .inl (g.2 13))), (q 14, .inl (cI, 7, .inl (g.2 14))), (q 15, .inl (cI, 7, .inl (g.2 15))), (q 16, .inl (cI, 7, .inl (g.2 16))), (q 17, .inr (0, [.ref (q 18), .ref (q 19), .ref (q 20), .ref (q 21), .ref (q 22), .ref (q 23), .int (g.1 17), .int (g.1 18)])), (q 18, .inl (cI, 3, .inl (g.2 18))), (q 19, .inl (cI, 7, .inl (g.2 19))), (q 20, .inl (cI, 7, .inl (g.2 20))), (q 21, .inl (cI, 7, .inl (g.2 21))), (q 22, .inl (cI, 7, .inl (g.2 22))), (q 23, .inl (cI, 7, .inl (g.2 23))), (q 24, .inr (2, [.ref (q 25), .int (g.1 24)])), (q 25, .inl (cI, 96, .inl (g.2 25))), (q 26, .inr (4, [.ref (q 27), .ref (q 28), .ref (q 29), .ref (q 30), .ref (q 31), .ref (q 32), .ref (q 33), .ref (q 34), .ref (q 35), .ref (q 36), .int (g.1 26), .int (g.1 27), .int (g.1 28), .int (g.1 29), .int (g.1 30), .int (g.1 31), .int (g.1 32)])), (q 27, .inl (cI, 7, .inl (g.2 27))), (q 28, .inl (cI, 7, .inl (g.2 28))), (q 29, .inl (cI, 7, .inl (g.2 29))), (q 30, .inl (cI, 7, .inl (g.2 30))), (q 31, .inl (cI, 7, .inl (g.2 31))), (q 32, .inl (cI, 7, .inl (g.2 32))), (q 33, .inl (cI, 7, .inl (g.2 33))), (q 34, .inl (cI, 12, .inl (g.2 34))), (q 35, .inl (cI, 2, .inl (g.2 35))), (q 36, .inl (cI, 2, .inl (g.2 36))), (q 37, .inr (3, [.ref (q 38), .int (g.1 37), .int (g.1 38), .ref (q 39)])), (q 38, .inl (cI, 7, .inl (g.2 38))), (q 39, .inl (cI, 7, .inl (g.2 39))), (q 40, .inr (1, [.ref (q 41), .ref (q 42), .ref (q 43)])), (q 41, .inl (cI, 7, .inl (g.2 41))), (q 42, .inl (cI, 128, .inl (g.2 42))), (q 43, .inl (cI, 128, .inl (g.2 43)))]
def mW (q : Nat → Nat) (cI : ClassId) (g : Sg) : va_W := [(q 0, .inr (6, [.int (g.1 0), .ref (q 1), .ref (q 2), .ref (q 3), .ref (q 4), .ref (q 5), .ref (q 6), .int (g.1 1), .ref (q 7), .int (g.1 2), .ref (q 8), .int (g.1 3), .ref (q 9), .ref (q 10), .int (g.1 4), .ref (q 11), .ref (q 12), .int (g.1 5), .ref (q 13), .int (g.1 6), .ref (q 14), .ref (q 15), .ref (q 16), .ref (q 17), .ref (q 18), .ref (q 19), .int (g.1 7), .ref (q 20), .ref (q 21), .ref (q 22), .ref (q 23)])), (q 1, .inl (cI, 7, .inl (g.2 1))), (q 2, .inl (cI, 7, .inl (g.2 2))), (q 3, .inl (cI, 7, .inl (g.2 3))), (q 4, .inl (cI, 7, .inl (g.2 4))), (q 5, .inl (cI, 7, .inl (g.2 5))), (q 6, .inl (cI, 3, .inl (g.2 6))), (q 7, .inl (cI, 96, .inl (g.2 7))), (q 8, .inl (cI, 8, .inl (g.2 8))), (q 9, .inl (cI, 12, .inl (g.2 9))), (q 10, .inl (cI, 7, .inl (g.2 10))), (q 11, .inl (cI, 39, .inl (g.2 11))), (q 12, .inl (cI, 39, .inl (g.2 12))), (q 13, .inl (cI, 7, .inl (g.2 13))), (q 14, .inl (cI, 2, .inl (g.2 14))), (q 15, .inl (cI, 2, .inl (g.2 15))), (q 16, .inl (cI, 7, .inl (g.2 16))), (q 17, .inl (cI, 7, .inl (g.2 17))), (q 18, .inl (cI, 7, .inl (g.2 18))), (q 19, .inl (cI, 7, .inl (g.2 19))), (q 20, .inl (cI, 12, .inl (g.2 20))), (q 21, .inl (cI, 7, .inl (g.2 21))), (q 22, .inl (cI, 7, .inl (g.2 22))), (q 23, .inl (cI, 128, .inl (g.2 23)))]
def isAl (a : Nat) : Prop := a = 3 ∨ a = 10 ∨ a = 17
theorem al_3 : isAl 3 := Or.inl rfl
theorem al_10 : isAl 10 := Or.inr (Or.inl rfl)
theorem al_17 : isAl 17 := Or.inr (Or.inr rfl)
theorem ia_1 (q : Nat → Nat) (cI : ClassId) : isArr (cW q cI) cI (q 1) 1 12 := ⟨Nat.le_of_ble_eq_true rfl, 1, fun g => ⟨rfl, fun f => rfl⟩⟩
theorem ia_2 (q : Nat → Nat) (cI : ClassId) : isArr (cW q cI) cI (q 2) 2 7 := ⟨Nat.le_of_ble_eq_true rfl, 2, fun g => ⟨rfl, fun f => rfl⟩⟩
theorem io_0 (q : Nat → Nat) (cI : ClassId) : isObj (cW q cI) (q 0) RX6 := ⟨0, 5, TX6, 11, rfl, fun g => ⟨_, rfl⟩⟩
theorem ia_4 (q : Nat → Nat) (cI : ClassId) : isArr (cW q cI) cI (q 4) 4 3 := ⟨Nat.le_of_ble_eq_true rfl, 4, fun g => ⟨rfl, fun f => rfl⟩⟩
theorem ia_5 (q : Nat → Nat) (cI : ClassId) : isArr (cW q cI) cI (q 5) 5 7 := ⟨Nat.le_of_ble_eq_true rfl, 5, fun g => ⟨rfl, fun f => rfl⟩⟩
theorem ia_6 (q : Nat → Nat) (cI : ClassId) : isArr (cW q cI) cI (q 6) 6 7 := ⟨Nat.le_of_ble_eq_true rfl, 6, fun g => ⟨rfl, fun f => rfl⟩⟩
theorem ia_7 (q : Nat → Nat) (cI : ClassId) : isArr (cW q cI) cI (q 7) 7 7 := ⟨Nat.le_of_ble_eq_true rfl, 7, fun g => ⟨rfl, fun f => rfl⟩⟩
theorem ia_8 (q : Nat → Nat) (cI : ClassId) : isArr (cW q cI) cI (q 8) 8 7 := ⟨Nat.le_of_ble_eq_true rfl, 8, fun g => ⟨rfl, fun f => rfl⟩⟩
theorem ia_9 (q : Nat → Nat) (cI : ClassId) : isArr (cW q cI) cI (q 9) 9 7 := ⟨Nat.le_of_ble_eq_true rfl, 9, fun g => ⟨rfl, fun f => rfl⟩⟩
theorem io_3 (q : Nat → Nat) (cI : ClassId) : isObj (cW q cI) (q 3) RX0 := ⟨3, 0, TX0, 8, rfl, fun g => ⟨_, rfl⟩⟩
theorem ia_11 (q : Nat → Nat) (cI : ClassId) : isArr (cW q cI) cI (q 11) 11 3 := ⟨Nat.le_of_ble_eq_true rfl, 11, fun g => ⟨rfl, fun f => rfl⟩⟩
theorem ia_12 (q : Nat → Nat) (cI : ClassId) : isArr (cW q cI) cI (q 12) 12 7 := ⟨Nat.le_of_ble_eq_true rfl, 12, fun g => ⟨rfl, fun f => rfl⟩⟩
theorem ia_13 (q : Nat → Nat) (cI : ClassId) : isArr (cW q cI) cI (q 13) 13 7 := ⟨Nat.le_of_ble_eq_true rfl, 13, fun g => ⟨rfl, fun f => rfl⟩⟩
theorem ia_14 (q : Nat → Nat) (cI : ClassId) : isArr (cW q cI) cI (q 14) 14 7 := ⟨Nat.le_of_ble_eq_true rfl, 14, fun g => ⟨rfl, fun f => rfl⟩⟩
theorem ia_15 (q : Nat → Nat) (cI : ClassId) : isArr (cW q cI) cI (q 15) 15 7 := ⟨Nat.le_of_ble_eq_true rfl, 15, fun g => ⟨rfl, fun f => rfl⟩⟩
theorem ia_16 (q : Nat → Nat) (cI : ClassId) : isArr (cW q cI) cI (q 16) 16 7 := ⟨Nat.le_of_ble_eq_true rfl, 16, fun g => ⟨rfl, fun f => rfl⟩⟩
theorem io_10 (q : Nat → Nat) (cI : ClassId) : isObj (cW q cI) (q 10) RX0 := ⟨10, 0, TX0, 8, rfl, fun g => ⟨_, rfl⟩⟩
theorem ia_18 (q : Nat → Nat) (cI : ClassId) : isArr (cW q cI) cI (q 18) 18 3 := ⟨Nat.le_of_ble_eq_true rfl, 18, fun g => ⟨rfl, fun f => rfl⟩⟩
theorem ia_19 (q : Nat → Nat) (cI : ClassId) : isArr (cW q cI) cI (q 19) 19 7 := ⟨Nat.le_of_ble_eq_true rfl, 19, fun g => ⟨rfl, fun f => rfl⟩⟩
theorem ia_20 (q : Nat → Nat) (cI : ClassId) : isArr (cW q cI) cI (q 20) 20 7 := ⟨Nat.le_of_ble_eq_true rfl, 20, fun g => ⟨rfl, fun f => rfl⟩⟩
theorem ia_21 (q : Nat → Nat) (cI : ClassId) : isArr (cW q cI) cI (q 21) 21 7 := ⟨Nat.le_of_ble_eq_true rfl, 21, fun g => ⟨rfl, fun f => rfl⟩⟩
theorem ia_22 (q : Nat → Nat) (cI : ClassId) : isArr (cW q cI) cI (q 22) 22 7 := ⟨Nat.le_of_ble_eq_true rfl, 22, fun g => ⟨rfl, fun f => rfl⟩⟩
theorem ia_23 (q : Nat → Nat) (cI : ClassId) : isArr (cW q cI) cI (q 23) 23 7 := ⟨Nat.le_of_ble_eq_true rfl, 23, fun g => ⟨rfl, fun f => rfl⟩⟩
theorem io_17 (q : Nat → Nat) (cI : ClassId) : isObj (cW q cI) (q 17) RX0 := ⟨17, 0, TX0, 8, rfl, fun g => ⟨_, rfl⟩⟩
theorem ia_25 (q : Nat → Nat) (cI : ClassId) : isArr (cW q cI) cI (q 25) 25 96 := ⟨Nat.le_of_ble_eq_true rfl, 25, fun g => ⟨rfl, fun f => rfl⟩⟩
theorem io_24 (q : Nat → Nat) (cI : ClassId) : isObj (cW q cI) (q 24) RX2 := ⟨24, 2, TX2, 2, rfl, fun g => ⟨_, rfl⟩⟩
theorem ia_27 (q : Nat → Nat) (cI : ClassId) : isArr (cW q cI) cI (q 27) 27 7 := ⟨Nat.le_of_ble_eq_true rfl, 27, fun g => ⟨rfl, fun f => rfl⟩⟩
theorem ia_28 (q : Nat → Nat) (cI : ClassId) : isArr (cW q cI) cI (q 28) 28 7 := ⟨Nat.le_of_ble_eq_true rfl, 28, fun g => ⟨rfl, fun f => rfl⟩⟩
theorem ia_29 (q : Nat → Nat) (cI : ClassId) : isArr (cW q cI) cI (q 29) 29 7 := ⟨Nat.le_of_ble_eq_true rfl, 29, fun g => ⟨rfl, fun f => rfl⟩⟩
theorem ia_30 (q : Nat → Nat) (cI : ClassId) : isArr (cW q cI) cI (q 30) 30 7 := ⟨Nat.le_of_ble_eq_true rfl, 30, fun g => ⟨rfl, fun f => rfl⟩⟩
theorem ia_31 (q : Nat → Nat) (cI : ClassId) : isArr (cW q cI) cI (q 31) 31 7 := ⟨Nat.le_of_ble_eq_true rfl, 31, fun g => ⟨rfl, fun f => rfl⟩⟩
theorem ia_32 (q : Nat → Nat) (cI : ClassId) : isArr (cW q cI) cI (q 32) 32 7 := ⟨Nat.le_of_ble_eq_true rfl, 32, fun g => ⟨rfl, fun f => rfl⟩⟩
theorem ia_33 (q : Nat → Nat) (cI : ClassId) : isArr (cW q cI) cI (q 33) 33 7 := ⟨Nat.le_of_ble_eq_true rfl, 33, fun g => ⟨rfl, fun f => rfl⟩⟩
theorem ia_34 (q : Nat → Nat) (cI : ClassId) : isArr (cW q cI) cI (q 34) 34 12 := ⟨Nat.le_of_ble_eq_true rfl, 34, fun g => ⟨rfl, fun f => rfl⟩⟩
theorem ia_35 (q : Nat → Nat) (cI : ClassId) : isArr (cW q cI) cI (q 35) 35 2 := ⟨Nat.le_of_ble_eq_true rfl, 35, fun g => ⟨rfl, fun f => rfl⟩⟩
theorem ia_36 (q : Nat → Nat) (cI : ClassId) : isArr (cW q cI) cI (q 36) 36 2 := ⟨Nat.le_of_ble_eq_true rfl, 36, fun g => ⟨rfl, fun f => rfl⟩⟩
theorem io_26 (q : Nat → Nat) (cI : ClassId) : isObj (cW q cI) (q 26) RX5 := ⟨26, 4, TX5, 17, rfl, fun g => ⟨_, rfl⟩⟩
theorem ia_38 (q : Nat → Nat) (cI : ClassId) : isArr (cW q cI) cI (q 38) 38 7 := ⟨Nat.le_of_ble_eq_true rfl, 38, fun g => ⟨rfl, fun f => rfl⟩⟩
theorem ia_39 (q : Nat → Nat) (cI : ClassId) : isArr (cW q cI) cI (q 39) 39 7 := ⟨Nat.le_of_ble_eq_true rfl, 39, fun g => ⟨rfl, fun f => rfl⟩⟩
theorem io_37 (q : Nat → Nat) (cI : ClassId) : isObj (cW q cI) (q 37) RX3 := ⟨37, 3, TX3, 4, rfl, fun g => ⟨_, rfl⟩⟩
theorem ia_41 (q : Nat → Nat) (cI : ClassId) : isArr (cW q cI) cI (q 41) 41 7 := ⟨Nat.le_of_ble_eq_true rfl, 41, fun g => ⟨rfl, fun f => rfl⟩⟩
theorem ia_42 (q : Nat → Nat) (cI : ClassId) : isArr (cW q cI) cI (q 42) 42 128 := ⟨Nat.le_of_ble_eq_true rfl, 42, fun g => ⟨rfl, fun f => rfl⟩⟩
theorem ia_43 (q : Nat → Nat) (cI : ClassId) : isArr (cW q cI) cI (q 43) 43 128 := ⟨Nat.le_of_ble_eq_true rfl, 43, fun g => ⟨rfl, fun f => rfl⟩⟩
theorem io_40 (q : Nat → Nat) (cI : ClassId) : isObj (cW q cI) (q 40) RX1 := ⟨40, 1, TX1, 3, rfl, fun g => ⟨_, rfl⟩⟩
theorem ia_al1 (q : Nat → Nat) (cI : ClassId) {a : Nat} (ha : isAl a) : isArr (cW q cI) cI (q (a + 1)) (a + 1) 3 := by
  rcases ha with rfl | rfl | rfl
  · exact ia_4 q cI
  · exact ia_11 q cI
  · exact ia_18 q cI
theorem ia_al2 (q : Nat → Nat) (cI : ClassId) {a : Nat} (ha : isAl a) : isArr (cW q cI) cI (q (a + 2)) (a + 2) 7 := by
  rcases ha with rfl | rfl | rfl
  · exact ia_5 q cI
  · exact ia_12 q cI
  · exact ia_19 q cI
theorem ia_al3 (q : Nat → Nat) (cI : ClassId) {a : Nat} (ha : isAl a) : isArr (cW q cI) cI (q (a + 3)) (a + 3) 7 := by
  rcases ha with rfl | rfl | rfl
  · exact ia_6 q cI
  · exact ia_13 q cI
  · exact ia_20 q cI
theorem ia_al4 (q : Nat → Nat) (cI : ClassId) {a : Nat} (ha : isAl a) : isArr (cW q cI) cI (q (a + 4)) (a + 4) 7 := by
  rcases ha with rfl | rfl | rfl
  · exact ia_7 q cI
  · exact ia_14 q cI
  · exact ia_21 q cI
theorem ia_al5 (q : Nat → Nat) (cI : ClassId) {a : Nat} (ha : isAl a) : isArr (cW q cI) cI (q (a + 5)) (a + 5) 7 := by
  rcases ha with rfl | rfl | rfl
  · exact ia_8 q cI
  · exact ia_15 q cI
  · exact ia_22 q cI
theorem ia_al6 (q : Nat → Nat) (cI : ClassId) {a : Nat} (ha : isAl a) : isArr (cW q cI) cI (q (a + 6)) (a + 6) 7 := by
  rcases ha with rfl | rfl | rfl
  · exact ia_9 q cI
  · exact ia_16 q cI
  · exact ia_23 q cI
theorem io_al (q : Nat → Nat) (cI : ClassId) {a : Nat} (ha : isAl a) : isObj (cW q cI) (q a) RX0 := by
  rcases ha with rfl | rfl | rfl
  · exact io_3 q cI
  · exact io_10 q cI
  · exact io_17 q cI
theorem im_1 (q : Nat → Nat) (cI : ClassId) : isArr (mW q cI) cI (q 1) 1 7 := ⟨Nat.le_of_ble_eq_true rfl, 1, fun g => ⟨rfl, fun f => rfl⟩⟩
theorem im_2 (q : Nat → Nat) (cI : ClassId) : isArr (mW q cI) cI (q 2) 2 7 := ⟨Nat.le_of_ble_eq_true rfl, 2, fun g => ⟨rfl, fun f => rfl⟩⟩
theorem im_3 (q : Nat → Nat) (cI : ClassId) : isArr (mW q cI) cI (q 3) 3 7 := ⟨Nat.le_of_ble_eq_true rfl, 3, fun g => ⟨rfl, fun f => rfl⟩⟩
theorem im_4 (q : Nat → Nat) (cI : ClassId) : isArr (mW q cI) cI (q 4) 4 7 := ⟨Nat.le_of_ble_eq_true rfl, 4, fun g => ⟨rfl, fun f => rfl⟩⟩
theorem im_5 (q : Nat → Nat) (cI : ClassId) : isArr (mW q cI) cI (q 5) 5 7 := ⟨Nat.le_of_ble_eq_true rfl, 5, fun g => ⟨rfl, fun f => rfl⟩⟩
theorem im_6 (q : Nat → Nat) (cI : ClassId) : isArr (mW q cI) cI (q 6) 6 3 := ⟨Nat.le_of_ble_eq_true rfl, 6, fun g => ⟨rfl, fun f => rfl⟩⟩
theorem im_7 (q : Nat → Nat) (cI : ClassId) : isArr (mW q cI) cI (q 7) 7 96 := ⟨Nat.le_of_ble_eq_true rfl, 7, fun g => ⟨rfl, fun f => rfl⟩⟩
theorem im_8 (q : Nat → Nat) (cI : ClassId) : isArr (mW q cI) cI (q 8) 8 8 := ⟨Nat.le_of_ble_eq_true rfl, 8, fun g => ⟨rfl, fun f => rfl⟩⟩
theorem im_9 (q : Nat → Nat) (cI : ClassId) : isArr (mW q cI) cI (q 9) 9 12 := ⟨Nat.le_of_ble_eq_true rfl, 9, fun g => ⟨rfl, fun f => rfl⟩⟩
theorem im_10 (q : Nat → Nat) (cI : ClassId) : isArr (mW q cI) cI (q 10) 10 7 := ⟨Nat.le_of_ble_eq_true rfl, 10, fun g => ⟨rfl, fun f => rfl⟩⟩
theorem im_11 (q : Nat → Nat) (cI : ClassId) : isArr (mW q cI) cI (q 11) 11 39 := ⟨Nat.le_of_ble_eq_true rfl, 11, fun g => ⟨rfl, fun f => rfl⟩⟩
theorem im_12 (q : Nat → Nat) (cI : ClassId) : isArr (mW q cI) cI (q 12) 12 39 := ⟨Nat.le_of_ble_eq_true rfl, 12, fun g => ⟨rfl, fun f => rfl⟩⟩
theorem im_13 (q : Nat → Nat) (cI : ClassId) : isArr (mW q cI) cI (q 13) 13 7 := ⟨Nat.le_of_ble_eq_true rfl, 13, fun g => ⟨rfl, fun f => rfl⟩⟩
theorem im_14 (q : Nat → Nat) (cI : ClassId) : isArr (mW q cI) cI (q 14) 14 2 := ⟨Nat.le_of_ble_eq_true rfl, 14, fun g => ⟨rfl, fun f => rfl⟩⟩
theorem im_15 (q : Nat → Nat) (cI : ClassId) : isArr (mW q cI) cI (q 15) 15 2 := ⟨Nat.le_of_ble_eq_true rfl, 15, fun g => ⟨rfl, fun f => rfl⟩⟩
theorem im_16 (q : Nat → Nat) (cI : ClassId) : isArr (mW q cI) cI (q 16) 16 7 := ⟨Nat.le_of_ble_eq_true rfl, 16, fun g => ⟨rfl, fun f => rfl⟩⟩
theorem im_17 (q : Nat → Nat) (cI : ClassId) : isArr (mW q cI) cI (q 17) 17 7 := ⟨Nat.le_of_ble_eq_true rfl, 17, fun g => ⟨rfl, fun f => rfl⟩⟩
theorem im_18 (q : Nat → Nat) (cI : ClassId) : isArr (mW q cI) cI (q 18) 18 7 := ⟨Nat.le_of_ble_eq_true rfl, 18, fun g => ⟨rfl, fun f => rfl⟩⟩
theorem im_19 (q : Nat → Nat) (cI : ClassId) : isArr (mW q cI) cI (q 19) 19 7 := ⟨Nat.le_of_ble_eq_true rfl, 19, fun g => ⟨rfl, fun f => rfl⟩⟩
theorem im_20 (q : Nat → Nat) (cI : ClassId) : isArr (mW q cI) cI (q 20) 20 12 := ⟨Nat.le_of_ble_eq_true rfl, 20, fun g => ⟨rfl, fun f => rfl⟩⟩
theorem im_21 (q : Nat → Nat) (cI : ClassId) : isArr (mW q cI) cI (q 21) 21 7 := ⟨Nat.le_of_ble_eq_true rfl, 21, fun g => ⟨rfl, fun f => rfl⟩⟩
theorem im_22 (q : Nat → Nat) (cI : ClassId) : isArr (mW q cI) cI (q 22) 22 7 := ⟨Nat.le_of_ble_eq_true rfl, 22, fun g => ⟨rfl, fun f => rfl⟩⟩
theorem im_23 (q : Nat → Nat) (cI : ClassId) : isArr (mW q cI) cI (q 23) 23 128 := ⟨Nat.le_of_ble_eq_true rfl, 23, fun g => ⟨rfl, fun f => rfl⟩⟩
theorem io_m (q : Nat → Nat) (cI : ClassId) : isObj (mW q cI) (q 0) RX7 := ⟨0, 6, TX7, 31, rfl, fun g => ⟨_, rfl⟩⟩
set_option maxRecDepth 100000 in
theorem inl_X0 : ∀ w ∈ u_ws RX0 TX0 8, w ∈ lw_tbl := by decide +kernel
theorem ing_X0 : ∀ w ∈ u_ws RX0 TX0 8, goodWord w = true := by decide +kernel
theorem in_X0 : ∀ w ∈ u_ws RX0 TX0 8, w ∈ TB := fun w h => List.mem_filter.mpr ⟨inl_X0 w h, ing_X0 w h⟩
set_option maxRecDepth 100000 in
theorem inl_X1 : ∀ w ∈ u_ws RX1 TX1 3, w ∈ lw_tbl := by decide +kernel
theorem ing_X1 : ∀ w ∈ u_ws RX1 TX1 3, goodWord w = true := by decide +kernel
theorem in_X1 : ∀ w ∈ u_ws RX1 TX1 3, w ∈ TB := fun w h => List.mem_filter.mpr ⟨inl_X1 w h, ing_X1 w h⟩
set_option maxRecDepth 100000 in
theorem inl_X2 : ∀ w ∈ u_ws RX2 TX2 2, w ∈ lw_tbl := by decide +kernel
theorem ing_X2 : ∀ w ∈ u_ws RX2 TX2 2, goodWord w = true := by decide +kernel
theorem in_X2 : ∀ w ∈ u_ws RX2 TX2 2, w ∈ TB := fun w h => List.mem_filter.mpr ⟨inl_X2 w h, ing_X2 w h⟩
set_option maxRecDepth 100000 in
theorem inl_X3 : ∀ w ∈ u_ws RX3 TX3 4, w ∈ lw_tbl := by decide +kernel
theorem ing_X3 : ∀ w ∈ u_ws RX3 TX3 4, goodWord w = true := by decide +kernel
theorem in_X3 : ∀ w ∈ u_ws RX3 TX3 4, w ∈ TB := fun w h => List.mem_filter.mpr ⟨inl_X3 w h, ing_X3 w h⟩
set_option maxRecDepth 100000 in
theorem inl_X5 : ∀ w ∈ u_ws RX5 TX5 17, w ∈ lw_tbl := by decide +kernel
theorem ing_X5 : ∀ w ∈ u_ws RX5 TX5 17, goodWord w = true := by decide +kernel
theorem in_X5 : ∀ w ∈ u_ws RX5 TX5 17, w ∈ TB := fun w h => List.mem_filter.mpr ⟨inl_X5 w h, ing_X5 w h⟩
set_option maxRecDepth 100000 in
theorem inl_X6 : ∀ w ∈ u_ws RX6 TX6 11, w ∈ lw_tbl := by decide +kernel
theorem ing_X6 : ∀ w ∈ u_ws RX6 TX6 11, goodWord w = true := by decide +kernel
theorem in_X6 : ∀ w ∈ u_ws RX6 TX6 11, w ∈ TB := fun w h => List.mem_filter.mpr ⟨inl_X6 w h, ing_X6 w h⟩
set_option maxRecDepth 100000 in
theorem inl_X7 : ∀ w ∈ u_ws RX7 TX7 31, w ∈ lw_tbl := by decide +kernel
theorem ing_X7 : ∀ w ∈ u_ws RX7 TX7 31, goodWord w = true := by decide +kernel
theorem in_X7 : ∀ w ∈ u_ws RX7 TX7 31, w ∈ TB := fun w h => List.mem_filter.mpr ⟨inl_X7 w h, ing_X7 w h⟩
theorem tf_X6_10 : Cond.fieldLink RX6 10 "LightAsFarAsThePump" "alley" "LLightAsFarAsThePump$Alley;" ∈ TB := tbm 240 (by decide +kernel) (by decide +kernel)
theorem tf_X6_16 : Cond.fieldLink RX6 16 "LightAsFarAsThePump" "image" "LLightAsFarAsThePump$Alley;" ∈ TB := tbm 241 (by decide +kernel) (by decide +kernel)
theorem tf_X6_19 : Cond.fieldLink RX6 19 "LightAsFarAsThePump" "trial" "LLightAsFarAsThePump$Alley;" ∈ TB := tbm 242 (by decide +kernel) (by decide +kernel)
theorem tf_X6_25 : Cond.fieldLink RX6 25 "LightAsFarAsThePump" "letters" "LLightAsFarAsThePump$Letters;" ∈ TB := tbm 243 (by decide +kernel) (by decide +kernel)
theorem tf_X6_32 : Cond.fieldLink RX6 32 "LightAsFarAsThePump" "walk" "LLightAsFarAsThePump$Walk;" ∈ TB := tbm 244 (by decide +kernel) (by decide +kernel)
theorem tf_X6_39 : Cond.fieldLink RX6 39 "LightAsFarAsThePump" "orders" "LLightAsFarAsThePump$Orders;" ∈ TB := tbm 245 (by decide +kernel) (by decide +kernel)
theorem tf_X6_46 : Cond.fieldLink RX6 46 "LightAsFarAsThePump" "debts" "LLightAsFarAsThePump$Debts;" ∈ TB := tbm 246 (by decide +kernel) (by decide +kernel)
theorem tf_X6_50 : Cond.fieldLink RX6 50 "LightAsFarAsThePump" "row" "[I" ∈ TB := tbm 247 (by decide +kernel) (by decide +kernel)
theorem tf_X6_54 : Cond.fieldLink RX6 54 "LightAsFarAsThePump" "refusals" "[I" ∈ TB := tbm 249 (by decide +kernel) (by decide +kernel)
theorem tf_X6_57 : Cond.fieldLink RX6 57 "LightAsFarAsThePump" "inRow" "I" ∈ TB := tbm 248 (by decide +kernel) (by decide +kernel)
theorem tf_X6_61 : Cond.fieldLink RX6 61 "LightAsFarAsThePump" "imageTaken" "Z" ∈ TB := tbm 250 (by decide +kernel) (by decide +kernel)
theorem tf_X6_69 : Cond.fieldLink RX6 69 "LightAsFarAsThePump$Letters" "size" "I" ∈ TB := tbm 122 (by decide +kernel) (by decide +kernel)
theorem tf_X6_88 : Cond.fieldLink RX6 88 "LightAsFarAsThePump$Alley" "kind" "[I" ∈ TB := tbm 76 (by decide +kernel) (by decide +kernel)
theorem tf_X6_97 : Cond.fieldLink RX6 97 "LightAsFarAsThePump$Alley" "figure" "[I" ∈ TB := tbm 78 (by decide +kernel) (by decide +kernel)
theorem tf_X6_100 : Cond.fieldLink RX6 100 "LightAsFarAsThePump$Alley" "from" "[I" ∈ TB := tbm 81 (by decide +kernel) (by decide +kernel)
theorem tf_X6_103 : Cond.fieldLink RX6 103 "LightAsFarAsThePump$Alley" "to" "[I" ∈ TB := tbm 84 (by decide +kernel) (by decide +kernel)
theorem tf_X6_106 : Cond.fieldLink RX6 106 "LightAsFarAsThePump$Alley" "hour" "[I" ∈ TB := tbm 88 (by decide +kernel) (by decide +kernel)
theorem tf_X6_119 : Cond.fieldLink RX6 119 "LightAsFarAsThePump$Alley" "setting" "[I" ∈ TB := tbm 74 (by decide +kernel) (by decide +kernel)
theorem tf_X6_129 : Cond.fieldLink RX6 129 "LightAsFarAsThePump$Walk" "allCost" "I" ∈ TB := tbm 157 (by decide +kernel) (by decide +kernel)
theorem tf_X6_132 : Cond.fieldLink RX6 132 "LightAsFarAsThePump$Walk" "allDark" "I" ∈ TB := tbm 159 (by decide +kernel) (by decide +kernel)
theorem tf_X6_135 : Cond.fieldLink RX6 135 "LightAsFarAsThePump$Walk" "allLight" "I" ∈ TB := tbm 161 (by decide +kernel) (by decide +kernel)
theorem tf_X6_145 : Cond.fieldLink RX6 145 "LightAsFarAsThePump$Walk" "takers" "I" ∈ TB := tbm 163 (by decide +kernel) (by decide +kernel)
theorem tf_X6_148 : Cond.fieldLink RX6 148 "LightAsFarAsThePump$Walk" "lastTaker" "I" ∈ TB := tbm 165 (by decide +kernel) (by decide +kernel)
theorem tf_X6_151 : Cond.fieldLink RX6 151 "LightAsFarAsThePump$Walk" "dark" "[I" ∈ TB := tbm 135 (by decide +kernel) (by decide +kernel)
theorem tf_X6_154 : Cond.fieldLink RX6 154 "LightAsFarAsThePump$Walk" "light" "[I" ∈ TB := tbm 137 (by decide +kernel) (by decide +kernel)
theorem tf_X6_157 : Cond.fieldLink RX6 157 "LightAsFarAsThePump$Walk" "cost" "[I" ∈ TB := tbm 139 (by decide +kernel) (by decide +kernel)
theorem tf_X6_160 : Cond.fieldLink RX6 160 "LightAsFarAsThePump$Walk" "stood" "[I" ∈ TB := tbm 141 (by decide +kernel) (by decide +kernel)
theorem tf_X6_163 : Cond.fieldLink RX6 163 "LightAsFarAsThePump$Walk" "had" "[I" ∈ TB := tbm 144 (by decide +kernel) (by decide +kernel)
theorem tf_X6_169 : Cond.fieldLink RX6 169 "LightAsFarAsThePump$Walk" "atEnd" "[I" ∈ TB := tbm 150 (by decide +kernel) (by decide +kernel)
theorem tf_X6_172 : Cond.fieldLink RX6 172 "LightAsFarAsThePump$Alley" "size" "I" ∈ TB := tbm 92 (by decide +kernel) (by decide +kernel)
theorem tf_X6_177 : Cond.fieldLink RX6 177 "LightAsFarAsThePump$Orders" "found" "Z" ∈ TB := tbm 212 (by decide +kernel) (by decide +kernel)
theorem tf_X6_180 : Cond.fieldLink RX6 180 "LightAsFarAsThePump$Orders" "leastCost" "I" ∈ TB := tbm 210 (by decide +kernel) (by decide +kernel)
theorem tf_X6_183 : Cond.fieldLink RX6 183 "LightAsFarAsThePump$Orders" "best" "[I" ∈ TB := tbm 208 (by decide +kernel) (by decide +kernel)
theorem tf_X6_198 : Cond.fieldLink RX6 198 "LightAsFarAsThePump$Alley" "secondLamp" "I" ∈ TB := tbm 95 (by decide +kernel) (by decide +kernel)
theorem tf_X6_205 : Cond.fieldLink RX6 205 "LightAsFarAsThePump$Debts" "net" "[I" ∈ TB := tbm 230 (by decide +kernel) (by decide +kernel)
theorem tf_X0_11 : Cond.fieldLink RX0 11 "LightAsFarAsThePump$Alley" "setting" "[I" ∈ TB := tbm 73 (by decide +kernel) (by decide +kernel)
theorem tf_X0_15 : Cond.fieldLink RX0 15 "LightAsFarAsThePump$Alley" "kind" "[I" ∈ TB := tbm 75 (by decide +kernel) (by decide +kernel)
theorem tf_X0_18 : Cond.fieldLink RX0 18 "LightAsFarAsThePump$Alley" "figure" "[I" ∈ TB := tbm 77 (by decide +kernel) (by decide +kernel)
theorem tf_X0_21 : Cond.fieldLink RX0 21 "LightAsFarAsThePump$Alley" "from" "[I" ∈ TB := tbm 79 (by decide +kernel) (by decide +kernel)
theorem tf_X0_24 : Cond.fieldLink RX0 24 "LightAsFarAsThePump$Alley" "to" "[I" ∈ TB := tbm 83 (by decide +kernel) (by decide +kernel)
theorem tf_X0_27 : Cond.fieldLink RX0 27 "LightAsFarAsThePump$Alley" "hour" "[I" ∈ TB := tbm 86 (by decide +kernel) (by decide +kernel)
theorem tf_X0_36 : Cond.fieldLink RX0 36 "LightAsFarAsThePump$Alley" "size" "I" ∈ TB := tbm 89 (by decide +kernel) (by decide +kernel)
theorem tf_X0_40 : Cond.fieldLink RX0 40 "LightAsFarAsThePump$Alley" "secondLamp" "I" ∈ TB := tbm 93 (by decide +kernel) (by decide +kernel)
theorem tf_X0_51 : Cond.fieldLink RX0 51 "LightAsFarAsThePump$Alley" "GREATEST_SETTING" "[I" ∈ TB := tbm 336 (by decide +kernel) (by decide +kernel)
theorem tf_X1_9 : Cond.fieldLink RX1 9 "LightAsFarAsThePump$Debts" "net" "[I" ∈ TB := tbm 229 (by decide +kernel) (by decide +kernel)
theorem tf_X1_15 : Cond.fieldLink RX1 15 "LightAsFarAsThePump$Debts" "sum" "[I" ∈ TB := tbm 231 (by decide +kernel) (by decide +kernel)
theorem tf_X1_18 : Cond.fieldLink RX1 18 "LightAsFarAsThePump$Debts" "groups" "[I" ∈ TB := tbm 232 (by decide +kernel) (by decide +kernel)
theorem tf_X1_27 : Cond.fieldLink RX1 27 "LightAsFarAsThePump$Walk" "went" "I" ∈ TB := tbm 154 (by decide +kernel) (by decide +kernel)
theorem tf_X1_33 : Cond.fieldLink RX1 33 "LightAsFarAsThePump$Walk" "whoWent" "[I" ∈ TB := tbm 146 (by decide +kernel) (by decide +kernel)
theorem tf_X1_40 : Cond.fieldLink RX1 40 "LightAsFarAsThePump$Walk" "had" "[I" ∈ TB := tbm 143 (by decide +kernel) (by decide +kernel)
theorem tf_X1_43 : Cond.fieldLink RX1 43 "LightAsFarAsThePump$Walk" "after" "[I" ∈ TB := tbm 148 (by decide +kernel) (by decide +kernel)
theorem tf_X1_50 : Cond.fieldLink RX1 50 "LightAsFarAsThePump$Alley" "from" "[I" ∈ TB := tbm 80 (by decide +kernel) (by decide +kernel)
theorem tf_X2_9 : Cond.fieldLink RX2 9 "LightAsFarAsThePump$Letters" "letter" "[I" ∈ TB := tbm 120 (by decide +kernel) (by decide +kernel)
theorem tf_X2_15 : Cond.fieldLink RX2 15 "LightAsFarAsThePump$Letters" "size" "I" ∈ TB := tbm 121 (by decide +kernel) (by decide +kernel)
theorem tf_X3_9 : Cond.fieldLink RX3 9 "LightAsFarAsThePump$Orders" "best" "[I" ∈ TB := tbm 207 (by decide +kernel) (by decide +kernel)
theorem tf_X3_15 : Cond.fieldLink RX3 15 "LightAsFarAsThePump$Orders" "order" "[I" ∈ TB := tbm 213 (by decide +kernel) (by decide +kernel)
theorem tf_X3_18 : Cond.fieldLink RX3 18 "LightAsFarAsThePump$Orders" "found" "Z" ∈ TB := tbm 211 (by decide +kernel) (by decide +kernel)
theorem tf_X3_22 : Cond.fieldLink RX3 22 "LightAsFarAsThePump$Orders" "leastCost" "I" ∈ TB := tbm 209 (by decide +kernel) (by decide +kernel)
theorem tf_X3_26 : Cond.fieldLink RX3 26 "LightAsFarAsThePump$Alley" "size" "I" ∈ TB := tbm 90 (by decide +kernel) (by decide +kernel)
theorem tf_X5_9 : Cond.fieldLink RX5 9 "LightAsFarAsThePump$Walk" "dark" "[I" ∈ TB := tbm 134 (by decide +kernel) (by decide +kernel)
theorem tf_X5_15 : Cond.fieldLink RX5 15 "LightAsFarAsThePump$Walk" "light" "[I" ∈ TB := tbm 136 (by decide +kernel) (by decide +kernel)
theorem tf_X5_18 : Cond.fieldLink RX5 18 "LightAsFarAsThePump$Walk" "cost" "[I" ∈ TB := tbm 138 (by decide +kernel) (by decide +kernel)
theorem tf_X5_21 : Cond.fieldLink RX5 21 "LightAsFarAsThePump$Walk" "stood" "[I" ∈ TB := tbm 140 (by decide +kernel) (by decide +kernel)
theorem tf_X5_24 : Cond.fieldLink RX5 24 "LightAsFarAsThePump$Walk" "had" "[I" ∈ TB := tbm 142 (by decide +kernel) (by decide +kernel)
theorem tf_X5_27 : Cond.fieldLink RX5 27 "LightAsFarAsThePump$Walk" "whoWent" "[I" ∈ TB := tbm 145 (by decide +kernel) (by decide +kernel)
theorem tf_X5_30 : Cond.fieldLink RX5 30 "LightAsFarAsThePump$Walk" "after" "[I" ∈ TB := tbm 147 (by decide +kernel) (by decide +kernel)
theorem tf_X5_33 : Cond.fieldLink RX5 33 "LightAsFarAsThePump$Walk" "atEnd" "[I" ∈ TB := tbm 149 (by decide +kernel) (by decide +kernel)
theorem tf_X5_36 : Cond.fieldLink RX5 36 "LightAsFarAsThePump$Walk" "lampCell" "[I" ∈ TB := tbm 151 (by decide +kernel) (by decide +kernel)
theorem tf_X5_39 : Cond.fieldLink RX5 39 "LightAsFarAsThePump$Walk" "lampOil" "[I" ∈ TB := tbm 152 (by decide +kernel) (by decide +kernel)
theorem tf_X5_52 : Cond.fieldLink RX5 52 "LightAsFarAsThePump$Alley" "size" "I" ∈ TB := tbm 91 (by decide +kernel) (by decide +kernel)
theorem tf_X5_58 : Cond.fieldLink RX5 58 "LightAsFarAsThePump$Alley" "hour" "[I" ∈ TB := tbm 87 (by decide +kernel) (by decide +kernel)
theorem tf_X5_73 : Cond.fieldLink RX5 73 "LightAsFarAsThePump$Walk" "allCost" "I" ∈ TB := tbm 156 (by decide +kernel) (by decide +kernel)
theorem tf_X5_76 : Cond.fieldLink RX5 76 "LightAsFarAsThePump$Walk" "lamps" "I" ∈ TB := tbm 153 (by decide +kernel) (by decide +kernel)
theorem tf_X5_89 : Cond.fieldLink RX5 89 "LightAsFarAsThePump$Alley" "secondLamp" "I" ∈ TB := tbm 94 (by decide +kernel) (by decide +kernel)
theorem tf_X5_92 : Cond.fieldLink RX5 92 "LightAsFarAsThePump$Walk" "went" "I" ∈ TB := tbm 155 (by decide +kernel) (by decide +kernel)
theorem tf_X5_95 : Cond.fieldLink RX5 95 "LightAsFarAsThePump$Walk" "allDark" "I" ∈ TB := tbm 158 (by decide +kernel) (by decide +kernel)
theorem tf_X5_98 : Cond.fieldLink RX5 98 "LightAsFarAsThePump$Walk" "allLight" "I" ∈ TB := tbm 160 (by decide +kernel) (by decide +kernel)
theorem tf_X5_101 : Cond.fieldLink RX5 101 "LightAsFarAsThePump$Walk" "takers" "I" ∈ TB := tbm 162 (by decide +kernel) (by decide +kernel)
theorem tf_X5_104 : Cond.fieldLink RX5 104 "LightAsFarAsThePump$Walk" "lastTaker" "I" ∈ TB := tbm 164 (by decide +kernel) (by decide +kernel)
theorem tf_X5_122 : Cond.fieldLink RX5 122 "LightAsFarAsThePump$Alley" "from" "[I" ∈ TB := tbm 82 (by decide +kernel) (by decide +kernel)
theorem tf_X5_143 : Cond.fieldLink RX5 143 "LightAsFarAsThePump$Alley" "to" "[I" ∈ TB := tbm 85 (by decide +kernel) (by decide +kernel)
theorem tf_X7_7 : Cond.fieldLink RX7 7 "LightAsFarAsThePumpModel" "kind" "[I" ∈ TB := tbm 639 (by decide +kernel) (by decide +kernel)
theorem tf_X7_13 : Cond.fieldLink RX7 13 "LightAsFarAsThePumpModel" "figure" "[I" ∈ TB := tbm 640 (by decide +kernel) (by decide +kernel)
theorem tf_X7_16 : Cond.fieldLink RX7 16 "LightAsFarAsThePumpModel" "from" "[I" ∈ TB := tbm 641 (by decide +kernel) (by decide +kernel)
theorem tf_X7_19 : Cond.fieldLink RX7 19 "LightAsFarAsThePumpModel" "to" "[I" ∈ TB := tbm 642 (by decide +kernel) (by decide +kernel)
theorem tf_X7_22 : Cond.fieldLink RX7 22 "LightAsFarAsThePumpModel" "hour" "[I" ∈ TB := tbm 643 (by decide +kernel) (by decide +kernel)
theorem tf_X7_25 : Cond.fieldLink RX7 25 "LightAsFarAsThePumpModel" "set" "[I" ∈ TB := tbm 644 (by decide +kernel) (by decide +kernel)
theorem tf_X7_28 : Cond.fieldLink RX7 28 "LightAsFarAsThePumpModel" "letter" "[I" ∈ TB := tbm 646 (by decide +kernel) (by decide +kernel)
theorem tf_X7_31 : Cond.fieldLink RX7 31 "LightAsFarAsThePumpModel" "value" "[I" ∈ TB := tbm 648 (by decide +kernel) (by decide +kernel)
theorem tf_X7_34 : Cond.fieldLink RX7 34 "LightAsFarAsThePumpModel" "row" "[I" ∈ TB := tbm 650 (by decide +kernel) (by decide +kernel)
theorem tf_X7_37 : Cond.fieldLink RX7 37 "LightAsFarAsThePumpModel" "refusals" "[I" ∈ TB := tbm 651 (by decide +kernel) (by decide +kernel)
theorem tf_X7_40 : Cond.fieldLink RX7 40 "LightAsFarAsThePumpModel" "old" "[I" ∈ TB := tbm 653 (by decide +kernel) (by decide +kernel)
theorem tf_X7_43 : Cond.fieldLink RX7 43 "LightAsFarAsThePumpModel" "ahead" "[I" ∈ TB := tbm 654 (by decide +kernel) (by decide +kernel)
theorem tf_X7_46 : Cond.fieldLink RX7 46 "LightAsFarAsThePumpModel" "order" "[I" ∈ TB := tbm 656 (by decide +kernel) (by decide +kernel)
theorem tf_X7_49 : Cond.fieldLink RX7 49 "LightAsFarAsThePumpModel" "lampAt" "[I" ∈ TB := tbm 658 (by decide +kernel) (by decide +kernel)
theorem tf_X7_52 : Cond.fieldLink RX7 52 "LightAsFarAsThePumpModel" "oil" "[I" ∈ TB := tbm 659 (by decide +kernel) (by decide +kernel)
theorem tf_X7_55 : Cond.fieldLink RX7 55 "LightAsFarAsThePumpModel" "dark" "[I" ∈ TB := tbm 660 (by decide +kernel) (by decide +kernel)
theorem tf_X7_58 : Cond.fieldLink RX7 58 "LightAsFarAsThePumpModel" "light" "[I" ∈ TB := tbm 661 (by decide +kernel) (by decide +kernel)
theorem tf_X7_61 : Cond.fieldLink RX7 61 "LightAsFarAsThePumpModel" "stood" "[I" ∈ TB := tbm 662 (by decide +kernel) (by decide +kernel)
theorem tf_X7_64 : Cond.fieldLink RX7 64 "LightAsFarAsThePumpModel" "had" "[I" ∈ TB := tbm 663 (by decide +kernel) (by decide +kernel)
theorem tf_X7_67 : Cond.fieldLink RX7 67 "LightAsFarAsThePumpModel" "ends" "[I" ∈ TB := tbm 665 (by decide +kernel) (by decide +kernel)
theorem tf_X7_70 : Cond.fieldLink RX7 70 "LightAsFarAsThePumpModel" "nets" "[I" ∈ TB := tbm 666 (by decide +kernel) (by decide +kernel)
theorem tf_X7_73 : Cond.fieldLink RX7 73 "LightAsFarAsThePumpModel" "best" "[I" ∈ TB := tbm 667 (by decide +kernel) (by decide +kernel)
theorem tf_X7_76 : Cond.fieldLink RX7 76 "LightAsFarAsThePumpModel" "groups" "[I" ∈ TB := tbm 668 (by decide +kernel) (by decide +kernel)
theorem tf_X7_84 : Cond.fieldLink RX7 84 "LightAsFarAsThePumpModel" "goers" "I" ∈ TB := tbm 638 (by decide +kernel) (by decide +kernel)
theorem tf_X7_92 : Cond.fieldLink RX7 92 "LightAsFarAsThePumpModel" "letters" "I" ∈ TB := tbm 645 (by decide +kernel) (by decide +kernel)
theorem tf_X7_95 : Cond.fieldLink RX7 95 "LightAsFarAsThePumpModel" "at" "I" ∈ TB := tbm 647 (by decide +kernel) (by decide +kernel)
theorem tf_X7_153 : Cond.fieldLink RX7 153 "LightAsFarAsThePumpModel" "lamps" "I" ∈ TB := tbm 657 (by decide +kernel) (by decide +kernel)
theorem tf_X7_163 : Cond.fieldLink RX7 163 "LightAsFarAsThePumpModel" "last" "I" ∈ TB := tbm 664 (by decide +kernel) (by decide +kernel)
theorem tf_X7_176 : Cond.fieldLink RX7 176 "LightAsFarAsThePumpModel" "going" "I" ∈ TB := tbm 655 (by decide +kernel) (by decide +kernel)
theorem tf_X7_214 : Cond.fieldLink RX7 214 "LightAsFarAsThePumpModel" "inRow" "I" ∈ TB := tbm 649 (by decide +kernel) (by decide +kernel)
theorem tf_X7_223 : Cond.fieldLink RX7 223 "LightAsFarAsThePumpModel" "imaged" "Z" ∈ TB := tbm 652 (by decide +kernel) (by decide +kernel)
theorem tm_X6_9 : Cond.methodLink RX6 9 yX0_init ∈ TB := tbm 66 (by decide +kernel) (by decide +kernel)
theorem tm_X6_24 : Cond.methodLink RX6 24 yX2_init ∈ TB := tbm 116 (by decide +kernel) (by decide +kernel)
theorem tm_X6_31 : Cond.methodLink RX6 31 yX5_init ∈ TB := tbm 130 (by decide +kernel) (by decide +kernel)
theorem tm_X6_38 : Cond.methodLink RX6 38 yX3_init ∈ TB := tbm 203 (by decide +kernel) (by decide +kernel)
theorem tm_X6_45 : Cond.methodLink RX6 45 yX1_init ∈ TB := tbm 225 (by decide +kernel) (by decide +kernel)
theorem tm_X6_65 : Cond.methodLink RX6 65 yX6_refuse ∈ TB := tbm 278 (by decide +kernel) (by decide +kernel)
theorem tm_X6_72 : Cond.methodLink RX6 72 yX2_add ∈ TB := tbm 286 (by decide +kernel) (by decide +kernel)
theorem tm_X6_76 : Cond.methodLink RX6 76 yX0_becomeLike ∈ TB := tbm 295 (by decide +kernel) (by decide +kernel)
theorem tm_X6_80 : Cond.methodLink RX6 80 yX2_tellTo ∈ TB := tbm 302 (by decide +kernel) (by decide +kernel)
theorem tm_X6_84 : Cond.methodLink RX6 84 yX0_knows ∈ TB := tbm 363 (by decide +kernel) (by decide +kernel)
theorem tm_X6_91 : Cond.methodLink RX6 91 yX4_at ∈ TB := tbm 282 (by decide +kernel) (by decide +kernel)
theorem tm_X6_109 : Cond.methodLink RX6 109 yX0_fetches ∈ TB := tbm 364 (by decide +kernel) (by decide +kernel)
theorem tm_X6_112 : Cond.methodLink RX6 112 yX0_darkStepCosts ∈ TB := tbm 368 (by decide +kernel) (by decide +kernel)
theorem tm_X6_115 : Cond.methodLink RX6 115 yX4_put ∈ TB := tbm 285 (by decide +kernel) (by decide +kernel)
theorem tm_X6_122 : Cond.methodLink RX6 122 yX0_settle ∈ TB := tbm 384 (by decide +kernel) (by decide +kernel)
theorem tm_X6_126 : Cond.methodLink RX6 126 yX5_byHours ∈ TB := tbm 389 (by decide +kernel) (by decide +kernel)
theorem tm_X6_138 : Cond.methodLink RX6 138 yX5_firstLamp ∈ TB := tbm 457 (by decide +kernel) (by decide +kernel)
theorem tm_X6_142 : Cond.methodLink RX6 142 yX5_oilLeft ∈ TB := tbm 458 (by decide +kernel) (by decide +kernel)
theorem tm_X6_166 : Cond.methodLink RX6 166 yX6_hourRefusal ∈ TB := tbm 470 (by decide +kernel) (by decide +kernel)
theorem tm_X6_173 : Cond.methodLink RX6 173 yX3_search ∈ TB := tbm 477 (by decide +kernel) (by decide +kernel)
theorem tm_X6_189 : Cond.methodLink RX6 189 yX6_refuseAmongAll ∈ TB := tbm 508 (by decide +kernel) (by decide +kernel)
theorem tm_X6_192 : Cond.methodLink RX6 192 yX0_sendHome ∈ TB := tbm 513 (by decide +kernel) (by decide +kernel)
theorem tm_X6_195 : Cond.methodLink RX6 195 yX6_isCell ∈ TB := tbm 521 (by decide +kernel) (by decide +kernel)
theorem tm_X6_201 : Cond.methodLink RX6 201 yX1_reckon ∈ TB := tbm 532 (by decide +kernel) (by decide +kernel)
theorem tm_X6_208 : Cond.methodLink RX6 208 yX1_fewestPayments ∈ TB := tbm 548 (by decide +kernel) (by decide +kernel)
theorem tm_X6_211 : Cond.methodLink RX6 211 Lib.Math.abs.name ∈ TB := tbm 560 (by decide +kernel) (by decide +kernel)
theorem tm_X6_216 : Cond.methodLink RX6 216 yX0_anybodyWithin ∈ TB := tbm 569 (by decide +kernel) (by decide +kernel)
theorem tm_X6_219 : Cond.methodLink RX6 219 yX6_valuesThatFitTheRow ∈ TB := tbm 577 (by decide +kernel) (by decide +kernel)
theorem tm_X6_223 : Cond.methodLink RX6 223 yX6_firstNotSo ∈ TB := tbm 581 (by decide +kernel) (by decide +kernel)
theorem tm_X6_226 : Cond.methodLink RX6 226 yX0_drawHours ∈ TB := tbm 605 (by decide +kernel) (by decide +kernel)
theorem tm_X6_229 : Cond.methodLink RX6 229 yX0_pump ∈ TB := tbm 612 (by decide +kernel) (by decide +kernel)
theorem tm_X6_232 : Cond.methodLink RX6 232 yX0_oil ∈ TB := tbm 625 (by decide +kernel) (by decide +kernel)
theorem tm_X6_235 : Cond.methodLink RX6 235 yX0_dark ∈ TB := tbm 626 (by decide +kernel) (by decide +kernel)
theorem tm_X6_237 : Cond.methodLink RX6 237 yX0_allSteps ∈ TB := tbm 627 (by decide +kernel) (by decide +kernel)
theorem tm_X0_30 : Cond.methodLink RX0 30 yX4_put ∈ TB := tbm 70 (by decide +kernel) (by decide +kernel)
theorem tm_X0_43 : Cond.methodLink RX0 43 yX4_copy ∈ TB := tbm 299 (by decide +kernel) (by decide +kernel)
theorem tm_X0_47 : Cond.methodLink RX0 47 yX4_at ∈ TB := tbm 338 (by decide +kernel) (by decide +kernel)
theorem tm_X0_54 : Cond.methodLink RX0 54 yX0_knows ∈ TB := tbm 343 (by decide +kernel) (by decide +kernel)
theorem tm_X0_58 : Cond.methodLink RX0 58 yX4_exchange ∈ TB := tbm 347 (by decide +kernel) (by decide +kernel)
theorem tm_X0_66 : Cond.methodLink RX0 66 Lib.Math.abs.name ∈ TB := tbm 435 (by decide +kernel) (by decide +kernel)
theorem tm_X0_72 : Cond.methodLink RX0 72 yX0_stepsOf ∈ TB := tbm 631 (by decide +kernel) (by decide +kernel)
theorem tm_X0_75 : Cond.methodLink RX0 75 yX0_dark ∈ TB := tbm 372 (by decide +kernel) (by decide +kernel)
theorem tm_X0_79 : Cond.methodLink RX0 79 Lib.Math.max.name ∈ TB := tbm 444 (by decide +kernel) (by decide +kernel)
theorem tm_X0_83 : Cond.methodLink RX0 83 Lib.Math.min.name ∈ TB := tbm 447 (by decide +kernel) (by decide +kernel)
theorem tm_X0_86 : Cond.methodLink RX0 86 yX0_pump ∈ TB := tbm 454 (by decide +kernel) (by decide +kernel)
theorem tm_X1_21 : Cond.methodLink RX1 21 yX4_put ∈ TB := tbm 536 (by decide +kernel) (by decide +kernel)
theorem tm_X1_36 : Cond.methodLink RX1 36 yX4_at ∈ TB := tbm 537 (by decide +kernel) (by decide +kernel)
theorem tm_X1_46 : Cond.methodLink RX1 46 yX1_stepsFarther ∈ TB := tbm 538 (by decide +kernel) (by decide +kernel)
theorem tm_X1_55 : Cond.methodLink RX1 55 Lib.Math.abs.name ∈ TB := tbm 541 (by decide +kernel) (by decide +kernel)
theorem tm_X1_61 : Cond.methodLink RX1 61 yX0_pump ∈ TB := tbm 542 (by decide +kernel) (by decide +kernel)
theorem tm_X1_65 : Cond.methodLink RX1 65 Lib.Math.max.name ∈ TB := tbm 543 (by decide +kernel) (by decide +kernel)
theorem tm_X1_69 : Cond.methodLink RX1 69 yX1_joinUp ∈ TB := tbm 552 (by decide +kernel) (by decide +kernel)
theorem tm_X2_19 : Cond.methodLink RX2 19 yX4_put ∈ TB := tbm 290 (by decide +kernel) (by decide +kernel)
theorem tm_X2_25 : Cond.methodLink RX2 25 yX2_firstOutOfPlace ∈ TB := tbm 306 (by decide +kernel) (by decide +kernel)
theorem tm_X2_29 : Cond.methodLink RX2 29 yX2_tellStatement ∈ TB := tbm 320 (by decide +kernel) (by decide +kernel)
theorem tm_X2_33 : Cond.methodLink RX2 33 yX4_at ∈ TB := tbm 310 (by decide +kernel) (by decide +kernel)
theorem tm_X2_37 : Cond.methodLink RX2 37 yX2_lengthOf ∈ TB := tbm 356 (by decide +kernel) (by decide +kernel)
theorem tm_X2_41 : Cond.methodLink RX2 41 yX2_digitsOf ∈ TB := tbm 311 (by decide +kernel) (by decide +kernel)
theorem tm_X2_44 : Cond.methodLink RX2 44 yX2_kindOf ∈ TB := tbm 314 (by decide +kernel) (by decide +kernel)
theorem tm_X2_49 : Cond.methodLink RX2 49 yX2_isDigit ∈ TB := tbm 317 (by decide +kernel) (by decide +kernel)
theorem tm_X2_53 : Cond.methodLink RX2 53 yX2_number ∈ TB := tbm 324 (by decide +kernel) (by decide +kernel)
theorem tm_X2_57 : Cond.methodLink RX2 57 yX0_add ∈ TB := tbm 328 (by decide +kernel) (by decide +kernel)
theorem tm_X2_61 : Cond.methodLink RX2 61 yX0_settle ∈ TB := tbm 332 (by decide +kernel) (by decide +kernel)
theorem tm_X2_65 : Cond.methodLink RX2 65 yX0_exchangeHours ∈ TB := tbm 339 (by decide +kernel) (by decide +kernel)
theorem tm_X2_68 : Cond.methodLink RX2 68 yX0_changeHour ∈ TB := tbm 352 (by decide +kernel) (by decide +kernel)
theorem tm_X3_31 : Cond.methodLink RX3 31 yX4_put ∈ TB := tbm 481 (by decide +kernel) (by decide +kernel)
theorem tm_X3_37 : Cond.methodLink RX3 37 yX5_inOrder ∈ TB := tbm 482 (by decide +kernel) (by decide +kernel)
theorem tm_X3_43 : Cond.methodLink RX3 43 yX5_firstLamp ∈ TB := tbm 486 (by decide +kernel) (by decide +kernel)
theorem tm_X3_47 : Cond.methodLink RX3 47 yX0_pump ∈ TB := tbm 487 (by decide +kernel) (by decide +kernel)
theorem tm_X3_50 : Cond.methodLink RX3 50 yX4_copy ∈ TB := tbm 488 (by decide +kernel) (by decide +kernel)
theorem tm_X3_54 : Cond.methodLink RX3 54 yX3_next ∈ TB := tbm 489 (by decide +kernel) (by decide +kernel)
theorem tm_X3_58 : Cond.methodLink RX3 58 yX4_at ∈ TB := tbm 493 (by decide +kernel) (by decide +kernel)
theorem tm_X3_62 : Cond.methodLink RX3 62 yX4_exchange ∈ TB := tbm 494 (by decide +kernel) (by decide +kernel)
theorem tm_X4_7 : Cond.methodLink RX4 7 yX4_at ∈ TB := tbm 350 (by decide +kernel) (by decide +kernel)
theorem tm_X4_13 : Cond.methodLink RX4 13 yX4_put ∈ TB := tbm 351 (by decide +kernel) (by decide +kernel)
theorem tm_X5_42 : Cond.methodLink RX5 42 yX4_at ∈ TB := tbm 410 (by decide +kernel) (by decide +kernel)
theorem tm_X5_48 : Cond.methodLink RX5 48 yX5_begin ∈ TB := tbm 393 (by decide +kernel) (by decide +kernel)
theorem tm_X5_61 : Cond.methodLink RX5 61 yX5_go ∈ TB := tbm 411 (by decide +kernel) (by decide +kernel)
theorem tm_X5_65 : Cond.methodLink RX5 65 yX5_firstLamp ∈ TB := tbm 415 (by decide +kernel) (by decide +kernel)
theorem tm_X5_69 : Cond.methodLink RX5 69 yX4_put ∈ TB := tbm 409 (by decide +kernel) (by decide +kernel)
theorem tm_X5_79 : Cond.methodLink RX5 79 yX0_pump ∈ TB := tbm 397 (by decide +kernel) (by decide +kernel)
theorem tm_X5_82 : Cond.methodLink RX5 82 yX0_oil ∈ TB := tbm 401 (by decide +kernel) (by decide +kernel)
theorem tm_X5_85 : Cond.methodLink RX5 85 yX5_addLamp ∈ TB := tbm 405 (by decide +kernel) (by decide +kernel)
theorem tm_X5_107 : Cond.methodLink RX5 107 yX5_lampThatHeHas ∈ TB := tbm 419 (by decide +kernel) (by decide +kernel)
theorem tm_X5_111 : Cond.methodLink RX5 111 yX5_goInTheDark ∈ TB := tbm 427 (by decide +kernel) (by decide +kernel)
theorem tm_X5_114 : Cond.methodLink RX5 114 yX5_goWithLamp ∈ TB := tbm 436 (by decide +kernel) (by decide +kernel)
theorem tm_X5_118 : Cond.methodLink RX5 118 yX0_darkStepCosts ∈ TB := tbm 456 (by decide +kernel) (by decide +kernel)
theorem tm_X5_125 : Cond.methodLink RX5 125 yX0_fetches ∈ TB := tbm 423 (by decide +kernel) (by decide +kernel)
theorem tm_X5_128 : Cond.methodLink RX5 128 Lib.Math.abs.name ∈ TB := tbm 424 (by decide +kernel) (by decide +kernel)
theorem tm_X5_133 : Cond.methodLink RX5 133 yX0_stepsOf ∈ TB := tbm 431 (by decide +kernel) (by decide +kernel)
theorem tm_X5_136 : Cond.methodLink RX5 136 yX0_carriesTo ∈ TB := tbm 440 (by decide +kernel) (by decide +kernel)
theorem tm_X5_140 : Cond.methodLink RX5 140 yX0_bringsTo ∈ TB := tbm 450 (by decide +kernel) (by decide +kernel)
theorem tm_X5_146 : Cond.methodLink RX5 146 Lib.Math.min.name ∈ TB := tbm 455 (by decide +kernel) (by decide +kernel)
theorem tm_L_9 : Cond.methodLink RL 9 yX6_init ∈ TB := tbm 58 (by decide +kernel) (by decide +kernel)
theorem tm_L_12 : Cond.methodLink RL 12 yX7_init ∈ TB := tbm 634 (by decide +kernel) (by decide +kernel)
theorem tm_L_13 : Cond.methodLink RL 13 yX6_letter ∈ TB := tbm 274 (by decide +kernel) (by decide +kernel)
theorem tm_L_17 : Cond.methodLink RL 17 yX7_letter ∈ TB := tbm 732 (by decide +kernel) (by decide +kernel)
theorem tm_L_18 : Cond.methodLink RL 18 yX6_night ∈ TB := tbm 291 (by decide +kernel) (by decide +kernel)
theorem tm_L_22 : Cond.methodLink RL 22 yX7_night ∈ TB := tbm 740 (by decide +kernel) (by decide +kernel)
theorem tm_L_23 : Cond.methodLink RL 23 yX6_goer ∈ TB := tbm 359 (by decide +kernel) (by decide +kernel)
theorem tm_L_27 : Cond.methodLink RL 27 yX7_goer ∈ TB := tbm 865 (by decide +kernel) (by decide +kernel)
theorem tm_L_28 : Cond.methodLink RL 28 yX6_hour ∈ TB := tbm 376 (by decide +kernel) (by decide +kernel)
theorem tm_L_31 : Cond.methodLink RL 31 yX7_hour ∈ TB := tbm 877 (by decide +kernel) (by decide +kernel)
theorem tm_L_32 : Cond.methodLink RL 32 yX6_set ∈ TB := tbm 380 (by decide +kernel) (by decide +kernel)
theorem tm_L_35 : Cond.methodLink RL 35 yX7_set ∈ TB := tbm 881 (by decide +kernel) (by decide +kernel)
theorem tm_L_36 : Cond.methodLink RL 36 yX6_sums ∈ TB := tbm 385 (by decide +kernel) (by decide +kernel)
theorem tm_L_39 : Cond.methodLink RL 39 yX7_sums ∈ TB := tbm 888 (by decide +kernel) (by decide +kernel)
theorem tm_L_40 : Cond.methodLink RL 40 yX6_of ∈ TB := tbm 462 (by decide +kernel) (by decide +kernel)
theorem tm_L_43 : Cond.methodLink RL 43 yX7_of ∈ TB := tbm 930 (by decide +kernel) (by decide +kernel)
theorem tm_L_44 : Cond.methodLink RL 44 yX6_lamp ∈ TB := tbm 466 (by decide +kernel) (by decide +kernel)
theorem tm_L_47 : Cond.methodLink RL 47 yX7_lamp ∈ TB := tbm 934 (by decide +kernel) (by decide +kernel)
theorem tm_L_48 : Cond.methodLink RL 48 yX6_best ∈ TB := tbm 473 (by decide +kernel) (by decide +kernel)
theorem tm_L_51 : Cond.methodLink RL 51 yX7_best ∈ TB := tbm 938 (by decide +kernel) (by decide +kernel)
theorem tm_L_52 : Cond.methodLink RL 52 yX6_bestPump ∈ TB := tbm 495 (by decide +kernel) (by decide +kernel)
theorem tm_L_55 : Cond.methodLink RL 55 yX7_bestPump ∈ TB := tbm 950 (by decide +kernel) (by decide +kernel)
theorem tm_L_56 : Cond.methodLink RL 56 yX6_bestHour ∈ TB := tbm 500 (by decide +kernel) (by decide +kernel)
theorem tm_L_59 : Cond.methodLink RL 59 yX7_bestHour ∈ TB := tbm 958 (by decide +kernel) (by decide +kernel)
theorem tm_L_60 : Cond.methodLink RL 60 yX6_without ∈ TB := tbm 504 (by decide +kernel) (by decide +kernel)
theorem tm_L_63 : Cond.methodLink RL 63 yX7_without ∈ TB := tbm 962 (by decide +kernel) (by decide +kernel)
theorem tm_L_64 : Cond.methodLink RL 64 yX6_second ∈ TB := tbm 517 (by decide +kernel) (by decide +kernel)
theorem tm_L_67 : Cond.methodLink RL 67 yX7_second ∈ TB := tbm 971 (by decide +kernel) (by decide +kernel)
theorem tm_L_68 : Cond.methodLink RL 68 yX6_bestSecond ∈ TB := tbm 524 (by decide +kernel) (by decide +kernel)
theorem tm_L_71 : Cond.methodLink RL 71 yX7_bestSecond ∈ TB := tbm 979 (by decide +kernel) (by decide +kernel)
theorem tm_L_72 : Cond.methodLink RL 72 yX6_net ∈ TB := tbm 528 (by decide +kernel) (by decide +kernel)
theorem tm_L_75 : Cond.methodLink RL 75 yX7_net ∈ TB := tbm 983 (by decide +kernel) (by decide +kernel)
theorem tm_L_76 : Cond.methodLink RL 76 yX6_payments ∈ TB := tbm 544 (by decide +kernel) (by decide +kernel)
theorem tm_L_79 : Cond.methodLink RL 79 yX7_payments ∈ TB := tbm 992 (by decide +kernel) (by decide +kernel)
theorem tm_L_80 : Cond.methodLink RL 80 yX6_near ∈ TB := tbm 556 (by decide +kernel) (by decide +kernel)
theorem tm_L_83 : Cond.methodLink RL 83 yX7_near ∈ TB := tbm 996 (by decide +kernel) (by decide +kernel)
theorem tm_L_84 : Cond.methodLink RL 84 yX6_midwife ∈ TB := tbm 561 (by decide +kernel) (by decide +kernel)
theorem tm_L_87 : Cond.methodLink RL 87 yX7_midwife ∈ TB := tbm 1000 (by decide +kernel) (by decide +kernel)
theorem tm_L_88 : Cond.methodLink RL 88 yX6_watch ∈ TB := tbm 565 (by decide +kernel) (by decide +kernel)
theorem tm_L_91 : Cond.methodLink RL 91 yX7_watch ∈ TB := tbm 1004 (by decide +kernel) (by decide +kernel)
theorem tm_L_92 : Cond.methodLink RL 92 yX6_whoHad ∈ TB := tbm 573 (by decide +kernel) (by decide +kernel)
theorem tm_L_95 : Cond.methodLink RL 95 yX7_whoHad ∈ TB := tbm 1008 (by decide +kernel) (by decide +kernel)
theorem tm_L_96 : Cond.methodLink RL 96 yX6_leastOil ∈ TB := tbm 585 (by decide +kernel) (by decide +kernel)
theorem tm_L_99 : Cond.methodLink RL 99 yX7_leastOil ∈ TB := tbm 1016 (by decide +kernel) (by decide +kernel)
theorem tm_L_100 : Cond.methodLink RL 100 yX6_row ∈ TB := tbm 589 (by decide +kernel) (by decide +kernel)
theorem tm_L_103 : Cond.methodLink RL 103 yX7_row ∈ TB := tbm 1020 (by decide +kernel) (by decide +kernel)
theorem tm_L_104 : Cond.methodLink RL 104 yX6_judge ∈ TB := tbm 593 (by decide +kernel) (by decide +kernel)
theorem tm_L_107 : Cond.methodLink RL 107 yX7_judge ∈ TB := tbm 1024 (by decide +kernel) (by decide +kernel)
theorem tm_L_108 : Cond.methodLink RL 108 yX6_clear ∈ TB := tbm 597 (by decide +kernel) (by decide +kernel)
theorem tm_L_111 : Cond.methodLink RL 111 yX7_clear ∈ TB := tbm 1028 (by decide +kernel) (by decide +kernel)
theorem tm_L_112 : Cond.methodLink RL 112 yX6_lots ∈ TB := tbm 601 (by decide +kernel) (by decide +kernel)
theorem tm_L_116 : Cond.methodLink RL 116 yX7_lots ∈ TB := tbm 1032 (by decide +kernel) (by decide +kernel)
theorem tm_L_117 : Cond.methodLink RL 117 yX6_image ∈ TB := tbm 613 (by decide +kernel) (by decide +kernel)
theorem tm_L_120 : Cond.methodLink RL 120 yX7_image ∈ TB := tbm 1039 (by decide +kernel) (by decide +kernel)
theorem tm_L_121 : Cond.methodLink RL 121 yX6_on ∈ TB := tbm 617 (by decide +kernel) (by decide +kernel)
theorem tm_L_124 : Cond.methodLink RL 124 yX7_on ∈ TB := tbm 1043 (by decide +kernel) (by decide +kernel)
theorem tm_L_125 : Cond.methodLink RL 125 yX6_count ∈ TB := tbm 621 (by decide +kernel) (by decide +kernel)
theorem tm_L_128 : Cond.methodLink RL 128 yX7_count ∈ TB := tbm 1047 (by decide +kernel) (by decide +kernel)
theorem tm_X7_80 : Cond.methodLink RX7 80 yX7_no ∈ TB := tbm 736 (by decide +kernel) (by decide +kernel)
theorem tm_X7_88 : Cond.methodLink RX7 88 yX7_within ∈ TB := tbm 846 (by decide +kernel) (by decide +kernel)
theorem tm_X7_98 : Cond.methodLink RX7 98 yX7_is ∈ TB := tbm 748 (by decide +kernel) (by decide +kernel)
theorem tm_X7_104 : Cond.methodLink RX7 104 yJ0_indexOf_0f7a4 ∈ TB := tbm 753 (by decide +kernel) (by decide +kernel)
theorem tm_X7_109 : Cond.methodLink RX7 109 yX7_digits ∈ TB := tbm 835 (by decide +kernel) (by decide +kernel)
theorem tm_X7_112 : Cond.methodLink RX7 112 yX7_two ∈ TB := tbm 839 (by decide +kernel) (by decide +kernel)
theorem tm_X7_115 : Cond.methodLink RX7 115 yX7_isCell ∈ TB := tbm 843 (by decide +kernel) (by decide +kernel)
theorem tm_X7_118 : Cond.methodLink RX7 118 yX7_isHour ∈ TB := tbm 849 (by decide +kernel) (by decide +kernel)
theorem tm_X7_121 : Cond.methodLink RX7 121 yX7_isGoer ∈ TB := tbm 852 (by decide +kernel) (by decide +kernel)
theorem tm_X7_124 : Cond.methodLink RX7 124 yX7_statement ∈ TB := tbm 744 (by decide +kernel) (by decide +kernel)
theorem tm_X7_128 : Cond.methodLink RX7 128 yX7_keep ∈ TB := tbm 856 (by decide +kernel) (by decide +kernel)
theorem tm_X7_132 : Cond.methodLink RX7 132 yX7_again ∈ TB := tbm 860 (by decide +kernel) (by decide +kernel)
theorem tm_X7_135 : Cond.methodLink RX7 135 yX7_fetches ∈ TB := tbm 869 (by decide +kernel) (by decide +kernel)
theorem tm_X7_138 : Cond.methodLink RX7 138 yX7_costs ∈ TB := tbm 873 (by decide +kernel) (by decide +kernel)
theorem tm_X7_141 : Cond.methodLink RX7 141 yX7_mostOf ∈ TB := tbm 885 (by decide +kernel) (by decide +kernel)
theorem tm_X7_144 : Cond.methodLink RX7 144 Lib.Math.abs.name ∈ TB := tbm 912 (by decide +kernel) (by decide +kernel)
theorem tm_X7_149 : Cond.methodLink RX7 149 Lib.Math.min.name ∈ TB := tbm 925 (by decide +kernel) (by decide +kernel)
theorem tm_X7_156 : Cond.methodLink RX7 156 yX7_nearer ∈ TB := tbm 908 (by decide +kernel) (by decide +kernel)
theorem tm_X7_159 : Cond.methodLink RX7 159 yX7_walksDark ∈ TB := tbm 913 (by decide +kernel) (by decide +kernel)
theorem tm_X7_166 : Cond.methodLink RX7 166 yX7_carriedTo ∈ TB := tbm 917 (by decide +kernel) (by decide +kernel)
theorem tm_X7_169 : Cond.methodLink RX7 169 yX7_carries ∈ TB := tbm 921 (by decide +kernel) (by decide +kernel)
theorem tm_X7_172 : Cond.methodLink RX7 172 yX7_sets ∈ TB := tbm 900 (by decide +kernel) (by decide +kernel)
theorem tm_X7_179 : Cond.methodLink RX7 179 yX7_goes ∈ TB := tbm 904 (by decide +kernel) (by decide +kernel)
theorem tm_X7_182 : Cond.methodLink RX7 182 yX7_run ∈ TB := tbm 896 (by decide +kernel) (by decide +kernel)
theorem tm_X7_186 : Cond.methodLink RX7 186 yX7_run_ ∈ TB := tbm 892 (by decide +kernel) (by decide +kernel)
theorem tm_X7_188 : Cond.methodLink RX7 188 yX7_cost ∈ TB := tbm 926 (by decide +kernel) (by decide +kernel)
theorem tm_X7_192 : Cond.methodLink RX7 192 yX7_swap ∈ TB := tbm 946 (by decide +kernel) (by decide +kernel)
theorem tm_X7_195 : Cond.methodLink RX7 195 yX7_nextOrder ∈ TB := tbm 942 (by decide +kernel) (by decide +kernel)
theorem tm_X7_199 : Cond.methodLink RX7 199 yX7_costNow ∈ TB := tbm 954 (by decide +kernel) (by decide +kernel)
theorem tm_X7_202 : Cond.methodLink RX7 202 yX7_noMuch ∈ TB := tbm 966 (by decide +kernel) (by decide +kernel)
theorem tm_X7_205 : Cond.methodLink RX7 205 yX7_secondAt ∈ TB := tbm 975 (by decide +kernel) (by decide +kernel)
theorem tm_X7_208 : Cond.methodLink RX7 208 Lib.Math.max.name ∈ TB := tbm 991 (by decide +kernel) (by decide +kernel)
theorem tm_X7_211 : Cond.methodLink RX7 211 yX7_owe ∈ TB := tbm 987 (by decide +kernel) (by decide +kernel)
theorem tm_X7_217 : Cond.methodLink RX7 217 yX7_wrong ∈ TB := tbm 1012 (by decide +kernel) (by decide +kernel)
theorem tc_X6_188 : Jvm.Cond.constant RX6 188 2147483647 ∈ TB := tbm 499 (by decide +kernel) (by decide +kernel)
theorem tc_X6_240 : Jvm.Cond.constant RX6 240 1000000000 ∈ TB := tbm 512 (by decide +kernel) (by decide +kernel)
theorem tc_X0_61 : Jvm.Cond.constant RX0 61 1664525 ∈ TB := tbm 609 (by decide +kernel) (by decide +kernel)
theorem tc_X0_62 : Jvm.Cond.constant RX0 62 1013904223 ∈ TB := tbm 610 (by decide +kernel) (by decide +kernel)
theorem tc_X0_65 : Jvm.Cond.constant RX0 65 2147483647 ∈ TB := tbm 611 (by decide +kernel) (by decide +kernel)
theorem tc_X7_79 : Jvm.Cond.constant RX7 79 1000000000 ∈ TB := tbm 970 (by decide +kernel) (by decide +kernel)
theorem tc_X7_220 : Jvm.Cond.constant RX7 220 1664525 ∈ TB := tbm 1036 (by decide +kernel) (by decide +kernel)
theorem tc_X7_221 : Jvm.Cond.constant RX7 221 1013904223 ∈ TB := tbm 1037 (by decide +kernel) (by decide +kernel)
theorem tc_X7_222 : Jvm.Cond.constant RX7 222 2147483647 ∈ TB := tbm 1038 (by decide +kernel) (by decide +kernel)
theorem lk_X0_becomeLike : LkV yX0_becomeLike cX0_becomeLike 2 none 1 := ⟨⟨tbm 296 (by decide +kernel) (by decide +kernel), tbm 297 (by decide +kernel) (by decide +kernel)⟩, tbm 43 (by decide +kernel) (by decide +kernel), tbm 298 (by decide +kernel) (by decide +kernel), by decide +kernel⟩
theorem lk_X0_pump : LkV yX0_pump cX0_pump 1 (some .int) 0 := ⟨⟨tbm 398 (by decide +kernel) (by decide +kernel), tbm 399 (by decide +kernel) (by decide +kernel)⟩, tbm 43 (by decide +kernel) (by decide +kernel), tbm 400 (by decide +kernel) (by decide +kernel), by decide +kernel⟩
theorem lk_X0_oil : LkV yX0_oil cX0_oil 1 (some .int) 0 := ⟨⟨tbm 402 (by decide +kernel) (by decide +kernel), tbm 403 (by decide +kernel) (by decide +kernel)⟩, tbm 43 (by decide +kernel) (by decide +kernel), tbm 404 (by decide +kernel) (by decide +kernel), by decide +kernel⟩
theorem lk_X0_dark : LkV yX0_dark cX0_dark 1 (some .int) 0 := ⟨⟨tbm 373 (by decide +kernel) (by decide +kernel), tbm 374 (by decide +kernel) (by decide +kernel)⟩, tbm 43 (by decide +kernel) (by decide +kernel), tbm 375 (by decide +kernel) (by decide +kernel), by decide +kernel⟩
theorem lk_X0_knows : LkV yX0_knows cX0_knows 2 (some .boolean) 1 := ⟨⟨tbm 344 (by decide +kernel) (by decide +kernel), tbm 345 (by decide +kernel) (by decide +kernel)⟩, tbm 43 (by decide +kernel) (by decide +kernel), tbm 346 (by decide +kernel) (by decide +kernel), by decide +kernel⟩
theorem lk_X0_settle : LkV yX0_settle cX0_settle 3 (some .boolean) 2 := ⟨⟨tbm 333 (by decide +kernel) (by decide +kernel), tbm 334 (by decide +kernel) (by decide +kernel)⟩, tbm 43 (by decide +kernel) (by decide +kernel), tbm 335 (by decide +kernel) (by decide +kernel), by decide +kernel⟩
theorem lk_X0_add : LkV yX0_add cX0_add 6 (some .boolean) 5 := ⟨⟨tbm 329 (by decide +kernel) (by decide +kernel), tbm 330 (by decide +kernel) (by decide +kernel)⟩, tbm 43 (by decide +kernel) (by decide +kernel), tbm 331 (by decide +kernel) (by decide +kernel), by decide +kernel⟩
theorem lk_X0_exchangeHours : LkV yX0_exchangeHours cX0_exchangeHours 3 (some .boolean) 2 := ⟨⟨tbm 340 (by decide +kernel) (by decide +kernel), tbm 341 (by decide +kernel) (by decide +kernel)⟩, tbm 43 (by decide +kernel) (by decide +kernel), tbm 342 (by decide +kernel) (by decide +kernel), by decide +kernel⟩
theorem lk_X0_changeHour : LkV yX0_changeHour cX0_changeHour 3 (some .boolean) 2 := ⟨⟨tbm 353 (by decide +kernel) (by decide +kernel), tbm 354 (by decide +kernel) (by decide +kernel)⟩, tbm 43 (by decide +kernel) (by decide +kernel), tbm 355 (by decide +kernel) (by decide +kernel), by decide +kernel⟩
theorem lk_X0_sendHome : LkV yX0_sendHome cX0_sendHome 3 none 1 := ⟨⟨tbm 514 (by decide +kernel) (by decide +kernel), tbm 515 (by decide +kernel) (by decide +kernel)⟩, tbm 43 (by decide +kernel) (by decide +kernel), tbm 516 (by decide +kernel) (by decide +kernel), by decide +kernel⟩
theorem lk_X0_drawHours : LkV yX0_drawHours cX0_drawHours 4 (some .int) 1 := ⟨⟨tbm 606 (by decide +kernel) (by decide +kernel), tbm 607 (by decide +kernel) (by decide +kernel)⟩, tbm 43 (by decide +kernel) (by decide +kernel), tbm 608 (by decide +kernel) (by decide +kernel), by decide +kernel⟩
theorem lk_X0_stepsOf : LkV yX0_stepsOf cX0_stepsOf 2 (some .int) 1 := ⟨⟨tbm 432 (by decide +kernel) (by decide +kernel), tbm 433 (by decide +kernel) (by decide +kernel)⟩, tbm 43 (by decide +kernel) (by decide +kernel), tbm 434 (by decide +kernel) (by decide +kernel), by decide +kernel⟩
theorem lk_X0_allSteps : LkV yX0_allSteps cX0_allSteps 3 (some .int) 0 := ⟨⟨tbm 628 (by decide +kernel) (by decide +kernel), tbm 629 (by decide +kernel) (by decide +kernel)⟩, tbm 43 (by decide +kernel) (by decide +kernel), tbm 630 (by decide +kernel) (by decide +kernel), by decide +kernel⟩
theorem lk_X0_anybodyWithin : LkV yX0_anybodyWithin cX0_anybodyWithin 4 (some .boolean) 2 := ⟨⟨tbm 570 (by decide +kernel) (by decide +kernel), tbm 571 (by decide +kernel) (by decide +kernel)⟩, tbm 43 (by decide +kernel) (by decide +kernel), tbm 572 (by decide +kernel) (by decide +kernel), by decide +kernel⟩
theorem lk_X0_fetches : LkV yX0_fetches cX0_fetches 2 (some .int) 1 := ⟨⟨tbm 365 (by decide +kernel) (by decide +kernel), tbm 366 (by decide +kernel) (by decide +kernel)⟩, tbm 43 (by decide +kernel) (by decide +kernel), tbm 367 (by decide +kernel) (by decide +kernel), by decide +kernel⟩
theorem lk_X0_darkStepCosts : LkV yX0_darkStepCosts cX0_darkStepCosts 2 (some .int) 1 := ⟨⟨tbm 369 (by decide +kernel) (by decide +kernel), tbm 370 (by decide +kernel) (by decide +kernel)⟩, tbm 43 (by decide +kernel) (by decide +kernel), tbm 371 (by decide +kernel) (by decide +kernel), by decide +kernel⟩
theorem lk_X0_carriesTo : LkV yX0_carriesTo cX0_carriesTo 5 (some .int) 2 := ⟨⟨tbm 441 (by decide +kernel) (by decide +kernel), tbm 442 (by decide +kernel) (by decide +kernel)⟩, tbm 43 (by decide +kernel) (by decide +kernel), tbm 443 (by decide +kernel) (by decide +kernel), by decide +kernel⟩
theorem lk_X0_bringsTo : LkV yX0_bringsTo cX0_bringsTo 3 (some .int) 2 := ⟨⟨tbm 451 (by decide +kernel) (by decide +kernel), tbm 452 (by decide +kernel) (by decide +kernel)⟩, tbm 43 (by decide +kernel) (by decide +kernel), tbm 453 (by decide +kernel) (by decide +kernel), by decide +kernel⟩
theorem lk_X1_reckon : LkV yX1_reckon cX1_reckon 7 none 2 := ⟨⟨tbm 533 (by decide +kernel) (by decide +kernel), tbm 534 (by decide +kernel) (by decide +kernel)⟩, tbm 48 (by decide +kernel) (by decide +kernel), tbm 535 (by decide +kernel) (by decide +kernel), by decide +kernel⟩
theorem lk_X1_stepsFarther : LkS yX1_stepsFarther cX1_stepsFarther 4 (some .int) 3 := ⟨tbm 539 (by decide +kernel) (by decide +kernel), tbm 48 (by decide +kernel) (by decide +kernel), tbm 540 (by decide +kernel) (by decide +kernel), by decide +kernel⟩
theorem lk_X1_fewestPayments : LkV yX1_fewestPayments cX1_fewestPayments 4 (some .int) 1 := ⟨⟨tbm 549 (by decide +kernel) (by decide +kernel), tbm 550 (by decide +kernel) (by decide +kernel)⟩, tbm 48 (by decide +kernel) (by decide +kernel), tbm 551 (by decide +kernel) (by decide +kernel), by decide +kernel⟩
theorem lk_X1_joinUp : LkV yX1_joinUp cX1_joinUp 6 none 2 := ⟨⟨tbm 554 (by decide +kernel) (by decide +kernel), tbm 12 (by decide +kernel) (by decide +kernel)⟩, tbm 48 (by decide +kernel) (by decide +kernel), tbm 555 (by decide +kernel) (by decide +kernel), by decide +kernel⟩
theorem lk_X2_add : LkV yX2_add cX2_add 2 none 1 := ⟨⟨tbm 287 (by decide +kernel) (by decide +kernel), tbm 288 (by decide +kernel) (by decide +kernel)⟩, tbm 45 (by decide +kernel) (by decide +kernel), tbm 289 (by decide +kernel) (by decide +kernel), by decide +kernel⟩
theorem lk_X2_tellTo : LkV yX2_tellTo cX2_tellTo 5 (some .int) 1 := ⟨⟨tbm 303 (by decide +kernel) (by decide +kernel), tbm 304 (by decide +kernel) (by decide +kernel)⟩, tbm 45 (by decide +kernel) (by decide +kernel), tbm 305 (by decide +kernel) (by decide +kernel), by decide +kernel⟩
theorem lk_X2_firstOutOfPlace : LkV yX2_firstOutOfPlace cX2_firstOutOfPlace 6 (some .int) 0 := ⟨⟨tbm 308 (by decide +kernel) (by decide +kernel), tbm 1 (by decide +kernel) (by decide +kernel)⟩, tbm 45 (by decide +kernel) (by decide +kernel), tbm 309 (by decide +kernel) (by decide +kernel), by decide +kernel⟩
theorem lk_X2_tellStatement : LkV yX2_tellStatement cX2_tellStatement 3 (some .boolean) 2 := ⟨⟨tbm 322 (by decide +kernel) (by decide +kernel), tbm 2 (by decide +kernel) (by decide +kernel)⟩, tbm 45 (by decide +kernel) (by decide +kernel), tbm 323 (by decide +kernel) (by decide +kernel), by decide +kernel⟩
theorem lk_X2_number : LkV yX2_number cX2_number 5 (some .int) 2 := ⟨⟨tbm 326 (by decide +kernel) (by decide +kernel), tbm 3 (by decide +kernel) (by decide +kernel)⟩, tbm 45 (by decide +kernel) (by decide +kernel), tbm 327 (by decide +kernel) (by decide +kernel), by decide +kernel⟩
theorem lk_X2_digitsOf : LkS yX2_digitsOf cX2_digitsOf 1 (some .int) 1 := ⟨tbm 312 (by decide +kernel) (by decide +kernel), tbm 45 (by decide +kernel) (by decide +kernel), tbm 313 (by decide +kernel) (by decide +kernel), by decide +kernel⟩
theorem lk_X2_lengthOf : LkS yX2_lengthOf cX2_lengthOf 2 (some .int) 1 := ⟨tbm 357 (by decide +kernel) (by decide +kernel), tbm 45 (by decide +kernel) (by decide +kernel), tbm 358 (by decide +kernel) (by decide +kernel), by decide +kernel⟩
theorem lk_X2_kindOf : LkS yX2_kindOf cX2_kindOf 1 (some .int) 1 := ⟨tbm 315 (by decide +kernel) (by decide +kernel), tbm 45 (by decide +kernel) (by decide +kernel), tbm 316 (by decide +kernel) (by decide +kernel), by decide +kernel⟩
theorem lk_X2_isDigit : LkS yX2_isDigit cX2_isDigit 1 (some .boolean) 1 := ⟨tbm 318 (by decide +kernel) (by decide +kernel), tbm 45 (by decide +kernel) (by decide +kernel), tbm 319 (by decide +kernel) (by decide +kernel), by decide +kernel⟩
theorem lk_X3_search : LkV yX3_search cX3_search 8 none 3 := ⟨⟨tbm 478 (by decide +kernel) (by decide +kernel), tbm 479 (by decide +kernel) (by decide +kernel)⟩, tbm 47 (by decide +kernel) (by decide +kernel), tbm 480 (by decide +kernel) (by decide +kernel), by decide +kernel⟩
theorem lk_X3_next : LkV yX3_next cX3_next 6 (some .boolean) 1 := ⟨⟨tbm 491 (by decide +kernel) (by decide +kernel), tbm 10 (by decide +kernel) (by decide +kernel)⟩, tbm 47 (by decide +kernel) (by decide +kernel), tbm 492 (by decide +kernel) (by decide +kernel), by decide +kernel⟩
theorem lk_X4_at : LkS yX4_at cX4_at 2 (some .int) 2 := ⟨tbm 283 (by decide +kernel) (by decide +kernel), tbm 44 (by decide +kernel) (by decide +kernel), tbm 284 (by decide +kernel) (by decide +kernel), by decide +kernel⟩
theorem lk_X4_put : LkS yX4_put cX4_put 3 none 3 := ⟨tbm 71 (by decide +kernel) (by decide +kernel), tbm 44 (by decide +kernel) (by decide +kernel), tbm 72 (by decide +kernel) (by decide +kernel), by decide +kernel⟩
theorem lk_X4_copy : LkS yX4_copy cX4_copy 3 none 2 := ⟨tbm 300 (by decide +kernel) (by decide +kernel), tbm 44 (by decide +kernel) (by decide +kernel), tbm 301 (by decide +kernel) (by decide +kernel), by decide +kernel⟩
theorem lk_X4_exchange : LkS yX4_exchange cX4_exchange 4 none 3 := ⟨tbm 348 (by decide +kernel) (by decide +kernel), tbm 44 (by decide +kernel) (by decide +kernel), tbm 349 (by decide +kernel) (by decide +kernel), by decide +kernel⟩
theorem lk_X5_firstLamp : LkV yX5_firstLamp cX5_firstLamp 1 (some .int) 0 := ⟨⟨tbm 416 (by decide +kernel) (by decide +kernel), tbm 417 (by decide +kernel) (by decide +kernel)⟩, tbm 46 (by decide +kernel) (by decide +kernel), tbm 418 (by decide +kernel) (by decide +kernel), by decide +kernel⟩
theorem lk_X5_oilLeft : LkV yX5_oilLeft cX5_oilLeft 1 (some .int) 0 := ⟨⟨tbm 459 (by decide +kernel) (by decide +kernel), tbm 460 (by decide +kernel) (by decide +kernel)⟩, tbm 46 (by decide +kernel) (by decide +kernel), tbm 461 (by decide +kernel) (by decide +kernel), by decide +kernel⟩
theorem lk_X5_byHours : LkV yX5_byHours cX5_byHours 4 (some .int) 1 := ⟨⟨tbm 390 (by decide +kernel) (by decide +kernel), tbm 391 (by decide +kernel) (by decide +kernel)⟩, tbm 46 (by decide +kernel) (by decide +kernel), tbm 392 (by decide +kernel) (by decide +kernel), by decide +kernel⟩
theorem lk_X5_inOrder : LkV yX5_inOrder cX5_inOrder 4 (some .int) 2 := ⟨⟨tbm 483 (by decide +kernel) (by decide +kernel), tbm 484 (by decide +kernel) (by decide +kernel)⟩, tbm 46 (by decide +kernel) (by decide +kernel), tbm 485 (by decide +kernel) (by decide +kernel), by decide +kernel⟩
theorem lk_X5_begin : LkV yX5_begin cX5_begin 2 none 1 := ⟨⟨tbm 395 (by decide +kernel) (by decide +kernel), tbm 4 (by decide +kernel) (by decide +kernel)⟩, tbm 46 (by decide +kernel) (by decide +kernel), tbm 396 (by decide +kernel) (by decide +kernel), by decide +kernel⟩
theorem lk_X5_addLamp : LkV yX5_addLamp cX5_addLamp 3 none 2 := ⟨⟨tbm 407 (by decide +kernel) (by decide +kernel), tbm 5 (by decide +kernel) (by decide +kernel)⟩, tbm 46 (by decide +kernel) (by decide +kernel), tbm 408 (by decide +kernel) (by decide +kernel), by decide +kernel⟩
theorem lk_X5_go : LkV yX5_go cX5_go 5 none 2 := ⟨⟨tbm 413 (by decide +kernel) (by decide +kernel), tbm 6 (by decide +kernel) (by decide +kernel)⟩, tbm 46 (by decide +kernel) (by decide +kernel), tbm 414 (by decide +kernel) (by decide +kernel), by decide +kernel⟩
theorem lk_X5_lampThatHeHas : LkV yX5_lampThatHeHas cX5_lampThatHeHas 8 (some .int) 2 := ⟨⟨tbm 421 (by decide +kernel) (by decide +kernel), tbm 7 (by decide +kernel) (by decide +kernel)⟩, tbm 46 (by decide +kernel) (by decide +kernel), tbm 422 (by decide +kernel) (by decide +kernel), by decide +kernel⟩
theorem lk_X5_goInTheDark : LkV yX5_goInTheDark cX5_goInTheDark 3 none 2 := ⟨⟨tbm 429 (by decide +kernel) (by decide +kernel), tbm 8 (by decide +kernel) (by decide +kernel)⟩, tbm 46 (by decide +kernel) (by decide +kernel), tbm 430 (by decide +kernel) (by decide +kernel), by decide +kernel⟩
theorem lk_X5_goWithLamp : LkV yX5_goWithLamp cX5_goWithLamp 11 none 3 := ⟨⟨tbm 438 (by decide +kernel) (by decide +kernel), tbm 9 (by decide +kernel) (by decide +kernel)⟩, tbm 46 (by decide +kernel) (by decide +kernel), tbm 439 (by decide +kernel) (by decide +kernel), by decide +kernel⟩
theorem lk_X6_letter : LkV yX6_letter cX6_letter 2 (some .int) 1 := ⟨⟨tbm 275 (by decide +kernel) (by decide +kernel), tbm 276 (by decide +kernel) (by decide +kernel)⟩, tbm 42 (by decide +kernel) (by decide +kernel), tbm 277 (by decide +kernel) (by decide +kernel), by decide +kernel⟩
theorem lk_X6_night : LkV yX6_night cX6_night 2 (some .int) 0 := ⟨⟨tbm 292 (by decide +kernel) (by decide +kernel), tbm 293 (by decide +kernel) (by decide +kernel)⟩, tbm 42 (by decide +kernel) (by decide +kernel), tbm 294 (by decide +kernel) (by decide +kernel), by decide +kernel⟩
theorem lk_X6_goer : LkV yX6_goer cX6_goer 3 (some .int) 2 := ⟨⟨tbm 360 (by decide +kernel) (by decide +kernel), tbm 361 (by decide +kernel) (by decide +kernel)⟩, tbm 42 (by decide +kernel) (by decide +kernel), tbm 362 (by decide +kernel) (by decide +kernel), by decide +kernel⟩
theorem lk_X6_hour : LkV yX6_hour cX6_hour 4 (some .int) 2 := ⟨⟨tbm 377 (by decide +kernel) (by decide +kernel), tbm 378 (by decide +kernel) (by decide +kernel)⟩, tbm 42 (by decide +kernel) (by decide +kernel), tbm 379 (by decide +kernel) (by decide +kernel), by decide +kernel⟩
theorem lk_X6_set : LkV yX6_set cX6_set 4 (some .int) 2 := ⟨⟨tbm 381 (by decide +kernel) (by decide +kernel), tbm 382 (by decide +kernel) (by decide +kernel)⟩, tbm 42 (by decide +kernel) (by decide +kernel), tbm 383 (by decide +kernel) (by decide +kernel), by decide +kernel⟩
theorem lk_X6_sums : LkV yX6_sums cX6_sums 2 (some .int) 1 := ⟨⟨tbm 386 (by decide +kernel) (by decide +kernel), tbm 387 (by decide +kernel) (by decide +kernel)⟩, tbm 42 (by decide +kernel) (by decide +kernel), tbm 388 (by decide +kernel) (by decide +kernel), by decide +kernel⟩
theorem lk_X6_of : LkV yX6_of cX6_of 3 (some .int) 2 := ⟨⟨tbm 463 (by decide +kernel) (by decide +kernel), tbm 464 (by decide +kernel) (by decide +kernel)⟩, tbm 42 (by decide +kernel) (by decide +kernel), tbm 465 (by decide +kernel) (by decide +kernel), by decide +kernel⟩
theorem lk_X6_lamp : LkV yX6_lamp cX6_lamp 3 (some .int) 1 := ⟨⟨tbm 467 (by decide +kernel) (by decide +kernel), tbm 468 (by decide +kernel) (by decide +kernel)⟩, tbm 42 (by decide +kernel) (by decide +kernel), tbm 469 (by decide +kernel) (by decide +kernel), by decide +kernel⟩
theorem lk_X6_best : LkV yX6_best cX6_best 3 (some .int) 2 := ⟨⟨tbm 474 (by decide +kernel) (by decide +kernel), tbm 475 (by decide +kernel) (by decide +kernel)⟩, tbm 42 (by decide +kernel) (by decide +kernel), tbm 476 (by decide +kernel) (by decide +kernel), by decide +kernel⟩
theorem lk_X6_bestPump : LkV yX6_bestPump cX6_bestPump 5 (some .int) 0 := ⟨⟨tbm 496 (by decide +kernel) (by decide +kernel), tbm 497 (by decide +kernel) (by decide +kernel)⟩, tbm 42 (by decide +kernel) (by decide +kernel), tbm 498 (by decide +kernel) (by decide +kernel), by decide +kernel⟩
theorem lk_X6_bestHour : LkV yX6_bestHour cX6_bestHour 6 (some .int) 1 := ⟨⟨tbm 501 (by decide +kernel) (by decide +kernel), tbm 502 (by decide +kernel) (by decide +kernel)⟩, tbm 42 (by decide +kernel) (by decide +kernel), tbm 503 (by decide +kernel) (by decide +kernel), by decide +kernel⟩
theorem lk_X6_without : LkV yX6_without cX6_without 2 (some .int) 1 := ⟨⟨tbm 505 (by decide +kernel) (by decide +kernel), tbm 506 (by decide +kernel) (by decide +kernel)⟩, tbm 42 (by decide +kernel) (by decide +kernel), tbm 507 (by decide +kernel) (by decide +kernel), by decide +kernel⟩
theorem lk_X6_second : LkV yX6_second cX6_second 2 (some .int) 1 := ⟨⟨tbm 518 (by decide +kernel) (by decide +kernel), tbm 519 (by decide +kernel) (by decide +kernel)⟩, tbm 42 (by decide +kernel) (by decide +kernel), tbm 520 (by decide +kernel) (by decide +kernel), by decide +kernel⟩
theorem lk_X6_bestSecond : LkV yX6_bestSecond cX6_bestSecond 5 (some .int) 0 := ⟨⟨tbm 525 (by decide +kernel) (by decide +kernel), tbm 526 (by decide +kernel) (by decide +kernel)⟩, tbm 42 (by decide +kernel) (by decide +kernel), tbm 527 (by decide +kernel) (by decide +kernel), by decide +kernel⟩
theorem lk_X6_net : LkV yX6_net cX6_net 2 (some .int) 1 := ⟨⟨tbm 529 (by decide +kernel) (by decide +kernel), tbm 530 (by decide +kernel) (by decide +kernel)⟩, tbm 42 (by decide +kernel) (by decide +kernel), tbm 531 (by decide +kernel) (by decide +kernel), by decide +kernel⟩
theorem lk_X6_payments : LkV yX6_payments cX6_payments 1 (some .int) 0 := ⟨⟨tbm 545 (by decide +kernel) (by decide +kernel), tbm 546 (by decide +kernel) (by decide +kernel)⟩, tbm 42 (by decide +kernel) (by decide +kernel), tbm 547 (by decide +kernel) (by decide +kernel), by decide +kernel⟩
theorem lk_X6_near : LkV yX6_near cX6_near 4 (some .int) 2 := ⟨⟨tbm 557 (by decide +kernel) (by decide +kernel), tbm 558 (by decide +kernel) (by decide +kernel)⟩, tbm 42 (by decide +kernel) (by decide +kernel), tbm 559 (by decide +kernel) (by decide +kernel), by decide +kernel⟩
theorem lk_X6_midwife : LkV yX6_midwife cX6_midwife 6 (some .int) 1 := ⟨⟨tbm 562 (by decide +kernel) (by decide +kernel), tbm 563 (by decide +kernel) (by decide +kernel)⟩, tbm 42 (by decide +kernel) (by decide +kernel), tbm 564 (by decide +kernel) (by decide +kernel), by decide +kernel⟩
theorem lk_X6_watch : LkV yX6_watch cX6_watch 3 (some .int) 0 := ⟨⟨tbm 566 (by decide +kernel) (by decide +kernel), tbm 567 (by decide +kernel) (by decide +kernel)⟩, tbm 42 (by decide +kernel) (by decide +kernel), tbm 568 (by decide +kernel) (by decide +kernel), by decide +kernel⟩
theorem lk_X6_whoHad : LkV yX6_whoHad cX6_whoHad 3 (some .int) 2 := ⟨⟨tbm 574 (by decide +kernel) (by decide +kernel), tbm 575 (by decide +kernel) (by decide +kernel)⟩, tbm 42 (by decide +kernel) (by decide +kernel), tbm 576 (by decide +kernel) (by decide +kernel), by decide +kernel⟩
theorem lk_X6_leastOil : LkV yX6_leastOil cX6_leastOil 3 (some .int) 0 := ⟨⟨tbm 586 (by decide +kernel) (by decide +kernel), tbm 587 (by decide +kernel) (by decide +kernel)⟩, tbm 42 (by decide +kernel) (by decide +kernel), tbm 588 (by decide +kernel) (by decide +kernel), by decide +kernel⟩
theorem lk_X6_row : LkV yX6_row cX6_row 2 (some .int) 1 := ⟨⟨tbm 590 (by decide +kernel) (by decide +kernel), tbm 591 (by decide +kernel) (by decide +kernel)⟩, tbm 42 (by decide +kernel) (by decide +kernel), tbm 592 (by decide +kernel) (by decide +kernel), by decide +kernel⟩
theorem lk_X6_judge : LkV yX6_judge cX6_judge 2 (some .int) 0 := ⟨⟨tbm 594 (by decide +kernel) (by decide +kernel), tbm 595 (by decide +kernel) (by decide +kernel)⟩, tbm 42 (by decide +kernel) (by decide +kernel), tbm 596 (by decide +kernel) (by decide +kernel), by decide +kernel⟩
theorem lk_X6_clear : LkV yX6_clear cX6_clear 2 (some .int) 0 := ⟨⟨tbm 598 (by decide +kernel) (by decide +kernel), tbm 599 (by decide +kernel) (by decide +kernel)⟩, tbm 42 (by decide +kernel) (by decide +kernel), tbm 600 (by decide +kernel) (by decide +kernel), by decide +kernel⟩
theorem lk_X6_lots : LkV yX6_lots cX6_lots 8 (some .int) 3 := ⟨⟨tbm 602 (by decide +kernel) (by decide +kernel), tbm 603 (by decide +kernel) (by decide +kernel)⟩, tbm 42 (by decide +kernel) (by decide +kernel), tbm 604 (by decide +kernel) (by decide +kernel), by decide +kernel⟩
theorem lk_X6_image : LkV yX6_image cX6_image 1 (some .int) 0 := ⟨⟨tbm 614 (by decide +kernel) (by decide +kernel), tbm 615 (by decide +kernel) (by decide +kernel)⟩, tbm 42 (by decide +kernel) (by decide +kernel), tbm 616 (by decide +kernel) (by decide +kernel), by decide +kernel⟩
theorem lk_X6_on : LkV yX6_on cX6_on 1 (some .int) 0 := ⟨⟨tbm 618 (by decide +kernel) (by decide +kernel), tbm 619 (by decide +kernel) (by decide +kernel)⟩, tbm 42 (by decide +kernel) (by decide +kernel), tbm 620 (by decide +kernel) (by decide +kernel), by decide +kernel⟩
theorem lk_X6_count : LkV yX6_count cX6_count 2 (some .int) 1 := ⟨⟨tbm 622 (by decide +kernel) (by decide +kernel), tbm 623 (by decide +kernel) (by decide +kernel)⟩, tbm 42 (by decide +kernel) (by decide +kernel), tbm 624 (by decide +kernel) (by decide +kernel), by decide +kernel⟩
theorem lk_X6_refuse : LkV yX6_refuse cX6_refuse 2 (some .int) 1 := ⟨⟨tbm 280 (by decide +kernel) (by decide +kernel), tbm 0 (by decide +kernel) (by decide +kernel)⟩, tbm 42 (by decide +kernel) (by decide +kernel), tbm 281 (by decide +kernel) (by decide +kernel), by decide +kernel⟩
theorem lk_X6_refuseAmongAll : LkV yX6_refuseAmongAll cX6_refuseAmongAll 2 (some .int) 1 := ⟨⟨tbm 510 (by decide +kernel) (by decide +kernel), tbm 11 (by decide +kernel) (by decide +kernel)⟩, tbm 42 (by decide +kernel) (by decide +kernel), tbm 511 (by decide +kernel) (by decide +kernel), by decide +kernel⟩
theorem lk_X6_hourRefusal : LkS yX6_hourRefusal cX6_hourRefusal 1 (some .int) 1 := ⟨tbm 471 (by decide +kernel) (by decide +kernel), tbm 42 (by decide +kernel) (by decide +kernel), tbm 472 (by decide +kernel) (by decide +kernel), by decide +kernel⟩
theorem lk_X6_isCell : LkS yX6_isCell cX6_isCell 1 (some .boolean) 1 := ⟨tbm 522 (by decide +kernel) (by decide +kernel), tbm 42 (by decide +kernel) (by decide +kernel), tbm 523 (by decide +kernel) (by decide +kernel), by decide +kernel⟩
theorem lk_X6_valuesThatFitTheRow : LkV yX6_valuesThatFitTheRow cX6_valuesThatFitTheRow 6 (some .int) 3 := ⟨⟨tbm 579 (by decide +kernel) (by decide +kernel), tbm 13 (by decide +kernel) (by decide +kernel)⟩, tbm 42 (by decide +kernel) (by decide +kernel), tbm 580 (by decide +kernel) (by decide +kernel), by decide +kernel⟩
theorem lk_X6_firstNotSo : LkV yX6_firstNotSo cX6_firstNotSo 2 (some .int) 0 := ⟨⟨tbm 583 (by decide +kernel) (by decide +kernel), tbm 14 (by decide +kernel) (by decide +kernel)⟩, tbm 42 (by decide +kernel) (by decide +kernel), tbm 584 (by decide +kernel) (by decide +kernel), by decide +kernel⟩
theorem lk_X7_no : LkV yX7_no cX7_no 2 (some .int) 1 := ⟨⟨tbm 738 (by decide +kernel) (by decide +kernel), tbm 15 (by decide +kernel) (by decide +kernel)⟩, tbm 49 (by decide +kernel) (by decide +kernel), tbm 739 (by decide +kernel) (by decide +kernel), by decide +kernel⟩
theorem lk_X7_noMuch : LkV yX7_noMuch cX7_noMuch 2 (some .int) 1 := ⟨⟨tbm 968 (by decide +kernel) (by decide +kernel), tbm 37 (by decide +kernel) (by decide +kernel)⟩, tbm 49 (by decide +kernel) (by decide +kernel), tbm 969 (by decide +kernel) (by decide +kernel), by decide +kernel⟩
theorem lk_X7_within : LkS yX7_within cX7_within 3 (some .boolean) 3 := ⟨tbm 847 (by decide +kernel) (by decide +kernel), tbm 49 (by decide +kernel) (by decide +kernel), tbm 848 (by decide +kernel) (by decide +kernel), by decide +kernel⟩
theorem lk_X7_isGoer : LkV yX7_isGoer cX7_isGoer 2 (some .boolean) 1 := ⟨⟨tbm 854 (by decide +kernel) (by decide +kernel), tbm 20 (by decide +kernel) (by decide +kernel)⟩, tbm 49 (by decide +kernel) (by decide +kernel), tbm 855 (by decide +kernel) (by decide +kernel), by decide +kernel⟩
theorem lk_X7_isCell : LkS yX7_isCell cX7_isCell 1 (some .boolean) 1 := ⟨tbm 844 (by decide +kernel) (by decide +kernel), tbm 49 (by decide +kernel) (by decide +kernel), tbm 845 (by decide +kernel) (by decide +kernel), by decide +kernel⟩
theorem lk_X7_isHour : LkS yX7_isHour cX7_isHour 1 (some .boolean) 1 := ⟨tbm 850 (by decide +kernel) (by decide +kernel), tbm 49 (by decide +kernel) (by decide +kernel), tbm 851 (by decide +kernel) (by decide +kernel), by decide +kernel⟩
theorem lk_X7_mostOf : LkS yX7_mostOf cX7_mostOf 1 (some .int) 1 := ⟨tbm 886 (by decide +kernel) (by decide +kernel), tbm 49 (by decide +kernel) (by decide +kernel), tbm 887 (by decide +kernel) (by decide +kernel), by decide +kernel⟩
theorem lk_X7_letter : LkV yX7_letter cX7_letter 2 (some .int) 1 := ⟨⟨tbm 733 (by decide +kernel) (by decide +kernel), tbm 734 (by decide +kernel) (by decide +kernel)⟩, tbm 49 (by decide +kernel) (by decide +kernel), tbm 735 (by decide +kernel) (by decide +kernel), by decide +kernel⟩
theorem lk_X7_is : LkV yX7_is cX7_is 2 (some .boolean) 1 := ⟨⟨tbm 750 (by decide +kernel) (by decide +kernel), tbm 17 (by decide +kernel) (by decide +kernel)⟩, tbm 49 (by decide +kernel) (by decide +kernel), tbm 751 (by decide +kernel) (by decide +kernel), by decide +kernel⟩
theorem lk_X7_digits : LkV yX7_digits cX7_digits 3 (some .boolean) 1 := ⟨⟨tbm 837 (by decide +kernel) (by decide +kernel), tbm 18 (by decide +kernel) (by decide +kernel)⟩, tbm 49 (by decide +kernel) (by decide +kernel), tbm 838 (by decide +kernel) (by decide +kernel), by decide +kernel⟩
theorem lk_X7_two : LkV yX7_two cX7_two 2 (some .int) 1 := ⟨⟨tbm 841 (by decide +kernel) (by decide +kernel), tbm 19 (by decide +kernel) (by decide +kernel)⟩, tbm 49 (by decide +kernel) (by decide +kernel), tbm 842 (by decide +kernel) (by decide +kernel), by decide +kernel⟩
theorem lk_X7_statement : LkV yX7_statement cX7_statement 3 (some .int) 1 := ⟨⟨tbm 746 (by decide +kernel) (by decide +kernel), tbm 16 (by decide +kernel) (by decide +kernel)⟩, tbm 49 (by decide +kernel) (by decide +kernel), tbm 747 (by decide +kernel) (by decide +kernel), by decide +kernel⟩
theorem lk_X7_night : LkV yX7_night cX7_night 4 (some .int) 0 := ⟨⟨tbm 741 (by decide +kernel) (by decide +kernel), tbm 742 (by decide +kernel) (by decide +kernel)⟩, tbm 49 (by decide +kernel) (by decide +kernel), tbm 743 (by decide +kernel) (by decide +kernel), by decide +kernel⟩
theorem lk_X7_fetches : LkV yX7_fetches cX7_fetches 2 (some .int) 1 := ⟨⟨tbm 871 (by decide +kernel) (by decide +kernel), tbm 23 (by decide +kernel) (by decide +kernel)⟩, tbm 49 (by decide +kernel) (by decide +kernel), tbm 872 (by decide +kernel) (by decide +kernel), by decide +kernel⟩
theorem lk_X7_costs : LkV yX7_costs cX7_costs 2 (some .int) 1 := ⟨⟨tbm 875 (by decide +kernel) (by decide +kernel), tbm 24 (by decide +kernel) (by decide +kernel)⟩, tbm 49 (by decide +kernel) (by decide +kernel), tbm 876 (by decide +kernel) (by decide +kernel), by decide +kernel⟩
theorem lk_X7_goer : LkV yX7_goer cX7_goer 3 (some .int) 2 := ⟨⟨tbm 866 (by decide +kernel) (by decide +kernel), tbm 867 (by decide +kernel) (by decide +kernel)⟩, tbm 49 (by decide +kernel) (by decide +kernel), tbm 868 (by decide +kernel) (by decide +kernel), by decide +kernel⟩
theorem lk_X7_hour : LkV yX7_hour cX7_hour 4 (some .int) 2 := ⟨⟨tbm 878 (by decide +kernel) (by decide +kernel), tbm 879 (by decide +kernel) (by decide +kernel)⟩, tbm 49 (by decide +kernel) (by decide +kernel), tbm 880 (by decide +kernel) (by decide +kernel), by decide +kernel⟩
theorem lk_X7_set : LkV yX7_set cX7_set 4 (some .int) 2 := ⟨⟨tbm 882 (by decide +kernel) (by decide +kernel), tbm 883 (by decide +kernel) (by decide +kernel)⟩, tbm 49 (by decide +kernel) (by decide +kernel), tbm 884 (by decide +kernel) (by decide +kernel), by decide +kernel⟩
theorem lk_X7_walksDark : LkV yX7_walksDark cX7_walksDark 4 none 3 := ⟨⟨tbm 915 (by decide +kernel) (by decide +kernel), tbm 30 (by decide +kernel) (by decide +kernel)⟩, tbm 49 (by decide +kernel) (by decide +kernel), tbm 916 (by decide +kernel) (by decide +kernel), by decide +kernel⟩
theorem lk_X7_carries : LkV yX7_carries cX7_carries 6 none 3 := ⟨⟨tbm 923 (by decide +kernel) (by decide +kernel), tbm 32 (by decide +kernel) (by decide +kernel)⟩, tbm 49 (by decide +kernel) (by decide +kernel), tbm 924 (by decide +kernel) (by decide +kernel), by decide +kernel⟩
theorem lk_X7_carriedTo : LkV yX7_carriedTo cX7_carriedTo 4 (some .int) 2 := ⟨⟨tbm 919 (by decide +kernel) (by decide +kernel), tbm 31 (by decide +kernel) (by decide +kernel)⟩, tbm 49 (by decide +kernel) (by decide +kernel), tbm 920 (by decide +kernel) (by decide +kernel), by decide +kernel⟩
theorem lk_X7_nearer : LkV yX7_nearer cX7_nearer 4 (some .int) 1 := ⟨⟨tbm 910 (by decide +kernel) (by decide +kernel), tbm 29 (by decide +kernel) (by decide +kernel)⟩, tbm 49 (by decide +kernel) (by decide +kernel), tbm 911 (by decide +kernel) (by decide +kernel), by decide +kernel⟩
theorem lk_X7_goes : LkV yX7_goes cX7_goes 3 none 1 := ⟨⟨tbm 906 (by decide +kernel) (by decide +kernel), tbm 28 (by decide +kernel) (by decide +kernel)⟩, tbm 49 (by decide +kernel) (by decide +kernel), tbm 907 (by decide +kernel) (by decide +kernel), by decide +kernel⟩
theorem lk_X7_sets : LkV yX7_sets cX7_sets 2 none 1 := ⟨⟨tbm 902 (by decide +kernel) (by decide +kernel), tbm 27 (by decide +kernel) (by decide +kernel)⟩, tbm 49 (by decide +kernel) (by decide +kernel), tbm 903 (by decide +kernel) (by decide +kernel), by decide +kernel⟩
theorem lk_X7_run : LkV yX7_run cX7_run 5 none 2 := ⟨⟨tbm 898 (by decide +kernel) (by decide +kernel), tbm 26 (by decide +kernel) (by decide +kernel)⟩, tbm 49 (by decide +kernel) (by decide +kernel), tbm 899 (by decide +kernel) (by decide +kernel), by decide +kernel⟩
theorem lk_X7_run_ : LkV yX7_run_ cX7_run_ 1 none 0 := ⟨⟨tbm 894 (by decide +kernel) (by decide +kernel), tbm 25 (by decide +kernel) (by decide +kernel)⟩, tbm 49 (by decide +kernel) (by decide +kernel), tbm 895 (by decide +kernel) (by decide +kernel), by decide +kernel⟩
theorem lk_X7_cost : LkV yX7_cost cX7_cost 3 (some .int) 0 := ⟨⟨tbm 928 (by decide +kernel) (by decide +kernel), tbm 33 (by decide +kernel) (by decide +kernel)⟩, tbm 49 (by decide +kernel) (by decide +kernel), tbm 929 (by decide +kernel) (by decide +kernel), by decide +kernel⟩
theorem lk_X7_costNow : LkV yX7_costNow cX7_costNow 1 (some .int) 0 := ⟨⟨tbm 956 (by decide +kernel) (by decide +kernel), tbm 36 (by decide +kernel) (by decide +kernel)⟩, tbm 49 (by decide +kernel) (by decide +kernel), tbm 957 (by decide +kernel) (by decide +kernel), by decide +kernel⟩
theorem lk_X7_sums : LkV yX7_sums cX7_sums 4 (some .int) 1 := ⟨⟨tbm 889 (by decide +kernel) (by decide +kernel), tbm 890 (by decide +kernel) (by decide +kernel)⟩, tbm 49 (by decide +kernel) (by decide +kernel), tbm 891 (by decide +kernel) (by decide +kernel), by decide +kernel⟩
theorem lk_X7_of : LkV yX7_of cX7_of 3 (some .int) 2 := ⟨⟨tbm 931 (by decide +kernel) (by decide +kernel), tbm 932 (by decide +kernel) (by decide +kernel)⟩, tbm 49 (by decide +kernel) (by decide +kernel), tbm 933 (by decide +kernel) (by decide +kernel), by decide +kernel⟩
theorem lk_X7_lamp : LkV yX7_lamp cX7_lamp 2 (some .int) 1 := ⟨⟨tbm 935 (by decide +kernel) (by decide +kernel), tbm 936 (by decide +kernel) (by decide +kernel)⟩, tbm 49 (by decide +kernel) (by decide +kernel), tbm 937 (by decide +kernel) (by decide +kernel), by decide +kernel⟩
theorem lk_X7_nextOrder : LkV yX7_nextOrder cX7_nextOrder 5 (some .boolean) 0 := ⟨⟨tbm 944 (by decide +kernel) (by decide +kernel), tbm 34 (by decide +kernel) (by decide +kernel)⟩, tbm 49 (by decide +kernel) (by decide +kernel), tbm 945 (by decide +kernel) (by decide +kernel), by decide +kernel⟩
theorem lk_X7_swap : LkV yX7_swap cX7_swap 4 none 2 := ⟨⟨tbm 948 (by decide +kernel) (by decide +kernel), tbm 35 (by decide +kernel) (by decide +kernel)⟩, tbm 49 (by decide +kernel) (by decide +kernel), tbm 949 (by decide +kernel) (by decide +kernel), by decide +kernel⟩
theorem lk_X7_best : LkV yX7_best cX7_best 7 (some .int) 2 := ⟨⟨tbm 939 (by decide +kernel) (by decide +kernel), tbm 940 (by decide +kernel) (by decide +kernel)⟩, tbm 49 (by decide +kernel) (by decide +kernel), tbm 941 (by decide +kernel) (by decide +kernel), by decide +kernel⟩
theorem lk_X7_bestPump : LkV yX7_bestPump cX7_bestPump 6 (some .int) 0 := ⟨⟨tbm 951 (by decide +kernel) (by decide +kernel), tbm 952 (by decide +kernel) (by decide +kernel)⟩, tbm 49 (by decide +kernel) (by decide +kernel), tbm 953 (by decide +kernel) (by decide +kernel), by decide +kernel⟩
theorem lk_X7_bestHour : LkV yX7_bestHour cX7_bestHour 7 (some .int) 1 := ⟨⟨tbm 959 (by decide +kernel) (by decide +kernel), tbm 960 (by decide +kernel) (by decide +kernel)⟩, tbm 49 (by decide +kernel) (by decide +kernel), tbm 961 (by decide +kernel) (by decide +kernel), by decide +kernel⟩
theorem lk_X7_without : LkV yX7_without cX7_without 3 (some .int) 1 := ⟨⟨tbm 963 (by decide +kernel) (by decide +kernel), tbm 964 (by decide +kernel) (by decide +kernel)⟩, tbm 49 (by decide +kernel) (by decide +kernel), tbm 965 (by decide +kernel) (by decide +kernel), by decide +kernel⟩
theorem lk_X7_secondAt : LkV yX7_secondAt cX7_secondAt 3 (some .int) 1 := ⟨⟨tbm 977 (by decide +kernel) (by decide +kernel), tbm 38 (by decide +kernel) (by decide +kernel)⟩, tbm 49 (by decide +kernel) (by decide +kernel), tbm 978 (by decide +kernel) (by decide +kernel), by decide +kernel⟩
theorem lk_X7_second : LkV yX7_second cX7_second 2 (some .int) 1 := ⟨⟨tbm 972 (by decide +kernel) (by decide +kernel), tbm 973 (by decide +kernel) (by decide +kernel)⟩, tbm 49 (by decide +kernel) (by decide +kernel), tbm 974 (by decide +kernel) (by decide +kernel), by decide +kernel⟩
theorem lk_X7_bestSecond : LkV yX7_bestSecond cX7_bestSecond 3 (some .int) 0 := ⟨⟨tbm 980 (by decide +kernel) (by decide +kernel), tbm 981 (by decide +kernel) (by decide +kernel)⟩, tbm 49 (by decide +kernel) (by decide +kernel), tbm 982 (by decide +kernel) (by decide +kernel), by decide +kernel⟩
theorem lk_X7_owe : LkV yX7_owe cX7_owe 5 none 0 := ⟨⟨tbm 989 (by decide +kernel) (by decide +kernel), tbm 39 (by decide +kernel) (by decide +kernel)⟩, tbm 49 (by decide +kernel) (by decide +kernel), tbm 990 (by decide +kernel) (by decide +kernel), by decide +kernel⟩
theorem lk_X7_net : LkV yX7_net cX7_net 2 (some .int) 1 := ⟨⟨tbm 984 (by decide +kernel) (by decide +kernel), tbm 985 (by decide +kernel) (by decide +kernel)⟩, tbm 49 (by decide +kernel) (by decide +kernel), tbm 986 (by decide +kernel) (by decide +kernel), by decide +kernel⟩
theorem lk_X7_payments : LkV yX7_payments cX7_payments 6 (some .int) 0 := ⟨⟨tbm 993 (by decide +kernel) (by decide +kernel), tbm 994 (by decide +kernel) (by decide +kernel)⟩, tbm 49 (by decide +kernel) (by decide +kernel), tbm 995 (by decide +kernel) (by decide +kernel), by decide +kernel⟩
theorem lk_X7_near : LkV yX7_near cX7_near 3 (some .int) 2 := ⟨⟨tbm 997 (by decide +kernel) (by decide +kernel), tbm 998 (by decide +kernel) (by decide +kernel)⟩, tbm 49 (by decide +kernel) (by decide +kernel), tbm 999 (by decide +kernel) (by decide +kernel), by decide +kernel⟩
theorem lk_X7_midwife : LkV yX7_midwife cX7_midwife 4 (some .int) 1 := ⟨⟨tbm 1001 (by decide +kernel) (by decide +kernel), tbm 1002 (by decide +kernel) (by decide +kernel)⟩, tbm 49 (by decide +kernel) (by decide +kernel), tbm 1003 (by decide +kernel) (by decide +kernel), by decide +kernel⟩
theorem lk_X7_watch : LkV yX7_watch cX7_watch 5 (some .int) 0 := ⟨⟨tbm 1005 (by decide +kernel) (by decide +kernel), tbm 1006 (by decide +kernel) (by decide +kernel)⟩, tbm 49 (by decide +kernel) (by decide +kernel), tbm 1007 (by decide +kernel) (by decide +kernel), by decide +kernel⟩
theorem lk_X7_wrong : LkV yX7_wrong cX7_wrong 2 (some .int) 0 := ⟨⟨tbm 1014 (by decide +kernel) (by decide +kernel), tbm 40 (by decide +kernel) (by decide +kernel)⟩, tbm 49 (by decide +kernel) (by decide +kernel), tbm 1015 (by decide +kernel) (by decide +kernel), by decide +kernel⟩
theorem lk_X7_whoHad : LkV yX7_whoHad cX7_whoHad 7 (some .int) 2 := ⟨⟨tbm 1009 (by decide +kernel) (by decide +kernel), tbm 1010 (by decide +kernel) (by decide +kernel)⟩, tbm 49 (by decide +kernel) (by decide +kernel), tbm 1011 (by decide +kernel) (by decide +kernel), by decide +kernel⟩
theorem lk_X7_leastOil : LkV yX7_leastOil cX7_leastOil 5 (some .int) 0 := ⟨⟨tbm 1017 (by decide +kernel) (by decide +kernel), tbm 1018 (by decide +kernel) (by decide +kernel)⟩, tbm 49 (by decide +kernel) (by decide +kernel), tbm 1019 (by decide +kernel) (by decide +kernel), by decide +kernel⟩
theorem lk_X7_row : LkV yX7_row cX7_row 2 (some .int) 1 := ⟨⟨tbm 1021 (by decide +kernel) (by decide +kernel), tbm 1022 (by decide +kernel) (by decide +kernel)⟩, tbm 49 (by decide +kernel) (by decide +kernel), tbm 1023 (by decide +kernel) (by decide +kernel), by decide +kernel⟩
theorem lk_X7_judge : LkV yX7_judge cX7_judge 2 (some .int) 0 := ⟨⟨tbm 1025 (by decide +kernel) (by decide +kernel), tbm 1026 (by decide +kernel) (by decide +kernel)⟩, tbm 49 (by decide +kernel) (by decide +kernel), tbm 1027 (by decide +kernel) (by decide +kernel), by decide +kernel⟩
theorem lk_X7_clear : LkV yX7_clear cX7_clear 2 (some .int) 0 := ⟨⟨tbm 1029 (by decide +kernel) (by decide +kernel), tbm 1030 (by decide +kernel) (by decide +kernel)⟩, tbm 49 (by decide +kernel) (by decide +kernel), tbm 1031 (by decide +kernel) (by decide +kernel), by decide +kernel⟩
theorem lk_X7_lots : LkV yX7_lots cX7_lots 9 (some .int) 3 := ⟨⟨tbm 1033 (by decide +kernel) (by decide +kernel), tbm 1034 (by decide +kernel) (by decide +kernel)⟩, tbm 49 (by decide +kernel) (by decide +kernel), tbm 1035 (by decide +kernel) (by decide +kernel), by decide +kernel⟩
theorem lk_X7_keep : LkV yX7_keep cX7_keep 3 none 1 := ⟨⟨tbm 858 (by decide +kernel) (by decide +kernel), tbm 21 (by decide +kernel) (by decide +kernel)⟩, tbm 49 (by decide +kernel) (by decide +kernel), tbm 859 (by decide +kernel) (by decide +kernel), by decide +kernel⟩
theorem lk_X7_again : LkV yX7_again cX7_again 3 none 1 := ⟨⟨tbm 862 (by decide +kernel) (by decide +kernel), tbm 22 (by decide +kernel) (by decide +kernel)⟩, tbm 49 (by decide +kernel) (by decide +kernel), tbm 863 (by decide +kernel) (by decide +kernel), by decide +kernel⟩
theorem lk_X7_image : LkV yX7_image cX7_image 1 (some .int) 0 := ⟨⟨tbm 1040 (by decide +kernel) (by decide +kernel), tbm 1041 (by decide +kernel) (by decide +kernel)⟩, tbm 49 (by decide +kernel) (by decide +kernel), tbm 1042 (by decide +kernel) (by decide +kernel), by decide +kernel⟩
theorem lk_X7_on : LkV yX7_on cX7_on 1 (some .int) 0 := ⟨⟨tbm 1044 (by decide +kernel) (by decide +kernel), tbm 1045 (by decide +kernel) (by decide +kernel)⟩, tbm 49 (by decide +kernel) (by decide +kernel), tbm 1046 (by decide +kernel) (by decide +kernel), by decide +kernel⟩
theorem lk_X7_count : LkV yX7_count cX7_count 4 (some .int) 1 := ⟨⟨tbm 1048 (by decide +kernel) (by decide +kernel), tbm 1049 (by decide +kernel) (by decide +kernel)⟩, tbm 49 (by decide +kernel) (by decide +kernel), tbm 1050 (by decide +kernel) (by decide +kernel), by decide +kernel⟩
section WROWS
variable {p : Program} {l : Launch} {e : Env} {R : Room} {s : State} {m : MethodId} {args : Array Value} {below : List Frame} {meth : Method} {c : Code} {Q : State → Prop} {cc : ByteArray} {nL : Nat} {own : String} {D : va_G} {cI : ClassId} {q : Nat → Nat} {A : Nat → Prop} {E : Et} {g : Sg} {pc a : Nat} {lo : List (Nat × Value)} {st : List Value}
theorem gf_X6_0_0 (C : JC p s m args c cc nL own D cI A E) {idx : Nat} (hl : Cond.fieldLink own idx "LightAsFarAsThePump" "alley" "LLightAsFarAsThePump$Alley;" ∈ TB) (hdg : decode cc pc = .ok (.getfield idx, 3)) (kk : J p l e R s m args below meth c D (cW q cI) A nL Q g (pc + 3) lo (.ref (q 3) :: st)) : J p l e R s m args below meth c D (cW q cI) A nL Q g pc lo (.ref (q 0) :: st) := J.get C 0 rfl rfl in_X6 0 (by decide) hl rfl hdg kk
theorem gf_X6_0_1 (C : JC p s m args c cc nL own D cI A E) {idx : Nat} (hl : Cond.fieldLink own idx "LightAsFarAsThePump" "image" "LLightAsFarAsThePump$Alley;" ∈ TB) (hdg : decode cc pc = .ok (.getfield idx, 3)) (kk : J p l e R s m args below meth c D (cW q cI) A nL Q g (pc + 3) lo (.ref (q 10) :: st)) : J p l e R s m args below meth c D (cW q cI) A nL Q g pc lo (.ref (q 0) :: st) := J.get C 0 rfl rfl in_X6 1 (by decide) hl rfl hdg kk
theorem gf_X6_0_2 (C : JC p s m args c cc nL own D cI A E) {idx : Nat} (hl : Cond.fieldLink own idx "LightAsFarAsThePump" "trial" "LLightAsFarAsThePump$Alley;" ∈ TB) (hdg : decode cc pc = .ok (.getfield idx, 3)) (kk : J p l e R s m args below meth c D (cW q cI) A nL Q g (pc + 3) lo (.ref (q 17) :: st)) : J p l e R s m args below meth c D (cW q cI) A nL Q g pc lo (.ref (q 0) :: st) := J.get C 0 rfl rfl in_X6 2 (by decide) hl rfl hdg kk
theorem gf_X6_0_3 (C : JC p s m args c cc nL own D cI A E) {idx : Nat} (hl : Cond.fieldLink own idx "LightAsFarAsThePump" "letters" "LLightAsFarAsThePump$Letters;" ∈ TB) (hdg : decode cc pc = .ok (.getfield idx, 3)) (kk : J p l e R s m args below meth c D (cW q cI) A nL Q g (pc + 3) lo (.ref (q 24) :: st)) : J p l e R s m args below meth c D (cW q cI) A nL Q g pc lo (.ref (q 0) :: st) := J.get C 0 rfl rfl in_X6 3 (by decide) hl rfl hdg kk
theorem gf_X6_0_4 (C : JC p s m args c cc nL own D cI A E) {idx : Nat} (hl : Cond.fieldLink own idx "LightAsFarAsThePump" "walk" "LLightAsFarAsThePump$Walk;" ∈ TB) (hdg : decode cc pc = .ok (.getfield idx, 3)) (kk : J p l e R s m args below meth c D (cW q cI) A nL Q g (pc + 3) lo (.ref (q 26) :: st)) : J p l e R s m args below meth c D (cW q cI) A nL Q g pc lo (.ref (q 0) :: st) := J.get C 0 rfl rfl in_X6 4 (by decide) hl rfl hdg kk
theorem gf_X6_0_5 (C : JC p s m args c cc nL own D cI A E) {idx : Nat} (hl : Cond.fieldLink own idx "LightAsFarAsThePump" "orders" "LLightAsFarAsThePump$Orders;" ∈ TB) (hdg : decode cc pc = .ok (.getfield idx, 3)) (kk : J p l e R s m args below meth c D (cW q cI) A nL Q g (pc + 3) lo (.ref (q 37) :: st)) : J p l e R s m args below meth c D (cW q cI) A nL Q g pc lo (.ref (q 0) :: st) := J.get C 0 rfl rfl in_X6 5 (by decide) hl rfl hdg kk
theorem gf_X6_0_6 (C : JC p s m args c cc nL own D cI A E) {idx : Nat} (hl : Cond.fieldLink own idx "LightAsFarAsThePump" "debts" "LLightAsFarAsThePump$Debts;" ∈ TB) (hdg : decode cc pc = .ok (.getfield idx, 3)) (kk : J p l e R s m args below meth c D (cW q cI) A nL Q g (pc + 3) lo (.ref (q 40) :: st)) : J p l e R s m args below meth c D (cW q cI) A nL Q g pc lo (.ref (q 0) :: st) := J.get C 0 rfl rfl in_X6 6 (by decide) hl rfl hdg kk
theorem gf_X6_0_7 (C : JC p s m args c cc nL own D cI A E) {idx : Nat} (hl : Cond.fieldLink own idx "LightAsFarAsThePump" "row" "[I" ∈ TB) (hdg : decode cc pc = .ok (.getfield idx, 3)) (kk : J p l e R s m args below meth c D (cW q cI) A nL Q g (pc + 3) lo (.ref (q 1) :: st)) : J p l e R s m args below meth c D (cW q cI) A nL Q g pc lo (.ref (q 0) :: st) := J.get C 0 rfl rfl in_X6 7 (by decide) hl rfl hdg kk
theorem gf_X6_0_8 (C : JC p s m args c cc nL own D cI A E) {idx : Nat} (hl : Cond.fieldLink own idx "LightAsFarAsThePump" "inRow" "I" ∈ TB) (hdg : decode cc pc = .ok (.getfield idx, 3)) (kk : J p l e R s m args below meth c D (cW q cI) A nL Q g (pc + 3) lo (.int (g.1 0) :: st)) : J p l e R s m args below meth c D (cW q cI) A nL Q g pc lo (.ref (q 0) :: st) := J.get C 0 rfl rfl in_X6 8 (by decide) hl rfl hdg kk
theorem pf_X6_0_8 (C : JC p s m args c cc nL own D cI A E) {idx : Nat} {v : Int32} (hl : Cond.fieldLink own idx "LightAsFarAsThePump" "inRow" "I" ∈ TB) (hdg : decode cc pc = .ok (.putfield idx, 3)) (kk : J p l e R s m args below meth c D (cW q cI) A nL Q (sI g 0 v) (pc + 3) lo st) : J p l e R s m args below meth c D (cW q cI) A nL Q g pc lo (.int v :: .ref (q 0) :: st) := J.put C 0 rfl rfl in_X6 tyX6 tyX6_ok nmX6 8 (by decide) hl rfl (ty := .int) (by decide +kernel) rfl rfl (Nat.le_of_ble_eq_true rfl) rfl hdg kk
theorem gf_X6_0_9 (C : JC p s m args c cc nL own D cI A E) {idx : Nat} (hl : Cond.fieldLink own idx "LightAsFarAsThePump" "refusals" "[I" ∈ TB) (hdg : decode cc pc = .ok (.getfield idx, 3)) (kk : J p l e R s m args below meth c D (cW q cI) A nL Q g (pc + 3) lo (.ref (q 2) :: st)) : J p l e R s m args below meth c D (cW q cI) A nL Q g pc lo (.ref (q 0) :: st) := J.get C 0 rfl rfl in_X6 9 (by decide) hl rfl hdg kk
theorem gf_X6_0_10 (C : JC p s m args c cc nL own D cI A E) {idx : Nat} (hl : Cond.fieldLink own idx "LightAsFarAsThePump" "imageTaken" "Z" ∈ TB) (hdg : decode cc pc = .ok (.getfield idx, 3)) (kk : J p l e R s m args below meth c D (cW q cI) A nL Q g (pc + 3) lo (.int (g.1 1) :: st)) : J p l e R s m args below meth c D (cW q cI) A nL Q g pc lo (.ref (q 0) :: st) := J.get C 0 rfl rfl in_X6 10 (by decide) hl rfl hdg kk
theorem pf_X6_0_10 (C : JC p s m args c cc nL own D cI A E) {idx : Nat} {v : Int32} (hz : narrow .boolean (.int v) = .int v) (hzf : fits .boolean (.int v) = true) (hl : Cond.fieldLink own idx "LightAsFarAsThePump" "imageTaken" "Z" ∈ TB) (hdg : decode cc pc = .ok (.putfield idx, 3)) (kk : J p l e R s m args below meth c D (cW q cI) A nL Q (sI g 1 v) (pc + 3) lo st) : J p l e R s m args below meth c D (cW q cI) A nL Q g pc lo (.int v :: .ref (q 0) :: st) := J.put C 0 rfl rfl in_X6 tyX6 tyX6_ok nmX6 10 (by decide) hl rfl (ty := .boolean) (by decide +kernel) hz hzf (Nat.le_of_ble_eq_true rfl) rfl hdg kk
theorem gf_X2_24_0 (C : JC p s m args c cc nL own D cI A E) {idx : Nat} (hl : Cond.fieldLink own idx "LightAsFarAsThePump$Letters" "letter" "[I" ∈ TB) (hdg : decode cc pc = .ok (.getfield idx, 3)) (kk : J p l e R s m args below meth c D (cW q cI) A nL Q g (pc + 3) lo (.ref (q 25) :: st)) : J p l e R s m args below meth c D (cW q cI) A nL Q g pc lo (.ref (q 24) :: st) := J.get C 24 rfl rfl in_X2 0 (by decide) hl rfl hdg kk
theorem gf_X2_24_1 (C : JC p s m args c cc nL own D cI A E) {idx : Nat} (hl : Cond.fieldLink own idx "LightAsFarAsThePump$Letters" "size" "I" ∈ TB) (hdg : decode cc pc = .ok (.getfield idx, 3)) (kk : J p l e R s m args below meth c D (cW q cI) A nL Q g (pc + 3) lo (.int (g.1 24) :: st)) : J p l e R s m args below meth c D (cW q cI) A nL Q g pc lo (.ref (q 24) :: st) := J.get C 24 rfl rfl in_X2 1 (by decide) hl rfl hdg kk
theorem pf_X2_24_1 (C : JC p s m args c cc nL own D cI A E) {idx : Nat} {v : Int32} (hl : Cond.fieldLink own idx "LightAsFarAsThePump$Letters" "size" "I" ∈ TB) (hdg : decode cc pc = .ok (.putfield idx, 3)) (kk : J p l e R s m args below meth c D (cW q cI) A nL Q (sI g 24 v) (pc + 3) lo st) : J p l e R s m args below meth c D (cW q cI) A nL Q g pc lo (.int v :: .ref (q 24) :: st) := J.put C 24 rfl rfl in_X2 tyX2 tyX2_ok nmX2 1 (by decide) hl rfl (ty := .int) (by decide +kernel) rfl rfl (Nat.le_of_ble_eq_true rfl) rfl hdg kk
theorem gf_X5_26_0 (C : JC p s m args c cc nL own D cI A E) {idx : Nat} (hl : Cond.fieldLink own idx "LightAsFarAsThePump$Walk" "dark" "[I" ∈ TB) (hdg : decode cc pc = .ok (.getfield idx, 3)) (kk : J p l e R s m args below meth c D (cW q cI) A nL Q g (pc + 3) lo (.ref (q 27) :: st)) : J p l e R s m args below meth c D (cW q cI) A nL Q g pc lo (.ref (q 26) :: st) := J.get C 26 rfl rfl in_X5 0 (by decide) hl rfl hdg kk
theorem gf_X5_26_1 (C : JC p s m args c cc nL own D cI A E) {idx : Nat} (hl : Cond.fieldLink own idx "LightAsFarAsThePump$Walk" "light" "[I" ∈ TB) (hdg : decode cc pc = .ok (.getfield idx, 3)) (kk : J p l e R s m args below meth c D (cW q cI) A nL Q g (pc + 3) lo (.ref (q 28) :: st)) : J p l e R s m args below meth c D (cW q cI) A nL Q g pc lo (.ref (q 26) :: st) := J.get C 26 rfl rfl in_X5 1 (by decide) hl rfl hdg kk
theorem gf_X5_26_2 (C : JC p s m args c cc nL own D cI A E) {idx : Nat} (hl : Cond.fieldLink own idx "LightAsFarAsThePump$Walk" "cost" "[I" ∈ TB) (hdg : decode cc pc = .ok (.getfield idx, 3)) (kk : J p l e R s m args below meth c D (cW q cI) A nL Q g (pc + 3) lo (.ref (q 29) :: st)) : J p l e R s m args below meth c D (cW q cI) A nL Q g pc lo (.ref (q 26) :: st) := J.get C 26 rfl rfl in_X5 2 (by decide) hl rfl hdg kk
theorem gf_X5_26_3 (C : JC p s m args c cc nL own D cI A E) {idx : Nat} (hl : Cond.fieldLink own idx "LightAsFarAsThePump$Walk" "stood" "[I" ∈ TB) (hdg : decode cc pc = .ok (.getfield idx, 3)) (kk : J p l e R s m args below meth c D (cW q cI) A nL Q g (pc + 3) lo (.ref (q 30) :: st)) : J p l e R s m args below meth c D (cW q cI) A nL Q g pc lo (.ref (q 26) :: st) := J.get C 26 rfl rfl in_X5 3 (by decide) hl rfl hdg kk
theorem gf_X5_26_4 (C : JC p s m args c cc nL own D cI A E) {idx : Nat} (hl : Cond.fieldLink own idx "LightAsFarAsThePump$Walk" "had" "[I" ∈ TB) (hdg : decode cc pc = .ok (.getfield idx, 3)) (kk : J p l e R s m args below meth c D (cW q cI) A nL Q g (pc + 3) lo (.ref (q 31) :: st)) : J p l e R s m args below meth c D (cW q cI) A nL Q g pc lo (.ref (q 26) :: st) := J.get C 26 rfl rfl in_X5 4 (by decide) hl rfl hdg kk
theorem gf_X5_26_5 (C : JC p s m args c cc nL own D cI A E) {idx : Nat} (hl : Cond.fieldLink own idx "LightAsFarAsThePump$Walk" "whoWent" "[I" ∈ TB) (hdg : decode cc pc = .ok (.getfield idx, 3)) (kk : J p l e R s m args below meth c D (cW q cI) A nL Q g (pc + 3) lo (.ref (q 32) :: st)) : J p l e R s m args below meth c D (cW q cI) A nL Q g pc lo (.ref (q 26) :: st) := J.get C 26 rfl rfl in_X5 5 (by decide) hl rfl hdg kk
theorem gf_X5_26_6 (C : JC p s m args c cc nL own D cI A E) {idx : Nat} (hl : Cond.fieldLink own idx "LightAsFarAsThePump$Walk" "after" "[I" ∈ TB) (hdg : decode cc pc = .ok (.getfield idx, 3)) (kk : J p l e R s m args below meth c D (cW q cI) A nL Q g (pc + 3) lo (.ref (q 33) :: st)) : J p l e R s m args below meth c D (cW q cI) A nL Q g pc lo (.ref (q 26) :: st) := J.get C 26 rfl rfl in_X5 6 (by decide) hl rfl hdg kk
theorem gf_X5_26_7 (C : JC p s m args c cc nL own D cI A E) {idx : Nat} (hl : Cond.fieldLink own idx "LightAsFarAsThePump$Walk" "atEnd" "[I" ∈ TB) (hdg : decode cc pc = .ok (.getfield idx, 3)) (kk : J p l e R s m args below meth c D (cW q cI) A nL Q g (pc + 3) lo (.ref (q 34) :: st)) : J p l e R s m args below meth c D (cW q cI) A nL Q g pc lo (.ref (q 26) :: st) := J.get C 26 rfl rfl in_X5 7 (by decide) hl rfl hdg kk
theorem gf_X5_26_8 (C : JC p s m args c cc nL own D cI A E) {idx : Nat} (hl : Cond.fieldLink own idx "LightAsFarAsThePump$Walk" "lampCell" "[I" ∈ TB) (hdg : decode cc pc = .ok (.getfield idx, 3)) (kk : J p l e R s m args below meth c D (cW q cI) A nL Q g (pc + 3) lo (.ref (q 35) :: st)) : J p l e R s m args below meth c D (cW q cI) A nL Q g pc lo (.ref (q 26) :: st) := J.get C 26 rfl rfl in_X5 8 (by decide) hl rfl hdg kk
theorem gf_X5_26_9 (C : JC p s m args c cc nL own D cI A E) {idx : Nat} (hl : Cond.fieldLink own idx "LightAsFarAsThePump$Walk" "lampOil" "[I" ∈ TB) (hdg : decode cc pc = .ok (.getfield idx, 3)) (kk : J p l e R s m args below meth c D (cW q cI) A nL Q g (pc + 3) lo (.ref (q 36) :: st)) : J p l e R s m args below meth c D (cW q cI) A nL Q g pc lo (.ref (q 26) :: st) := J.get C 26 rfl rfl in_X5 9 (by decide) hl rfl hdg kk
theorem gf_X5_26_10 (C : JC p s m args c cc nL own D cI A E) {idx : Nat} (hl : Cond.fieldLink own idx "LightAsFarAsThePump$Walk" "lamps" "I" ∈ TB) (hdg : decode cc pc = .ok (.getfield idx, 3)) (kk : J p l e R s m args below meth c D (cW q cI) A nL Q g (pc + 3) lo (.int (g.1 26) :: st)) : J p l e R s m args below meth c D (cW q cI) A nL Q g pc lo (.ref (q 26) :: st) := J.get C 26 rfl rfl in_X5 10 (by decide) hl rfl hdg kk
theorem pf_X5_26_10 (C : JC p s m args c cc nL own D cI A E) {idx : Nat} {v : Int32} (hl : Cond.fieldLink own idx "LightAsFarAsThePump$Walk" "lamps" "I" ∈ TB) (hdg : decode cc pc = .ok (.putfield idx, 3)) (kk : J p l e R s m args below meth c D (cW q cI) A nL Q (sI g 26 v) (pc + 3) lo st) : J p l e R s m args below meth c D (cW q cI) A nL Q g pc lo (.int v :: .ref (q 26) :: st) := J.put C 26 rfl rfl in_X5 tyX5 tyX5_ok nmX5 10 (by decide) hl rfl (ty := .int) (by decide +kernel) rfl rfl (Nat.le_of_ble_eq_true rfl) rfl hdg kk
theorem gf_X5_26_11 (C : JC p s m args c cc nL own D cI A E) {idx : Nat} (hl : Cond.fieldLink own idx "LightAsFarAsThePump$Walk" "went" "I" ∈ TB) (hdg : decode cc pc = .ok (.getfield idx, 3)) (kk : J p l e R s m args below meth c D (cW q cI) A nL Q g (pc + 3) lo (.int (g.1 27) :: st)) : J p l e R s m args below meth c D (cW q cI) A nL Q g pc lo (.ref (q 26) :: st) := J.get C 26 rfl rfl in_X5 11 (by decide) hl rfl hdg kk
theorem pf_X5_26_11 (C : JC p s m args c cc nL own D cI A E) {idx : Nat} {v : Int32} (hl : Cond.fieldLink own idx "LightAsFarAsThePump$Walk" "went" "I" ∈ TB) (hdg : decode cc pc = .ok (.putfield idx, 3)) (kk : J p l e R s m args below meth c D (cW q cI) A nL Q (sI g 27 v) (pc + 3) lo st) : J p l e R s m args below meth c D (cW q cI) A nL Q g pc lo (.int v :: .ref (q 26) :: st) := J.put C 26 rfl rfl in_X5 tyX5 tyX5_ok nmX5 11 (by decide) hl rfl (ty := .int) (by decide +kernel) rfl rfl (Nat.le_of_ble_eq_true rfl) rfl hdg kk
theorem gf_X5_26_12 (C : JC p s m args c cc nL own D cI A E) {idx : Nat} (hl : Cond.fieldLink own idx "LightAsFarAsThePump$Walk" "allCost" "I" ∈ TB) (hdg : decode cc pc = .ok (.getfield idx, 3)) (kk : J p l e R s m args below meth c D (cW q cI) A nL Q g (pc + 3) lo (.int (g.1 28) :: st)) : J p l e R s m args below meth c D (cW q cI) A nL Q g pc lo (.ref (q 26) :: st) := J.get C 26 rfl rfl in_X5 12 (by decide) hl rfl hdg kk
theorem pf_X5_26_12 (C : JC p s m args c cc nL own D cI A E) {idx : Nat} {v : Int32} (hl : Cond.fieldLink own idx "LightAsFarAsThePump$Walk" "allCost" "I" ∈ TB) (hdg : decode cc pc = .ok (.putfield idx, 3)) (kk : J p l e R s m args below meth c D (cW q cI) A nL Q (sI g 28 v) (pc + 3) lo st) : J p l e R s m args below meth c D (cW q cI) A nL Q g pc lo (.int v :: .ref (q 26) :: st) := J.put C 26 rfl rfl in_X5 tyX5 tyX5_ok nmX5 12 (by decide) hl rfl (ty := .int) (by decide +kernel) rfl rfl (Nat.le_of_ble_eq_true rfl) rfl hdg kk
theorem gf_X5_26_13 (C : JC p s m args c cc nL own D cI A E) {idx : Nat} (hl : Cond.fieldLink own idx "LightAsFarAsThePump$Walk" "allDark" "I" ∈ TB) (hdg : decode cc pc = .ok (.getfield idx, 3)) (kk : J p l e R s m args below meth c D (cW q cI) A nL Q g (pc + 3) lo (.int (g.1 29) :: st)) : J p l e R s m args below meth c D (cW q cI) A nL Q g pc lo (.ref (q 26) :: st) := J.get C 26 rfl rfl in_X5 13 (by decide) hl rfl hdg kk
theorem pf_X5_26_13 (C : JC p s m args c cc nL own D cI A E) {idx : Nat} {v : Int32} (hl : Cond.fieldLink own idx "LightAsFarAsThePump$Walk" "allDark" "I" ∈ TB) (hdg : decode cc pc = .ok (.putfield idx, 3)) (kk : J p l e R s m args below meth c D (cW q cI) A nL Q (sI g 29 v) (pc + 3) lo st) : J p l e R s m args below meth c D (cW q cI) A nL Q g pc lo (.int v :: .ref (q 26) :: st) := J.put C 26 rfl rfl in_X5 tyX5 tyX5_ok nmX5 13 (by decide) hl rfl (ty := .int) (by decide +kernel) rfl rfl (Nat.le_of_ble_eq_true rfl) rfl hdg kk
theorem gf_X5_26_14 (C : JC p s m args c cc nL own D cI A E) {idx : Nat} (hl : Cond.fieldLink own idx "LightAsFarAsThePump$Walk" "allLight" "I" ∈ TB) (hdg : decode cc pc = .ok (.getfield idx, 3)) (kk : J p l e R s m args below meth c D (cW q cI) A nL Q g (pc + 3) lo (.int (g.1 30) :: st)) : J p l e R s m args below meth c D (cW q cI) A nL Q g pc lo (.ref (q 26) :: st) := J.get C 26 rfl rfl in_X5 14 (by decide) hl rfl hdg kk
theorem pf_X5_26_14 (C : JC p s m args c cc nL own D cI A E) {idx : Nat} {v : Int32} (hl : Cond.fieldLink own idx "LightAsFarAsThePump$Walk" "allLight" "I" ∈ TB) (hdg : decode cc pc = .ok (.putfield idx, 3)) (kk : J p l e R s m args below meth c D (cW q cI) A nL Q (sI g 30 v) (pc + 3) lo st) : J p l e R s m args below meth c D (cW q cI) A nL Q g pc lo (.int v :: .ref (q 26) :: st) := J.put C 26 rfl rfl in_X5 tyX5 tyX5_ok nmX5 14 (by decide) hl rfl (ty := .int) (by decide +kernel) rfl rfl (Nat.le_of_ble_eq_true rfl) rfl hdg kk
theorem gf_X5_26_15 (C : JC p s m args c cc nL own D cI A E) {idx : Nat} (hl : Cond.fieldLink own idx "LightAsFarAsThePump$Walk" "takers" "I" ∈ TB) (hdg : decode cc pc = .ok (.getfield idx, 3)) (kk : J p l e R s m args below meth c D (cW q cI) A nL Q g (pc + 3) lo (.int (g.1 31) :: st)) : J p l e R s m args below meth c D (cW q cI) A nL Q g pc lo (.ref (q 26) :: st) := J.get C 26 rfl rfl in_X5 15 (by decide) hl rfl hdg kk
theorem pf_X5_26_15 (C : JC p s m args c cc nL own D cI A E) {idx : Nat} {v : Int32} (hl : Cond.fieldLink own idx "LightAsFarAsThePump$Walk" "takers" "I" ∈ TB) (hdg : decode cc pc = .ok (.putfield idx, 3)) (kk : J p l e R s m args below meth c D (cW q cI) A nL Q (sI g 31 v) (pc + 3) lo st) : J p l e R s m args below meth c D (cW q cI) A nL Q g pc lo (.int v :: .ref (q 26) :: st) := J.put C 26 rfl rfl in_X5 tyX5 tyX5_ok nmX5 15 (by decide) hl rfl (ty := .int) (by decide +kernel) rfl rfl (Nat.le_of_ble_eq_true rfl) rfl hdg kk
theorem gf_X5_26_16 (C : JC p s m args c cc nL own D cI A E) {idx : Nat} (hl : Cond.fieldLink own idx "LightAsFarAsThePump$Walk" "lastTaker" "I" ∈ TB) (hdg : decode cc pc = .ok (.getfield idx, 3)) (kk : J p l e R s m args below meth c D (cW q cI) A nL Q g (pc + 3) lo (.int (g.1 32) :: st)) : J p l e R s m args below meth c D (cW q cI) A nL Q g pc lo (.ref (q 26) :: st) := J.get C 26 rfl rfl in_X5 16 (by decide) hl rfl hdg kk
theorem pf_X5_26_16 (C : JC p s m args c cc nL own D cI A E) {idx : Nat} {v : Int32} (hl : Cond.fieldLink own idx "LightAsFarAsThePump$Walk" "lastTaker" "I" ∈ TB) (hdg : decode cc pc = .ok (.putfield idx, 3)) (kk : J p l e R s m args below meth c D (cW q cI) A nL Q (sI g 32 v) (pc + 3) lo st) : J p l e R s m args below meth c D (cW q cI) A nL Q g pc lo (.int v :: .ref (q 26) :: st) := J.put C 26 rfl rfl in_X5 tyX5 tyX5_ok nmX5 16 (by decide) hl rfl (ty := .int) (by decide +kernel) rfl rfl (Nat.le_of_ble_eq_true rfl) rfl hdg kk
theorem gf_X3_37_0 (C : JC p s m args c cc nL own D cI A E) {idx : Nat} (hl : Cond.fieldLink own idx "LightAsFarAsThePump$Orders" "best" "[I" ∈ TB) (hdg : decode cc pc = .ok (.getfield idx, 3)) (kk : J p l e R s m args below meth c D (cW q cI) A nL Q g (pc + 3) lo (.ref (q 38) :: st)) : J p l e R s m args below meth c D (cW q cI) A nL Q g pc lo (.ref (q 37) :: st) := J.get C 37 rfl rfl in_X3 0 (by decide) hl rfl hdg kk
theorem gf_X3_37_1 (C : JC p s m args c cc nL own D cI A E) {idx : Nat} (hl : Cond.fieldLink own idx "LightAsFarAsThePump$Orders" "leastCost" "I" ∈ TB) (hdg : decode cc pc = .ok (.getfield idx, 3)) (kk : J p l e R s m args below meth c D (cW q cI) A nL Q g (pc + 3) lo (.int (g.1 37) :: st)) : J p l e R s m args below meth c D (cW q cI) A nL Q g pc lo (.ref (q 37) :: st) := J.get C 37 rfl rfl in_X3 1 (by decide) hl rfl hdg kk
theorem pf_X3_37_1 (C : JC p s m args c cc nL own D cI A E) {idx : Nat} {v : Int32} (hl : Cond.fieldLink own idx "LightAsFarAsThePump$Orders" "leastCost" "I" ∈ TB) (hdg : decode cc pc = .ok (.putfield idx, 3)) (kk : J p l e R s m args below meth c D (cW q cI) A nL Q (sI g 37 v) (pc + 3) lo st) : J p l e R s m args below meth c D (cW q cI) A nL Q g pc lo (.int v :: .ref (q 37) :: st) := J.put C 37 rfl rfl in_X3 tyX3 tyX3_ok nmX3 1 (by decide) hl rfl (ty := .int) (by decide +kernel) rfl rfl (Nat.le_of_ble_eq_true rfl) rfl hdg kk
theorem gf_X3_37_2 (C : JC p s m args c cc nL own D cI A E) {idx : Nat} (hl : Cond.fieldLink own idx "LightAsFarAsThePump$Orders" "found" "Z" ∈ TB) (hdg : decode cc pc = .ok (.getfield idx, 3)) (kk : J p l e R s m args below meth c D (cW q cI) A nL Q g (pc + 3) lo (.int (g.1 38) :: st)) : J p l e R s m args below meth c D (cW q cI) A nL Q g pc lo (.ref (q 37) :: st) := J.get C 37 rfl rfl in_X3 2 (by decide) hl rfl hdg kk
theorem pf_X3_37_2 (C : JC p s m args c cc nL own D cI A E) {idx : Nat} {v : Int32} (hz : narrow .boolean (.int v) = .int v) (hzf : fits .boolean (.int v) = true) (hl : Cond.fieldLink own idx "LightAsFarAsThePump$Orders" "found" "Z" ∈ TB) (hdg : decode cc pc = .ok (.putfield idx, 3)) (kk : J p l e R s m args below meth c D (cW q cI) A nL Q (sI g 38 v) (pc + 3) lo st) : J p l e R s m args below meth c D (cW q cI) A nL Q g pc lo (.int v :: .ref (q 37) :: st) := J.put C 37 rfl rfl in_X3 tyX3 tyX3_ok nmX3 2 (by decide) hl rfl (ty := .boolean) (by decide +kernel) hz hzf (Nat.le_of_ble_eq_true rfl) rfl hdg kk
theorem gf_X3_37_3 (C : JC p s m args c cc nL own D cI A E) {idx : Nat} (hl : Cond.fieldLink own idx "LightAsFarAsThePump$Orders" "order" "[I" ∈ TB) (hdg : decode cc pc = .ok (.getfield idx, 3)) (kk : J p l e R s m args below meth c D (cW q cI) A nL Q g (pc + 3) lo (.ref (q 39) :: st)) : J p l e R s m args below meth c D (cW q cI) A nL Q g pc lo (.ref (q 37) :: st) := J.get C 37 rfl rfl in_X3 3 (by decide) hl rfl hdg kk
theorem gf_X1_40_0 (C : JC p s m args c cc nL own D cI A E) {idx : Nat} (hl : Cond.fieldLink own idx "LightAsFarAsThePump$Debts" "net" "[I" ∈ TB) (hdg : decode cc pc = .ok (.getfield idx, 3)) (kk : J p l e R s m args below meth c D (cW q cI) A nL Q g (pc + 3) lo (.ref (q 41) :: st)) : J p l e R s m args below meth c D (cW q cI) A nL Q g pc lo (.ref (q 40) :: st) := J.get C 40 rfl rfl in_X1 0 (by decide) hl rfl hdg kk
theorem gf_X1_40_1 (C : JC p s m args c cc nL own D cI A E) {idx : Nat} (hl : Cond.fieldLink own idx "LightAsFarAsThePump$Debts" "sum" "[I" ∈ TB) (hdg : decode cc pc = .ok (.getfield idx, 3)) (kk : J p l e R s m args below meth c D (cW q cI) A nL Q g (pc + 3) lo (.ref (q 42) :: st)) : J p l e R s m args below meth c D (cW q cI) A nL Q g pc lo (.ref (q 40) :: st) := J.get C 40 rfl rfl in_X1 1 (by decide) hl rfl hdg kk
theorem gf_X1_40_2 (C : JC p s m args c cc nL own D cI A E) {idx : Nat} (hl : Cond.fieldLink own idx "LightAsFarAsThePump$Debts" "groups" "[I" ∈ TB) (hdg : decode cc pc = .ok (.getfield idx, 3)) (kk : J p l e R s m args below meth c D (cW q cI) A nL Q g (pc + 3) lo (.ref (q 43) :: st)) : J p l e R s m args below meth c D (cW q cI) A nL Q g pc lo (.ref (q 40) :: st) := J.get C 40 rfl rfl in_X1 2 (by decide) hl rfl hdg kk
theorem gf_X0_0 (ha : isAl a) (C : JC p s m args c cc nL own D cI A E) {idx : Nat} (hl : Cond.fieldLink own idx "LightAsFarAsThePump$Alley" "setting" "[I" ∈ TB) (hdg : decode cc pc = .ok (.getfield idx, 3)) (kk : J p l e R s m args below meth c D (cW q cI) A nL Q g (pc + 3) lo (.ref (q (a + 1)) :: st)) : J p l e R s m args below meth c D (cW q cI) A nL Q g pc lo (.ref (q a) :: st) := by
  rcases ha with rfl | rfl | rfl
  · exact J.get C 3 rfl rfl in_X0 0 (by decide) hl rfl hdg kk
  · exact J.get C 10 rfl rfl in_X0 0 (by decide) hl rfl hdg kk
  · exact J.get C 17 rfl rfl in_X0 0 (by decide) hl rfl hdg kk
theorem gf_X0_1 (ha : isAl a) (C : JC p s m args c cc nL own D cI A E) {idx : Nat} (hl : Cond.fieldLink own idx "LightAsFarAsThePump$Alley" "kind" "[I" ∈ TB) (hdg : decode cc pc = .ok (.getfield idx, 3)) (kk : J p l e R s m args below meth c D (cW q cI) A nL Q g (pc + 3) lo (.ref (q (a + 2)) :: st)) : J p l e R s m args below meth c D (cW q cI) A nL Q g pc lo (.ref (q a) :: st) := by
  rcases ha with rfl | rfl | rfl
  · exact J.get C 3 rfl rfl in_X0 1 (by decide) hl rfl hdg kk
  · exact J.get C 10 rfl rfl in_X0 1 (by decide) hl rfl hdg kk
  · exact J.get C 17 rfl rfl in_X0 1 (by decide) hl rfl hdg kk
theorem gf_X0_2 (ha : isAl a) (C : JC p s m args c cc nL own D cI A E) {idx : Nat} (hl : Cond.fieldLink own idx "LightAsFarAsThePump$Alley" "figure" "[I" ∈ TB) (hdg : decode cc pc = .ok (.getfield idx, 3)) (kk : J p l e R s m args below meth c D (cW q cI) A nL Q g (pc + 3) lo (.ref (q (a + 3)) :: st)) : J p l e R s m args below meth c D (cW q cI) A nL Q g pc lo (.ref (q a) :: st) := by
  rcases ha with rfl | rfl | rfl
  · exact J.get C 3 rfl rfl in_X0 2 (by decide) hl rfl hdg kk
  · exact J.get C 10 rfl rfl in_X0 2 (by decide) hl rfl hdg kk
  · exact J.get C 17 rfl rfl in_X0 2 (by decide) hl rfl hdg kk
theorem gf_X0_3 (ha : isAl a) (C : JC p s m args c cc nL own D cI A E) {idx : Nat} (hl : Cond.fieldLink own idx "LightAsFarAsThePump$Alley" "from" "[I" ∈ TB) (hdg : decode cc pc = .ok (.getfield idx, 3)) (kk : J p l e R s m args below meth c D (cW q cI) A nL Q g (pc + 3) lo (.ref (q (a + 4)) :: st)) : J p l e R s m args below meth c D (cW q cI) A nL Q g pc lo (.ref (q a) :: st) := by
  rcases ha with rfl | rfl | rfl
  · exact J.get C 3 rfl rfl in_X0 3 (by decide) hl rfl hdg kk
  · exact J.get C 10 rfl rfl in_X0 3 (by decide) hl rfl hdg kk
  · exact J.get C 17 rfl rfl in_X0 3 (by decide) hl rfl hdg kk
theorem gf_X0_4 (ha : isAl a) (C : JC p s m args c cc nL own D cI A E) {idx : Nat} (hl : Cond.fieldLink own idx "LightAsFarAsThePump$Alley" "to" "[I" ∈ TB) (hdg : decode cc pc = .ok (.getfield idx, 3)) (kk : J p l e R s m args below meth c D (cW q cI) A nL Q g (pc + 3) lo (.ref (q (a + 5)) :: st)) : J p l e R s m args below meth c D (cW q cI) A nL Q g pc lo (.ref (q a) :: st) := by
  rcases ha with rfl | rfl | rfl
  · exact J.get C 3 rfl rfl in_X0 4 (by decide) hl rfl hdg kk
  · exact J.get C 10 rfl rfl in_X0 4 (by decide) hl rfl hdg kk
  · exact J.get C 17 rfl rfl in_X0 4 (by decide) hl rfl hdg kk
theorem gf_X0_5 (ha : isAl a) (C : JC p s m args c cc nL own D cI A E) {idx : Nat} (hl : Cond.fieldLink own idx "LightAsFarAsThePump$Alley" "hour" "[I" ∈ TB) (hdg : decode cc pc = .ok (.getfield idx, 3)) (kk : J p l e R s m args below meth c D (cW q cI) A nL Q g (pc + 3) lo (.ref (q (a + 6)) :: st)) : J p l e R s m args below meth c D (cW q cI) A nL Q g pc lo (.ref (q a) :: st) := by
  rcases ha with rfl | rfl | rfl
  · exact J.get C 3 rfl rfl in_X0 5 (by decide) hl rfl hdg kk
  · exact J.get C 10 rfl rfl in_X0 5 (by decide) hl rfl hdg kk
  · exact J.get C 17 rfl rfl in_X0 5 (by decide) hl rfl hdg kk
theorem gf_X0_6 (ha : isAl a) (C : JC p s m args c cc nL own D cI A E) {idx : Nat} (hl : Cond.fieldLink own idx "LightAsFarAsThePump$Alley" "size" "I" ∈ TB) (hdg : decode cc pc = .ok (.getfield idx, 3)) (kk : J p l e R s m args below meth c D (cW q cI) A nL Q g (pc + 3) lo (.int (g.1 a) :: st)) : J p l e R s m args below meth c D (cW q cI) A nL Q g pc lo (.ref (q a) :: st) := by
  rcases ha with rfl | rfl | rfl
  · exact J.get C 3 rfl rfl in_X0 6 (by decide) hl rfl hdg kk
  · exact J.get C 10 rfl rfl in_X0 6 (by decide) hl rfl hdg kk
  · exact J.get C 17 rfl rfl in_X0 6 (by decide) hl rfl hdg kk
theorem pf_X0_6 (ha : isAl a) (C : JC p s m args c cc nL own D cI A E) {idx : Nat} {v : Int32} (hl : Cond.fieldLink own idx "LightAsFarAsThePump$Alley" "size" "I" ∈ TB) (hdg : decode cc pc = .ok (.putfield idx, 3)) (kk : J p l e R s m args below meth c D (cW q cI) A nL Q (sI g a v) (pc + 3) lo st) : J p l e R s m args below meth c D (cW q cI) A nL Q g pc lo (.int v :: .ref (q a) :: st) := by
  rcases ha with rfl | rfl | rfl
  · exact J.put C 3 rfl rfl in_X0 tyX0 tyX0_ok nmX0 6 (by decide) hl rfl (ty := .int) (by decide +kernel) rfl rfl (Nat.le_of_ble_eq_true rfl) rfl hdg kk
  · exact J.put C 10 rfl rfl in_X0 tyX0 tyX0_ok nmX0 6 (by decide) hl rfl (ty := .int) (by decide +kernel) rfl rfl (Nat.le_of_ble_eq_true rfl) rfl hdg kk
  · exact J.put C 17 rfl rfl in_X0 tyX0 tyX0_ok nmX0 6 (by decide) hl rfl (ty := .int) (by decide +kernel) rfl rfl (Nat.le_of_ble_eq_true rfl) rfl hdg kk
theorem gf_X0_7 (ha : isAl a) (C : JC p s m args c cc nL own D cI A E) {idx : Nat} (hl : Cond.fieldLink own idx "LightAsFarAsThePump$Alley" "secondLamp" "I" ∈ TB) (hdg : decode cc pc = .ok (.getfield idx, 3)) (kk : J p l e R s m args below meth c D (cW q cI) A nL Q g (pc + 3) lo (.int (g.1 (a + 1)) :: st)) : J p l e R s m args below meth c D (cW q cI) A nL Q g pc lo (.ref (q a) :: st) := by
  rcases ha with rfl | rfl | rfl
  · exact J.get C 3 rfl rfl in_X0 7 (by decide) hl rfl hdg kk
  · exact J.get C 10 rfl rfl in_X0 7 (by decide) hl rfl hdg kk
  · exact J.get C 17 rfl rfl in_X0 7 (by decide) hl rfl hdg kk
theorem pf_X0_7 (ha : isAl a) (C : JC p s m args c cc nL own D cI A E) {idx : Nat} {v : Int32} (hl : Cond.fieldLink own idx "LightAsFarAsThePump$Alley" "secondLamp" "I" ∈ TB) (hdg : decode cc pc = .ok (.putfield idx, 3)) (kk : J p l e R s m args below meth c D (cW q cI) A nL Q (sI g (a + 1) v) (pc + 3) lo st) : J p l e R s m args below meth c D (cW q cI) A nL Q g pc lo (.int v :: .ref (q a) :: st) := by
  rcases ha with rfl | rfl | rfl
  · exact J.put C 3 rfl rfl in_X0 tyX0 tyX0_ok nmX0 7 (by decide) hl rfl (ty := .int) (by decide +kernel) rfl rfl (Nat.le_of_ble_eq_true rfl) rfl hdg kk
  · exact J.put C 10 rfl rfl in_X0 tyX0 tyX0_ok nmX0 7 (by decide) hl rfl (ty := .int) (by decide +kernel) rfl rfl (Nat.le_of_ble_eq_true rfl) rfl hdg kk
  · exact J.put C 17 rfl rfl in_X0 tyX0 tyX0_ok nmX0 7 (by decide) hl rfl (ty := .int) (by decide +kernel) rfl rfl (Nat.le_of_ble_eq_true rfl) rfl hdg kk
theorem gf_X7_0_0 (C : JC p s m args c cc nL own D cI A E) {idx : Nat} (hl : Cond.fieldLink own idx "LightAsFarAsThePumpModel" "goers" "I" ∈ TB) (hdg : decode cc pc = .ok (.getfield idx, 3)) (kk : J p l e R s m args below meth c D (mW q cI) A nL Q g (pc + 3) lo (.int (g.1 0) :: st)) : J p l e R s m args below meth c D (mW q cI) A nL Q g pc lo (.ref (q 0) :: st) := J.get C 0 rfl rfl in_X7 0 (by decide) hl rfl hdg kk
theorem pf_X7_0_0 (C : JC p s m args c cc nL own D cI A E) {idx : Nat} {v : Int32} (hl : Cond.fieldLink own idx "LightAsFarAsThePumpModel" "goers" "I" ∈ TB) (hdg : decode cc pc = .ok (.putfield idx, 3)) (kk : J p l e R s m args below meth c D (mW q cI) A nL Q (sI g 0 v) (pc + 3) lo st) : J p l e R s m args below meth c D (mW q cI) A nL Q g pc lo (.int v :: .ref (q 0) :: st) := J.put C 0 rfl rfl in_X7 tyX7 tyX7_ok nmX7 0 (by decide) hl rfl (ty := .int) (by decide +kernel) rfl rfl (Nat.le_of_ble_eq_true rfl) rfl hdg kk
theorem gf_X7_0_1 (C : JC p s m args c cc nL own D cI A E) {idx : Nat} (hl : Cond.fieldLink own idx "LightAsFarAsThePumpModel" "kind" "[I" ∈ TB) (hdg : decode cc pc = .ok (.getfield idx, 3)) (kk : J p l e R s m args below meth c D (mW q cI) A nL Q g (pc + 3) lo (.ref (q 1) :: st)) : J p l e R s m args below meth c D (mW q cI) A nL Q g pc lo (.ref (q 0) :: st) := J.get C 0 rfl rfl in_X7 1 (by decide) hl rfl hdg kk
theorem gf_X7_0_2 (C : JC p s m args c cc nL own D cI A E) {idx : Nat} (hl : Cond.fieldLink own idx "LightAsFarAsThePumpModel" "figure" "[I" ∈ TB) (hdg : decode cc pc = .ok (.getfield idx, 3)) (kk : J p l e R s m args below meth c D (mW q cI) A nL Q g (pc + 3) lo (.ref (q 2) :: st)) : J p l e R s m args below meth c D (mW q cI) A nL Q g pc lo (.ref (q 0) :: st) := J.get C 0 rfl rfl in_X7 2 (by decide) hl rfl hdg kk
theorem gf_X7_0_3 (C : JC p s m args c cc nL own D cI A E) {idx : Nat} (hl : Cond.fieldLink own idx "LightAsFarAsThePumpModel" "from" "[I" ∈ TB) (hdg : decode cc pc = .ok (.getfield idx, 3)) (kk : J p l e R s m args below meth c D (mW q cI) A nL Q g (pc + 3) lo (.ref (q 3) :: st)) : J p l e R s m args below meth c D (mW q cI) A nL Q g pc lo (.ref (q 0) :: st) := J.get C 0 rfl rfl in_X7 3 (by decide) hl rfl hdg kk
theorem gf_X7_0_4 (C : JC p s m args c cc nL own D cI A E) {idx : Nat} (hl : Cond.fieldLink own idx "LightAsFarAsThePumpModel" "to" "[I" ∈ TB) (hdg : decode cc pc = .ok (.getfield idx, 3)) (kk : J p l e R s m args below meth c D (mW q cI) A nL Q g (pc + 3) lo (.ref (q 4) :: st)) : J p l e R s m args below meth c D (mW q cI) A nL Q g pc lo (.ref (q 0) :: st) := J.get C 0 rfl rfl in_X7 4 (by decide) hl rfl hdg kk
theorem gf_X7_0_5 (C : JC p s m args c cc nL own D cI A E) {idx : Nat} (hl : Cond.fieldLink own idx "LightAsFarAsThePumpModel" "hour" "[I" ∈ TB) (hdg : decode cc pc = .ok (.getfield idx, 3)) (kk : J p l e R s m args below meth c D (mW q cI) A nL Q g (pc + 3) lo (.ref (q 5) :: st)) : J p l e R s m args below meth c D (mW q cI) A nL Q g pc lo (.ref (q 0) :: st) := J.get C 0 rfl rfl in_X7 5 (by decide) hl rfl hdg kk
theorem gf_X7_0_6 (C : JC p s m args c cc nL own D cI A E) {idx : Nat} (hl : Cond.fieldLink own idx "LightAsFarAsThePumpModel" "set" "[I" ∈ TB) (hdg : decode cc pc = .ok (.getfield idx, 3)) (kk : J p l e R s m args below meth c D (mW q cI) A nL Q g (pc + 3) lo (.ref (q 6) :: st)) : J p l e R s m args below meth c D (mW q cI) A nL Q g pc lo (.ref (q 0) :: st) := J.get C 0 rfl rfl in_X7 6 (by decide) hl rfl hdg kk
theorem gf_X7_0_7 (C : JC p s m args c cc nL own D cI A E) {idx : Nat} (hl : Cond.fieldLink own idx "LightAsFarAsThePumpModel" "letters" "I" ∈ TB) (hdg : decode cc pc = .ok (.getfield idx, 3)) (kk : J p l e R s m args below meth c D (mW q cI) A nL Q g (pc + 3) lo (.int (g.1 1) :: st)) : J p l e R s m args below meth c D (mW q cI) A nL Q g pc lo (.ref (q 0) :: st) := J.get C 0 rfl rfl in_X7 7 (by decide) hl rfl hdg kk
theorem pf_X7_0_7 (C : JC p s m args c cc nL own D cI A E) {idx : Nat} {v : Int32} (hl : Cond.fieldLink own idx "LightAsFarAsThePumpModel" "letters" "I" ∈ TB) (hdg : decode cc pc = .ok (.putfield idx, 3)) (kk : J p l e R s m args below meth c D (mW q cI) A nL Q (sI g 1 v) (pc + 3) lo st) : J p l e R s m args below meth c D (mW q cI) A nL Q g pc lo (.int v :: .ref (q 0) :: st) := J.put C 0 rfl rfl in_X7 tyX7 tyX7_ok nmX7 7 (by decide) hl rfl (ty := .int) (by decide +kernel) rfl rfl (Nat.le_of_ble_eq_true rfl) rfl hdg kk
theorem gf_X7_0_8 (C : JC p s m args c cc nL own D cI A E) {idx : Nat} (hl : Cond.fieldLink own idx "LightAsFarAsThePumpModel" "letter" "[I" ∈ TB) (hdg : decode cc pc = .ok (.getfield idx, 3)) (kk : J p l e R s m args below meth c D (mW q cI) A nL Q g (pc + 3) lo (.ref (q 7) :: st)) : J p l e R s m args below meth c D (mW q cI) A nL Q g pc lo (.ref (q 0) :: st) := J.get C 0 rfl rfl in_X7 8 (by decide) hl rfl hdg kk
theorem gf_X7_0_9 (C : JC p s m args c cc nL own D cI A E) {idx : Nat} (hl : Cond.fieldLink own idx "LightAsFarAsThePumpModel" "at" "I" ∈ TB) (hdg : decode cc pc = .ok (.getfield idx, 3)) (kk : J p l e R s m args below meth c D (mW q cI) A nL Q g (pc + 3) lo (.int (g.1 2) :: st)) : J p l e R s m args below meth c D (mW q cI) A nL Q g pc lo (.ref (q 0) :: st) := J.get C 0 rfl rfl in_X7 9 (by decide) hl rfl hdg kk
theorem pf_X7_0_9 (C : JC p s m args c cc nL own D cI A E) {idx : Nat} {v : Int32} (hl : Cond.fieldLink own idx "LightAsFarAsThePumpModel" "at" "I" ∈ TB) (hdg : decode cc pc = .ok (.putfield idx, 3)) (kk : J p l e R s m args below meth c D (mW q cI) A nL Q (sI g 2 v) (pc + 3) lo st) : J p l e R s m args below meth c D (mW q cI) A nL Q g pc lo (.int v :: .ref (q 0) :: st) := J.put C 0 rfl rfl in_X7 tyX7 tyX7_ok nmX7 9 (by decide) hl rfl (ty := .int) (by decide +kernel) rfl rfl (Nat.le_of_ble_eq_true rfl) rfl hdg kk
theorem gf_X7_0_10 (C : JC p s m args c cc nL own D cI A E) {idx : Nat} (hl : Cond.fieldLink own idx "LightAsFarAsThePumpModel" "value" "[I" ∈ TB) (hdg : decode cc pc = .ok (.getfield idx, 3)) (kk : J p l e R s m args below meth c D (mW q cI) A nL Q g (pc + 3) lo (.ref (q 8) :: st)) : J p l e R s m args below meth c D (mW q cI) A nL Q g pc lo (.ref (q 0) :: st) := J.get C 0 rfl rfl in_X7 10 (by decide) hl rfl hdg kk
theorem gf_X7_0_11 (C : JC p s m args c cc nL own D cI A E) {idx : Nat} (hl : Cond.fieldLink own idx "LightAsFarAsThePumpModel" "inRow" "I" ∈ TB) (hdg : decode cc pc = .ok (.getfield idx, 3)) (kk : J p l e R s m args below meth c D (mW q cI) A nL Q g (pc + 3) lo (.int (g.1 3) :: st)) : J p l e R s m args below meth c D (mW q cI) A nL Q g pc lo (.ref (q 0) :: st) := J.get C 0 rfl rfl in_X7 11 (by decide) hl rfl hdg kk
theorem pf_X7_0_11 (C : JC p s m args c cc nL own D cI A E) {idx : Nat} {v : Int32} (hl : Cond.fieldLink own idx "LightAsFarAsThePumpModel" "inRow" "I" ∈ TB) (hdg : decode cc pc = .ok (.putfield idx, 3)) (kk : J p l e R s m args below meth c D (mW q cI) A nL Q (sI g 3 v) (pc + 3) lo st) : J p l e R s m args below meth c D (mW q cI) A nL Q g pc lo (.int v :: .ref (q 0) :: st) := J.put C 0 rfl rfl in_X7 tyX7 tyX7_ok nmX7 11 (by decide) hl rfl (ty := .int) (by decide +kernel) rfl rfl (Nat.le_of_ble_eq_true rfl) rfl hdg kk
theorem gf_X7_0_12 (C : JC p s m args c cc nL own D cI A E) {idx : Nat} (hl : Cond.fieldLink own idx "LightAsFarAsThePumpModel" "row" "[I" ∈ TB) (hdg : decode cc pc = .ok (.getfield idx, 3)) (kk : J p l e R s m args below meth c D (mW q cI) A nL Q g (pc + 3) lo (.ref (q 9) :: st)) : J p l e R s m args below meth c D (mW q cI) A nL Q g pc lo (.ref (q 0) :: st) := J.get C 0 rfl rfl in_X7 12 (by decide) hl rfl hdg kk
theorem gf_X7_0_13 (C : JC p s m args c cc nL own D cI A E) {idx : Nat} (hl : Cond.fieldLink own idx "LightAsFarAsThePumpModel" "refusals" "[I" ∈ TB) (hdg : decode cc pc = .ok (.getfield idx, 3)) (kk : J p l e R s m args below meth c D (mW q cI) A nL Q g (pc + 3) lo (.ref (q 10) :: st)) : J p l e R s m args below meth c D (mW q cI) A nL Q g pc lo (.ref (q 0) :: st) := J.get C 0 rfl rfl in_X7 13 (by decide) hl rfl hdg kk
theorem gf_X7_0_14 (C : JC p s m args c cc nL own D cI A E) {idx : Nat} (hl : Cond.fieldLink own idx "LightAsFarAsThePumpModel" "imaged" "Z" ∈ TB) (hdg : decode cc pc = .ok (.getfield idx, 3)) (kk : J p l e R s m args below meth c D (mW q cI) A nL Q g (pc + 3) lo (.int (g.1 4) :: st)) : J p l e R s m args below meth c D (mW q cI) A nL Q g pc lo (.ref (q 0) :: st) := J.get C 0 rfl rfl in_X7 14 (by decide) hl rfl hdg kk
theorem pf_X7_0_14 (C : JC p s m args c cc nL own D cI A E) {idx : Nat} {v : Int32} (hz : narrow .boolean (.int v) = .int v) (hzf : fits .boolean (.int v) = true) (hl : Cond.fieldLink own idx "LightAsFarAsThePumpModel" "imaged" "Z" ∈ TB) (hdg : decode cc pc = .ok (.putfield idx, 3)) (kk : J p l e R s m args below meth c D (mW q cI) A nL Q (sI g 4 v) (pc + 3) lo st) : J p l e R s m args below meth c D (mW q cI) A nL Q g pc lo (.int v :: .ref (q 0) :: st) := J.put C 0 rfl rfl in_X7 tyX7 tyX7_ok nmX7 14 (by decide) hl rfl (ty := .boolean) (by decide +kernel) hz hzf (Nat.le_of_ble_eq_true rfl) rfl hdg kk
theorem gf_X7_0_15 (C : JC p s m args c cc nL own D cI A E) {idx : Nat} (hl : Cond.fieldLink own idx "LightAsFarAsThePumpModel" "old" "[I" ∈ TB) (hdg : decode cc pc = .ok (.getfield idx, 3)) (kk : J p l e R s m args below meth c D (mW q cI) A nL Q g (pc + 3) lo (.ref (q 11) :: st)) : J p l e R s m args below meth c D (mW q cI) A nL Q g pc lo (.ref (q 0) :: st) := J.get C 0 rfl rfl in_X7 15 (by decide) hl rfl hdg kk
theorem gf_X7_0_16 (C : JC p s m args c cc nL own D cI A E) {idx : Nat} (hl : Cond.fieldLink own idx "LightAsFarAsThePumpModel" "ahead" "[I" ∈ TB) (hdg : decode cc pc = .ok (.getfield idx, 3)) (kk : J p l e R s m args below meth c D (mW q cI) A nL Q g (pc + 3) lo (.ref (q 12) :: st)) : J p l e R s m args below meth c D (mW q cI) A nL Q g pc lo (.ref (q 0) :: st) := J.get C 0 rfl rfl in_X7 16 (by decide) hl rfl hdg kk
theorem gf_X7_0_17 (C : JC p s m args c cc nL own D cI A E) {idx : Nat} (hl : Cond.fieldLink own idx "LightAsFarAsThePumpModel" "going" "I" ∈ TB) (hdg : decode cc pc = .ok (.getfield idx, 3)) (kk : J p l e R s m args below meth c D (mW q cI) A nL Q g (pc + 3) lo (.int (g.1 5) :: st)) : J p l e R s m args below meth c D (mW q cI) A nL Q g pc lo (.ref (q 0) :: st) := J.get C 0 rfl rfl in_X7 17 (by decide) hl rfl hdg kk
theorem pf_X7_0_17 (C : JC p s m args c cc nL own D cI A E) {idx : Nat} {v : Int32} (hl : Cond.fieldLink own idx "LightAsFarAsThePumpModel" "going" "I" ∈ TB) (hdg : decode cc pc = .ok (.putfield idx, 3)) (kk : J p l e R s m args below meth c D (mW q cI) A nL Q (sI g 5 v) (pc + 3) lo st) : J p l e R s m args below meth c D (mW q cI) A nL Q g pc lo (.int v :: .ref (q 0) :: st) := J.put C 0 rfl rfl in_X7 tyX7 tyX7_ok nmX7 17 (by decide) hl rfl (ty := .int) (by decide +kernel) rfl rfl (Nat.le_of_ble_eq_true rfl) rfl hdg kk
theorem gf_X7_0_18 (C : JC p s m args c cc nL own D cI A E) {idx : Nat} (hl : Cond.fieldLink own idx "LightAsFarAsThePumpModel" "order" "[I" ∈ TB) (hdg : decode cc pc = .ok (.getfield idx, 3)) (kk : J p l e R s m args below meth c D (mW q cI) A nL Q g (pc + 3) lo (.ref (q 13) :: st)) : J p l e R s m args below meth c D (mW q cI) A nL Q g pc lo (.ref (q 0) :: st) := J.get C 0 rfl rfl in_X7 18 (by decide) hl rfl hdg kk
theorem gf_X7_0_19 (C : JC p s m args c cc nL own D cI A E) {idx : Nat} (hl : Cond.fieldLink own idx "LightAsFarAsThePumpModel" "lamps" "I" ∈ TB) (hdg : decode cc pc = .ok (.getfield idx, 3)) (kk : J p l e R s m args below meth c D (mW q cI) A nL Q g (pc + 3) lo (.int (g.1 6) :: st)) : J p l e R s m args below meth c D (mW q cI) A nL Q g pc lo (.ref (q 0) :: st) := J.get C 0 rfl rfl in_X7 19 (by decide) hl rfl hdg kk
theorem pf_X7_0_19 (C : JC p s m args c cc nL own D cI A E) {idx : Nat} {v : Int32} (hl : Cond.fieldLink own idx "LightAsFarAsThePumpModel" "lamps" "I" ∈ TB) (hdg : decode cc pc = .ok (.putfield idx, 3)) (kk : J p l e R s m args below meth c D (mW q cI) A nL Q (sI g 6 v) (pc + 3) lo st) : J p l e R s m args below meth c D (mW q cI) A nL Q g pc lo (.int v :: .ref (q 0) :: st) := J.put C 0 rfl rfl in_X7 tyX7 tyX7_ok nmX7 19 (by decide) hl rfl (ty := .int) (by decide +kernel) rfl rfl (Nat.le_of_ble_eq_true rfl) rfl hdg kk
theorem gf_X7_0_20 (C : JC p s m args c cc nL own D cI A E) {idx : Nat} (hl : Cond.fieldLink own idx "LightAsFarAsThePumpModel" "lampAt" "[I" ∈ TB) (hdg : decode cc pc = .ok (.getfield idx, 3)) (kk : J p l e R s m args below meth c D (mW q cI) A nL Q g (pc + 3) lo (.ref (q 14) :: st)) : J p l e R s m args below meth c D (mW q cI) A nL Q g pc lo (.ref (q 0) :: st) := J.get C 0 rfl rfl in_X7 20 (by decide) hl rfl hdg kk
theorem gf_X7_0_21 (C : JC p s m args c cc nL own D cI A E) {idx : Nat} (hl : Cond.fieldLink own idx "LightAsFarAsThePumpModel" "oil" "[I" ∈ TB) (hdg : decode cc pc = .ok (.getfield idx, 3)) (kk : J p l e R s m args below meth c D (mW q cI) A nL Q g (pc + 3) lo (.ref (q 15) :: st)) : J p l e R s m args below meth c D (mW q cI) A nL Q g pc lo (.ref (q 0) :: st) := J.get C 0 rfl rfl in_X7 21 (by decide) hl rfl hdg kk
theorem gf_X7_0_22 (C : JC p s m args c cc nL own D cI A E) {idx : Nat} (hl : Cond.fieldLink own idx "LightAsFarAsThePumpModel" "dark" "[I" ∈ TB) (hdg : decode cc pc = .ok (.getfield idx, 3)) (kk : J p l e R s m args below meth c D (mW q cI) A nL Q g (pc + 3) lo (.ref (q 16) :: st)) : J p l e R s m args below meth c D (mW q cI) A nL Q g pc lo (.ref (q 0) :: st) := J.get C 0 rfl rfl in_X7 22 (by decide) hl rfl hdg kk
theorem gf_X7_0_23 (C : JC p s m args c cc nL own D cI A E) {idx : Nat} (hl : Cond.fieldLink own idx "LightAsFarAsThePumpModel" "light" "[I" ∈ TB) (hdg : decode cc pc = .ok (.getfield idx, 3)) (kk : J p l e R s m args below meth c D (mW q cI) A nL Q g (pc + 3) lo (.ref (q 17) :: st)) : J p l e R s m args below meth c D (mW q cI) A nL Q g pc lo (.ref (q 0) :: st) := J.get C 0 rfl rfl in_X7 23 (by decide) hl rfl hdg kk
theorem gf_X7_0_24 (C : JC p s m args c cc nL own D cI A E) {idx : Nat} (hl : Cond.fieldLink own idx "LightAsFarAsThePumpModel" "stood" "[I" ∈ TB) (hdg : decode cc pc = .ok (.getfield idx, 3)) (kk : J p l e R s m args below meth c D (mW q cI) A nL Q g (pc + 3) lo (.ref (q 18) :: st)) : J p l e R s m args below meth c D (mW q cI) A nL Q g pc lo (.ref (q 0) :: st) := J.get C 0 rfl rfl in_X7 24 (by decide) hl rfl hdg kk
theorem gf_X7_0_25 (C : JC p s m args c cc nL own D cI A E) {idx : Nat} (hl : Cond.fieldLink own idx "LightAsFarAsThePumpModel" "had" "[I" ∈ TB) (hdg : decode cc pc = .ok (.getfield idx, 3)) (kk : J p l e R s m args below meth c D (mW q cI) A nL Q g (pc + 3) lo (.ref (q 19) :: st)) : J p l e R s m args below meth c D (mW q cI) A nL Q g pc lo (.ref (q 0) :: st) := J.get C 0 rfl rfl in_X7 25 (by decide) hl rfl hdg kk
theorem gf_X7_0_26 (C : JC p s m args c cc nL own D cI A E) {idx : Nat} (hl : Cond.fieldLink own idx "LightAsFarAsThePumpModel" "last" "I" ∈ TB) (hdg : decode cc pc = .ok (.getfield idx, 3)) (kk : J p l e R s m args below meth c D (mW q cI) A nL Q g (pc + 3) lo (.int (g.1 7) :: st)) : J p l e R s m args below meth c D (mW q cI) A nL Q g pc lo (.ref (q 0) :: st) := J.get C 0 rfl rfl in_X7 26 (by decide) hl rfl hdg kk
theorem pf_X7_0_26 (C : JC p s m args c cc nL own D cI A E) {idx : Nat} {v : Int32} (hl : Cond.fieldLink own idx "LightAsFarAsThePumpModel" "last" "I" ∈ TB) (hdg : decode cc pc = .ok (.putfield idx, 3)) (kk : J p l e R s m args below meth c D (mW q cI) A nL Q (sI g 7 v) (pc + 3) lo st) : J p l e R s m args below meth c D (mW q cI) A nL Q g pc lo (.int v :: .ref (q 0) :: st) := J.put C 0 rfl rfl in_X7 tyX7 tyX7_ok nmX7 26 (by decide) hl rfl (ty := .int) (by decide +kernel) rfl rfl (Nat.le_of_ble_eq_true rfl) rfl hdg kk
theorem gf_X7_0_27 (C : JC p s m args c cc nL own D cI A E) {idx : Nat} (hl : Cond.fieldLink own idx "LightAsFarAsThePumpModel" "ends" "[I" ∈ TB) (hdg : decode cc pc = .ok (.getfield idx, 3)) (kk : J p l e R s m args below meth c D (mW q cI) A nL Q g (pc + 3) lo (.ref (q 20) :: st)) : J p l e R s m args below meth c D (mW q cI) A nL Q g pc lo (.ref (q 0) :: st) := J.get C 0 rfl rfl in_X7 27 (by decide) hl rfl hdg kk
theorem gf_X7_0_28 (C : JC p s m args c cc nL own D cI A E) {idx : Nat} (hl : Cond.fieldLink own idx "LightAsFarAsThePumpModel" "nets" "[I" ∈ TB) (hdg : decode cc pc = .ok (.getfield idx, 3)) (kk : J p l e R s m args below meth c D (mW q cI) A nL Q g (pc + 3) lo (.ref (q 21) :: st)) : J p l e R s m args below meth c D (mW q cI) A nL Q g pc lo (.ref (q 0) :: st) := J.get C 0 rfl rfl in_X7 28 (by decide) hl rfl hdg kk
theorem gf_X7_0_29 (C : JC p s m args c cc nL own D cI A E) {idx : Nat} (hl : Cond.fieldLink own idx "LightAsFarAsThePumpModel" "best" "[I" ∈ TB) (hdg : decode cc pc = .ok (.getfield idx, 3)) (kk : J p l e R s m args below meth c D (mW q cI) A nL Q g (pc + 3) lo (.ref (q 22) :: st)) : J p l e R s m args below meth c D (mW q cI) A nL Q g pc lo (.ref (q 0) :: st) := J.get C 0 rfl rfl in_X7 29 (by decide) hl rfl hdg kk
theorem gf_X7_0_30 (C : JC p s m args c cc nL own D cI A E) {idx : Nat} (hl : Cond.fieldLink own idx "LightAsFarAsThePumpModel" "groups" "[I" ∈ TB) (hdg : decode cc pc = .ok (.getfield idx, 3)) (kk : J p l e R s m args below meth c D (mW q cI) A nL Q g (pc + 3) lo (.ref (q 23) :: st)) : J p l e R s m args below meth c D (mW q cI) A nL Q g pc lo (.ref (q 0) :: st) := J.get C 0 rfl rfl in_X7 30 (by decide) hl rfl hdg kk
end WROWS
