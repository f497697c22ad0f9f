def sgn : Nat → Int32 := fun j => ([103, 100, 109, 99, 116, 108] : List Int32).getD j 0
def EM (z : Nat × Nat) : Et := fun A U H => va_Z "java/lang/String" "COMPACT_STRINGS" "Z" (.int 1) A U H ∧ vk_R RX7 102 "gdmctl" z.1 U ∧ va_O "java/lang/String" z.1 A U H ∧ va_OF "java/lang/String" "coder" "B" (.int 0) z.1 A U H ∧ va_OF "java/lang/String" "value" "[B" (.ref z.2) z.1 A U H ∧ va_T .byte z.2 6 (fun j => .int (sgn j)) A U H
theorem EM_ok (z : Nat × Nat) : EOK (EM z) := ⟨fun _ _ _ _ hv h => ⟨h.1.moved (alike_or hv), hv.elim (fun w => h.2.1.warm w) (fun w => h.2.1.same w), h.2.2.1.moved (alike_or hv), h.2.2.2.1.moved (alike_or hv), h.2.2.2.2.1.moved (alike_or hv), h.2.2.2.2.2.moved (alike_or hv)⟩, fun _ _ _ _ h hk => ⟨h.1.kept hk, h.2.1, h.2.2.1.kept hk, h.2.2.2.1.kept hk, h.2.2.2.2.1.kept hk, h.2.2.2.2.2.kept hk⟩, fun _ _ _ _ h hAB => ⟨h.1.narrow hAB, h.2.1, h.2.2.1.narrow hAB, h.2.2.2.1.narrow hAB, h.2.2.2.2.1.narrow hAB, h.2.2.2.2.2.narrow hAB⟩⟩
theorem tS_38 : Cond.fieldLink RJ0 38 "java/lang/String" "COMPACT_STRINGS" "Z" ∈ TB := tbm 765 (by decide +kernel) (by decide +kernel)
theorem tS_15 : Cond.fieldLink RJ0 15 "java/lang/String" "coder" "B" ∈ TB := tbm 1051 (by decide +kernel) (by decide +kernel)
theorem tS_9 : Cond.fieldLink RJ0 9 "java/lang/String" "value" "[B" ∈ TB := tbm 1052 (by decide +kernel) (by decide +kernel)
theorem tm_J0_633 : Cond.methodLink RJ0 633 yJ0_indexOf_7cf53 ∈ TB := tbm 757 (by decide +kernel) (by decide +kernel)
theorem tm_J0_492 : Cond.methodLink RJ0 492 yJ0_isLatin1_aae02 ∈ TB := tbm 761 (by decide +kernel) (by decide +kernel)
theorem tm_J0_505 : Cond.methodLink RJ0 505 yJ0_length_8abf5 ∈ TB := tbm 767 (by decide +kernel) (by decide +kernel)
theorem tm_J0_335 : Cond.methodLink RJ0 335 yJ0_coder_7d493 ∈ TB := tbm 771 (by decide +kernel) (by decide +kernel)
theorem tm_J0_637 : Cond.methodLink RJ0 637 yJ1_indexOf_4cfef ∈ TB := tbm 775 (by decide +kernel) (by decide +kernel)
theorem tm_J1_88 : Cond.methodLink RJ1 88 yJ1_canEncode_9a6ad ∈ TB := tbm 778 (by decide +kernel) (by decide +kernel)
theorem tm_J1_92 : Cond.methodLink RJ1 92 Lib.Math.max.name ∈ TB := tbm 781 (by decide +kernel) (by decide +kernel)
theorem tm_J1_38 : Cond.methodLink RJ1 38 Lib.Math.min.name ∈ TB := tbm 782 (by decide +kernel) (by decide +kernel)
theorem tm_J1_95 : Cond.methodLink RJ1 95 yJ1_indexOfChar_4cfef ∈ TB := tbm 783 (by decide +kernel) (by decide +kernel)
theorem lk_J0_coder_7d493 : LkV yJ0_coder_7d493 cJ0_coder_7d493 1 (some .byte) 0 := ⟨⟨tbm 772 (by decide +kernel) (by decide +kernel), tbm 773 (by decide +kernel) (by decide +kernel)⟩, tbm 50 (by decide +kernel) (by decide +kernel), tbm 774 (by decide +kernel) (by decide +kernel), by decide +kernel⟩
theorem lk_J0_isLatin1_aae02 : LkV yJ0_isLatin1_aae02 cJ0_isLatin1_aae02 1 (some .boolean) 0 := ⟨⟨tbm 762 (by decide +kernel) (by decide +kernel), tbm 763 (by decide +kernel) (by decide +kernel)⟩, tbm 50 (by decide +kernel) (by decide +kernel), tbm 764 (by decide +kernel) (by decide +kernel), by decide +kernel⟩
theorem lk_J0_length_8abf5 : LkV yJ0_length_8abf5 cJ0_length_8abf5 1 (some .int) 0 := ⟨⟨tbm 768 (by decide +kernel) (by decide +kernel), tbm 769 (by decide +kernel) (by decide +kernel)⟩, tbm 50 (by decide +kernel) (by decide +kernel), tbm 770 (by decide +kernel) (by decide +kernel), by decide +kernel⟩
theorem lk_J0_indexOf_7cf53 : LkV yJ0_indexOf_7cf53 cJ0_indexOf_7cf53 3 (some .int) 2 := ⟨⟨tbm 758 (by decide +kernel) (by decide +kernel), tbm 759 (by decide +kernel) (by decide +kernel)⟩, tbm 50 (by decide +kernel) (by decide +kernel), tbm 760 (by decide +kernel) (by decide +kernel), by decide +kernel⟩
theorem lk_J0_indexOf_0f7a4 : LkV yJ0_indexOf_0f7a4 cJ0_indexOf_0f7a4 2 (some .int) 1 := ⟨⟨tbm 754 (by decide +kernel) (by decide +kernel), tbm 755 (by decide +kernel) (by decide +kernel)⟩, tbm 50 (by decide +kernel) (by decide +kernel), tbm 756 (by decide +kernel) (by decide +kernel), by decide +kernel⟩
theorem lk_J1_canEncode_9a6ad : LkS yJ1_canEncode_9a6ad cJ1_canEncode_9a6ad 1 (some .boolean) 1 := ⟨tbm 779 (by decide +kernel) (by decide +kernel), tbm 51 (by decide +kernel) (by decide +kernel), tbm 780 (by decide +kernel) (by decide +kernel), by decide +kernel⟩
theorem lk_J1_indexOf_4cfef : LkS yJ1_indexOf_4cfef cJ1_indexOf_4cfef 4 (some .int) 4 := ⟨tbm 776 (by decide +kernel) (by decide +kernel), tbm 51 (by decide +kernel) (by decide +kernel), tbm 777 (by decide +kernel) (by decide +kernel), by decide +kernel⟩
theorem lk_J1_indexOfChar_4cfef : LkS yJ1_indexOfChar_4cfef cJ1_indexOfChar_4cfef 6 (some .int) 4 := ⟨tbm 784 (by decide +kernel) (by decide +kernel), tbm 51 (by decide +kernel) (by decide +kernel), tbm 785 (by decide +kernel) (by decide +kernel), by decide +kernel⟩
section MENV
variable {p : Program} {l : Launch} {e : Env} {R : Room} {s : State} {m : MethodId} {args : Array Value} {below : List Frame} {meth : Method} {c : Code} {Q : State → Prop} {cc : ByteArray} {nL : Nat} {own : String} {D : va_G} {cI : ClassId} {wf : Sg → va_W} {A : Nat → Prop} {E : Et} {g g1 : Sg} {pc a : Nat} {z : Nat × Nat} {lo : List (Nat × Value)} {st rest : List Value} {x : Int32} {y : MethodName} {cc1 : ByteArray} {maxL fr lc idx : Nat} {ret : Option FieldType}
theorem J.getsK (C : JC p s m args c cc nL own D cI A (EM z)) (hl : Cond.fieldLink own idx "java/lang/String" "COMPACT_STRINGS" "Z" ∈ TB) (hdg : decode cc pc = .ok (.getstatic idx, 3)) (kk : J p l e R s m args below meth c D wf A nL Q g (pc + 3) lo (.int 1 :: st)) : J p l e R s m args below meth c D wf A nL Q g pc lo st := fun H locs ls hP hD hS hl' => va_gets C.1 C.2.1 C.2.2.2.2.2.2.2.1.1 hS C.2.2.2.1 (C.2.2.2.2.1 _ hl) (fun _ h => h) hdg (kk H locs ls hP hD hS hl')
theorem J.getcoder (C : JC p s m args c cc nL own D cI A (EM z)) (hl : Cond.fieldLink own idx "java/lang/String" "coder" "B" ∈ TB) (hdg : decode cc pc = .ok (.getfield idx, 3)) (kk : J p l e R s m args below meth c D wf A nL Q g (pc + 3) lo (.int 0 :: st)) : J p l e R s m args below meth c D wf A nL Q g pc lo (.ref z.1 :: st) := fun H locs ls hP hD hS hl' => vk_getf C.1 C.2.1 C.2.2.2.2.2.2.2.1.2.2.2.1 hS C.2.2.2.1 (C.2.2.2.2.1 _ hl) (fun _ h => h) hdg (kk H locs ls hP hD hS hl')
theorem J.getvalue (C : JC p s m args c cc nL own D cI A (EM z)) (hl : Cond.fieldLink own idx "java/lang/String" "value" "[B" ∈ TB) (hdg : decode cc pc = .ok (.getfield idx, 3)) (kk : J p l e R s m args below meth c D wf A nL Q g (pc + 3) lo (.ref z.2 :: st)) : J p l e R s m args below meth c D wf A nL Q g pc lo (.ref z.1 :: st) := fun H locs ls hP hD hS hl' => vk_getf C.1 C.2.1 C.2.2.2.2.2.2.2.1.2.2.2.2.1 hS C.2.2.2.1 (C.2.2.2.2.1 _ hl) (fun _ h => h) hdg (kk H locs ls hP hD hS hl')
theorem J.lenS (C : JC p s m args c cc nL own D cI A (EM z)) (hdg : decode cc pc = .ok (.arraylength, 1)) (kk : J p l e R s m args below meth c D wf A nL Q g (pc + 1) lo (.int 6 :: st)) : J p l e R s m args below meth c D wf A nL Q g pc lo (.ref z.2 :: st) := fun H locs ls hP hD hS hl' => va_tlen C.1 C.2.1 C.2.2.2.2.2.2.2.1.2.2.2.2.2 hS rfl hdg (kk H locs ls hP hD hS hl')
theorem J.baldS (C : JC p s m args c cc nL own D cI A (EM z)) (hin : vp_in x 6) (v : Int32) (hv : sgn (ix x) = v) (hdg : decode cc pc = .ok (.baload, 1)) (kk : J p l e R s m args below meth c D wf A nL Q g (pc + 1) lo (.int v :: st)) : J p l e R s m args below meth c D wf A nL Q g pc lo (.int x :: .ref z.2 :: st) := fun H locs ls hP hD hS hl' => va_tb C.1 C.2.1 C.2.2.2.2.2.2.2.1.2.2.2.2.2 hS hin (by rw [← hv]) hdg (kk H locs ls hP hD hS hl')
theorem J.ldcS (C : JC p s m args c cc nL RX7 D cI A (EM z)) (hdg : decode cc pc = .ok (.ldc 102, 2)) (kk : J p l e R s m args below meth c D wf A nL Q g (pc + 2) lo (.ref z.1 :: st)) : J p l e R s m args below meth c D wf A nL Q g pc lo st := fun H locs ls hP hD hS hl' => va_ldcS C.1 C.2.1 C.2.2.2.1 C.2.2.2.2.2.2.2.1.2.1 hdg (kk H locs ls hP hD hS hl')
theorem J.i2b (C : JC p s m args c cc nL own D cI A E) (hdg : decode cc pc = .ok (.i2b, 1)) (kk : J p l e R s m args below meth c D wf A nL Q g (pc + 1) lo (.int x.toInt8.toInt32 :: st)) : J p l e R s m args below meth c D wf A nL Q g pc lo (.int x :: st) := fun H locs ls hP hD hS hl' => lv_i2b C.1 C.2.1 hdg rfl (kk H locs ls hP hD hS hl')
theorem J.callXi (C : JC p s m args c cc nL own D cI A (EM z)) {n' : Nat} {av : List Value} {r : Int32 × Sg} (hM : CTi l (EM z) D cI wf y cc1 maxL ret fr lc (.ref z.1 :: av) g r) (hlk : LkV y cc1 maxL ret n') (hy : y.cls = "java/lang/String") (h1 : Cond.methodLink own idx y ∈ TB) (hR : fr + 1 ≤ R.frames ∧ 8 + (maxL + 11) + lc ≤ R.locals) (hn : av.length = n') (hst : st = av.reverse ++ .ref z.1 :: rest) (hc : (rest.map fun v => v.category).sum ≤ 8) (hdg : decode cc pc = .ok (.invokevirtual idx, 3)) (k : J p l e R s m args below meth c D wf A nL Q r.2 (pc + 3) lo (.int r.1 :: rest)) : J p l e R s m args below meth c D wf A nL Q g pc lo st := by
  intro H locs ls hP hD hS hl
  obtain ⟨hx, hb, hml, hown, hts, hK, hA, hE, hEK⟩ := id C
  obtain ⟨⟨k0, k1⟩, k2, k3, k4⟩ := hlk
  have hF := J.freeA C hD hS
  obtain ⟨cell, c1, c2, c3, -⟩ := hE.2.2.1.kept hS.2.1
  refine va_calli (va_runV (As := av) (rest := rest) (Ts := TB) (b := z.1) ⟨hx, hb, hml, hown, hts⟩ (hM H.size) ⟨callB_of n' hts (TB_goodIn k3) rfl rfl rfl (hts _ k2) (hts _ h1) k4 hR, hts _ k0, hts _ k1⟩ ⟨PreC.blind hEK (.ref z.1 :: av) g H.size, ⟨cell, c1, c2, by rw [hy]; exact c3⟩, fun U hU hW => ⟨rfl, J.pre C hP hD hS hU hW⟩⟩ rfl hn hl.1.1 hst (lv_room hc) hdg ⟨Nat.zero_le _, Nat.zero_le _⟩) hS (fun q _ h => hF q h) hF (fun r' u t H1 locs1 ht hvm hw hB hz hk hS1 => ?_)
  obtain ⟨hP1, hD1⟩ := hB
  subst hw
  rw [ht] at hP1
  exact k H1 locs1 ls hP1 (hD1.weaken (fun k q _ h => hF q.1 h)) hS1 hl
end MENV
set_option maxRecDepth 100000 in
theorem K_coder {l : Launch} {D : va_G} {q : Nat → Nat} {cI : ClassId} {z : Nat × Nat} (g : Sg) : CTi l (EM z) D cI (mW q cI) yJ0_coder_7d493 cJ0_coder_7d493 1 (some .byte) 0 0 [.ref z.1] g (0, g) := by
  refine CTi.of2 (by decide) (EM_ok z) (Nat.le_of_ble_eq_true rfl) rfl (fun p e s m args below meth c A Q C hret => ?_)
  refine J.getsK (pc := 0) C tS_38 dJ0_coder_7d493_0 ?_
  refine J.if_eq (pc := 3) C 13 dJ0_coder_7d493_3 (by decide) (fun hc => absurd hc (by decide)) (fun _ => ?_)
  refine J.aload_n (pc := 6) C dJ0_coder_7d493_6 rfl rfl ?_
  refine J.getcoder (pc := 7) C tS_15 dJ0_coder_7d493_7 ?_
  refine J.goto (pc := 10) C 14 dJ0_coder_7d493_10 (by decide) ?_
  exact hret dJ0_coder_7d493_14 rfl (by decide)
set_option maxRecDepth 100000 in
theorem K_isLatin1 {l : Launch} {D : va_G} {q : Nat → Nat} {cI : ClassId} {z : Nat × Nat} (g : Sg) : CTi l (EM z) D cI (mW q cI) yJ0_isLatin1_aae02 cJ0_isLatin1_aae02 1 (some .boolean) 0 0 [.ref z.1] g (1, g) := by
  refine CTi.of2 (by decide) (EM_ok z) (Nat.le_of_ble_eq_true rfl) rfl (fun p e s m args below meth c A Q C hret => ?_)
  refine J.getsK (pc := 0) C tS_38 dJ0_isLatin1_aae02_0 ?_
  refine J.if_eq (pc := 3) C 17 dJ0_isLatin1_aae02_3 (by decide) (fun hc => absurd hc (by decide)) (fun _ => ?_)
  refine J.aload_n (pc := 6) C dJ0_isLatin1_aae02_6 rfl rfl ?_
  refine J.getcoder (pc := 7) C tS_15 dJ0_isLatin1_aae02_7 ?_
  refine J.if_ne (pc := 10) C 17 dJ0_isLatin1_aae02_10 (by decide) (fun hc => absurd rfl hc) (fun _ => ?_)
  refine J.iconst (pc := 13) C 1 dJ0_isLatin1_aae02_13 ic_1 ?_
  refine J.goto (pc := 14) C 18 dJ0_isLatin1_aae02_14 (by decide) ?_
  exact hret dJ0_isLatin1_aae02_18 rfl (by decide)
set_option maxRecDepth 100000 in
theorem K_slength {l : Launch} {D : va_G} {q : Nat → Nat} {cI : ClassId} {z : Nat × Nat} (g : Sg) : CTi l (EM z) D cI (mW q cI) yJ0_length_8abf5 cJ0_length_8abf5 1 (some .int) 1 20 [.ref z.1] g (6, g) := by
  refine CTi.of2 (by decide) (EM_ok z) (Nat.le_of_ble_eq_true rfl) rfl (fun p e s m args below meth c A Q C hret => ?_)
  refine J.aload_n (pc := 0) C dJ0_length_8abf5_0 rfl rfl ?_
  refine J.getvalue (pc := 1) C tS_9 dJ0_length_8abf5_1 ?_
  refine J.lenS (pc := 4) C dJ0_length_8abf5_4 ?_
  refine J.aload_n (pc := 5) C dJ0_length_8abf5_5 rfl rfl ?_
  refine J.callXi (pc := 6) C (K_coder g) lk_J0_coder_7d493 rfl tm_J0_335 ⟨Nat.le_of_ble_eq_true rfl, Nat.le_of_ble_eq_true rfl⟩ rfl rfl (Nat.le_of_ble_eq_true rfl) dJ0_length_8abf5_6 ?_
  refine J.ishr (pc := 9) C dJ0_length_8abf5_9 ?_
  exact hret dJ0_length_8abf5_10 (congrArg (fun t => some (t, g)) (by decide : (6 : Int32) >>> ((0 : Int32) &&& 31) = 6)) rfl
def cenc (x : Int32) : Int32 := if x < 0 then 0 else if 255 < x then 0 else 1
set_option maxRecDepth 100000 in
theorem K_canEncode {l : Launch} {D : va_G} {q : Nat → Nat} {cI : ClassId} {z : Nat × Nat} (x : Int32) (g : Sg) : CTi l (EM z) D cI (mW q cI) yJ1_canEncode_9a6ad cJ1_canEncode_9a6ad 1 (some .boolean) 0 0 [.int x] g (cenc x, g) := by
  refine CTi.of2 (by decide) (EM_ok z) (Nat.le_of_ble_eq_true rfl) rfl (fun p e s m args below meth c A Q C hret => ?_)
  refine J.iload_n (pc := 0) C dJ1_canEncode_9a6ad_0 rfl rfl ?_
  refine J.if_lt (pc := 1) C 15 dJ1_canEncode_9a6ad_1 (by decide) (fun hc => ?_) (fun hc => ?_)
  · refine J.iconst (pc := 15) C 0 dJ1_canEncode_9a6ad_15 ic_0 ?_
    exact hret dJ1_canEncode_9a6ad_16 (by unfold cenc; rw [if_pos hc]) (by decide)
  · refine J.iload_n (pc := 4) C dJ1_canEncode_9a6ad_4 rfl rfl ?_
    refine J.sipush (pc := 5) C 255 dJ1_canEncode_9a6ad_5 sp_255 ?_
    refine J.icmp_gt (pc := 8) C 15 dJ1_canEncode_9a6ad_8 (by decide) (fun hc2 => ?_) (fun hc2 => ?_)
    · refine J.iconst (pc := 15) C 0 dJ1_canEncode_9a6ad_15 ic_0 ?_
      exact hret dJ1_canEncode_9a6ad_16 (by unfold cenc; rw [if_neg hc, if_pos hc2]) (by decide)
    · refine J.iconst (pc := 11) C 1 dJ1_canEncode_9a6ad_11 ic_1 ?_
      refine J.goto (pc := 12) C 16 dJ1_canEncode_9a6ad_12 (by decide) ?_
      exact hret dJ1_canEncode_9a6ad_16 (by unfold cenc; rw [if_neg hc, if_neg hc2]) (by decide)
def sfind (t : Int32) : Int32 := if 103 = t then 0 else if 100 = t then 1 else if 109 = t then 2 else if 99 = t then 3 else if 116 = t then 4 else if 108 = t then 5 else -1
set_option maxRecDepth 100000 in
theorem K_indexOfChar {l : Launch} {D : va_G} {q : Nat → Nat} {cI : ClassId} {z : Nat × Nat} (x : Int32) (g : Sg) : CTi l (EM z) D cI (mW q cI) yJ1_indexOfChar_4cfef cJ1_indexOfChar_4cfef 6 (some .int) 0 0 [.ref z.2, .int x, .int 0, .int 6] g (sfind x.toInt8.toInt32, g) := by
  refine CTi.of2 (by decide) (EM_ok z) (Nat.le_of_ble_eq_true rfl) rfl (fun p e s m args below meth c A Q C hret => ?_)
  refine J.iload_n (pc := 0) C dJ1_indexOfChar_4cfef_0 rfl rfl ?_
  refine J.i2b (pc := 1) C dJ1_indexOfChar_4cfef_1 ?_
  generalize x.toInt8.toInt32 = t at hret ⊢
  refine J.istore (pc := 2) C dJ1_indexOfChar_4cfef_2 (by decide) ?_
  refine J.iload_n (pc := 4) C dJ1_indexOfChar_4cfef_4 rfl rfl ?_
  refine J.istore (pc := 5) C dJ1_indexOfChar_4cfef_5 (by decide) ?_
  refine J.iload (pc := 7) C dJ1_indexOfChar_4cfef_7 rfl ?_
  refine J.iload_n (pc := 9) C dJ1_indexOfChar_4cfef_9 rfl rfl ?_
  refine J.icmp_ge (pc := 10) C 31 dJ1_indexOfChar_4cfef_10 (by decide) (fun hc => absurd hc (by decide)) (fun _ => ?_)
  refine J.aload_n (pc := 13) C dJ1_indexOfChar_4cfef_13 rfl rfl ?_
  refine J.iload (pc := 14) C dJ1_indexOfChar_4cfef_14 rfl ?_
  refine J.baldS (pc := 16) C (vpl (by decide)) 103 (by decide) dJ1_indexOfChar_4cfef_16 ?_
  refine J.iload (pc := 17) C dJ1_indexOfChar_4cfef_17 rfl ?_
  refine J.icmp_ne (pc := 19) C 25 dJ1_indexOfChar_4cfef_19 (by decide) (fun h0 => ?_) (fun h0 => ?_)
  rotate_left
  · refine J.iload (pc := 22) C dJ1_indexOfChar_4cfef_22 rfl ?_
    exact hret dJ1_indexOfChar_4cfef_24 (by unfold sfind; rw [if_pos h0]; first | done | rfl) rfl
  refine J.iinc (pc := 25) C 1 dJ1_indexOfChar_4cfef_25 ic_1 rfl (by decide) ?_
  refine J.goto (pc := 28) C 7 dJ1_indexOfChar_4cfef_28 (by decide) ?_
  refine J.iload (pc := 7) C dJ1_indexOfChar_4cfef_7 rfl ?_
  refine J.iload_n (pc := 9) C dJ1_indexOfChar_4cfef_9 rfl rfl ?_
  refine J.icmp_ge (pc := 10) C 31 dJ1_indexOfChar_4cfef_10 (by decide) (fun hc => absurd hc (by decide)) (fun _ => ?_)
  refine J.aload_n (pc := 13) C dJ1_indexOfChar_4cfef_13 rfl rfl ?_
  refine J.iload (pc := 14) C dJ1_indexOfChar_4cfef_14 rfl ?_
  refine J.baldS (pc := 16) C (vpl (by decide)) 100 (by decide) dJ1_indexOfChar_4cfef_16 ?_
  refine J.iload (pc := 17) C dJ1_indexOfChar_4cfef_17 rfl ?_
  refine J.icmp_ne (pc := 19) C 25 dJ1_indexOfChar_4cfef_19 (by decide) (fun h1 => ?_) (fun h1 => ?_)
  rotate_left
  · refine J.iload (pc := 22) C dJ1_indexOfChar_4cfef_22 rfl ?_
    exact hret dJ1_indexOfChar_4cfef_24 (by unfold sfind; rw [if_neg h0, if_pos h1]; first | done | rfl) rfl
  refine J.iinc (pc := 25) C 1 dJ1_indexOfChar_4cfef_25 ic_1 rfl (by decide) ?_
  refine J.goto (pc := 28) C 7 dJ1_indexOfChar_4cfef_28 (by decide) ?_
  refine J.iload (pc := 7) C dJ1_indexOfChar_4cfef_7 rfl ?_
  refine J.iload_n (pc := 9) C dJ1_indexOfChar_4cfef_9 rfl rfl ?_
  refine J.icmp_ge (pc := 10) C 31 dJ1_indexOfChar_4cfef_10 (by decide) (fun hc => absurd hc (by decide)) (fun _ => ?_)
  refine J.aload_n (pc := 13) C dJ1_indexOfChar_4cfef_13 rfl rfl ?_
  refine J.iload (pc := 14) C dJ1_indexOfChar_4cfef_14 rfl ?_
  refine J.baldS (pc := 16) C (vpl (by decide)) 109 (by decide) dJ1_indexOfChar_4cfef_16 ?_
  refine J.iload (pc := 17) C dJ1_indexOfChar_4cfef_17 rfl ?_
  refine J.icmp_ne (pc := 19) C 25 dJ1_indexOfChar_4cfef_19 (by decide) (fun h2 => ?_) (fun h2 => ?_)
  rotate_left
  · refine J.iload (pc := 22) C dJ1_indexOfChar_4cfef_22 rfl ?_
    exact hret dJ1_indexOfChar_4cfef_24 (by unfold sfind; rw [if_neg h0, if_neg h1, if_pos h2]; first | done | rfl) rfl
  refine J.iinc (pc := 25) C 1 dJ1_indexOfChar_4cfef_25 ic_1 rfl (by decide) ?_
  refine J.goto (pc := 28) C 7 dJ1_indexOfChar_4cfef_28 (by decide) ?_
  refine J.iload (pc := 7) C dJ1_indexOfChar_4cfef_7 rfl ?_
  refine J.iload_n (pc := 9) C dJ1_indexOfChar_4cfef_9 rfl rfl ?_
  refine J.icmp_ge (pc := 10) C 31 dJ1_indexOfChar_4cfef_10 (by decide) (fun hc => absurd hc (by decide)) (fun _ => ?_)
  refine J.aload_n (pc := 13) C dJ1_indexOfChar_4cfef_13 rfl rfl ?_
  refine J.iload (pc := 14) C dJ1_indexOfChar_4cfef_14 rfl ?_
  refine J.baldS (pc := 16) C (vpl (by decide)) 99 (by decide) dJ1_indexOfChar_4cfef_16 ?_
  refine J.iload (pc := 17) C dJ1_indexOfChar_4cfef_17 rfl ?_
  refine J.icmp_ne (pc := 19) C 25 dJ1_indexOfChar_4cfef_19 (by decide) (fun h3 => ?_) (fun h3 => ?_)
  rotate_left
  · refine J.iload (pc := 22) C dJ1_indexOfChar_4cfef_22 rfl ?_
    exact hret dJ1_indexOfChar_4cfef_24 (by unfold sfind; rw [if_neg h0, if_neg h1, if_neg h2, if_pos h3]; first | done | rfl) rfl
  refine J.iinc (pc := 25) C 1 dJ1_indexOfChar_4cfef_25 ic_1 rfl (by decide) ?_
  refine J.goto (pc := 28) C 7 dJ1_indexOfChar_4cfef_28 (by decide) ?_
  refine J.iload (pc := 7) C dJ1_indexOfChar_4cfef_7 rfl ?_
  refine J.iload_n (pc := 9) C dJ1_indexOfChar_4cfef_9 rfl rfl ?_
  refine J.icmp_ge (pc := 10) C 31 dJ1_indexOfChar_4cfef_10 (by decide) (fun hc => absurd hc (by decide)) (fun _ => ?_)
  refine J.aload_n (pc := 13) C dJ1_indexOfChar_4cfef_13 rfl rfl ?_
  refine J.iload (pc := 14) C dJ1_indexOfChar_4cfef_14 rfl ?_
  refine J.baldS (pc := 16) C (vpl (by decide)) 116 (by decide) dJ1_indexOfChar_4cfef_16 ?_
  refine J.iload (pc := 17) C dJ1_indexOfChar_4cfef_17 rfl ?_
  refine J.icmp_ne (pc := 19) C 25 dJ1_indexOfChar_4cfef_19 (by decide) (fun h4 => ?_) (fun h4 => ?_)
  rotate_left
  · refine J.iload (pc := 22) C dJ1_indexOfChar_4cfef_22 rfl ?_
    exact hret dJ1_indexOfChar_4cfef_24 (by unfold sfind; rw [if_neg h0, if_neg h1, if_neg h2, if_neg h3, if_pos h4]; first | done | rfl) rfl
  refine J.iinc (pc := 25) C 1 dJ1_indexOfChar_4cfef_25 ic_1 rfl (by decide) ?_
  refine J.goto (pc := 28) C 7 dJ1_indexOfChar_4cfef_28 (by decide) ?_
  refine J.iload (pc := 7) C dJ1_indexOfChar_4cfef_7 rfl ?_
  refine J.iload_n (pc := 9) C dJ1_indexOfChar_4cfef_9 rfl rfl ?_
  refine J.icmp_ge (pc := 10) C 31 dJ1_indexOfChar_4cfef_10 (by decide) (fun hc => absurd hc (by decide)) (fun _ => ?_)
  refine J.aload_n (pc := 13) C dJ1_indexOfChar_4cfef_13 rfl rfl ?_
  refine J.iload (pc := 14) C dJ1_indexOfChar_4cfef_14 rfl ?_
  refine J.baldS (pc := 16) C (vpl (by decide)) 108 (by decide) dJ1_indexOfChar_4cfef_16 ?_
  refine J.iload (pc := 17) C dJ1_indexOfChar_4cfef_17 rfl ?_
  refine J.icmp_ne (pc := 19) C 25 dJ1_indexOfChar_4cfef_19 (by decide) (fun h5 => ?_) (fun h5 => ?_)
  rotate_left
  · refine J.iload (pc := 22) C dJ1_indexOfChar_4cfef_22 rfl ?_
    exact hret dJ1_indexOfChar_4cfef_24 (by unfold sfind; rw [if_neg h0, if_neg h1, if_neg h2, if_neg h3, if_neg h4, if_pos h5]; first | done | rfl) rfl
  refine J.iinc (pc := 25) C 1 dJ1_indexOfChar_4cfef_25 ic_1 rfl (by decide) ?_
  refine J.goto (pc := 28) C 7 dJ1_indexOfChar_4cfef_28 (by decide) ?_
  refine J.iload (pc := 7) C dJ1_indexOfChar_4cfef_7 rfl ?_
  refine J.iload_n (pc := 9) C dJ1_indexOfChar_4cfef_9 rfl rfl ?_
  refine J.icmp_ge (pc := 10) C 31 dJ1_indexOfChar_4cfef_10 (by decide) (fun _ => ?_) (fun hc => absurd (by decide) hc)
  refine J.iconst (pc := 31) C (-1) dJ1_indexOfChar_4cfef_31 ic_m1 ?_
  exact hret dJ1_indexOfChar_4cfef_32 (by unfold sfind; rw [if_neg h0, if_neg h1, if_neg h2, if_neg h3, if_neg h4, if_neg h5]) rfl
def sidx (x : Int32) : Int32 := if cenc x = 0 then -1 else sfind x.toInt8.toInt32
set_option maxRecDepth 100000 in
theorem K_latIndexOf {l : Launch} {D : va_G} {q : Nat → Nat} {cI : ClassId} {z : Nat × Nat} (x : Int32) (g : Sg) : CTi l (EM z) D cI (mW q cI) yJ1_indexOf_4cfef cJ1_indexOf_4cfef 4 (some .int) 1 48 [.ref z.2, .int x, .int 0, .int 6] g (sidx x, g) := by
  refine CTi.of2 (by decide) (EM_ok z) (Nat.le_of_ble_eq_true rfl) rfl (fun p e s m args below meth c A Q C hret => ?_)
  refine J.iload_n (pc := 0) C dJ1_indexOf_4cfef_0 rfl rfl ?_
  refine J.callS1i (pc := 1) C (K_canEncode x g) lk_J1_canEncode_9a6ad tm_J1_88 ⟨Nat.le_of_ble_eq_true rfl, Nat.le_of_ble_eq_true rfl⟩ (Nat.le_of_ble_eq_true rfl) dJ1_indexOf_4cfef_1 ?_
  refine J.if_ne (pc := 4) C 9 dJ1_indexOf_4cfef_4 (by decide) (fun hc => ?_) (fun hc => ?_)
  · refine J.iload_n (pc := 9) C dJ1_indexOf_4cfef_9 rfl rfl ?_
    refine J.iconst (pc := 10) C 0 dJ1_indexOf_4cfef_10 ic_0 ?_
    refine J.mmax (pc := 11) C tm_J1_92 (Nat.le_of_ble_eq_true rfl) (Nat.le_of_ble_eq_true rfl) dJ1_indexOf_4cfef_11 ?_
    refine J.istore_nV (pc := 14) C dJ1_indexOf_4cfef_14 rfl (by decide) (x' := 0) (by decide) ?_
    refine J.iload_n (pc := 15) C dJ1_indexOf_4cfef_15 rfl rfl ?_
    refine J.aload_n (pc := 16) C dJ1_indexOf_4cfef_16 rfl rfl ?_
    refine J.lenS (pc := 17) C dJ1_indexOf_4cfef_17 ?_
    refine J.mmin (pc := 18) C tm_J1_38 (Nat.le_of_ble_eq_true rfl) (Nat.le_of_ble_eq_true rfl) dJ1_indexOf_4cfef_18 ?_
    refine J.istore_nV (pc := 21) C dJ1_indexOf_4cfef_21 rfl (by decide) (x' := 6) (by decide) ?_
    refine J.iload_n (pc := 22) C dJ1_indexOf_4cfef_22 rfl rfl ?_
    refine J.iload_n (pc := 23) C dJ1_indexOf_4cfef_23 rfl rfl ?_
    refine J.icmp_lt (pc := 24) C 29 dJ1_indexOf_4cfef_24 (by decide) (fun _ => ?_) (fun h => absurd (by decide) h)
    refine J.aload_n (pc := 29) C dJ1_indexOf_4cfef_29 rfl rfl ?_
    refine J.iload_n (pc := 30) C dJ1_indexOf_4cfef_30 rfl rfl ?_
    refine J.iload_n (pc := 31) C dJ1_indexOf_4cfef_31 rfl rfl ?_
    refine J.iload_n (pc := 32) C dJ1_indexOf_4cfef_32 rfl rfl ?_
    refine J.callS4i (pc := 33) C (K_indexOfChar x g) lk_J1_indexOfChar_4cfef tm_J1_95 ⟨Nat.le_of_ble_eq_true rfl, Nat.le_of_ble_eq_true rfl⟩ (Nat.le_of_ble_eq_true rfl) dJ1_indexOf_4cfef_33 ?_
    exact hret dJ1_indexOf_4cfef_36 (by unfold sidx; rw [if_neg hc]) rfl
  · refine J.iconst (pc := 7) C (-1) dJ1_indexOf_4cfef_7 ic_m1 ?_
    exact hret dJ1_indexOf_4cfef_8 (by unfold sidx; rw [if_pos hc]) rfl
set_option maxRecDepth 100000 in
theorem K_indexOf2 {l : Launch} {D : va_G} {q : Nat → Nat} {cI : ClassId} {z : Nat × Nat} (x : Int32) (g : Sg) : CTi l (EM z) D cI (mW q cI) yJ0_indexOf_7cf53 cJ0_indexOf_7cf53 3 (some .int) 2 72 [.ref z.1, .int x, .int 0] g (sidx x, g) := by
  refine CTi.of2 (by decide) (EM_ok z) (Nat.le_of_ble_eq_true rfl) rfl (fun p e s m args below meth c A Q C hret => ?_)
  refine J.aload_n (pc := 0) C dJ0_indexOf_7cf53_0 rfl rfl ?_
  refine J.callXi (pc := 1) C (K_isLatin1 g) lk_J0_isLatin1_aae02 rfl tm_J0_492 ⟨Nat.le_of_ble_eq_true rfl, Nat.le_of_ble_eq_true rfl⟩ rfl rfl (Nat.le_of_ble_eq_true rfl) dJ0_indexOf_7cf53_1 ?_
  refine J.if_eq (pc := 4) C 23 dJ0_indexOf_7cf53_4 (by decide) (fun hc => absurd hc (show ¬ (1 : Int32) = 0 by decide)) (fun _ => ?_)
  refine J.aload_n (pc := 7) C dJ0_indexOf_7cf53_7 rfl rfl ?_
  refine J.getvalue (pc := 8) C tS_9 dJ0_indexOf_7cf53_8 ?_
  refine J.iload_n (pc := 11) C dJ0_indexOf_7cf53_11 rfl rfl ?_
  refine J.iload_n (pc := 12) C dJ0_indexOf_7cf53_12 rfl rfl ?_
  refine J.aload_n (pc := 13) C dJ0_indexOf_7cf53_13 rfl rfl ?_
  refine J.callXi (pc := 14) C (K_slength g) lk_J0_length_8abf5 rfl tm_J0_505 ⟨Nat.le_of_ble_eq_true rfl, Nat.le_of_ble_eq_true rfl⟩ rfl rfl (Nat.le_of_ble_eq_true rfl) dJ0_indexOf_7cf53_14 ?_
  refine J.callS4i (pc := 17) C (K_latIndexOf x g) lk_J1_indexOf_4cfef tm_J0_637 ⟨Nat.le_of_ble_eq_true rfl, Nat.le_of_ble_eq_true rfl⟩ (Nat.le_of_ble_eq_true rfl) dJ0_indexOf_7cf53_17 ?_
  refine J.goto (pc := 20) C 36 dJ0_indexOf_7cf53_20 (by decide) ?_
  exact hret dJ0_indexOf_7cf53_36 rfl rfl
set_option maxRecDepth 100000 in
theorem K_indexOf {l : Launch} {D : va_G} {q : Nat → Nat} {cI : ClassId} {z : Nat × Nat} (x : Int32) (g : Sg) : CTi l (EM z) D cI (mW q cI) yJ0_indexOf_0f7a4 cJ0_indexOf_0f7a4 2 (some .int) 3 96 [.ref z.1, .int x] g (sidx x, g) := by
  refine CTi.of2 (by decide) (EM_ok z) (Nat.le_of_ble_eq_true rfl) rfl (fun p e s m args below meth c A Q C hret => ?_)
  refine J.aload_n (pc := 0) C dJ0_indexOf_0f7a4_0 rfl rfl ?_
  refine J.iload_n (pc := 1) C dJ0_indexOf_0f7a4_1 rfl rfl ?_
  refine J.iconst (pc := 2) C 0 dJ0_indexOf_0f7a4_2 ic_0 ?_
  refine J.callXi (pc := 3) C (av := [.int x, .int 0]) (K_indexOf2 x g) lk_J0_indexOf_7cf53 rfl tm_J0_633 ⟨Nat.le_of_ble_eq_true rfl, Nat.le_of_ble_eq_true rfl⟩ rfl rfl (Nat.le_of_ble_eq_true rfl) dJ0_indexOf_0f7a4_3 ?_
  exact hret dJ0_indexOf_0f7a4_6 rfl rfl
theorem J.sidx {p : Program} {l : Launch} {e : Env} {R : Room} {s : State} {m : MethodId} {args : Array Value} {below : List Frame} {meth : Method} {c : Code} {Q : State → Prop} {cc : ByteArray} {nL : Nat} {D : va_G} {cI : ClassId} {q : Nat → Nat} {A : Nat → Prop} {g : Sg} {pc : Nat} {z : Nat × Nat} {lo : List (Nat × Value)} {st : List Value} {x : Int32} (C : JC p s m args c cc nL RX7 D cI A (EM z)) (hR : 4 ≤ R.frames ∧ 117 ≤ R.locals) (hc : (st.map fun v => v.category).sum ≤ 8) (hdg : decode cc pc = .ok (.invokevirtual 104, 3)) (k : J p l e R s m args below meth c D (mW q cI) A nL Q g (pc + 3) lo (.int (sidx x) :: st)) : J p l e R s m args below meth c D (mW q cI) A nL Q g pc lo (.int x :: .ref z.1 :: st) := J.callXi C (av := [.int x]) (K_indexOf x g) lk_J0_indexOf_0f7a4 rfl tm_X7_104 hR rfl rfl hc hdg k
