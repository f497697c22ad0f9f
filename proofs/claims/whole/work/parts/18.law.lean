
/-! THE CLAIM OUT OF ONE WALK OF THE LAW'S BODY. Your part is whole_start (and what it stands on); all else here is the same for every law, but numbers. -/
def R_law : String := "LightAsFarAsThePumpLaw"
def lw_P (b : Addr) (xs : List Int32) (args : Array Value) (s : State) : Prop := args = #[.ref b] ∧ s.IntsAt b xs ∧ xs.length ≤ 2048 ∧ (Jvm.Cond.and given_1 narrow_1).before args s = true
def lw_Q (_ : Array Value) (s : State) (o : Outcome) (t : State) : Prop := o = .returned (some (.int 1)) ∧ Framed s o t [] 68 1095
def lw_Z (below : List Frame) (a : Array Value) (s : State) : State → Prop := fun t => ∃ o, t.status = .running ∧ Ended t below o ∧ lw_Q a s o t
/-- the law's own end, with 1 on the stack, nothing written that was there before, its room as the claim has it -/
theorem lw_ret {p : Program} {l : Launch} {e : Env} {s : State} {m : MethodId} {below : List Frame} {meth : Method} {c : Code} {b : Nat} (hx : p.tables.exec = Jvm.exec) (hb : c.code = code) (hr : meth.sig.returnType = ret) (hlocks : meth.locks = false) {pc : Nat} {H : Heap} {ls : Array Slot} (hdg : decode code pc = .ok (.ireturn, 1)) : W p l e room_1 s m #[Value.ref b] below meth c H [] 68 1095 (lw_Z below #[Value.ref b] s) (F0 m pc ls [.int 1]) := by
  intro T hT X
  obtain ⟨fs, hret, hrun, hended, hW, hframe⟩ := X.leave (v := some (.int 1)) (hlocks := hlocks) (fun h => by rw [hr] at h; cases h)
  have hmeth' : T.vm.method? m = some meth := X.method'
  refine ⟨T.setFrames fs, ?_, .returned (some (.int 1)), hrun, hended, rfl, ⟨_, rfl⟩, hW, hframe⟩
  jvm_step X.here [X.here.top, hx, hb, hdg, hmeth', hr, ret, narrow_b1]
  (try refine ⟨rfl, ?_⟩); (try refine ⟨rfl, ?_⟩)
  first | (intro acts; rw [hret _ acts rfl rfl rfl]) | rw [hret _ _ rfl rfl rfl]
  exact Steps.refl _
/-- what holds at the law's entry: the machine, the code, the tables' words (any of lw_tbl by 'hts w (by decide +kernel)'), the script of L ints xs at the cell b, what the Statement gives of the start (any of its parts by flat_of_before) -/
def lw_At (p : Program) (s : State) (m : MethodId) (meth : Method) (c : Code) (b L : Nat) (xs : Nat → Int32) : Prop :=
  p.tables.exec = Jvm.exec ∧ c.code = code ∧ meth.sig.returnType = ret ∧ c.maxLocals = 4 ∧ s.vm.findClass R_law = some m.cls ∧ (∀ w ∈ lw_tbl, w.before #[Value.ref b] s = true) ∧ va_X b L xs s s.heap ∧ b < s.heap.size ∧ meth.locks = false ∧ (Jvm.Cond.and given_1 narrow_1).before #[Value.ref b] s = true

def Ans (Rel : Sg → Sg → Prop) (mc mm : Option (Int32 × Sg)) : Prop := ∃ (r : Int32) (gc gm : Sg), mc = some (r, gc) ∧ mm = some (r, gm) ∧ Rel gc gm
/-- every call of the face answers alike and keeps the relation -/
def AllAns (Rel : Sg → Sg → Prop) : Prop := (∀ (gc gm : Sg) (x : Int32) , Rel gc gm → Ans Rel (M_X6_letter x gc) (M_X7_letter x gm)) ∧ (∀ (gc gm : Sg) , Rel gc gm → Ans Rel (M_X6_night gc) (M_X7_night gm)) ∧ (∀ (gc gm : Sg) (x y : Int32) , Rel gc gm → Ans Rel (M_X6_goer x y gc) (M_X7_goer x y gm)) ∧ (∀ (gc gm : Sg) (x y : Int32) , Rel gc gm → Ans Rel (M_X6_hour x y gc) (M_X7_hour x y gm)) ∧ (∀ (gc gm : Sg) (x y : Int32) , Rel gc gm → Ans Rel (M_X6_set x y gc) (M_X7_set x y gm)) ∧ (∀ (gc gm : Sg) (x : Int32) , Rel gc gm → Ans Rel (M_X6_sums x gc) (M_X7_sums x gm)) ∧ (∀ (gc gm : Sg) (x y : Int32) , Rel gc gm → Ans Rel (M_X6_of x y gc) (M_X7_of x y gm)) ∧ (∀ (gc gm : Sg) (x : Int32) , Rel gc gm → Ans Rel (M_X6_lamp x gc) (M_X7_lamp x gm)) ∧ (∀ (gc gm : Sg) (x y : Int32) , Rel gc gm → Ans Rel (M_X6_best x y gc) (M_X7_best x y gm)) ∧ (∀ (gc gm : Sg) , Rel gc gm → Ans Rel (M_X6_bestPump gc) (M_X7_bestPump gm)) ∧ (∀ (gc gm : Sg) (x : Int32) , Rel gc gm → Ans Rel (M_X6_bestHour x gc) (M_X7_bestHour x gm)) ∧ (∀ (gc gm : Sg) (x : Int32) , Rel gc gm → Ans Rel (M_X6_without x gc) (M_X7_without x gm)) ∧ (∀ (gc gm : Sg) (x : Int32) , Rel gc gm → Ans Rel (M_X6_second x gc) (M_X7_second x gm)) ∧ (∀ (gc gm : Sg) , Rel gc gm → Ans Rel (M_X6_bestSecond gc) (M_X7_bestSecond gm)) ∧ (∀ (gc gm : Sg) (x : Int32) , Rel gc gm → Ans Rel (M_X6_net x gc) (M_X7_net x gm)) ∧ (∀ (gc gm : Sg) , Rel gc gm → Ans Rel (M_X6_payments gc) (M_X7_payments gm)) ∧ (∀ (gc gm : Sg) (x y : Int32) , Rel gc gm → Ans Rel (M_X6_near x y gc) (M_X7_near x y gm)) ∧ (∀ (gc gm : Sg) (x : Int32) , Rel gc gm → Ans Rel (M_X6_midwife x gc) (M_X7_midwife x gm)) ∧ (∀ (gc gm : Sg) , Rel gc gm → Ans Rel (M_X6_watch gc) (M_X7_watch gm)) ∧ (∀ (gc gm : Sg) (x y : Int32) , Rel gc gm → Ans Rel (M_X6_whoHad x y gc) (M_X7_whoHad x y gm)) ∧ (∀ (gc gm : Sg) , Rel gc gm → Ans Rel (M_X6_leastOil gc) (M_X7_leastOil gm)) ∧ (∀ (gc gm : Sg) (x : Int32) , Rel gc gm → Ans Rel (M_X6_row x gc) (M_X7_row x gm)) ∧ (∀ (gc gm : Sg) , Rel gc gm → Ans Rel (M_X6_judge gc) (M_X7_judge gm)) ∧ (∀ (gc gm : Sg) , Rel gc gm → Ans Rel (M_X6_clear gc) (M_X7_clear gm)) ∧ (∀ (gc gm : Sg) (x y w : Int32) , Rel gc gm → Ans Rel (M_X6_lots x y w gc) (M_X7_lots x y w gm)) ∧ (∀ (gc gm : Sg) , Rel gc gm → Ans Rel (M_X6_image gc) (M_X7_image gm)) ∧ (∀ (gc gm : Sg) , Rel gc gm → Ans Rel (M_X6_on gc) (M_X7_on gm)) ∧ (∀ (gc gm : Sg) (x : Int32) , Rel gc gm → Ans Rel (M_X6_count x gc) (M_X7_count x gm))
def EL (z : Nat) (zm : Nat × Nat) : Et := fun A U H => EC z A U H ∧ EM zm A U H
theorem EL_ok (z : Nat) (zm : Nat × Nat) : EOK (EL z zm) := ⟨fun _ _ _ _ hv h => ⟨(EC_ok z).1 _ _ _ _ hv h.1, (EM_ok zm).1 _ _ _ _ hv h.2⟩, fun _ _ _ _ h hk => ⟨(EC_ok z).2.1 _ _ _ _ h.1 hk, (EM_ok zm).2.1 _ _ _ _ h.2 hk⟩, fun _ _ _ _ h hAB => ⟨(EC_ok z).2.2 _ _ _ _ h.1 hAB, (EM_ok zm).2.2 _ _ _ _ h.2 hAB⟩⟩
set_option maxRecDepth 100000 in
set_option maxHeartbeats 4000000 in
theorem lw_case_letter {p : Program} {l : Launch} {e : Env} {s : State} {m : MethodId} {below : List Frame} {meth : Method} {c : Code} {D : va_G} {cI : ClassId} {b L : Nat} {xs : Nat → Int32} {z : Nat} {zm : Nat × Nat} {q qm : Nat → Nat} {Rel : Sg → Sg → Prop} (hA : AllAns Rel) (C : JC p s m #[Value.ref b] c code 4 RL D cI (fun a : Nat => s.heap.size ≤ a) (EL z zm)) (hX : va_X b L xs s s.heap) (hbl : b < s.heap.size) {k : Nat} (hk : k + 4 ≤ L) (hL : L ≤ 2048) (hb1 : ∀ gc gm : Sg, Rel gc gm → JA p l e room_1 s m #[Value.ref b] below meth c D (fun a : Nat => s.heap.size ≤ a) 4 (lw_Z below #[Value.ref b] s) (cW q cI gc ++ mW qm cI gm) 68 1095 794 [(0, .ref b), (1, .ref (q 0)), (2, .ref (qm 0)), (3, .int (nI k))] []) (gc gm : Sg) (hR : Rel gc gm) : JA p l e room_1 s m #[Value.ref b] below meth c D (fun a : Nat => s.heap.size ≤ a) 4 (lw_Z below #[Value.ref b] s) (cW q cI gc ++ mW qm cI gm) 68 1095 160 [(0, .ref b), (1, .ref (q 0)), (2, .ref (qm 0)), (3, .int (nI k))] [] := by
  have hbA : ¬ (s.heap.size ≤ b) := Nat.not_le.mpr hbl
  have v1 : vp_in (nI k + 1) L := by rw [show (nI k + 1) = nI (k + 1) from nI_add k 1]; exact vp_in_nI (by omega) (by omega)
  obtain ⟨r, gc1, gm1, e1, e2, hR1⟩ := hA.1 gc gm (xs (ix (nI k + 1))) hR
  refine JA.aload_n (pc := 160) C dL_law_160 rfl rfl ?_
  refine JA.aload_n (pc := 161) C dL_law_161 rfl rfl ?_
  refine JA.iload_n (pc := 162) C dL_law_162 rfl rfl ?_
  refine JA.iconst (pc := 163) C 1 dL_law_163 ic_1 ?_
  refine JA.iadd (pc := 164) C dL_law_164 ?_
  refine JA.sld (pc := 165) C hX hbl hbA v1 dL_law_165 ?_
  refine JA.callL (pc := 166) C (fun _ _ _ h => h.1) (EC_ok z) (av := [.int _]) (rest := []) (C_X6_letter e1) lk_X6_letter tm_L_13 (io_0 q cI) ⟨Nat.le_of_ble_eq_true rfl, Nat.le_of_ble_eq_true rfl⟩ ⟨Nat.le_of_ble_eq_true rfl, Nat.le_of_ble_eq_true rfl⟩ rfl rfl (Nat.le_of_ble_eq_true rfl) dL_law_166 ?_
  refine JA.aload_n (pc := 169) C dL_law_169 rfl rfl ?_
  refine JA.aload_n (pc := 170) C dL_law_170 rfl rfl ?_
  refine JA.iload_n (pc := 171) C dL_law_171 rfl rfl ?_
  refine JA.iconst (pc := 172) C 1 dL_law_172 ic_1 ?_
  refine JA.iadd (pc := 173) C dL_law_173 ?_
  refine JA.sld (pc := 174) C hX hbl hbA v1 dL_law_174 ?_
  refine JA.callR (pc := 175) C (fun _ _ _ h => h.2) (EM_ok zm) (av := [.int _]) (rest := [.int r]) (C_X7_letter e2) lk_X7_letter tm_L_17 (io_m qm cI) ⟨Nat.le_of_ble_eq_true rfl, Nat.le_of_ble_eq_true rfl⟩ ⟨Nat.le_of_ble_eq_true rfl, Nat.le_of_ble_eq_true rfl⟩ rfl rfl (Nat.le_of_ble_eq_true rfl) dL_law_175 ?_
  refine JA.icmp_eq (pc := 178) C 794 dL_law_178 (by decide) (fun _ => ?_) (fun hc => absurd rfl hc)
  exact hb1 gc1 gm1 hR1
set_option maxRecDepth 100000 in
set_option maxHeartbeats 4000000 in
theorem lw_case_night {p : Program} {l : Launch} {e : Env} {s : State} {m : MethodId} {below : List Frame} {meth : Method} {c : Code} {D : va_G} {cI : ClassId} {b L : Nat} {xs : Nat → Int32} {z : Nat} {zm : Nat × Nat} {q qm : Nat → Nat} {Rel : Sg → Sg → Prop} (hA : AllAns Rel) (C : JC p s m #[Value.ref b] c code 4 RL D cI (fun a : Nat => s.heap.size ≤ a) (EL z zm)) (hX : va_X b L xs s s.heap) (hbl : b < s.heap.size) {k : Nat} (hk : k + 4 ≤ L) (hL : L ≤ 2048) (hb1 : ∀ gc gm : Sg, Rel gc gm → JA p l e room_1 s m #[Value.ref b] below meth c D (fun a : Nat => s.heap.size ≤ a) 4 (lw_Z below #[Value.ref b] s) (cW q cI gc ++ mW qm cI gm) 68 1095 794 [(0, .ref b), (1, .ref (q 0)), (2, .ref (qm 0)), (3, .int (nI k))] []) (gc gm : Sg) (hR : Rel gc gm) : JA p l e room_1 s m #[Value.ref b] below meth c D (fun a : Nat => s.heap.size ≤ a) 4 (lw_Z below #[Value.ref b] s) (cW q cI gc ++ mW qm cI gm) 68 1095 183 [(0, .ref b), (1, .ref (q 0)), (2, .ref (qm 0)), (3, .int (nI k))] [] := by
  have hbA : ¬ (s.heap.size ≤ b) := Nat.not_le.mpr hbl
  obtain ⟨r, gc1, gm1, e1, e2, hR1⟩ := hA.2.1 gc gm hR
  refine JA.aload_n (pc := 183) C dL_law_183 rfl rfl ?_
  refine JA.callL (pc := 184) C (fun _ _ _ h => h.1) (EC_ok z) (av := []) (rest := []) (C_X6_night e1) lk_X6_night tm_L_18 (io_0 q cI) ⟨Nat.le_of_ble_eq_true rfl, Nat.le_of_ble_eq_true rfl⟩ ⟨Nat.le_of_ble_eq_true rfl, Nat.le_of_ble_eq_true rfl⟩ rfl rfl (Nat.le_of_ble_eq_true rfl) dL_law_184 ?_
  refine JA.aload_n (pc := 187) C dL_law_187 rfl rfl ?_
  refine JA.callR (pc := 188) C (fun _ _ _ h => h.2) (EM_ok zm) (av := []) (rest := [.int r]) (C_X7_night e2) lk_X7_night tm_L_22 (io_m qm cI) ⟨Nat.le_of_ble_eq_true rfl, Nat.le_of_ble_eq_true rfl⟩ ⟨Nat.le_of_ble_eq_true rfl, Nat.le_of_ble_eq_true rfl⟩ rfl rfl (Nat.le_of_ble_eq_true rfl) dL_law_188 ?_
  refine JA.icmp_eq (pc := 191) C 794 dL_law_191 (by decide) (fun _ => ?_) (fun hc => absurd rfl hc)
  exact hb1 gc1 gm1 hR1
set_option maxRecDepth 100000 in
set_option maxHeartbeats 4000000 in
theorem lw_case_goer {p : Program} {l : Launch} {e : Env} {s : State} {m : MethodId} {below : List Frame} {meth : Method} {c : Code} {D : va_G} {cI : ClassId} {b L : Nat} {xs : Nat → Int32} {z : Nat} {zm : Nat × Nat} {q qm : Nat → Nat} {Rel : Sg → Sg → Prop} (hA : AllAns Rel) (C : JC p s m #[Value.ref b] c code 4 RL D cI (fun a : Nat => s.heap.size ≤ a) (EL z zm)) (hX : va_X b L xs s s.heap) (hbl : b < s.heap.size) {k : Nat} (hk : k + 4 ≤ L) (hL : L ≤ 2048) (hb1 : ∀ gc gm : Sg, Rel gc gm → JA p l e room_1 s m #[Value.ref b] below meth c D (fun a : Nat => s.heap.size ≤ a) 4 (lw_Z below #[Value.ref b] s) (cW q cI gc ++ mW qm cI gm) 68 1095 794 [(0, .ref b), (1, .ref (q 0)), (2, .ref (qm 0)), (3, .int (nI k))] []) (gc gm : Sg) (hR : Rel gc gm) : JA p l e room_1 s m #[Value.ref b] below meth c D (fun a : Nat => s.heap.size ≤ a) 4 (lw_Z below #[Value.ref b] s) (cW q cI gc ++ mW qm cI gm) 68 1095 196 [(0, .ref b), (1, .ref (q 0)), (2, .ref (qm 0)), (3, .int (nI k))] [] := by
  have hbA : ¬ (s.heap.size ≤ b) := Nat.not_le.mpr hbl
  have v1 : vp_in (nI k + 1) L := by rw [show (nI k + 1) = nI (k + 1) from nI_add k 1]; exact vp_in_nI (by omega) (by omega)
  have v2 : vp_in (nI k + 2) L := by rw [show (nI k + 2) = nI (k + 2) from nI_add k 2]; exact vp_in_nI (by omega) (by omega)
  obtain ⟨r, gc1, gm1, e1, e2, hR1⟩ := hA.2.2.1 gc gm (xs (ix (nI k + 1))) (xs (ix (nI k + 2))) hR
  refine JA.aload_n (pc := 196) C dL_law_196 rfl rfl ?_
  refine JA.aload_n (pc := 197) C dL_law_197 rfl rfl ?_
  refine JA.iload_n (pc := 198) C dL_law_198 rfl rfl ?_
  refine JA.iconst (pc := 199) C 1 dL_law_199 ic_1 ?_
  refine JA.iadd (pc := 200) C dL_law_200 ?_
  refine JA.sld (pc := 201) C hX hbl hbA v1 dL_law_201 ?_
  refine JA.aload_n (pc := 202) C dL_law_202 rfl rfl ?_
  refine JA.iload_n (pc := 203) C dL_law_203 rfl rfl ?_
  refine JA.iconst (pc := 204) C 2 dL_law_204 ic_2 ?_
  refine JA.iadd (pc := 205) C dL_law_205 ?_
  refine JA.sld (pc := 206) C hX hbl hbA v2 dL_law_206 ?_
  refine JA.callL (pc := 207) C (fun _ _ _ h => h.1) (EC_ok z) (av := [.int _, .int _]) (rest := []) (C_X6_goer e1) lk_X6_goer tm_L_23 (io_0 q cI) ⟨Nat.le_of_ble_eq_true rfl, Nat.le_of_ble_eq_true rfl⟩ ⟨Nat.le_of_ble_eq_true rfl, Nat.le_of_ble_eq_true rfl⟩ rfl rfl (Nat.le_of_ble_eq_true rfl) dL_law_207 ?_
  refine JA.aload_n (pc := 210) C dL_law_210 rfl rfl ?_
  refine JA.aload_n (pc := 211) C dL_law_211 rfl rfl ?_
  refine JA.iload_n (pc := 212) C dL_law_212 rfl rfl ?_
  refine JA.iconst (pc := 213) C 1 dL_law_213 ic_1 ?_
  refine JA.iadd (pc := 214) C dL_law_214 ?_
  refine JA.sld (pc := 215) C hX hbl hbA v1 dL_law_215 ?_
  refine JA.aload_n (pc := 216) C dL_law_216 rfl rfl ?_
  refine JA.iload_n (pc := 217) C dL_law_217 rfl rfl ?_
  refine JA.iconst (pc := 218) C 2 dL_law_218 ic_2 ?_
  refine JA.iadd (pc := 219) C dL_law_219 ?_
  refine JA.sld (pc := 220) C hX hbl hbA v2 dL_law_220 ?_
  refine JA.callR (pc := 221) C (fun _ _ _ h => h.2) (EM_ok zm) (av := [.int _, .int _]) (rest := [.int r]) (C_X7_goer e2) lk_X7_goer tm_L_27 (io_m qm cI) ⟨Nat.le_of_ble_eq_true rfl, Nat.le_of_ble_eq_true rfl⟩ ⟨Nat.le_of_ble_eq_true rfl, Nat.le_of_ble_eq_true rfl⟩ rfl rfl (Nat.le_of_ble_eq_true rfl) dL_law_221 ?_
  refine JA.icmp_eq (pc := 224) C 794 dL_law_224 (by decide) (fun _ => ?_) (fun hc => absurd rfl hc)
  exact hb1 gc1 gm1 hR1
set_option maxRecDepth 100000 in
set_option maxHeartbeats 4000000 in
theorem lw_case_hour {p : Program} {l : Launch} {e : Env} {s : State} {m : MethodId} {below : List Frame} {meth : Method} {c : Code} {D : va_G} {cI : ClassId} {b L : Nat} {xs : Nat → Int32} {z : Nat} {zm : Nat × Nat} {q qm : Nat → Nat} {Rel : Sg → Sg → Prop} (hA : AllAns Rel) (C : JC p s m #[Value.ref b] c code 4 RL D cI (fun a : Nat => s.heap.size ≤ a) (EL z zm)) (hX : va_X b L xs s s.heap) (hbl : b < s.heap.size) {k : Nat} (hk : k + 4 ≤ L) (hL : L ≤ 2048) (hb1 : ∀ gc gm : Sg, Rel gc gm → JA p l e room_1 s m #[Value.ref b] below meth c D (fun a : Nat => s.heap.size ≤ a) 4 (lw_Z below #[Value.ref b] s) (cW q cI gc ++ mW qm cI gm) 68 1095 794 [(0, .ref b), (1, .ref (q 0)), (2, .ref (qm 0)), (3, .int (nI k))] []) (gc gm : Sg) (hR : Rel gc gm) : JA p l e room_1 s m #[Value.ref b] below meth c D (fun a : Nat => s.heap.size ≤ a) 4 (lw_Z below #[Value.ref b] s) (cW q cI gc ++ mW qm cI gm) 68 1095 229 [(0, .ref b), (1, .ref (q 0)), (2, .ref (qm 0)), (3, .int (nI k))] [] := by
  have hbA : ¬ (s.heap.size ≤ b) := Nat.not_le.mpr hbl
  have v1 : vp_in (nI k + 1) L := by rw [show (nI k + 1) = nI (k + 1) from nI_add k 1]; exact vp_in_nI (by omega) (by omega)
  have v2 : vp_in (nI k + 2) L := by rw [show (nI k + 2) = nI (k + 2) from nI_add k 2]; exact vp_in_nI (by omega) (by omega)
  obtain ⟨r, gc1, gm1, e1, e2, hR1⟩ := hA.2.2.2.1 gc gm (xs (ix (nI k + 1))) (xs (ix (nI k + 2))) hR
  refine JA.aload_n (pc := 229) C dL_law_229 rfl rfl ?_
  refine JA.aload_n (pc := 230) C dL_law_230 rfl rfl ?_
  refine JA.iload_n (pc := 231) C dL_law_231 rfl rfl ?_
  refine JA.iconst (pc := 232) C 1 dL_law_232 ic_1 ?_
  refine JA.iadd (pc := 233) C dL_law_233 ?_
  refine JA.sld (pc := 234) C hX hbl hbA v1 dL_law_234 ?_
  refine JA.aload_n (pc := 235) C dL_law_235 rfl rfl ?_
  refine JA.iload_n (pc := 236) C dL_law_236 rfl rfl ?_
  refine JA.iconst (pc := 237) C 2 dL_law_237 ic_2 ?_
  refine JA.iadd (pc := 238) C dL_law_238 ?_
  refine JA.sld (pc := 239) C hX hbl hbA v2 dL_law_239 ?_
  refine JA.callL (pc := 240) C (fun _ _ _ h => h.1) (EC_ok z) (av := [.int _, .int _]) (rest := []) (C_X6_hour e1) lk_X6_hour tm_L_28 (io_0 q cI) ⟨Nat.le_of_ble_eq_true rfl, Nat.le_of_ble_eq_true rfl⟩ ⟨Nat.le_of_ble_eq_true rfl, Nat.le_of_ble_eq_true rfl⟩ rfl rfl (Nat.le_of_ble_eq_true rfl) dL_law_240 ?_
  refine JA.aload_n (pc := 243) C dL_law_243 rfl rfl ?_
  refine JA.aload_n (pc := 244) C dL_law_244 rfl rfl ?_
  refine JA.iload_n (pc := 245) C dL_law_245 rfl rfl ?_
  refine JA.iconst (pc := 246) C 1 dL_law_246 ic_1 ?_
  refine JA.iadd (pc := 247) C dL_law_247 ?_
  refine JA.sld (pc := 248) C hX hbl hbA v1 dL_law_248 ?_
  refine JA.aload_n (pc := 249) C dL_law_249 rfl rfl ?_
  refine JA.iload_n (pc := 250) C dL_law_250 rfl rfl ?_
  refine JA.iconst (pc := 251) C 2 dL_law_251 ic_2 ?_
  refine JA.iadd (pc := 252) C dL_law_252 ?_
  refine JA.sld (pc := 253) C hX hbl hbA v2 dL_law_253 ?_
  refine JA.callR (pc := 254) C (fun _ _ _ h => h.2) (EM_ok zm) (av := [.int _, .int _]) (rest := [.int r]) (C_X7_hour e2) lk_X7_hour tm_L_31 (io_m qm cI) ⟨Nat.le_of_ble_eq_true rfl, Nat.le_of_ble_eq_true rfl⟩ ⟨Nat.le_of_ble_eq_true rfl, Nat.le_of_ble_eq_true rfl⟩ rfl rfl (Nat.le_of_ble_eq_true rfl) dL_law_254 ?_
  refine JA.icmp_eq (pc := 257) C 794 dL_law_257 (by decide) (fun _ => ?_) (fun hc => absurd rfl hc)
  exact hb1 gc1 gm1 hR1
set_option maxRecDepth 100000 in
set_option maxHeartbeats 4000000 in
theorem lw_case_set {p : Program} {l : Launch} {e : Env} {s : State} {m : MethodId} {below : List Frame} {meth : Method} {c : Code} {D : va_G} {cI : ClassId} {b L : Nat} {xs : Nat → Int32} {z : Nat} {zm : Nat × Nat} {q qm : Nat → Nat} {Rel : Sg → Sg → Prop} (hA : AllAns Rel) (C : JC p s m #[Value.ref b] c code 4 RL D cI (fun a : Nat => s.heap.size ≤ a) (EL z zm)) (hX : va_X b L xs s s.heap) (hbl : b < s.heap.size) {k : Nat} (hk : k + 4 ≤ L) (hL : L ≤ 2048) (hb1 : ∀ gc gm : Sg, Rel gc gm → JA p l e room_1 s m #[Value.ref b] below meth c D (fun a : Nat => s.heap.size ≤ a) 4 (lw_Z below #[Value.ref b] s) (cW q cI gc ++ mW qm cI gm) 68 1095 794 [(0, .ref b), (1, .ref (q 0)), (2, .ref (qm 0)), (3, .int (nI k))] []) (gc gm : Sg) (hR : Rel gc gm) : JA p l e room_1 s m #[Value.ref b] below meth c D (fun a : Nat => s.heap.size ≤ a) 4 (lw_Z below #[Value.ref b] s) (cW q cI gc ++ mW qm cI gm) 68 1095 262 [(0, .ref b), (1, .ref (q 0)), (2, .ref (qm 0)), (3, .int (nI k))] [] := by
  have hbA : ¬ (s.heap.size ≤ b) := Nat.not_le.mpr hbl
  have v1 : vp_in (nI k + 1) L := by rw [show (nI k + 1) = nI (k + 1) from nI_add k 1]; exact vp_in_nI (by omega) (by omega)
  have v2 : vp_in (nI k + 2) L := by rw [show (nI k + 2) = nI (k + 2) from nI_add k 2]; exact vp_in_nI (by omega) (by omega)
  obtain ⟨r, gc1, gm1, e1, e2, hR1⟩ := hA.2.2.2.2.1 gc gm (xs (ix (nI k + 1))) (xs (ix (nI k + 2))) hR
  refine JA.aload_n (pc := 262) C dL_law_262 rfl rfl ?_
  refine JA.aload_n (pc := 263) C dL_law_263 rfl rfl ?_
  refine JA.iload_n (pc := 264) C dL_law_264 rfl rfl ?_
  refine JA.iconst (pc := 265) C 1 dL_law_265 ic_1 ?_
  refine JA.iadd (pc := 266) C dL_law_266 ?_
  refine JA.sld (pc := 267) C hX hbl hbA v1 dL_law_267 ?_
  refine JA.aload_n (pc := 268) C dL_law_268 rfl rfl ?_
  refine JA.iload_n (pc := 269) C dL_law_269 rfl rfl ?_
  refine JA.iconst (pc := 270) C 2 dL_law_270 ic_2 ?_
  refine JA.iadd (pc := 271) C dL_law_271 ?_
  refine JA.sld (pc := 272) C hX hbl hbA v2 dL_law_272 ?_
  refine JA.callL (pc := 273) C (fun _ _ _ h => h.1) (EC_ok z) (av := [.int _, .int _]) (rest := []) (C_X6_set e1) lk_X6_set tm_L_32 (io_0 q cI) ⟨Nat.le_of_ble_eq_true rfl, Nat.le_of_ble_eq_true rfl⟩ ⟨Nat.le_of_ble_eq_true rfl, Nat.le_of_ble_eq_true rfl⟩ rfl rfl (Nat.le_of_ble_eq_true rfl) dL_law_273 ?_
  refine JA.aload_n (pc := 276) C dL_law_276 rfl rfl ?_
  refine JA.aload_n (pc := 277) C dL_law_277 rfl rfl ?_
  refine JA.iload_n (pc := 278) C dL_law_278 rfl rfl ?_
  refine JA.iconst (pc := 279) C 1 dL_law_279 ic_1 ?_
  refine JA.iadd (pc := 280) C dL_law_280 ?_
  refine JA.sld (pc := 281) C hX hbl hbA v1 dL_law_281 ?_
  refine JA.aload_n (pc := 282) C dL_law_282 rfl rfl ?_
  refine JA.iload_n (pc := 283) C dL_law_283 rfl rfl ?_
  refine JA.iconst (pc := 284) C 2 dL_law_284 ic_2 ?_
  refine JA.iadd (pc := 285) C dL_law_285 ?_
  refine JA.sld (pc := 286) C hX hbl hbA v2 dL_law_286 ?_
  refine JA.callR (pc := 287) C (fun _ _ _ h => h.2) (EM_ok zm) (av := [.int _, .int _]) (rest := [.int r]) (C_X7_set e2) lk_X7_set tm_L_35 (io_m qm cI) ⟨Nat.le_of_ble_eq_true rfl, Nat.le_of_ble_eq_true rfl⟩ ⟨Nat.le_of_ble_eq_true rfl, Nat.le_of_ble_eq_true rfl⟩ rfl rfl (Nat.le_of_ble_eq_true rfl) dL_law_287 ?_
  refine JA.icmp_eq (pc := 290) C 794 dL_law_290 (by decide) (fun _ => ?_) (fun hc => absurd rfl hc)
  exact hb1 gc1 gm1 hR1
set_option maxRecDepth 100000 in
set_option maxHeartbeats 4000000 in
theorem lw_case_sums {p : Program} {l : Launch} {e : Env} {s : State} {m : MethodId} {below : List Frame} {meth : Method} {c : Code} {D : va_G} {cI : ClassId} {b L : Nat} {xs : Nat → Int32} {z : Nat} {zm : Nat × Nat} {q qm : Nat → Nat} {Rel : Sg → Sg → Prop} (hA : AllAns Rel) (C : JC p s m #[Value.ref b] c code 4 RL D cI (fun a : Nat => s.heap.size ≤ a) (EL z zm)) (hX : va_X b L xs s s.heap) (hbl : b < s.heap.size) {k : Nat} (hk : k + 4 ≤ L) (hL : L ≤ 2048) (hb1 : ∀ gc gm : Sg, Rel gc gm → JA p l e room_1 s m #[Value.ref b] below meth c D (fun a : Nat => s.heap.size ≤ a) 4 (lw_Z below #[Value.ref b] s) (cW q cI gc ++ mW qm cI gm) 68 1095 794 [(0, .ref b), (1, .ref (q 0)), (2, .ref (qm 0)), (3, .int (nI k))] []) (gc gm : Sg) (hR : Rel gc gm) : JA p l e room_1 s m #[Value.ref b] below meth c D (fun a : Nat => s.heap.size ≤ a) 4 (lw_Z below #[Value.ref b] s) (cW q cI gc ++ mW qm cI gm) 68 1095 295 [(0, .ref b), (1, .ref (q 0)), (2, .ref (qm 0)), (3, .int (nI k))] [] := by
  have hbA : ¬ (s.heap.size ≤ b) := Nat.not_le.mpr hbl
  have v1 : vp_in (nI k + 1) L := by rw [show (nI k + 1) = nI (k + 1) from nI_add k 1]; exact vp_in_nI (by omega) (by omega)
  obtain ⟨r, gc1, gm1, e1, e2, hR1⟩ := hA.2.2.2.2.2.1 gc gm (xs (ix (nI k + 1))) hR
  refine JA.aload_n (pc := 295) C dL_law_295 rfl rfl ?_
  refine JA.aload_n (pc := 296) C dL_law_296 rfl rfl ?_
  refine JA.iload_n (pc := 297) C dL_law_297 rfl rfl ?_
  refine JA.iconst (pc := 298) C 1 dL_law_298 ic_1 ?_
  refine JA.iadd (pc := 299) C dL_law_299 ?_
  refine JA.sld (pc := 300) C hX hbl hbA v1 dL_law_300 ?_
  refine JA.callL (pc := 301) C (fun _ _ _ h => h.1) (EC_ok z) (av := [.int _]) (rest := []) (C_X6_sums e1) lk_X6_sums tm_L_36 (io_0 q cI) ⟨Nat.le_of_ble_eq_true rfl, Nat.le_of_ble_eq_true rfl⟩ ⟨Nat.le_of_ble_eq_true rfl, Nat.le_of_ble_eq_true rfl⟩ rfl rfl (Nat.le_of_ble_eq_true rfl) dL_law_301 ?_
  refine JA.aload_n (pc := 304) C dL_law_304 rfl rfl ?_
  refine JA.aload_n (pc := 305) C dL_law_305 rfl rfl ?_
  refine JA.iload_n (pc := 306) C dL_law_306 rfl rfl ?_
  refine JA.iconst (pc := 307) C 1 dL_law_307 ic_1 ?_
  refine JA.iadd (pc := 308) C dL_law_308 ?_
  refine JA.sld (pc := 309) C hX hbl hbA v1 dL_law_309 ?_
  refine JA.callR (pc := 310) C (fun _ _ _ h => h.2) (EM_ok zm) (av := [.int _]) (rest := [.int r]) (C_X7_sums e2) lk_X7_sums tm_L_39 (io_m qm cI) ⟨Nat.le_of_ble_eq_true rfl, Nat.le_of_ble_eq_true rfl⟩ ⟨Nat.le_of_ble_eq_true rfl, Nat.le_of_ble_eq_true rfl⟩ rfl rfl (Nat.le_of_ble_eq_true rfl) dL_law_310 ?_
  refine JA.icmp_eq (pc := 313) C 794 dL_law_313 (by decide) (fun _ => ?_) (fun hc => absurd rfl hc)
  exact hb1 gc1 gm1 hR1
set_option maxRecDepth 100000 in
set_option maxHeartbeats 4000000 in
theorem lw_case_of {p : Program} {l : Launch} {e : Env} {s : State} {m : MethodId} {below : List Frame} {meth : Method} {c : Code} {D : va_G} {cI : ClassId} {b L : Nat} {xs : Nat → Int32} {z : Nat} {zm : Nat × Nat} {q qm : Nat → Nat} {Rel : Sg → Sg → Prop} (hA : AllAns Rel) (C : JC p s m #[Value.ref b] c code 4 RL D cI (fun a : Nat => s.heap.size ≤ a) (EL z zm)) (hX : va_X b L xs s s.heap) (hbl : b < s.heap.size) {k : Nat} (hk : k + 4 ≤ L) (hL : L ≤ 2048) (hb1 : ∀ gc gm : Sg, Rel gc gm → JA p l e room_1 s m #[Value.ref b] below meth c D (fun a : Nat => s.heap.size ≤ a) 4 (lw_Z below #[Value.ref b] s) (cW q cI gc ++ mW qm cI gm) 68 1095 794 [(0, .ref b), (1, .ref (q 0)), (2, .ref (qm 0)), (3, .int (nI k))] []) (gc gm : Sg) (hR : Rel gc gm) : JA p l e room_1 s m #[Value.ref b] below meth c D (fun a : Nat => s.heap.size ≤ a) 4 (lw_Z below #[Value.ref b] s) (cW q cI gc ++ mW qm cI gm) 68 1095 318 [(0, .ref b), (1, .ref (q 0)), (2, .ref (qm 0)), (3, .int (nI k))] [] := by
  have hbA : ¬ (s.heap.size ≤ b) := Nat.not_le.mpr hbl
  have v1 : vp_in (nI k + 1) L := by rw [show (nI k + 1) = nI (k + 1) from nI_add k 1]; exact vp_in_nI (by omega) (by omega)
  have v2 : vp_in (nI k + 2) L := by rw [show (nI k + 2) = nI (k + 2) from nI_add k 2]; exact vp_in_nI (by omega) (by omega)
  obtain ⟨r, gc1, gm1, e1, e2, hR1⟩ := hA.2.2.2.2.2.2.1 gc gm (xs (ix (nI k + 1))) (xs (ix (nI k + 2))) hR
  refine JA.aload_n (pc := 318) C dL_law_318 rfl rfl ?_
  refine JA.aload_n (pc := 319) C dL_law_319 rfl rfl ?_
  refine JA.iload_n (pc := 320) C dL_law_320 rfl rfl ?_
  refine JA.iconst (pc := 321) C 1 dL_law_321 ic_1 ?_
  refine JA.iadd (pc := 322) C dL_law_322 ?_
  refine JA.sld (pc := 323) C hX hbl hbA v1 dL_law_323 ?_
  refine JA.aload_n (pc := 324) C dL_law_324 rfl rfl ?_
  refine JA.iload_n (pc := 325) C dL_law_325 rfl rfl ?_
  refine JA.iconst (pc := 326) C 2 dL_law_326 ic_2 ?_
  refine JA.iadd (pc := 327) C dL_law_327 ?_
  refine JA.sld (pc := 328) C hX hbl hbA v2 dL_law_328 ?_
  refine JA.callL (pc := 329) C (fun _ _ _ h => h.1) (EC_ok z) (av := [.int _, .int _]) (rest := []) (C_X6_of e1) lk_X6_of tm_L_40 (io_0 q cI) ⟨Nat.le_of_ble_eq_true rfl, Nat.le_of_ble_eq_true rfl⟩ ⟨Nat.le_of_ble_eq_true rfl, Nat.le_of_ble_eq_true rfl⟩ rfl rfl (Nat.le_of_ble_eq_true rfl) dL_law_329 ?_
  refine JA.aload_n (pc := 332) C dL_law_332 rfl rfl ?_
  refine JA.aload_n (pc := 333) C dL_law_333 rfl rfl ?_
  refine JA.iload_n (pc := 334) C dL_law_334 rfl rfl ?_
  refine JA.iconst (pc := 335) C 1 dL_law_335 ic_1 ?_
  refine JA.iadd (pc := 336) C dL_law_336 ?_
  refine JA.sld (pc := 337) C hX hbl hbA v1 dL_law_337 ?_
  refine JA.aload_n (pc := 338) C dL_law_338 rfl rfl ?_
  refine JA.iload_n (pc := 339) C dL_law_339 rfl rfl ?_
  refine JA.iconst (pc := 340) C 2 dL_law_340 ic_2 ?_
  refine JA.iadd (pc := 341) C dL_law_341 ?_
  refine JA.sld (pc := 342) C hX hbl hbA v2 dL_law_342 ?_
  refine JA.callR (pc := 343) C (fun _ _ _ h => h.2) (EM_ok zm) (av := [.int _, .int _]) (rest := [.int r]) (C_X7_of e2) lk_X7_of tm_L_43 (io_m qm cI) ⟨Nat.le_of_ble_eq_true rfl, Nat.le_of_ble_eq_true rfl⟩ ⟨Nat.le_of_ble_eq_true rfl, Nat.le_of_ble_eq_true rfl⟩ rfl rfl (Nat.le_of_ble_eq_true rfl) dL_law_343 ?_
  refine JA.icmp_eq (pc := 346) C 794 dL_law_346 (by decide) (fun _ => ?_) (fun hc => absurd rfl hc)
  exact hb1 gc1 gm1 hR1
set_option maxRecDepth 100000 in
set_option maxHeartbeats 4000000 in
theorem lw_case_lamp {p : Program} {l : Launch} {e : Env} {s : State} {m : MethodId} {below : List Frame} {meth : Method} {c : Code} {D : va_G} {cI : ClassId} {b L : Nat} {xs : Nat → Int32} {z : Nat} {zm : Nat × Nat} {q qm : Nat → Nat} {Rel : Sg → Sg → Prop} (hA : AllAns Rel) (C : JC p s m #[Value.ref b] c code 4 RL D cI (fun a : Nat => s.heap.size ≤ a) (EL z zm)) (hX : va_X b L xs s s.heap) (hbl : b < s.heap.size) {k : Nat} (hk : k + 4 ≤ L) (hL : L ≤ 2048) (hb1 : ∀ gc gm : Sg, Rel gc gm → JA p l e room_1 s m #[Value.ref b] below meth c D (fun a : Nat => s.heap.size ≤ a) 4 (lw_Z below #[Value.ref b] s) (cW q cI gc ++ mW qm cI gm) 68 1095 794 [(0, .ref b), (1, .ref (q 0)), (2, .ref (qm 0)), (3, .int (nI k))] []) (gc gm : Sg) (hR : Rel gc gm) : JA p l e room_1 s m #[Value.ref b] below meth c D (fun a : Nat => s.heap.size ≤ a) 4 (lw_Z below #[Value.ref b] s) (cW q cI gc ++ mW qm cI gm) 68 1095 351 [(0, .ref b), (1, .ref (q 0)), (2, .ref (qm 0)), (3, .int (nI k))] [] := by
  have hbA : ¬ (s.heap.size ≤ b) := Nat.not_le.mpr hbl
  have v1 : vp_in (nI k + 1) L := by rw [show (nI k + 1) = nI (k + 1) from nI_add k 1]; exact vp_in_nI (by omega) (by omega)
  obtain ⟨r, gc1, gm1, e1, e2, hR1⟩ := hA.2.2.2.2.2.2.2.1 gc gm (xs (ix (nI k + 1))) hR
  refine JA.aload_n (pc := 351) C dL_law_351 rfl rfl ?_
  refine JA.aload_n (pc := 352) C dL_law_352 rfl rfl ?_
  refine JA.iload_n (pc := 353) C dL_law_353 rfl rfl ?_
  refine JA.iconst (pc := 354) C 1 dL_law_354 ic_1 ?_
  refine JA.iadd (pc := 355) C dL_law_355 ?_
  refine JA.sld (pc := 356) C hX hbl hbA v1 dL_law_356 ?_
  refine JA.callL (pc := 357) C (fun _ _ _ h => h.1) (EC_ok z) (av := [.int _]) (rest := []) (C_X6_lamp e1) lk_X6_lamp tm_L_44 (io_0 q cI) ⟨Nat.le_of_ble_eq_true rfl, Nat.le_of_ble_eq_true rfl⟩ ⟨Nat.le_of_ble_eq_true rfl, Nat.le_of_ble_eq_true rfl⟩ rfl rfl (Nat.le_of_ble_eq_true rfl) dL_law_357 ?_
  refine JA.aload_n (pc := 360) C dL_law_360 rfl rfl ?_
  refine JA.aload_n (pc := 361) C dL_law_361 rfl rfl ?_
  refine JA.iload_n (pc := 362) C dL_law_362 rfl rfl ?_
  refine JA.iconst (pc := 363) C 1 dL_law_363 ic_1 ?_
  refine JA.iadd (pc := 364) C dL_law_364 ?_
  refine JA.sld (pc := 365) C hX hbl hbA v1 dL_law_365 ?_
  refine JA.callR (pc := 366) C (fun _ _ _ h => h.2) (EM_ok zm) (av := [.int _]) (rest := [.int r]) (C_X7_lamp e2) lk_X7_lamp tm_L_47 (io_m qm cI) ⟨Nat.le_of_ble_eq_true rfl, Nat.le_of_ble_eq_true rfl⟩ ⟨Nat.le_of_ble_eq_true rfl, Nat.le_of_ble_eq_true rfl⟩ rfl rfl (Nat.le_of_ble_eq_true rfl) dL_law_366 ?_
  refine JA.icmp_eq (pc := 369) C 794 dL_law_369 (by decide) (fun _ => ?_) (fun hc => absurd rfl hc)
  exact hb1 gc1 gm1 hR1
set_option maxRecDepth 100000 in
set_option maxHeartbeats 4000000 in
theorem lw_case_best {p : Program} {l : Launch} {e : Env} {s : State} {m : MethodId} {below : List Frame} {meth : Method} {c : Code} {D : va_G} {cI : ClassId} {b L : Nat} {xs : Nat → Int32} {z : Nat} {zm : Nat × Nat} {q qm : Nat → Nat} {Rel : Sg → Sg → Prop} (hA : AllAns Rel) (C : JC p s m #[Value.ref b] c code 4 RL D cI (fun a : Nat => s.heap.size ≤ a) (EL z zm)) (hX : va_X b L xs s s.heap) (hbl : b < s.heap.size) {k : Nat} (hk : k + 4 ≤ L) (hL : L ≤ 2048) (hb1 : ∀ gc gm : Sg, Rel gc gm → JA p l e room_1 s m #[Value.ref b] below meth c D (fun a : Nat => s.heap.size ≤ a) 4 (lw_Z below #[Value.ref b] s) (cW q cI gc ++ mW qm cI gm) 68 1095 794 [(0, .ref b), (1, .ref (q 0)), (2, .ref (qm 0)), (3, .int (nI k))] []) (gc gm : Sg) (hR : Rel gc gm) : JA p l e room_1 s m #[Value.ref b] below meth c D (fun a : Nat => s.heap.size ≤ a) 4 (lw_Z below #[Value.ref b] s) (cW q cI gc ++ mW qm cI gm) 68 1095 374 [(0, .ref b), (1, .ref (q 0)), (2, .ref (qm 0)), (3, .int (nI k))] [] := by
  have hbA : ¬ (s.heap.size ≤ b) := Nat.not_le.mpr hbl
  have v1 : vp_in (nI k + 1) L := by rw [show (nI k + 1) = nI (k + 1) from nI_add k 1]; exact vp_in_nI (by omega) (by omega)
  have v2 : vp_in (nI k + 2) L := by rw [show (nI k + 2) = nI (k + 2) from nI_add k 2]; exact vp_in_nI (by omega) (by omega)
  obtain ⟨r, gc1, gm1, e1, e2, hR1⟩ := hA.2.2.2.2.2.2.2.2.1 gc gm (xs (ix (nI k + 1))) (xs (ix (nI k + 2))) hR
  refine JA.aload_n (pc := 374) C dL_law_374 rfl rfl ?_
  refine JA.aload_n (pc := 375) C dL_law_375 rfl rfl ?_
  refine JA.iload_n (pc := 376) C dL_law_376 rfl rfl ?_
  refine JA.iconst (pc := 377) C 1 dL_law_377 ic_1 ?_
  refine JA.iadd (pc := 378) C dL_law_378 ?_
  refine JA.sld (pc := 379) C hX hbl hbA v1 dL_law_379 ?_
  refine JA.aload_n (pc := 380) C dL_law_380 rfl rfl ?_
  refine JA.iload_n (pc := 381) C dL_law_381 rfl rfl ?_
  refine JA.iconst (pc := 382) C 2 dL_law_382 ic_2 ?_
  refine JA.iadd (pc := 383) C dL_law_383 ?_
  refine JA.sld (pc := 384) C hX hbl hbA v2 dL_law_384 ?_
  refine JA.callL (pc := 385) C (fun _ _ _ h => h.1) (EC_ok z) (av := [.int _, .int _]) (rest := []) (C_X6_best e1) lk_X6_best tm_L_48 (io_0 q cI) ⟨Nat.le_of_ble_eq_true rfl, Nat.le_of_ble_eq_true rfl⟩ ⟨Nat.le_of_ble_eq_true rfl, Nat.le_of_ble_eq_true rfl⟩ rfl rfl (Nat.le_of_ble_eq_true rfl) dL_law_385 ?_
  refine JA.aload_n (pc := 388) C dL_law_388 rfl rfl ?_
  refine JA.aload_n (pc := 389) C dL_law_389 rfl rfl ?_
  refine JA.iload_n (pc := 390) C dL_law_390 rfl rfl ?_
  refine JA.iconst (pc := 391) C 1 dL_law_391 ic_1 ?_
  refine JA.iadd (pc := 392) C dL_law_392 ?_
  refine JA.sld (pc := 393) C hX hbl hbA v1 dL_law_393 ?_
  refine JA.aload_n (pc := 394) C dL_law_394 rfl rfl ?_
  refine JA.iload_n (pc := 395) C dL_law_395 rfl rfl ?_
  refine JA.iconst (pc := 396) C 2 dL_law_396 ic_2 ?_
  refine JA.iadd (pc := 397) C dL_law_397 ?_
  refine JA.sld (pc := 398) C hX hbl hbA v2 dL_law_398 ?_
  refine JA.callR (pc := 399) C (fun _ _ _ h => h.2) (EM_ok zm) (av := [.int _, .int _]) (rest := [.int r]) (C_X7_best e2) lk_X7_best tm_L_51 (io_m qm cI) ⟨Nat.le_of_ble_eq_true rfl, Nat.le_of_ble_eq_true rfl⟩ ⟨Nat.le_of_ble_eq_true rfl, Nat.le_of_ble_eq_true rfl⟩ rfl rfl (Nat.le_of_ble_eq_true rfl) dL_law_399 ?_
  refine JA.icmp_eq (pc := 402) C 794 dL_law_402 (by decide) (fun _ => ?_) (fun hc => absurd rfl hc)
  exact hb1 gc1 gm1 hR1
set_option maxRecDepth 100000 in
set_option maxHeartbeats 4000000 in
theorem lw_case_bestPump {p : Program} {l : Launch} {e : Env} {s : State} {m : MethodId} {below : List Frame} {meth : Method} {c : Code} {D : va_G} {cI : ClassId} {b L : Nat} {xs : Nat → Int32} {z : Nat} {zm : Nat × Nat} {q qm : Nat → Nat} {Rel : Sg → Sg → Prop} (hA : AllAns Rel) (C : JC p s m #[Value.ref b] c code 4 RL D cI (fun a : Nat => s.heap.size ≤ a) (EL z zm)) (hX : va_X b L xs s s.heap) (hbl : b < s.heap.size) {k : Nat} (hk : k + 4 ≤ L) (hL : L ≤ 2048) (hb1 : ∀ gc gm : Sg, Rel gc gm → JA p l e room_1 s m #[Value.ref b] below meth c D (fun a : Nat => s.heap.size ≤ a) 4 (lw_Z below #[Value.ref b] s) (cW q cI gc ++ mW qm cI gm) 68 1095 794 [(0, .ref b), (1, .ref (q 0)), (2, .ref (qm 0)), (3, .int (nI k))] []) (gc gm : Sg) (hR : Rel gc gm) : JA p l e room_1 s m #[Value.ref b] below meth c D (fun a : Nat => s.heap.size ≤ a) 4 (lw_Z below #[Value.ref b] s) (cW q cI gc ++ mW qm cI gm) 68 1095 407 [(0, .ref b), (1, .ref (q 0)), (2, .ref (qm 0)), (3, .int (nI k))] [] := by
  have hbA : ¬ (s.heap.size ≤ b) := Nat.not_le.mpr hbl
  obtain ⟨r, gc1, gm1, e1, e2, hR1⟩ := hA.2.2.2.2.2.2.2.2.2.1 gc gm hR
  refine JA.aload_n (pc := 407) C dL_law_407 rfl rfl ?_
  refine JA.callL (pc := 408) C (fun _ _ _ h => h.1) (EC_ok z) (av := []) (rest := []) (C_X6_bestPump e1) lk_X6_bestPump tm_L_52 (io_0 q cI) ⟨Nat.le_of_ble_eq_true rfl, Nat.le_of_ble_eq_true rfl⟩ ⟨Nat.le_of_ble_eq_true rfl, Nat.le_of_ble_eq_true rfl⟩ rfl rfl (Nat.le_of_ble_eq_true rfl) dL_law_408 ?_
  refine JA.aload_n (pc := 411) C dL_law_411 rfl rfl ?_
  refine JA.callR (pc := 412) C (fun _ _ _ h => h.2) (EM_ok zm) (av := []) (rest := [.int r]) (C_X7_bestPump e2) lk_X7_bestPump tm_L_55 (io_m qm cI) ⟨Nat.le_of_ble_eq_true rfl, Nat.le_of_ble_eq_true rfl⟩ ⟨Nat.le_of_ble_eq_true rfl, Nat.le_of_ble_eq_true rfl⟩ rfl rfl (Nat.le_of_ble_eq_true rfl) dL_law_412 ?_
  refine JA.icmp_eq (pc := 415) C 794 dL_law_415 (by decide) (fun _ => ?_) (fun hc => absurd rfl hc)
  exact hb1 gc1 gm1 hR1
set_option maxRecDepth 100000 in
set_option maxHeartbeats 4000000 in
theorem lw_case_bestHour {p : Program} {l : Launch} {e : Env} {s : State} {m : MethodId} {below : List Frame} {meth : Method} {c : Code} {D : va_G} {cI : ClassId} {b L : Nat} {xs : Nat → Int32} {z : Nat} {zm : Nat × Nat} {q qm : Nat → Nat} {Rel : Sg → Sg → Prop} (hA : AllAns Rel) (C : JC p s m #[Value.ref b] c code 4 RL D cI (fun a : Nat => s.heap.size ≤ a) (EL z zm)) (hX : va_X b L xs s s.heap) (hbl : b < s.heap.size) {k : Nat} (hk : k + 4 ≤ L) (hL : L ≤ 2048) (hb1 : ∀ gc gm : Sg, Rel gc gm → JA p l e room_1 s m #[Value.ref b] below meth c D (fun a : Nat => s.heap.size ≤ a) 4 (lw_Z below #[Value.ref b] s) (cW q cI gc ++ mW qm cI gm) 68 1095 794 [(0, .ref b), (1, .ref (q 0)), (2, .ref (qm 0)), (3, .int (nI k))] []) (gc gm : Sg) (hR : Rel gc gm) : JA p l e room_1 s m #[Value.ref b] below meth c D (fun a : Nat => s.heap.size ≤ a) 4 (lw_Z below #[Value.ref b] s) (cW q cI gc ++ mW qm cI gm) 68 1095 420 [(0, .ref b), (1, .ref (q 0)), (2, .ref (qm 0)), (3, .int (nI k))] [] := by
  have hbA : ¬ (s.heap.size ≤ b) := Nat.not_le.mpr hbl
  have v1 : vp_in (nI k + 1) L := by rw [show (nI k + 1) = nI (k + 1) from nI_add k 1]; exact vp_in_nI (by omega) (by omega)
  obtain ⟨r, gc1, gm1, e1, e2, hR1⟩ := hA.2.2.2.2.2.2.2.2.2.2.1 gc gm (xs (ix (nI k + 1))) hR
  refine JA.aload_n (pc := 420) C dL_law_420 rfl rfl ?_
  refine JA.aload_n (pc := 421) C dL_law_421 rfl rfl ?_
  refine JA.iload_n (pc := 422) C dL_law_422 rfl rfl ?_
  refine JA.iconst (pc := 423) C 1 dL_law_423 ic_1 ?_
  refine JA.iadd (pc := 424) C dL_law_424 ?_
  refine JA.sld (pc := 425) C hX hbl hbA v1 dL_law_425 ?_
  refine JA.callL (pc := 426) C (fun _ _ _ h => h.1) (EC_ok z) (av := [.int _]) (rest := []) (C_X6_bestHour e1) lk_X6_bestHour tm_L_56 (io_0 q cI) ⟨Nat.le_of_ble_eq_true rfl, Nat.le_of_ble_eq_true rfl⟩ ⟨Nat.le_of_ble_eq_true rfl, Nat.le_of_ble_eq_true rfl⟩ rfl rfl (Nat.le_of_ble_eq_true rfl) dL_law_426 ?_
  refine JA.aload_n (pc := 429) C dL_law_429 rfl rfl ?_
  refine JA.aload_n (pc := 430) C dL_law_430 rfl rfl ?_
  refine JA.iload_n (pc := 431) C dL_law_431 rfl rfl ?_
  refine JA.iconst (pc := 432) C 1 dL_law_432 ic_1 ?_
  refine JA.iadd (pc := 433) C dL_law_433 ?_
  refine JA.sld (pc := 434) C hX hbl hbA v1 dL_law_434 ?_
  refine JA.callR (pc := 435) C (fun _ _ _ h => h.2) (EM_ok zm) (av := [.int _]) (rest := [.int r]) (C_X7_bestHour e2) lk_X7_bestHour tm_L_59 (io_m qm cI) ⟨Nat.le_of_ble_eq_true rfl, Nat.le_of_ble_eq_true rfl⟩ ⟨Nat.le_of_ble_eq_true rfl, Nat.le_of_ble_eq_true rfl⟩ rfl rfl (Nat.le_of_ble_eq_true rfl) dL_law_435 ?_
  refine JA.icmp_eq (pc := 438) C 794 dL_law_438 (by decide) (fun _ => ?_) (fun hc => absurd rfl hc)
  exact hb1 gc1 gm1 hR1
set_option maxRecDepth 100000 in
set_option maxHeartbeats 4000000 in
theorem lw_case_without {p : Program} {l : Launch} {e : Env} {s : State} {m : MethodId} {below : List Frame} {meth : Method} {c : Code} {D : va_G} {cI : ClassId} {b L : Nat} {xs : Nat → Int32} {z : Nat} {zm : Nat × Nat} {q qm : Nat → Nat} {Rel : Sg → Sg → Prop} (hA : AllAns Rel) (C : JC p s m #[Value.ref b] c code 4 RL D cI (fun a : Nat => s.heap.size ≤ a) (EL z zm)) (hX : va_X b L xs s s.heap) (hbl : b < s.heap.size) {k : Nat} (hk : k + 4 ≤ L) (hL : L ≤ 2048) (hb1 : ∀ gc gm : Sg, Rel gc gm → JA p l e room_1 s m #[Value.ref b] below meth c D (fun a : Nat => s.heap.size ≤ a) 4 (lw_Z below #[Value.ref b] s) (cW q cI gc ++ mW qm cI gm) 68 1095 794 [(0, .ref b), (1, .ref (q 0)), (2, .ref (qm 0)), (3, .int (nI k))] []) (gc gm : Sg) (hR : Rel gc gm) : JA p l e room_1 s m #[Value.ref b] below meth c D (fun a : Nat => s.heap.size ≤ a) 4 (lw_Z below #[Value.ref b] s) (cW q cI gc ++ mW qm cI gm) 68 1095 443 [(0, .ref b), (1, .ref (q 0)), (2, .ref (qm 0)), (3, .int (nI k))] [] := by
  have hbA : ¬ (s.heap.size ≤ b) := Nat.not_le.mpr hbl
  have v1 : vp_in (nI k + 1) L := by rw [show (nI k + 1) = nI (k + 1) from nI_add k 1]; exact vp_in_nI (by omega) (by omega)
  obtain ⟨r, gc1, gm1, e1, e2, hR1⟩ := hA.2.2.2.2.2.2.2.2.2.2.2.1 gc gm (xs (ix (nI k + 1))) hR
  refine JA.aload_n (pc := 443) C dL_law_443 rfl rfl ?_
  refine JA.aload_n (pc := 444) C dL_law_444 rfl rfl ?_
  refine JA.iload_n (pc := 445) C dL_law_445 rfl rfl ?_
  refine JA.iconst (pc := 446) C 1 dL_law_446 ic_1 ?_
  refine JA.iadd (pc := 447) C dL_law_447 ?_
  refine JA.sld (pc := 448) C hX hbl hbA v1 dL_law_448 ?_
  refine JA.callL (pc := 449) C (fun _ _ _ h => h.1) (EC_ok z) (av := [.int _]) (rest := []) (C_X6_without e1) lk_X6_without tm_L_60 (io_0 q cI) ⟨Nat.le_of_ble_eq_true rfl, Nat.le_of_ble_eq_true rfl⟩ ⟨Nat.le_of_ble_eq_true rfl, Nat.le_of_ble_eq_true rfl⟩ rfl rfl (Nat.le_of_ble_eq_true rfl) dL_law_449 ?_
  refine JA.aload_n (pc := 452) C dL_law_452 rfl rfl ?_
  refine JA.aload_n (pc := 453) C dL_law_453 rfl rfl ?_
  refine JA.iload_n (pc := 454) C dL_law_454 rfl rfl ?_
  refine JA.iconst (pc := 455) C 1 dL_law_455 ic_1 ?_
  refine JA.iadd (pc := 456) C dL_law_456 ?_
  refine JA.sld (pc := 457) C hX hbl hbA v1 dL_law_457 ?_
  refine JA.callR (pc := 458) C (fun _ _ _ h => h.2) (EM_ok zm) (av := [.int _]) (rest := [.int r]) (C_X7_without e2) lk_X7_without tm_L_63 (io_m qm cI) ⟨Nat.le_of_ble_eq_true rfl, Nat.le_of_ble_eq_true rfl⟩ ⟨Nat.le_of_ble_eq_true rfl, Nat.le_of_ble_eq_true rfl⟩ rfl rfl (Nat.le_of_ble_eq_true rfl) dL_law_458 ?_
  refine JA.icmp_eq (pc := 461) C 794 dL_law_461 (by decide) (fun _ => ?_) (fun hc => absurd rfl hc)
  exact hb1 gc1 gm1 hR1
set_option maxRecDepth 100000 in
set_option maxHeartbeats 4000000 in
theorem lw_case_second {p : Program} {l : Launch} {e : Env} {s : State} {m : MethodId} {below : List Frame} {meth : Method} {c : Code} {D : va_G} {cI : ClassId} {b L : Nat} {xs : Nat → Int32} {z : Nat} {zm : Nat × Nat} {q qm : Nat → Nat} {Rel : Sg → Sg → Prop} (hA : AllAns Rel) (C : JC p s m #[Value.ref b] c code 4 RL D cI (fun a : Nat => s.heap.size ≤ a) (EL z zm)) (hX : va_X b L xs s s.heap) (hbl : b < s.heap.size) {k : Nat} (hk : k + 4 ≤ L) (hL : L ≤ 2048) (hb1 : ∀ gc gm : Sg, Rel gc gm → JA p l e room_1 s m #[Value.ref b] below meth c D (fun a : Nat => s.heap.size ≤ a) 4 (lw_Z below #[Value.ref b] s) (cW q cI gc ++ mW qm cI gm) 68 1095 794 [(0, .ref b), (1, .ref (q 0)), (2, .ref (qm 0)), (3, .int (nI k))] []) (gc gm : Sg) (hR : Rel gc gm) : JA p l e room_1 s m #[Value.ref b] below meth c D (fun a : Nat => s.heap.size ≤ a) 4 (lw_Z below #[Value.ref b] s) (cW q cI gc ++ mW qm cI gm) 68 1095 466 [(0, .ref b), (1, .ref (q 0)), (2, .ref (qm 0)), (3, .int (nI k))] [] := by
  have hbA : ¬ (s.heap.size ≤ b) := Nat.not_le.mpr hbl
  have v1 : vp_in (nI k + 1) L := by rw [show (nI k + 1) = nI (k + 1) from nI_add k 1]; exact vp_in_nI (by omega) (by omega)
  obtain ⟨r, gc1, gm1, e1, e2, hR1⟩ := hA.2.2.2.2.2.2.2.2.2.2.2.2.1 gc gm (xs (ix (nI k + 1))) hR
  refine JA.aload_n (pc := 466) C dL_law_466 rfl rfl ?_
  refine JA.aload_n (pc := 467) C dL_law_467 rfl rfl ?_
  refine JA.iload_n (pc := 468) C dL_law_468 rfl rfl ?_
  refine JA.iconst (pc := 469) C 1 dL_law_469 ic_1 ?_
  refine JA.iadd (pc := 470) C dL_law_470 ?_
  refine JA.sld (pc := 471) C hX hbl hbA v1 dL_law_471 ?_
  refine JA.callL (pc := 472) C (fun _ _ _ h => h.1) (EC_ok z) (av := [.int _]) (rest := []) (C_X6_second e1) lk_X6_second tm_L_64 (io_0 q cI) ⟨Nat.le_of_ble_eq_true rfl, Nat.le_of_ble_eq_true rfl⟩ ⟨Nat.le_of_ble_eq_true rfl, Nat.le_of_ble_eq_true rfl⟩ rfl rfl (Nat.le_of_ble_eq_true rfl) dL_law_472 ?_
  refine JA.aload_n (pc := 475) C dL_law_475 rfl rfl ?_
  refine JA.aload_n (pc := 476) C dL_law_476 rfl rfl ?_
  refine JA.iload_n (pc := 477) C dL_law_477 rfl rfl ?_
  refine JA.iconst (pc := 478) C 1 dL_law_478 ic_1 ?_
  refine JA.iadd (pc := 479) C dL_law_479 ?_
  refine JA.sld (pc := 480) C hX hbl hbA v1 dL_law_480 ?_
  refine JA.callR (pc := 481) C (fun _ _ _ h => h.2) (EM_ok zm) (av := [.int _]) (rest := [.int r]) (C_X7_second e2) lk_X7_second tm_L_67 (io_m qm cI) ⟨Nat.le_of_ble_eq_true rfl, Nat.le_of_ble_eq_true rfl⟩ ⟨Nat.le_of_ble_eq_true rfl, Nat.le_of_ble_eq_true rfl⟩ rfl rfl (Nat.le_of_ble_eq_true rfl) dL_law_481 ?_
  refine JA.icmp_eq (pc := 484) C 794 dL_law_484 (by decide) (fun _ => ?_) (fun hc => absurd rfl hc)
  exact hb1 gc1 gm1 hR1
set_option maxRecDepth 100000 in
set_option maxHeartbeats 4000000 in
theorem lw_case_bestSecond {p : Program} {l : Launch} {e : Env} {s : State} {m : MethodId} {below : List Frame} {meth : Method} {c : Code} {D : va_G} {cI : ClassId} {b L : Nat} {xs : Nat → Int32} {z : Nat} {zm : Nat × Nat} {q qm : Nat → Nat} {Rel : Sg → Sg → Prop} (hA : AllAns Rel) (C : JC p s m #[Value.ref b] c code 4 RL D cI (fun a : Nat => s.heap.size ≤ a) (EL z zm)) (hX : va_X b L xs s s.heap) (hbl : b < s.heap.size) {k : Nat} (hk : k + 4 ≤ L) (hL : L ≤ 2048) (hb1 : ∀ gc gm : Sg, Rel gc gm → JA p l e room_1 s m #[Value.ref b] below meth c D (fun a : Nat => s.heap.size ≤ a) 4 (lw_Z below #[Value.ref b] s) (cW q cI gc ++ mW qm cI gm) 68 1095 794 [(0, .ref b), (1, .ref (q 0)), (2, .ref (qm 0)), (3, .int (nI k))] []) (gc gm : Sg) (hR : Rel gc gm) : JA p l e room_1 s m #[Value.ref b] below meth c D (fun a : Nat => s.heap.size ≤ a) 4 (lw_Z below #[Value.ref b] s) (cW q cI gc ++ mW qm cI gm) 68 1095 489 [(0, .ref b), (1, .ref (q 0)), (2, .ref (qm 0)), (3, .int (nI k))] [] := by
  have hbA : ¬ (s.heap.size ≤ b) := Nat.not_le.mpr hbl
  obtain ⟨r, gc1, gm1, e1, e2, hR1⟩ := hA.2.2.2.2.2.2.2.2.2.2.2.2.2.1 gc gm hR
  refine JA.aload_n (pc := 489) C dL_law_489 rfl rfl ?_
  refine JA.callL (pc := 490) C (fun _ _ _ h => h.1) (EC_ok z) (av := []) (rest := []) (C_X6_bestSecond e1) lk_X6_bestSecond tm_L_68 (io_0 q cI) ⟨Nat.le_of_ble_eq_true rfl, Nat.le_of_ble_eq_true rfl⟩ ⟨Nat.le_of_ble_eq_true rfl, Nat.le_of_ble_eq_true rfl⟩ rfl rfl (Nat.le_of_ble_eq_true rfl) dL_law_490 ?_
  refine JA.aload_n (pc := 493) C dL_law_493 rfl rfl ?_
  refine JA.callR (pc := 494) C (fun _ _ _ h => h.2) (EM_ok zm) (av := []) (rest := [.int r]) (C_X7_bestSecond e2) lk_X7_bestSecond tm_L_71 (io_m qm cI) ⟨Nat.le_of_ble_eq_true rfl, Nat.le_of_ble_eq_true rfl⟩ ⟨Nat.le_of_ble_eq_true rfl, Nat.le_of_ble_eq_true rfl⟩ rfl rfl (Nat.le_of_ble_eq_true rfl) dL_law_494 ?_
  refine JA.icmp_eq (pc := 497) C 794 dL_law_497 (by decide) (fun _ => ?_) (fun hc => absurd rfl hc)
  exact hb1 gc1 gm1 hR1
set_option maxRecDepth 100000 in
set_option maxHeartbeats 4000000 in
theorem lw_case_net {p : Program} {l : Launch} {e : Env} {s : State} {m : MethodId} {below : List Frame} {meth : Method} {c : Code} {D : va_G} {cI : ClassId} {b L : Nat} {xs : Nat → Int32} {z : Nat} {zm : Nat × Nat} {q qm : Nat → Nat} {Rel : Sg → Sg → Prop} (hA : AllAns Rel) (C : JC p s m #[Value.ref b] c code 4 RL D cI (fun a : Nat => s.heap.size ≤ a) (EL z zm)) (hX : va_X b L xs s s.heap) (hbl : b < s.heap.size) {k : Nat} (hk : k + 4 ≤ L) (hL : L ≤ 2048) (hb1 : ∀ gc gm : Sg, Rel gc gm → JA p l e room_1 s m #[Value.ref b] below meth c D (fun a : Nat => s.heap.size ≤ a) 4 (lw_Z below #[Value.ref b] s) (cW q cI gc ++ mW qm cI gm) 68 1095 794 [(0, .ref b), (1, .ref (q 0)), (2, .ref (qm 0)), (3, .int (nI k))] []) (gc gm : Sg) (hR : Rel gc gm) : JA p l e room_1 s m #[Value.ref b] below meth c D (fun a : Nat => s.heap.size ≤ a) 4 (lw_Z below #[Value.ref b] s) (cW q cI gc ++ mW qm cI gm) 68 1095 502 [(0, .ref b), (1, .ref (q 0)), (2, .ref (qm 0)), (3, .int (nI k))] [] := by
  have hbA : ¬ (s.heap.size ≤ b) := Nat.not_le.mpr hbl
  have v1 : vp_in (nI k + 1) L := by rw [show (nI k + 1) = nI (k + 1) from nI_add k 1]; exact vp_in_nI (by omega) (by omega)
  obtain ⟨r, gc1, gm1, e1, e2, hR1⟩ := hA.2.2.2.2.2.2.2.2.2.2.2.2.2.2.1 gc gm (xs (ix (nI k + 1))) hR
  refine JA.aload_n (pc := 502) C dL_law_502 rfl rfl ?_
  refine JA.aload_n (pc := 503) C dL_law_503 rfl rfl ?_
  refine JA.iload_n (pc := 504) C dL_law_504 rfl rfl ?_
  refine JA.iconst (pc := 505) C 1 dL_law_505 ic_1 ?_
  refine JA.iadd (pc := 506) C dL_law_506 ?_
  refine JA.sld (pc := 507) C hX hbl hbA v1 dL_law_507 ?_
  refine JA.callL (pc := 508) C (fun _ _ _ h => h.1) (EC_ok z) (av := [.int _]) (rest := []) (C_X6_net e1) lk_X6_net tm_L_72 (io_0 q cI) ⟨Nat.le_of_ble_eq_true rfl, Nat.le_of_ble_eq_true rfl⟩ ⟨Nat.le_of_ble_eq_true rfl, Nat.le_of_ble_eq_true rfl⟩ rfl rfl (Nat.le_of_ble_eq_true rfl) dL_law_508 ?_
  refine JA.aload_n (pc := 511) C dL_law_511 rfl rfl ?_
  refine JA.aload_n (pc := 512) C dL_law_512 rfl rfl ?_
  refine JA.iload_n (pc := 513) C dL_law_513 rfl rfl ?_
  refine JA.iconst (pc := 514) C 1 dL_law_514 ic_1 ?_
  refine JA.iadd (pc := 515) C dL_law_515 ?_
  refine JA.sld (pc := 516) C hX hbl hbA v1 dL_law_516 ?_
  refine JA.callR (pc := 517) C (fun _ _ _ h => h.2) (EM_ok zm) (av := [.int _]) (rest := [.int r]) (C_X7_net e2) lk_X7_net tm_L_75 (io_m qm cI) ⟨Nat.le_of_ble_eq_true rfl, Nat.le_of_ble_eq_true rfl⟩ ⟨Nat.le_of_ble_eq_true rfl, Nat.le_of_ble_eq_true rfl⟩ rfl rfl (Nat.le_of_ble_eq_true rfl) dL_law_517 ?_
  refine JA.icmp_eq (pc := 520) C 794 dL_law_520 (by decide) (fun _ => ?_) (fun hc => absurd rfl hc)
  exact hb1 gc1 gm1 hR1
set_option maxRecDepth 100000 in
set_option maxHeartbeats 4000000 in
theorem lw_case_payments {p : Program} {l : Launch} {e : Env} {s : State} {m : MethodId} {below : List Frame} {meth : Method} {c : Code} {D : va_G} {cI : ClassId} {b L : Nat} {xs : Nat → Int32} {z : Nat} {zm : Nat × Nat} {q qm : Nat → Nat} {Rel : Sg → Sg → Prop} (hA : AllAns Rel) (C : JC p s m #[Value.ref b] c code 4 RL D cI (fun a : Nat => s.heap.size ≤ a) (EL z zm)) (hX : va_X b L xs s s.heap) (hbl : b < s.heap.size) {k : Nat} (hk : k + 4 ≤ L) (hL : L ≤ 2048) (hb1 : ∀ gc gm : Sg, Rel gc gm → JA p l e room_1 s m #[Value.ref b] below meth c D (fun a : Nat => s.heap.size ≤ a) 4 (lw_Z below #[Value.ref b] s) (cW q cI gc ++ mW qm cI gm) 68 1095 794 [(0, .ref b), (1, .ref (q 0)), (2, .ref (qm 0)), (3, .int (nI k))] []) (gc gm : Sg) (hR : Rel gc gm) : JA p l e room_1 s m #[Value.ref b] below meth c D (fun a : Nat => s.heap.size ≤ a) 4 (lw_Z below #[Value.ref b] s) (cW q cI gc ++ mW qm cI gm) 68 1095 525 [(0, .ref b), (1, .ref (q 0)), (2, .ref (qm 0)), (3, .int (nI k))] [] := by
  have hbA : ¬ (s.heap.size ≤ b) := Nat.not_le.mpr hbl
  obtain ⟨r, gc1, gm1, e1, e2, hR1⟩ := hA.2.2.2.2.2.2.2.2.2.2.2.2.2.2.2.1 gc gm hR
  refine JA.aload_n (pc := 525) C dL_law_525 rfl rfl ?_
  refine JA.callL (pc := 526) C (fun _ _ _ h => h.1) (EC_ok z) (av := []) (rest := []) (C_X6_payments e1) lk_X6_payments tm_L_76 (io_0 q cI) ⟨Nat.le_of_ble_eq_true rfl, Nat.le_of_ble_eq_true rfl⟩ ⟨Nat.le_of_ble_eq_true rfl, Nat.le_of_ble_eq_true rfl⟩ rfl rfl (Nat.le_of_ble_eq_true rfl) dL_law_526 ?_
  refine JA.aload_n (pc := 529) C dL_law_529 rfl rfl ?_
  refine JA.callR (pc := 530) C (fun _ _ _ h => h.2) (EM_ok zm) (av := []) (rest := [.int r]) (C_X7_payments e2) lk_X7_payments tm_L_79 (io_m qm cI) ⟨Nat.le_of_ble_eq_true rfl, Nat.le_of_ble_eq_true rfl⟩ ⟨Nat.le_of_ble_eq_true rfl, Nat.le_of_ble_eq_true rfl⟩ rfl rfl (Nat.le_of_ble_eq_true rfl) dL_law_530 ?_
  refine JA.icmp_eq (pc := 533) C 794 dL_law_533 (by decide) (fun _ => ?_) (fun hc => absurd rfl hc)
  exact hb1 gc1 gm1 hR1
set_option maxRecDepth 100000 in
set_option maxHeartbeats 4000000 in
theorem lw_case_near {p : Program} {l : Launch} {e : Env} {s : State} {m : MethodId} {below : List Frame} {meth : Method} {c : Code} {D : va_G} {cI : ClassId} {b L : Nat} {xs : Nat → Int32} {z : Nat} {zm : Nat × Nat} {q qm : Nat → Nat} {Rel : Sg → Sg → Prop} (hA : AllAns Rel) (C : JC p s m #[Value.ref b] c code 4 RL D cI (fun a : Nat => s.heap.size ≤ a) (EL z zm)) (hX : va_X b L xs s s.heap) (hbl : b < s.heap.size) {k : Nat} (hk : k + 4 ≤ L) (hL : L ≤ 2048) (hb1 : ∀ gc gm : Sg, Rel gc gm → JA p l e room_1 s m #[Value.ref b] below meth c D (fun a : Nat => s.heap.size ≤ a) 4 (lw_Z below #[Value.ref b] s) (cW q cI gc ++ mW qm cI gm) 68 1095 794 [(0, .ref b), (1, .ref (q 0)), (2, .ref (qm 0)), (3, .int (nI k))] []) (gc gm : Sg) (hR : Rel gc gm) : JA p l e room_1 s m #[Value.ref b] below meth c D (fun a : Nat => s.heap.size ≤ a) 4 (lw_Z below #[Value.ref b] s) (cW q cI gc ++ mW qm cI gm) 68 1095 538 [(0, .ref b), (1, .ref (q 0)), (2, .ref (qm 0)), (3, .int (nI k))] [] := by
  have hbA : ¬ (s.heap.size ≤ b) := Nat.not_le.mpr hbl
  have v1 : vp_in (nI k + 1) L := by rw [show (nI k + 1) = nI (k + 1) from nI_add k 1]; exact vp_in_nI (by omega) (by omega)
  have v2 : vp_in (nI k + 2) L := by rw [show (nI k + 2) = nI (k + 2) from nI_add k 2]; exact vp_in_nI (by omega) (by omega)
  obtain ⟨r, gc1, gm1, e1, e2, hR1⟩ := hA.2.2.2.2.2.2.2.2.2.2.2.2.2.2.2.2.1 gc gm (xs (ix (nI k + 1))) (xs (ix (nI k + 2))) hR
  refine JA.aload_n (pc := 538) C dL_law_538 rfl rfl ?_
  refine JA.aload_n (pc := 539) C dL_law_539 rfl rfl ?_
  refine JA.iload_n (pc := 540) C dL_law_540 rfl rfl ?_
  refine JA.iconst (pc := 541) C 1 dL_law_541 ic_1 ?_
  refine JA.iadd (pc := 542) C dL_law_542 ?_
  refine JA.sld (pc := 543) C hX hbl hbA v1 dL_law_543 ?_
  refine JA.aload_n (pc := 544) C dL_law_544 rfl rfl ?_
  refine JA.iload_n (pc := 545) C dL_law_545 rfl rfl ?_
  refine JA.iconst (pc := 546) C 2 dL_law_546 ic_2 ?_
  refine JA.iadd (pc := 547) C dL_law_547 ?_
  refine JA.sld (pc := 548) C hX hbl hbA v2 dL_law_548 ?_
  refine JA.callL (pc := 549) C (fun _ _ _ h => h.1) (EC_ok z) (av := [.int _, .int _]) (rest := []) (C_X6_near e1) lk_X6_near tm_L_80 (io_0 q cI) ⟨Nat.le_of_ble_eq_true rfl, Nat.le_of_ble_eq_true rfl⟩ ⟨Nat.le_of_ble_eq_true rfl, Nat.le_of_ble_eq_true rfl⟩ rfl rfl (Nat.le_of_ble_eq_true rfl) dL_law_549 ?_
  refine JA.aload_n (pc := 552) C dL_law_552 rfl rfl ?_
  refine JA.aload_n (pc := 553) C dL_law_553 rfl rfl ?_
  refine JA.iload_n (pc := 554) C dL_law_554 rfl rfl ?_
  refine JA.iconst (pc := 555) C 1 dL_law_555 ic_1 ?_
  refine JA.iadd (pc := 556) C dL_law_556 ?_
  refine JA.sld (pc := 557) C hX hbl hbA v1 dL_law_557 ?_
  refine JA.aload_n (pc := 558) C dL_law_558 rfl rfl ?_
  refine JA.iload_n (pc := 559) C dL_law_559 rfl rfl ?_
  refine JA.iconst (pc := 560) C 2 dL_law_560 ic_2 ?_
  refine JA.iadd (pc := 561) C dL_law_561 ?_
  refine JA.sld (pc := 562) C hX hbl hbA v2 dL_law_562 ?_
  refine JA.callR (pc := 563) C (fun _ _ _ h => h.2) (EM_ok zm) (av := [.int _, .int _]) (rest := [.int r]) (C_X7_near e2) lk_X7_near tm_L_83 (io_m qm cI) ⟨Nat.le_of_ble_eq_true rfl, Nat.le_of_ble_eq_true rfl⟩ ⟨Nat.le_of_ble_eq_true rfl, Nat.le_of_ble_eq_true rfl⟩ rfl rfl (Nat.le_of_ble_eq_true rfl) dL_law_563 ?_
  refine JA.icmp_eq (pc := 566) C 794 dL_law_566 (by decide) (fun _ => ?_) (fun hc => absurd rfl hc)
  exact hb1 gc1 gm1 hR1
set_option maxRecDepth 100000 in
set_option maxHeartbeats 4000000 in
theorem lw_case_midwife {p : Program} {l : Launch} {e : Env} {s : State} {m : MethodId} {below : List Frame} {meth : Method} {c : Code} {D : va_G} {cI : ClassId} {b L : Nat} {xs : Nat → Int32} {z : Nat} {zm : Nat × Nat} {q qm : Nat → Nat} {Rel : Sg → Sg → Prop} (hA : AllAns Rel) (C : JC p s m #[Value.ref b] c code 4 RL D cI (fun a : Nat => s.heap.size ≤ a) (EL z zm)) (hX : va_X b L xs s s.heap) (hbl : b < s.heap.size) {k : Nat} (hk : k + 4 ≤ L) (hL : L ≤ 2048) (hb1 : ∀ gc gm : Sg, Rel gc gm → JA p l e room_1 s m #[Value.ref b] below meth c D (fun a : Nat => s.heap.size ≤ a) 4 (lw_Z below #[Value.ref b] s) (cW q cI gc ++ mW qm cI gm) 68 1095 794 [(0, .ref b), (1, .ref (q 0)), (2, .ref (qm 0)), (3, .int (nI k))] []) (gc gm : Sg) (hR : Rel gc gm) : JA p l e room_1 s m #[Value.ref b] below meth c D (fun a : Nat => s.heap.size ≤ a) 4 (lw_Z below #[Value.ref b] s) (cW q cI gc ++ mW qm cI gm) 68 1095 571 [(0, .ref b), (1, .ref (q 0)), (2, .ref (qm 0)), (3, .int (nI k))] [] := by
  have hbA : ¬ (s.heap.size ≤ b) := Nat.not_le.mpr hbl
  have v1 : vp_in (nI k + 1) L := by rw [show (nI k + 1) = nI (k + 1) from nI_add k 1]; exact vp_in_nI (by omega) (by omega)
  obtain ⟨r, gc1, gm1, e1, e2, hR1⟩ := hA.2.2.2.2.2.2.2.2.2.2.2.2.2.2.2.2.2.1 gc gm (xs (ix (nI k + 1))) hR
  refine JA.aload_n (pc := 571) C dL_law_571 rfl rfl ?_
  refine JA.aload_n (pc := 572) C dL_law_572 rfl rfl ?_
  refine JA.iload_n (pc := 573) C dL_law_573 rfl rfl ?_
  refine JA.iconst (pc := 574) C 1 dL_law_574 ic_1 ?_
  refine JA.iadd (pc := 575) C dL_law_575 ?_
  refine JA.sld (pc := 576) C hX hbl hbA v1 dL_law_576 ?_
  refine JA.callL (pc := 577) C (fun _ _ _ h => h.1) (EC_ok z) (av := [.int _]) (rest := []) (C_X6_midwife e1) lk_X6_midwife tm_L_84 (io_0 q cI) ⟨Nat.le_of_ble_eq_true rfl, Nat.le_of_ble_eq_true rfl⟩ ⟨Nat.le_of_ble_eq_true rfl, Nat.le_of_ble_eq_true rfl⟩ rfl rfl (Nat.le_of_ble_eq_true rfl) dL_law_577 ?_
  refine JA.aload_n (pc := 580) C dL_law_580 rfl rfl ?_
  refine JA.aload_n (pc := 581) C dL_law_581 rfl rfl ?_
  refine JA.iload_n (pc := 582) C dL_law_582 rfl rfl ?_
  refine JA.iconst (pc := 583) C 1 dL_law_583 ic_1 ?_
  refine JA.iadd (pc := 584) C dL_law_584 ?_
  refine JA.sld (pc := 585) C hX hbl hbA v1 dL_law_585 ?_
  refine JA.callR (pc := 586) C (fun _ _ _ h => h.2) (EM_ok zm) (av := [.int _]) (rest := [.int r]) (C_X7_midwife e2) lk_X7_midwife tm_L_87 (io_m qm cI) ⟨Nat.le_of_ble_eq_true rfl, Nat.le_of_ble_eq_true rfl⟩ ⟨Nat.le_of_ble_eq_true rfl, Nat.le_of_ble_eq_true rfl⟩ rfl rfl (Nat.le_of_ble_eq_true rfl) dL_law_586 ?_
  refine JA.icmp_eq (pc := 589) C 794 dL_law_589 (by decide) (fun _ => ?_) (fun hc => absurd rfl hc)
  exact hb1 gc1 gm1 hR1
set_option maxRecDepth 100000 in
set_option maxHeartbeats 4000000 in
theorem lw_case_watch {p : Program} {l : Launch} {e : Env} {s : State} {m : MethodId} {below : List Frame} {meth : Method} {c : Code} {D : va_G} {cI : ClassId} {b L : Nat} {xs : Nat → Int32} {z : Nat} {zm : Nat × Nat} {q qm : Nat → Nat} {Rel : Sg → Sg → Prop} (hA : AllAns Rel) (C : JC p s m #[Value.ref b] c code 4 RL D cI (fun a : Nat => s.heap.size ≤ a) (EL z zm)) (hX : va_X b L xs s s.heap) (hbl : b < s.heap.size) {k : Nat} (hk : k + 4 ≤ L) (hL : L ≤ 2048) (hb1 : ∀ gc gm : Sg, Rel gc gm → JA p l e room_1 s m #[Value.ref b] below meth c D (fun a : Nat => s.heap.size ≤ a) 4 (lw_Z below #[Value.ref b] s) (cW q cI gc ++ mW qm cI gm) 68 1095 794 [(0, .ref b), (1, .ref (q 0)), (2, .ref (qm 0)), (3, .int (nI k))] []) (gc gm : Sg) (hR : Rel gc gm) : JA p l e room_1 s m #[Value.ref b] below meth c D (fun a : Nat => s.heap.size ≤ a) 4 (lw_Z below #[Value.ref b] s) (cW q cI gc ++ mW qm cI gm) 68 1095 594 [(0, .ref b), (1, .ref (q 0)), (2, .ref (qm 0)), (3, .int (nI k))] [] := by
  have hbA : ¬ (s.heap.size ≤ b) := Nat.not_le.mpr hbl
  obtain ⟨r, gc1, gm1, e1, e2, hR1⟩ := hA.2.2.2.2.2.2.2.2.2.2.2.2.2.2.2.2.2.2.1 gc gm hR
  refine JA.aload_n (pc := 594) C dL_law_594 rfl rfl ?_
  refine JA.callL (pc := 595) C (fun _ _ _ h => h.1) (EC_ok z) (av := []) (rest := []) (C_X6_watch e1) lk_X6_watch tm_L_88 (io_0 q cI) ⟨Nat.le_of_ble_eq_true rfl, Nat.le_of_ble_eq_true rfl⟩ ⟨Nat.le_of_ble_eq_true rfl, Nat.le_of_ble_eq_true rfl⟩ rfl rfl (Nat.le_of_ble_eq_true rfl) dL_law_595 ?_
  refine JA.aload_n (pc := 598) C dL_law_598 rfl rfl ?_
  refine JA.callR (pc := 599) C (fun _ _ _ h => h.2) (EM_ok zm) (av := []) (rest := [.int r]) (C_X7_watch e2) lk_X7_watch tm_L_91 (io_m qm cI) ⟨Nat.le_of_ble_eq_true rfl, Nat.le_of_ble_eq_true rfl⟩ ⟨Nat.le_of_ble_eq_true rfl, Nat.le_of_ble_eq_true rfl⟩ rfl rfl (Nat.le_of_ble_eq_true rfl) dL_law_599 ?_
  refine JA.icmp_eq (pc := 602) C 794 dL_law_602 (by decide) (fun _ => ?_) (fun hc => absurd rfl hc)
  exact hb1 gc1 gm1 hR1
set_option maxRecDepth 100000 in
set_option maxHeartbeats 4000000 in
theorem lw_case_whoHad {p : Program} {l : Launch} {e : Env} {s : State} {m : MethodId} {below : List Frame} {meth : Method} {c : Code} {D : va_G} {cI : ClassId} {b L : Nat} {xs : Nat → Int32} {z : Nat} {zm : Nat × Nat} {q qm : Nat → Nat} {Rel : Sg → Sg → Prop} (hA : AllAns Rel) (C : JC p s m #[Value.ref b] c code 4 RL D cI (fun a : Nat => s.heap.size ≤ a) (EL z zm)) (hX : va_X b L xs s s.heap) (hbl : b < s.heap.size) {k : Nat} (hk : k + 4 ≤ L) (hL : L ≤ 2048) (hb1 : ∀ gc gm : Sg, Rel gc gm → JA p l e room_1 s m #[Value.ref b] below meth c D (fun a : Nat => s.heap.size ≤ a) 4 (lw_Z below #[Value.ref b] s) (cW q cI gc ++ mW qm cI gm) 68 1095 794 [(0, .ref b), (1, .ref (q 0)), (2, .ref (qm 0)), (3, .int (nI k))] []) (gc gm : Sg) (hR : Rel gc gm) : JA p l e room_1 s m #[Value.ref b] below meth c D (fun a : Nat => s.heap.size ≤ a) 4 (lw_Z below #[Value.ref b] s) (cW q cI gc ++ mW qm cI gm) 68 1095 607 [(0, .ref b), (1, .ref (q 0)), (2, .ref (qm 0)), (3, .int (nI k))] [] := by
  have hbA : ¬ (s.heap.size ≤ b) := Nat.not_le.mpr hbl
  have v1 : vp_in (nI k + 1) L := by rw [show (nI k + 1) = nI (k + 1) from nI_add k 1]; exact vp_in_nI (by omega) (by omega)
  have v2 : vp_in (nI k + 2) L := by rw [show (nI k + 2) = nI (k + 2) from nI_add k 2]; exact vp_in_nI (by omega) (by omega)
  obtain ⟨r, gc1, gm1, e1, e2, hR1⟩ := hA.2.2.2.2.2.2.2.2.2.2.2.2.2.2.2.2.2.2.2.1 gc gm (xs (ix (nI k + 1))) (xs (ix (nI k + 2))) hR
  refine JA.aload_n (pc := 607) C dL_law_607 rfl rfl ?_
  refine JA.aload_n (pc := 608) C dL_law_608 rfl rfl ?_
  refine JA.iload_n (pc := 609) C dL_law_609 rfl rfl ?_
  refine JA.iconst (pc := 610) C 1 dL_law_610 ic_1 ?_
  refine JA.iadd (pc := 611) C dL_law_611 ?_
  refine JA.sld (pc := 612) C hX hbl hbA v1 dL_law_612 ?_
  refine JA.aload_n (pc := 613) C dL_law_613 rfl rfl ?_
  refine JA.iload_n (pc := 614) C dL_law_614 rfl rfl ?_
  refine JA.iconst (pc := 615) C 2 dL_law_615 ic_2 ?_
  refine JA.iadd (pc := 616) C dL_law_616 ?_
  refine JA.sld (pc := 617) C hX hbl hbA v2 dL_law_617 ?_
  refine JA.callL (pc := 618) C (fun _ _ _ h => h.1) (EC_ok z) (av := [.int _, .int _]) (rest := []) (C_X6_whoHad e1) lk_X6_whoHad tm_L_92 (io_0 q cI) ⟨Nat.le_of_ble_eq_true rfl, Nat.le_of_ble_eq_true rfl⟩ ⟨Nat.le_of_ble_eq_true rfl, Nat.le_of_ble_eq_true rfl⟩ rfl rfl (Nat.le_of_ble_eq_true rfl) dL_law_618 ?_
  refine JA.aload_n (pc := 621) C dL_law_621 rfl rfl ?_
  refine JA.aload_n (pc := 622) C dL_law_622 rfl rfl ?_
  refine JA.iload_n (pc := 623) C dL_law_623 rfl rfl ?_
  refine JA.iconst (pc := 624) C 1 dL_law_624 ic_1 ?_
  refine JA.iadd (pc := 625) C dL_law_625 ?_
  refine JA.sld (pc := 626) C hX hbl hbA v1 dL_law_626 ?_
  refine JA.aload_n (pc := 627) C dL_law_627 rfl rfl ?_
  refine JA.iload_n (pc := 628) C dL_law_628 rfl rfl ?_
  refine JA.iconst (pc := 629) C 2 dL_law_629 ic_2 ?_
  refine JA.iadd (pc := 630) C dL_law_630 ?_
  refine JA.sld (pc := 631) C hX hbl hbA v2 dL_law_631 ?_
  refine JA.callR (pc := 632) C (fun _ _ _ h => h.2) (EM_ok zm) (av := [.int _, .int _]) (rest := [.int r]) (C_X7_whoHad e2) lk_X7_whoHad tm_L_95 (io_m qm cI) ⟨Nat.le_of_ble_eq_true rfl, Nat.le_of_ble_eq_true rfl⟩ ⟨Nat.le_of_ble_eq_true rfl, Nat.le_of_ble_eq_true rfl⟩ rfl rfl (Nat.le_of_ble_eq_true rfl) dL_law_632 ?_
  refine JA.icmp_eq (pc := 635) C 794 dL_law_635 (by decide) (fun _ => ?_) (fun hc => absurd rfl hc)
  exact hb1 gc1 gm1 hR1
set_option maxRecDepth 100000 in
set_option maxHeartbeats 4000000 in
theorem lw_case_leastOil {p : Program} {l : Launch} {e : Env} {s : State} {m : MethodId} {below : List Frame} {meth : Method} {c : Code} {D : va_G} {cI : ClassId} {b L : Nat} {xs : Nat → Int32} {z : Nat} {zm : Nat × Nat} {q qm : Nat → Nat} {Rel : Sg → Sg → Prop} (hA : AllAns Rel) (C : JC p s m #[Value.ref b] c code 4 RL D cI (fun a : Nat => s.heap.size ≤ a) (EL z zm)) (hX : va_X b L xs s s.heap) (hbl : b < s.heap.size) {k : Nat} (hk : k + 4 ≤ L) (hL : L ≤ 2048) (hb1 : ∀ gc gm : Sg, Rel gc gm → JA p l e room_1 s m #[Value.ref b] below meth c D (fun a : Nat => s.heap.size ≤ a) 4 (lw_Z below #[Value.ref b] s) (cW q cI gc ++ mW qm cI gm) 68 1095 794 [(0, .ref b), (1, .ref (q 0)), (2, .ref (qm 0)), (3, .int (nI k))] []) (gc gm : Sg) (hR : Rel gc gm) : JA p l e room_1 s m #[Value.ref b] below meth c D (fun a : Nat => s.heap.size ≤ a) 4 (lw_Z below #[Value.ref b] s) (cW q cI gc ++ mW qm cI gm) 68 1095 640 [(0, .ref b), (1, .ref (q 0)), (2, .ref (qm 0)), (3, .int (nI k))] [] := by
  have hbA : ¬ (s.heap.size ≤ b) := Nat.not_le.mpr hbl
  obtain ⟨r, gc1, gm1, e1, e2, hR1⟩ := hA.2.2.2.2.2.2.2.2.2.2.2.2.2.2.2.2.2.2.2.2.1 gc gm hR
  refine JA.aload_n (pc := 640) C dL_law_640 rfl rfl ?_
  refine JA.callL (pc := 641) C (fun _ _ _ h => h.1) (EC_ok z) (av := []) (rest := []) (C_X6_leastOil e1) lk_X6_leastOil tm_L_96 (io_0 q cI) ⟨Nat.le_of_ble_eq_true rfl, Nat.le_of_ble_eq_true rfl⟩ ⟨Nat.le_of_ble_eq_true rfl, Nat.le_of_ble_eq_true rfl⟩ rfl rfl (Nat.le_of_ble_eq_true rfl) dL_law_641 ?_
  refine JA.aload_n (pc := 644) C dL_law_644 rfl rfl ?_
  refine JA.callR (pc := 645) C (fun _ _ _ h => h.2) (EM_ok zm) (av := []) (rest := [.int r]) (C_X7_leastOil e2) lk_X7_leastOil tm_L_99 (io_m qm cI) ⟨Nat.le_of_ble_eq_true rfl, Nat.le_of_ble_eq_true rfl⟩ ⟨Nat.le_of_ble_eq_true rfl, Nat.le_of_ble_eq_true rfl⟩ rfl rfl (Nat.le_of_ble_eq_true rfl) dL_law_645 ?_
  refine JA.icmp_eq (pc := 648) C 794 dL_law_648 (by decide) (fun _ => ?_) (fun hc => absurd rfl hc)
  exact hb1 gc1 gm1 hR1
set_option maxRecDepth 100000 in
set_option maxHeartbeats 4000000 in
theorem lw_case_row {p : Program} {l : Launch} {e : Env} {s : State} {m : MethodId} {below : List Frame} {meth : Method} {c : Code} {D : va_G} {cI : ClassId} {b L : Nat} {xs : Nat → Int32} {z : Nat} {zm : Nat × Nat} {q qm : Nat → Nat} {Rel : Sg → Sg → Prop} (hA : AllAns Rel) (C : JC p s m #[Value.ref b] c code 4 RL D cI (fun a : Nat => s.heap.size ≤ a) (EL z zm)) (hX : va_X b L xs s s.heap) (hbl : b < s.heap.size) {k : Nat} (hk : k + 4 ≤ L) (hL : L ≤ 2048) (hb1 : ∀ gc gm : Sg, Rel gc gm → JA p l e room_1 s m #[Value.ref b] below meth c D (fun a : Nat => s.heap.size ≤ a) 4 (lw_Z below #[Value.ref b] s) (cW q cI gc ++ mW qm cI gm) 68 1095 794 [(0, .ref b), (1, .ref (q 0)), (2, .ref (qm 0)), (3, .int (nI k))] []) (gc gm : Sg) (hR : Rel gc gm) : JA p l e room_1 s m #[Value.ref b] below meth c D (fun a : Nat => s.heap.size ≤ a) 4 (lw_Z below #[Value.ref b] s) (cW q cI gc ++ mW qm cI gm) 68 1095 653 [(0, .ref b), (1, .ref (q 0)), (2, .ref (qm 0)), (3, .int (nI k))] [] := by
  have hbA : ¬ (s.heap.size ≤ b) := Nat.not_le.mpr hbl
  have v1 : vp_in (nI k + 1) L := by rw [show (nI k + 1) = nI (k + 1) from nI_add k 1]; exact vp_in_nI (by omega) (by omega)
  obtain ⟨r, gc1, gm1, e1, e2, hR1⟩ := hA.2.2.2.2.2.2.2.2.2.2.2.2.2.2.2.2.2.2.2.2.2.1 gc gm (xs (ix (nI k + 1))) hR
  refine JA.aload_n (pc := 653) C dL_law_653 rfl rfl ?_
  refine JA.aload_n (pc := 654) C dL_law_654 rfl rfl ?_
  refine JA.iload_n (pc := 655) C dL_law_655 rfl rfl ?_
  refine JA.iconst (pc := 656) C 1 dL_law_656 ic_1 ?_
  refine JA.iadd (pc := 657) C dL_law_657 ?_
  refine JA.sld (pc := 658) C hX hbl hbA v1 dL_law_658 ?_
  refine JA.callL (pc := 659) C (fun _ _ _ h => h.1) (EC_ok z) (av := [.int _]) (rest := []) (C_X6_row e1) lk_X6_row tm_L_100 (io_0 q cI) ⟨Nat.le_of_ble_eq_true rfl, Nat.le_of_ble_eq_true rfl⟩ ⟨Nat.le_of_ble_eq_true rfl, Nat.le_of_ble_eq_true rfl⟩ rfl rfl (Nat.le_of_ble_eq_true rfl) dL_law_659 ?_
  refine JA.aload_n (pc := 662) C dL_law_662 rfl rfl ?_
  refine JA.aload_n (pc := 663) C dL_law_663 rfl rfl ?_
  refine JA.iload_n (pc := 664) C dL_law_664 rfl rfl ?_
  refine JA.iconst (pc := 665) C 1 dL_law_665 ic_1 ?_
  refine JA.iadd (pc := 666) C dL_law_666 ?_
  refine JA.sld (pc := 667) C hX hbl hbA v1 dL_law_667 ?_
  refine JA.callR (pc := 668) C (fun _ _ _ h => h.2) (EM_ok zm) (av := [.int _]) (rest := [.int r]) (C_X7_row e2) lk_X7_row tm_L_103 (io_m qm cI) ⟨Nat.le_of_ble_eq_true rfl, Nat.le_of_ble_eq_true rfl⟩ ⟨Nat.le_of_ble_eq_true rfl, Nat.le_of_ble_eq_true rfl⟩ rfl rfl (Nat.le_of_ble_eq_true rfl) dL_law_668 ?_
  refine JA.icmp_eq (pc := 671) C 794 dL_law_671 (by decide) (fun _ => ?_) (fun hc => absurd rfl hc)
  exact hb1 gc1 gm1 hR1
set_option maxRecDepth 100000 in
set_option maxHeartbeats 4000000 in
theorem lw_case_judge {p : Program} {l : Launch} {e : Env} {s : State} {m : MethodId} {below : List Frame} {meth : Method} {c : Code} {D : va_G} {cI : ClassId} {b L : Nat} {xs : Nat → Int32} {z : Nat} {zm : Nat × Nat} {q qm : Nat → Nat} {Rel : Sg → Sg → Prop} (hA : AllAns Rel) (C : JC p s m #[Value.ref b] c code 4 RL D cI (fun a : Nat => s.heap.size ≤ a) (EL z zm)) (hX : va_X b L xs s s.heap) (hbl : b < s.heap.size) {k : Nat} (hk : k + 4 ≤ L) (hL : L ≤ 2048) (hb1 : ∀ gc gm : Sg, Rel gc gm → JA p l e room_1 s m #[Value.ref b] below meth c D (fun a : Nat => s.heap.size ≤ a) 4 (lw_Z below #[Value.ref b] s) (cW q cI gc ++ mW qm cI gm) 68 1095 794 [(0, .ref b), (1, .ref (q 0)), (2, .ref (qm 0)), (3, .int (nI k))] []) (gc gm : Sg) (hR : Rel gc gm) : JA p l e room_1 s m #[Value.ref b] below meth c D (fun a : Nat => s.heap.size ≤ a) 4 (lw_Z below #[Value.ref b] s) (cW q cI gc ++ mW qm cI gm) 68 1095 676 [(0, .ref b), (1, .ref (q 0)), (2, .ref (qm 0)), (3, .int (nI k))] [] := by
  have hbA : ¬ (s.heap.size ≤ b) := Nat.not_le.mpr hbl
  obtain ⟨r, gc1, gm1, e1, e2, hR1⟩ := hA.2.2.2.2.2.2.2.2.2.2.2.2.2.2.2.2.2.2.2.2.2.2.1 gc gm hR
  refine JA.aload_n (pc := 676) C dL_law_676 rfl rfl ?_
  refine JA.callL (pc := 677) C (fun _ _ _ h => h.1) (EC_ok z) (av := []) (rest := []) (C_X6_judge e1) lk_X6_judge tm_L_104 (io_0 q cI) ⟨Nat.le_of_ble_eq_true rfl, Nat.le_of_ble_eq_true rfl⟩ ⟨Nat.le_of_ble_eq_true rfl, Nat.le_of_ble_eq_true rfl⟩ rfl rfl (Nat.le_of_ble_eq_true rfl) dL_law_677 ?_
  refine JA.aload_n (pc := 680) C dL_law_680 rfl rfl ?_
  refine JA.callR (pc := 681) C (fun _ _ _ h => h.2) (EM_ok zm) (av := []) (rest := [.int r]) (C_X7_judge e2) lk_X7_judge tm_L_107 (io_m qm cI) ⟨Nat.le_of_ble_eq_true rfl, Nat.le_of_ble_eq_true rfl⟩ ⟨Nat.le_of_ble_eq_true rfl, Nat.le_of_ble_eq_true rfl⟩ rfl rfl (Nat.le_of_ble_eq_true rfl) dL_law_681 ?_
  refine JA.icmp_eq (pc := 684) C 794 dL_law_684 (by decide) (fun _ => ?_) (fun hc => absurd rfl hc)
  exact hb1 gc1 gm1 hR1
set_option maxRecDepth 100000 in
set_option maxHeartbeats 4000000 in
theorem lw_case_clear {p : Program} {l : Launch} {e : Env} {s : State} {m : MethodId} {below : List Frame} {meth : Method} {c : Code} {D : va_G} {cI : ClassId} {b L : Nat} {xs : Nat → Int32} {z : Nat} {zm : Nat × Nat} {q qm : Nat → Nat} {Rel : Sg → Sg → Prop} (hA : AllAns Rel) (C : JC p s m #[Value.ref b] c code 4 RL D cI (fun a : Nat => s.heap.size ≤ a) (EL z zm)) (hX : va_X b L xs s s.heap) (hbl : b < s.heap.size) {k : Nat} (hk : k + 4 ≤ L) (hL : L ≤ 2048) (hb1 : ∀ gc gm : Sg, Rel gc gm → JA p l e room_1 s m #[Value.ref b] below meth c D (fun a : Nat => s.heap.size ≤ a) 4 (lw_Z below #[Value.ref b] s) (cW q cI gc ++ mW qm cI gm) 68 1095 794 [(0, .ref b), (1, .ref (q 0)), (2, .ref (qm 0)), (3, .int (nI k))] []) (gc gm : Sg) (hR : Rel gc gm) : JA p l e room_1 s m #[Value.ref b] below meth c D (fun a : Nat => s.heap.size ≤ a) 4 (lw_Z below #[Value.ref b] s) (cW q cI gc ++ mW qm cI gm) 68 1095 689 [(0, .ref b), (1, .ref (q 0)), (2, .ref (qm 0)), (3, .int (nI k))] [] := by
  have hbA : ¬ (s.heap.size ≤ b) := Nat.not_le.mpr hbl
  obtain ⟨r, gc1, gm1, e1, e2, hR1⟩ := hA.2.2.2.2.2.2.2.2.2.2.2.2.2.2.2.2.2.2.2.2.2.2.2.1 gc gm hR
  refine JA.aload_n (pc := 689) C dL_law_689 rfl rfl ?_
  refine JA.callL (pc := 690) C (fun _ _ _ h => h.1) (EC_ok z) (av := []) (rest := []) (C_X6_clear e1) lk_X6_clear tm_L_108 (io_0 q cI) ⟨Nat.le_of_ble_eq_true rfl, Nat.le_of_ble_eq_true rfl⟩ ⟨Nat.le_of_ble_eq_true rfl, Nat.le_of_ble_eq_true rfl⟩ rfl rfl (Nat.le_of_ble_eq_true rfl) dL_law_690 ?_
  refine JA.aload_n (pc := 693) C dL_law_693 rfl rfl ?_
  refine JA.callR (pc := 694) C (fun _ _ _ h => h.2) (EM_ok zm) (av := []) (rest := [.int r]) (C_X7_clear e2) lk_X7_clear tm_L_111 (io_m qm cI) ⟨Nat.le_of_ble_eq_true rfl, Nat.le_of_ble_eq_true rfl⟩ ⟨Nat.le_of_ble_eq_true rfl, Nat.le_of_ble_eq_true rfl⟩ rfl rfl (Nat.le_of_ble_eq_true rfl) dL_law_694 ?_
  refine JA.icmp_eq (pc := 697) C 794 dL_law_697 (by decide) (fun _ => ?_) (fun hc => absurd rfl hc)
  exact hb1 gc1 gm1 hR1
set_option maxRecDepth 100000 in
set_option maxHeartbeats 4000000 in
theorem lw_case_lots {p : Program} {l : Launch} {e : Env} {s : State} {m : MethodId} {below : List Frame} {meth : Method} {c : Code} {D : va_G} {cI : ClassId} {b L : Nat} {xs : Nat → Int32} {z : Nat} {zm : Nat × Nat} {q qm : Nat → Nat} {Rel : Sg → Sg → Prop} (hA : AllAns Rel) (C : JC p s m #[Value.ref b] c code 4 RL D cI (fun a : Nat => s.heap.size ≤ a) (EL z zm)) (hX : va_X b L xs s s.heap) (hbl : b < s.heap.size) {k : Nat} (hk : k + 4 ≤ L) (hL : L ≤ 2048) (hb1 : ∀ gc gm : Sg, Rel gc gm → JA p l e room_1 s m #[Value.ref b] below meth c D (fun a : Nat => s.heap.size ≤ a) 4 (lw_Z below #[Value.ref b] s) (cW q cI gc ++ mW qm cI gm) 68 1095 794 [(0, .ref b), (1, .ref (q 0)), (2, .ref (qm 0)), (3, .int (nI k))] []) (gc gm : Sg) (hR : Rel gc gm) : JA p l e room_1 s m #[Value.ref b] below meth c D (fun a : Nat => s.heap.size ≤ a) 4 (lw_Z below #[Value.ref b] s) (cW q cI gc ++ mW qm cI gm) 68 1095 702 [(0, .ref b), (1, .ref (q 0)), (2, .ref (qm 0)), (3, .int (nI k))] [] := by
  have hbA : ¬ (s.heap.size ≤ b) := Nat.not_le.mpr hbl
  have v1 : vp_in (nI k + 1) L := by rw [show (nI k + 1) = nI (k + 1) from nI_add k 1]; exact vp_in_nI (by omega) (by omega)
  have v2 : vp_in (nI k + 2) L := by rw [show (nI k + 2) = nI (k + 2) from nI_add k 2]; exact vp_in_nI (by omega) (by omega)
  have v3 : vp_in (nI k + 3) L := by rw [show (nI k + 3) = nI (k + 3) from nI_add k 3]; exact vp_in_nI (by omega) (by omega)
  obtain ⟨r, gc1, gm1, e1, e2, hR1⟩ := hA.2.2.2.2.2.2.2.2.2.2.2.2.2.2.2.2.2.2.2.2.2.2.2.2.1 gc gm (xs (ix (nI k + 1))) (xs (ix (nI k + 2))) (xs (ix (nI k + 3))) hR
  refine JA.aload_n (pc := 702) C dL_law_702 rfl rfl ?_
  refine JA.aload_n (pc := 703) C dL_law_703 rfl rfl ?_
  refine JA.iload_n (pc := 704) C dL_law_704 rfl rfl ?_
  refine JA.iconst (pc := 705) C 1 dL_law_705 ic_1 ?_
  refine JA.iadd (pc := 706) C dL_law_706 ?_
  refine JA.sld (pc := 707) C hX hbl hbA v1 dL_law_707 ?_
  refine JA.aload_n (pc := 708) C dL_law_708 rfl rfl ?_
  refine JA.iload_n (pc := 709) C dL_law_709 rfl rfl ?_
  refine JA.iconst (pc := 710) C 2 dL_law_710 ic_2 ?_
  refine JA.iadd (pc := 711) C dL_law_711 ?_
  refine JA.sld (pc := 712) C hX hbl hbA v2 dL_law_712 ?_
  refine JA.aload_n (pc := 713) C dL_law_713 rfl rfl ?_
  refine JA.iload_n (pc := 714) C dL_law_714 rfl rfl ?_
  refine JA.iconst (pc := 715) C 3 dL_law_715 ic_3 ?_
  refine JA.iadd (pc := 716) C dL_law_716 ?_
  refine JA.sld (pc := 717) C hX hbl hbA v3 dL_law_717 ?_
  refine JA.callL (pc := 718) C (fun _ _ _ h => h.1) (EC_ok z) (av := [.int _, .int _, .int _]) (rest := []) (C_X6_lots e1) lk_X6_lots tm_L_112 (io_0 q cI) ⟨Nat.le_of_ble_eq_true rfl, Nat.le_of_ble_eq_true rfl⟩ ⟨Nat.le_of_ble_eq_true rfl, Nat.le_of_ble_eq_true rfl⟩ rfl rfl (Nat.le_of_ble_eq_true rfl) dL_law_718 ?_
  refine JA.aload_n (pc := 721) C dL_law_721 rfl rfl ?_
  refine JA.aload_n (pc := 722) C dL_law_722 rfl rfl ?_
  refine JA.iload_n (pc := 723) C dL_law_723 rfl rfl ?_
  refine JA.iconst (pc := 724) C 1 dL_law_724 ic_1 ?_
  refine JA.iadd (pc := 725) C dL_law_725 ?_
  refine JA.sld (pc := 726) C hX hbl hbA v1 dL_law_726 ?_
  refine JA.aload_n (pc := 727) C dL_law_727 rfl rfl ?_
  refine JA.iload_n (pc := 728) C dL_law_728 rfl rfl ?_
  refine JA.iconst (pc := 729) C 2 dL_law_729 ic_2 ?_
  refine JA.iadd (pc := 730) C dL_law_730 ?_
  refine JA.sld (pc := 731) C hX hbl hbA v2 dL_law_731 ?_
  refine JA.aload_n (pc := 732) C dL_law_732 rfl rfl ?_
  refine JA.iload_n (pc := 733) C dL_law_733 rfl rfl ?_
  refine JA.iconst (pc := 734) C 3 dL_law_734 ic_3 ?_
  refine JA.iadd (pc := 735) C dL_law_735 ?_
  refine JA.sld (pc := 736) C hX hbl hbA v3 dL_law_736 ?_
  refine JA.callR (pc := 737) C (fun _ _ _ h => h.2) (EM_ok zm) (av := [.int _, .int _, .int _]) (rest := [.int r]) (C_X7_lots e2) lk_X7_lots tm_L_116 (io_m qm cI) ⟨Nat.le_of_ble_eq_true rfl, Nat.le_of_ble_eq_true rfl⟩ ⟨Nat.le_of_ble_eq_true rfl, Nat.le_of_ble_eq_true rfl⟩ rfl rfl (Nat.le_of_ble_eq_true rfl) dL_law_737 ?_
  refine JA.icmp_eq (pc := 740) C 794 dL_law_740 (by decide) (fun _ => ?_) (fun hc => absurd rfl hc)
  exact hb1 gc1 gm1 hR1
set_option maxRecDepth 100000 in
set_option maxHeartbeats 4000000 in
theorem lw_case_image {p : Program} {l : Launch} {e : Env} {s : State} {m : MethodId} {below : List Frame} {meth : Method} {c : Code} {D : va_G} {cI : ClassId} {b L : Nat} {xs : Nat → Int32} {z : Nat} {zm : Nat × Nat} {q qm : Nat → Nat} {Rel : Sg → Sg → Prop} (hA : AllAns Rel) (C : JC p s m #[Value.ref b] c code 4 RL D cI (fun a : Nat => s.heap.size ≤ a) (EL z zm)) (hX : va_X b L xs s s.heap) (hbl : b < s.heap.size) {k : Nat} (hk : k + 4 ≤ L) (hL : L ≤ 2048) (hb1 : ∀ gc gm : Sg, Rel gc gm → JA p l e room_1 s m #[Value.ref b] below meth c D (fun a : Nat => s.heap.size ≤ a) 4 (lw_Z below #[Value.ref b] s) (cW q cI gc ++ mW qm cI gm) 68 1095 794 [(0, .ref b), (1, .ref (q 0)), (2, .ref (qm 0)), (3, .int (nI k))] []) (gc gm : Sg) (hR : Rel gc gm) : JA p l e room_1 s m #[Value.ref b] below meth c D (fun a : Nat => s.heap.size ≤ a) 4 (lw_Z below #[Value.ref b] s) (cW q cI gc ++ mW qm cI gm) 68 1095 745 [(0, .ref b), (1, .ref (q 0)), (2, .ref (qm 0)), (3, .int (nI k))] [] := by
  have hbA : ¬ (s.heap.size ≤ b) := Nat.not_le.mpr hbl
  obtain ⟨r, gc1, gm1, e1, e2, hR1⟩ := hA.2.2.2.2.2.2.2.2.2.2.2.2.2.2.2.2.2.2.2.2.2.2.2.2.2.1 gc gm hR
  refine JA.aload_n (pc := 745) C dL_law_745 rfl rfl ?_
  refine JA.callL (pc := 746) C (fun _ _ _ h => h.1) (EC_ok z) (av := []) (rest := []) (C_X6_image e1) lk_X6_image tm_L_117 (io_0 q cI) ⟨Nat.le_of_ble_eq_true rfl, Nat.le_of_ble_eq_true rfl⟩ ⟨Nat.le_of_ble_eq_true rfl, Nat.le_of_ble_eq_true rfl⟩ rfl rfl (Nat.le_of_ble_eq_true rfl) dL_law_746 ?_
  refine JA.aload_n (pc := 749) C dL_law_749 rfl rfl ?_
  refine JA.callR (pc := 750) C (fun _ _ _ h => h.2) (EM_ok zm) (av := []) (rest := [.int r]) (C_X7_image e2) lk_X7_image tm_L_120 (io_m qm cI) ⟨Nat.le_of_ble_eq_true rfl, Nat.le_of_ble_eq_true rfl⟩ ⟨Nat.le_of_ble_eq_true rfl, Nat.le_of_ble_eq_true rfl⟩ rfl rfl (Nat.le_of_ble_eq_true rfl) dL_law_750 ?_
  refine JA.icmp_eq (pc := 753) C 794 dL_law_753 (by decide) (fun _ => ?_) (fun hc => absurd rfl hc)
  exact hb1 gc1 gm1 hR1
set_option maxRecDepth 100000 in
set_option maxHeartbeats 4000000 in
theorem lw_case_on {p : Program} {l : Launch} {e : Env} {s : State} {m : MethodId} {below : List Frame} {meth : Method} {c : Code} {D : va_G} {cI : ClassId} {b L : Nat} {xs : Nat → Int32} {z : Nat} {zm : Nat × Nat} {q qm : Nat → Nat} {Rel : Sg → Sg → Prop} (hA : AllAns Rel) (C : JC p s m #[Value.ref b] c code 4 RL D cI (fun a : Nat => s.heap.size ≤ a) (EL z zm)) (hX : va_X b L xs s s.heap) (hbl : b < s.heap.size) {k : Nat} (hk : k + 4 ≤ L) (hL : L ≤ 2048) (hb1 : ∀ gc gm : Sg, Rel gc gm → JA p l e room_1 s m #[Value.ref b] below meth c D (fun a : Nat => s.heap.size ≤ a) 4 (lw_Z below #[Value.ref b] s) (cW q cI gc ++ mW qm cI gm) 68 1095 794 [(0, .ref b), (1, .ref (q 0)), (2, .ref (qm 0)), (3, .int (nI k))] []) (gc gm : Sg) (hR : Rel gc gm) : JA p l e room_1 s m #[Value.ref b] below meth c D (fun a : Nat => s.heap.size ≤ a) 4 (lw_Z below #[Value.ref b] s) (cW q cI gc ++ mW qm cI gm) 68 1095 758 [(0, .ref b), (1, .ref (q 0)), (2, .ref (qm 0)), (3, .int (nI k))] [] := by
  have hbA : ¬ (s.heap.size ≤ b) := Nat.not_le.mpr hbl
  obtain ⟨r, gc1, gm1, e1, e2, hR1⟩ := hA.2.2.2.2.2.2.2.2.2.2.2.2.2.2.2.2.2.2.2.2.2.2.2.2.2.2.1 gc gm hR
  refine JA.aload_n (pc := 758) C dL_law_758 rfl rfl ?_
  refine JA.callL (pc := 759) C (fun _ _ _ h => h.1) (EC_ok z) (av := []) (rest := []) (C_X6_on e1) lk_X6_on tm_L_121 (io_0 q cI) ⟨Nat.le_of_ble_eq_true rfl, Nat.le_of_ble_eq_true rfl⟩ ⟨Nat.le_of_ble_eq_true rfl, Nat.le_of_ble_eq_true rfl⟩ rfl rfl (Nat.le_of_ble_eq_true rfl) dL_law_759 ?_
  refine JA.aload_n (pc := 762) C dL_law_762 rfl rfl ?_
  refine JA.callR (pc := 763) C (fun _ _ _ h => h.2) (EM_ok zm) (av := []) (rest := [.int r]) (C_X7_on e2) lk_X7_on tm_L_124 (io_m qm cI) ⟨Nat.le_of_ble_eq_true rfl, Nat.le_of_ble_eq_true rfl⟩ ⟨Nat.le_of_ble_eq_true rfl, Nat.le_of_ble_eq_true rfl⟩ rfl rfl (Nat.le_of_ble_eq_true rfl) dL_law_763 ?_
  refine JA.icmp_eq (pc := 766) C 794 dL_law_766 (by decide) (fun _ => ?_) (fun hc => absurd rfl hc)
  exact hb1 gc1 gm1 hR1
set_option maxRecDepth 100000 in
set_option maxHeartbeats 4000000 in
theorem lw_case_count {p : Program} {l : Launch} {e : Env} {s : State} {m : MethodId} {below : List Frame} {meth : Method} {c : Code} {D : va_G} {cI : ClassId} {b L : Nat} {xs : Nat → Int32} {z : Nat} {zm : Nat × Nat} {q qm : Nat → Nat} {Rel : Sg → Sg → Prop} (hA : AllAns Rel) (C : JC p s m #[Value.ref b] c code 4 RL D cI (fun a : Nat => s.heap.size ≤ a) (EL z zm)) (hX : va_X b L xs s s.heap) (hbl : b < s.heap.size) {k : Nat} (hk : k + 4 ≤ L) (hL : L ≤ 2048) (hb1 : ∀ gc gm : Sg, Rel gc gm → JA p l e room_1 s m #[Value.ref b] below meth c D (fun a : Nat => s.heap.size ≤ a) 4 (lw_Z below #[Value.ref b] s) (cW q cI gc ++ mW qm cI gm) 68 1095 794 [(0, .ref b), (1, .ref (q 0)), (2, .ref (qm 0)), (3, .int (nI k))] []) (gc gm : Sg) (hR : Rel gc gm) : JA p l e room_1 s m #[Value.ref b] below meth c D (fun a : Nat => s.heap.size ≤ a) 4 (lw_Z below #[Value.ref b] s) (cW q cI gc ++ mW qm cI gm) 68 1095 771 [(0, .ref b), (1, .ref (q 0)), (2, .ref (qm 0)), (3, .int (nI k))] [] := by
  have hbA : ¬ (s.heap.size ≤ b) := Nat.not_le.mpr hbl
  have v1 : vp_in (nI k + 1) L := by rw [show (nI k + 1) = nI (k + 1) from nI_add k 1]; exact vp_in_nI (by omega) (by omega)
  obtain ⟨r, gc1, gm1, e1, e2, hR1⟩ := hA.2.2.2.2.2.2.2.2.2.2.2.2.2.2.2.2.2.2.2.2.2.2.2.2.2.2.2 gc gm (xs (ix (nI k + 1))) hR
  refine JA.aload_n (pc := 771) C dL_law_771 rfl rfl ?_
  refine JA.aload_n (pc := 772) C dL_law_772 rfl rfl ?_
  refine JA.iload_n (pc := 773) C dL_law_773 rfl rfl ?_
  refine JA.iconst (pc := 774) C 1 dL_law_774 ic_1 ?_
  refine JA.iadd (pc := 775) C dL_law_775 ?_
  refine JA.sld (pc := 776) C hX hbl hbA v1 dL_law_776 ?_
  refine JA.callL (pc := 777) C (fun _ _ _ h => h.1) (EC_ok z) (av := [.int _]) (rest := []) (C_X6_count e1) lk_X6_count tm_L_125 (io_0 q cI) ⟨Nat.le_of_ble_eq_true rfl, Nat.le_of_ble_eq_true rfl⟩ ⟨Nat.le_of_ble_eq_true rfl, Nat.le_of_ble_eq_true rfl⟩ rfl rfl (Nat.le_of_ble_eq_true rfl) dL_law_777 ?_
  refine JA.aload_n (pc := 780) C dL_law_780 rfl rfl ?_
  refine JA.aload_n (pc := 781) C dL_law_781 rfl rfl ?_
  refine JA.iload_n (pc := 782) C dL_law_782 rfl rfl ?_
  refine JA.iconst (pc := 783) C 1 dL_law_783 ic_1 ?_
  refine JA.iadd (pc := 784) C dL_law_784 ?_
  refine JA.sld (pc := 785) C hX hbl hbA v1 dL_law_785 ?_
  refine JA.callR (pc := 786) C (fun _ _ _ h => h.2) (EM_ok zm) (av := [.int _]) (rest := [.int r]) (C_X7_count e2) lk_X7_count tm_L_128 (io_m qm cI) ⟨Nat.le_of_ble_eq_true rfl, Nat.le_of_ble_eq_true rfl⟩ ⟨Nat.le_of_ble_eq_true rfl, Nat.le_of_ble_eq_true rfl⟩ rfl rfl (Nat.le_of_ble_eq_true rfl) dL_law_786 ?_
  refine JA.icmp_eq (pc := 789) C 794 dL_law_789 (by decide) (fun _ => ?_) (fun hc => absurd rfl hc)
  exact hb1 gc1 gm1 hR1
set_option maxRecDepth 100000 in
set_option maxHeartbeats 4000000 in
theorem lw_loop {p : Program} {l : Launch} {e : Env} {s : State} {m : MethodId} {below : List Frame} {meth : Method} {c : Code} {D : va_G} {cI : ClassId} {b L : Nat} {xs : Nat → Int32} {z : Nat} {zm : Nat × Nat} {q qm : Nat → Nat} {Rel : Sg → Sg → Prop} (hA : AllAns Rel) (C : JC p s m #[Value.ref b] c code 4 RL D cI (fun a : Nat => s.heap.size ≤ a) (EL z zm)) (hr : meth.sig.returnType = ret) (hlocks : meth.locks = false) (hX : va_X b L xs s s.heap) (hbl : b < s.heap.size) (hL : L ≤ 2048) : ∀ (n k : Nat), k ≤ L + 4 → L + 8 ≤ k + n → ∀ gc gm : Sg, Rel gc gm → JA p l e room_1 s m #[Value.ref b] below meth c D (fun a : Nat => s.heap.size ≤ a) 4 (lw_Z below #[Value.ref b] s) (cW q cI gc ++ mW qm cI gm) 68 1095 18 [(0, .ref b), (1, .ref (q 0)), (2, .ref (qm 0)), (3, .int (nI k))] [] := by
  have hbA : ¬ (s.heap.size ≤ b) := Nat.not_le.mpr hbl
  intro n
  induction n with
  | zero => intro k h1 h2; exact absurd h2 (by omega)
  | succ n ih =>
    intro k h1 h2 gc gm hR
    refine JA.iload_n (pc := 18) C dL_law_18 rfl rfl ?_
    refine JA.aload_n (pc := 19) C dL_law_19 rfl rfl ?_
    refine JA.slen (pc := 20) C hX hbl hbA dL_law_20 ?_
    refine JA.iconst (pc := 21) C 4 dL_law_21 ic_4 ?_
    refine JA.isub (pc := 22) C dL_law_22 ?_
    have e4 : nI L - 4 = Int32.ofInt ((L : Int) - 4) := by
      rw [show (4 : Int32) = nI 4 from rfl]
      apply Int32.toInt_inj.mp
      rw [pk_sub_toInt (by omega) (by omega), Int32.toInt_ofInt]
      show _ = ((L : Int) - 4).bmod (2 ^ 32)
      rw [Int.bmod_eq_of_le (by omega) (by omega)]
      omega
    have e5 : (Int32.ofInt ((L : Int) - 4)).toInt = (L : Int) - 4 := by
      rw [Int32.toInt_ofInt]
      show ((L : Int) - 4).bmod (2 ^ 32) = _
      exact Int.bmod_eq_of_le (by omega) (by omega)
    rw [e4]
    refine JA.icmp_gt (pc := 23) C 800 dL_law_23 (by decide) (fun hc => ?_) (fun hc => ?_)
    · refine JA.iconst (pc := 800) C 1 dL_law_800 ic_1 ?_
      intro H locs ls hP hD hS hl
      exact va_forget (fun q hq => hS.2.2 q hq) (lw_ret C.1 C.2.1 hr hlocks dL_law_801)
    · have hk : k + 4 ≤ L := by
        rw [Int32.lt_iff_toInt_lt, e5, nI_toInt (by omega)] at hc
        omega
      have hb1 : ∀ gc gm : Sg, Rel gc gm → JA p l e room_1 s m #[Value.ref b] below meth c D (fun a : Nat => s.heap.size ≤ a) 4 (lw_Z below #[Value.ref b] s) (cW q cI gc ++ mW qm cI gm) 68 1095 794 [(0, .ref b), (1, .ref (q 0)), (2, .ref (qm 0)), (3, .int (nI k))] [] := by
        intro gc gm hR
        refine JA.iinc (pc := 794) C 4 dL_law_794 ic_4 rfl (by decide) ?_
        refine JA.goto (pc := 797) C 18 dL_law_797 (by decide) ?_
        rw [show nI k + 4 = nI (k + 4) from nI_add k 4]
        refine JA.sub C [0, 1, 2, 3] rfl ?_
        exact ih (k + 4) (by omega) (by omega) gc gm hR
      have v0 : vp_in (nI k) L := vp_in_nI (by omega) (by omega)
      refine JA.aload_n (pc := 26) C dL_law_26 rfl rfl ?_
      refine JA.iload_n (pc := 27) C dL_law_27 rfl rfl ?_
      refine JA.sld (pc := 28) C hX hbl hbA v0 dL_law_28 ?_
      refine JA.bipush (pc := 29) C 31 dL_law_29 bp_31 ?_
      refine JA.iand (pc := 31) C dL_law_31 ?_
      generalize xs (ix (nI k)) &&& 31 = v
      by_cases h0 : v = 0
      · refine JA.tabIn (pc := 32) C 0 160 dL_law_32 h0 (by decide) (by decide) rfl (by decide) ?_
        exact lw_case_letter hA C hX hbl hk hL hb1 gc gm hR
      by_cases h1 : v = 1
      · refine JA.tabIn (pc := 32) C 1 183 dL_law_32 h1 (by decide) (by decide) rfl (by decide) ?_
        exact lw_case_night hA C hX hbl hk hL hb1 gc gm hR
      by_cases h2 : v = 2
      · refine JA.tabIn (pc := 32) C 2 196 dL_law_32 h2 (by decide) (by decide) rfl (by decide) ?_
        exact lw_case_goer hA C hX hbl hk hL hb1 gc gm hR
      by_cases h3 : v = 3
      · refine JA.tabIn (pc := 32) C 3 229 dL_law_32 h3 (by decide) (by decide) rfl (by decide) ?_
        exact lw_case_hour hA C hX hbl hk hL hb1 gc gm hR
      by_cases h4 : v = 4
      · refine JA.tabIn (pc := 32) C 4 262 dL_law_32 h4 (by decide) (by decide) rfl (by decide) ?_
        exact lw_case_set hA C hX hbl hk hL hb1 gc gm hR
      by_cases h5 : v = 5
      · refine JA.tabIn (pc := 32) C 5 295 dL_law_32 h5 (by decide) (by decide) rfl (by decide) ?_
        exact lw_case_sums hA C hX hbl hk hL hb1 gc gm hR
      by_cases h6 : v = 6
      · refine JA.tabIn (pc := 32) C 6 318 dL_law_32 h6 (by decide) (by decide) rfl (by decide) ?_
        exact lw_case_of hA C hX hbl hk hL hb1 gc gm hR
      by_cases h7 : v = 7
      · refine JA.tabIn (pc := 32) C 7 351 dL_law_32 h7 (by decide) (by decide) rfl (by decide) ?_
        exact lw_case_lamp hA C hX hbl hk hL hb1 gc gm hR
      by_cases h8 : v = 8
      · refine JA.tabIn (pc := 32) C 8 374 dL_law_32 h8 (by decide) (by decide) rfl (by decide) ?_
        exact lw_case_best hA C hX hbl hk hL hb1 gc gm hR
      by_cases h9 : v = 9
      · refine JA.tabIn (pc := 32) C 9 407 dL_law_32 h9 (by decide) (by decide) rfl (by decide) ?_
        exact lw_case_bestPump hA C hX hbl hk hL hb1 gc gm hR
      by_cases h10 : v = 10
      · refine JA.tabIn (pc := 32) C 10 420 dL_law_32 h10 (by decide) (by decide) rfl (by decide) ?_
        exact lw_case_bestHour hA C hX hbl hk hL hb1 gc gm hR
      by_cases h11 : v = 11
      · refine JA.tabIn (pc := 32) C 11 443 dL_law_32 h11 (by decide) (by decide) rfl (by decide) ?_
        exact lw_case_without hA C hX hbl hk hL hb1 gc gm hR
      by_cases h12 : v = 12
      · refine JA.tabIn (pc := 32) C 12 466 dL_law_32 h12 (by decide) (by decide) rfl (by decide) ?_
        exact lw_case_second hA C hX hbl hk hL hb1 gc gm hR
      by_cases h13 : v = 13
      · refine JA.tabIn (pc := 32) C 13 489 dL_law_32 h13 (by decide) (by decide) rfl (by decide) ?_
        exact lw_case_bestSecond hA C hX hbl hk hL hb1 gc gm hR
      by_cases h14 : v = 14
      · refine JA.tabIn (pc := 32) C 14 502 dL_law_32 h14 (by decide) (by decide) rfl (by decide) ?_
        exact lw_case_net hA C hX hbl hk hL hb1 gc gm hR
      by_cases h15 : v = 15
      · refine JA.tabIn (pc := 32) C 15 525 dL_law_32 h15 (by decide) (by decide) rfl (by decide) ?_
        exact lw_case_payments hA C hX hbl hk hL hb1 gc gm hR
      by_cases h16 : v = 16
      · refine JA.tabIn (pc := 32) C 16 538 dL_law_32 h16 (by decide) (by decide) rfl (by decide) ?_
        exact lw_case_near hA C hX hbl hk hL hb1 gc gm hR
      by_cases h17 : v = 17
      · refine JA.tabIn (pc := 32) C 17 571 dL_law_32 h17 (by decide) (by decide) rfl (by decide) ?_
        exact lw_case_midwife hA C hX hbl hk hL hb1 gc gm hR
      by_cases h18 : v = 18
      · refine JA.tabIn (pc := 32) C 18 594 dL_law_32 h18 (by decide) (by decide) rfl (by decide) ?_
        exact lw_case_watch hA C hX hbl hk hL hb1 gc gm hR
      by_cases h19 : v = 19
      · refine JA.tabIn (pc := 32) C 19 607 dL_law_32 h19 (by decide) (by decide) rfl (by decide) ?_
        exact lw_case_whoHad hA C hX hbl hk hL hb1 gc gm hR
      by_cases h20 : v = 20
      · refine JA.tabIn (pc := 32) C 20 640 dL_law_32 h20 (by decide) (by decide) rfl (by decide) ?_
        exact lw_case_leastOil hA C hX hbl hk hL hb1 gc gm hR
      by_cases h21 : v = 21
      · refine JA.tabIn (pc := 32) C 21 653 dL_law_32 h21 (by decide) (by decide) rfl (by decide) ?_
        exact lw_case_row hA C hX hbl hk hL hb1 gc gm hR
      by_cases h22 : v = 22
      · refine JA.tabIn (pc := 32) C 22 676 dL_law_32 h22 (by decide) (by decide) rfl (by decide) ?_
        exact lw_case_judge hA C hX hbl hk hL hb1 gc gm hR
      by_cases h23 : v = 23
      · refine JA.tabIn (pc := 32) C 23 689 dL_law_32 h23 (by decide) (by decide) rfl (by decide) ?_
        exact lw_case_clear hA C hX hbl hk hL hb1 gc gm hR
      by_cases h24 : v = 24
      · refine JA.tabIn (pc := 32) C 24 702 dL_law_32 h24 (by decide) (by decide) rfl (by decide) ?_
        exact lw_case_lots hA C hX hbl hk hL hb1 gc gm hR
      by_cases h25 : v = 25
      · refine JA.tabIn (pc := 32) C 25 745 dL_law_32 h25 (by decide) (by decide) rfl (by decide) ?_
        exact lw_case_image hA C hX hbl hk hL hb1 gc gm hR
      by_cases h26 : v = 26
      · refine JA.tabIn (pc := 32) C 26 758 dL_law_32 h26 (by decide) (by decide) rfl (by decide) ?_
        exact lw_case_on hA C hX hbl hk hL hb1 gc gm hR
      by_cases h27 : v = 27
      · refine JA.tabIn (pc := 32) C 27 771 dL_law_32 h27 (by decide) (by decide) rfl (by decide) ?_
        exact lw_case_count hA C hX hbl hk hL hb1 gc gm hR
      refine JA.tabOut (pc := 32) C 794 dL_law_32 (by have c0 := i_ne 0 rfl h0; have c1 := i_ne 1 rfl h1; have c2 := i_ne 2 rfl h2; have c3 := i_ne 3 rfl h3; have c4 := i_ne 4 rfl h4; have c5 := i_ne 5 rfl h5; have c6 := i_ne 6 rfl h6; have c7 := i_ne 7 rfl h7; have c8 := i_ne 8 rfl h8; have c9 := i_ne 9 rfl h9; have c10 := i_ne 10 rfl h10; have c11 := i_ne 11 rfl h11; have c12 := i_ne 12 rfl h12; have c13 := i_ne 13 rfl h13; have c14 := i_ne 14 rfl h14; have c15 := i_ne 15 rfl h15; have c16 := i_ne 16 rfl h16; have c17 := i_ne 17 rfl h17; have c18 := i_ne 18 rfl h18; have c19 := i_ne 19 rfl h19; have c20 := i_ne 20 rfl h20; have c21 := i_ne 21 rfl h21; have c22 := i_ne 22 rfl h22; have c23 := i_ne 23 rfl h23; have c24 := i_ne 24 rfl h24; have c25 := i_ne 25 rfl h25; have c26 := i_ne 26 rfl h26; have c27 := i_ne 27 rfl h27; omega) (by decide) ?_
      exact hb1 gc gm hR
def set0 : Nat → Int32 := upd (upd (upd (fun _ => 0) 0 20) 1 100) 2 3
def gc0 : Sg := (fun k => if k = 4 ∨ k = 11 ∨ k = 18 then -1 else 0, fun k => if k = 4 ∨ k = 11 ∨ k = 18 then set0 else fun _ => 0)
def gm0 : Sg := (fun _ => 0, fun k => if k = 6 then set0 else fun _ => 0)
set_option maxRecDepth 100000 in
set_option maxHeartbeats 4000000 in
theorem whole_of {Rel : Sg → Sg → Prop} (hAll : AllAns Rel) (h0 : Rel gc0 gm0) {p : Program} {e : Env} {s : State} {m : MethodId} {below : List Frame} {meth : Method} {c : Code} (l : Launch) (hflags : l.flags = flags0) {b L : Nat} {xs : Nat → Int32} (hL : L ≤ 2048) (C0 : lw_At p s m meth c b L xs) : W p l e room_1 s m #[Value.ref b] below meth c s.heap [] 0 0 (lw_Z below #[Value.ref b] s) (entryFrame m ([Value.ref b] : List Value).toArray 4) := by
  obtain ⟨hx, hb, hr, hml, hown, hts, hX, hbl, hlocks, hgv⟩ := id C0
  have htB := TB_of hts
  have hs := flat_of_before _ hgv
  have hnA : ∀ a : Nat, a < s.heap.size → ¬ (fun a : Nat => s.heap.size ≤ a) a := fun a h => Nat.not_le.mpr h
  obtain ⟨cI, kA, comp, hcI, hkA, hkind⟩ := Cond.arrayClass_spec (htB _ t_arr)
  obtain ⟨cX0, iSX0, hKnX0⟩ := u_known (C := RX0) (T := TX0) (N := 8) (n := 8) htB in_X0 (htB _ ti_X0)
  obtain ⟨cX1, iSX1, hKnX1⟩ := u_known (C := RX1) (T := TX1) (N := 3) (n := 3) htB in_X1 (htB _ ti_X1)
  obtain ⟨cX2, iSX2, hKnX2⟩ := u_known (C := RX2) (T := TX2) (N := 2) (n := 2) htB in_X2 (htB _ ti_X2)
  obtain ⟨cX3, iSX3, hKnX3⟩ := u_known (C := RX3) (T := TX3) (N := 4) (n := 4) htB in_X3 (htB _ ti_X3)
  obtain ⟨cX5, iSX5, hKnX5⟩ := u_known (C := RX5) (T := TX5) (N := 17) (n := 17) htB in_X5 (htB _ ti_X5)
  obtain ⟨cX6, iSX6, hKnX6⟩ := u_known (C := RX6) (T := TX6) (N := 11) (n := 11) htB in_X6 (htB _ ti_X6)
  obtain ⟨cX7, iSX7, hKnX7⟩ := u_known (C := RX7) (T := TX7) (N := 31) (n := 31) htB in_X7 (htB _ ti_X7)
  obtain ⟨D, hK⟩ : ∃ D : va_G, va_K D CL [(cI, .int)] s := by
    refine ⟨(fun k => match k with | 0 => cX0 | 1 => cX1 | 2 => cX2 | 3 => cX3 | 4 => cX5 | 5 => cX6 | _ => cX7, fun k => match k with | 0 => iSX0 | 1 => iSX1 | 2 => iSX2 | 3 => iSX3 | 4 => iSX5 | 5 => iSX6 | _ => iSX7), ?_, ?_⟩
    · intro k qq hq
      match k, hq with
      | 0, hq => cases hq; exact hKnX0
      | 1, hq => cases hq; exact hKnX1
      | 2, hq => cases hq; exact hKnX2
      | 3, hq => cases hq; exact hKnX3
      | 4, hq => cases hq; exact hKnX5
      | 5, hq => cases hq; exact hKnX6
      | 6, hq => cases hq; exact hKnX7
      | k + 7, hq => simp [CL] at hq
    · intro k qq hq
      match k, hq with
      | 0, hq => cases hq; exact ⟨fun n z => ⟨fun k h => (by cases h), kA, hkA, comp, hkind⟩, hcI⟩
      | k + 1, hq => simp at hq
  obtain ⟨z, hz1, hz2⟩ := va_Tof (tm := .static "LightAsFarAsThePump$Alley" "GREATEST_SETTING" "[I") (ty := .int) (N := 3) (f := fun j => .int (gset j)) (A := fun a : Nat => s.heap.size ≤ a) (by decide) (hs _ (by decide +kernel)) (va_eqt (hs (Cond.eq (.length (.static "LightAsFarAsThePump$Alley" "GREATEST_SETTING" "[I")) (.int 3)) (by decide +kernel))) (fun j hj => by
    rcases (show j = 0 ∨ j = 1 ∨ j = 2 by omega) with rfl | rfl | rfl
    · exact va_eqt (hs (Cond.eq (.elem (.static "LightAsFarAsThePump$Alley" "GREATEST_SETTING" "[I") (.int 0)) (.int 39)) (by decide +kernel))
    · exact va_eqt (hs (Cond.eq (.elem (.static "LightAsFarAsThePump$Alley" "GREATEST_SETTING" "[I") (.int 1)) (.int 200)) (by decide +kernel))
    · exact va_eqt (hs (Cond.eq (.elem (.static "LightAsFarAsThePump$Alley" "GREATEST_SETTING" "[I") (.int 2)) (.int 9)) (by decide +kernel))) hnA
  have hEC : EC z (fun a : Nat => s.heap.size ≤ a) s s.heap := ⟨va_Zof (hts _ (by decide +kernel)) (hts _ (by decide +kernel)) hz1 hnA, hz2⟩
  obtain ⟨adK, adV, hvS, hvE⟩ := vk_Sof (N := 1) (tm := fun _ => .string "LightAsFarAsThePumpModel" 102) (len := [6]) (byt := [[103, 100, 109, 99, 116, 108]]) (A := fun a : Nat => s.heap.size ≤ a) (fun i hi => by rcases (show i = 0 by omega) with rfl; decide) (fun i hi => hs _ (by decide +kernel)) (fun i hi => hs _ (by decide +kernel)) (fun i hi => hs _ (by decide +kernel)) (fun i hi => by rcases (show i = 0 by omega) with rfl; exact hs _ (by decide +kernel)) (fun i hi j hj => by
    rcases (show i = 0 by omega) with rfl
    have hj : j < 6 := hj
    rcases (show j = 0 ∨ j = 1 ∨ j = 2 ∨ j = 3 ∨ j = 4 ∨ j = 5 by omega) with rfl | rfl | rfl | rfl | rfl | rfl <;> exact hs _ (by decide +kernel)) (fun i j hi hj h => absurd (show i = j by omega) h) hnA
  have hEM : EM (adK 0, adV 0) (fun a : Nat => s.heap.size ≤ a) s s.heap := ⟨va_Zof (hts _ (by decide +kernel)) (hts _ (by decide +kernel)) (va_eqi (hs _ (by decide +kernel))) hnA, vk_R.of (hts _ (by decide +kernel)) (hvE 0 (by decide)), (hvS.1 0 (by decide)).1, (hvS.1 0 (by decide)).2.1, (hvS.1 0 (by decide)).2.2.1, (hvS.1 0 (by decide)).2.2.2⟩
  have C : JC p s m #[Value.ref b] c code 4 RL D cI (fun a : Nat => s.heap.size ≤ a) (EL z (adK 0, adV 0)) := ⟨hx, hb, hml, hown, htB, hK, fun q h => h, ⟨hEC, hEM⟩, EL_ok z (adK 0, adV 0)⟩
  have hl := lv_entry ([.ref b]) (n := 4) (Nat.le_of_ble_eq_true rfl)
  rw [lg_entry_eq]
  have key : JA p l e room_1 s m #[Value.ref b] below meth c D (fun a : Nat => s.heap.size ≤ a) 4 (lw_Z below #[Value.ref b] s) [] 0 0 0 (lv_args 0 [.ref b]) [] := by
    refine JA.new (pc := 0) C 5 rfl in_X6 tyX6 tyX6_ok tk_L_7 ti_X6 tn_X6 [.null, .null, .null, .null, .null, .null, .null, .null, .int 0, .null, .int 0] (fun j hj => by rcases (show j = 0 ∨ j = 1 ∨ j = 2 ∨ j = 3 ∨ j = 4 ∨ j = 5 ∨ j = 6 ∨ j = 7 ∨ j = 8 ∨ j = 9 ∨ j = 10 by omega) with rfl | rfl | rfl | rfl | rfl | rfl | rfl | rfl | rfl | rfl | rfl <;> rfl) (Nat.le_of_ble_eq_true rfl) (Nat.le_of_ble_eq_true rfl) dL_law_0 (fun a0 => ?_)
    refine JA.dup (pc := 3) C dL_law_3 rfl ?_
    refine JA.norm C ([] ++ [(a0, .inr (5, [.null, .null, .null, .null, .null, .null, .null, .null, .int 0, .null, .int 0]))]) 1 11 rfl rfl rfl ?_
    refine JA.initCall (pc := 4) C (K_X6_init a0) lk_X6_init tm_L_9 ⟨Nat.le_of_ble_eq_true rfl, Nat.le_of_ble_eq_true rfl⟩ ⟨Nat.le_of_ble_eq_true rfl, Nat.le_of_ble_eq_true rfl⟩ (Nat.le_of_ble_eq_true rfl) dL_law_4 (fun w hw => ?_)
    obtain ⟨a1, a2, a3, a4, a5, a6, a7, a8, a9, a10, a11, a12, a13, a14, a15, a16, a17, a18, a19, a20, a21, a22, a23, a24, a25, a26, a27, a28, a29, a30, a31, a32, a33, a34, a35, a36, a37, a38, a39, a40, a41, a42, a43, rfl⟩ := hw
    refine JA.norm C [(a0, .inr (5, [.ref a1, .ref a8, .ref a15, .ref a22, .ref a24, .ref a35, .ref a38, .ref a42, .int 0, .ref a43, .int 0])), (a1, .inr (0, [.ref a2, .ref a3, .ref a4, .ref a5, .ref a6, .ref a7, .int 0, .int (-1)])), (a2, .inl (cI, 3, .inl (upd (upd (upd (fun _ => 0) 0 20) 1 100) 2 3))), (a3, .inl (cI, 7, .inl (fun _ => 0))), (a4, .inl (cI, 7, .inl (fun _ => 0))), (a5, .inl (cI, 7, .inl (fun _ => 0))), (a6, .inl (cI, 7, .inl (fun _ => 0))), (a7, .inl (cI, 7, .inl (fun _ => 0))), (a8, .inr (0, [.ref a9, .ref a10, .ref a11, .ref a12, .ref a13, .ref a14, .int 0, .int (-1)])), (a9, .inl (cI, 3, .inl (upd (upd (upd (fun _ => 0) 0 20) 1 100) 2 3))), (a10, .inl (cI, 7, .inl (fun _ => 0))), (a11, .inl (cI, 7, .inl (fun _ => 0))), (a12, .inl (cI, 7, .inl (fun _ => 0))), (a13, .inl (cI, 7, .inl (fun _ => 0))), (a14, .inl (cI, 7, .inl (fun _ => 0))), (a15, .inr (0, [.ref a16, .ref a17, .ref a18, .ref a19, .ref a20, .ref a21, .int 0, .int (-1)])), (a16, .inl (cI, 3, .inl (upd (upd (upd (fun _ => 0) 0 20) 1 100) 2 3))), (a17, .inl (cI, 7, .inl (fun _ => 0))), (a18, .inl (cI, 7, .inl (fun _ => 0))), (a19, .inl (cI, 7, .inl (fun _ => 0))), (a20, .inl (cI, 7, .inl (fun _ => 0))), (a21, .inl (cI, 7, .inl (fun _ => 0))), (a22, .inr (2, [.ref a23, .int 0])), (a23, .inl (cI, 96, .inl (fun _ => 0))), (a24, .inr (4, [.ref a25, .ref a26, .ref a27, .ref a28, .ref a29, .ref a30, .ref a31, .ref a32, .ref a33, .ref a34, .int 0, .int 0, .int 0, .int 0, .int 0, .int 0, .int 0])), (a25, .inl (cI, 7, .inl (fun _ => 0))), (a26, .inl (cI, 7, .inl (fun _ => 0))), (a27, .inl (cI, 7, .inl (fun _ => 0))), (a28, .inl (cI, 7, .inl (fun _ => 0))), (a29, .inl (cI, 7, .inl (fun _ => 0))), (a30, .inl (cI, 7, .inl (fun _ => 0))), (a31, .inl (cI, 7, .inl (fun _ => 0))), (a32, .inl (cI, 12, .inl (fun _ => 0))), (a33, .inl (cI, 2, .inl (fun _ => 0))), (a34, .inl (cI, 2, .inl (fun _ => 0))), (a35, .inr (3, [.ref a36, .int 0, .int 0, .ref a37])), (a36, .inl (cI, 7, .inl (fun _ => 0))), (a37, .inl (cI, 7, .inl (fun _ => 0))), (a38, .inr (1, [.ref a39, .ref a40, .ref a41])), (a39, .inl (cI, 7, .inl (fun _ => 0))), (a40, .inl (cI, 128, .inl (fun _ => 0))), (a41, .inl (cI, 128, .inl (fun _ => 0))), (a42, .inl (cI, 12, .inl (fun _ => 0))), (a43, .inl (cI, 7, .inl (fun _ => 0)))] 44 632 rfl rfl rfl ?_
    refine JA.astore_n (pc := 7) C dL_law_7 rfl (by decide) ?_
    refine JA.new (pc := 8) C 6 rfl in_X7 tyX7 tyX7_ok tk_L_10 ti_X7 tn_X7 [.int 0, .null, .null, .null, .null, .null, .null, .int 0, .null, .int 0, .null, .int 0, .null, .null, .int 0, .null, .null, .int 0, .null, .int 0, .null, .null, .null, .null, .null, .null, .int 0, .null, .null, .null, .null] (fun j hj => by rcases (show j = 0 ∨ j = 1 ∨ j = 2 ∨ j = 3 ∨ j = 4 ∨ j = 5 ∨ j = 6 ∨ j = 7 ∨ j = 8 ∨ j = 9 ∨ j = 10 ∨ j = 11 ∨ j = 12 ∨ j = 13 ∨ j = 14 ∨ j = 15 ∨ j = 16 ∨ j = 17 ∨ j = 18 ∨ j = 19 ∨ j = 20 ∨ j = 21 ∨ j = 22 ∨ j = 23 ∨ j = 24 ∨ j = 25 ∨ j = 26 ∨ j = 27 ∨ j = 28 ∨ j = 29 ∨ j = 30 by omega) with rfl | rfl | rfl | rfl | rfl | rfl | rfl | rfl | rfl | rfl | rfl | rfl | rfl | rfl | rfl | rfl | rfl | rfl | rfl | rfl | rfl | rfl | rfl | rfl | rfl | rfl | rfl | rfl | rfl | rfl | rfl <;> rfl) (Nat.le_of_ble_eq_true rfl) (Nat.le_of_ble_eq_true rfl) dL_law_8 (fun t0 => ?_)
    refine JA.dup (pc := 11) C dL_law_11 rfl ?_
    refine JA.norm C ([(a0, .inr (5, [.ref a1, .ref a8, .ref a15, .ref a22, .ref a24, .ref a35, .ref a38, .ref a42, .int 0, .ref a43, .int 0])), (a1, .inr (0, [.ref a2, .ref a3, .ref a4, .ref a5, .ref a6, .ref a7, .int 0, .int (-1)])), (a2, .inl (cI, 3, .inl (upd (upd (upd (fun _ => 0) 0 20) 1 100) 2 3))), (a3, .inl (cI, 7, .inl (fun _ => 0))), (a4, .inl (cI, 7, .inl (fun _ => 0))), (a5, .inl (cI, 7, .inl (fun _ => 0))), (a6, .inl (cI, 7, .inl (fun _ => 0))), (a7, .inl (cI, 7, .inl (fun _ => 0))), (a8, .inr (0, [.ref a9, .ref a10, .ref a11, .ref a12, .ref a13, .ref a14, .int 0, .int (-1)])), (a9, .inl (cI, 3, .inl (upd (upd (upd (fun _ => 0) 0 20) 1 100) 2 3))), (a10, .inl (cI, 7, .inl (fun _ => 0))), (a11, .inl (cI, 7, .inl (fun _ => 0))), (a12, .inl (cI, 7, .inl (fun _ => 0))), (a13, .inl (cI, 7, .inl (fun _ => 0))), (a14, .inl (cI, 7, .inl (fun _ => 0))), (a15, .inr (0, [.ref a16, .ref a17, .ref a18, .ref a19, .ref a20, .ref a21, .int 0, .int (-1)])), (a16, .inl (cI, 3, .inl (upd (upd (upd (fun _ => 0) 0 20) 1 100) 2 3))), (a17, .inl (cI, 7, .inl (fun _ => 0))), (a18, .inl (cI, 7, .inl (fun _ => 0))), (a19, .inl (cI, 7, .inl (fun _ => 0))), (a20, .inl (cI, 7, .inl (fun _ => 0))), (a21, .inl (cI, 7, .inl (fun _ => 0))), (a22, .inr (2, [.ref a23, .int 0])), (a23, .inl (cI, 96, .inl (fun _ => 0))), (a24, .inr (4, [.ref a25, .ref a26, .ref a27, .ref a28, .ref a29, .ref a30, .ref a31, .ref a32, .ref a33, .ref a34, .int 0, .int 0, .int 0, .int 0, .int 0, .int 0, .int 0])), (a25, .inl (cI, 7, .inl (fun _ => 0))), (a26, .inl (cI, 7, .inl (fun _ => 0))), (a27, .inl (cI, 7, .inl (fun _ => 0))), (a28, .inl (cI, 7, .inl (fun _ => 0))), (a29, .inl (cI, 7, .inl (fun _ => 0))), (a30, .inl (cI, 7, .inl (fun _ => 0))), (a31, .inl (cI, 7, .inl (fun _ => 0))), (a32, .inl (cI, 12, .inl (fun _ => 0))), (a33, .inl (cI, 2, .inl (fun _ => 0))), (a34, .inl (cI, 2, .inl (fun _ => 0))), (a35, .inr (3, [.ref a36, .int 0, .int 0, .ref a37])), (a36, .inl (cI, 7, .inl (fun _ => 0))), (a37, .inl (cI, 7, .inl (fun _ => 0))), (a38, .inr (1, [.ref a39, .ref a40, .ref a41])), (a39, .inl (cI, 7, .inl (fun _ => 0))), (a40, .inl (cI, 128, .inl (fun _ => 0))), (a41, .inl (cI, 128, .inl (fun _ => 0))), (a42, .inl (cI, 12, .inl (fun _ => 0))), (a43, .inl (cI, 7, .inl (fun _ => 0)))] ++ [(t0, .inr (6, [.int 0, .null, .null, .null, .null, .null, .null, .int 0, .null, .int 0, .null, .int 0, .null, .null, .int 0, .null, .null, .int 0, .null, .int 0, .null, .null, .null, .null, .null, .null, .int 0, .null, .null, .null, .null]))]) 45 663 rfl rfl rfl ?_
    refine JA.initCall (pc := 12) C (K_X7_init t0) lk_X7_init tm_L_12 ⟨Nat.le_of_ble_eq_true rfl, Nat.le_of_ble_eq_true rfl⟩ ⟨Nat.le_of_ble_eq_true rfl, Nat.le_of_ble_eq_true rfl⟩ (Nat.le_of_ble_eq_true rfl) dL_law_12 (fun w hw => ?_)
    obtain ⟨t1, t2, t3, t4, t5, t6, t7, t8, t9, t10, t11, t12, t13, t14, t15, t16, t17, t18, t19, t20, t21, t22, t23, rfl⟩ := hw
    refine JA.norm C [(a0, .inr (5, [.ref a1, .ref a8, .ref a15, .ref a22, .ref a24, .ref a35, .ref a38, .ref a42, .int 0, .ref a43, .int 0])), (a1, .inr (0, [.ref a2, .ref a3, .ref a4, .ref a5, .ref a6, .ref a7, .int 0, .int (-1)])), (a2, .inl (cI, 3, .inl (upd (upd (upd (fun _ => 0) 0 20) 1 100) 2 3))), (a3, .inl (cI, 7, .inl (fun _ => 0))), (a4, .inl (cI, 7, .inl (fun _ => 0))), (a5, .inl (cI, 7, .inl (fun _ => 0))), (a6, .inl (cI, 7, .inl (fun _ => 0))), (a7, .inl (cI, 7, .inl (fun _ => 0))), (a8, .inr (0, [.ref a9, .ref a10, .ref a11, .ref a12, .ref a13, .ref a14, .int 0, .int (-1)])), (a9, .inl (cI, 3, .inl (upd (upd (upd (fun _ => 0) 0 20) 1 100) 2 3))), (a10, .inl (cI, 7, .inl (fun _ => 0))), (a11, .inl (cI, 7, .inl (fun _ => 0))), (a12, .inl (cI, 7, .inl (fun _ => 0))), (a13, .inl (cI, 7, .inl (fun _ => 0))), (a14, .inl (cI, 7, .inl (fun _ => 0))), (a15, .inr (0, [.ref a16, .ref a17, .ref a18, .ref a19, .ref a20, .ref a21, .int 0, .int (-1)])), (a16, .inl (cI, 3, .inl (upd (upd (upd (fun _ => 0) 0 20) 1 100) 2 3))), (a17, .inl (cI, 7, .inl (fun _ => 0))), (a18, .inl (cI, 7, .inl (fun _ => 0))), (a19, .inl (cI, 7, .inl (fun _ => 0))), (a20, .inl (cI, 7, .inl (fun _ => 0))), (a21, .inl (cI, 7, .inl (fun _ => 0))), (a22, .inr (2, [.ref a23, .int 0])), (a23, .inl (cI, 96, .inl (fun _ => 0))), (a24, .inr (4, [.ref a25, .ref a26, .ref a27, .ref a28, .ref a29, .ref a30, .ref a31, .ref a32, .ref a33, .ref a34, .int 0, .int 0, .int 0, .int 0, .int 0, .int 0, .int 0])), (a25, .inl (cI, 7, .inl (fun _ => 0))), (a26, .inl (cI, 7, .inl (fun _ => 0))), (a27, .inl (cI, 7, .inl (fun _ => 0))), (a28, .inl (cI, 7, .inl (fun _ => 0))), (a29, .inl (cI, 7, .inl (fun _ => 0))), (a30, .inl (cI, 7, .inl (fun _ => 0))), (a31, .inl (cI, 7, .inl (fun _ => 0))), (a32, .inl (cI, 12, .inl (fun _ => 0))), (a33, .inl (cI, 2, .inl (fun _ => 0))), (a34, .inl (cI, 2, .inl (fun _ => 0))), (a35, .inr (3, [.ref a36, .int 0, .int 0, .ref a37])), (a36, .inl (cI, 7, .inl (fun _ => 0))), (a37, .inl (cI, 7, .inl (fun _ => 0))), (a38, .inr (1, [.ref a39, .ref a40, .ref a41])), (a39, .inl (cI, 7, .inl (fun _ => 0))), (a40, .inl (cI, 128, .inl (fun _ => 0))), (a41, .inl (cI, 128, .inl (fun _ => 0))), (a42, .inl (cI, 12, .inl (fun _ => 0))), (a43, .inl (cI, 7, .inl (fun _ => 0))), (t0, .inr (6, [.int 0, .ref t1, .ref t2, .ref t3, .ref t4, .ref t5, .ref t6, .int 0, .ref t7, .int 0, .ref t8, .int 0, .ref t9, .ref t10, .int 0, .ref t11, .ref t12, .int 0, .ref t13, .int 0, .ref t14, .ref t15, .ref t16, .ref t17, .ref t18, .ref t19, .int 0, .ref t20, .ref t21, .ref t22, .ref t23])), (t1, .inl (cI, 7, .inl (fun _ => 0))), (t2, .inl (cI, 7, .inl (fun _ => 0))), (t3, .inl (cI, 7, .inl (fun _ => 0))), (t4, .inl (cI, 7, .inl (fun _ => 0))), (t5, .inl (cI, 7, .inl (fun _ => 0))), (t6, .inl (cI, 3, .inl (upd (upd (upd (fun _ => 0) 0 20) 1 100) 2 3))), (t7, .inl (cI, 96, .inl (fun _ => 0))), (t8, .inl (cI, 8, .inl (fun _ => 0))), (t9, .inl (cI, 12, .inl (fun _ => 0))), (t10, .inl (cI, 7, .inl (fun _ => 0))), (t11, .inl (cI, 39, .inl (fun _ => 0))), (t12, .inl (cI, 39, .inl (fun _ => 0))), (t13, .inl (cI, 7, .inl (fun _ => 0))), (t14, .inl (cI, 2, .inl (fun _ => 0))), (t15, .inl (cI, 2, .inl (fun _ => 0))), (t16, .inl (cI, 7, .inl (fun _ => 0))), (t17, .inl (cI, 7, .inl (fun _ => 0))), (t18, .inl (cI, 7, .inl (fun _ => 0))), (t19, .inl (cI, 7, .inl (fun _ => 0))), (t20, .inl (cI, 12, .inl (fun _ => 0))), (t21, .inl (cI, 7, .inl (fun _ => 0))), (t22, .inl (cI, 7, .inl (fun _ => 0))), (t23, .inl (cI, 128, .inl (fun _ => 0)))] 68 1095 rfl rfl rfl ?_
    refine JA.astore_n (pc := 15) C dL_law_15 rfl (by decide) ?_
    refine JA.perm C [0, 42, 43, 1, 2, 3, 4, 5, 6, 7, 8, 9, 10, 11, 12, 13, 14, 15, 16, 17, 18, 19, 20, 21, 22, 23, 24, 25, 26, 27, 28, 29, 30, 31, 32, 33, 34, 35, 36, 37, 38, 39, 40, 41, 44, 45, 46, 47, 48, 49, 50, 51, 52, 53, 54, 55, 56, 57, 58, 59, 60, 61, 62, 63, 64, 65, 66, 67] (ws1 := cW (fun i => [a0, a42, a43, a1, a2, a3, a4, a5, a6, a7, a8, a9, a10, a11, a12, a13, a14, a15, a16, a17, a18, a19, a20, a21, a22, a23, a24, a25, a26, a27, a28, a29, a30, a31, a32, a33, a34, a35, a36, a37, a38, a39, a40, a41].getD i 0) cI gc0 ++ mW (fun i => [t0, t1, t2, t3, t4, t5, t6, t7, t8, t9, t10, t11, t12, t13, t14, t15, t16, t17, t18, t19, t20, t21, t22, t23].getD i 0) cI gm0) rfl (by decide) rfl ?_
    refine JA.iconst (pc := 16) C 0 dL_law_16 ic_0 ?_
    refine JA.istore_n (pc := 17) C dL_law_17 rfl (by decide) ?_
    refine JA.sub C [0, 1, 2, 3] rfl ?_
    rw [show (0 : Int32) = nI 0 from nI_0.symm]
    exact lw_loop (q := fun i => [a0, a42, a43, a1, a2, a3, a4, a5, a6, a7, a8, a9, a10, a11, a12, a13, a14, a15, a16, a17, a18, a19, a20, a21, a22, a23, a24, a25, a26, a27, a28, a29, a30, a31, a32, a33, a34, a35, a36, a37, a38, a39, a40, a41].getD i 0) (qm := fun i => [t0, t1, t2, t3, t4, t5, t6, t7, t8, t9, t10, t11, t12, t13, t14, t15, t16, t17, t18, t19, t20, t21, t22, t23].getD i 0) hAll C hr hlocks hX hbl hL (L + 8) 0 (by omega) (by omega) gc0 gm0 h0
  exact key s.heap [] _ (fun k q h => by simp at h) ⟨fun i j p q h => by simp at h, fun k q h => by simp at h⟩ va_S.rf ⟨hl, fun q hq => by rcases List.mem_singleton.mp hq with rfl; rfl⟩
