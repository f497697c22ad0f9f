theorem t_arr : Cond.arrayClass .int ∈ TB := tbm 113 (by decide +kernel) (by decide +kernel)
theorem t_oi : Cond.instanceMethod objectInit ∈ TB := tbm 62 (by decide +kernel) (by decide +kernel)
theorem t_oc : Cond.code objectInit ⟨#[0xb1]⟩ 1 none ∈ TB := tbm 63 (by decide +kernel) (by decide +kernel)
theorem tm_X0_oi : Cond.methodLink RX0 3 objectInit ∈ TB := tbm 69 (by decide +kernel) (by decide +kernel)
theorem ti_X0 : Cond.instantiable RX0 8 ∈ TB := tbm 65 (by decide +kernel) (by decide +kernel)
theorem tn_X0 : Cond.initialized RX0 ∈ TB := tbm 43 (by decide +kernel) (by decide +kernel)
theorem tm_X1_oi : Cond.methodLink RX1 3 objectInit ∈ TB := tbm 228 (by decide +kernel) (by decide +kernel)
theorem ti_X1 : Cond.instantiable RX1 3 ∈ TB := tbm 224 (by decide +kernel) (by decide +kernel)
theorem tn_X1 : Cond.initialized RX1 ∈ TB := tbm 48 (by decide +kernel) (by decide +kernel)
theorem tm_X2_oi : Cond.methodLink RX2 3 objectInit ∈ TB := tbm 119 (by decide +kernel) (by decide +kernel)
theorem ti_X2 : Cond.instantiable RX2 2 ∈ TB := tbm 115 (by decide +kernel) (by decide +kernel)
theorem tn_X2 : Cond.initialized RX2 ∈ TB := tbm 45 (by decide +kernel) (by decide +kernel)
theorem tm_X3_oi : Cond.methodLink RX3 3 objectInit ∈ TB := tbm 206 (by decide +kernel) (by decide +kernel)
theorem ti_X3 : Cond.instantiable RX3 4 ∈ TB := tbm 202 (by decide +kernel) (by decide +kernel)
theorem tn_X3 : Cond.initialized RX3 ∈ TB := tbm 47 (by decide +kernel) (by decide +kernel)
theorem tm_X5_oi : Cond.methodLink RX5 3 objectInit ∈ TB := tbm 133 (by decide +kernel) (by decide +kernel)
theorem ti_X5 : Cond.instantiable RX5 17 ∈ TB := tbm 129 (by decide +kernel) (by decide +kernel)
theorem tn_X5 : Cond.initialized RX5 ∈ TB := tbm 46 (by decide +kernel) (by decide +kernel)
theorem tm_X6_oi : Cond.methodLink RX6 1 objectInit ∈ TB := tbm 61 (by decide +kernel) (by decide +kernel)
theorem ti_X6 : Cond.instantiable RX6 11 ∈ TB := tbm 57 (by decide +kernel) (by decide +kernel)
theorem tn_X6 : Cond.initialized RX6 ∈ TB := tbm 42 (by decide +kernel) (by decide +kernel)
theorem tm_X7_oi : Cond.methodLink RX7 1 objectInit ∈ TB := tbm 637 (by decide +kernel) (by decide +kernel)
theorem ti_X7 : Cond.instantiable RX7 31 ∈ TB := tbm 633 (by decide +kernel) (by decide +kernel)
theorem tn_X7 : Cond.initialized RX7 ∈ TB := tbm 49 (by decide +kernel) (by decide +kernel)
theorem tk_L_7 : Cond.classLink RL 7 RX6 ∈ TB := tbm 56 (by decide +kernel) (by decide +kernel)
theorem tk_X6_7 : Cond.classLink RX6 7 RX0 ∈ TB := tbm 64 (by decide +kernel) (by decide +kernel)
theorem tk_X6_22 : Cond.classLink RX6 22 RX2 ∈ TB := tbm 114 (by decide +kernel) (by decide +kernel)
theorem tk_X6_29 : Cond.classLink RX6 29 RX5 ∈ TB := tbm 128 (by decide +kernel) (by decide +kernel)
theorem tk_X6_36 : Cond.classLink RX6 36 RX3 ∈ TB := tbm 201 (by decide +kernel) (by decide +kernel)
theorem tk_X6_43 : Cond.classLink RX6 43 RX1 ∈ TB := tbm 223 (by decide +kernel) (by decide +kernel)
theorem tk_L_10 : Cond.classLink RL 10 RX7 ∈ TB := tbm 632 (by decide +kernel) (by decide +kernel)
def LkI (y : MethodName) (cc : ByteArray) (maxL : Nat) : Prop := Cond.instanceMethod y ∈ TB ∧ Cond.initialized y.cls ∈ TB ∧ Cond.code y cc maxL none ∈ TB ∧ y.name = "<init>" ∧ (y.cls ≠ "java/lang/invoke/MethodHandle" ∧ y.cls ≠ "java/lang/invoke/VarHandle" ∧ (parseMethodDescriptor y.desc).map (fun d => d.parameters.length) = some 0)
theorem lk_X0_init : LkI yX0_init cX0_init 1 := ⟨tbm 67 (by decide +kernel) (by decide +kernel), tbm 43 (by decide +kernel) (by decide +kernel), tbm 68 (by decide +kernel) (by decide +kernel), rfl, by decide +kernel⟩
theorem lk_X1_init : LkI yX1_init cX1_init 1 := ⟨tbm 226 (by decide +kernel) (by decide +kernel), tbm 48 (by decide +kernel) (by decide +kernel), tbm 227 (by decide +kernel) (by decide +kernel), rfl, by decide +kernel⟩
theorem lk_X2_init : LkI yX2_init cX2_init 1 := ⟨tbm 117 (by decide +kernel) (by decide +kernel), tbm 45 (by decide +kernel) (by decide +kernel), tbm 118 (by decide +kernel) (by decide +kernel), rfl, by decide +kernel⟩
theorem lk_X3_init : LkI yX3_init cX3_init 1 := ⟨tbm 204 (by decide +kernel) (by decide +kernel), tbm 47 (by decide +kernel) (by decide +kernel), tbm 205 (by decide +kernel) (by decide +kernel), rfl, by decide +kernel⟩
theorem lk_X5_init : LkI yX5_init cX5_init 1 := ⟨tbm 131 (by decide +kernel) (by decide +kernel), tbm 46 (by decide +kernel) (by decide +kernel), tbm 132 (by decide +kernel) (by decide +kernel), rfl, by decide +kernel⟩
theorem lk_X6_init : LkI yX6_init cX6_init 1 := ⟨tbm 59 (by decide +kernel) (by decide +kernel), tbm 42 (by decide +kernel) (by decide +kernel), tbm 60 (by decide +kernel) (by decide +kernel), rfl, by decide +kernel⟩
theorem lk_X7_init : LkI yX7_init cX7_init 1 := ⟨tbm 635 (by decide +kernel) (by decide +kernel), tbm 49 (by decide +kernel) (by decide +kernel), tbm 636 (by decide +kernel) (by decide +kernel), rfl, by decide +kernel⟩
def E0 : Et := fun _ _ _ => True
theorem E0_ok : EOK E0 := ⟨fun _ _ _ _ _ _ => trivial, fun _ _ _ _ _ _ => trivial, fun _ _ _ _ _ _ => trivial⟩
theorem app_l {α : Type} {a b : List α} {k : Nat} {x : α} (h : a[k]? = some x) : (a ++ b)[k]? = some x := by
  rw [List.getElem?_append_left (List.getElem?_eq_some_iff.mp h).1]; exact h
theorem app_r {α : Type} {a b : List α} {k : Nat} {x : α} (h : b[k]? = some x) : (a ++ b)[a.length + k]? = some x := by
  rw [List.getElem?_append_right (by omega), Nat.add_sub_cancel_left]; exact h
theorem join_r {A0 : Nat → Prop} {D : va_G} {cl : List vw_C} {w0 wc w1 : va_W} {H H1 : Heap} (hP : va_P D cl (w0 ++ wc) H) (hD : va_D A0 (w0 ++ wc)) (hk : ∀ q : Nat, q < H.size → ¬ va_A wc H.size q → H1[q]? = H[q]?) (hF : ∀ q, va_A wc H.size q → A0 q) (hP1 : va_P D cl w1 H1) (hD1 : va_D (va_A wc H.size) w1) : va_P D cl (w0 ++ w1) H1 ∧ va_D A0 (w0 ++ w1) := by
  have apart : ∀ (k : Nat) (q : Nat × va_E), w0[k]? = some q → q.1 < H.size ∧ ¬ va_A wc H.size q.1 := by
    intro k q hq
    have hl := (hP k q (app_l hq)).lt
    refine ⟨hl, fun h => ?_⟩
    rcases h with ⟨k2, e, h⟩ | h
    · have hij := hD.1 k (w0.length + k2) q (q.1, e) (app_l hq) (app_r h) rfl
      have := (List.getElem?_eq_some_iff.mp hq).1
      omega
    · omega
  refine ⟨va_P.app (fun k q hq => ?_) hP1, va_D.app ⟨fun i j x y hi hj h => hD.1 i j x y (app_l hi) (app_l hj) h, fun k q hq => hD.2 k q (app_l hq)⟩ (hD1.weaken (fun k q _ h => hF q.1 h)) (fun i j x y hx hy hxy => ?_)⟩
  · obtain ⟨g1, g2⟩ := apart k q hq
    exact (hP k q (app_l hq)).kept (hk q.1 g1 g2)
  · exact (apart i x hx).2 (by rw [hxy]; exact hD1.2 j y hy)
theorem join_l {A0 : Nat → Prop} {D : va_G} {cl : List vw_C} {w0 wc w1 : va_W} {H H1 : Heap} (hP : va_P D cl (wc ++ w0) H) (hD : va_D A0 (wc ++ w0)) (hk : ∀ q : Nat, q < H.size → ¬ va_A wc H.size q → H1[q]? = H[q]?) (hF : ∀ q, va_A wc H.size q → A0 q) (hP1 : va_P D cl w1 H1) (hD1 : va_D (va_A wc H.size) w1) : va_P D cl (w1 ++ w0) H1 ∧ va_D A0 (w1 ++ w0) := by
  have apart : ∀ (k : Nat) (q : Nat × va_E), w0[k]? = some q → q.1 < H.size ∧ ¬ va_A wc H.size q.1 := by
    intro k q hq
    have hl := (hP _ q (app_r hq)).lt
    refine ⟨hl, fun h => ?_⟩
    rcases h with ⟨k2, e, h⟩ | h
    · have hij := hD.1 (wc.length + k) k2 q (q.1, e) (app_r hq) (app_l h) rfl
      have := (List.getElem?_eq_some_iff.mp h).1
      omega
    · omega
  refine ⟨va_P.app hP1 (fun k q hq => ?_), va_D.app (hD1.weaken (fun k q _ h => hF q.1 h)) ⟨fun i j x y hi hj h => by have := hD.1 _ _ x y (app_r (a := wc) hi) (app_r (a := wc) hj) h; omega, fun k q hq => hD.2 _ q (app_r hq)⟩ (fun i j x y hx hy hxy => ?_)⟩
  · obtain ⟨g1, g2⟩ := apart k q hq
    exact (hP _ q (app_r hq)).kept (hk q.1 g1 g2)
  · exact (apart j y hy).2 (by rw [← hxy]; exact hD1.2 i x hx)
theorem va_P.right {D : va_G} {cl : List vw_C} {w0 wc : va_W} {H : Heap} (hP : va_P D cl (w0 ++ wc) H) : va_P D cl wc H := fun k q h => hP _ q (app_r h)
theorem va_P.left {D : va_G} {cl : List vw_C} {w0 wc : va_W} {H : Heap} (hP : va_P D cl (wc ++ w0) H) : va_P D cl wc H := fun k q h => hP k q (app_l h)
theorem va_D.right {A : Nat → Prop} {w0 wc : va_W} (hD : va_D A (w0 ++ wc)) : va_D A wc := ⟨fun i j x y hi hj h => by have := hD.1 _ _ x y (app_r (a := w0) hi) (app_r (a := w0) hj) h; omega, fun k q h => hD.2 _ q (app_r h)⟩
theorem va_D.left {A : Nat → Prop} {w0 wc : va_W} (hD : va_D A (wc ++ w0)) : va_D A wc := ⟨fun i j x y hi hj h => hD.1 i j x y (app_l hi) (app_l hj) h, fun k q h => hD.2 k q (app_l h)⟩
abbrev RK (fr lc mc ms : Nat) : Room := { frames := fr, cells := mc, slots := ms, locals := lc }
/-- a constructor's contract -/
def CK (l : Launch) (D : va_G) (cI : ClassId) (y : MethodName) (cc : ByteArray) (maxL fr lc mc ms : Nat) (av : List Value) (ws : va_W) (post : va_W → Prop) : Prop := ∀ sz : Nat, Met l y (.code y cc maxL none :: TB) (RK fr lc mc ms) (va_Pc av (fun U => U.heap.size = sz ∧ va_P D CL ws U.heap ∧ va_K D CL [(cI, .int)] U ∧ va_D (fun _ => True) ws)) (va_Qv (fun (w : va_W) => post w) (fun w t => va_P D CL w t.heap ∧ va_D (va_A ws sz) w) (va_A ws sz)) mc ms (va_A ws sz)
section JAS
variable {p : Program} {l : Launch} {e : Env} {R : Room} {s : State} {m : MethodId} {args : Array Value} {below : List Frame} {meth : Method} {c : Code} {Q : State → Prop} {cc : ByteArray} {nL : Nat} {own : String} {D : va_G} {cI : ClassId} {A : Nat → Prop} {E : Et} {ws ws1 : va_W} {cells slots pc : Nat} {lo : List (Nat × Value)} {st rest : List Value}
def JA (p : Program) (l : Launch) (e : Env) (R : Room) (s : State) (m : MethodId) (args : Array Value) (below : List Frame) (meth : Method) (c : Code) (D : va_G) (A : Nat → Prop) (nL : Nat) (Q : State → Prop) (ws : va_W) (cells slots pc : Nat) (lo : List (Nat × Value)) (st : List Value) : Prop :=
  ∀ (H : Heap) (locs : List Loc) (ls : Array Slot), va_P D CL ws H → va_D A ws → va_S A s.heap H locs → lvs ls nL lo → W p l e R s m args below meth c H locs cells slots Q (F0 m pc ls st)
theorem JA.norm (C : JC p s m args c cc nL own D cI A E) (ws1 : va_W) (cells1 slots1 : Nat) (h : ws = ws1) (hc : cells = cells1) (hs : slots = slots1) (k : JA p l e R s m args below meth c D A nL Q ws1 cells1 slots1 pc lo st) : JA p l e R s m args below meth c D A nL Q ws cells slots pc lo st := by rw [h, hc, hs]; exact k
theorem JA.perm (C : JC p s m args c cc nL own D cI A E) (is : List Nat) (h1 : is.filterMap (fun i => ws[i]?) = ws1) (h2 : va_nd is = true) (h3 : is.map (fun i => ws[i]?) = ws1.map some) (k : JA p l e R s m args below meth c D A nL Q ws1 cells slots pc lo st) : JA p l e R s m args below meth c D A nL Q ws cells slots pc lo st := fun H locs ls hP hD hS hl => k H locs ls (hP.sub is h1) (hD.sub is h2 h3) hS hl
theorem JA.sub (C : JC p s m args c cc nL own D cI A E) (ks : List Nat) {lo1 : List (Nat × Value)} (h : lpick lo ks = lo1) (k : JA p l e R s m args below meth c D A nL Q ws cells slots pc lo1 st) : JA p l e R s m args below meth c D A nL Q ws cells slots pc lo st := fun H locs ls hP hD hS hl => k H locs ls hP hD hS ⟨⟨hl.1.1, hl.1.2.1, fun q hq => hl.1.2.2 q (by rw [← h] at hq; exact lpick_mem hq)⟩, fun q hq => hl.2 q (by rw [← h] at hq; exact lpick_mem hq)⟩
theorem JA.iconst (C : JC p s m args c cc nL own D cI A E) {n : Int} (v : Int32) (hdg : decode cc pc = .ok (.iconst n, 1)) (hv : Int32.ofInt n = v) (k : JA p l e R s m args below meth c D A nL Q ws cells slots (pc + 1) lo (.int v :: st)) : JA p l e R s m args below meth c D A nL Q ws cells slots pc lo st := fun H locs ls hP hD hS hl => lv_iconst C.1 C.2.1 hdg hv (k H locs ls hP hD hS hl)
theorem JA.bipush (C : JC p s m args c cc nL own D cI A E) {n : Int} (v : Int32) (hdg : decode cc pc = .ok (.bipush n, 2)) (hv : (Int8.ofInt n).toInt32 = v) (k : JA p l e R s m args below meth c D A nL Q ws cells slots (pc + 2) lo (.int v :: st)) : JA p l e R s m args below meth c D A nL Q ws cells slots pc lo st := fun H locs ls hP hD hS hl => lv_bipush C.1 C.2.1 hdg hv (k H locs ls hP hD hS hl)
theorem JA.sipush (C : JC p s m args c cc nL own D cI A E) {n : Int} (v : Int32) (hdg : decode cc pc = .ok (.sipush n, 3)) (hv : (Int16.ofInt n).toInt32 = v) (k : JA p l e R s m args below meth c D A nL Q ws cells slots (pc + 3) lo (.int v :: st)) : JA p l e R s m args below meth c D A nL Q ws cells slots pc lo st := fun H locs ls hP hD hS hl => lv_sipush C.1 C.2.1 hdg hv (k H locs ls hP hD hS hl)
theorem JA.iload_n (C : JC p s m args c cc nL own D cI A E) {k0 : Fin 4} {i : Nat} {x : Int32} (hdg : decode cc pc = .ok (.iload_n k0, 1)) (hi : (k0 : Nat) = i) (hl0 : lkp lo i = some (.int x)) (k : JA p l e R s m args below meth c D A nL Q ws cells slots (pc + 1) lo (.int x :: st)) : JA p l e R s m args below meth c D A nL Q ws cells slots pc lo st := fun H locs ls hP hD hS hl => lv_iload_n C.1 C.2.1 hdg hi (hl.at hl0) (k H locs ls hP hD hS hl)
theorem JA.aload_n (C : JC p s m args c cc nL own D cI A E) {k0 : Fin 4} {i x : Nat} (hdg : decode cc pc = .ok (.aload_n k0, 1)) (hi : (k0 : Nat) = i) (hl0 : lkp lo i = some (.ref x)) (k : JA p l e R s m args below meth c D A nL Q ws cells slots (pc + 1) lo (.ref x :: st)) : JA p l e R s m args below meth c D A nL Q ws cells slots pc lo st := fun H locs ls hP hD hS hl => lv_aload_n C.1 C.2.1 hdg hi (hl.at hl0) (k H locs ls hP hD hS hl)
theorem JA.iadd (C : JC p s m args c cc nL own D cI A E) {x y : Int32} (hdg : decode cc pc = .ok (.iadd, 1)) (k : JA p l e R s m args below meth c D A nL Q ws cells slots (pc + 1) lo (.int (x + y) :: st)) : JA p l e R s m args below meth c D A nL Q ws cells slots pc lo (.int y :: .int x :: st) := fun H locs ls hP hD hS hl => lv_iadd C.1 C.2.1 hdg (k H locs ls hP hD hS hl)
theorem JA.isub (C : JC p s m args c cc nL own D cI A E) {x y : Int32} (hdg : decode cc pc = .ok (.isub, 1)) (k : JA p l e R s m args below meth c D A nL Q ws cells slots (pc + 1) lo (.int (x - y) :: st)) : JA p l e R s m args below meth c D A nL Q ws cells slots pc lo (.int y :: .int x :: st) := fun H locs ls hP hD hS hl => lv_isub C.1 C.2.1 hdg (k H locs ls hP hD hS hl)
theorem JA.iand (C : JC p s m args c cc nL own D cI A E) {x y : Int32} (hdg : decode cc pc = .ok (.iand, 1)) (k : JA p l e R s m args below meth c D A nL Q ws cells slots (pc + 1) lo (.int (x &&& y) :: st)) : JA p l e R s m args below meth c D A nL Q ws cells slots pc lo (.int y :: .int x :: st) := fun H locs ls hP hD hS hl => lv_iand C.1 C.2.1 hdg (k H locs ls hP hD hS hl)
theorem JA.dup (C : JC p s m args c cc nL own D cI A E) {va : Value} (hdg : decode cc pc = .ok (.dup, 1)) (hva : va.category = 1) (k : JA p l e R s m args below meth c D A nL Q ws cells slots (pc + 1) lo (va :: va :: st)) : JA p l e R s m args below meth c D A nL Q ws cells slots pc lo (va :: st) := fun H locs ls hP hD hS hl => lv_dup C.1 C.2.1 hdg hva (k H locs ls hP hD hS hl)
theorem JA.istore_n (C : JC p s m args c cc nL own D cI A E) {k0 : Fin 4} {i : Nat} {x : Int32} (hdg : decode cc pc = .ok (.istore_n k0, 1)) (hi : (k0 : Nat) = i) (hn : i < nL) (k : JA p l e R s m args below meth c D A nL Q ws cells slots (pc + 1) (lset lo i (.int x)) st) : JA p l e R s m args below meth c D A nL Q ws cells slots pc lo (.int x :: st) := fun H locs ls hP hD hS hl => lv_istore_n C.1 C.2.1 hdg hi hl.1 hn rfl (fun ls' h' => k H locs ls' hP hD hS (lvs.put h' hl.2 rfl))
theorem JA.astore_n (C : JC p s m args c cc nL own D cI A E) {k0 : Fin 4} {i x : Nat} (hdg : decode cc pc = .ok (.astore_n k0, 1)) (hi : (k0 : Nat) = i) (hn : i < nL) (k : JA p l e R s m args below meth c D A nL Q ws cells slots (pc + 1) (lset lo i (.ref x)) st) : JA p l e R s m args below meth c D A nL Q ws cells slots pc lo (.ref x :: st) := fun H locs ls hP hD hS hl => lv_astore_n C.1 C.2.1 hdg hi hl.1 hn rfl (fun ls' h' => k H locs ls' hP hD hS (lvs.put h' hl.2 rfl))
theorem JA.iinc (C : JC p s m args c cc nL own D cI A E) {i : Nat} {n : Int} {x : Int32} (v : Int32) (hdg : decode cc pc = .ok (.iinc i n, 3)) (hv : Int32.ofInt n = v) (hl0 : lkp lo i = some (.int x)) (hn : i < nL) (k : JA p l e R s m args below meth c D A nL Q ws cells slots (pc + 3) (lset lo i (.int (x + v))) st) : JA p l e R s m args below meth c D A nL Q ws cells slots pc lo st := by
  intro H locs ls hP hD hS hl
  obtain ⟨j, hj⟩ := List.getElem?_of_mem (lkp_mem hl0)
  exact lv_iinc (k := j) C.1 C.2.1 hdg hl.1 hj (by rw [hv]) hn rfl (fun ls' h' => k H locs ls' hP hD hS (lvs.put h' hl.2 rfl))
theorem JA.goto (C : JC p s m args c cc nL own D cI A E) {off : Int} (tgt : Nat) (hdg : decode cc pc = .ok (.goto off, 3)) (ht : (pc : Int) + off = (tgt : Int)) (k : JA p l e R s m args below meth c D A nL Q ws cells slots tgt lo st) : JA p l e R s m args below meth c D A nL Q ws cells slots pc lo st := fun H locs ls hP hD hS hl => lv_goto C.1 C.2.1 hdg ht (k H locs ls hP hD hS hl)
theorem JA.icmp_eq (C : JC p s m args c cc nL own D cI A E) {x y : Int32} {off : Int} (tgt : Nat) (hdg : decode cc pc = .ok (.if_icmp .eq off, 3)) (ht : (pc : Int) + off = (tgt : Int)) (kt : x = y → JA p l e R s m args below meth c D A nL Q ws cells slots tgt lo st) (kf : ¬ x = y → JA p l e R s m args below meth c D A nL Q ws cells slots (pc + 3) lo st) : JA p l e R s m args below meth c D A nL Q ws cells slots pc lo (.int y :: .int x :: st) := fun H locs ls hP hD hS hl => lv_icmp_eq C.1 C.2.1 hdg ht (fun h => kt h H locs ls hP hD hS hl) (fun h => kf h H locs ls hP hD hS hl)
theorem JA.icmp_gt (C : JC p s m args c cc nL own D cI A E) {x y : Int32} {off : Int} (tgt : Nat) (hdg : decode cc pc = .ok (.if_icmp .gt off, 3)) (ht : (pc : Int) + off = (tgt : Int)) (kt : y < x → JA p l e R s m args below meth c D A nL Q ws cells slots tgt lo st) (kf : ¬ y < x → JA p l e R s m args below meth c D A nL Q ws cells slots (pc + 3) lo st) : JA p l e R s m args below meth c D A nL Q ws cells slots pc lo (.int y :: .int x :: st) := fun H locs ls hP hD hS hl => lv_icmp_gt C.1 C.2.1 hdg ht (fun h => kt h H locs ls hP hD hS hl) (fun h => kf h H locs ls hP hD hS hl)
theorem JA.tabIn (C : JC p s m args c cc nL own D cI A E) {dflt lo' hi : Int} {offs : Array Int} {len : Nat} {x : Int32} {off : Int} (v : Int32) (tgt : Nat) (hdg : decode cc pc = .ok (.tableswitch dflt lo' hi offs, len)) (hx : x = v) (h1 : ¬ v.toInt < lo') (h2 : ¬ hi < v.toInt) (ho : offs[(v.toInt - lo').toNat]? = some off) (ht : (pc : Int) + off = (tgt : Int)) (k : JA p l e R s m args below meth c D A nL Q ws cells slots tgt lo st) : JA p l e R s m args below meth c D A nL Q ws cells slots pc lo (.int x :: st) := fun H locs ls hP hD hS hl' => lv_tableIn C.1 C.2.1 hdg (by rw [hx]; exact h1) (by rw [hx]; exact h2) (by rw [hx]; exact ho) ht (k H locs ls hP hD hS hl')
theorem JA.tabOut (C : JC p s m args c cc nL own D cI A E) {dflt lo' hi : Int} {offs : Array Int} {len : Nat} {x : Int32} (tgt : Nat) (hdg : decode cc pc = .ok (.tableswitch dflt lo' hi offs, len)) (h : x.toInt < lo' ∨ hi < x.toInt) (ht : (pc : Int) + dflt = (tgt : Int)) (k : JA p l e R s m args below meth c D A nL Q ws cells slots tgt lo st) : JA p l e R s m args below meth c D A nL Q ws cells slots pc lo (.int x :: st) := fun H locs ls hP hD hS hl' => lv_tableOut C.1 C.2.1 hdg h ht (k H locs ls hP hD hS hl')
theorem JA.slen (C : JC p s m args c cc nL own D cI A E) {b L : Nat} {xs : Nat → Int32} (hX : va_X b L xs s s.heap) (hbl : b < s.heap.size) (hbA : ¬ A b) (hdg : decode cc pc = .ok (.arraylength, 1)) (k : JA p l e R s m args below meth c D A nL Q ws cells slots (pc + 1) lo (.int (nI L) :: st)) : JA p l e R s m args below meth c D A nL Q ws cells slots pc lo (.ref b :: st) := fun H locs ls hP hD hS hl => va_slen C.1 C.2.1 hX hbl hbA hS hdg (k H locs ls hP hD hS hl)
theorem JA.sld (C : JC p s m args c cc nL own D cI A E) {b L : Nat} {xs : Nat → Int32} (hX : va_X b L xs s s.heap) (hbl : b < s.heap.size) (hbA : ¬ A b) {i : Int32} (hin : vp_in i L) (hdg : decode cc pc = .ok (.iaload, 1)) (k : JA p l e R s m args below meth c D A nL Q ws cells slots (pc + 1) lo (.int (xs (ix i)) :: st)) : JA p l e R s m args below meth c D A nL Q ws cells slots pc lo (.int i :: .ref b :: st) := fun H locs ls hP hD hS hl => va_sld C.1 C.2.1 hX hbl hbA hS hin hdg (k H locs ls hP hD hS hl)
theorem JA.get (C : JC p s m args c cc nL own D cI A E) (q0 : Nat) {a ci : Nat} {fs : List Value} {Cn : String} {T : u_T} {N : Nat} (he : ws[q0]? = some (a, .inr (ci, fs))) (hc : CL[ci]? = some (Cn, T, N)) (hin : ∀ w ∈ u_ws Cn T N, w ∈ TB) (k : Nat) (hk : k < N) {index : Nat} (hlink : Cond.fieldLink own index (T k).1 (T k).2.1 (T k).2.2.1 ∈ TB) {v : Value} (hv : fs[k]? = some v) (hdg : decode cc pc = .ok (.getfield index, 3)) (kk : JA p l e R s m args below meth c D A nL Q ws cells slots (pc + 3) lo (v :: st)) : JA p l e R s m args below meth c D A nL Q ws cells slots pc lo (.ref a :: st) := fun H locs ls hP hD hS hl => va_get C.1 C.2.1 C.2.2.2.2.1 hin C.2.2.2.1 C.2.2.2.2.2.1 hP q0 he hc k hk (C.2.2.2.2.1 _ hlink) (fun _ h9 => h9) hv hdg (kk H locs ls hP hD hS hl)
theorem JA.put (C : JC p s m args c cc nL own D cI A E) (q0 : Nat) {a ci : Nat} {fs : List Value} {Cn : String} {T : u_T} {N : Nat} (he : ws[q0]? = some (a, .inr (ci, fs))) (hc : CL[ci]? = some (Cn, T, N)) (hin : ∀ w ∈ u_ws Cn T N, w ∈ TB) (ty0 : Nat → FieldType) (hty : ∀ k, k < N → parseFieldDescriptor (T k).2.2.1 = some (ty0 k)) (hnm : ∀ a, a < N → ∀ b, b < N → a ≠ b → (T a).2.1 ≠ (T b).2.1) (k : Nat) (hk : k < N) {index : Nat} (hlink : Cond.fieldLink own index (T k).1 (T k).2.1 (T k).2.2.1 ∈ TB) (hfin : (T k).2.2.2 = false) {ty : FieldType} {v : Value} (hd : parseFieldDescriptor (T k).2.2.1 = some ty) (hn : narrow ty v = v) (hfit : fits ty v = true) (hlen : k < fs.length) (hdg : decode cc pc = .ok (.putfield index, 3)) (kk : JA p l e R s m args below meth c D A nL Q (ws.set q0 (a, .inr (ci, fs.set k v))) cells slots (pc + 3) lo st) : JA p l e R s m args below meth c D A nL Q ws cells slots pc lo (v :: .ref a :: st) := fun H locs ls hP hD hS hl => va_put C.1 C.2.1 C.2.2.2.2.1 hin ty0 hty hnm C.2.2.2.1 C.2.2.2.2.2.1 hP hD hS q0 he hc k hk (C.2.2.2.2.1 _ hlink) (fun _ h9 => h9) hfin hd hn hfit hlen hdg (fun H1 locs1 hP1 hD1 hS1 => kk H1 locs1 ls hP1 hD1 hS1 hl)
theorem JA.putF (C : JC p s m args c cc nL own D cI A E) (hin2 : meth.name = "<init>") (q0 : Nat) {a ci : Nat} {fs : List Value} {T : u_T} {N : Nat} (he : ws[q0]? = some (a, .inr (ci, fs))) (hc : CL[ci]? = some (own, T, N)) (hin : ∀ w ∈ u_ws own T N, w ∈ TB) (ty0 : Nat → FieldType) (hty : ∀ k, k < N → parseFieldDescriptor (T k).2.2.1 = some (ty0 k)) (hnm : ∀ a, a < N → ∀ b, b < N → a ≠ b → (T a).2.1 ≠ (T b).2.1) (k : Nat) (hk : k < N) {index : Nat} (hlink : Cond.fieldLink own index (T k).1 (T k).2.1 (T k).2.2.1 ∈ TB) (hfin : (T k).2.2.2 = true) (hdecl : (T k).1 = own) {ty : FieldType} {v : Value} (hd : parseFieldDescriptor (T k).2.2.1 = some ty) (hn : narrow ty v = v) (hfit : fits ty v = true) (hlen : k < fs.length) (hdg : decode cc pc = .ok (.putfield index, 3)) (kk : JA p l e R s m args below meth c D A nL Q (ws.set q0 (a, .inr (ci, fs.set k v))) cells slots (pc + 3) lo st) : JA p l e R s m args below meth c D A nL Q ws cells slots pc lo (v :: .ref a :: st) := fun H locs ls hP hD hS hl => va_putF C.1 C.2.1 C.2.2.2.2.1 hin ty0 hty hnm C.2.2.2.1 C.2.2.2.2.2.1 hP hD hS q0 he hc k hk (C.2.2.2.2.1 _ hlink) (fun _ h9 => h9) hfin hin2 hdecl hd hn hfit hlen hdg (fun H1 locs1 hP1 hD1 hS1 => kk H1 locs1 ls hP1 hD1 hS1 hl)
theorem JA.iast (C : JC p s m args c cc nL own D cI A E) (q0 : Nat) {a n : Nat} {f : Nat → Int32} (he : ws[q0]? = some (a, .inl (cI, n, .inl f))) {i x : Int32} (hin : vp_in i n) (hdg : decode cc pc = .ok (.iastore, 1)) (kk : JA p l e R s m args below meth c D A nL Q (ws.set q0 (a, .inl (cI, n, .inl (upd f (ix i) x)))) cells slots (pc + 1) lo st) : JA p l e R s m args below meth c D A nL Q ws cells slots pc lo (.int x :: .int i :: .ref a :: st) := fun H locs ls hP hD hS hl => va_iast C.1 C.2.1 C.2.2.2.2.2.1 hP hD hS q0 0 he rfl hin hdg (fun H1 locs1 hP1 hD1 hS1 => kk H1 locs1 ls hP1 hD1 hS1 hl)
theorem JA.new (C : JC p s m args c cc nL own D cI A E) (ci : Nat) {Cn : String} {T : u_T} {N idx : Nat} (hc : CL[ci]? = some (Cn, T, N)) (hin : ∀ w ∈ u_ws Cn T N, w ∈ TB) (ty : Nat → FieldType) (hty : ∀ k, k < N → parseFieldDescriptor (T k).2.2.1 = some (ty k)) (hcl : Cond.classLink own idx Cn ∈ TB) (hinst : Cond.instantiable Cn N ∈ TB) (hini : Cond.initialized Cn ∈ TB) (fs : List Value) (hfs : ∀ j, j < N → defaultValue (ty j) = vp_V fs j) (hcells : cells + 1 ≤ R.cells) (hslots : slots + N ≤ R.slots) (hdg : decode cc pc = .ok (.new idx, 3)) (kk : ∀ q : Nat, JA p l e R s m args below meth c D A nL Q (ws ++ [(q, .inr (ci, fs))]) (cells + 1) (slots + N) (pc + 3) lo (.ref q :: st)) : JA p l e R s m args below meth c D A nL Q ws cells slots pc lo st := fun H locs ls hP hD hS hl => va_new C.1 C.2.1 C.2.2.2.2.1 hin ty hty C.2.2.2.1 (C.2.2.2.2.1 _ hcl) (C.2.2.2.2.1 _ hinst) (C.2.2.2.2.1 _ hini) C.2.2.2.2.2.1 hP hD hS C.2.2.2.2.2.2.1 hc hfs hcells hslots hdg (fun q H1 hP1 hD1 hS1 => kk q H1 locs ls hP1 hD1 hS1 hl)
theorem JA.newa (C : JC p s m args c cc nL own D cI A E) {n : Int32} (N1 : Nat) (hn : ¬ n < 0) (hN : n.toNatClampNeg = N1) (hbytes : N1 * componentBytes .int ≤ 536870912) (hcells : cells + 1 ≤ R.cells) (hslots : slots + N1 ≤ R.slots) (hdg : decode cc pc = .ok (.newarray .int, 2)) (kk : ∀ q : Nat, JA p l e R s m args below meth c D A nL Q (ws ++ [(q, .inl (cI, N1, .inl (fun _ => 0)))]) (cells + 1) (slots + N1) (pc + 2) lo (.ref q :: st)) : JA p l e R s m args below meth c D A nL Q ws cells slots pc lo (.int n :: st) := by
  intro H locs ls hP hD hS hl
  refine va_newa (atype := .int) (ty := .int) (a0 := (N1, .inl (fun _ => 0))) C.1 C.2.1 (C.2.2.2.2.1 _ t_arr) rfl C.2.2.2.2.2.1 hP hD hS C.2.2.2.2.2.2.1 (fun _ => rfl) hn hN hbytes hcells hslots hdg (fun q cA H1 hK1 hP1 hD1 hS1 => ?_)
  have e1 := (C.2.2.2.2.2.1.2 0 (cI, .int) rfl).2
  have e2 := (hK1.2 1 (cA, .int) rfl).2
  have e3 : cI = cA := Option.some.inj (Eq.trans (Eq.symm e1) e2)
  subst e3
  exact kk q H1 locs ls hP1 hD1 hS1 hl
theorem JA.objInit (C : JC p s m args c cc nL own D cI A E) {idx a : Nat} (hl1 : Cond.methodLink own idx objectInit ∈ TB) (hd : decode cc pc = .ok (.invokespecial idx, 3)) (hf : 1 ≤ R.frames) (hc : (st.map fun v => v.category).sum ≤ 8) (hR : 20 ≤ R.locals) (kk : JA p l e R s m args below meth c D A nL Q ws cells slots (pc + 3) lo st) : JA p l e R s m args below meth c D A nL Q ws cells slots pc lo (.ref a :: st) := fun H locs ls hP hD hS hl => W.objInit C.1 C.2.1 C.2.2.2.1 (C.2.2.2.2.1 _ hl1) (C.2.2.2.2.1 _ t_oi) (C.2.2.2.2.1 _ t_oc) rfl (hl.1.1.trans C.2.2.1.symm) rfl hd hf (Nat.le_trans (Nat.add_le_add_right (lv_room hc) 12) hR) (kk H locs ls hP hD hS hl)
theorem CK.blind {av : List Value} {sz : Nat} : FrameBlind (va_Pc av (fun U => U.heap.size = sz ∧ va_P D CL ws U.heap ∧ va_K D CL [(cI, .int)] U ∧ va_D (fun _ => True) ws)) := fun a U gg mk q => by
  obtain ⟨q0, q1, qP, qK, qD⟩ := q
  exact ⟨q0, q1, qP, va_K.moved (u := U) (U := U.calling gg mk a) (Vm.Alike.refl U.vm) qK, qD⟩
theorem JA.initCall (C : JC p s m args c cc nL own D cI A E) {wc w0 : va_W} {y : MethodName} {cc' : ByteArray} {maxL fr lc mc ms idx a : Nat} {post : va_W → Prop} (hM : CK l D cI y cc' maxL fr lc mc ms [.ref a] wc post) (hlk : LkI y cc' maxL) (h1 : Cond.methodLink own idx y ∈ TB) (hR : fr + 1 ≤ R.frames ∧ 8 + (maxL + 11) + lc ≤ R.locals) (hf : cells + mc ≤ R.cells ∧ slots + ms ≤ R.slots) (hc : (st.map fun v => v.category).sum ≤ 8) (hdg : decode cc pc = .ok (.invokespecial idx, 3)) (k : ∀ w : va_W, post w → JA p l e R s m args below meth c D A nL Q (w0 ++ w) (cells + mc) (slots + ms) (pc + 3) lo st) : JA p l e R s m args below meth c D A nL Q (w0 ++ wc) cells slots pc lo (.ref a :: st) := by
  intro H locs ls hP hD hS hl
  obtain ⟨hx, hb, hml, hown, hts, hK, hA, hE, hEK⟩ := id C
  obtain ⟨k1, k2, k3, k5, k4⟩ := hlk
  have hF : ∀ q, va_A wc H.size q → A q := by
    intro q h
    rcases h with ⟨k, e, h⟩ | h
    · exact hD.2 _ _ (app_r h)
    · exact hA q (Nat.le_trans hS.1 h)
  refine va_callv (va_runI (As := []) (rest := st) (Ts := TB) (b := a) ⟨hx, hb, hml, hown, hts⟩ (hM H.size) ⟨callB_of 0 hts (TB_goodIn k3) rfl rfl rfl (hts _ k2) (hts _ h1) k4 hR, k5, hts _ k1⟩ ⟨CK.blind, fun U hU hW => ⟨rfl, by rw [hU], by rw [hU]; exact hP.right, va_K.moved hW.alike hK, hD.right.weaken (fun _ _ _ _ => trivial)⟩⟩ rfl rfl hl.1.1 rfl (lv_room hc) hdg hf) hS (fun q _ h => hF q h) hF (fun u t H1 locs1 ht hvm hw hB hz hk hS1 => ?_)
  obtain ⟨hP1, hD1⟩ := hB
  rw [ht] at hP1
  obtain ⟨hP2, hD2⟩ := join_r hP hD hk hF hP1 hD1
  exact k u hw H1 locs1 ls hP2 hD2 hS1 hl
theorem JA.callSv (C : JC p s m args c cc nL own D cI A E) {wf : Sg → va_W} {g : Sg} {y : MethodName} {cc' : ByteArray} {maxL n' fr lc idx : Nat} {av rest : List Value} {r : Sg} (hM : CTv l E D cI wf y cc' maxL fr lc av g r) (hlk : LkS y cc' maxL none n') (h1 : Cond.methodLink own idx y ∈ TB) (hR : fr + 1 ≤ R.frames ∧ 8 + (maxL + 11) + lc ≤ R.locals) (hf : cells + 0 ≤ R.cells ∧ slots + 0 ≤ R.slots) (hn : av.length = n') (hst : st = av.reverse ++ rest) (hc : (rest.map fun v => v.category).sum ≤ 8) (hdg : decode cc pc = .ok (.invokestatic idx, 3)) (k : JA p l e R s m args below meth c D A nL Q (wf r) cells slots (pc + 3) lo rest) : JA p l e R s m args below meth c D A nL Q (wf g) cells slots pc lo st := by
  intro H locs ls hP hD hS hl
  obtain ⟨hx, hb, hml, hown, hts, hK, hA, hE, hEK⟩ := id C
  obtain ⟨k1, k2, k3, k4⟩ := hlk
  have hF := J.freeA C hD hS
  refine va_callv (va_runS (As := av) (rest := rest) (Ts := TB) ⟨hx, hb, hml, hown, hts⟩ (hM H.size) ⟨callB_of n' hts (TB_goodIn k3) rfl rfl rfl (hts _ k2) (hts _ h1) k4 hR, hts _ k1⟩ ⟨PreC.blind hEK av g H.size, fun U hU hW => ⟨rfl, J.pre C hP hD hS hU hW⟩⟩ rfl hn hl.1.1 hst (lv_room hc) hdg hf) hS (fun q _ h => hF q h) hF (fun u t H1 locs1 ht hvm hw hB hz hk hS1 => ?_)
  obtain ⟨hP1, hD1⟩ := hB
  rw [ht] at hP1
  exact k H1 locs1 ls hP1 (hD1.weaken (fun k q _ h => hF q.1 h)) hS1 hl
theorem JA.callL (C : JC p s m args c cc nL own D cI A E) {E1 : Et} (hE1 : ∀ (A : Nat → Prop) (U : State) (H : Heap), E A U H → E1 A U H) (hEK1 : EOK E1) {wf : Sg → va_W} {w0 : va_W} {g g1 : Sg} {x : Int32} {y : MethodName} {cc' : ByteArray} {maxL n' fr lc idx a : Nat} {ret : Option FieldType} {av rest : List Value} (hM : CTi l E1 D cI wf y cc' maxL ret fr lc (.ref a :: av) g (x, g1)) (hlk : LkV y cc' maxL ret n') (h1 : Cond.methodLink own idx y ∈ TB) (ho : isObj wf a y.cls) (hR : fr + 1 ≤ R.frames ∧ 8 + (maxL + 11) + lc ≤ R.locals) (hf : cells + 0 ≤ R.cells ∧ slots + 0 ≤ R.slots) (hn : av.length = n') (hst : st = av.reverse ++ .ref a :: rest) (hc : (rest.map fun v => v.category).sum ≤ 8) (hdg : decode cc pc = .ok (.invokevirtual idx, 3)) (k : JA p l e R s m args below meth c D A nL Q (wf g1 ++ w0) cells slots (pc + 3) lo (.int x :: rest)) : JA p l e R s m args below meth c D A nL Q (wf g ++ w0) cells slots pc lo st := by
  intro H locs ls hP hD hS hl
  obtain ⟨hx, hb, hml, hown, hts, hK, hA, hE, hEK⟩ := id C
  obtain ⟨⟨k0, k1⟩, k2, k3, k4⟩ := hlk
  have hF : ∀ q, va_A (wf g) H.size q → A q := by
    intro q h
    rcases h with ⟨k, e, h⟩ | h
    · exact hD.2 _ _ (app_l h)
    · exact hA q (Nat.le_trans hS.1 h)
  have hE2 : E1 (va_A (wf g) H.size) s H := hE1 _ _ _ (hEK.2.2 A _ s H (hEK.2.1 A s s.heap H hE hS.2.1) hF)
  refine va_calli (va_runV (As := av) (rest := rest) (Ts := TB) (b := a) ⟨hx, hb, hml, hown, hts⟩ (hM H.size) ⟨callB_of n' hts (TB_goodIn k3) rfl rfl rfl (hts _ k2) (hts _ h1) k4 hR, hts _ k0, hts _ k1⟩ ⟨PreC.blind hEK1 (.ref a :: av) g H.size, isObj.recv C ho (va_P.left hP), fun U hU hW => ⟨rfl, by rw [hU], by rw [hU]; exact va_P.left hP, va_K.moved hW.alike hK, (va_D.left hD).weaken (fun _ _ _ _ => trivial), by rw [hU]; exact hEK1.1 _ s U _ (Or.inl hW) hE2⟩⟩ rfl hn hl.1.1 hst (lv_room hc) hdg hf) hS (fun q _ h => hF q h) hF (fun r' u t H1 locs1 ht hvm hw hB hz hk hS1 => ?_)
  obtain ⟨hP1, hD1⟩ := hB
  subst hw
  rw [ht] at hP1
  obtain ⟨hP2, hD2⟩ := join_l hP hD hk hF hP1 hD1
  exact k H1 locs1 ls hP2 hD2 hS1 hl
theorem JA.callR (C : JC p s m args c cc nL own D cI A E) {E1 : Et} (hE1 : ∀ (A : Nat → Prop) (U : State) (H : Heap), E A U H → E1 A U H) (hEK1 : EOK E1) {wf : Sg → va_W} {w0 : va_W} {g g1 : Sg} {x : Int32} {y : MethodName} {cc' : ByteArray} {maxL n' fr lc idx a : Nat} {ret : Option FieldType} {av rest : List Value} (hM : CTi l E1 D cI wf y cc' maxL ret fr lc (.ref a :: av) g (x, g1)) (hlk : LkV y cc' maxL ret n') (h1 : Cond.methodLink own idx y ∈ TB) (ho : isObj wf a y.cls) (hR : fr + 1 ≤ R.frames ∧ 8 + (maxL + 11) + lc ≤ R.locals) (hf : cells + 0 ≤ R.cells ∧ slots + 0 ≤ R.slots) (hn : av.length = n') (hst : st = av.reverse ++ .ref a :: rest) (hc : (rest.map fun v => v.category).sum ≤ 8) (hdg : decode cc pc = .ok (.invokevirtual idx, 3)) (k : JA p l e R s m args below meth c D A nL Q (w0 ++ wf g1) cells slots (pc + 3) lo (.int x :: rest)) : JA p l e R s m args below meth c D A nL Q (w0 ++ wf g) cells slots pc lo st := by
  intro H locs ls hP hD hS hl
  obtain ⟨hx, hb, hml, hown, hts, hK, hA, hE, hEK⟩ := id C
  obtain ⟨⟨k0, k1⟩, k2, k3, k4⟩ := hlk
  have hF : ∀ q, va_A (wf g) H.size q → A q := by
    intro q h
    rcases h with ⟨k, e, h⟩ | h
    · exact hD.2 _ _ (app_r h)
    · exact hA q (Nat.le_trans hS.1 h)
  have hE2 : E1 (va_A (wf g) H.size) s H := hE1 _ _ _ (hEK.2.2 A _ s H (hEK.2.1 A s s.heap H hE hS.2.1) hF)
  refine va_calli (va_runV (As := av) (rest := rest) (Ts := TB) (b := a) ⟨hx, hb, hml, hown, hts⟩ (hM H.size) ⟨callB_of n' hts (TB_goodIn k3) rfl rfl rfl (hts _ k2) (hts _ h1) k4 hR, hts _ k0, hts _ k1⟩ ⟨PreC.blind hEK1 (.ref a :: av) g H.size, isObj.recv C ho (va_P.right hP), fun U hU hW => ⟨rfl, by rw [hU], by rw [hU]; exact va_P.right hP, va_K.moved hW.alike hK, (va_D.right hD).weaken (fun _ _ _ _ => trivial), by rw [hU]; exact hEK1.1 _ s U _ (Or.inl hW) hE2⟩⟩ rfl hn hl.1.1 hst (lv_room hc) hdg hf) hS (fun q _ h => hF q h) hF (fun r' u t H1 locs1 ht hvm hw hB hz hk hS1 => ?_)
  obtain ⟨hP1, hD1⟩ := hB
  subst hw
  rw [ht] at hP1
  obtain ⟨hP2, hD2⟩ := join_r hP hD hk hF hP1 hD1
  exact k H1 locs1 ls hP2 hD2 hS1 hl
theorem CK.of {y : MethodName} {maxL fr lc mc ms : Nat} {av : List Value} {post : va_W → Prop} (hy : plainName y.cls = true) (hlen : (lg_sl av).length ≤ maxL) (hcat : (lv_args 0 av).all (fun q => Nat.beq q.2.category 1) = true) (hnm : y.name = "<init>")
    (body : ∀ (p : Program) (e : Env) (s : State) (m : MethodId) (args : Array Value) (below : List Frame) (meth : Method) (c : Code) (A : Nat → Prop) (Q : State → Prop), JC p s m args c cc maxL y.cls D cI A E0 → meth.name = "<init>" → (∀ {pc : Nat} {lo : List (Nat × Value)} {w : va_W}, decode cc pc = .ok (.return_, 1) → post w → JA p l e (RK fr lc mc ms) s m args below meth c D A maxL Q w mc ms pc lo []) → JA p l e (RK fr lc mc ms) s m args below meth c D A maxL Q ws 0 0 0 (lv_args 0 av) []) : CK l D cI y cc maxL fr lc mc ms av ws post := by
  intro sz
  refine Met.ofW (cc := cc) (maxL := maxL) (ret := none) hy rfl ?_
  intro p e s m args below meth c s₁ B hml hv
  obtain ⟨rfl, hsz, hP, hK, hD0⟩ := hv
  have hx := B.exec
  have hb := B.bytes
  have hr := B.returns
  have hts : ∀ w ∈ TB, w.before av.toArray s = true := fun w hw => atoms_spec (ws := .code y cc maxL none :: TB) B.pre w (List.mem_cons_of_mem _ hw)
  have hown : s.vm.findClass y.cls = some m.cls := findClass_of_methodNamed B.named
  have hlocks := B.notSynchronized
  have hin : meth.name = "<init>" := ((name_of_methodNamed B.named B.method).1).trans hnm
  subst hsz
  have hD := hD0.self (sz := s.heap.size)
  have hl := lv_entry av (n := maxL) hlen
  rw [lg_entry_eq]
  exact body p e s m av.toArray below meth c (va_A ws s.heap.size) _ ⟨hx, hb, hml, hown, hts, hK, fun q h => Or.inr h, trivial, E0_ok⟩ hin (fun hdg hw H locs ls hP hD hS hl => W.vret hx hb hr (fun t ht hW => ⟨⟨_, rfl, hw, by rw [ht]; exact hP, hD⟩, hS.F ht⟩) hS.2.2 hdg hlocks) s.heap [] _ hP hD va_S.rf ⟨hl, fun q hq => Nat.eq_of_beq_eq_true (List.all_eq_true.mp hcat q hq)⟩
end JAS
set_option maxRecDepth 100000 in
set_option maxHeartbeats 4000000 in
theorem C_X4_putG {l : Launch} {D : va_G} {q : Nat → Nat} {cI : ClassId} {E : Et} {wf : Sg → va_W} (hE : EOK E) {k1 n1 : Nat} (hk1 : isArr wf cI (q k1) k1 n1) {x1 x2 : Int32} {g : Sg} {r : Sg} (h : M_X4_put k1 n1 x1 x2 g = some r) : CTv l E D cI wf yX4_put cX4_put 3 0 0 [.ref (q k1), .int x1, .int x2] g r := by
  refine CTv.of2 (by decide) hE (Nat.le_of_ble_eq_true rfl) rfl (fun p e s m args below meth c A Q C hret => ?_)
  have hM := h
  unfold M_X4_put at hM
  refine J.iload_n (pc := 0) C dX4_put_0 rfl rfl ?_
  refine J.if_lt (pc := 1) C 14 dX4_put_1 (by decide) (fun hc => ?_) (fun hc => ?_)
  · have hM := ite_t hc hM
    exact hret dX4_put_14 hM
  · have hM := ite_f hc hM
    refine J.iload_n (pc := 4) C dX4_put_4 rfl rfl ?_
    refine J.aload_n (pc := 5) C dX4_put_5 rfl rfl ?_
    refine J.alen (pc := 6) C hk1 dX4_put_6 ?_
    refine J.icmp_ge (pc := 7) C 14 dX4_put_7 (by decide) (fun hc => ?_) (fun hc => ?_)
    · have hM := ite_t hc hM
      exact hret dX4_put_14 hM
    · have hM := ite_f hc hM
      refine J.aload_n (pc := 10) C dX4_put_10 rfl rfl ?_
      refine J.iload_n (pc := 11) C dX4_put_11 rfl rfl ?_
      refine J.iload_n (pc := 12) C dX4_put_12 rfl rfl ?_
      obtain ⟨hv, hM⟩ := chk_ex hM
      refine J.iast (pc := 13) C hk1 hv dX4_put_13 ?_
      obtain ⟨_, ea, hM⟩ := lt_ex hM
      refine J.cong C ea ?_
      exact hret dX4_put_14 hM
