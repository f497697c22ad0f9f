/-! The J layer: a walk over a fixed set of cells, whose contents are a pair of functions -/
abbrev Sg : Type := (Nat → Int32) × (Nat → Nat → Int32)
def sI (g : Sg) (k : Nat) (v : Int32) : Sg := (fun j => if j = k then v else g.1 j, g.2)
def sF (g : Sg) (k : Nat) (f : Nat → Int32) : Sg := (g.1, fun j => if j = k then f else g.2 j)
abbrev ix (i : Int32) : Nat := i.toNatClampNeg
def rd (g : Sg) (k : Nat) (i : Int32) : Int32 := g.2 k (ix i)
def wr (g : Sg) (k : Nat) (i x : Int32) : Sg := sF g k (upd (g.2 k) (ix i) x)
abbrev CL : List vw_C := [(RX0, TX0, 8), (RX1, TX1, 3), (RX2, TX2, 2), (RX3, TX3, 4), (RX5, TX5, 17), (RX6, TX6, 11), (RX7, TX7, 31)]
def TB : List Cond := lw_tbl.filter goodWord
theorem tbm {w : Cond} (i : Nat) (h : lw_tbl[i]? = some w) (hg : goodWord w = true) : w ∈ TB := List.mem_filter.mpr ⟨List.mem_of_getElem? h, hg⟩
theorem TB_good : ∀ w ∈ TB, goodWord w = true := fun _ h => (List.mem_filter.mp h).2
theorem TB_of {args : Array Value} {s : State} (h : ∀ w ∈ lw_tbl, w.before args s = true) : ∀ w ∈ TB, w.before args s = true := fun w hw => h w (List.mem_filter.mp hw).1
/-- what a walk stands on beside its cells: nothing of it changes while nobody writes out of A -/
abbrev Et : Type := (Nat → Prop) → State → Heap → Prop
def EOK (E : Et) : Prop := (∀ (A : Nat → Prop) (u U : State) (H : Heap), (u.WarmedH U.vm ∨ U.vm = u.vm) → E A u H → E A U H) ∧ (∀ (A : Nat → Prop) (U : State) (H H1 : Heap), E A U H → (∀ a : Nat, a < H.size → ¬ A a → H1[a]? = H[a]?) → E A U H1) ∧ (∀ (A B : Nat → Prop) (U : State) (H : Heap), E A U H → (∀ q, B q → A q) → E B U H)
def lkp : List (Nat × Value) → Nat → Option Value
  | [], _ => none
  | (j, w) :: r, i => cond (Nat.beq j i) (some w) (lkp r i)
theorem lkp_mem : ∀ {lo : List (Nat × Value)} {i : Nat} {v : Value}, lkp lo i = some v → (i, v) ∈ lo
  | [], _, _, h => by cases h
  | (j, w) :: r, i, v, h => by
    unfold lkp at h
    cases hb : Nat.beq j i with
    | true =>
      rw [hb] at h
      have e : j = i := Nat.eq_of_beq_eq_true hb
      subst e
      cases h
      exact List.mem_cons_self
    | false =>
      rw [hb] at h
      exact List.mem_cons_of_mem _ (lkp_mem h)
def lset : List (Nat × Value) → Nat → Value → List (Nat × Value)
  | [], i, v => [(i, v)]
  | (j, w) :: r, i, v => cond (Nat.beq j i) ((i, v) :: lset r i v) (cond (Nat.ble i j) ((i, v) :: (j, w) :: lset r i v) ((j, w) :: lset r i v))
theorem lset_mem : ∀ {lo : List (Nat × Value)} {i : Nat} {v : Value} {q : Nat × Value}, q ∈ lset lo i v → q = (i, v) ∨ (q ∈ lo ∧ q.1 ≠ i)
  | [], i, v, q, h => by
    unfold lset at h
    exact Or.inl (List.mem_singleton.mp h)
  | (j, w) :: r, i, v, q, h => by
    unfold lset at h
    cases hb : Nat.beq j i with
    | true =>
      rw [hb] at h
      rcases List.mem_cons.mp h with h | h
      · exact Or.inl h
      · rcases lset_mem h with h | h
        · exact Or.inl h
        · exact Or.inr ⟨List.mem_cons_of_mem _ h.1, h.2⟩
    | false =>
      rw [hb] at h
      have hne : j ≠ i := fun e => by rw [e, Nat.beq_refl] at hb; cases hb
      have key : q ∈ (j, w) :: lset r i v → q = (i, v) ∨ (q ∈ (j, w) :: r ∧ q.1 ≠ i) := by
        intro h
        rcases List.mem_cons.mp h with h | h
        · exact Or.inr ⟨by rw [h]; exact List.mem_cons_self, by rw [h]; exact hne⟩
        · rcases lset_mem h with h | h
          · exact Or.inl h
          · exact Or.inr ⟨List.mem_cons_of_mem _ h.1, h.2⟩
      cases hb2 : Nat.ble i j with
      | true =>
        rw [hb2] at h
        rcases List.mem_cons.mp h with h | h
        · exact Or.inl h
        · exact key h
      | false =>
        rw [hb2] at h
        exact key h
def lpick (lo : List (Nat × Value)) : List Nat → List (Nat × Value)
  | [] => []
  | i :: r => match lkp lo i with
    | some v => (i, v) :: lpick lo r
    | none => lpick lo r
theorem lpick_mem {lo : List (Nat × Value)} : ∀ {ks : List Nat} {q : Nat × Value}, q ∈ lpick lo ks → q ∈ lo
  | [], _, h => by cases h
  | i :: r, q, h => by
    unfold lpick at h
    cases hk : lkp lo i with
    | none =>
      rw [hk] at h
      exact lpick_mem h
    | some v =>
      rw [hk] at h
      rcases List.mem_cons.mp h with h | h
      · rw [h]; exact lkp_mem hk
      · exact lpick_mem h
def lvs (ls : Array Slot) (n : Nat) (lo : List (Nat × Value)) : Prop := lv_has ls n lo ∧ ∀ q ∈ lo, q.2.category = 1
theorem lvs.at {ls : Array Slot} {n : Nat} {lo : List (Nat × Value)} (h : lvs ls n lo) {i : Nat} {v : Value} (hk : lkp lo i = some v) : ls[i]? = some (.val v) := h.1.2.2 (i, v) (lkp_mem hk)
theorem lvs.put {ls : Array Slot} {n i : Nat} {lo : List (Nat × Value)} {v : Value} (h : lv_has ls n ((i, v) :: lo.filter (fun q => !(q.1 == i) && !(q.1 + 1 == i && q.2.category == 2)))) (hc : ∀ q ∈ lo, q.2.category = 1) (hv : v.category = 1) : lvs ls n (lset lo i v) := by
  refine ⟨⟨h.1, h.2.1, fun q hq => ?_⟩, fun q hq => ?_⟩
  · rcases lset_mem hq with e | ⟨h1, h2⟩
    · exact h.2.2 q (by rw [e]; exact List.mem_cons_self)
    · refine h.2.2 q (List.mem_cons_of_mem _ (List.mem_filter.mpr ⟨h1, ?_⟩))
      simp [hc q h1, h2]
  · rcases lset_mem hq with e | ⟨h1, h2⟩
    · rw [e]; exact hv
    · exact hc q h1
theorem mabs_s : Cond.static Lib.Math.abs.name ∈ TB := tbm 425 (by decide +kernel) (by decide +kernel)
theorem mabs_c : Cond.code Lib.Math.abs.name Lib.Math.abs.code 1 (some .int) ∈ TB := tbm 426 (by decide +kernel) (by decide +kernel)
theorem mmin_s : Cond.static Lib.Math.min.name ∈ TB := tbm 448 (by decide +kernel) (by decide +kernel)
theorem mmin_c : Cond.code Lib.Math.min.name Lib.Math.min.code 2 (some .int) ∈ TB := tbm 449 (by decide +kernel) (by decide +kernel)
theorem mmax_s : Cond.static Lib.Math.max.name ∈ TB := tbm 445 (by decide +kernel) (by decide +kernel)
theorem mmax_c : Cond.code Lib.Math.max.name Lib.Math.max.code 2 (some .int) ∈ TB := tbm 446 (by decide +kernel) (by decide +kernel)
theorem math_i : Cond.initialized "java/lang/Math" ∈ TB := tbm 52 (by decide +kernel) (by decide +kernel)
section JAY
variable {p : Program} {l : Launch} {e : Env} {R : Room} {s : State} {m : MethodId} {args : Array Value} {below : List Frame} {meth : Method} {c : Code} {Q : State → Prop} {cc : ByteArray} {nL : Nat} {own : String} {D : va_G} {cI : ClassId} {wf : Sg → va_W} {A : Nat → Prop} {E : Et} {g g' : Sg} {pc : Nat} {lo : List (Nat × Value)} {st : List Value}
def JC (p : Program) (s : State) (m : MethodId) (args : Array Value) (c : Code) (cc : ByteArray) (nL : Nat) (own : String) (D : va_G) (cI : ClassId) (A : Nat → Prop) (E : Et) : Prop :=
  p.tables.exec = Jvm.exec ∧ c.code = cc ∧ c.maxLocals = nL ∧ s.vm.findClass own = some m.cls ∧ (∀ w ∈ TB, w.before args s = true) ∧ va_K D CL [(cI, .int)] s ∧ (∀ q : Nat, s.heap.size ≤ q → A q) ∧ E A s s.heap ∧ EOK E
def J (p : Program) (l : Launch) (e : Env) (R : Room) (s : State) (m : MethodId) (args : Array Value) (below : List Frame) (meth : Method) (c : Code) (D : va_G) (wf : Sg → va_W) (A : Nat → Prop) (nL : Nat) (Q : State → Prop) (g : Sg) (pc : Nat) (lo : List (Nat × Value)) (st : List Value) : Prop :=
  ∀ (H : Heap) (locs : List Loc) (ls : Array Slot), va_P D CL (wf g) H → va_D A (wf g) → va_S A s.heap H locs → lvs ls nL lo → W p l e R s m args below meth c H locs 0 0 Q (F0 m pc ls st)
theorem J.sub (C : JC p s m args c cc nL own D cI A E) (ks : List Nat) {lo' : List (Nat × Value)} (h : lpick lo ks = lo') (k : J p l e R s m args below meth c D wf A nL Q g pc lo' st) : J p l e R s m args below meth c D wf A nL Q g pc lo st := fun H locs ls hP hD hS hl => k H locs ls hP hD hS ⟨⟨hl.1.1, hl.1.2.1, fun q hq => hl.1.2.2 q (by rw [← h] at hq; exact lpick_mem hq)⟩, fun q hq => hl.2 q (by rw [← h] at hq; exact lpick_mem hq)⟩
theorem J.cong (C : JC p s m args c cc nL own D cI A E) {g' : Sg} (h : g = g') (k : J p l e R s m args below meth c D wf A nL Q g' pc lo st) : J p l e R s m args below meth c D wf A nL Q g pc lo st := h ▸ k
theorem J.iconst (C : JC p s m args c cc nL own D cI A E) {n : Int} (v : Int32) (hdg : decode cc pc = .ok (.iconst n, 1)) (hv : Int32.ofInt n = v) (k : J p l e R s m args below meth c D wf A nL Q g (pc + 1) lo (.int v :: st)) : J p l e R s m args below meth c D wf A nL Q g pc lo st := fun H locs ls hP hD hS hl => lv_iconst C.1 C.2.1 hdg hv (k H locs ls hP hD hS hl)
theorem J.bipush (C : JC p s m args c cc nL own D cI A E) {n : Int} (v : Int32) (hdg : decode cc pc = .ok (.bipush n, 2)) (hv : (Int8.ofInt n).toInt32 = v) (k : J p l e R s m args below meth c D wf A nL Q g (pc + 2) lo (.int v :: st)) : J p l e R s m args below meth c D wf A nL Q g pc lo st := fun H locs ls hP hD hS hl => lv_bipush C.1 C.2.1 hdg hv (k H locs ls hP hD hS hl)
theorem J.sipush (C : JC p s m args c cc nL own D cI A E) {n : Int} (v : Int32) (hdg : decode cc pc = .ok (.sipush n, 3)) (hv : (Int16.ofInt n).toInt32 = v) (k : J p l e R s m args below meth c D wf A nL Q g (pc + 3) lo (.int v :: st)) : J p l e R s m args below meth c D wf A nL Q g pc lo st := fun H locs ls hP hD hS hl => lv_sipush C.1 C.2.1 hdg hv (k H locs ls hP hD hS hl)
theorem J.ldc (C : JC p s m args c cc nL own D cI A E) {index : Nat} {v : Int32} (hconst : Jvm.Cond.constant own index v ∈ TB) (hdg : decode cc pc = .ok (.ldc index, 2)) (k : J p l e R s m args below meth c D wf A nL Q g (pc + 2) lo (.int v :: st)) : J p l e R s m args below meth c D wf A nL Q g pc lo st := fun H locs ls hP hD hS hl => lv_ldc C.1 C.2.1 C.2.2.2.1 (C.2.2.2.2.1 _ hconst) hdg (k H locs ls hP hD hS hl)
theorem J.iload_n (C : JC p s m args c cc nL own D cI A E) {k0 : Fin 4} {i : Nat} {x : Int32} (hdg : decode cc pc = .ok (.iload_n k0, 1)) (hi : (k0 : Nat) = i) (hl0 : lkp lo i = some (.int x)) (k : J p l e R s m args below meth c D wf A nL Q g (pc + 1) lo (.int x :: st)) : J p l e R s m args below meth c D wf A nL Q g pc lo st := fun H locs ls hP hD hS hl => lv_iload_n C.1 C.2.1 hdg hi (hl.at hl0) (k H locs ls hP hD hS hl)
theorem J.iload (C : JC p s m args c cc nL own D cI A E) {i : Nat} {x : Int32} (hdg : decode cc pc = .ok (.iload i, 2)) (hl0 : lkp lo i = some (.int x)) (k : J p l e R s m args below meth c D wf A nL Q g (pc + 2) lo (.int x :: st)) : J p l e R s m args below meth c D wf A nL Q g pc lo st := fun H locs ls hP hD hS hl => lv_iload C.1 C.2.1 hdg (hl.at hl0) (k H locs ls hP hD hS hl)
theorem J.aload_n (C : JC p s m args c cc nL own D cI A E) {k0 : Fin 4} {i : Nat} {x : Nat} (hdg : decode cc pc = .ok (.aload_n k0, 1)) (hi : (k0 : Nat) = i) (hl0 : lkp lo i = some (.ref x)) (k : J p l e R s m args below meth c D wf A nL Q g (pc + 1) lo (.ref x :: st)) : J p l e R s m args below meth c D wf A nL Q g pc lo st := fun H locs ls hP hD hS hl => lv_aload_n C.1 C.2.1 hdg hi (hl.at hl0) (k H locs ls hP hD hS hl)
theorem J.aload (C : JC p s m args c cc nL own D cI A E) {i : Nat} {x : Nat} (hdg : decode cc pc = .ok (.aload i, 2)) (hl0 : lkp lo i = some (.ref x)) (k : J p l e R s m args below meth c D wf A nL Q g (pc + 2) lo (.ref x :: st)) : J p l e R s m args below meth c D wf A nL Q g pc lo st := fun H locs ls hP hD hS hl => lv_aload C.1 C.2.1 hdg (hl.at hl0) (k H locs ls hP hD hS hl)
theorem J.istore_n (C : JC p s m args c cc nL own D cI A E) {k0 : Fin 4} {i : Nat} {x : Int32} (hdg : decode cc pc = .ok (.istore_n k0, 1)) (hi : (k0 : Nat) = i) (hn : i < nL) (k : J p l e R s m args below meth c D wf A nL Q g (pc + 1) (lset lo i (.int x)) st) : J p l e R s m args below meth c D wf A nL Q g pc lo (.int x :: st) := fun H locs ls hP hD hS hl => lv_istore_n C.1 C.2.1 hdg hi hl.1 hn rfl (fun ls' h' => k H locs ls' hP hD hS (lvs.put h' hl.2 rfl))
theorem J.istore (C : JC p s m args c cc nL own D cI A E) {i : Nat} {x : Int32} (hdg : decode cc pc = .ok (.istore i, 2)) (hn : i < nL) (k : J p l e R s m args below meth c D wf A nL Q g (pc + 2) (lset lo i (.int x)) st) : J p l e R s m args below meth c D wf A nL Q g pc lo (.int x :: st) := fun H locs ls hP hD hS hl => lv_istore C.1 C.2.1 hdg hl.1 hn rfl (fun ls' h' => k H locs ls' hP hD hS (lvs.put h' hl.2 rfl))
theorem J.iinc (C : JC p s m args c cc nL own D cI A E) {i : Nat} {n : Int} {x : Int32} (v : Int32) (hdg : decode cc pc = .ok (.iinc i n, 3)) (hv : Int32.ofInt n = v) (hl0 : lkp lo i = some (.int x)) (hn : i < nL) (k : J p l e R s m args below meth c D wf A nL Q g (pc + 3) (lset lo i (.int (x + v))) st) : J p l e R s m args below meth c D wf A nL Q g pc lo st := by
  intro H locs ls hP hD hS hl
  obtain ⟨j, hj⟩ := List.getElem?_of_mem (lkp_mem hl0)
  exact lv_iinc (k := j) C.1 C.2.1 hdg hl.1 hj (by rw [hv]) hn rfl (fun ls' h' => k H locs ls' hP hD hS (lvs.put h' hl.2 rfl))
theorem J.iadd (C : JC p s m args c cc nL own D cI A E) {x y : Int32} (hdg : decode cc pc = .ok (.iadd, 1)) (k : J p l e R s m args below meth c D wf A nL Q g (pc + 1) lo (.int (x + y) :: st)) : J p l e R s m args below meth c D wf A nL Q g pc lo (.int y :: .int x :: st) := fun H locs ls hP hD hS hl => lv_iadd C.1 C.2.1 hdg (k H locs ls hP hD hS hl)
theorem J.isub (C : JC p s m args c cc nL own D cI A E) {x y : Int32} (hdg : decode cc pc = .ok (.isub, 1)) (k : J p l e R s m args below meth c D wf A nL Q g (pc + 1) lo (.int (x - y) :: st)) : J p l e R s m args below meth c D wf A nL Q g pc lo (.int y :: .int x :: st) := fun H locs ls hP hD hS hl => lv_isub C.1 C.2.1 hdg (k H locs ls hP hD hS hl)
theorem J.imul (C : JC p s m args c cc nL own D cI A E) {x y : Int32} (hdg : decode cc pc = .ok (.imul, 1)) (k : J p l e R s m args below meth c D wf A nL Q g (pc + 1) lo (.int (x * y) :: st)) : J p l e R s m args below meth c D wf A nL Q g pc lo (.int y :: .int x :: st) := fun H locs ls hP hD hS hl => lv_imul C.1 C.2.1 hdg (k H locs ls hP hD hS hl)
theorem J.iand (C : JC p s m args c cc nL own D cI A E) {x y : Int32} (hdg : decode cc pc = .ok (.iand, 1)) (k : J p l e R s m args below meth c D wf A nL Q g (pc + 1) lo (.int (x &&& y) :: st)) : J p l e R s m args below meth c D wf A nL Q g pc lo (.int y :: .int x :: st) := fun H locs ls hP hD hS hl => lv_iand C.1 C.2.1 hdg (k H locs ls hP hD hS hl)
theorem J.ior (C : JC p s m args c cc nL own D cI A E) {x y : Int32} (hdg : decode cc pc = .ok (.ior, 1)) (k : J p l e R s m args below meth c D wf A nL Q g (pc + 1) lo (.int (x ||| y) :: st)) : J p l e R s m args below meth c D wf A nL Q g pc lo (.int y :: .int x :: st) := fun H locs ls hP hD hS hl => lv_ior C.1 C.2.1 hdg (k H locs ls hP hD hS hl)
theorem J.ixor (C : JC p s m args c cc nL own D cI A E) {x y : Int32} (hdg : decode cc pc = .ok (.ixor, 1)) (k : J p l e R s m args below meth c D wf A nL Q g (pc + 1) lo (.int (x ^^^ y) :: st)) : J p l e R s m args below meth c D wf A nL Q g pc lo (.int y :: .int x :: st) := fun H locs ls hP hD hS hl => lv_ixor C.1 C.2.1 hdg (k H locs ls hP hD hS hl)
theorem J.ishl (C : JC p s m args c cc nL own D cI A E) {x y : Int32} (hdg : decode cc pc = .ok (.ishl, 1)) (k : J p l e R s m args below meth c D wf A nL Q g (pc + 1) lo (.int (x <<< (y &&& 31)) :: st)) : J p l e R s m args below meth c D wf A nL Q g pc lo (.int y :: .int x :: st) := fun H locs ls hP hD hS hl => lv_ishl C.1 C.2.1 hdg (k H locs ls hP hD hS hl)
theorem J.ishr (C : JC p s m args c cc nL own D cI A E) {x y : Int32} (hdg : decode cc pc = .ok (.ishr, 1)) (k : J p l e R s m args below meth c D wf A nL Q g (pc + 1) lo (.int (x >>> (y &&& 31)) :: st)) : J p l e R s m args below meth c D wf A nL Q g pc lo (.int y :: .int x :: st) := fun H locs ls hP hD hS hl => lv_ishr C.1 C.2.1 hdg (k H locs ls hP hD hS hl)
theorem J.idiv (C : JC p s m args c cc nL own D cI A E) {x y : Int32} (hdg : decode cc pc = .ok (.idiv, 1)) (hne : ¬ y = 0) (k : J p l e R s m args below meth c D wf A nL Q g (pc + 1) lo (.int (x / y) :: st)) : J p l e R s m args below meth c D wf A nL Q g pc lo (.int y :: .int x :: st) := fun H locs ls hP hD hS hl => lv_idiv C.1 C.2.1 hdg hne (k H locs ls hP hD hS hl)
theorem J.irem (C : JC p s m args c cc nL own D cI A E) {x y : Int32} (hdg : decode cc pc = .ok (.irem, 1)) (hne : ¬ y = 0) (k : J p l e R s m args below meth c D wf A nL Q g (pc + 1) lo (.int (x - x / y * y) :: st)) : J p l e R s m args below meth c D wf A nL Q g pc lo (.int y :: .int x :: st) := fun H locs ls hP hD hS hl => lv_irem C.1 C.2.1 hdg hne (k H locs ls hP hD hS hl)
theorem J.ineg (C : JC p s m args c cc nL own D cI A E) {x : Int32} (hdg : decode cc pc = .ok (.ineg, 1)) (k : J p l e R s m args below meth c D wf A nL Q g (pc + 1) lo (.int (-x) :: st)) : J p l e R s m args below meth c D wf A nL Q g pc lo (.int x :: st) := fun H locs ls hP hD hS hl => lv_ineg C.1 C.2.1 hdg (k H locs ls hP hD hS hl)
theorem J.dup (C : JC p s m args c cc nL own D cI A E) {va : Value} (hdg : decode cc pc = .ok (.dup, 1)) (hva : va.category = 1) (k : J p l e R s m args below meth c D wf A nL Q g (pc + 1) lo (va :: va :: st)) : J p l e R s m args below meth c D wf A nL Q g pc lo (va :: st) := fun H locs ls hP hD hS hl => lv_dup C.1 C.2.1 hdg hva (k H locs ls hP hD hS hl)
theorem J.dup_x1 (C : JC p s m args c cc nL own D cI A E) {va vb : Value} (hdg : decode cc pc = .ok (.dup_x1, 1)) (hva : va.category = 1) (hvb : vb.category = 1) (k : J p l e R s m args below meth c D wf A nL Q g (pc + 1) lo (va :: vb :: va :: st)) : J p l e R s m args below meth c D wf A nL Q g pc lo (va :: vb :: st) := fun H locs ls hP hD hS hl => lv_dup_x1 C.1 C.2.1 hdg hva hvb (k H locs ls hP hD hS hl)
theorem J.dup2 (C : JC p s m args c cc nL own D cI A E) {va vb : Value} (hdg : decode cc pc = .ok (.dup2, 1)) (hva : va.category = 1) (hvb : vb.category = 1) (k : J p l e R s m args below meth c D wf A nL Q g (pc + 1) lo (va :: vb :: va :: vb :: st)) : J p l e R s m args below meth c D wf A nL Q g pc lo (va :: vb :: st) := fun H locs ls hP hD hS hl => lv_dup2_11 C.1 C.2.1 hdg hva hvb (k H locs ls hP hD hS hl)
theorem J.pop (C : JC p s m args c cc nL own D cI A E) {va : Value} (hdg : decode cc pc = .ok (.pop, 1)) (hva : va.category = 1) (k : J p l e R s m args below meth c D wf A nL Q g (pc + 1) lo st) : J p l e R s m args below meth c D wf A nL Q g pc lo (va :: st) := fun H locs ls hP hD hS hl => lv_pop C.1 C.2.1 hdg hva (k H locs ls hP hD hS hl)
theorem J.goto (C : JC p s m args c cc nL own D cI A E) {off : Int} (tgt : Nat) (hdg : decode cc pc = .ok (.goto off, 3)) (ht : (pc : Int) + off = (tgt : Int)) (k : J p l e R s m args below meth c D wf A nL Q g tgt lo st) : J p l e R s m args below meth c D wf A nL Q g pc lo st := fun H locs ls hP hD hS hl => lv_goto C.1 C.2.1 hdg ht (k H locs ls hP hD hS hl)
theorem J.if_eq (C : JC p s m args c cc nL own D cI A E) {x : Int32} {off : Int} (tgt : Nat) (hdg : decode cc pc = .ok (.ifCond .eq off, 3)) (ht : (pc : Int) + off = (tgt : Int)) (kt : x = 0 → J p l e R s m args below meth c D wf A nL Q g tgt lo st) (kf : ¬ x = 0 → J p l e R s m args below meth c D wf A nL Q g (pc + 3) lo st) : J p l e R s m args below meth c D wf A nL Q g pc lo (.int x :: st) := fun H locs ls hP hD hS hl => lv_if_eq C.1 C.2.1 hdg ht (fun h => kt h H locs ls hP hD hS hl) (fun h => kf h H locs ls hP hD hS hl)
theorem J.if_ne (C : JC p s m args c cc nL own D cI A E) {x : Int32} {off : Int} (tgt : Nat) (hdg : decode cc pc = .ok (.ifCond .ne off, 3)) (ht : (pc : Int) + off = (tgt : Int)) (kt : ¬ x = 0 → J p l e R s m args below meth c D wf A nL Q g tgt lo st) (kf : x = 0 → J p l e R s m args below meth c D wf A nL Q g (pc + 3) lo st) : J p l e R s m args below meth c D wf A nL Q g pc lo (.int x :: st) := fun H locs ls hP hD hS hl => lv_if_ne C.1 C.2.1 hdg ht (fun h => kt h H locs ls hP hD hS hl) (fun h => kf h H locs ls hP hD hS hl)
theorem J.if_lt (C : JC p s m args c cc nL own D cI A E) {x : Int32} {off : Int} (tgt : Nat) (hdg : decode cc pc = .ok (.ifCond .lt off, 3)) (ht : (pc : Int) + off = (tgt : Int)) (kt : x < 0 → J p l e R s m args below meth c D wf A nL Q g tgt lo st) (kf : ¬ x < 0 → J p l e R s m args below meth c D wf A nL Q g (pc + 3) lo st) : J p l e R s m args below meth c D wf A nL Q g pc lo (.int x :: st) := fun H locs ls hP hD hS hl => lv_if_lt C.1 C.2.1 hdg ht (fun h => kt h H locs ls hP hD hS hl) (fun h => kf h H locs ls hP hD hS hl)
theorem J.if_ge (C : JC p s m args c cc nL own D cI A E) {x : Int32} {off : Int} (tgt : Nat) (hdg : decode cc pc = .ok (.ifCond .ge off, 3)) (ht : (pc : Int) + off = (tgt : Int)) (kt : 0 ≤ x → J p l e R s m args below meth c D wf A nL Q g tgt lo st) (kf : ¬ 0 ≤ x → J p l e R s m args below meth c D wf A nL Q g (pc + 3) lo st) : J p l e R s m args below meth c D wf A nL Q g pc lo (.int x :: st) := fun H locs ls hP hD hS hl => lv_if_ge C.1 C.2.1 hdg ht (fun h => kt h H locs ls hP hD hS hl) (fun h => kf h H locs ls hP hD hS hl)
theorem J.if_gt (C : JC p s m args c cc nL own D cI A E) {x : Int32} {off : Int} (tgt : Nat) (hdg : decode cc pc = .ok (.ifCond .gt off, 3)) (ht : (pc : Int) + off = (tgt : Int)) (kt : 0 < x → J p l e R s m args below meth c D wf A nL Q g tgt lo st) (kf : ¬ 0 < x → J p l e R s m args below meth c D wf A nL Q g (pc + 3) lo st) : J p l e R s m args below meth c D wf A nL Q g pc lo (.int x :: st) := fun H locs ls hP hD hS hl => lv_if_gt C.1 C.2.1 hdg ht (fun h => kt h H locs ls hP hD hS hl) (fun h => kf h H locs ls hP hD hS hl)
theorem J.if_le (C : JC p s m args c cc nL own D cI A E) {x : Int32} {off : Int} (tgt : Nat) (hdg : decode cc pc = .ok (.ifCond .le off, 3)) (ht : (pc : Int) + off = (tgt : Int)) (kt : x ≤ 0 → J p l e R s m args below meth c D wf A nL Q g tgt lo st) (kf : ¬ x ≤ 0 → J p l e R s m args below meth c D wf A nL Q g (pc + 3) lo st) : J p l e R s m args below meth c D wf A nL Q g pc lo (.int x :: st) := fun H locs ls hP hD hS hl => lv_if_le C.1 C.2.1 hdg ht (fun h => kt h H locs ls hP hD hS hl) (fun h => kf h H locs ls hP hD hS hl)
theorem J.icmp_eq (C : JC p s m args c cc nL own D cI A E) {x y : Int32} {off : Int} (tgt : Nat) (hdg : decode cc pc = .ok (.if_icmp .eq off, 3)) (ht : (pc : Int) + off = (tgt : Int)) (kt : x = y → J p l e R s m args below meth c D wf A nL Q g tgt lo st) (kf : ¬ x = y → J p l e R s m args below meth c D wf A nL Q g (pc + 3) lo st) : J p l e R s m args below meth c D wf A nL Q g pc lo (.int y :: .int x :: st) := fun H locs ls hP hD hS hl => lv_icmp_eq C.1 C.2.1 hdg ht (fun h => kt h H locs ls hP hD hS hl) (fun h => kf h H locs ls hP hD hS hl)
theorem J.icmp_ne (C : JC p s m args c cc nL own D cI A E) {x y : Int32} {off : Int} (tgt : Nat) (hdg : decode cc pc = .ok (.if_icmp .ne off, 3)) (ht : (pc : Int) + off = (tgt : Int)) (kt : ¬ x = y → J p l e R s m args below meth c D wf A nL Q g tgt lo st) (kf : x = y → J p l e R s m args below meth c D wf A nL Q g (pc + 3) lo st) : J p l e R s m args below meth c D wf A nL Q g pc lo (.int y :: .int x :: st) := fun H locs ls hP hD hS hl => lv_icmp_ne C.1 C.2.1 hdg ht (fun h => kt h H locs ls hP hD hS hl) (fun h => kf h H locs ls hP hD hS hl)
theorem J.icmp_lt (C : JC p s m args c cc nL own D cI A E) {x y : Int32} {off : Int} (tgt : Nat) (hdg : decode cc pc = .ok (.if_icmp .lt off, 3)) (ht : (pc : Int) + off = (tgt : Int)) (kt : x < y → J p l e R s m args below meth c D wf A nL Q g tgt lo st) (kf : ¬ x < y → J p l e R s m args below meth c D wf A nL Q g (pc + 3) lo st) : J p l e R s m args below meth c D wf A nL Q g pc lo (.int y :: .int x :: st) := fun H locs ls hP hD hS hl => lv_icmp_lt C.1 C.2.1 hdg ht (fun h => kt h H locs ls hP hD hS hl) (fun h => kf h H locs ls hP hD hS hl)
theorem J.icmp_ge (C : JC p s m args c cc nL own D cI A E) {x y : Int32} {off : Int} (tgt : Nat) (hdg : decode cc pc = .ok (.if_icmp .ge off, 3)) (ht : (pc : Int) + off = (tgt : Int)) (kt : y ≤ x → J p l e R s m args below meth c D wf A nL Q g tgt lo st) (kf : ¬ y ≤ x → J p l e R s m args below meth c D wf A nL Q g (pc + 3) lo st) : J p l e R s m args below meth c D wf A nL Q g pc lo (.int y :: .int x :: st) := fun H locs ls hP hD hS hl => lv_icmp_ge C.1 C.2.1 hdg ht (fun h => kt h H locs ls hP hD hS hl) (fun h => kf h H locs ls hP hD hS hl)
theorem J.icmp_gt (C : JC p s m args c cc nL own D cI A E) {x y : Int32} {off : Int} (tgt : Nat) (hdg : decode cc pc = .ok (.if_icmp .gt off, 3)) (ht : (pc : Int) + off = (tgt : Int)) (kt : y < x → J p l e R s m args below meth c D wf A nL Q g tgt lo st) (kf : ¬ y < x → J p l e R s m args below meth c D wf A nL Q g (pc + 3) lo st) : J p l e R s m args below meth c D wf A nL Q g pc lo (.int y :: .int x :: st) := fun H locs ls hP hD hS hl => lv_icmp_gt C.1 C.2.1 hdg ht (fun h => kt h H locs ls hP hD hS hl) (fun h => kf h H locs ls hP hD hS hl)
theorem J.icmp_le (C : JC p s m args c cc nL own D cI A E) {x y : Int32} {off : Int} (tgt : Nat) (hdg : decode cc pc = .ok (.if_icmp .le off, 3)) (ht : (pc : Int) + off = (tgt : Int)) (kt : x ≤ y → J p l e R s m args below meth c D wf A nL Q g tgt lo st) (kf : ¬ x ≤ y → J p l e R s m args below meth c D wf A nL Q g (pc + 3) lo st) : J p l e R s m args below meth c D wf A nL Q g pc lo (.int y :: .int x :: st) := fun H locs ls hP hD hS hl => lv_icmp_le C.1 C.2.1 hdg ht (fun h => kt h H locs ls hP hD hS hl) (fun h => kf h H locs ls hP hD hS hl)
theorem J.get (C : JC p s m args c cc nL own D cI A E) (q0 : Nat) {a ci : Nat} {fs : List Value} {Cn : String} {T : u_T} {N : Nat} (he : (wf g)[q0]? = some (a, .inr (ci, fs))) (hc : CL[ci]? = some (Cn, T, N)) (hin : ∀ w ∈ u_ws Cn T N, w ∈ TB) (k : Nat) (hk : k < N) {index : Nat} (hlink : Cond.fieldLink own index (T k).1 (T k).2.1 (T k).2.2.1 ∈ TB) {v : Value} (hv : fs[k]? = some v) (hdg : decode cc pc = .ok (.getfield index, 3)) (kk : J p l e R s m args below meth c D wf A nL Q g (pc + 3) lo (v :: st)) : J p l e R s m args below meth c D wf A nL Q g pc lo (.ref a :: st) := fun H locs ls hP hD hS hl => va_get C.1 C.2.1 C.2.2.2.2.1 hin C.2.2.2.1 C.2.2.2.2.2.1 hP q0 he hc k hk (C.2.2.2.2.1 _ hlink) (fun _ h9 => h9) hv hdg (kk H locs ls hP hD hS hl)
theorem J.put (C : JC p s m args c cc nL own D cI A E) (q0 : Nat) {a ci : Nat} {fs : List Value} {Cn : String} {T : u_T} {N : Nat} (he : (wf g)[q0]? = some (a, .inr (ci, fs))) (hc : CL[ci]? = some (Cn, T, N)) (hin : ∀ w ∈ u_ws Cn T N, w ∈ TB) (ty0 : Nat → FieldType) (hty : ∀ k, k < N → parseFieldDescriptor (T k).2.2.1 = some (ty0 k)) (hnm : ∀ a, a < N → ∀ b, b < N → a ≠ b → (T a).2.1 ≠ (T b).2.1) (k : Nat) (hk : k < N) {index : Nat} (hlink : Cond.fieldLink own index (T k).1 (T k).2.1 (T k).2.2.1 ∈ TB) (hfin : (T k).2.2.2 = false) {ty : FieldType} {v : Value} (hd : parseFieldDescriptor (T k).2.2.1 = some ty) (hn : narrow ty v = v) (hfit : fits ty v = true) (hlen : k < fs.length) (hset : (wf g).set q0 (a, .inr (ci, fs.set k v)) = wf g') (hdg : decode cc pc = .ok (.putfield index, 3)) (kk : J p l e R s m args below meth c D wf A nL Q g' (pc + 3) lo st) : J p l e R s m args below meth c D wf A nL Q g pc lo (v :: .ref a :: st) := fun H locs ls hP hD hS hl => va_put C.1 C.2.1 C.2.2.2.2.1 hin ty0 hty hnm C.2.2.2.1 C.2.2.2.2.2.1 hP hD hS q0 he hc k hk (C.2.2.2.2.1 _ hlink) (fun _ h9 => h9) hfin hd hn hfit hlen hdg (fun H1 locs1 hP1 hD1 hS1 => kk H1 locs1 ls (hset ▸ hP1) (hset ▸ hD1) hS1 hl)
def isArr (wf : Sg → va_W) (cI : ClassId) (a k n : Nat) : Prop := n < 2 ^ 31 ∧ ∃ j : Nat, ∀ g : Sg, (wf g)[j]? = some (a, .inl (cI, n, .inl (g.2 k))) ∧ ∀ f : Nat → Int32, (wf g).set j (a, .inl (cI, n, .inl f)) = wf (sF g k f)
theorem J.iald (C : JC p s m args c cc nL own D cI A E) {a k n : Nat} (ha : isArr wf cI a k n) {i : Int32} (hin : vp_in i n) (hdg : decode cc pc = .ok (.iaload, 1)) (kk : J p l e R s m args below meth c D wf A nL Q g (pc + 1) lo (.int (rd g k i) :: st)) : J p l e R s m args below meth c D wf A nL Q g pc lo (.int i :: .ref a :: st) := by
  intro H locs ls hP hD hS hl
  obtain ⟨-, j, hj⟩ := ha
  exact va_iald C.1 C.2.1 C.2.2.2.2.2.1 hP j 0 (hj g).1 rfl hin hdg (kk H locs ls hP hD hS hl)
theorem J.iast (C : JC p s m args c cc nL own D cI A E) {a k n : Nat} (ha : isArr wf cI a k n) {i x : Int32} (hin : vp_in i n) (hdg : decode cc pc = .ok (.iastore, 1)) (kk : J p l e R s m args below meth c D wf A nL Q (wr g k i x) (pc + 1) lo st) : J p l e R s m args below meth c D wf A nL Q g pc lo (.int x :: .int i :: .ref a :: st) := by
  intro H locs ls hP hD hS hl
  obtain ⟨-, j, hj⟩ := ha
  refine va_iast C.1 C.2.1 C.2.2.2.2.2.1 hP hD hS j 0 (hj g).1 rfl hin hdg (fun H1 locs1 hP1 hD1 hS1 => ?_)
  rw [(hj g).2] at hP1 hD1
  exact kk H1 locs1 ls hP1 hD1 hS1 hl
theorem J.alen (C : JC p s m args c cc nL own D cI A E) {a k n : Nat} (ha : isArr wf cI a k n) (hdg : decode cc pc = .ok (.arraylength, 1)) (kk : J p l e R s m args below meth c D wf A nL Q g (pc + 1) lo (.int (nI n) :: st)) : J p l e R s m args below meth c D wf A nL Q g pc lo (.ref a :: st) := by
  intro H locs ls hP hD hS hl
  obtain ⟨-, j, hj⟩ := ha
  exact va_alen C.1 C.2.1 C.2.2.2.2.2.1 hP j 0 (hj g).1 rfl rfl hdg (kk H locs ls hP hD hS hl)
def iabs (x : Int32) : Int32 := if 0 ≤ x then x else 0 - x
def imin (x y : Int32) : Int32 := if y < x then y else x
def imax (x y : Int32) : Int32 := if x < y then y else x
theorem J.mabs (C : JC p s m args c cc nL own D cI A E) {index : Nat} (hlink : Cond.methodLink own index Lib.Math.abs.name ∈ TB) (hf : 1 ≤ R.frames) (hlo : (st.map fun v => v.category).sum + 13 ≤ R.locals) {x : Int32} (hdg : decode cc pc = .ok (.invokestatic index, 3)) (kk : J p l e R s m args below meth c D wf A nL Q g (pc + 3) lo (.int (iabs x) :: st)) : J p l e R s m args below meth c D wf A nL Q g pc lo (.int x :: st) := fun H locs ls hP hD hS hl => va_mabs C.1 C.2.1 (C.2.2.1.trans hl.1.1.symm) C.2.2.2.1 (C.2.2.2.2.1 _ hlink) (C.2.2.2.2.1 _ mabs_s) (C.2.2.2.2.1 _ math_i) (C.2.2.2.2.1 _ mabs_c) hf hlo (Nat.zero_le _) (Nat.zero_le _) hdg (kk H locs ls hP hD hS hl)
theorem J.mmin (C : JC p s m args c cc nL own D cI A E) {index : Nat} (hlink : Cond.methodLink own index Lib.Math.min.name ∈ TB) (hf : 1 ≤ R.frames) (hlo : (st.map fun v => v.category).sum + 13 ≤ R.locals) {x y : Int32} (hdg : decode cc pc = .ok (.invokestatic index, 3)) (kk : J p l e R s m args below meth c D wf A nL Q g (pc + 3) lo (.int (imin x y) :: st)) : J p l e R s m args below meth c D wf A nL Q g pc lo (.int y :: .int x :: st) := fun H locs ls hP hD hS hl => va_mmin C.1 C.2.1 (C.2.2.1.trans hl.1.1.symm) C.2.2.2.1 (C.2.2.2.2.1 _ hlink) (C.2.2.2.2.1 _ mmin_s) (C.2.2.2.2.1 _ math_i) (C.2.2.2.2.1 _ mmin_c) hf hlo (Nat.zero_le _) (Nat.zero_le _) hdg (kk H locs ls hP hD hS hl)
theorem J.mmax (C : JC p s m args c cc nL own D cI A E) {index : Nat} (hlink : Cond.methodLink own index Lib.Math.max.name ∈ TB) (hf : 1 ≤ R.frames) (hlo : (st.map fun v => v.category).sum + 13 ≤ R.locals) {x y : Int32} (hdg : decode cc pc = .ok (.invokestatic index, 3)) (kk : J p l e R s m args below meth c D wf A nL Q g (pc + 3) lo (.int (imax x y) :: st)) : J p l e R s m args below meth c D wf A nL Q g pc lo (.int y :: .int x :: st) := fun H locs ls hP hD hS hl => va_mmax C.1 C.2.1 (C.2.2.1.trans hl.1.1.symm) C.2.2.2.1 (C.2.2.2.2.1 _ hlink) (C.2.2.2.2.1 _ mmax_s) (C.2.2.2.2.1 _ math_i) (C.2.2.2.2.1 _ mmax_c) hf hlo (Nat.zero_le _) (Nat.zero_le _) hdg (kk H locs ls hP hD hS hl)
def PreC (E : Et) (D : va_G) (cI : ClassId) (wf : Sg → va_W) (g : Sg) (sz : Nat) : State → Prop := fun U => U.heap.size = sz ∧ va_P D CL (wf g) U.heap ∧ va_K D CL [(cI, .int)] U ∧ va_D (fun _ => True) (wf g) ∧ E (va_A (wf g) sz) U U.heap
abbrev QI (D : va_G) (wf : Sg → va_W) (g : Sg) (sz : Nat) (r : Int32 × Sg) : Array Value → State → Outcome → State → Prop := va_Qi (fun (r' : Int32) (_ : Unit) => r' = r.1) (fun _ t => va_P D CL (wf r.2) t.heap ∧ va_D (va_A (wf g) sz) (wf r.2)) (va_A (wf g) sz)
abbrev QV (D : va_G) (wf : Sg → va_W) (g : Sg) (sz : Nat) (r : Sg) : Array Value → State → Outcome → State → Prop := va_Qv (fun (_ : Unit) => True) (fun _ t => va_P D CL (wf r) t.heap ∧ va_D (va_A (wf g) sz) (wf r)) (va_A (wf g) sz)
abbrev RM (fr lc : Nat) : Room := { frames := fr, cells := 0, slots := 0, locals := lc }
/-- a method's contract: from the cells of g it answers r.1 and leaves the cells of r.2 -/
def CTi (l : Launch) (E : Et) (D : va_G) (cI : ClassId) (wf : Sg → va_W) (y : MethodName) (cc : ByteArray) (maxL : Nat) (ret : Option FieldType) (fr lc : Nat) (av : List Value) (g : Sg) (r : Int32 × Sg) : Prop := ∀ sz : Nat, Met l y (.code y cc maxL ret :: TB) (RM fr lc) (va_Pc av (PreC E D cI wf g sz)) (QI D wf g sz r) 0 0 (va_A (wf g) sz)
def CTv (l : Launch) (E : Et) (D : va_G) (cI : ClassId) (wf : Sg → va_W) (y : MethodName) (cc : ByteArray) (maxL : Nat) (fr lc : Nat) (av : List Value) (g r : Sg) : Prop := ∀ sz : Nat, Met l y (.code y cc maxL none :: TB) (RM fr lc) (va_Pc av (PreC E D cI wf g sz)) (QV D wf g sz r) 0 0 (va_A (wf g) sz)
theorem PreC.blind (hE : EOK E) (av : List Value) (g : Sg) (sz : Nat) : FrameBlind (va_Pc av (PreC E D cI wf g sz)) := fun a U gg mk q => by
  obtain ⟨q0, q1, qP, qK, qD, qE⟩ := q
  exact ⟨q0, q1, qP, va_K.moved (u := U) (U := U.calling gg mk a) (Vm.Alike.refl U.vm) qK, qD, hE.1 _ U (U.calling gg mk a) _ (Or.inr rfl) qE⟩
theorem J.freeA (C : JC p s m args c cc nL own D cI A E) {H : Heap} {locs : List Loc} (hD : va_D A (wf g)) (hS : va_S A s.heap H locs) : ∀ q, va_A (wf g) H.size q → A q := by
  intro q h
  rcases h with ⟨k, e, h⟩ | h
  · exact hD.2 k _ h
  · exact C.2.2.2.2.2.2.1 q (Nat.le_trans hS.1 h)
theorem J.pre (C : JC p s m args c cc nL own D cI A E) {H : Heap} {locs : List Loc} (hP : va_P D CL (wf g) H) (hD : va_D A (wf g)) (hS : va_S A s.heap H locs) {U : State} (hU : U.heap = H) (hW : s.WarmedH U.vm) : PreC E D cI wf g H.size U := by
  obtain ⟨hx, hb, hml, hown, hts, hK, hA, hE, hEK⟩ := id C
  refine ⟨by rw [hU], by rw [hU]; exact hP, va_K.moved hW.alike hK, hD.weaken (fun _ _ _ _ => trivial), ?_⟩
  rw [hU]
  exact hEK.1 _ s U _ (Or.inl hW) (hEK.2.2 A _ s H (hEK.2.1 A s s.heap H hE hS.2.1) (J.freeA C hD hS))
def LkS (y : MethodName) (cc : ByteArray) (maxL : Nat) (ret : Option FieldType) (n : Nat) : Prop := Cond.static y ∈ TB ∧ Cond.initialized y.cls ∈ TB ∧ Cond.code y cc maxL ret ∈ TB ∧ (y.cls ≠ "java/lang/invoke/MethodHandle" ∧ y.cls ≠ "java/lang/invoke/VarHandle" ∧ (parseMethodDescriptor y.desc).map (fun d => d.parameters.length) = some n)
def LkV (y : MethodName) (cc : ByteArray) (maxL : Nat) (ret : Option FieldType) (n : Nat) : Prop := (Cond.instanceMethod y ∈ TB ∧ Cond.selects y.cls y y ∈ TB) ∧ Cond.initialized y.cls ∈ TB ∧ Cond.code y cc maxL ret ∈ TB ∧ (y.cls ≠ "java/lang/invoke/MethodHandle" ∧ y.cls ≠ "java/lang/invoke/VarHandle" ∧ (parseMethodDescriptor y.desc).map (fun d => d.parameters.length) = some n)
theorem TB_goodIn {w : Cond} (hw : w ∈ TB) : GoodIn TB (w :: TB) := fun x hx => by
  have h : x ∈ TB := by
    rcases List.mem_cons.mp hx with h | h
    · rw [h]; exact hw
    · exact h
  exact ⟨h, good_of_word (TB_good x h)⟩
theorem J.callSi (C : JC p s m args c cc nL own D cI A E) {y : MethodName} {cc' : ByteArray} {maxL n' fr lc idx : Nat} {ret : Option FieldType} {av rest : List Value} {r : Int32 × Sg} (hM : CTi l E D cI wf y cc' maxL ret fr lc av g r) (hlk : LkS y cc' maxL ret n') (h1 : Cond.methodLink own idx y ∈ TB) (hR : fr + 1 ≤ R.frames ∧ 8 + (maxL + 11) + lc ≤ R.locals) (hn : av.length = n') (hst : st = av.reverse ++ rest) (hc : (rest.map fun v => v.category).sum ≤ 8) (hdg : decode cc pc = .ok (.invokestatic idx, 3)) (k : J p l e R s m args below meth c D wf A nL Q r.2 (pc + 3) lo (.int r.1 :: rest)) : J p l e R s m args below meth c D wf A nL Q g pc lo st := by
  intro H locs ls hP hD hS hl
  obtain ⟨hx, hb, hml, hown, hts, hK, hA, hE, hEK⟩ := id C
  obtain ⟨k1, k2, k3, k4⟩ := hlk
  have hF := J.freeA C hD hS
  refine va_calli (va_runS (As := av) (rest := rest) (Ts := TB) ⟨hx, hb, hml, hown, hts⟩ (hM H.size) ⟨callB_of n' hts (TB_goodIn k3) rfl rfl rfl (hts _ k2) (hts _ h1) k4 hR, hts _ k1⟩ ⟨PreC.blind hEK av g H.size, fun U hU hW => ⟨rfl, J.pre C hP hD hS hU hW⟩⟩ rfl hn hl.1.1 hst (lv_room hc) hdg ⟨Nat.zero_le _, Nat.zero_le _⟩) hS (fun q _ h => hF q h) hF (fun r' u t H1 locs1 ht hvm hw hB hz hk hS1 => ?_)
  obtain ⟨hP1, hD1⟩ := hB
  subst hw
  rw [ht] at hP1
  exact k H1 locs1 ls hP1 (hD1.weaken (fun k q _ h => hF q.1 h)) hS1 hl
theorem J.callSv (C : JC p s m args c cc nL own D cI A E) {y : MethodName} {cc' : ByteArray} {maxL n' fr lc idx : Nat} {av rest : List Value} {r : Sg} (hM : CTv l E D cI wf y cc' maxL fr lc av g r) (hlk : LkS y cc' maxL none n') (h1 : Cond.methodLink own idx y ∈ TB) (hR : fr + 1 ≤ R.frames ∧ 8 + (maxL + 11) + lc ≤ R.locals) (hn : av.length = n') (hst : st = av.reverse ++ rest) (hc : (rest.map fun v => v.category).sum ≤ 8) (hdg : decode cc pc = .ok (.invokestatic idx, 3)) (k : J p l e R s m args below meth c D wf A nL Q r (pc + 3) lo rest) : J p l e R s m args below meth c D wf A nL Q g pc lo st := by
  intro H locs ls hP hD hS hl
  obtain ⟨hx, hb, hml, hown, hts, hK, hA, hE, hEK⟩ := id C
  obtain ⟨k1, k2, k3, k4⟩ := hlk
  have hF := J.freeA C hD hS
  refine va_callv (va_runS (As := av) (rest := rest) (Ts := TB) ⟨hx, hb, hml, hown, hts⟩ (hM H.size) ⟨callB_of n' hts (TB_goodIn k3) rfl rfl rfl (hts _ k2) (hts _ h1) k4 hR, hts _ k1⟩ ⟨PreC.blind hEK av g H.size, fun U hU hW => ⟨rfl, J.pre C hP hD hS hU hW⟩⟩ rfl hn hl.1.1 hst (lv_room hc) hdg ⟨Nat.zero_le _, Nat.zero_le _⟩) hS (fun q _ h => hF q h) hF (fun u t H1 locs1 ht hvm hw hB hz hk hS1 => ?_)
  obtain ⟨hP1, hD1⟩ := hB
  rw [ht] at hP1
  exact k H1 locs1 ls hP1 (hD1.weaken (fun k q _ h => hF q.1 h)) hS1 hl
/-- the object on which a method is called stands among the cells -/
def isObj (wf : Sg → va_W) (a : Nat) (Cn : String) : Prop := ∃ (j ci : Nat) (T : u_T) (N : Nat), CL[ci]? = some (Cn, T, N) ∧ ∀ g : Sg, ∃ fs : List Value, (wf g)[j]? = some (a, .inr (ci, fs))
theorem isObj.recv (C : JC p s m args c cc nL own D cI A E) {a : Nat} {Cn : String} (h : isObj wf a Cn) {H : Heap} (hP : va_P D CL (wf g) H) : ∃ cell : Cell, H[a]? = some cell ∧ cell.vm.isStatics = false ∧ s.vm.findClass Cn = some cell.cls := by
  obtain ⟨j, ci, T, N, hc, hj⟩ := h
  obtain ⟨fs, hf⟩ := hj g
  exact va_recv C.2.2.2.2.2.1 hP hc hf
theorem J.callVi (C : JC p s m args c cc nL own D cI A E) {y : MethodName} {cc' : ByteArray} {maxL n' fr lc idx a : Nat} {ret : Option FieldType} {av rest : List Value} {r : Int32 × Sg} (hM : CTi l E D cI wf y cc' maxL ret fr lc (.ref a :: av) g r) (hlk : LkV y cc' maxL ret n') (h1 : Cond.methodLink own idx y ∈ TB) (ho : isObj wf a y.cls) (hR : fr + 1 ≤ R.frames ∧ 8 + (maxL + 11) + lc ≤ R.locals) (hn : av.length = n') (hst : st = av.reverse ++ .ref a :: rest) (hc : (rest.map fun v => v.category).sum ≤ 8) (hdg : decode cc pc = .ok (.invokevirtual idx, 3)) (k : J p l e R s m args below meth c D wf A nL Q r.2 (pc + 3) lo (.int r.1 :: rest)) : J p l e R s m args below meth c D wf A nL Q g pc lo st := by
  intro H locs ls hP hD hS hl
  obtain ⟨hx, hb, hml, hown, hts, hK, hA, hE, hEK⟩ := id C
  obtain ⟨⟨k0, k1⟩, k2, k3, k4⟩ := hlk
  have hF := J.freeA C hD hS
  refine va_calli (va_runV (As := av) (rest := rest) (Ts := TB) (b := a) ⟨hx, hb, hml, hown, hts⟩ (hM H.size) ⟨callB_of n' hts (TB_goodIn k3) rfl rfl rfl (hts _ k2) (hts _ h1) k4 hR, hts _ k0, hts _ k1⟩ ⟨PreC.blind hEK (.ref a :: av) g H.size, isObj.recv C ho hP, fun U hU hW => ⟨rfl, J.pre C hP hD hS hU hW⟩⟩ rfl hn hl.1.1 hst (lv_room hc) hdg ⟨Nat.zero_le _, Nat.zero_le _⟩) hS (fun q _ h => hF q h) hF (fun r' u t H1 locs1 ht hvm hw hB hz hk hS1 => ?_)
  obtain ⟨hP1, hD1⟩ := hB
  subst hw
  rw [ht] at hP1
  exact k H1 locs1 ls hP1 (hD1.weaken (fun k q _ h => hF q.1 h)) hS1 hl
theorem J.callVv (C : JC p s m args c cc nL own D cI A E) {y : MethodName} {cc' : ByteArray} {maxL n' fr lc idx a : Nat} {av rest : List Value} {r : Sg} (hM : CTv l E D cI wf y cc' maxL fr lc (.ref a :: av) g r) (hlk : LkV y cc' maxL none n') (h1 : Cond.methodLink own idx y ∈ TB) (ho : isObj wf a y.cls) (hR : fr + 1 ≤ R.frames ∧ 8 + (maxL + 11) + lc ≤ R.locals) (hn : av.length = n') (hst : st = av.reverse ++ .ref a :: rest) (hc : (rest.map fun v => v.category).sum ≤ 8) (hdg : decode cc pc = .ok (.invokevirtual idx, 3)) (k : J p l e R s m args below meth c D wf A nL Q r (pc + 3) lo rest) : J p l e R s m args below meth c D wf A nL Q g pc lo st := by
  intro H locs ls hP hD hS hl
  obtain ⟨hx, hb, hml, hown, hts, hK, hA, hE, hEK⟩ := id C
  obtain ⟨⟨k0, k1⟩, k2, k3, k4⟩ := hlk
  have hF := J.freeA C hD hS
  refine va_callv (va_runV (As := av) (rest := rest) (Ts := TB) (b := a) ⟨hx, hb, hml, hown, hts⟩ (hM H.size) ⟨callB_of n' hts (TB_goodIn k3) rfl rfl rfl (hts _ k2) (hts _ h1) k4 hR, hts _ k0, hts _ k1⟩ ⟨PreC.blind hEK (.ref a :: av) g H.size, isObj.recv C ho hP, fun U hU hW => ⟨rfl, J.pre C hP hD hS hU hW⟩⟩ rfl hn hl.1.1 hst (lv_room hc) hdg ⟨Nat.zero_le _, Nat.zero_le _⟩) hS (fun q _ h => hF q h) hF (fun u t H1 locs1 ht hvm hw hB hz hk hS1 => ?_)
  obtain ⟨hP1, hD1⟩ := hB
  rw [ht] at hP1
  exact k H1 locs1 ls hP1 (hD1.weaken (fun k q _ h => hF q.1 h)) hS1 hl
theorem CTi.of {y : MethodName} {maxL fr lc : Nat} {rt : FieldType} {av : List Value} {r : Int32 × Sg} (hy : plainName y.cls = true) (hEK : EOK E) (hlen : (lg_sl av).length ≤ maxL) (hcat : ∀ q ∈ lv_args 0 av, q.2.category = 1)
    (body : ∀ (p : Program) (e : Env) (s : State) (m : MethodId) (args : Array Value) (below : List Frame) (meth : Method) (c : Code) (A : Nat → Prop) (Q : State → Prop), JC p s m args c cc maxL y.cls D cI A E → (∀ {pc : Nat} {lo : List (Nat × Value)} {v : Int32} {g' : Sg}, decode cc pc = .ok (.ireturn, 1) → some (v, g') = some r → narrow rt (.int v) = .int v → J p l e (RM fr lc) s m args below meth c D wf A maxL Q g' pc lo [.int v]) → J p l e (RM fr lc) s m args below meth c D wf A maxL Q g 0 (lv_args 0 av) []) : CTi l E D cI wf y cc maxL (some rt) fr lc av g r := by
  intro sz
  refine Met.ofW (cc := cc) (maxL := maxL) (ret := some rt) hy rfl ?_
  intro p e s m args below meth c s₁ B hml hv
  obtain ⟨rfl, hsz, hP, hK, hD0, hE⟩ := hv
  have hx := B.exec
  have hb := B.bytes
  have hr := B.returns
  have hts : ∀ w ∈ TB, w.before av.toArray s = true := fun w hw => atoms_spec (ws := .code y cc maxL (some rt) :: TB) B.pre w (List.mem_cons_of_mem _ hw)
  have hown : s.vm.findClass y.cls = some m.cls := findClass_of_methodNamed B.named
  have hlocks := B.notSynchronized
  subst hsz
  have hD := hD0.self (sz := s.heap.size)
  have hl := lv_entry av (n := maxL) hlen
  rw [lg_entry_eq]
  exact body p e s m av.toArray below meth c (va_A (wf g) s.heap.size) _ ⟨hx, hb, hml, hown, hts, hK, fun q h => Or.inr h, hE, hEK⟩ (fun hdg hv hn H locs ls hP hD hS hl => W.zret hx hb hr hn (fun t ht hW => ⟨⟨_, (), rfl, by cases hv; rfl, by cases hv; rw [ht]; exact hP, by cases hv; exact hD⟩, hS.F ht⟩) hS.2.2 hdg hlocks) s.heap [] _ hP hD va_S.rf ⟨hl, hcat⟩
theorem CTv.of {y : MethodName} {maxL fr lc : Nat} {av : List Value} {r : Sg} (hy : plainName y.cls = true) (hEK : EOK E) (hlen : (lg_sl av).length ≤ maxL) (hcat : ∀ q ∈ lv_args 0 av, q.2.category = 1)
    (body : ∀ (p : Program) (e : Env) (s : State) (m : MethodId) (args : Array Value) (below : List Frame) (meth : Method) (c : Code) (A : Nat → Prop) (Q : State → Prop), JC p s m args c cc maxL y.cls D cI A E → (∀ {pc : Nat} {lo : List (Nat × Value)} {g' : Sg}, decode cc pc = .ok (.return_, 1) → some g' = some r → J p l e (RM fr lc) s m args below meth c D wf A maxL Q g' pc lo []) → J p l e (RM fr lc) s m args below meth c D wf A maxL Q g 0 (lv_args 0 av) []) : CTv l E D cI wf y cc maxL fr lc av g r := by
  intro sz
  refine Met.ofW (cc := cc) (maxL := maxL) (ret := none) hy rfl ?_
  intro p e s m args below meth c s₁ B hml hv
  obtain ⟨rfl, hsz, hP, hK, hD0, hE⟩ := hv
  have hx := B.exec
  have hb := B.bytes
  have hr := B.returns
  have hts : ∀ w ∈ TB, w.before av.toArray s = true := fun w hw => atoms_spec (ws := .code y cc maxL none :: TB) B.pre w (List.mem_cons_of_mem _ hw)
  have hown : s.vm.findClass y.cls = some m.cls := findClass_of_methodNamed B.named
  have hlocks := B.notSynchronized
  subst hsz
  have hD := hD0.self (sz := s.heap.size)
  have hl := lv_entry av (n := maxL) hlen
  rw [lg_entry_eq]
  exact body p e s m av.toArray below meth c (va_A (wf g) s.heap.size) _ ⟨hx, hb, hml, hown, hts, hK, fun q h => Or.inr h, hE, hEK⟩ (fun hdg hv H locs ls hP hD hS hl => W.vret hx hb hr (fun t ht hW => ⟨⟨(), rfl, trivial, by cases hv; rw [ht]; exact hP, by cases hv; exact hD⟩, hS.F ht⟩) hS.2.2 hdg hlocks) s.heap [] _ hP hD va_S.rf ⟨hl, hcat⟩
end JAY
