/-! what never changes beside the cells; the words of a method's own pure meaning -/
def gset : Nat → Int32 := fun j => if j = 0 then 39 else if j = 1 then 200 else 9
def EC (z : Nat) : Et := fun A U H => va_Z "LightAsFarAsThePump$Alley" "GREATEST_SETTING" "[I" (.ref z) A U H ∧ va_T .int z 3 (fun j => .int (gset j)) A U H
theorem alike_or {u U : State} (h : u.WarmedH U.vm ∨ U.vm = u.vm) : u.vm.Alike U.vm := h.elim (fun h => h.alike) (fun e => e ▸ Vm.Alike.refl _)
theorem EC_ok (z : Nat) : EOK (EC z) := ⟨fun _ _ _ _ hv h => ⟨h.1.moved (alike_or hv), h.2.moved (alike_or hv)⟩, fun _ _ _ _ h hk => ⟨h.1.kept hk, h.2.kept hk⟩, fun _ _ _ _ h hAB => ⟨h.1.narrow hAB, h.2.narrow hAB⟩⟩
section ENV
variable {p : Program} {l : Launch} {e : Env} {R : Room} {s : State} {m : MethodId} {args : Array Value} {below : List Frame} {meth : Method} {c : Code} {Q : State → Prop} {cc : ByteArray} {nL : Nat} {own : String} {D : va_G} {cI : ClassId} {wf : Sg → va_W} {A : Nat → Prop} {E : Et} {g : Sg} {pc z : Nat} {lo : List (Nat × Value)} {st : List Value}
theorem J.getsZ (C : JC p s m args c cc nL own D cI A (EC z)) {idx : Nat} (hl : Cond.fieldLink own idx "LightAsFarAsThePump$Alley" "GREATEST_SETTING" "[I" ∈ TB) (hdg : decode cc pc = .ok (.getstatic idx, 3)) (kk : J p l e R s m args below meth c D wf A nL Q g (pc + 3) lo (.ref z :: st)) : J p l e R s m args below meth c D wf A nL Q g pc lo st := fun H locs ls hP hD hS hl' => va_gets C.1 C.2.1 C.2.2.2.2.2.2.2.1.1 hS C.2.2.2.1 (C.2.2.2.2.1 _ hl) (fun _ h => h) hdg (kk H locs ls hP hD hS hl')
theorem J.tldZ (C : JC p s m args c cc nL own D cI A (EC z)) {i : Int32} (hin : vp_in i 3) (hdg : decode cc pc = .ok (.iaload, 1)) (kk : J p l e R s m args below meth c D wf A nL Q g (pc + 1) lo (.int (gset (ix i)) :: st)) : J p l e R s m args below meth c D wf A nL Q g pc lo (.int i :: .ref z :: st) := fun H locs ls hP hD hS hl' => va_ti C.1 C.2.1 C.2.2.2.2.2.2.2.1.2 hS hin rfl hdg (kk H locs ls hP hD hS hl')
theorem J.tlenZ (C : JC p s m args c cc nL own D cI A (EC z)) (hdg : decode cc pc = .ok (.arraylength, 1)) (kk : J p l e R s m args below meth c D wf A nL Q g (pc + 1) lo (.int (nI 3) :: st)) : J p l e R s m args below meth c D wf A nL Q g pc lo (.ref z :: st) := fun H locs ls hP hD hS hl' => va_tlen C.1 C.2.1 C.2.2.2.2.2.2.2.1.2 hS rfl hdg (kk H locs ls hP hD hS hl')
theorem J.tabIn (C : JC p s m args c cc nL own D cI A E) {dflt lo' hi : Int} {offs : Array Int} {len : Nat} {x : Int32} {off : Int} (v : Int32) (tgt : Nat) (hdg : decode cc pc = .ok (.tableswitch dflt lo' hi offs, len)) (hx : x = v) (h1 : ¬ v.toInt < lo') (h2 : ¬ hi < v.toInt) (ho : offs[(v.toInt - lo').toNat]? = some off) (ht : (pc : Int) + off = (tgt : Int)) (k : J p l e R s m args below meth c D wf A nL Q g tgt lo st) : J p l e R s m args below meth c D wf A nL Q g pc lo (.int x :: st) := fun H locs ls hP hD hS hl' => lv_tableIn C.1 C.2.1 hdg (by rw [hx]; exact h1) (by rw [hx]; exact h2) (by rw [hx]; exact ho) ht (k H locs ls hP hD hS hl')
theorem J.tabOut (C : JC p s m args c cc nL own D cI A E) {dflt lo' hi : Int} {offs : Array Int} {len : Nat} {x : Int32} (tgt : Nat) (hdg : decode cc pc = .ok (.tableswitch dflt lo' hi offs, len)) (h : x.toInt < lo' ∨ hi < x.toInt) (ht : (pc : Int) + dflt = (tgt : Int)) (k : J p l e R s m args below meth c D wf A nL Q g tgt lo st) : J p l e R s m args below meth c D wf A nL Q g pc lo (.int x :: st) := fun H locs ls hP hD hS hl' => lv_tableOut C.1 C.2.1 hdg h ht (k H locs ls hP hD hS hl')
theorem J.look (C : JC p s m args c cc nL own D cI A E) {dflt : Int} {ps : Array (Int × Int)} {len : Nat} {x : Int32} {off : Int} (tgt : Nat) (hdg : decode cc pc = .ok (.lookupswitch dflt ps, len)) (hp : (ps.toList.zip (ps.toList.drop 1)).all (fun (a, next) => a.1 < next.1) = true) (ho : Op.lookupswitch.offset ps.toList dflt x.toInt = off) (ht : (pc : Int) + off = (tgt : Int)) (k : J p l e R s m args below meth c D wf A nL Q g tgt lo st) : J p l e R s m args below meth c D wf A nL Q g pc lo (.int x :: st) := fun H locs ls hP hD hS hl' => lv_lookup C.1 C.2.1 hdg hp ho ht (k H locs ls hP hD hS hl')
theorem J.istore_nV (C : JC p s m args c cc nL own D cI A E) {k0 : Fin 4} {i : Nat} {x x' : Int32} (hdg : decode cc pc = .ok (.istore_n k0, 1)) (hi : (k0 : Nat) = i) (hn : i < nL) (hx : x = x') (k : J p l e R s m args below meth c D wf A nL Q g (pc + 1) (lset lo i (.int x')) st) : J p l e R s m args below meth c D wf A nL Q g pc lo (.int x :: st) := J.istore_n C hdg hi hn (hx ▸ k)
theorem J.istoreV (C : JC p s m args c cc nL own D cI A E) {i : Nat} {x x' : Int32} (hdg : decode cc pc = .ok (.istore i, 2)) (hn : i < nL) (hx : x = x') (k : J p l e R s m args below meth c D wf A nL Q g (pc + 2) (lset lo i (.int x')) st) : J p l e R s m args below meth c D wf A nL Q g pc lo (.int x :: st) := J.istore C hdg hn (hx ▸ k)
end ENV
def FU : Nat := 1000
def lt {α β : Type} (x : α) (k : α → Option β) : Option β := k x
theorem lt_ex {α β : Type} {x : α} {k : α → Option β} {r : β} (h : lt x k = some r) : ∃ y, x = y ∧ k y = some r := ⟨x, rfl, h⟩
def chk {β : Type} (i : Int32) (n : Nat) (k : Option β) : Option β := if i < 0 ∨ n ≤ ix i then none else k
theorem chk_ex {β : Type} {i : Int32} {n : Nat} {k : Option β} {r : β} (h : chk i n k = some r) : vp_in i n ∧ k = some r := by
  unfold chk at h
  by_cases c : i < 0 ∨ n ≤ ix i
  · rw [if_pos c] at h; cases h
  · rw [if_neg c] at h; exact ⟨c, h⟩
theorem vpl {i : Int32} {n : Nat} (h : decide (i < 0 ∨ n ≤ i.toNatClampNeg) = false) : vp_in i n := of_decide_eq_false h
def bI {β : Type} (o : Option (Int32 × Sg)) (k : Int32 → Sg → Option β) : Option β := o.bind (fun t => k t.1 t.2)
theorem bI_ex {β : Type} {o : Option (Int32 × Sg)} {k : Int32 → Sg → Option β} {r : β} (h : bI o k = some r) : ∃ (x : Int32) (g : Sg), o = some (x, g) ∧ k x g = some r := by
  unfold bI at h
  cases o with
  | none => cases h
  | some t => exact ⟨t.1, t.2, rfl, h⟩
def bV {β : Type} (o : Option Sg) (k : Sg → Option β) : Option β := o.bind k
theorem bV_ex {β : Type} {o : Option Sg} {k : Sg → Option β} {r : β} (h : bV o k = some r) : ∃ g : Sg, o = some g ∧ k g = some r := by
  unfold bV at h
  cases o with
  | none => cases h
  | some t => exact ⟨t, rfl, h⟩
theorem ite_t {β : Type} {c : Prop} [Decidable c] {a b : Option β} {r : β} (hc : c) (h : (if c then a else b) = some r) : a = some r := (if_pos hc).symm.trans h
theorem ite_f {β : Type} {c : Prop} [Decidable c] {a b : Option β} {r : β} (hc : ¬ c) (h : (if c then a else b) = some r) : b = some r := (if_neg hc).symm.trans h
def rz (v : Int32) (g : Sg) : Option (Int32 × Sg) := if v = 0 then some (v, g) else if v = 1 then some (v, g) else none
theorem rz_ex {v : Int32} {g : Sg} {r : Int32 × Sg} (h : rz v g = some r) : some (v, g) = some r ∧ narrow .boolean (.int v) = .int v := by
  unfold rz at h
  by_cases c : v = 0
  · rw [if_pos c] at h; exact ⟨h, by rw [c]; rfl⟩
  · rw [if_neg c] at h
    by_cases d : v = 1
    · rw [if_pos d] at h; exact ⟨h, by rw [d]; rfl⟩
    · rw [if_neg d] at h; cases h
theorem i_ne {x v : Int32} (n : Int) (hv : v.toInt = n) (h : ¬ x = v) : x.toInt ≠ n := fun e => h (Int32.toInt_inj.mp (e.trans hv.symm))
def lup0 {β : Type} (B : (Sg → Option β) → Sg → Option β) : Nat → Sg → Option β
  | 0 => fun _ => none
  | n + 1 => B (lup0 B n)
theorem lup0_ok {β : Type} {B : (Sg → Option β) → Sg → Option β} {r : β} {P : Sg → Prop} (h : ∀ self : Sg → Option β, (∀ (g : Sg), self  g = some r → P  g) → ∀ (g : Sg), B self  g = some r → P  g) : ∀ (n : Nat), ∀ (g : Sg), lup0 B n  g = some r → P  g
  | 0, _, h1 => nomatch h1
  | n + 1, g, h1 => h (lup0 B n) (lup0_ok h n)  g h1
def lup1 {β : Type} (B : (Int32 → Sg → Option β) → Int32 → Sg → Option β) : Nat → Int32 → Sg → Option β
  | 0 => fun _ _ => none
  | n + 1 => B (lup1 B n)
theorem lup1_ok {β : Type} {B : (Int32 → Sg → Option β) → Int32 → Sg → Option β} {r : β} {P : Int32 → Sg → Prop} (h : ∀ self : Int32 → Sg → Option β, (∀ (x0 : Int32) (g : Sg), self x0 g = some r → P x0 g) → ∀ (x0 : Int32) (g : Sg), B self x0 g = some r → P x0 g) : ∀ (n : Nat), ∀ (x0 : Int32) (g : Sg), lup1 B n x0 g = some r → P x0 g
  | 0, _, _, h1 => nomatch h1
  | n + 1, x0, g, h1 => h (lup1 B n) (lup1_ok h n) x0 g h1
def lup2 {β : Type} (B : (Int32 → Int32 → Sg → Option β) → Int32 → Int32 → Sg → Option β) : Nat → Int32 → Int32 → Sg → Option β
  | 0 => fun _ _ _ => none
  | n + 1 => B (lup2 B n)
theorem lup2_ok {β : Type} {B : (Int32 → Int32 → Sg → Option β) → Int32 → Int32 → Sg → Option β} {r : β} {P : Int32 → Int32 → Sg → Prop} (h : ∀ self : Int32 → Int32 → Sg → Option β, (∀ (x0 x1 : Int32) (g : Sg), self x0 x1 g = some r → P x0 x1 g) → ∀ (x0 x1 : Int32) (g : Sg), B self x0 x1 g = some r → P x0 x1 g) : ∀ (n : Nat), ∀ (x0 x1 : Int32) (g : Sg), lup2 B n x0 x1 g = some r → P x0 x1 g
  | 0, _, _, _, h1 => nomatch h1
  | n + 1, x0, x1, g, h1 => h (lup2 B n) (lup2_ok h n) x0 x1 g h1
def lup3 {β : Type} (B : (Int32 → Int32 → Int32 → Sg → Option β) → Int32 → Int32 → Int32 → Sg → Option β) : Nat → Int32 → Int32 → Int32 → Sg → Option β
  | 0 => fun _ _ _ _ => none
  | n + 1 => B (lup3 B n)
theorem lup3_ok {β : Type} {B : (Int32 → Int32 → Int32 → Sg → Option β) → Int32 → Int32 → Int32 → Sg → Option β} {r : β} {P : Int32 → Int32 → Int32 → Sg → Prop} (h : ∀ self : Int32 → Int32 → Int32 → Sg → Option β, (∀ (x0 x1 x2 : Int32) (g : Sg), self x0 x1 x2 g = some r → P x0 x1 x2 g) → ∀ (x0 x1 x2 : Int32) (g : Sg), B self x0 x1 x2 g = some r → P x0 x1 x2 g) : ∀ (n : Nat), ∀ (x0 x1 x2 : Int32) (g : Sg), lup3 B n x0 x1 x2 g = some r → P x0 x1 x2 g
  | 0, _, _, _, _, h1 => nomatch h1
  | n + 1, x0, x1, x2, g, h1 => h (lup3 B n) (lup3_ok h n) x0 x1 x2 g h1
def lup4 {β : Type} (B : (Int32 → Int32 → Int32 → Int32 → Sg → Option β) → Int32 → Int32 → Int32 → Int32 → Sg → Option β) : Nat → Int32 → Int32 → Int32 → Int32 → Sg → Option β
  | 0 => fun _ _ _ _ _ => none
  | n + 1 => B (lup4 B n)
theorem lup4_ok {β : Type} {B : (Int32 → Int32 → Int32 → Int32 → Sg → Option β) → Int32 → Int32 → Int32 → Int32 → Sg → Option β} {r : β} {P : Int32 → Int32 → Int32 → Int32 → Sg → Prop} (h : ∀ self : Int32 → Int32 → Int32 → Int32 → Sg → Option β, (∀ (x0 x1 x2 x3 : Int32) (g : Sg), self x0 x1 x2 x3 g = some r → P x0 x1 x2 x3 g) → ∀ (x0 x1 x2 x3 : Int32) (g : Sg), B self x0 x1 x2 x3 g = some r → P x0 x1 x2 x3 g) : ∀ (n : Nat), ∀ (x0 x1 x2 x3 : Int32) (g : Sg), lup4 B n x0 x1 x2 x3 g = some r → P x0 x1 x2 x3 g
  | 0, _, _, _, _, _, h1 => nomatch h1
  | n + 1, x0, x1, x2, x3, g, h1 => h (lup4 B n) (lup4_ok h n) x0 x1 x2 x3 g h1
def lup5 {β : Type} (B : (Int32 → Int32 → Int32 → Int32 → Int32 → Sg → Option β) → Int32 → Int32 → Int32 → Int32 → Int32 → Sg → Option β) : Nat → Int32 → Int32 → Int32 → Int32 → Int32 → Sg → Option β
  | 0 => fun _ _ _ _ _ _ => none
  | n + 1 => B (lup5 B n)
theorem lup5_ok {β : Type} {B : (Int32 → Int32 → Int32 → Int32 → Int32 → Sg → Option β) → Int32 → Int32 → Int32 → Int32 → Int32 → Sg → Option β} {r : β} {P : Int32 → Int32 → Int32 → Int32 → Int32 → Sg → Prop} (h : ∀ self : Int32 → Int32 → Int32 → Int32 → Int32 → Sg → Option β, (∀ (x0 x1 x2 x3 x4 : Int32) (g : Sg), self x0 x1 x2 x3 x4 g = some r → P x0 x1 x2 x3 x4 g) → ∀ (x0 x1 x2 x3 x4 : Int32) (g : Sg), B self x0 x1 x2 x3 x4 g = some r → P x0 x1 x2 x3 x4 g) : ∀ (n : Nat), ∀ (x0 x1 x2 x3 x4 : Int32) (g : Sg), lup5 B n x0 x1 x2 x3 x4 g = some r → P x0 x1 x2 x3 x4 g
  | 0, _, _, _, _, _, _, h1 => nomatch h1
  | n + 1, x0, x1, x2, x3, x4, g, h1 => h (lup5 B n) (lup5_ok h n) x0 x1 x2 x3 x4 g h1
def lup6 {β : Type} (B : (Int32 → Int32 → Int32 → Int32 → Int32 → Int32 → Sg → Option β) → Int32 → Int32 → Int32 → Int32 → Int32 → Int32 → Sg → Option β) : Nat → Int32 → Int32 → Int32 → Int32 → Int32 → Int32 → Sg → Option β
  | 0 => fun _ _ _ _ _ _ _ => none
  | n + 1 => B (lup6 B n)
theorem lup6_ok {β : Type} {B : (Int32 → Int32 → Int32 → Int32 → Int32 → Int32 → Sg → Option β) → Int32 → Int32 → Int32 → Int32 → Int32 → Int32 → Sg → Option β} {r : β} {P : Int32 → Int32 → Int32 → Int32 → Int32 → Int32 → Sg → Prop} (h : ∀ self : Int32 → Int32 → Int32 → Int32 → Int32 → Int32 → Sg → Option β, (∀ (x0 x1 x2 x3 x4 x5 : Int32) (g : Sg), self x0 x1 x2 x3 x4 x5 g = some r → P x0 x1 x2 x3 x4 x5 g) → ∀ (x0 x1 x2 x3 x4 x5 : Int32) (g : Sg), B self x0 x1 x2 x3 x4 x5 g = some r → P x0 x1 x2 x3 x4 x5 g) : ∀ (n : Nat), ∀ (x0 x1 x2 x3 x4 x5 : Int32) (g : Sg), lup6 B n x0 x1 x2 x3 x4 x5 g = some r → P x0 x1 x2 x3 x4 x5 g
  | 0, _, _, _, _, _, _, _, h1 => nomatch h1
  | n + 1, x0, x1, x2, x3, x4, x5, g, h1 => h (lup6 B n) (lup6_ok h n) x0 x1 x2 x3 x4 x5 g h1
def lup7 {β : Type} (B : (Int32 → Int32 → Int32 → Int32 → Int32 → Int32 → Int32 → Sg → Option β) → Int32 → Int32 → Int32 → Int32 → Int32 → Int32 → Int32 → Sg → Option β) : Nat → Int32 → Int32 → Int32 → Int32 → Int32 → Int32 → Int32 → Sg → Option β
  | 0 => fun _ _ _ _ _ _ _ _ => none
  | n + 1 => B (lup7 B n)
theorem lup7_ok {β : Type} {B : (Int32 → Int32 → Int32 → Int32 → Int32 → Int32 → Int32 → Sg → Option β) → Int32 → Int32 → Int32 → Int32 → Int32 → Int32 → Int32 → Sg → Option β} {r : β} {P : Int32 → Int32 → Int32 → Int32 → Int32 → Int32 → Int32 → Sg → Prop} (h : ∀ self : Int32 → Int32 → Int32 → Int32 → Int32 → Int32 → Int32 → Sg → Option β, (∀ (x0 x1 x2 x3 x4 x5 x6 : Int32) (g : Sg), self x0 x1 x2 x3 x4 x5 x6 g = some r → P x0 x1 x2 x3 x4 x5 x6 g) → ∀ (x0 x1 x2 x3 x4 x5 x6 : Int32) (g : Sg), B self x0 x1 x2 x3 x4 x5 x6 g = some r → P x0 x1 x2 x3 x4 x5 x6 g) : ∀ (n : Nat), ∀ (x0 x1 x2 x3 x4 x5 x6 : Int32) (g : Sg), lup7 B n x0 x1 x2 x3 x4 x5 x6 g = some r → P x0 x1 x2 x3 x4 x5 x6 g
  | 0, _, _, _, _, _, _, _, _, h1 => nomatch h1
  | n + 1, x0, x1, x2, x3, x4, x5, x6, g, h1 => h (lup7 B n) (lup7_ok h n) x0 x1 x2 x3 x4 x5 x6 g h1
