/-! Sets of goers as masks -/
theorem mk_less : ∀ (S : Fin 128) (i : Fin 7), (nI S.1 &&& (((1 : Int32) <<< (nI i.1 &&& 31)) ^^^ (-1))) = (if S.1.testBit i.1 = true then nI (S.1 - 2 ^ i.1) else nI S.1) := by decide +kernel
theorem mk_bit : ∀ (S : Fin 128) (i : Fin 7), ((nI S.1 >>> (nI i.1 &&& 31)) &&& 1) = (if S.1.testBit i.1 = true then 1 else 0) := by decide +kernel
theorem mk_xor : ∀ (S : Fin 128) (i : Fin 7), S.1.testBit i.1 = true → (nI S.1 ^^^ ((1 : Int32) <<< (nI i.1 &&& 31))) = nI (S.1 - 2 ^ i.1) := by decide +kernel
theorem mk_or : ∀ (S : Fin 128) (i : Fin 7), S.1 < 2 ^ i.1 → (nI S.1 ||| ((1 : Int32) <<< (nI i.1 &&& 31))) = nI (S.1 + 2 ^ i.1) := by decide +kernel
theorem mk_pow : ∀ n : Fin 8, ((1 : Int32) <<< (nI n.1 &&& 31)) = nI (2 ^ n.1) := by decide +kernel
theorem mk_all : ∀ n : Fin 8, ((1 : Int32) <<< (nI n.1 &&& 31)) - 1 = nI (2 ^ n.1 - 1) := by decide +kernel
theorem mk_sub : ∀ (S : Fin 128) (i j : Fin 7), S.1.testBit i.1 = true → (S.1 - 2 ^ i.1).testBit j.1 = (S.1.testBit j.1 && !decide (j.1 = i.1)) := by decide +kernel
theorem mk_lt : ∀ (S : Fin 128) (i : Fin 7), S.1.testBit i.1 = true → S.1 - 2 ^ i.1 < S.1 := by decide +kernel
theorem mk_ex : ∀ (n : Fin 8) (T : Fin 128), 0 < T.1 → T.1 < 2 ^ n.1 → ∃ j : Fin 7, j.1 < n.1 ∧ T.1.testBit j.1 = true := by decide +kernel
theorem mk_top : ∀ (n : Fin 8) (k : Fin 7) (m : Fin 128), k.1 < n.1 → m.1 < 2 ^ k.1 → (m.1 + (2 ^ n.1 - 2 ^ k.1)).testBit k.1 = true := by decide +kernel
theorem mk_add : ∀ (k i : Fin 7) (m : Fin 128), m.1 < 2 ^ k.1 → (m.1 + 2 ^ k.1).testBit i.1 = (decide (i.1 = k.1) || m.1.testBit i.1) := by decide +kernel
theorem p128 {n : Nat} (hn : n ≤ 7) : 2 ^ n ≤ 128 := by
  have h : 2 ^ n ≤ 2 ^ 7 := Nat.pow_le_pow_right (by decide) hn
  exact h
theorem p1 {n : Nat} : 1 ≤ 2 ^ n := Nat.one_le_two_pow
def sumS (N : Nat → Int32) (S : Nat) : Nat → Int32
  | 0 => 0
  | k + 1 => if S.testBit k = true then sumS N S k + N k else sumS N S k
def mxS (S : Nat) (T : Nat → Nat) : Nat → Nat
  | 0 => 0
  | k + 1 => if S.testBit k = true then max (mxS S T k) (T (S - 2 ^ k)) else mxS S T k
def zin (N : Nat → Int32) (S : Nat) : Nat → Bool
  | 0 => false
  | k + 1 => zin N S k || (S.testBit k && decide (N k = 0))
theorem sumS_s (N : Nat → Int32) (S k : Nat) : sumS N S (k + 1) = if S.testBit k = true then sumS N S k + N k else sumS N S k := rfl
theorem mxS_s (S : Nat) (T : Nat → Nat) (k : Nat) : mxS S T (k + 1) = if S.testBit k = true then max (mxS S T k) (T (S - 2 ^ k)) else mxS S T k := rfl
theorem zin_s (N : Nat → Int32) (S k : Nat) : zin N S (k + 1) = (zin N S k || (S.testBit k && decide (N k = 0))) := rfl
def stC (N : Nat → Int32) (n : Nat) (T : Nat → Nat) (S : Nat) : Nat := mxS S T n + (if sumS N S n = 0 then 1 else 0)
def gC (N : Nat → Int32) (n : Nat) (T : Nat → Nat) (S : Nat) : Nat := if S = 0 then 0 else stC N n T S
def gM (N : Nat → Int32) (n : Nat) (T : Nat → Nat) (S : Nat) : Nat := if zin N S n = true then 0 else if S = 0 then 0 else stC N n T S
theorem sum_0 (N : Nat → Int32) : ∀ k, sumS N 0 k = 0
  | 0 => rfl
  | k + 1 => by rw [sumS_s, Nat.zero_testBit, if_neg (by decide)]; exact sum_0 N k
theorem mxS_0 (T : Nat → Nat) : ∀ k, mxS 0 T k = 0
  | 0 => rfl
  | k + 1 => by rw [mxS_s, Nat.zero_testBit, if_neg (by decide)]; exact mxS_0 T k
theorem sum_sub {N : Nat → Int32} {S i : Nat} (hS : S < 128) (hi : i < 7) (hb : S.testBit i = true) : ∀ k, k ≤ 7 → sumS N S k = sumS N (S - 2 ^ i) k + (if i < k then N i else 0) := by
  intro k
  induction k with
  | zero =>
    intro _
    rw [if_neg (Nat.not_lt_zero i), Int32.add_zero]; rfl
  | succ k ih =>
    intro hk
    have e := ih (by omega)
    have b : (S - 2 ^ i).testBit k = (S.testBit k && !decide (k = i)) := mk_sub ⟨S, hS⟩ ⟨i, hi⟩ ⟨k, by omega⟩ hb
    rw [sumS_s, sumS_s, b]
    by_cases c : k = i
    · rw [c] at e ⊢
      rw [if_neg (Nat.lt_irrefl i), Int32.add_zero] at e
      rw [hb, if_pos rfl, if_neg (by simp), if_pos (by omega), e]
    · have q : (!decide (k = i)) = true := by rw [decide_eq_false c]; rfl
      rw [q, Bool.and_true, e]
      have t : (if i < k + 1 then N i else 0) = (if i < k then N i else 0) := by
        by_cases d : i < k
        · rw [if_pos d, if_pos (by omega)]
        · rw [if_neg d, if_neg (by omega)]
      rw [t]
      by_cases d : S.testBit k = true
      · rw [if_pos d, if_pos d]; ac_rfl
      · rw [if_neg d, if_neg d]
theorem mxS_ge {S : Nat} {T : Nat → Nat} {j : Nat} (hb : S.testBit j = true) : ∀ k, j < k → T (S - 2 ^ j) ≤ mxS S T k := by
  intro k
  induction k with
  | zero => intro h; omega
  | succ k ih =>
    intro h
    rw [mxS_s]
    by_cases c : k = j
    · rw [c, if_pos hb]; exact Nat.le_max_right _ _
    · have := ih (by omega)
      by_cases d : S.testBit k = true
      · rw [if_pos d]; exact Nat.le_trans this (Nat.le_max_left _ _)
      · rw [if_neg d]; exact this
theorem mxS_lub {S : Nat} {T : Nat → Nat} {b : Nat} : ∀ k, (∀ j, j < k → S.testBit j = true → T (S - 2 ^ j) ≤ b) → mxS S T k ≤ b := by
  intro k
  induction k with
  | zero => intro _; exact Nat.zero_le b
  | succ k ih =>
    intro h
    have := ih (fun j hj => h j (by omega))
    rw [mxS_s]
    by_cases d : S.testBit k = true
    · rw [if_pos d]; exact Nat.max_le.mpr ⟨this, h k (by omega) d⟩
    · rw [if_neg d]; exact this
theorem mxS_congr {S : Nat} {T U : Nat → Nat} : ∀ k, (∀ j, j < k → S.testBit j = true → T (S - 2 ^ j) = U (S - 2 ^ j)) → mxS S T k = mxS S U k := by
  intro k
  induction k with
  | zero => intro _; rfl
  | succ k ih =>
    intro h
    have := ih (fun j hj => h j (by omega))
    rw [mxS_s, mxS_s]
    by_cases d : S.testBit k = true
    · rw [if_pos d, if_pos d, this, h k (by omega) d]
    · rw [if_neg d, if_neg d, this]
theorem zin_f {N : Nat → Int32} {S : Nat} : ∀ k, zin N S k = false ↔ ∀ j, j < k → S.testBit j = true → ¬ N j = 0 := by
  intro k
  induction k with
  | zero => exact ⟨fun _ j hj => absurd hj (Nat.not_lt_zero j), fun _ => rfl⟩
  | succ k ih =>
    rw [zin_s, Bool.or_eq_false_iff, ih]
    refine ⟨fun h j hj hb hz => ?_, fun h => ⟨fun j hj => h j (by omega), ?_⟩⟩
    · by_cases c : j = k
      · subst c
        have := h.2
        rw [hb, decide_eq_true hz] at this
        exact absurd this (by decide)
      · exact h.1 j (by omega) hb hz
    · by_cases d : S.testBit k = true
      · rw [d, decide_eq_false (h k (by omega) d)]; rfl
      · rw [Bool.eq_false_iff.mpr d]; rfl
theorem g_bd {N : Nat → Int32} {n k : Nat} {G : Nat → Nat} (hn : n ≤ 7) (hk : k ≤ 2 ^ n) (hG : ∀ S, S < k → G S = 0 ∨ (S ≠ 0 ∧ G S = stC N n G S)) : ∀ b S, S ≤ b → S < k → G S ≤ S := by
  have h128 := p128 hn
  intro b
  induction b with
  | zero =>
    intro S hb hS
    rcases hG S hS with h | ⟨h, -⟩
    · omega
    · omega
  | succ b ih =>
    intro S hb hS
    rcases hG S hS with h | ⟨h, e⟩
    · omega
    · have m : mxS S G n ≤ S - 1 := mxS_lub n (fun j hj hbit => by
        have l : S - 2 ^ j < S := mk_lt ⟨S, by omega⟩ ⟨j, by omega⟩ hbit
        have := ih (S - 2 ^ j) (by omega) (by omega)
        omega)
      rw [e]
      unfold stC
      split <;> omega
theorem gC_c {N : Nat → Int32} {n : Nat} {G : Nat → Nat} {S : Nat} (h : G S = gC N n G S) : G S = 0 ∨ (S ≠ 0 ∧ G S = stC N n G S) := by
  unfold gC at h
  by_cases c : S = 0
  · rw [if_pos c] at h; exact Or.inl h
  · rw [if_neg c] at h; exact Or.inr ⟨c, h⟩
theorem gM_c {N : Nat → Int32} {n : Nat} {G : Nat → Nat} {S : Nat} (h : G S = gM N n G S) : G S = 0 ∨ (S ≠ 0 ∧ G S = stC N n G S) := by
  unfold gM at h
  by_cases c : zin N S n = true
  · rw [if_pos c] at h; exact Or.inl h
  · rw [if_neg c] at h
    by_cases c : S = 0
    · rw [if_pos c] at h; exact Or.inl h
    · rw [if_neg c] at h; exact Or.inr ⟨c, h⟩
/-- a goer who owes nothing is a group of his own -/
theorem z_one {N : Nat → Int32} {n : Nat} {G : Nat → Nat} (hn : n ≤ 7) (hG : ∀ S, S < 2 ^ n → G S = gC N n G S) {i : Nat} (hi : i < n) (hz : N i = 0) : ∀ b S, S ≤ b → S < 2 ^ n → S.testBit i = true → G S = 1 + G (S - 2 ^ i) := by
  have h128 := p128 hn
  intro b
  induction b with
  | zero =>
    intro S hb _ hbit
    obtain rfl : S = 0 := by omega
    rw [Nat.zero_testBit] at hbit
    exact absurd hbit (by decide)
  | succ b ih =>
    intro S hb hS hbit
    have l : S - 2 ^ i < S := mk_lt ⟨S, by omega⟩ ⟨i, by omega⟩ hbit
    have bits : ∀ j, j < 7 → (S - 2 ^ i).testBit j = (S.testBit j && !decide (j = i)) := fun j hj => mk_sub ⟨S, by omega⟩ ⟨i, by omega⟩ ⟨j, hj⟩ hbit
    have es : sumS N S n = sumS N (S - 2 ^ i) n := by
      rw [sum_sub (by omega) (by omega) hbit n hn, if_pos hi, hz, Int32.add_zero]
    have eS : G S = mxS S G n + (if sumS N S n = 0 then 1 else 0) := by
      rw [hG S hS]; unfold gC; rw [if_neg (by omega)]; rfl
    by_cases T0 : S - 2 ^ i = 0
    · have g0 : G 0 = 0 := by rw [hG 0 (by omega)]; exact if_pos rfl
      have m0 : mxS S G n = 0 := Nat.le_zero.mp (mxS_lub n (fun j hj hb2 => by
        by_cases c : j = i
        · rw [c, T0, g0]; exact Nat.le_refl 0
        · have := bits j (by omega)
          rw [T0, Nat.zero_testBit, hb2, decide_eq_false c] at this
          exact absurd this (by decide)))
      rw [eS, m0, es, T0, sum_0, if_pos rfl, g0]
    · have eT : G (S - 2 ^ i) = mxS (S - 2 ^ i) G n + (if sumS N (S - 2 ^ i) n = 0 then 1 else 0) := by
        rw [hG (S - 2 ^ i) (by omega)]; unfold gC; rw [if_neg T0]; rfl
      have step : ∀ j, j < n → j ≠ i → S.testBit j = true → (S - 2 ^ i).testBit j = true ∧ G (S - 2 ^ j) = 1 + G (S - 2 ^ i - 2 ^ j) := fun j hj c hb2 => by
        refine ⟨by rw [bits j (by omega), hb2, decide_eq_false c]; rfl, ?_⟩
        have l2 : S - 2 ^ j < S := mk_lt ⟨S, by omega⟩ ⟨j, by omega⟩ hb2
        have b2 : (S - 2 ^ j).testBit i = (S.testBit i && !decide (i = j)) := mk_sub ⟨S, by omega⟩ ⟨j, by omega⟩ ⟨i, by omega⟩ hb2
        rw [hbit, decide_eq_false (fun e => c e.symm)] at b2
        rw [ih (S - 2 ^ j) (by omega) (by omega) b2, Nat.sub_right_comm]
      have up : mxS S G n ≤ 1 + mxS (S - 2 ^ i) G n := mxS_lub n (fun j hj hb2 => by
        by_cases c : j = i
        · rw [c, eT]; split <;> omega
        · obtain ⟨u, v⟩ := step j hj c hb2
          have := mxS_ge (T := G) u n hj
          omega)
      obtain ⟨j0, hj0, hbj0⟩ := mk_ex ⟨n, by omega⟩ ⟨S - 2 ^ i, by omega⟩ (Nat.pos_of_ne_zero T0) (show S - 2 ^ i < 2 ^ n by omega)
      have hbj0 : (S - 2 ^ i).testBit j0.1 = true := hbj0
      have hj0 : j0.1 < n := hj0
      have back : ∀ j, j < n → (S - 2 ^ i).testBit j = true → S.testBit j = true ∧ j ≠ i := fun j hj hb2 => by
        have := bits j (by omega)
        rw [hb2] at this
        have := Bool.and_eq_true_iff.mp this.symm
        refine ⟨this.1, fun e => ?_⟩
        rw [decide_eq_true e] at this
        exact absurd this.2 (by decide)
      have one : 1 ≤ mxS S G n := by
        obtain ⟨u, v⟩ := back j0.1 hj0 hbj0
        have w := (step j0.1 hj0 v u).2
        have := mxS_ge (T := G) u n hj0
        omega
      have lo : mxS (S - 2 ^ i) G n ≤ mxS S G n - 1 := mxS_lub n (fun j hj hb2 => by
        obtain ⟨u, v⟩ := back j hj hb2
        have w := (step j hj v u).2
        have := mxS_ge (T := G) u n hj
        omega)
      rw [eS, eT, es]
      omega
theorem g_eq {N : Nat → Int32} {n : Nat} {G M : Nat → Nat} (hn : n ≤ 7) (hG : ∀ S, S < 2 ^ n → G S = gC N n G S) (hM : ∀ S, S < 2 ^ n → M S = gM N n M S) : ∀ b S, S ≤ b → S < 2 ^ n → zin N S n = false → G S = M S := by
  have h128 := p128 hn
  intro b
  induction b with
  | zero =>
    intro S hb hS hz
    obtain rfl : S = 0 := by omega
    rw [hG 0 hS, hM 0 hS]
    unfold gC gM
    rw [if_pos rfl, hz, if_neg (by decide), if_pos rfl]
  | succ b ih =>
    intro S hb hS hz
    rw [hG S hS, hM S hS]
    unfold gC gM
    rw [hz, if_neg (show ¬ false = true by decide)]
    by_cases c : S = 0
    · rw [if_pos c, if_pos c]
    · rw [if_neg c, if_neg c]
      unfold stC
      rw [mxS_congr n (fun j hj hbit => ?_)]
      have l : S - 2 ^ j < S := mk_lt ⟨S, by omega⟩ ⟨j, by omega⟩ hbit
      refine ih (S - 2 ^ j) (by omega) (by omega) ((zin_f n).mpr (fun k hk hb2 => (zin_f n).mp hz k hk ?_))
      have q : (S - 2 ^ j).testBit k = (S.testBit k && !decide (k = j)) := mk_sub ⟨S, by omega⟩ ⟨j, by omega⟩ ⟨k, by omega⟩ hbit
      rw [hb2] at q
      exact (Bool.and_eq_true_iff.mp q.symm).1
def nzM (N : Nat → Int32) : Nat → Nat
  | 0 => 0
  | k + 1 => if N k = 0 then nzM N k else nzM N k + 2 ^ k
def cnt (N : Nat → Int32) : Nat → Nat
  | 0 => 0
  | k + 1 => if N k = 0 then cnt N k else cnt N k + 1
theorem nzM_s (N : Nat → Int32) (k : Nat) : nzM N (k + 1) = if N k = 0 then nzM N k else nzM N k + 2 ^ k := rfl
theorem cnt_s (N : Nat → Int32) (k : Nat) : cnt N (k + 1) = if N k = 0 then cnt N k else cnt N k + 1 := rfl
theorem nz_lt (N : Nat → Int32) : ∀ k, nzM N k < 2 ^ k
  | 0 => Nat.one_pos
  | k + 1 => by
    have := nz_lt N k
    rw [nzM_s, Nat.pow_succ]
    split <;> omega
theorem cnt_le (N : Nat → Int32) : ∀ k, cnt N k ≤ k
  | 0 => Nat.le_refl 0
  | k + 1 => by
    have := cnt_le N k
    rw [cnt_s]
    split <;> omega
theorem nz_bit {N : Nat → Int32} {j : Nat} (hj : j < 7) : ∀ k, k ≤ 7 → (nzM N k).testBit j = true → j < k ∧ ¬ N j = 0 := by
  intro k
  induction k with
  | zero =>
    intro _ h
    have h : Nat.testBit 0 j = true := h
    rw [Nat.zero_testBit] at h
    exact absurd h (by decide)
  | succ k ih =>
    intro hk h
    rw [nzM_s] at h
    by_cases c : N k = 0
    · rw [if_pos c] at h
      have := ih (by omega) h
      exact ⟨by omega, this.2⟩
    · rw [if_neg c] at h
      have l := nz_lt N k
      have l7 : 2 ^ k ≤ 128 := p128 (by omega)
      have q : (nzM N k + 2 ^ k).testBit j = (decide (j = k) || (nzM N k).testBit j) := mk_add ⟨k, by omega⟩ ⟨j, hj⟩ ⟨nzM N k, by omega⟩ l
      rw [q, Bool.or_eq_true] at h
      rcases h with h | h
      · have := of_decide_eq_true h
        subst this
        exact ⟨by omega, c⟩
      · have := ih (by omega) h
        exact ⟨by omega, this.2⟩
theorem zz {N : Nat → Int32} {n : Nat} {G : Nat → Nat} (hn : n ≤ 7) (hG : ∀ S, S < 2 ^ n → G S = gC N n G S) : ∀ k, k ≤ n → G (2 ^ n - 1) + cnt N k = k + G (nzM N k + (2 ^ n - 2 ^ k)) := by
  have h128 := p128 hn
  intro k
  induction k with
  | zero =>
    intro _
    show G (2 ^ n - 1) + 0 = 0 + G (0 + (2 ^ n - 1))
    rw [Nat.zero_add, Nat.zero_add, Nat.add_zero]
  | succ k ih =>
    intro hk
    have e := ih (by omega)
    have l := nz_lt N k
    have p : 2 ^ (k + 1) = 2 ^ k + 2 ^ k := by rw [Nat.pow_succ]; omega
    have q : 2 ^ (k + 1) ≤ 2 ^ n := Nat.pow_le_pow_right (by decide) hk
    rw [cnt_s, nzM_s]
    by_cases c : N k = 0
    · rw [if_pos c, if_pos c, e]
      have b : (nzM N k + (2 ^ n - 2 ^ k)).testBit k = true := mk_top ⟨n, by omega⟩ ⟨k, by omega⟩ ⟨nzM N k, by omega⟩ hk l
      have w := z_one hn hG (i := k) (by omega) c _ (nzM N k + (2 ^ n - 2 ^ k)) (Nat.le_refl _) (by omega) b
      have u : nzM N k + (2 ^ n - 2 ^ k) - 2 ^ k = nzM N k + (2 ^ n - 2 ^ (k + 1)) := by omega
      rw [u] at w
      omega
    · rw [if_neg c, if_neg c]
      have u : nzM N k + 2 ^ k + (2 ^ n - 2 ^ (k + 1)) = nzM N k + (2 ^ n - 2 ^ k) := by omega
      rw [u]
      omega
theorem pay_eq {N : Nat → Int32} {n : Nat} {G M : Nat → Nat} (hn : n ≤ 7) (hG : ∀ S, S < 2 ^ n → G S = gC N n G S) (hM : ∀ S, S < 2 ^ n → M S = gM N n M S) : nI n - nI (G (2 ^ n - 1)) = nI (cnt N n) - nI (M (nzM N n)) := by
  have h128 := p128 hn
  have h1 := p1 (n := n)
  have e := zz hn hG n (Nat.le_refl n)
  rw [Nat.sub_self, Nat.add_zero] at e
  have l := nz_lt N n
  have z : zin N (nzM N n) n = false := (zin_f n).mpr (fun j hj hb => (nz_bit (by omega) n hn hb).2)
  rw [g_eq hn hG hM _ (nzM N n) (Nat.le_refl _) l z] at e
  have a1 := g_bd hn (Nat.le_refl _) (fun S hS => gC_c (hG S hS)) _ (2 ^ n - 1) (Nat.le_refl _) (by omega)
  have a2 := g_bd hn (Nat.le_refl _) (fun S hS => gM_c (hM S hS)) _ (nzM N n) (Nat.le_refl _) l
  have a3 := cnt_le N n
  apply i_eq
  rw [T_sub (by rw [T_nI (by omega), T_nI (by omega)]; omega) (by rw [T_nI (by omega), T_nI (by omega)]; omega), T_sub (by rw [T_nI (by omega), T_nI (by omega)]; omega) (by rw [T_nI (by omega), T_nI (by omega)]; omega), T_nI (by omega), T_nI (by omega), T_nI (by omega), T_nI (by omega)]
  omega
