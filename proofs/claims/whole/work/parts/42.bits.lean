/-! bits of codes -/
theorem or_add {a b k : Nat} (ha : a < 2 ^ k) (hb : a + b * 2 ^ k < 2 ^ 31) : nI a ||| nI (b * 2 ^ k) = nI (a + b * 2 ^ k) := by
  apply Int32.toBitVec_inj.mp
  apply BitVec.eq_of_toNat_eq
  show (nI a ||| nI (b * 2 ^ k)).toBitVec.toNat = _
  rw [Int32.toBitVec_or, BitVec.toNat_or, pk_tn (by omega), pk_tn (by omega), pk_tn (by omega)]
  have := Nat.two_pow_add_eq_or_of_lt ha b
  rw [Nat.mul_comm b, Nat.add_comm, this, Nat.or_comm]
theorem sm_dec : ∀ k, k < 32 → ((nI k &&& 31).toBitVec.smod 32).toNat = k := by decide +kernel
theorem shl1 : ∀ e, e < 13 → ((1 : Int32) <<< (nI e &&& 31)) = nI (2 ^ e) := by decide +kernel
theorem bt_lo {a b i m : Nat} (hb : b < 2 ^ i) (hm : m < i) : (2 ^ i * a + b) / 2 ^ m % 2 = b / 2 ^ m % 2 := by
  have h := Nat.testBit_two_pow_mul_add a hb m
  rw [if_pos hm, Nat.testBit_eq_decide_div_mod_eq, Nat.testBit_eq_decide_div_mod_eq, decide_eq_decide] at h
  omega
theorem bt_hi {a b i m : Nat} (hb : b < 2 ^ i) (hm : i ≤ m) : (2 ^ i * a + b) / 2 ^ m % 2 = a / 2 ^ (m - i) % 2 := by
  have h := Nat.testBit_two_pow_mul_add a hb m
  rw [if_neg (by omega), Nat.testBit_eq_decide_div_mod_eq, Nat.testBit_eq_decide_div_mod_eq, decide_eq_decide] at h
  omega
/-- the code of so many bits from a bit on -/
def cdS (D : Nat → Nat) (bit : Nat) : Nat → Nat
  | 0 => 0
  | k + 1 => cdS D bit k + (D ((bit + k) / 8) / 2 ^ ((bit + k) % 8) % 2) * 2 ^ k
theorem cdS_lt (D : Nat → Nat) (bit : Nat) : ∀ k, cdS D bit k < 2 ^ k := by
  intro k
  induction k with
  | zero => exact Nat.one_pos
  | succ k ih =>
    show cdS D bit k + (D ((bit + k) / 8) / 2 ^ ((bit + k) % 8) % 2) * 2 ^ k < 2 ^ (k + 1)
    have : D ((bit + k) / 8) / 2 ^ ((bit + k) % 8) % 2 < 2 := Nat.mod_lt _ (by decide)
    have h2 : (D ((bit + k) / 8) / 2 ^ ((bit + k) % 8) % 2) * 2 ^ k ≤ 1 * 2 ^ k := Nat.mul_le_mul_right _ (by omega)
    rw [Nat.pow_succ]
    omega
/-- three bytes hold the code -/
theorem cdS_w {D : Nat → Nat} {bit b0 b1 b2 : Nat} (h0 : b0 < 256) (h1 : b1 < 256) : ∀ k, k ≤ 12 → b0 = D (bit / 8) → (8 < bit % 8 + k → b1 = D (bit / 8 + 1)) → (16 < bit % 8 + k → b2 = D (bit / 8 + 2)) → (b0 + 256 * b1 + 65536 * b2) / 2 ^ (bit % 8) % 2 ^ k = cdS D bit k := by
  intro k
  induction k with
  | zero => intro _ _ _ _; rw [Nat.pow_zero, Nat.mod_one]; rfl
  | succ k ih =>
    intro hk e0 e1 e2
    have i := ih (by omega) e0 (fun q => e1 (by omega)) (fun q => e2 (by omega))
    show _ = cdS D bit k + (D ((bit + k) / 8) / 2 ^ ((bit + k) % 8) % 2) * 2 ^ k
    rw [Nat.mod_pow_succ, i, Nat.div_div_eq_div_mul, ← Nat.pow_add]
    have hm : bit % 8 < 8 := Nat.mod_lt _ (by decide)
    have key : (b0 + 256 * b1 + 65536 * b2) / 2 ^ (bit % 8 + k) % 2 = D ((bit + k) / 8) / 2 ^ ((bit + k) % 8) % 2 := by
      have s1 : b0 + 256 * b1 + 65536 * b2 = 2 ^ 8 * (2 ^ 8 * b2 + b1) + b0 := by omega
      rw [s1]
      by_cases c1 : bit % 8 + k < 8
      · rw [bt_lo h0 c1, e0, show (bit + k) / 8 = bit / 8 by omega, show (bit + k) % 8 = bit % 8 + k by omega]
      · rw [bt_hi h0 (by omega)]
        by_cases c2 : bit % 8 + k < 16
        · rw [bt_lo h1 (by omega), e1 (by omega), show (bit + k) / 8 = bit / 8 + 1 by omega, show (bit + k) % 8 = bit % 8 + k - 8 by omega]
        · rw [bt_hi h1 (by omega), e2 (by omega), show (bit + k) / 8 = bit / 8 + 2 by omega, show (bit + k) % 8 = bit % 8 + k - 8 - 8 by omega]
    rw [key, Nat.mul_comm]
theorem bit_x {x : Int32} {v s : Nat} (hx : x &&& 255 = nI v) (hv : v < 256) (hs : s < 8) : (x >>> (nI s &&& 31)) &&& 1 = nI (v / 2 ^ s % 2) := by
  have e1 : x.toBitVec.toNat % 256 = v := by
    have := pk_and x (m := 255) 8 (by decide)
    rw [hx] at this
    have h2 := congrArg (fun q : Int32 => q.toBitVec.toNat) this
    rw [pk_tn (by omega), pk_tn (by have : x.toBitVec.toNat % 2 ^ 8 < 2 ^ 8 := Nat.mod_lt _ (by decide); omega)] at h2
    omega
  rw [pk_and _ (m := 1) 1 (by decide)]
  congr 1
  have hsm := sm_dec s (by omega)
  rw [Int32.toBitVec_shiftRight, show (2 : Nat) ^ 1 = 2 from rfl]
  have b0 : ∀ w : BitVec 32, w.toNat % 2 = if w.getLsbD 0 = true then 1 else 0 := by
    intro w
    rw [BitVec.getLsbD, Nat.testBit_eq_decide_div_mod_eq, Nat.pow_zero, Nat.div_one]
    by_cases q : w.toNat % 2 = 1
    · rw [if_pos (by simpa using q), q]
    · rw [if_neg (by simpa using q)]; omega
  rw [b0, BitVec.sshiftRight', hsm, BitVec.getLsbD_sshiftRight]
  have : x.toBitVec.getLsbD (s + 0) = decide (v / 2 ^ s % 2 = 1) := by
    rw [Nat.add_zero, BitVec.getLsbD, Nat.testBit_eq_decide_div_mod_eq]
    have w : x.toBitVec.toNat = 2 ^ 8 * (x.toBitVec.toNat / 256) + v := by omega
    rw [w, bt_lo (by omega) hs]
  rw [if_pos (show s + 0 < 32 by omega), this]
  have h2 : v / 2 ^ s % 2 < 2 := Nat.mod_lt _ (by decide)
  by_cases q : v / 2 ^ s % 2 = 1
  · simp [q]
  · have : v / 2 ^ s % 2 = 0 := by omega
    simp [this]
/-! chains of rows -/
def okc (A T : Nat → Nat) (lim : Nat) : Nat → Nat → Bool
  | 0, _ => true
  | r + 1, x => decide (T x < lim) && okc A T lim r (A x)
def wrt (A T : Nat → Nat) (dn : Nat) : Nat → Nat → (Nat → Nat) → Nat → Nat
  | 0, _, o => o
  | r + 1, x, o => wrt A T dn r (A x) (u1 o (dn + r) (T x))
theorem wrt_lo {A T : Nat → Nat} {dn : Nat} : ∀ r x o k, k < dn ∨ dn + r ≤ k → wrt A T dn r x o k = o k := by
  intro r
  induction r with
  | zero => intro x o k _; rfl
  | succ r ih =>
    intro x o k hk
    show wrt A T dn r (A x) (u1 o (dn + r) (T x)) k = o k
    rw [ih _ _ _ (by omega), u1_j (by omega)]
def DK (cl nx x : Nat) : Prop := x < cl ∨ (cl + 2 ≤ x ∧ x < nx)
def DI (e nx : Nat) (fm : Option Nat) (A F T N : Nat → Nat) : Prop := (2 ≤ e ∧ e ≤ 8) ∧ (2 ^ e + 2 ≤ nx ∧ nx ≤ 4096) ∧ (∀ p, fm = some p → DK (2 ^ e) nx p) ∧ (∀ x, x < 2 ^ e → F x = x ∧ T x = x ∧ N x = 1) ∧ (∀ x, 2 ^ e + 2 ≤ x → x < nx → DK (2 ^ e) x (A x) ∧ N x = N (A x) + 1 ∧ F x < 2 ^ e ∧ T x < 2 ^ e)
theorem two_e {e : Nat} (h : e ≤ 8) : 2 ^ e ≤ 256 := Nat.pow_le_pow_right (by decide) h
theorem DI.n {e nx : Nat} {fm : Option Nat} {A F T N : Nat → Nat} (h : DI e nx fm A F T N) : ∀ x, DK (2 ^ e) nx x → 1 ≤ N x ∧ N x ≤ x + 1 ∧ F x < 2 ^ e ∧ T x < 2 ^ e := by
  intro x
  induction x using Nat.strongRecOn with
  | ind x ih =>
    intro hx
    rcases hx with q | ⟨q1, q2⟩
    · obtain ⟨a, b, c⟩ := h.2.2.2.1 x q
      omega
    · obtain ⟨a, b, c, d⟩ := h.2.2.2.2 x q1 q2
      have hA : A x < x ∧ DK (2 ^ e) nx (A x) := by
        rcases a with w | ⟨w1, w2⟩
        · exact ⟨by omega, Or.inl w⟩
        · exact ⟨w2, Or.inr ⟨w1, by omega⟩⟩
      have := ih (A x) hA.1 hA.2
      omega
/-- a chain does not see what is told at the end of the table -/
theorem okc_x {e nx : Nat} {fm : Option Nat} {A F T N : Nat → Nat} (h : DI e nx fm A F T N) {lim a v : Nat} : ∀ r x, DK (2 ^ e) nx x → N x = r → okc (u1 A nx a) (u1 T nx v) lim r x = okc A T lim r x := by
  have hnx := h.2.1.1
  intro r
  induction r with
  | zero => intro x _ _; rfl
  | succ r ih =>
    intro x hx hn
    have hxn : x ≠ nx := by rcases hx with q | q <;> omega
    show (decide (u1 T nx v x < lim) && okc (u1 A nx a) (u1 T nx v) lim r (u1 A nx a x)) = (decide (T x < lim) && okc A T lim r (A x))
    rw [u1_j hxn, u1_j hxn]
    rcases hx with q | ⟨q1, q2⟩
    · have : N x = 1 := (h.2.2.2.1 x q).2.2
      have : r = 0 := by omega
      subst this
      rfl
    · obtain ⟨w, b, c, d⟩ := h.2.2.2.2 x q1 q2
      rw [ih (A x) (by rcases w with w | ⟨w1, w2⟩; exact Or.inl w; exact Or.inr ⟨w1, by omega⟩) (by omega)]
theorem wrt_x {e nx : Nat} {fm : Option Nat} {A F T N : Nat → Nat} (h : DI e nx fm A F T N) {dn a v : Nat} : ∀ r x o, DK (2 ^ e) nx x → N x = r → wrt (u1 A nx a) (u1 T nx v) dn r x o = wrt A T dn r x o := by
  have hnx := h.2.1.1
  intro r
  induction r with
  | zero => intro x o _ _; rfl
  | succ r ih =>
    intro x o hx hn
    have hxn : x ≠ nx := by rcases hx with q | q <;> omega
    show wrt (u1 A nx a) (u1 T nx v) dn r (u1 A nx a x) (u1 o (dn + r) (u1 T nx v x)) = wrt A T dn r (A x) (u1 o (dn + r) (T x))
    rw [u1_j hxn, u1_j hxn]
    rcases hx with q | ⟨q1, q2⟩
    · have : N x = 1 := (h.2.2.2.1 x q).2.2
      have : r = 0 := by omega
      subst this
      rfl
    · obtain ⟨w, b, c, d⟩ := h.2.2.2.2 x q1 q2
      exact ih (A x) _ (by rcases w with w | ⟨w1, w2⟩; exact Or.inl w; exact Or.inr ⟨w1, by omega⟩) (by omega)
/-- the table behind a row that is told -/
theorem DI.tell {e nx p v : Nat} {A F T N : Nat → Nat} (h : DI e nx (some p) A F T N) (h4 : nx < 4096) (hv : v < 2 ^ e) (c : Nat) (hc : DK (2 ^ e) (nx + 1) c) : DI e (nx + 1) (some c) (u1 A nx p) (u1 F nx (F p)) (u1 T nx v) (u1 N nx (N p + 1)) := by
  have hnx := h.2.1.1
  have hp := h.2.2.1 p rfl
  have hpn : p ≠ nx := by rcases hp with q | q <;> omega
  refine ⟨h.1, ⟨by omega, by omega⟩, fun q hq => ?_, fun x hx => ?_, fun x h1 h2 => ?_⟩
  · have : c = q := by injection hq
    subst this
    exact hc
  · rw [u1_j (by omega), u1_j (by omega), u1_j (by omega)]
    exact h.2.2.2.1 x hx
  · by_cases q : x = nx
    · subst q
      rw [u1_k, u1_k, u1_k, u1_k, u1_j hpn]
      exact ⟨hp, rfl, (h.n p hp).2.2.1, hv⟩
    · obtain ⟨w, b, c, d⟩ := h.2.2.2.2 x h1 (by omega)
      have : A x ≠ nx := by rcases w with w | w <;> omega
      rw [u1_j q, u1_j q, u1_j q, u1_j q, u1_j this]
      exact ⟨w, b, c, d⟩
theorem DI.fm {e nx : Nat} {fm : Option Nat} {A F T N : Nat → Nat} (h : DI e nx fm A F T N) (c : Nat) (hc : DK (2 ^ e) nx c) : DI e nx (some c) A F T N := by
  refine ⟨h.1, h.2.1, fun q hq => ?_, h.2.2.2.1, h.2.2.2.2⟩
  have : c = q := by injection hq
  subst this
  exact hc
theorem DI.re {e nx : Nat} {fm : Option Nat} {A F T N : Nat → Nat} (h : DI e nx fm A F T N) : DI e (2 ^ e + 2) none A F T N := by
  have := two_e h.1.2
  refine ⟨h.1, ⟨Nat.le_refl _, by omega⟩, fun q hq => ?_, h.2.2.2.1, fun x h1 h2 => ?_⟩
  · cases hq
  · omega
