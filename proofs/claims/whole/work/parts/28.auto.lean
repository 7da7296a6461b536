/-! running a function by simp -/
theorem r_le1 {a b : Nat} (h : a ≤ b) (hb : b < 2 ^ 31) : (nI a ≤ nI b) = True := eq_true (nI_le h hb)
theorem r_le0 {a b : Nat} (h : b < a) (ha : a < 2 ^ 31) : (nI a ≤ nI b) = False := eq_false (nI_ge h ha)
theorem r_lt1 {a b : Nat} (h : a < b) (hb : b < 2 ^ 31) : (nI a < nI b) = True := eq_true (nI_lt h hb)
theorem r_lt0 {a b : Nat} (h : b ≤ a) (ha : a < 2 ^ 31) : (nI a < nI b) = False := eq_false (nI_nlt h ha)
theorem r_eq1 {a b : Nat} (h : a = b) : (nI a = nI b) = True := by subst h; exact eq_true rfl
theorem r_eq0 {a b : Nat} (h : a ≠ b) (ha : a < 2 ^ 31) (hb : b < 2 ^ 31) : (nI a = nI b) = False := eq_false (fun e => h ((nI_eq ha hb).mp e))
theorem r_ib {α : Type} {k n : Nat} {x : Option α} (h : k < n) (hn : n < 2 ^ 31) : gd (ib (nI k) n) x = x := gd_e (ib_nI h hn)
theorem r_b01 {α : Type} {k : Nat} {x : Option α} (h : k ≤ 1) : gd (b01 (nI k)) x = x := by
  rcases (show k = 0 ∨ k = 1 by omega) with rfl | rfl <;> rfl
theorem r_cpk {α : Type} {a b c n0 n1 : Nat} {x : Option α} (ha : a + c ≤ n0) (hb : b + c ≤ n1) (h0 : n0 < 2 ^ 31) (h1 : n1 < 2 ^ 31) : gd (cpk (nI a) (nI b) (nI c) n0 n1) x = x := by
  refine gd_e ?_
  simp only [cpk, Bool.and_eq_true, Bool.not_eq_true', decide_eq_false_iff_not, decide_eq_true_eq]
  refine ⟨⟨⟨⟨nI_pos (by omega), nI_pos (by omega)⟩, nI_pos (by omega)⟩, ?_⟩, ?_⟩
  · rw [nI_clamp (by omega), nI_clamp (by omega)]; exact ha
  · rw [nI_clamp (by omega), nI_clamp (by omega)]; exact hb
def m1 : Int32 := -1
theorem m1_e : (-nI 1 : Int32) = m1 := rfl
theorem m1_d : (-1 : Int32) = m1 := rfl
theorem m1_eq {a : Nat} (h : a < 2 ^ 31) : (nI a = m1) = False := eq_false (nI_nm1 h)
theorem m1_eq' {a : Nat} (h : a < 2 ^ 31) : (m1 = nI a) = False := eq_false (fun e => nI_nm1 h e.symm)
theorem m1_lt : (m1 < nI 0) = True := eq_true (by decide)
theorem m1_le {a : Nat} (h : a < 2 ^ 31) : (nI a ≤ m1) = False := by
  refine eq_false ?_
  rw [Int32.le_iff_toInt_le, nI_toInt h]
  have : m1.toInt = -1 := by decide
  omega
theorem m1_lt' {a : Nat} (h : a < 2 ^ 31) : (m1 < nI a) = True := by
  refine eq_true ?_
  rw [Int32.lt_iff_toInt_lt, nI_toInt h]
  have : m1.toInt = -1 := by decide
  omega
theorem lit_d (k : Nat) : (@OfNat.ofNat Int32 k _) = nI k := rfl
/-! take -/
theorem BR.copy {μ : Mm} {r q k on : Nat} {t o : Nat → Nat} {x y : Int32} (h : BR μ r t k x) (h2 : BR μ q o on y) (hy : y = 0 ∨ y = 1) (hd : q + 2 ≤ r ∨ r + 2 ≤ q) : ∃ μ', fX0_copyFrom r q μ = some μ' ∧ BR μ' r o on y ∧ Ag μ μ' r (r + 2) := by
  obtain ⟨h1, -, -, -, -⟩ := h
  obtain ⟨g1, g2, g3, g4, g5⟩ := h2
  refine ⟨si (si (sa μ (r + 1) (va_cpy (μ.1 (q + 1)) (μ.1 (r + 1)) 0 0 on)) r 1 (nI on)) r 2 y, ?_, ⟨h1, ?_, g3, si_k, fun j hj => ?_⟩, ?_⟩
  · unfold fX0_copyFrom
    have e1 : (sa μ (r + 1) (va_cpy (μ.1 (q + 1)) (μ.1 (r + 1)) 0 0 on)).1 q = μ.1 q := sa_b (by omega)
    have e2 : (si (sa μ (r + 1) (va_cpy (μ.1 (q + 1)) (μ.1 (r + 1)) 0 0 on)) r 1 (nI on)).1 q = μ.1 q := by rw [si_b (by omega), e1]
    have hb : b01 y = true := by rcases hy with rfl | rfl <;> rfl
    rw [g2, h1, g1]
    simp (disch := omega) only [lt'_e, bd_s, oc_n, oc_s, m1_e, lit_d, nI_add, pk_mul, pk_sub, nI_clamp, r_le1, r_le0, r_lt1, r_lt0, r_eq1, r_eq0, r_ib, r_b01, r_cpk, m1_eq, m1_eq', m1_lt, m1_le, m1_lt', ↓reduceIte, e1, g2, e2, g4, hb, gd_t]
  · rw [si_j (by decide), si_k]
  · rw [si_b (by omega), si_b (by omega), sa_a, pk_cpy_in (by omega) (by omega)]
    simpa using g5 j hj
  · exact ((Ag.wa (by omega) (by omega)).nsi (by omega) (by omega)).nsi (by omega) (by omega)
