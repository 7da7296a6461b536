/-! PURE PART. numbers and the memory -/
theorem si_k {μ : Mm} {a k : Nat} {v : Int32} : (si μ a k v).1 a k = v := by simp [si, u2, u1]
theorem si_j {μ : Mm} {a k j : Nat} {v : Int32} (h : j ≠ k) : (si μ a k v).1 a j = μ.1 a j := by simp [si, u2, u1, h]
theorem si_b {μ : Mm} {a k b : Nat} {v : Int32} (h : b ≠ a) : (si μ a k v).1 b = μ.1 b := by simp [si, u2, h]
theorem si_2 {μ : Mm} {a k : Nat} {v : Int32} : (si μ a k v).2 = μ.2 := rfl
theorem si_r {μ : Mm} {a k : Nat} {v : Int32} : (si μ a k v).1 a = u1 (μ.1 a) k v := by simp [si, u2]
theorem sa_a {μ : Mm} {a : Nat} {f : Nat → Int32} : (sa μ a f).1 a = f := by simp [sa, s2]
theorem sa_b {μ : Mm} {a b : Nat} {f : Nat → Int32} (h : b ≠ a) : (sa μ a f).1 b = μ.1 b := by simp [sa, s2, h]
theorem sa_2 {μ : Mm} {a : Nat} {f : Nat → Int32} : (sa μ a f).2 = μ.2 := rfl
theorem u1_k {α : Type} {f : Nat → α} {k : Nat} {v : α} : u1 f k v k = v := by simp [u1]
theorem u1_j {α : Type} {f : Nat → α} {k j : Nat} {v : α} (h : j ≠ k) : u1 f k v j = f j := by simp [u1, h]
theorem lt'_e {α β : Type} (e : α) (f : α → β) : lt' e f = f e := rfl
theorem bd_s {α β : Type} (x : α) (f : α → Option β) : bd (some x) f = f x := rfl
theorem gd_t {α : Type} (x : Option α) : gd true x = x := rfl
theorem bd_e {α β : Type} {x : Option α} {y : α} {f : α → Option β} (h : x = some y) : bd x f = f y := by rw [h]; rfl
theorem gd_e {α : Type} {b : Bool} {x : Option α} (h : b = true) : gd b x = x := by rw [h]; rfl
/-- the memory is the same outside of the cells lo .. hi - 1; no reference has moved -/
def Ag (μ μ' : Mm) (lo hi : Nat) : Prop := μ'.2 = μ.2 ∧ ∀ b, b < lo ∨ hi ≤ b → μ'.1 b = μ.1 b
theorem Ag.rf {μ : Mm} {lo hi : Nat} : Ag μ μ lo hi := ⟨rfl, fun _ _ => rfl⟩
theorem Ag.tr {μ μ1 μ2 : Mm} {lo hi : Nat} (h : Ag μ μ1 lo hi) (h1 : Ag μ1 μ2 lo hi) : Ag μ μ2 lo hi := ⟨h1.1.trans h.1, fun b hb => (h1.2 b hb).trans (h.2 b hb)⟩
theorem Ag.up {μ μ1 : Mm} {lo hi lo' hi' : Nat} (h : Ag μ μ1 lo hi) (h1 : lo' ≤ lo) (h2 : hi ≤ hi') : Ag μ μ1 lo' hi' := ⟨h.1, fun b hb => h.2 b (by omega)⟩
theorem Ag.wi {μ : Mm} {a k lo hi : Nat} {v : Int32} (h1 : lo ≤ a) (h2 : a < hi) : Ag μ (si μ a k v) lo hi := ⟨rfl, fun b hb => si_b (by omega)⟩
theorem Ag.wa {μ : Mm} {a lo hi : Nat} {f : Nat → Int32} (h1 : lo ≤ a) (h2 : a < hi) : Ag μ (sa μ a f) lo hi := ⟨rfl, fun b hb => sa_b (by omega)⟩
theorem Ag.nsi {μ μ1 : Mm} {a k lo hi : Nat} {v : Int32} (h : Ag μ μ1 lo hi) (h1 : lo ≤ a) (h2 : a < hi) : Ag μ (si μ1 a k v) lo hi := h.tr (Ag.wi h1 h2)
/-! numbers -/
theorem nI_m1 : (-1 : Int32) ≠ 0 := by decide
theorem nI_lt0 {a : Nat} (h : a < 2 ^ 31) : ¬ nI a < 0 := nI_pos h
theorem ib_nI {k n : Nat} (h : k < n) (hn : n < 2 ^ 31) : ib (nI k) n = true := by
  simp only [ib, Bool.and_eq_true, Bool.not_eq_true', decide_eq_false_iff_not, decide_eq_true_eq]
  exact ⟨nI_pos (by omega), by rw [nI_clamp (by omega)]; exact h⟩
theorem byte_of (x : Int32) : ∃ v : Nat, v < 256 ∧ x &&& 255 = nI v := by
  obtain ⟨j, h1, h2⟩ := pk_andE x (m := 255) 8 (by decide)
  exact ⟨j, h1, h2⟩
theorem b_toB (x : Int32) : x.toInt8.toInt32 &&& 255 = x &&& 255 := by
  apply Int32.toBitVec_inj.mp
  have h : ∀ y : BitVec 32, (y.signExtend 8).signExtend 32 &&& 255#32 = y &&& 255#32 := by
    intro y
    ext i hi
    by_cases h8 : i < 8
    · simp [BitVec.getElem_signExtend, h8, hi]
    · have : (255#32).getLsbD i = false := by
        have h31 : i < 32 := hi
        have : ∀ j, j < 32 → ¬ j < 8 → (255#32).getLsbD j = false := by decide
        exact this i h31 h8
      simp [BitVec.getElem_and, ← BitVec.getLsbD_eq_getElem, this]
  simpa using h x.toBitVec
/-- the lowest byte of x -/
def by8 (x : Int32) : Nat := x.toBitVec.toNat % 256
theorem by8_lt (x : Int32) : by8 x < 256 := Nat.mod_lt _ (by decide)
theorem by8_and (x : Int32) : x &&& 255 = nI (by8 x) := pk_and x 8 (by decide)
theorem by8_nI {k : Nat} (h : k < 256) : by8 (nI k) = k := by
  unfold by8
  rw [pk_tn (by omega)]
  omega
theorem nar_b (x : Int32) : vp_nar .byte x.toInt8.toInt32 = x.toInt8.toInt32 := pk_vb x
theorem nar_b' (x : Int32) : vp_nar .byte x &&& 255 = x &&& 255 := by rw [vp_nar_byte, b_toB]
