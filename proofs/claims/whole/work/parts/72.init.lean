/-! THE BEGINNING: what the constructors leave -/
def zz (μ : Mm) (a : Nat) : Mm := (s2 μ.1 a (fun _ => 0), μ.2)
theorem zN_2 {Z : Zt} {a t : Nat} : (zN Z a t).2 = zz Z.2 a := rfl
theorem zA_2 {Z : Zt} {a t n : Nat} : (zA Z a t n).2 = zz Z.2 a := rfl
theorem zR_2 {Z : Zt} {a t mk k v : Nat} : (zR Z a t mk k v).2 = sr Z.2 a k v := rfl
theorem zI_2 {Z : Zt} {a k : Nat} {v : Int32} : (zI Z a k v).2 = si Z.2 a k v := rfl
theorem zD_2 {Z : Zt} {a t n : Nat} : (zD Z a t n).2 = Z.2 := rfl
theorem zF_2 {Z : Zt} {a j v : Nat} : (zF Z a j v).2 = sr Z.2 a j v := rfl
theorem zM_2 {Z : Zt} {μ : Mm} : (zM Z μ).2 = μ := rfl
theorem zz_k {μ : Mm} {a k : Nat} : (zz μ a).1 a k = 0 := by
  show s2 μ.1 a (fun _ => (0 : Int32)) a k = 0
  rw [s2_s]
theorem zz_b {μ : Mm} {a b : Nat} (h : b ≠ a) : (zz μ a).1 b = μ.1 b := s2_o h
theorem zz_2 {μ : Mm} {a : Nat} : (zz μ a).2 = μ.2 := rfl
theorem sr_1 {μ : Mm} {a k v : Nat} : (sr μ a k v).1 = μ.1 := rfl
theorem sr_k {μ : Mm} {a k v : Nat} : (sr μ a k v).2 a k = v := u2_kk
theorem sr_j {μ : Mm} {a k v j : Nat} (h : j ≠ k) : (sr μ a k v).2 a j = μ.2 a j := u2_jj h
theorem sr_b {μ : Mm} {a k v b : Nat} (h : b ≠ a) : (sr μ a k v).2 b = μ.2 b := u2_o h
theorem i0 {a : Nat} {Z : Zt} : BR (fX0_init a (a + 1) Z).2 a (fun _ => 0) 0 0 ∧ Fr Z.2 (fX0_init a (a + 1) Z).2 a (a + 2) := by
  unfold fX0_init
  refine ⟨⟨?_, ?_, by decide, ?_, fun j hj => by omega⟩, fun b hb => ?_⟩
  · simp (disch := omega) only [lt'_e, zD_2, zI_2, zR_2, zA_2, si_2, sr_k, Nat.add_zero]
  · simp (disch := omega) only [lt'_e, zD_2, zI_2, zR_2, zA_2, si_j, si_k]
    rfl
  · simp (disch := omega) only [lt'_e, zD_2, zI_2, zR_2, zA_2, si_k]
  · simp (disch := omega) only [lt'_e, zD_2, zI_2, zR_2, zA_2, si_b, si_2, sr_1, sr_b, zz_b, zz_2, Nat.add_zero, and_self]
theorem i7 {a : Nat} {Z : Zt} : ((fX7_init a (a + 1) Z).2.2 a 0 = a + 1 ∧ (fX7_init a (a + 1) Z).2.1 a 1 = 0) ∧ Fr Z.2 (fX7_init a (a + 1) Z).2 a (a + 2) := by
  unfold fX7_init
  refine ⟨⟨?_, ?_⟩, fun b hb => ?_⟩
  · simp (disch := omega) only [lt'_e, zD_2, zI_2, zR_2, zA_2, si_2, sr_k, Nat.add_zero]
  · simp (disch := omega) only [lt'_e, zD_2, zI_2, zR_2, zA_2, si_k]
  · simp (disch := omega) only [lt'_e, zD_2, zI_2, zR_2, zA_2, si_b, si_2, sr_1, sr_b, zz_b, zz_2, Nat.add_zero, and_self]
theorem i8 {a n : Nat} {Z : Zt} : Fr Z.2 (fX8_init a n Z).2 a (a + 1) := by
  unfold fX8_init
  intro b hb
  simp (disch := omega) only [lt'_e, zD_2, zM_2, si_b, si_2, and_self]
theorem i3 {a : Nat} {Z : Zt} : ((fX3_init a (a + 1) Z).2.2 a 5 = a + 1 ∧ (fX3_init a (a + 1) Z).2.2 a 6 = a + 3 ∧ (fX3_init a (a + 1) Z).2.2 a 7 = a + 4 ∧ (fX3_init a (a + 1) Z).2.2 (a + 1) 0 = a + 2) ∧ Fr Z.2 (fX3_init a (a + 1) Z).2 a (a + 5) := by
  unfold fX3_init
  simp only [lt'_e, Nat.add_zero]
  obtain ⟨Z6, x6⟩ : ∃ Z6, Z6 = zN (zI (zI (zI (zI (zI Z a 0 0) a 1 0) a 2 1) a 3 1) a 4 0) (a + 1) 7 := ⟨_, rfl⟩
  rw [← x6]
  have f6 : Fr Z.2 Z6.2 a (a + 5) := by
    rw [x6]
    intro b hb
    simp (disch := omega) only [zI_2, zN_2, si_b, si_2, zz_b, zz_2, and_self]
  obtain ⟨⟨t1, t2⟩, f7⟩ := i7 (a := a + 1) (Z := Z6)
  obtain ⟨Z7, x7⟩ : ∃ Z7, Z7 = fX7_init (a + 1) (a + 1 + 1) Z6 := ⟨_, rfl⟩
  rw [← x7] at t1 t2 f7 ⊢
  obtain ⟨Z9, x9⟩ : ∃ Z9, Z9 = zN (zR Z7 a 3 32 5 (a + 1)) (a + 1 + 2) 8 := ⟨_, rfl⟩
  rw [← x9]
  have f8 := i8 (a := a + 1 + 2) (n := a + 1 + 3) (Z := Z9)
  obtain ⟨Z10, x10⟩ : ∃ Z10, Z10 = fX8_init (a + 1 + 2) (a + 1 + 3) Z9 := ⟨_, rfl⟩
  rw [← x10] at f8 ⊢
  have g5 : Z9.2.2 a 5 = a + 1 := by rw [x9]; simp (disch := omega) only [zN_2, zR_2, zz_2, sr_k]
  have g10 : Z9.2.2 (a + 1) 0 = a + 2 := by
    rw [x9]
    simp (disch := omega) only [zN_2, zR_2, zz_2, sr_b]
    rw [t1]
  have f9 : Fr Z7.2 Z9.2 a (a + 5) := by
    rw [x9]
    intro b hb
    simp (disch := omega) only [zN_2, zR_2, zz_2, zz_b, sr_1, sr_b, and_self]
  refine ⟨⟨?_, ?_, ?_, ?_⟩, fun b hb => ?_⟩
  · simp (disch := omega) only [zD_2, zR_2, zA_2, sr_j, zz_2]
    rw [(f8 a (by omega)).2]; exact g5
  · simp (disch := omega) only [zD_2, zR_2, zA_2, sr_j, zz_2, sr_k]
  · simp (disch := omega) only [zD_2, zR_2, zA_2, sr_k]
  · simp (disch := omega) only [zD_2, zR_2, zA_2, sr_b, zz_2]
    rw [(f8 (a + 1) (by omega)).2]; exact g10
  · have h1 := f6 b hb
    have h2 := f7 b (by omega)
    have h3 := f9 b hb
    have h4 := f8 b (by omega)
    simp (disch := omega) only [zD_2, zR_2, zA_2, sr_b, sr_1, zz_2, zz_b]
    exact ⟨h4.1.trans (h3.1.trans (h2.1.trans h1.1)), h4.2.trans (h3.2.trans (h2.2.trans h1.2))⟩
/-- the FRAMES of a picture -/
theorem ilp {a : Nat} {Z : Zt} : ∀ f, (∀ j, j < f → (lpX4 (a + 1) Z f).2.2 (a + 3) j = a + 4 + 5 * j ∧ (lpX4 (a + 1) Z f).2.2 (a + 4 + 5 * j) 5 = a + 5 + 5 * j ∧ (lpX4 (a + 1) Z f).2.2 (a + 4 + 5 * j) 6 = a + 7 + 5 * j ∧ (lpX4 (a + 1) Z f).2.2 (a + 4 + 5 * j) 7 = a + 8 + 5 * j ∧ (lpX4 (a + 1) Z f).2.2 (a + 5 + 5 * j) 0 = a + 6 + 5 * j) ∧ (∀ b, b < a + 3 ∨ a + 4 + 5 * f ≤ b → (lpX4 (a + 1) Z f).2.1 b = Z.2.1 b ∧ (lpX4 (a + 1) Z f).2.2 b = Z.2.2 b) := by
  intro f
  induction f with
  | zero => exact ⟨fun j hj => by omega, fun b _ => ⟨rfl, rfl⟩⟩
  | succ f ih =>
    obtain ⟨i1, i2⟩ := ih
    have e : lpX4 (a + 1) Z (f + 1) = zF (fX3_init (a + 1 + (3 + 5 * f)) (a + 1 + (3 + 5 * f) + 1) (zN (lpX4 (a + 1) Z f) (a + 1 + (3 + 5 * f)) 3)) (a + 1 + 2) f (a + 1 + (3 + 5 * f)) := rfl
    rw [e, show a + 1 + (3 + 5 * f) = a + 4 + 5 * f by omega, show a + 1 + 2 = a + 3 by omega]
    obtain ⟨⟨t5, t6, t7, t8⟩, fr⟩ := i3 (a := a + 4 + 5 * f) (Z := zN (lpX4 (a + 1) Z f) (a + 4 + 5 * f) 3)
    obtain ⟨Y, eY⟩ : ∃ Y, Y = fX3_init (a + 4 + 5 * f) (a + 4 + 5 * f + 1) (zN (lpX4 (a + 1) Z f) (a + 4 + 5 * f) 3) := ⟨_, rfl⟩
    rw [← eY] at t5 t6 t7 t8 fr ⊢
    have o2 : ∀ b, b < a + 4 + 5 * f ∨ a + 4 + 5 * f + 5 ≤ b → Y.2.1 b = (lpX4 (a + 1) Z f).2.1 b ∧ Y.2.2 b = (lpX4 (a + 1) Z f).2.2 b := fun b hb => by
      have := fr b hb
      rw [zN_2, zz_b (by omega), zz_2] at this
      exact this
    refine ⟨fun j hj => ?_, fun b hb => ?_⟩
    · simp (disch := omega) only [zF_2, sr_b]
      by_cases q : j = f
      · subst q
        simp only [sr_k]
        have t8' : Y.2.2 (a + 5 + 5 * j) 0 = a + 6 + 5 * j := by
          rw [show a + 5 + 5 * j = a + 4 + 5 * j + 1 by omega, t8]
          omega
        exact ⟨trivial, by rw [t5]; omega, by rw [t6]; omega, by rw [t7]; omega, t8'⟩
      · rw [sr_j q, (o2 (a + 3) (by omega)).2, (o2 (a + 4 + 5 * j) (by omega)).2, (o2 (a + 5 + 5 * j) (by omega)).2]
        exact i1 j (by omega)
    · simp (disch := omega) only [zF_2, sr_b, sr_1]
      have h1 := o2 b (by omega)
      have h2 := i2 b (by omega)
      exact ⟨h1.1.trans h2.1, h1.2.trans h2.2⟩
theorem i4 {a : Nat} {Z : Zt} : PC (fX4_init a (a + 1) Z).2 a (gP 1 1 0 0 0 (fun _ => 0)) ∧ Fr Z.2 (fX4_init a (a + 1) Z).2 a (a + 124) := by
  unfold fX4_init
  simp only [lt'_e, Nat.add_zero]
  obtain ⟨⟨t1, t2⟩, f7⟩ := i7 (a := a + 1) (Z := zN Z (a + 1) 7)
  obtain ⟨Z2, x2⟩ : ∃ Z2, Z2 = fX7_init (a + 1) (a + 1 + 1) (zN Z (a + 1) 7) := ⟨_, rfl⟩
  rw [← x2] at t1 t2 f7 ⊢
  obtain ⟨Z5, x5⟩ : ∃ Z5, Z5 = zR (zA (zR Z2 a 4 32 5 (a + 1)) (a + 1 + 2) 15 0) a 4 96 6 (a + 1 + 2) := ⟨_, rfl⟩
  rw [← x5]
  obtain ⟨l1, l2⟩ := ilp (a := a) (Z := Z5) 24
  obtain ⟨Z6, x6⟩ : ∃ Z6, Z6 = lpX4 (a + 1) Z5 24 := ⟨_, rfl⟩
  rw [← x6] at l1 l2 ⊢
  have g5 : Z5.2.2 a 5 = a + 1 := by rw [x5]; simp (disch := omega) only [zR_2, zA_2, sr_j, sr_k, zz_2]
  have g6 : Z5.2.2 a 6 = a + 3 := by
    rw [x5]
    simp (disch := omega) only [zR_2, sr_k]
  have g10 : Z5.2.2 (a + 1) 0 = a + 2 := by
    rw [x5]
    simp (disch := omega) only [zR_2, zA_2, sr_b, zz_2]
    rw [t1]
  have h5 : Z6.2.2 a 5 = a + 1 := by rw [(l2 a (by omega)).2]; exact g5
  have h6 : Z6.2.2 a 6 = a + 3 := by rw [(l2 a (by omega)).2]; exact g6
  have h10 : Z6.2.2 (a + 1) 0 = a + 2 := by rw [(l2 (a + 1) (by omega)).2]; exact g10
  have eM : (zM (zD (zD Z6 (a + 1 + 2) 14 24) a 4 0) (rsX4 (zD (zD Z6 (a + 1 + 2) 14 24) a 4 0) a)).2 = si (si (si (si (si (si Z6.2 a 0 1) a 1 1) a 2 0) a 3 0) a 4 0) (a + 1) 1 0 := by
    show si (si (si (si (si (si Z6.2 a 0 1) a 1 1) a 2 0) a 3 0) a 4 0) (Z6.2.2 a 5) 1 0 = _
    rw [h5]
  rw [eM]
  refine ⟨gP_C ⟨h5, h6, h10, fun f hf => l1 f hf⟩ ⟨?_, ?_, ?_, ?_, ?_, ?_⟩ (fun k hk => absurd hk (Nat.not_lt_zero k)), fun b hb => ?_⟩
  · simp (disch := omega) only [si_b, si_j, si_k]; rfl
  · simp (disch := omega) only [si_b, si_j, si_k]; rfl
  · simp (disch := omega) only [si_k]; rfl
  · simp (disch := omega) only [si_b, si_j, si_k]; rfl
  · simp (disch := omega) only [si_b, si_j, si_k]; rfl
  · simp (disch := omega) only [si_b, si_j, si_k]; rfl
  · have h1 := l2 b (by omega)
    have h2 := f7 b (by omega)
    simp (disch := omega) only [si_b, si_2]
    have h3 : Z5.2.1 b = Z2.2.1 b ∧ Z5.2.2 b = Z2.2.2 b := by
      rw [x5]
      simp (disch := omega) only [zR_2, zA_2, sr_b, sr_1, zz_b, zz_2, and_self]
    rw [zN_2, zz_b (by omega), zz_2] at h2
    exact ⟨h1.1.trans (h3.1.trans h2.1), h1.2.trans (h3.2.trans h2.2)⟩
