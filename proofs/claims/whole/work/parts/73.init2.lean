theorem i1 {a : Nat} {Z : Zt} : ((fX1_init a (a + 1) Z).2.2 a 0 = a + 1 ∧ (fX1_init a (a + 1) Z).2.2 a 1 = a + 3 ∧ (fX1_init a (a + 1) Z).2.2 a 2 = a + 4 ∧ (fX1_init a (a + 1) Z).2.2 a 3 = a + 5 ∧ (fX1_init a (a + 1) Z).2.2 a 4 = a + 6 ∧ (fX1_init a (a + 1) Z).2.2 a 5 = a + 7) ∧ BR (fX1_init a (a + 1) Z).2 (a + 1) (fun _ => 0) 0 0 ∧ Fr Z.2 (fX1_init a (a + 1) Z).2 a (a + 8) := by
  unfold fX1_init
  simp only [lt'_e, Nat.add_zero]
  obtain ⟨b0, f0⟩ := i0 (a := a + 1) (Z := zN Z (a + 1) 0)
  obtain ⟨Z2, x2⟩ : ∃ Z2, Z2 = fX0_init (a + 1) (a + 1 + 1) (zN Z (a + 1) 0) := ⟨_, rfl⟩
  rw [← x2] at b0 f0 ⊢
  refine ⟨⟨?_, ?_, ?_, ?_, ?_, ?_⟩, ?_, fun b hb => ?_⟩
  · simp (disch := omega) only [zD_2, zR_2, zA_2, sr_j, sr_k, zz_2]
  · simp (disch := omega) only [zD_2, zR_2, zA_2, sr_j, sr_k, zz_2]
  · simp (disch := omega) only [zD_2, zR_2, zA_2, sr_j, sr_k, zz_2]
  · simp (disch := omega) only [zD_2, zR_2, zA_2, sr_j, sr_k, zz_2]
  · simp (disch := omega) only [zD_2, zR_2, zA_2, sr_j, sr_k, zz_2]
  · simp (disch := omega) only [zD_2, zR_2, zA_2, sr_j, sr_k, zz_2]
  · refine b0.eqc ?_ ?_ ?_
    · simp (disch := omega) only [zD_2, zR_2, zA_2, sr_b, zz_2]
    · simp (disch := omega) only [zD_2, zR_2, zA_2, sr_1, zz_b]
    · simp (disch := omega) only [zD_2, zR_2, zA_2, sr_1, zz_b]
  · have h := f0 b (by omega)
    rw [zN_2, zz_b (by omega), zz_2] at h
    simp (disch := omega) only [zD_2, zR_2, zA_2, sr_1, sr_b, zz_b, zz_2]
    exact h
theorem i2 {a : Nat} {Z : Zt} : ((fX2_init a (a + 1) Z).2.2 a 0 = a + 1 ∧ (fX2_init a (a + 1) Z).2.2 a 1 = a + 3 ∧ (fX2_init a (a + 1) Z).2.2 a 2 = a + 4 ∧ (fX2_init a (a + 1) Z).2.2 a 3 = a + 5 ∧ (fX2_init a (a + 1) Z).2.2 a 4 = a + 6) ∧ BR (fX2_init a (a + 1) Z).2 (a + 1) (fun _ => 0) 0 0 ∧ Fr Z.2 (fX2_init a (a + 1) Z).2 a (a + 7) := by
  unfold fX2_init
  simp only [lt'_e, Nat.add_zero]
  obtain ⟨b0, f0⟩ := i0 (a := a + 1) (Z := zN Z (a + 1) 0)
  obtain ⟨Z2, x2⟩ : ∃ Z2, Z2 = fX0_init (a + 1) (a + 1 + 1) (zN Z (a + 1) 0) := ⟨_, rfl⟩
  rw [← x2] at b0 f0 ⊢
  refine ⟨⟨?_, ?_, ?_, ?_, ?_⟩, ?_, fun b hb => ?_⟩
  · simp (disch := omega) only [zD_2, zR_2, zA_2, sr_j, sr_k, zz_2]
  · simp (disch := omega) only [zD_2, zR_2, zA_2, sr_j, sr_k, zz_2]
  · simp (disch := omega) only [zD_2, zR_2, zA_2, sr_j, sr_k, zz_2]
  · simp (disch := omega) only [zD_2, zR_2, zA_2, sr_j, sr_k, zz_2]
  · simp (disch := omega) only [zD_2, zR_2, zA_2, sr_j, sr_k, zz_2]
  · refine b0.eqc ?_ ?_ ?_
    · simp (disch := omega) only [zD_2, zR_2, zA_2, sr_b, zz_2]
    · simp (disch := omega) only [zD_2, zR_2, zA_2, sr_1, zz_b]
    · simp (disch := omega) only [zD_2, zR_2, zA_2, sr_1, zz_b]
  · have h := f0 b (by omega)
    rw [zN_2, zz_b (by omega), zz_2] at h
    simp (disch := omega) only [zD_2, zR_2, zA_2, sr_1, sr_b, zz_b, zz_2]
    exact h
theorem i6 {a : Nat} {Z : Zt} : ((fX6_init a (a + 1) Z).2.2 a 0 = a + 1 ∧ (fX6_init a (a + 1) Z).2.2 a 1 = a + 8) ∧ ((fX6_init a (a + 1) Z).2.2 (a + 1) 0 = a + 2 ∧ (fX6_init a (a + 1) Z).2.2 (a + 1) 1 = a + 4 ∧ (fX6_init a (a + 1) Z).2.2 (a + 1) 2 = a + 5 ∧ (fX6_init a (a + 1) Z).2.2 (a + 1) 3 = a + 6 ∧ (fX6_init a (a + 1) Z).2.2 (a + 1) 4 = a + 7) ∧ BR (fX6_init a (a + 1) Z).2 (a + 2) (fun _ => 0) 0 0 ∧ BR (fX6_init a (a + 1) Z).2 (a + 8) (fun _ => 0) 0 0 ∧ Fr Z.2 (fX6_init a (a + 1) Z).2 a (a + 10) := by
  unfold fX6_init
  simp only [lt'_e, Nat.add_zero]
  obtain ⟨⟨r0, r1, r2, r3, r4⟩, b2, f2⟩ := i2 (a := a + 1) (Z := zN Z (a + 1) 2)
  obtain ⟨Z2, x2⟩ : ∃ Z2, Z2 = fX2_init (a + 1) (a + 1 + 1) (zN Z (a + 1) 2) := ⟨_, rfl⟩
  rw [← x2] at r0 r1 r2 r3 r4 b2 f2 ⊢
  obtain ⟨Z4, x4⟩ : ∃ Z4, Z4 = zN (zR Z2 a 6 1 0 (a + 1)) (a + 1 + 7) 0 := ⟨_, rfl⟩
  rw [← x4]
  obtain ⟨b5, f5⟩ := i0 (a := a + 1 + 7) (Z := Z4)
  have e8 : a + 1 + 8 = a + 1 + 7 + 1 := by omega
  rw [e8]
  obtain ⟨Z5, x5⟩ : ∃ Z5, Z5 = fX0_init (a + 1 + 7) (a + 1 + 7 + 1) Z4 := ⟨_, rfl⟩
  rw [← x5] at b5 f5 ⊢
  have o4 : ∀ b, b ≠ a → b ≠ a + 8 → Z4.2.1 b = Z2.2.1 b ∧ Z4.2.2 b = Z2.2.2 b := fun b g1 g2 => by
    rw [x4]
    simp (disch := omega) only [zN_2, zR_2, sr_1, sr_b, zz_b, zz_2, and_self]
  have o5 : ∀ b, b ≠ a → b ≠ a + 8 → b ≠ a + 9 → Z5.2.1 b = Z2.2.1 b ∧ Z5.2.2 b = Z2.2.2 b := fun b g1 g2 g3 => by
    have h1 := f5 b (by omega)
    have h2 := o4 b g1 g2
    exact ⟨h1.1.trans h2.1, h1.2.trans h2.2⟩
  have q1 : ∀ b, b ≠ a → (zD (zR Z5 a 6 3 1 (a + 1 + 7)) a 6 0).2.1 b = Z5.2.1 b ∧ (zD (zR Z5 a 6 3 1 (a + 1 + 7)) a 6 0).2.2 b = Z5.2.2 b := fun b g => by
    simp (disch := omega) only [zD_2, zR_2, sr_1, sr_b, and_self]
  refine ⟨⟨?_, ?_⟩, ?_, ?_, ?_, fun b hb => ?_⟩
  · simp (disch := omega) only [zD_2, zR_2, sr_j]
    rw [(f5 a (by omega)).2, x4]
    simp (disch := omega) only [zN_2, zR_2, sr_k, zz_2]
  · simp (disch := omega) only [zD_2, zR_2, sr_k]
  · rw [(q1 (a + 1) (by omega)).2, (o5 (a + 1) (by omega) (by omega) (by omega)).2]
    exact ⟨r0, r1, r2, r3, r4⟩
  · exact b2.eqc (by rw [(q1 _ (by omega)).2, (o5 _ (by omega) (by omega) (by omega)).2]) (by rw [(q1 _ (by omega)).1, (o5 _ (by omega) (by omega) (by omega)).1]) (by rw [(q1 _ (by omega)).1, (o5 _ (by omega) (by omega) (by omega)).1])
  · exact b5.eqc (by rw [(q1 _ (by omega)).2]) (by rw [(q1 _ (by omega)).1]) (by rw [(q1 _ (by omega)).1])
  · have h1 := q1 b (by omega)
    have h2 := o5 b (by omega) (by omega) (by omega)
    have h3 := f2 b (by omega)
    rw [zN_2, zz_b (by omega), zz_2] at h3
    exact ⟨h1.1.trans (h2.1.trans h3.1), h1.2.trans (h2.2.trans h3.2)⟩
theorem i5 {a : Nat} {Z : Zt} : ((fX5_init a (a + 1) Z).2.2 a 0 = a + 1 ∧ (fX5_init a (a + 1) Z).2.2 a 1 = a + 3 ∧ (fX5_init a (a + 1) Z).2.2 a 2 = a + 11 ∧ (fX5_init a (a + 1) Z).2.2 a 3 = a + 12) ∧ ((fX5_init a (a + 1) Z).2.2 (a + 3) 0 = a + 4 ∧ (fX5_init a (a + 1) Z).2.2 (a + 3) 1 = a + 6 ∧ (fX5_init a (a + 1) Z).2.2 (a + 3) 2 = a + 7 ∧ (fX5_init a (a + 1) Z).2.2 (a + 3) 3 = a + 8 ∧ (fX5_init a (a + 1) Z).2.2 (a + 3) 4 = a + 9 ∧ (fX5_init a (a + 1) Z).2.2 (a + 3) 5 = a + 10) ∧ BR (fX5_init a (a + 1) Z).2 (a + 1) (fun _ => 0) 0 0 ∧ BR (fX5_init a (a + 1) Z).2 (a + 4) (fun _ => 0) 0 0 ∧ LPi (fX5_init a (a + 1) Z).2 (a + 12) ∧ Fr Z.2 (fX5_init a (a + 1) Z).2 a (a + 136) := by
  unfold fX5_init
  simp only [lt'_e, Nat.add_zero]
  obtain ⟨b2, f2⟩ := i0 (a := a + 1) (Z := zN Z (a + 1) 0)
  obtain ⟨Z2, x2⟩ : ∃ Z2, Z2 = fX0_init (a + 1) (a + 1 + 1) (zN Z (a + 1) 0) := ⟨_, rfl⟩
  rw [← x2] at b2 f2 ⊢
  obtain ⟨Z4, x4⟩ : ∃ Z4, Z4 = zN (zR Z2 a 5 1 0 (a + 1)) (a + 1 + 2) 1 := ⟨_, rfl⟩
  rw [← x4]
  obtain ⟨⟨r0, r1, r2, r3, r4, r5⟩, b5, f5⟩ := i1 (a := a + 1 + 2) (Z := Z4)
  rw [show a + 1 + 3 = a + 1 + 2 + 1 by omega]
  obtain ⟨Z5, x5⟩ : ∃ Z5, Z5 = fX1_init (a + 1 + 2) (a + 1 + 2 + 1) Z4 := ⟨_, rfl⟩
  rw [← x5] at r0 r1 r2 r3 r4 r5 b5 f5 ⊢
  obtain ⟨Z7, x7⟩ : ∃ Z7, Z7 = zN (zR Z5 a 5 3 1 (a + 1 + 2)) (a + 1 + 10) 8 := ⟨_, rfl⟩
  rw [← x7]
  have f8 := i8 (a := a + 1 + 10) (n := a + 1 + 11) (Z := Z7)
  obtain ⟨Z8, x8⟩ : ∃ Z8, Z8 = fX8_init (a + 1 + 10) (a + 1 + 11) Z7 := ⟨_, rfl⟩
  rw [← x8] at f8 ⊢
  obtain ⟨Z10, x10⟩ : ∃ Z10, Z10 = zN (zR Z8 a 5 7 2 (a + 1 + 10)) (a + 1 + 11) 4 := ⟨_, rfl⟩
  rw [← x10]
  obtain ⟨p11, f11⟩ := i4 (a := a + 1 + 11) (Z := Z10)
  rw [show a + 1 + 12 = a + 1 + 11 + 1 by omega]
  obtain ⟨Z11, x11⟩ : ∃ Z11, Z11 = fX4_init (a + 1 + 11) (a + 1 + 11 + 1) Z10 := ⟨_, rfl⟩
  rw [← x11] at p11 f11 ⊢
  -- cell by cell
  have o4 : ∀ b, b ≠ a → b ≠ a + 3 → Z4.2.1 b = Z2.2.1 b ∧ Z4.2.2 b = Z2.2.2 b := fun b g1 g2 => by
    rw [x4]; simp (disch := omega) only [zN_2, zR_2, sr_1, sr_b, zz_b, zz_2, and_self]
  have o7 : ∀ b, b ≠ a → b ≠ a + 11 → Z7.2.1 b = Z5.2.1 b ∧ Z7.2.2 b = Z5.2.2 b := fun b g1 g2 => by
    rw [x7]; simp (disch := omega) only [zN_2, zR_2, sr_1, sr_b, zz_b, zz_2, and_self]
  have o10 : ∀ b, b ≠ a → b ≠ a + 12 → Z10.2.1 b = Z8.2.1 b ∧ Z10.2.2 b = Z8.2.2 b := fun b g1 g2 => by
    rw [x10]; simp (disch := omega) only [zN_2, zR_2, sr_1, sr_b, zz_b, zz_2, and_self]
  have oE : ∀ b, b ≠ a → (zD (zI (zI (zR Z11 a 5 15 3 (a + 1 + 11)) a 9 0) a 10 (-1)) a 5 0).2.1 b = Z11.2.1 b ∧ (zD (zI (zI (zR Z11 a 5 15 3 (a + 1 + 11)) a 9 0) a 10 (-1)) a 5 0).2.2 b = Z11.2.2 b := fun b g => by
    simp (disch := omega) only [zD_2, zI_2, zR_2, si_b, si_2, sr_1, sr_b, and_self]
  have u5 : ∀ b, b ≠ a → (b < a + 11 ∨ a + 136 ≤ b) → Z11.2.1 b = Z5.2.1 b ∧ Z11.2.2 b = Z5.2.2 b := fun b g1 g2 => by
    have h1 := f11 b (by omega)
    have h2 := o10 b g1 (by omega)
    have h3 := f8 b (by omega)
    have h4 := o7 b g1 (by omega)
    exact ⟨h1.1.trans (h2.1.trans (h3.1.trans h4.1)), h1.2.trans (h2.2.trans (h3.2.trans h4.2))⟩
  have u2 : ∀ b, b ≠ a → (b < a + 3 ∨ a + 136 ≤ b) → Z11.2.1 b = Z2.2.1 b ∧ Z11.2.2 b = Z2.2.2 b := fun b g1 g2 => by
    have h1 := u5 b g1 (by omega)
    have h2 := f5 b (by omega)
    have h3 := o4 b g1 (by omega)
    exact ⟨h1.1.trans (h2.1.trans h3.1), h1.2.trans (h2.2.trans h3.2)⟩
  refine ⟨⟨?_, ?_, ?_, ?_⟩, ?_, ?_, ?_, ?_, fun b hb => ?_⟩
  · simp (disch := omega) only [zD_2, zI_2, zR_2, si_2, sr_j]
    rw [(f11 a (by omega)).2, x10]
    simp (disch := omega) only [zN_2, zR_2, zz_2, sr_j]
    rw [(f8 a (by omega)).2, x7]
    simp (disch := omega) only [zN_2, zR_2, zz_2, sr_j]
    rw [(f5 a (by omega)).2, x4]
    simp (disch := omega) only [zN_2, zR_2, zz_2, sr_k]
  · simp (disch := omega) only [zD_2, zI_2, zR_2, si_2, sr_j]
    rw [(f11 a (by omega)).2, x10]
    simp (disch := omega) only [zN_2, zR_2, zz_2, sr_j]
    rw [(f8 a (by omega)).2, x7]
    simp (disch := omega) only [zN_2, zR_2, zz_2, sr_k]
  · simp (disch := omega) only [zD_2, zI_2, zR_2, si_2, sr_j]
    rw [(f11 a (by omega)).2, x10]
    simp (disch := omega) only [zN_2, zR_2, zz_2, sr_k]
  · simp (disch := omega) only [zD_2, zI_2, zR_2, si_2, sr_k]
  · rw [(oE (a + 3) (by omega)).2, (u5 (a + 3) (by omega) (by omega)).2]
    exact ⟨r0, r1, r2, r3, r4, r5⟩
  · exact b2.eqc (by rw [(oE _ (by omega)).2, (u2 _ (by omega) (by omega)).2]) (by rw [(oE _ (by omega)).1, (u2 _ (by omega) (by omega)).1]) (by rw [(oE _ (by omega)).1, (u2 _ (by omega) (by omega)).1])
  · exact b5.eqc (by rw [(oE _ (by omega)).2, (u5 _ (by omega) (by omega)).2]) (by rw [(oE _ (by omega)).1, (u5 _ (by omega) (by omega)).1]) (by rw [(oE _ (by omega)).1, (u5 _ (by omega) (by omega)).1])
  · exact p11.1.eqr (fun b g1 g2 => (oE b (by omega)).2)
  · have h1 := oE b (by omega)
    have h2 := u2 b (by omega) (by omega)
    have h3 := f2 b (by omega)
    rw [zN_2, zz_b (by omega), zz_2] at h3
    exact ⟨h1.1.trans (h2.1.trans h3.1), h1.2.trans (h2.2.trans h3.2)⟩
/-- the same, closed -/
def RL5 (μ : Mm) (a : Nat) : Prop := (μ.2 a 0 = a + 1 ∧ μ.2 a 1 = a + 3 ∧ μ.2 a 2 = a + 11 ∧ μ.2 a 3 = a + 12) ∧ (μ.2 (a + 3) 0 = a + 4 ∧ μ.2 (a + 3) 1 = a + 6 ∧ μ.2 (a + 3) 2 = a + 7 ∧ μ.2 (a + 3) 3 = a + 8 ∧ μ.2 (a + 3) 4 = a + 9 ∧ μ.2 (a + 3) 5 = a + 10)
def RL6 (μ : Mm) (a : Nat) : Prop := (μ.2 a 0 = a + 1 ∧ μ.2 a 1 = a + 8) ∧ (μ.2 (a + 1) 0 = a + 2 ∧ μ.2 (a + 1) 1 = a + 4 ∧ μ.2 (a + 1) 2 = a + 5 ∧ μ.2 (a + 1) 3 = a + 6 ∧ μ.2 (a + 1) 4 = a + 7)
def RL9 (μ : Mm) (n : Nat) : Prop := μ.2 n 0 = n + 2 ∧ μ.2 n 1 = n + 1 ∧ μ.2 n 2 = n + 263 ∧ μ.2 n 3 = n + 139 ∧ μ.2 n 4 = n + 137
theorem i5' {a : Nat} {Z : Zt} : RL5 (fX5_init a (a + 1) Z).2 a ∧ BR (fX5_init a (a + 1) Z).2 (a + 1) (fun _ => 0) 0 0 ∧ BR (fX5_init a (a + 1) Z).2 (a + 4) (fun _ => 0) 0 0 ∧ LPi (fX5_init a (a + 1) Z).2 (a + 12) ∧ Fr Z.2 (fX5_init a (a + 1) Z).2 a (a + 136) := ⟨⟨i5.1, i5.2.1⟩, i5.2.2⟩
theorem i6' {a : Nat} {Z : Zt} : RL6 (fX6_init a (a + 1) Z).2 a ∧ BR (fX6_init a (a + 1) Z).2 (a + 2) (fun _ => 0) 0 0 ∧ BR (fX6_init a (a + 1) Z).2 (a + 8) (fun _ => 0) 0 0 ∧ Fr Z.2 (fX6_init a (a + 1) Z).2 a (a + 10) := ⟨⟨i6.1, i6.2.1⟩, i6.2.2⟩
