def P0 : Pic := gP 1 1 0 0 0 (fun _ => 0)
theorem P0_V : VP P0 := gP_V ⟨by decide, by decide⟩ ⟨by decide, by decide⟩ (Or.inl rfl) (by decide) (by decide)
/-- the class at its beginning -/
theorem i9 {n : Nat} {Z : Zt} : SC n (fX9_init n (n + 1) (zN Z n 9)).2 (n + 139) (n + 13) (n + 137) (n + 271) 0 0 (fun _ => 0) (fun _ => 0) (-1) (-1) P0 := by
  unfold fX9_init
  simp only [lt'_e, Nat.add_zero]
  obtain ⟨Z1, x1⟩ : ∃ Z1, Z1 = zN (zN Z n 9) (n + 1) 5 := ⟨_, rfl⟩
  rw [← x1]
  obtain ⟨A5, b2, b2', l2, f2⟩ := i5' (a := n + 1) (Z := Z1)
  obtain ⟨Z2, x2⟩ : ∃ Z2, Z2 = fX5_init (n + 1) (n + 1 + 1) Z1 := ⟨_, rfl⟩
  rw [← x2] at A5 b2 b2' l2 f2 ⊢
  obtain ⟨Z5, x5⟩ : ∃ Z5, Z5 = zN (zR (zR Z2 n 9 2 1 (n + 1)) n 9 3 0 (n + 1 + 1)) (n + 1 + 136) 0 := ⟨_, rfl⟩
  rw [← x5]
  obtain ⟨b6, f6⟩ := i0 (a := n + 1 + 136) (Z := Z5)
  rw [show n + 1 + 137 = n + 1 + 136 + 1 by omega]
  obtain ⟨Z6, x6⟩ : ∃ Z6, Z6 = fX0_init (n + 1 + 136) (n + 1 + 136 + 1) Z5 := ⟨_, rfl⟩
  rw [← x6] at b6 f6 ⊢
  obtain ⟨Z8, x8⟩ : ∃ Z8, Z8 = zN (zR Z6 n 9 19 4 (n + 1 + 136)) (n + 1 + 138) 4 := ⟨_, rfl⟩
  rw [← x8]
  obtain ⟨p9, f9⟩ := i4 (a := n + 1 + 138) (Z := Z8)
  rw [show n + 1 + 139 = n + 1 + 138 + 1 by omega]
  obtain ⟨Z9, x9⟩ : ∃ Z9, Z9 = fX4_init (n + 1 + 138) (n + 1 + 138 + 1) Z8 := ⟨_, rfl⟩
  rw [← x9] at p9 f9 ⊢
  obtain ⟨Z11, x11⟩ : ∃ Z11, Z11 = zN (zR Z9 n 9 27 3 (n + 1 + 138)) (n + 1 + 262) 6 := ⟨_, rfl⟩
  rw [← x11]
  obtain ⟨A6, b12, b12', f12⟩ := i6' (a := n + 1 + 262) (Z := Z11)
  rw [show n + 1 + 263 = n + 1 + 262 + 1 by omega]
  obtain ⟨Z12, x12⟩ : ∃ Z12, Z12 = fX6_init (n + 1 + 262) (n + 1 + 262 + 1) Z11 := ⟨_, rfl⟩
  rw [← x12] at A6 b12 b12' f12 ⊢
  obtain ⟨Z15, x15⟩ : ∃ Z15, Z15 = zD (zI (zR Z12 n 9 31 2 (n + 1 + 262)) n 5 0) n 9 0 := ⟨_, rfl⟩
  rw [← x15]
  have o15 : ∀ b, b ≠ n → Z15.2.1 b = Z12.2.1 b ∧ Z15.2.2 b = Z12.2.2 b := fun b g => by
    rw [x15]; simp (disch := omega) only [zD_2, zI_2, zR_2, si_b, si_2, sr_1, sr_b, and_self]
  have o11 : ∀ b, b ≠ n → b ≠ n + 263 → Z11.2.1 b = Z9.2.1 b ∧ Z11.2.2 b = Z9.2.2 b := fun b g1 g2 => by
    rw [x11]; simp (disch := omega) only [zN_2, zR_2, sr_1, sr_b, zz_b, zz_2, and_self]
  have o8 : ∀ b, b ≠ n → b ≠ n + 139 → Z8.2.1 b = Z6.2.1 b ∧ Z8.2.2 b = Z6.2.2 b := fun b g1 g2 => by
    rw [x8]; simp (disch := omega) only [zN_2, zR_2, sr_1, sr_b, zz_b, zz_2, and_self]
  have o5 : ∀ b, b ≠ n → b ≠ n + 137 → Z5.2.1 b = Z2.2.1 b ∧ Z5.2.2 b = Z2.2.2 b := fun b g1 g2 => by
    rw [x5]; simp (disch := omega) only [zN_2, zR_2, sr_1, sr_b, zz_b, zz_2, and_self]
  have u9 : ∀ b, b ≠ n → b < n + 263 → Z15.2.1 b = Z9.2.1 b ∧ Z15.2.2 b = Z9.2.2 b := fun b g1 g2 => by
    have h1 := o15 b g1
    have h2 := f12 b (by omega)
    have h3 := o11 b g1 (by omega)
    exact ⟨h1.1.trans (h2.1.trans h3.1), h1.2.trans (h2.2.trans h3.2)⟩
  have u6 : ∀ b, b ≠ n → b < n + 139 → Z15.2.1 b = Z6.2.1 b ∧ Z15.2.2 b = Z6.2.2 b := fun b g1 g2 => by
    have h1 := u9 b g1 (by omega)
    have h2 := f9 b (by omega)
    have h3 := o8 b g1 (by omega)
    exact ⟨h1.1.trans (h2.1.trans h3.1), h1.2.trans (h2.2.trans h3.2)⟩
  have u2 : ∀ b, b ≠ n → b < n + 137 → Z15.2.1 b = Z2.2.1 b ∧ Z15.2.2 b = Z2.2.2 b := fun b g1 g2 => by
    have h1 := u6 b g1 (by omega)
    have h2 := f6 b (by omega)
    have h3 := o5 b g1 (by omega)
    exact ⟨h1.1.trans (h2.1.trans h3.1), h1.2.trans (h2.2.trans h3.2)⟩
  -- the object itself
  have r15 : RL9 Z15.2 n := by
    have r5 : Z5.2.2 n 0 = n + 2 ∧ Z5.2.2 n 1 = n + 1 := by
      rw [x5]
      exact ⟨by simp (disch := omega) only [zN_2, zR_2, zz_2, sr_k], by simp (disch := omega) only [zN_2, zR_2, zz_2, sr_j, sr_k]⟩
    have r8 : Z8.2.2 n 0 = n + 2 ∧ Z8.2.2 n 1 = n + 1 ∧ Z8.2.2 n 4 = n + 137 := by
      rw [x8]
      refine ⟨?_, ?_, ?_⟩
      · simp (disch := omega) only [zN_2, zR_2, zz_2, sr_j]
        rw [(f6 n (by omega)).2]; exact r5.1
      · simp (disch := omega) only [zN_2, zR_2, zz_2, sr_j]
        rw [(f6 n (by omega)).2]; exact r5.2
      · simp (disch := omega) only [zN_2, zR_2, zz_2, sr_k]
    have r11 : Z11.2.2 n 0 = n + 2 ∧ Z11.2.2 n 1 = n + 1 ∧ Z11.2.2 n 4 = n + 137 ∧ Z11.2.2 n 3 = n + 139 := by
      rw [x11]
      refine ⟨?_, ?_, ?_, ?_⟩
      · simp (disch := omega) only [zN_2, zR_2, zz_2, sr_j]
        rw [(f9 n (by omega)).2]; exact r8.1
      · simp (disch := omega) only [zN_2, zR_2, zz_2, sr_j]
        rw [(f9 n (by omega)).2]; exact r8.2.1
      · simp (disch := omega) only [zN_2, zR_2, zz_2, sr_j]
        rw [(f9 n (by omega)).2]; exact r8.2.2
      · simp (disch := omega) only [zN_2, zR_2, zz_2, sr_k]
    have r12 : ∀ k, Z12.2.2 n k = Z11.2.2 n k := fun k => by rw [(f12 n (by omega)).2]
    rw [x15]
    refine ⟨?_, ?_, ?_, ?_, ?_⟩
    · simp (disch := omega) only [zD_2, zI_2, zR_2, si_2, sr_j]
      rw [r12]; exact r11.1
    · simp (disch := omega) only [zD_2, zI_2, zR_2, si_2, sr_j]
      rw [r12]; exact r11.2.1
    · simp (disch := omega) only [zD_2, zI_2, zR_2, si_2, sr_k]
    · simp (disch := omega) only [zD_2, zI_2, zR_2, si_2, sr_j]
      rw [r12]; exact r11.2.2.2
    · simp (disch := omega) only [zD_2, zI_2, zR_2, si_2, sr_j]
      rw [r12]; exact r11.2.2.1
  have n5 : Z15.2.1 n 5 = 0 := by rw [x15]; simp (disch := omega) only [zD_2, zI_2, si_k]
  have bq : ∀ {r k : Nat} {tt : Nf} {oo : Int32} {Y : Zt}, BR Y.2 r tt k oo → (Z15.2.1 r = Y.2.1 r ∧ Z15.2.2 r = Y.2.2 r) → (Z15.2.1 (r + 1) = Y.2.1 (r + 1) ∧ Z15.2.2 (r + 1) = Y.2.2 (r + 1)) → BR Z15.2 r tt k oo := fun hb g1 g2 => hb.eqc g1.2 g1.1 g2.1
  refine ⟨⟨r15, ?_, ?_, ?_, ?_, Or.inr ⟨rfl, rfl⟩, Or.inl ⟨rfl, rfl⟩⟩, ?_, ?_, ⟨fun _ => 0, 0, 0, ?_⟩, ⟨fun _ => 0, 0, 0, ?_⟩, ⟨fun _ => 0, 0, 0, ?_⟩, ?_, ?_, Or.inl ⟨n5, rfl, rfl⟩⟩
  · rw [(u2 (n + 1) (by omega) (by omega)).2]
    exact A5.1
  · rw [(u2 (n + 4) (by omega) (by omega)).2]
    exact A5.2
  · rw [(o15 (n + 263) (by omega)).2]
    exact A6.1
  · rw [(o15 (n + 264) (by omega)).2]
    exact A6.2
  · exact bq b2 (u2 _ (by omega) (by omega)) (u2 _ (by omega) (by omega))
  · exact bq b6 (u6 _ (by omega) (by omega)) (u6 _ (by omega) (by omega))
  · exact bq b12' (o15 _ (by omega)) (o15 _ (by omega))
  · exact bq b2' (u2 _ (by omega) (by omega)) (u2 _ (by omega) (by omega))
  · exact bq b12 (o15 _ (by omega)) (o15 _ (by omega))
  · exact l2.eqr (fun b g1 g2 => (u2 b (by omega) (by omega)).2)
  · exact PC.eqr (p := n + 139) p9 (Nat.zero_le _) (fun b g1 g2 => (u9 b (by omega) (by omega)).2) (fun b g1 g2 => (u9 b (by omega) (by omega)).1)
