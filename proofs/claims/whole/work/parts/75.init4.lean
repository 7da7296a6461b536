/-- the reference at its beginning -/
theorem i10 {y : Nat} {Z : Zt} : SR y (fX10_init y (y + 1) (zN Z y 10)).2 0 0 0 (fun _ => 0) (fun _ => 0) (-1) (-1) P0 ∧ ∀ b, b < y → (fX10_init y (y + 1) (zN Z y 10)).2.1 b = Z.2.1 b ∧ (fX10_init y (y + 1) (zN Z y 10)).2.2 b = Z.2.2 b := by
  unfold fX10_init
  simp only [lt'_e, Nat.add_zero]
  obtain ⟨X, x⟩ : ∃ X, X = zD (zR (zA (zR (zA (zR (zA (zR (zA (zR (zA (zR (zA (zR (zA (zR (zA (zR (zA (zR (zA (zR (zA (zR (zA (zR (zA (zI (zI (zR (zA (zR (zA (zN Z y 10) (y + 1) 12 12020) y 10 1 0 (y + 1)) (y + 1 + 1) 12 12020) y 10 3 1 (y + 1 + 1)) y 4 (-1)) y 5 (-1)) (y + 1 + 2) 11 12) y 10 131 7 (y + 1 + 2)) (y + 1 + 3) 11 512) y 10 387 8 (y + 1 + 3)) (y + 1 + 4) 11 480) y 10 899 9 (y + 1 + 4)) (y + 1 + 5) 11 12288) y 10 1923 10 (y + 1 + 5)) (y + 1 + 6) 13 196608) y 10 3971 11 (y + 1 + 6)) (y + 1 + 7) 12 12020) y 10 2101123 21 (y + 1 + 7)) (y + 1 + 8) 13 4096) y 10 18878339 24 (y + 1 + 8)) (y + 1 + 9) 13 4096) y 10 52432771 25 (y + 1 + 9)) (y + 1 + 10) 13 4096) y 10 119541635 26 (y + 1 + 10)) (y + 1 + 11) 13 4096) y 10 253759363 27 (y + 1 + 11)) (y + 1 + 12) 12 256) y 10 34613497731 35 (y + 1 + 12)) (y + 1 + 13) 13 4096) y 10 103332974467 36 (y + 1 + 13)) (y + 1 + 14) 13 4096) y 10 240771927939 37 (y + 1 + 14)) y 10 0 := ⟨_, rfl⟩
  rw [← x]
  have l7 : X.2.2 y 7 = y + 3 := by rw [x]; simp (disch := omega) only [zD_2, zI_2, zR_2, zA_2, zN_2, si_2, sr_j, sr_k, zz_2]
  have e : (zI (zI X (X.2.2 y 7) (0 : Int32).toNatClampNeg 1) ((zI X (X.2.2 y 7) (0 : Int32).toNatClampNeg 1).2.2 y 7) (1 : Int32).toNatClampNeg 1).2 = si (si X.2 (y + 3) 0 1) (y + 3) 1 1 := by
    show si (si X.2 (X.2.2 y 7) (0 : Int32).toNatClampNeg 1) (X.2.2 y 7) (1 : Int32).toNatClampNeg 1 = _
    rw [l7]
    rfl
  rw [e]
  have q : ∀ k, k ≠ 4 → k ≠ 5 → X.2.1 y k = 0 := fun k h4 h5 => by
    rw [x]; simp (disch := omega) only [zD_2, zI_2, zR_2, zA_2, zN_2, si_j, sr_1, zz_b, zz_k]
  have q4 : X.2.1 y 4 = -1 ∧ X.2.1 y 5 = -1 := by
    rw [x]
    exact ⟨by simp (disch := omega) only [zD_2, zI_2, zR_2, zA_2, zN_2, si_j, si_k, sr_1, zz_b], by simp (disch := omega) only [zD_2, zI_2, zR_2, zA_2, zN_2, si_k, sr_1, zz_b]⟩
  have h3 : ∀ k, X.2.1 (y + 3) k = 0 := fun k => by
    rw [x, show y + 1 + 2 = y + 3 by omega]
    simp (disch := omega) only [zD_2, zI_2, zR_2, zA_2, zN_2, si_b, sr_1, zz_b, zz_k]
  have yy : ∀ k, (si (si X.2 (y + 3) 0 1) (y + 3) 1 1).1 y k = X.2.1 y k := fun k => by rw [si_b (by omega), si_b (by omega)]
  refine ⟨⟨?_, ⟨by decide, ?_⟩, ⟨?_, fun j hj => by omega⟩, ⟨?_, fun j hj => by omega⟩, ?_, ?_, ?_⟩, fun b hb => ?_⟩
  · show LR y X.2
    rw [x]
    refine ⟨?_, ?_, ?_, ?_, ?_, ?_, ?_, ?_, ?_, ?_, ?_, ?_, ?_, ?_, ?_⟩
    all_goals simp (disch := omega) only [zD_2, zI_2, zR_2, zA_2, zN_2, si_2, sr_j, sr_k, zz_2]
  · rw [yy, q 6 (by decide) (by decide)]; rfl
  · rw [yy, q 2 (by decide) (by decide)]; rfl
  · rw [yy, q 3 (by decide) (by decide)]; rfl
  · rw [yy]; exact q4.1
  · rw [yy]; exact q4.2
  · refine gP_R ⟨?_, ?_, ?_, ?_, ?_, ?_⟩ (fun k hk => absurd hk (Nat.not_lt_zero k))
    · simp (disch := omega) only [si_j, si_k]; rfl
    · simp (disch := omega) only [si_k]; rfl
    · simp (disch := omega) only [si_j, h3]; rfl
    · simp (disch := omega) only [si_j, h3]; rfl
    · simp (disch := omega) only [si_j, h3]; rfl
    · simp (disch := omega) only [si_j, h3]; rfl
  · simp (disch := omega) only [si_b, si_2]
    rw [x]
    simp (disch := omega) only [zD_2, zI_2, zR_2, zA_2, zN_2, si_b, si_2, sr_1, sr_b, zz_b, zz_2, and_self]
