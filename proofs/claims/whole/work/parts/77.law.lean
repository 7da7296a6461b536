/-! THE LAW: over every script the two answer the same -/
theorem law_l {n L : Nat} {xs : Nat → Int32} (fu : Nat) (hfu : 100000 ≤ fu) (hL : L ≤ 3584) : ∀ (K i : Nat) (μ : Mm), i ≤ L + 7 → L + 7 - i < K → STe n μ → fL_law_L18 fu L xs K n (n + 273) (nI i) μ = some 1 := by
  intro K
  induction K with
  | zero => intro i μ _ h; omega
  | succ K ih =>
    intro i μ hi hK h
    show fL_law_B18 (fL_law_L18 fu L xs K) fu L xs n (n + 273) (nI i) μ = some 1
    unfold fL_law_B18
    by_cases q : i + 7 ≤ L
    · have e0 : (Int32.ofNat L : Int32) - 7 = nI (L - 7) := pk_sub (a := L) (b := 7) (by omega)
      rw [e0, if_neg (nI_nlt (by omega) (by omega))]
      have a1 : nI i + 1 = nI (i + 1) := nI_1 i
      have a2 : nI i + 2 = nI (i + 2) := nI_add i 2
      have a3 : nI i + 3 = nI (i + 3) := nI_add i 3
      have a4 : nI i + 4 = nI (i + 4) := nI_add i 4
      have a5 : nI i + 5 = nI (i + 5) := nI_add i 5
      have a6 : nI i + 6 = nI (i + 6) := nI_add i 6
      have a7 : nI i + 7 = nI (i + 7) := nI_add i 7
      have g0 : ib (nI i) L = true := ib_nI (by omega) (by omega)
      have g1 : ib (nI (i + 1)) L = true := ib_nI (by omega) (by omega)
      have g2 : ib (nI (i + 2)) L = true := ib_nI (by omega) (by omega)
      have g3 : ib (nI (i + 3)) L = true := ib_nI (by omega) (by omega)
      have g4 : ib (nI (i + 4)) L = true := ib_nI (by omega) (by omega)
      have g5 : ib (nI (i + 5)) L = true := ib_nI (by omega) (by omega)
      have g6 : ib (nI (i + 6)) L = true := ib_nI (by omega) (by omega)
      have nx : ∀ μ', STe n μ' → fL_law_L18 fu L xs K n (n + 273) (nI (i + 7)) μ' = some 1 := fun μ' h' => ih (i + 7) μ' (by omega) (by omega) h'
      simp only [a1, a2, a3, a4, a5, a6, a7, g0, g1, g2, g3, g4, g5, g6, gd_t, lt'_e]
      generalize xs (nI i).toNatClampNeg &&& 15 = x
      generalize e1 : xs (nI (i + 1)).toNatClampNeg = w1
      generalize e2 : xs (nI (i + 2)).toNatClampNeg = w2
      generalize e3 : xs (nI (i + 3)).toNatClampNeg = w3
      generalize e4 : xs (nI (i + 4)).toNatClampNeg = w4
      generalize e5 : xs (nI (i + 5)).toNatClampNeg = w5
      generalize e6 : xs (nI (i + 6)).toNatClampNeg = w6
      by_cases q0 : x = 0
      · rw [if_pos q0]
        obtain ⟨r, μ1, μ2, h1, h2, S⟩ := feed_ok fu (by omega) h w1 w2 w3 w4 w5
        rw [bd_e h1, bd_e h2, if_pos rfl]
        exact nx μ2 S
      rw [if_neg q0]
      by_cases q1 : x = 1
      · rw [if_pos q1]
        obtain ⟨r, μ1, μ2, h1, h2, S⟩ := take_ok fu (by omega) h
        rw [bd_e h1, bd_e h2, if_pos rfl]
        exact nx μ2 S
      rw [if_neg q1]
      by_cases q2 : x = 2
      · rw [if_pos q2]
        obtain ⟨r, μ1, μ2, h1, h2, S⟩ := read_ok fu (by omega) h w1
        rw [bd_e h1, bd_e h2, if_pos rfl]
        exact nx μ2 S
      rw [if_neg q2]
      by_cases q3 : x = 3
      · rw [if_pos q3, if_pos (fault_ok h w1)]
        exact nx μ h
      rw [if_neg q3]
      by_cases q4 : x = 4
      · rw [if_pos q4]
        obtain ⟨r, μ1, μ2, h1, h2, S⟩ := begin_ok fu (by omega) h w1 w2 w3 w4
        rw [bd_e h1, bd_e h2, if_pos rfl]
        exact nx μ2 S
      rw [if_neg q4]
      by_cases q5 : x = 5
      · rw [if_pos q5]
        obtain ⟨r, μ1, μ2, h1, h2, S⟩ := colour_ok h w1 w2 w3
        rw [bd_e h1, bd_e h2, if_pos rfl]
        exact nx μ2 S
      rw [if_neg q5]
      by_cases q6 : x = 6
      · rw [if_pos q6]
        by_cases qw : w6 = 0
        · rw [if_pos qw]
          obtain ⟨r, μ1, μ2, h1, h2, S⟩ := frame_ok fu (by omega) h w1 w2 w3 w4 w5 0 (Or.inl rfl)
          unfold fL_law_L370 fL_law_L413
          rw [bd_e h1]
          simp only [a1, a2, a3, a4, a5, a6, a7, g1, g2, g3, g4, g5, g6, gd_t, lt'_e, e1, e2, e3, e4, e5, e6]
          rw [if_pos qw, bd_e h2, if_pos rfl]
          exact nx μ2 S
        · rw [if_neg qw]
          obtain ⟨r, μ1, μ2, h1, h2, S⟩ := frame_ok fu (by omega) h w1 w2 w3 w4 w5 1 (Or.inr rfl)
          unfold fL_law_L370 fL_law_L413
          rw [bd_e h1]
          simp only [a1, a2, a3, a4, a5, a6, a7, g1, g2, g3, g4, g5, g6, gd_t, lt'_e, e1, e2, e3, e4, e5, e6]
          rw [if_neg qw, bd_e h2, if_pos rfl]
          exact nx μ2 S
      rw [if_neg q6]
      by_cases q7 : x = 7
      · rw [if_pos q7]
        by_cases qw : w5 = 0
        · rw [if_pos qw]
          obtain ⟨r, μ1, μ2, h1, h2, S⟩ := control_ok h w1 w2 w3 w4 0 (Or.inl rfl)
          unfold fL_law_L455 fL_law_L492
          rw [bd_e h1]
          simp only [a1, a2, a3, a4, a5, a6, a7, g1, g2, g3, g4, g5, g6, gd_t, lt'_e, e1, e2, e3, e4, e5, e6]
          rw [if_pos qw, bd_e h2, if_pos rfl]
          exact nx μ2 S
        · rw [if_neg qw]
          obtain ⟨r, μ1, μ2, h1, h2, S⟩ := control_ok h w1 w2 w3 w4 1 (Or.inr rfl)
          unfold fL_law_L455 fL_law_L492
          rw [bd_e h1]
          simp only [a1, a2, a3, a4, a5, a6, a7, g1, g2, g3, g4, g5, g6, gd_t, lt'_e, e1, e2, e3, e4, e5, e6]
          rw [if_neg qw, bd_e h2, if_pos rfl]
          exact nx μ2 S
      rw [if_neg q7]
      by_cases q8 : x = 8
      · rw [if_pos q8]
        obtain ⟨r, μ1, μ2, h1, h2, S⟩ := paint_ok fu (by omega) h w1 w2 w3 w4
        rw [bd_e h1, bd_e h2, if_pos rfl]
        exact nx μ2 S
      rw [if_neg q8]
      by_cases q9 : x = 9
      · rw [if_pos q9]
        obtain ⟨r, μ1, μ2, h1, h2, S⟩ := write_ok fu (by omega) h
        rw [bd_e h1, bd_e h2, if_pos rfl]
        exact nx μ2 S
      rw [if_neg q9]
      by_cases q10 : x = 10
      · rw [if_pos q10]
        obtain ⟨r, h1, h2⟩ := out_ok h w1
        rw [bd_e h1, bd_e h2, if_pos rfl]
        exact nx μ h
      rw [if_neg q10]
      by_cases q11 : x = 11
      · rw [if_pos q11, bd_e (about_ok h w1), if_pos rfl]
        exact nx μ h
      rw [if_neg q11]
      by_cases q12 : x = 12
      · rw [if_pos q12]
        obtain ⟨r, h1, h2⟩ := frameOf_ok h w1 w2
        rw [bd_e h1, bd_e h2, if_pos rfl]
        exact nx μ h
      rw [if_neg q12]
      by_cases q13 : x = 13
      · rw [if_pos q13]
        obtain ⟨r, h1, h2⟩ := colourOf_ok h w1 w2
        rw [bd_e h1, bd_e h2, if_pos rfl]
        exact nx μ h
      rw [if_neg q13]
      by_cases q14 : x = 14
      · rw [if_pos q14]
        obtain ⟨r, h1, h2⟩ := index_ok h w1 w2
        rw [bd_e h1, bd_e h2, if_pos rfl]
        exact nx μ h
      rw [if_neg q14]
      by_cases q15 : x = 15
      · rw [if_pos q15]
        obtain ⟨r, h1, h2⟩ := canvas_ok fu (by omega) h w1 w2 w3
        rw [bd_e h1, bd_e h2, if_pos rfl]
        exact nx μ h
      rw [if_neg q15]
      exact nx μ h
    · have e0 : ((Int32.ofNat L : Int32) - 7 < nI i) := by
        by_cases c : 7 ≤ L
        · have e1 : (Int32.ofNat L : Int32) - 7 = nI (L - 7) := pk_sub (a := L) (b := 7) c
          rw [e1]
          exact nI_lt (by omega) (by omega)
        · have k : ∀ l, l < 7 → ∀ j, j < 15 → ((Int32.ofNat l : Int32) - 7 < nI j) := by decide +kernel
          exact k L (by omega) i (by omega)
      rw [if_pos e0]
