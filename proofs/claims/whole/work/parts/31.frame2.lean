theorem frameR_set {μ : Mm} {y s f : Nat} {l t w h g i : Int32} (fu : Nat) (l9 : μ.2 y 9 = y + 5) (hs : s < 2) (h6 : μ.1 y 6 = nI s) (hf : f < 24) (hi : i = 0 ∨ i = 1) : fX10_frame_L122 fu y l t w h g i (nI f) μ = fX10_frame_L260 fu fu y w h g (nI f) 0 (sf μ (y + 5) (240 * s + 10 * f) [l, t, w, h, g, i, 0, -1, 0, 0]) := by
  have st : ∀ (ν : Mm) (j : Nat) (c v : Int32), ν.2 = μ.2 → c = nI j → j < 10 → fX10_setField y (nI s) (nI f) c v ν = some (si ν (y + 5) (240 * s + 10 * f + j) v) := fun ν j c v e1 e2 h => setField_R (μ := ν) (by rw [e1]; exact l9) hs hf h e2
  have q6 : ∀ (ν : Mm) (a k : Nat) (v : Int32), a = y + 5 → ν.1 y 6 = nI s → (si ν a k v).1 y 6 = nI s := fun ν a k v ha h => by rw [si_b (by omega)]; exact h
  obtain ⟨μ1, x1⟩ : ∃ μ1, μ1 = si μ (y + 5) (240 * s + 10 * f + 0) l := ⟨_, rfl⟩
  obtain ⟨μ2, x2⟩ : ∃ μ2, μ2 = si μ1 (y + 5) (240 * s + 10 * f + 1) t := ⟨_, rfl⟩
  obtain ⟨μ3, x3⟩ : ∃ μ3, μ3 = si μ2 (y + 5) (240 * s + 10 * f + 2) w := ⟨_, rfl⟩
  obtain ⟨μ4, x4⟩ : ∃ μ4, μ4 = si μ3 (y + 5) (240 * s + 10 * f + 3) h := ⟨_, rfl⟩
  obtain ⟨μ5, x5⟩ : ∃ μ5, μ5 = si μ4 (y + 5) (240 * s + 10 * f + 4) g := ⟨_, rfl⟩
  obtain ⟨μ6, x6⟩ : ∃ μ6, μ6 = si μ5 (y + 5) (240 * s + 10 * f + 5) i := ⟨_, rfl⟩
  obtain ⟨μ7, x7⟩ : ∃ μ7, μ7 = si μ6 (y + 5) (240 * s + 10 * f + 6) 0 := ⟨_, rfl⟩
  obtain ⟨μ8, x8⟩ : ∃ μ8, μ8 = si μ7 (y + 5) (240 * s + 10 * f + 7) (-1) := ⟨_, rfl⟩
  obtain ⟨μ9, x9⟩ : ∃ μ9, μ9 = si μ8 (y + 5) (240 * s + 10 * f + 8) 0 := ⟨_, rfl⟩
  have z1 : μ1.2 = μ.2 ∧ μ1.1 y 6 = nI s := by rw [x1]; exact ⟨rfl, q6 _ _ _ _ rfl h6⟩
  have z2 : μ2.2 = μ.2 ∧ μ2.1 y 6 = nI s := by rw [x2]; exact ⟨z1.1, q6 _ _ _ _ rfl z1.2⟩
  have z3 : μ3.2 = μ.2 ∧ μ3.1 y 6 = nI s := by rw [x3]; exact ⟨z2.1, q6 _ _ _ _ rfl z2.2⟩
  have z4 : μ4.2 = μ.2 ∧ μ4.1 y 6 = nI s := by rw [x4]; exact ⟨z3.1, q6 _ _ _ _ rfl z3.2⟩
  have z5 : μ5.2 = μ.2 ∧ μ5.1 y 6 = nI s := by rw [x5]; exact ⟨z4.1, q6 _ _ _ _ rfl z4.2⟩
  have z6 : μ6.2 = μ.2 ∧ μ6.1 y 6 = nI s := by rw [x6]; exact ⟨z5.1, q6 _ _ _ _ rfl z5.2⟩
  have z7 : μ7.2 = μ.2 ∧ μ7.1 y 6 = nI s := by rw [x7]; exact ⟨z6.1, q6 _ _ _ _ rfl z6.2⟩
  have z8 : μ8.2 = μ.2 ∧ μ8.1 y 6 = nI s := by rw [x8]; exact ⟨z7.1, q6 _ _ _ _ rfl z7.2⟩
  have z9 : μ9.2 = μ.2 ∧ μ9.1 y 6 = nI s := by rw [x9]; exact ⟨z8.1, q6 _ _ _ _ rfl z8.2⟩
  have en : sf μ (y + 5) (240 * s + 10 * f) [l, t, w, h, g, i, 0, -1, 0, 0] = si μ9 (y + 5) (240 * s + 10 * f + 9) 0 := by rw [x9, x8, x7, x6, x5, x4, x3, x2, x1]; rfl
  have tail : fX10_frame_L202 fu y w h g (nI f) y (nI s) (nI f) 5 i μ5 = fX10_frame_L260 fu fu y w h g (nI f) 0 (si μ9 (y + 5) (240 * s + 10 * f + 9) 0) := by
    unfold fX10_frame_L202
    rw [bd_e (st μ5 5 5 i z5.1 rfl (by decide)), ← x6, z6.2, bd_e (st μ6 6 6 0 z6.1 rfl (by decide)), ← x7, z7.2, bd_e (st μ7 7 7 (-1) z7.1 rfl (by decide)), ← x8, z8.2, bd_e (st μ8 8 8 0 z8.1 rfl (by decide)), ← x9, z9.2, bd_e (st μ9 9 9 0 z9.1 rfl (by decide))]
  unfold fX10_frame_L122
  rw [h6, bd_e (st μ 0 0 l rfl rfl (by decide)), ← x1, z1.2, bd_e (st μ1 1 1 t z1.1 rfl (by decide)), ← x2, z2.2, bd_e (st μ2 2 2 w z2.1 rfl (by decide)), ← x3, z3.2, bd_e (st μ3 3 3 h z3.1 rfl (by decide)), ← x4, z4.2, bd_e (st μ4 4 4 g z4.1 rfl (by decide)), ← x5, z5.2, en]
  rcases hi with q | q
  · rw [if_pos q, ← tail, q]
  · rw [if_neg (by rw [q]; decide), ← tail, q]
theorem frame_ok {n : Nat} {μ : Mm} (fu : Nat) (hfu : 4097 ≤ fu) (h : STe n μ) (a b c d g e : Int32) (he : e = 0 ∨ e = 1) : ∃ r μ1 μ2, fX9_frame fu n a b c d g e μ = some (r, μ1) ∧ fX10_frame fu (n + 273) a b c d g e μ1 = some (r, μ2) ∧ STe n μ2 := by
  have h0 := h
  obtain ⟨p, dd, m, w, s, tn, on, t, o, fk, fp, P, hC, hR, hV⟩ := h
  have hc := hV.2.2.2.2.1
  have l3 : μ.2 n 3 = p := hC.1.1.2.2.2.1
  have hpd := hC.1.2.2.2.2.2
  have hP := hC.2.2.2.2.2.2.2.1
  have hs := hR.2.1
  have hh := hP.2.1
  have hW := hV.1
  obtain ⟨i, hi, ei⟩ : ∃ i : Nat, i ≤ 1 ∧ e = nI i := by
    rcases he with rfl | rfl
    · exact ⟨0, by omega, rfl⟩
    · exact ⟨1, by omega, rfl⟩
  -- the reference, its head read
  have rf : ∀ μ1, SR (n + 273) μ1 s tn on t o fk fp P → fX10_frame fu (n + 273) a b c d g e μ1 = (if nI (hd P 5) = 24 then some ((-1), μ1) else if fX10_isWithin a 0 (nI (hd P 0)) = 0 then some ((-1), μ1) else if fX10_isWithin b 0 (nI (hd P 1)) = 0 then some ((-1), μ1) else if fX10_isWithin c 1 (nI (hd P 0) - a) = 0 then some ((-1), μ1) else if fX10_isWithin d 1 (nI (hd P 1) - b) = 0 then some ((-1), μ1) else if fX10_isTable g = 0 then some ((-1), μ1) else if g = 0 then (if nI (hd P 2) = 0 then some ((-1), μ1) else fX10_frame_L122 fu (n + 273) a b c d g e (nI (hd P 5)) μ1) else fX10_frame_L122 fu (n + 273) a b c d g e (nI (hd P 5)) μ1) := by
    intro μ1 h1
    unfold fX10_frame
    have e0 := head_R0 h1
    have e1 := head_R h1 (k := 1) (v := 1) rfl (by decide)
    have e2 := head_R h1 (k := 2) (v := 2) rfl (by decide)
    rw [bd_e (frames_R h1)]
    simp only [lt'_e]
    rw [gd_e e0.1, gd_e e1.1, gd_e e2.1, e0.2, e1.2, e2.2]
  have cl : fX9_frame fu n a b c d g e μ = (if fX4_hasRoom p μ = 0 then some ((-1), μ) else if fX4_holds p a b c d μ = 0 then some ((-1), μ) else if fX9_isTableSize g = 0 then some ((-1), μ) else if fX4_givesTable p g μ = 0 then some ((-1), μ) else bd (fX4_addFrame fu p a b c d g e μ) fun q5 => some ((q5.2.1 (q5.2.2 n 3) 4) - 1, q5.2)) := by
    unfold fX9_frame
    rw [l3]
    simp only [lt'_e]
  have er : fX4_hasRoom p μ = if hd P 5 = 24 then 0 else 1 := by
    unfold fX4_hasRoom
    rw [hh.2.2.2.2.2.1]
    by_cases q : hd P 5 = 24
    · rw [if_pos q, q]; rfl
    · rw [if_neg q, if_neg (show ¬ (24 : Int32) ≤ nI (hd P 5) from nI_ge (b := 24) (by omega) (by decide))]
  have eh : fX4_holds p a b c d μ = (if c < 1 then 0 else if nI (hd P 0) < c then 0 else if a < 0 then 0 else if nI (hd P 0) - c < a then 0 else if d < 1 then 0 else if nI (hd P 1) < d then 0 else if b < 0 then 0 else if nI (hd P 1) - d < b then 0 else 1) := by
    unfold fX4_holds
    rw [hh.1, hh.2.1]
  have eg : fX4_givesTable p g μ = (if g = 0 then (if nI (hd P 2) = 0 then 0 else 1) else 1) := by
    unfold fX4_givesTable
    rw [hP.1.1, hh.2.2.1]
  by_cases q24 : hd P 5 = 24
  · refine ⟨-1, μ, μ, ?_, ?_, h0⟩
    · rw [cl, er, if_pos q24, if_pos rfl]
    · rw [rf μ hR, if_pos (show nI (hd P 5) = 24 by rw [q24]; rfl)]
  rw [er, if_neg q24, if_neg (show ¬ (1 : Int32) = 0 by decide)] at cl
  have n24 : ¬ nI (hd P 5) = 24 := fun q => q24 ((nI_eq (b := 24) (by omega) (by decide)).mp q)
  -- the four sides
  have side : ∀ (x y : Int32) (N : Nat), 1 ≤ N → N ≤ 64 → (∃ X Y, x = nI X ∧ y = nI Y ∧ 1 ≤ Y ∧ X + Y ≤ N) ∨ ((fX10_isWithin x 0 (nI N) = 0 ∨ fX10_isWithin y 1 (nI N - x) = 0) ∧ (y < 1 ∨ nI N < y ∨ x < 0 ∨ nI N - y < x)) := by
    intro x y N hN1 hN2
    rcases within_case x (lo := 0) (hi := N) (by decide) (by omega) with ⟨X, -, hX, ex, kx⟩ | kx
    · subst ex
      rw [pk_sub hX]
      rcases within_case y (lo := 1) (hi := N - X) (by decide) (by omega) with ⟨Y, hY1, hY2, ey, ky⟩ | ky
      · exact Or.inl ⟨X, Y, rfl, ey, hY1, by omega⟩
      · refine Or.inr ⟨Or.inr ky, ?_⟩
        rcases within_neg ky with q | q
        · exact Or.inl q
        · by_cases c1 : y < 0
          · exact absurd (Int32.lt_trans q c1) (nI_pos (by omega))
          · obtain ⟨j, hj, rfl⟩ := nI_of c1
            have := (nI_ltI (by omega) hj).mp q
            by_cases c2 : j ≤ N
            · refine Or.inr (Or.inr (Or.inr ?_))
              rw [pk_sub c2]
              exact nI_lt (by omega) (by omega)
            · exact Or.inr (Or.inl (nI_lt (by omega) hj))
    · refine Or.inr ⟨Or.inl kx, ?_⟩
      rcases within_neg kx with q | q
      · exact Or.inr (Or.inr (Or.inl q))
      · by_cases c1 : y < 1
        · exact Or.inl c1
        · by_cases c2 : nI N < y
          · exact Or.inr (Or.inl c2)
          · refine Or.inr (Or.inr (Or.inr ?_))
            have c3 : ¬ y < 0 := fun q' => c1 (Int32.lt_trans q' (by decide))
            obtain ⟨j, hj, rfl⟩ := nI_of c3
            have hj2 : j ≤ N := by
              rcases Nat.lt_or_ge N j with q' | q'
              · exact absurd (nI_lt q' hj) c2
              · exact q'
            rw [pk_sub hj2]
            exact Int32.lt_of_le_of_lt (nI_le (by omega) (by omega)) q
  have bad1 : ((fX10_isWithin a 0 (nI (hd P 0)) = 0 ∨ fX10_isWithin c 1 (nI (hd P 0) - a) = 0) ∧ (c < 1 ∨ nI (hd P 0) < c ∨ a < 0 ∨ nI (hd P 0) - c < a)) ∨ ((fX10_isWithin b 0 (nI (hd P 1)) = 0 ∨ fX10_isWithin d 1 (nI (hd P 1) - b) = 0) ∧ (d < 1 ∨ nI (hd P 1) < d ∨ b < 0 ∨ nI (hd P 1) - d < b)) → ∃ r μ1 μ2, fX9_frame fu n a b c d g e μ = some (r, μ1) ∧ fX10_frame fu (n + 273) a b c d g e μ1 = some (r, μ2) ∧ STe n μ2 := by
    intro hq
    refine ⟨-1, μ, μ, ?_, ?_, h0⟩
    · rw [cl, if_pos]
      rw [eh]
      rcases hq with ⟨-, q | q | q | q⟩ | ⟨-, q | q | q | q⟩ <;> simp [q]
    · rw [rf μ hR, if_neg n24]
      rcases hq with ⟨q | q, -⟩ | ⟨q | q, -⟩ <;> simp [q]
  rcases side a c (hd P 0) hW.1 hW.2.1 with ⟨A, C, ea, ec, hC1, hAC⟩ | q
  · rcases side b d (hd P 1) hW.2.2.1 hW.2.2.2 with ⟨B, D, eb, ed, hD1, hBD⟩ | q
    · have h1 : fX4_holds p a b c d μ = 1 := by
        rw [eh, ea, eb, ec, ed]
        simp (disch := omega) only [lt'_e, bd_s, oc_n, oc_s, m1_e, lit_d, nI_add, pk_mul, pk_sub, nI_clamp, r_le1, r_le0, r_lt1, r_lt0, r_eq1, r_eq0, r_ib, r_b01, r_cpk, m1_eq, m1_eq', m1_lt, m1_le, m1_lt', ↓reduceIte]
      have g0 : fX10_isWithin a 0 (nI (hd P 0)) = 1 := by rw [ea]; exact within_1 (lo := 0) (by omega) (by omega) (by omega)
      have g1 : fX10_isWithin b 0 (nI (hd P 1)) = 1 := by rw [eb]; exact within_1 (lo := 0) (by omega) (by omega) (by omega)
      have g2 : fX10_isWithin c 1 (nI (hd P 0) - a) = 1 := by rw [ea, ec, pk_sub (by omega)]; exact within_1 (lo := 1) (by omega) (by omega) (by omega)
      have g3 : fX10_isWithin d 1 (nI (hd P 1) - b) = 1 := by rw [eb, ed, pk_sub (by omega)]; exact within_1 (lo := 1) (by omega) (by omega) (by omega)
      rw [h1, if_neg (show ¬ (1 : Int32) = 0 by decide)] at cl
      have rf2 : ∀ μ1, SR (n + 273) μ1 s tn on t o fk fp P → fX10_frame fu (n + 273) a b c d g e μ1 = (if fX10_isTable g = 0 then some ((-1), μ1) else if g = 0 then (if nI (hd P 2) = 0 then some ((-1), μ1) else fX10_frame_L122 fu (n + 273) a b c d g e (nI (hd P 5)) μ1) else fX10_frame_L122 fu (n + 273) a b c d g e (nI (hd P 5)) μ1) := fun μ1 q => by
        rw [rf μ1 q, if_neg n24, g0, if_neg (show ¬ (1 : Int32) = 0 by decide), g1, if_neg (show ¬ (1 : Int32) = 0 by decide), g2, if_neg (show ¬ (1 : Int32) = 0 by decide), g3, if_neg (show ¬ (1 : Int32) = 0 by decide)]
      rcases tab_case g with ⟨G, hG, eG, kg, kg'⟩ | ⟨kg, kg'⟩
      · have hG2 := tsz_le hG
        rw [kg, if_neg (show ¬ (1 : Int32) = 0 by decide)] at cl
        by_cases nt : G = 0 ∧ hd P 2 = 0
        · refine ⟨-1, μ, μ, ?_, ?_, h0⟩
          · rw [cl, eg, if_pos (show g = 0 by rw [eG, nt.1]; rfl), if_pos (show nI (hd P 2) = 0 by rw [nt.2]; rfl), if_pos rfl]
          · rw [rf2 μ hR, kg', if_neg (show ¬ (1 : Int32) = 0 by decide), if_pos (show g = 0 by rw [eG, nt.1]; rfl), if_pos (show nI (hd P 2) = 0 by rw [nt.2]; rfl)]
        · have ggt : fX4_givesTable p g μ = 1 := by
            rw [eg, eG]
            have := tsz_le hV.2.1
            by_cases q : G = 0
            · rw [if_pos (show nI G = 0 by rw [q]; rfl), if_neg (nI_ne0 (by omega) (by omega))]
            · rw [if_neg (nI_ne0 (by omega) (by omega))]
          have rf3 : ∀ μ1, SR (n + 273) μ1 s tn on t o fk fp P → fX10_frame fu (n + 273) a b c d g e μ1 = fX10_frame_L122 fu (n + 273) a b c d g e (nI (hd P 5)) μ1 := fun μ1 q => by
            have := tsz_le hV.2.1
            rw [rf2 μ1 q, kg', if_neg (show ¬ (1 : Int32) = 0 by decide)]
            by_cases q : G = 0
            · rw [if_pos (show g = 0 by rw [eG, q]; rfl), if_neg (nI_ne0 (by omega) (by omega))]
            · rw [if_neg (show ¬ g = 0 by rw [eG]; exact nI_ne0 (by omega) (by omega))]
          have hCD : C * D ≤ 4096 := Nat.le_trans (Nat.mul_le_mul (show C ≤ 64 by omega) (show D ≤ 64 by omega)) (by decide)
          obtain ⟨μ1, e1, a1, hP1⟩ := addFrame_C (l := A) (t := B) (w := C) (h := D) (g := G) (i := i) fu hfu hP (by omega) hCD hG2 hi
          have hR1 := hR.fr (a1.fr (Nat.le_refl _) (Nat.le_refl _)) (by omega)
          have hV1 : VP (pF P A B C D G i) := pF_V hV (by omega) hC1 hD1 hAC hBD hG hi nt
          obtain ⟨ν, eν⟩ : ∃ ν, ν = sf μ1 (n + 273 + 5) (240 * s + 10 * hd P 5) [nI A, nI B, nI C, nI D, nI G, nI i, 0, -1, 0, 0] := ⟨_, rfl⟩
          have aν : Ag μ1 ν (n + 273 + 5) (n + 273 + 6) := by rw [eν]; exact sf_ag (by omega) (by omega) _ _ _
          have fs : fX10_frame fu (n + 273) a b c d g e μ1 = fX10_frame_L260 fu fu (n + 273) c d g (nI (hd P 5)) 0 ν := by
            rw [rf3 μ1 hR1, eν, ← ea, ← eb, ← ec, ← ed, ← eG, ← ei]
            exact frameR_set (s := s) fu hR1.1.2.2.2.2.1 hs.1 hR1.2.1.2 (by omega) he
          obtain ⟨ν1, e2, a2, k6⟩ := fill0_loc (y := n + 273) (s := s) (f := hd P 5) (g := G) fu hs.1 (by omega) hG2 (nI C) (nI D) (R := fun μ => fX10_frame_L293 fu fu (n + 273) (nI C) (nI D) (nI (hd P 5)) 0 μ) (fun _ => rfl) fu 0 ν (by omega) (by omega) (by rw [aν.1]; exact hR1.1.2.2.2.2.2.1) (by rw [aν.2 _ (by omega)]; exact hR1.2.1.2)
          have aν1 : Ag μ1 ν1 (n + 273 + 5) (n + 273 + 7) := (aν.up (by omega) (by omega)).tr (a2.up (by omega) (by omega))
          obtain ⟨ν2, e3, a3, k7⟩ := fill0_ix (y := n + 273) (s := s) (f := hd P 5) (w := C) (h := D) fu hs.1 (by omega) hCD fu 0 ν1 (by omega) (by omega) (by rw [aν1.1]; exact hR1.1.2.2.2.2.2.2.1) (by rw [aν1.1]; exact hR1.1.2.2.1) (by rw [aν1.2 _ (by omega)]; exact hR1.2.1.2) (by rw [aν1.2 _ (by omega)]; exact hR1.2.2.2.2.2.2.1.1 5 (by decide))
          simp only [Nat.add_zero] at k6 k7
          have aν2 : Ag μ1 ν2 (n + 273 + 5) (n + 273 + 8) := (aν1.up (by omega) (by omega)).tr (a3.up (by omega) (by omega))
          refine ⟨nI (hd P 5), μ1, si ν2 (n + 273 + 3) (6 * s + 5) (nI (hd P 5 + 1)), ?_, ?_, STe.of hC hR hV1 a1 hP1 ((aν2.up (by omega) (by omega)).nsi (by omega) (by omega)) ?_⟩
          · rw [cl, ggt, if_neg (show ¬ (1 : Int32) = 0 by decide), ea, eb, ec, ed, eG, ei, bd_e e1]
            show some (μ1.1 (μ1.2 n 3) 4 - 1, μ1) = _
            have h4 : μ1.1 p 4 = nI (hd P 5 + 1) := by rw [hP1.2.1.2.2.2.2.2.1, pF_c]
            rw [a1.1, l3, h4, nI_pred]
          · rw [fs, ec, ed, eG]
            exact e2.trans e3
          · have w5 : ν2.1 (n + 273 + 5) = ν.1 (n + 273 + 5) := by rw [a3.2 _ (by omega), a2.2 _ (by omega)]
            refine pF_R hR1.2.2.2.2.2.2 (by omega) hCD hG2 (fun f hf => ⟨tsz_le (hV.2.2.2.2.2 f hf).2.1, (vf_pl hV hf).1⟩) (fun k hk => ?_) si_k ?_ (fun k hk => ?_) ?_ (fun k => ?_) (fun k => ?_)
            · rw [si_j hk, aν2.2 _ (by omega)]
            · rw [si_b (by omega), aν2.2 _ (by omega)]
            · rw [si_b (by omega), w5, eν]
              exact sf_lo _ _ _ _ (by simpa using hk)
            · rw [si_b (by omega), w5, eν]
              refine ⟨?_, ?_, ?_, ?_, ?_, ?_, ?_, ?_, ?_, ?_⟩
              · exact sf_at _ _ _ 0 _ rfl
              · exact sf_at _ _ _ 1 _ rfl
              · exact sf_at _ _ _ 2 _ rfl
              · exact sf_at _ _ _ 3 _ rfl
              · exact sf_at _ _ _ 4 _ rfl
              · exact sf_at _ _ _ 5 _ rfl
              · exact sf_at _ _ _ 6 _ rfl
              · exact sf_at _ _ _ 7 _ rfl
              · exact sf_at _ _ _ 8 _ rfl
              · exact sf_at _ _ _ 9 _ rfl
            · rw [si_b (by omega), a3.2 _ (by omega), k6 k, aν.2 _ (by omega)]
            · rw [si_b (by omega), k7 k, aν1.2 _ (by omega)]
      · refine ⟨-1, μ, μ, ?_, ?_, h0⟩
        · rw [cl, kg, if_pos rfl]
        · rw [rf2 μ hR, kg', if_pos rfl]
    · exact bad1 (Or.inr q)
  · exact bad1 (Or.inl q)
