/-! WRITING: a FRAME, the reference -/
theorem SFr.s {y : Nat} {μ μ' : Mm} (h : SFr y μ μ') : RSF y μ μ' := h.w.s
theorem fr_R {y s f : Nat} {P : Pic} {S : Ot} {μ : Mm} (fu : Nat) (hfu : 5000 ≤ fu) (hV : VP P) (hf : f < hd P 5) (hs : s < 2) (hL : LR y μ) (h6 : μ.1 y 6 = nI s) (hP : PR μ y s P) (hO : RO μ y S) (hS : S.2 ≤ 1000000) : ∃ μ', fX10_sayFrame fu y (nI f) μ = some μ' ∧ RO μ' y (eFr P f S) ∧ RSF y μ μ' := by
  have hc := hV.2.2.2.2.1
  have v := hV.2.2.2.2.2 f hf
  have v1 := v.1
  have v2 := hV.1
  have bwh := Nat.mul_le_mul (show fx P f 2 ≤ 64 by omega) (show fx P f 3 ≤ 64 by omega)
  obtain ⟨g1, g2, g3, g4⟩ := hP.2 f hf
  have fld : ∀ ν, SFr y μ ν → ∀ j, j < 10 → j ≠ 7 → fX10_field y (ν.1 y 6) (nI f) (nI j) ν = some (nI (fx P f j)) := by
    intro ν hν j hj h7
    rw [hν.2.2 6 (by decide), h6]
    have := field_at (μ := ν) (f := f) (j := j) (by rw [hν.1]; exact hL.2.2.2.2.1) hs (by omega) hj
    rw [hν.2.1 _ (by omega) (by omega), g1 j hj h7] at this
    exact this
  have f7 : fX10_field y (μ.1 y 6) (nI f) 7 μ = some (tr P f) := by
    have := field_at (μ := μ) (f := f) (j := 7) hL.2.2.2.2.1 hs (by omega) (by decide)
    rw [g2] at this
    rw [h6]
    exact this
  obtain ⟨μ1, e1, c1, a1⟩ := hO.say (by omega) 33
  obtain ⟨μ2, e2, c2, a2⟩ := c1.say (by rw [emI_2]; omega) 249
  obtain ⟨μ3, e3, c3, a3⟩ := c2.say (by rw [emI_2, emI_2]; omega) 4
  have s3 := emL_2 [33, 249, 4] S
  have c3' : RO μ3 y (emL S [33, 249, 4]) := c3
  have s3' : (emL S [33, 249, 4]).2 = S.2 + 3 := s3
  obtain ⟨μ4, e4, c4, a4⟩ := c3'.say (by omega) (cbI P f)
  obtain ⟨μ5, e5, c5, a5⟩ := c4.say2 (by rw [emI_2]; omega) (nI (fx P f 8))
  obtain ⟨μ6, e6, c6, a6⟩ := c5.say (by rw [emI_2, emI_2, emI_2]; omega) (if tr P f = -1 then 0 else tr P f)
  obtain ⟨μ7, e7, c7, a7⟩ := c6.say (by rw [emI_2, emI_2, emI_2, emI_2]; omega) 0
  have b2 := a1.tr a2
  have b3 := b2.tr a3
  have b4 := b3.tr a4
  have b5 := b4.tr a5
  have b6 := b5.tr a6
  have b7 := b6.tr a7
  have c7' : RO μ7 y (emL S (ctlL P f)) := c7
  have s7 : (emL S (ctlL P f)).2 = S.2 + 8 := emL_2 (ctlL P f) S
  obtain ⟨S7, eS7⟩ : ∃ S7, S7 = emL S (ctlL P f) := ⟨_, rfl⟩
  rw [← eS7] at c7' s7
  obtain ⟨μ8, e8, c8, a8⟩ := c7'.say (by omega) 44
  have b8 := b7.tr a8
  obtain ⟨μ9, e9, c9, a9⟩ := c8.say2 (by rw [emI_2]; omega) (nI (fx P f 0))
  have b9 := b8.tr a9
  obtain ⟨μ10, e10, c10, a10⟩ := c9.say2 (by rw [emI_2, emI_2, emI_2]; omega) (nI (fx P f 1))
  have b10 := b9.tr a10
  obtain ⟨μ11, e11, c11, a11⟩ := c10.say2 (by rw [emI_2, emI_2, emI_2, emI_2, emI_2]; omega) (nI (fx P f 2))
  have b11 := b10.tr a11
  obtain ⟨μ12, e12, c12, a12⟩ := c11.say2 (by rw [emI_2, emI_2, emI_2, emI_2, emI_2, emI_2, emI_2]; omega) (nI (fx P f 3))
  have b12 := b11.tr a12
  obtain ⟨μ13, e13, c13, a13⟩ := c12.say (by rw [emI_2, emI_2, emI_2, emI_2, emI_2, emI_2, emI_2, emI_2, emI_2]; omega) (nI (mkB (fx P f 4) + 64 * fx P f 5))
  have b13 := b12.tr a13
  have c13' : RO μ13 y (emL S7 (imgL P f)) := c13
  have s13 : (emL S7 (imgL P f)).2 = S7.2 + 10 := emL_2 (imgL P f) S7
  have h4 := tsz_le v.2.1
  obtain ⟨μ14, e14, c14, a14⟩ := say_T (y := y) (A := y + 6) (F := 6144 * s + 256 * f) (m := fx P f 4) (ln := 12288) (g := lt P f) (S0 := emL S7 (imgL P f)) fu (by omega) (by decide) (by omega) (by omega) fu 0 μ13 (by omega) (by omega) (fun k hk => by rw [b13.2.1 _ (by omega) (by omega)]; exact g3 k hk) c13'
  have e14' : fX10_sayTable fu 12288 y (y + 6) (nI (6144 * s + 256 * f)) (nI (fx P f 4)) μ13 = some μ14 := e14
  have b14 := b13.tr a14
  have s14 := emT_2 (g := lt P f) (S := emL S7 (imgL P f)) (fx P f 4)
  obtain ⟨μ15, e15, c15, a15⟩ := c14.say (by omega) (nI (le' (tbs P f)))
  have b15 := b14.tr a15
  have s15 : (emI (emT (lt P f) (fx P f 4) (emL S7 (imgL P f))) (nI (le' (tbs P f)))).2 ≤ 2000000 := by rw [emI_2]; omega
  have X15 : RXi y s f (fx P f 2) (fx P f 3) (fx P f 5) (oF P f) μ15 := by
    refine ⟨⟨by rw [b15.1]; exact hL.2.2.2.2.1, by rw [b15.1]; exact hL.2.2.2.2.2.2.1, by rw [b15.2.2 6 (by decide)]; exact h6⟩, ⟨?_, ?_, ?_⟩, fun k hk => ?_⟩
    · rw [b15.2.1 _ (by omega) (by omega)]; exact g1 2 (by decide) (by decide)
    · rw [b15.2.1 _ (by omega) (by omega)]; exact g1 3 (by decide) (by decide)
    · rw [b15.2.1 _ (by omega) (by omega)]; exact g1 5 (by decide) (by decide)
    · rw [b15.2.1 _ (by omega) (by omega)]; exact g4 _ (plM_lt hk)
  obtain ⟨μ16, e16, W16, w16⟩ := sc_R (e := le' (tbs P f)) fu hfu le_o s15 hs (show f < 24 by omega) ⟨v1.1, by omega⟩ (by omega) v.2.2.1.1 (oF_lt hV hf) X15 (by unfold LR; rw [b15.1]; exact hL) c15
  have hec := eA_b (o := oF P f) (pl := fx P f 2 * fx P f 3) (e := le' (tbs P f)) le_o (by omega) (oF_lt hV hf)
  obtain ⟨μ17, e17, c17, w17⟩ := se_R (ec := 0) fu (by omega) s15 hec W16
  refine ⟨μ17, ?_, ?_, (b15.s.tr w16).tr w17.s⟩
  · -- from the back to the front
    have L225 : fX10_sayFrame_L225 fu y (nI f) (nI (le' (tbs P f))) μ14 = some μ17 := by
      unfold fX10_sayFrame_L225
      rw [bd_e e15, bd_e e16]
      exact e17
    have h64 : μ14.1 y 6 = nI s := by rw [b14.2.2 6 (by decide)]; exact h6
    have cols : fX10_colours y (μ14.1 y 6) (nI f) μ14 = some (nI (tbs P f)) := by
      have q4 : fX10_field y (μ14.1 y 6) (nI f) 4 μ14 = some (nI (fx P f 4)) := fld μ14 b14 4 (by decide) (by decide)
      unfold fX10_colours tbs
      rw [bd_e q4, bd_e q4, h64, six_ix (v := 2) 2 rfl, r_ib (by omega) (by decide), show μ14.2 y 7 = y + 3 by rw [b14.1]; exact hL.2.2.1, nI_clamp (by omega), b14.2.1 _ (by omega) (by omega), hP.1.1 2 (by decide)]
      by_cases q : fx P f 4 = 0
      · rw [if_pos (show nI (fx P f 4) ≤ 0 from nI_le (b := 0) (by omega) (by decide)), if_pos q]
      · rw [if_neg (show ¬ nI (fx P f 4) ≤ 0 from nI_nle (by omega) (by omega)), if_neg q]
    have l8 := lb_8 (g := tbs P f)
    have L160 : ∀ t1 : Int32, (t1 ||| (nI (fx P f 5) <<< ((6 : Int32) &&& 31))) ||| nI (lb (fx P f 4)) = nI (mkB (fx P f 4) + 64 * fx P f 5) → fX10_sayFrame_L160 fu y (nI f) (nI (fx P f 4)) y t1 μ12 = some μ17 := by
      intro t1 ht
      have q5 : fX10_field y (μ12.1 y 6) (nI f) 5 μ12 = some (nI (fx P f 5)) := fld μ12 b12 5 (by decide) (by decide)
      unfold fX10_sayFrame_L160
      rw [bd_e q5, bd_e (bo_R fu (by omega) h4), ht, bd_e e13, b13.2.2 6 (by decide), h6, show fX10_localAt (nI s) (nI f) 0 = nI (6144 * s + 256 * f) from loc_ix (j := 0), lt'_e, b13.1, hL.2.2.2.2.2.1, bd_e e14', bd_e cols, bd_e (bo_R fu (by omega) (tsz_le (tbs_z hV hf).1)), nI_1, lt'_e]
      unfold le' at L225
      by_cases q : lb (tbs P f) = 0
      · rw [if_pos q] at L225
        rw [if_neg (show ¬ (2 : Int32) ≤ nI (lb (tbs P f) + 1) from nI_ge (b := 2) (by omega) (by decide))]
        exact L225
      · rw [if_neg q] at L225
        rw [if_pos (show (2 : Int32) ≤ nI (lb (tbs P f) + 1) from nI_le (a := 2) (by omega) (by omega))]
        exact L225
    have end4 : ∀ K, fX10_sayFrame_L112 fu (K + 1) y (nI f) (nI 4) μ12 = some μ17 := by
      intro K
      have q4 : fX10_field y (μ12.1 y 6) (nI f) 4 μ12 = some (nI (fx P f 4)) := fld μ12 b12 4 (by decide) (by decide)
      show fX10_sayFrame_B112 (fX10_sayFrame_L112 fu K) fu y (nI f) (nI 4) μ12 = _
      unfold fX10_sayFrame_B112
      rw [if_pos (show (4 : Int32) ≤ nI 4 by decide), bd_e q4]
      have mm := mk_R v.2.1 v.2.2.1.1
      by_cases q : nI (fx P f 4) ≤ 0
      · rw [if_pos q] at mm ⊢; exact L160 0 mm
      · rw [if_neg q] at mm ⊢; exact L160 128 mm
    have st : ∀ (K k : Nat) (ν ν' : Mm), k < 4 → SFr y μ ν → fX10_sayTwo y (nI (fx P f k)) ν = some ν' → fX10_sayFrame_L112 fu (K + 1) y (nI f) (nI k) ν = fX10_sayFrame_L112 fu K y (nI f) (nI (k + 1)) ν' := by
      intro K k ν ν' hk hν he
      show fX10_sayFrame_B112 (fX10_sayFrame_L112 fu K) fu y (nI f) (nI k) ν = _
      unfold fX10_sayFrame_B112
      rw [if_neg (show ¬ (4 : Int32) ≤ nI k from nI_ge (b := 4) hk (by decide)), bd_e (fld ν hν k (by omega) (by omega)), bd_e he, lt'_e, nI_1]
    obtain ⟨K, hK⟩ : ∃ K, fu = K + 5 := ⟨fu - 5, by omega⟩
    have L112 : fX10_sayFrame_L112 fu fu y (nI f) 0 μ8 = some μ17 := by
      have z : fX10_sayFrame_L112 fu fu y (nI f) 0 μ8 = fX10_sayFrame_L112 fu (K + 4 + 1) y (nI f) (nI 0) μ8 := by rw [show K + 4 + 1 = fu by omega]; rfl
      rw [z, st (K + 4) 0 μ8 μ9 (by decide) b8 e9, st (K + 3) 1 μ9 μ10 (by decide) b9 e10, st (K + 2) 2 μ10 μ11 (by decide) b10 e11, st (K + 1) 3 μ11 μ12 (by decide) b11 e12]
      exact end4 K
    have L96 : ∀ t1 : Int32, t1 = (if tr P f = -1 then 0 else tr P f) → fX10_sayFrame_L96 fu y (nI f) y t1 μ5 = some μ17 := by
      intro t1 ht
      unfold fX10_sayFrame_L96
      rw [ht, bd_e e6, bd_e e7, bd_e e8]
      exact L112
    have L67 : ∀ t2 : Int32, ((nI (fx P f 6) <<< ((2 : Int32) &&& 31)) ||| (nI (fx P f 9) <<< ((1 : Int32) &&& 31))) ||| t2 = cbI P f → fX10_sayFrame_L67 fu y (nI f) (tr P f) y ((nI (fx P f 6) <<< ((2 : Int32) &&& 31)) ||| (nI (fx P f 9) <<< ((1 : Int32) &&& 31))) t2 μ3 = some μ17 := by
      intro t2 ht
      have q8 : fX10_field y (μ4.1 y 6) (nI f) 8 μ4 = some (nI (fx P f 8)) := fld μ4 b4 8 (by decide) (by decide)
      unfold fX10_sayFrame_L67
      rw [ht, bd_e e4, bd_e q8, bd_e e5]
      rcases v.2.2.2.1 with t | ⟨k, hk, t⟩
      · rw [t, if_neg (show ¬ (0 : Int32) ≤ -1 by decide)]
        exact L96 0 (by rw [if_pos t])
      · rw [t, if_pos (show (0 : Int32) ≤ nI k from nI_le (a := 0) (by omega) (by omega))]
        exact L96 (nI k) (by rw [if_neg (by rw [t]; exact nI_nm1 (by omega)), t])
    have q6 : fX10_field y (μ3.1 y 6) (nI f) 6 μ3 = some (nI (fx P f 6)) := fld μ3 b3 6 (by decide) (by decide)
    have q9 : fX10_field y (μ3.1 y 6) (nI f) 9 μ3 = some (nI (fx P f 9)) := fld μ3 b3 9 (by decide) (by decide)
    unfold fX10_sayFrame
    rw [bd_e f7, bd_e e1, bd_e e2, bd_e e3, bd_e q6, bd_e q9]
    rcases v.2.2.2.1 with t | ⟨k, hk, t⟩
    · rw [if_neg (show ¬ (0 : Int32) ≤ tr P f by rw [t]; decide)]
      exact L67 0 (by unfold cbI; rw [if_pos t])
    · rw [if_pos (show (0 : Int32) ≤ tr P f by rw [t]; exact nI_le (a := 0) (by omega) (by omega))]
      exact L67 1 (by unfold cbI; rw [if_neg (by rw [t]; exact nI_nm1 (by omega))])
  · unfold eFr
    rw [← eS7]
    exact c17
