/-! an IMAGE: the reference -/
section IR
variable {y s L tn : Nat} {t : Nat → Nat} {μ0 : Mm}
theorem RSsf {a : Nat} {z : Zt3} (ha : a = y + 5) : ∀ (vs : List Int32) (μ : Mm) (k : Nat), (k + vs.length ≤ 240 * s ∨ 240 * s + 240 ≤ k) → RS y s L μ0 μ z → RS y s L μ0 (sf μ a k vs) z := by
  intro vs
  induction vs with
  | nil => intro μ k _ h; exact h
  | cons v vs ih =>
    intro μ k hk h
    show RS y s L μ0 (sf (si μ a k v) a (k + 1) vs) z
    rw [List.length_cons] at hk
    exact ih _ _ (by omega) (h.wi (by omega))
theorem ri_set {μ : Mm} {s' f : Nat} {v0 v1 v2 v3 v4 v5 a6 a7 a8 a9 : Int32} (K : Mm → Option Mm) (l9 : μ.2 y 9 = y + 5) (hs : s' < 2) (hf : f < 24) (h14 : μ.1 y 14 = nI s') (h17 : μ.1 y 17 = a6) (h18 : μ.1 y 18 = a7) (h19 : μ.1 y 19 = a8) (h20 : μ.1 y 20 = a9) :
    (bd (fX10_setField y (μ.1 y 14) (nI f) 0 v0 μ) fun μ4 =>
    bd (fX10_setField y (μ4.1 y 14) (nI f) 1 v1 μ4) fun μ5 =>
    bd (fX10_setField y (μ5.1 y 14) (nI f) 2 v2 μ5) fun μ6 =>
    bd (fX10_setField y (μ6.1 y 14) (nI f) 3 v3 μ6) fun μ7 =>
    bd (fX10_setField y (μ7.1 y 14) (nI f) 4 v4 μ7) fun μ8 =>
    bd (fX10_setField y (μ8.1 y 14) (nI f) 5 v5 μ8) fun μ9 =>
    bd (fX10_setField y (μ9.1 y 14) (nI f) 6 (μ9.1 y 17) μ9) fun μ10 =>
    bd (fX10_setField y (μ10.1 y 14) (nI f) 7 (μ10.1 y 18) μ10) fun μ11 =>
    bd (fX10_setField y (μ11.1 y 14) (nI f) 8 (μ11.1 y 19) μ11) fun μ12 =>
    bd (fX10_setField y (μ12.1 y 14) (nI f) 9 (μ12.1 y 20) μ12) fun μ13 => K μ13) = K (sf μ (y + 5) (240 * s' + 10 * f) [v0, v1, v2, v3, v4, v5, a6, a7, a8, a9]) := by
  have st : ∀ (ν : Mm) (j : Nat) (c v : Int32), ν.2 = μ.2 → c = nI j → j < 10 → fX10_setField y (nI s') (nI f) c v ν = some (si ν (y + 5) (240 * s' + 10 * f + j) v) := fun ν j c v e1 e2 h => setField_R (μ := ν) (by rw [e1]; exact l9) hs hf h e2
  obtain ⟨μ1, x1⟩ : ∃ μ1, μ1 = si μ (y + 5) (240 * s' + 10 * f + 0) v0 := ⟨_, rfl⟩
  obtain ⟨μ2, x2⟩ : ∃ μ2, μ2 = si μ1 (y + 5) (240 * s' + 10 * f + 1) v1 := ⟨_, rfl⟩
  obtain ⟨μ3, x3⟩ : ∃ μ3, μ3 = si μ2 (y + 5) (240 * s' + 10 * f + 2) v2 := ⟨_, rfl⟩
  obtain ⟨μ4, x4⟩ : ∃ μ4, μ4 = si μ3 (y + 5) (240 * s' + 10 * f + 3) v3 := ⟨_, rfl⟩
  obtain ⟨μ5, x5⟩ : ∃ μ5, μ5 = si μ4 (y + 5) (240 * s' + 10 * f + 4) v4 := ⟨_, rfl⟩
  obtain ⟨μ6, x6⟩ : ∃ μ6, μ6 = si μ5 (y + 5) (240 * s' + 10 * f + 5) v5 := ⟨_, rfl⟩
  obtain ⟨μ7, x7⟩ : ∃ μ7, μ7 = si μ6 (y + 5) (240 * s' + 10 * f + 6) a6 := ⟨_, rfl⟩
  obtain ⟨μ8, x8⟩ : ∃ μ8, μ8 = si μ7 (y + 5) (240 * s' + 10 * f + 7) a7 := ⟨_, rfl⟩
  obtain ⟨μ9, x9⟩ : ∃ μ9, μ9 = si μ8 (y + 5) (240 * s' + 10 * f + 8) a8 := ⟨_, rfl⟩
  have z1 : μ1.2 = μ.2 ∧ μ1.1 y = μ.1 y := by rw [x1]; exact ⟨rfl, si_b (by omega)⟩
  have z2 : μ2.2 = μ.2 ∧ μ2.1 y = μ.1 y := by rw [x2]; exact ⟨z1.1, by rw [si_b (by omega)]; exact z1.2⟩
  have z3 : μ3.2 = μ.2 ∧ μ3.1 y = μ.1 y := by rw [x3]; exact ⟨z2.1, by rw [si_b (by omega)]; exact z2.2⟩
  have z4 : μ4.2 = μ.2 ∧ μ4.1 y = μ.1 y := by rw [x4]; exact ⟨z3.1, by rw [si_b (by omega)]; exact z3.2⟩
  have z5 : μ5.2 = μ.2 ∧ μ5.1 y = μ.1 y := by rw [x5]; exact ⟨z4.1, by rw [si_b (by omega)]; exact z4.2⟩
  have z6 : μ6.2 = μ.2 ∧ μ6.1 y = μ.1 y := by rw [x6]; exact ⟨z5.1, by rw [si_b (by omega)]; exact z5.2⟩
  have z7 : μ7.2 = μ.2 ∧ μ7.1 y = μ.1 y := by rw [x7]; exact ⟨z6.1, by rw [si_b (by omega)]; exact z6.2⟩
  have z8 : μ8.2 = μ.2 ∧ μ8.1 y = μ.1 y := by rw [x8]; exact ⟨z7.1, by rw [si_b (by omega)]; exact z7.2⟩
  have z9 : μ9.2 = μ.2 ∧ μ9.1 y = μ.1 y := by rw [x9]; exact ⟨z8.1, by rw [si_b (by omega)]; exact z8.2⟩
  have en : sf μ (y + 5) (240 * s' + 10 * f) [v0, v1, v2, v3, v4, v5, a6, a7, a8, a9] = si μ9 (y + 5) (240 * s' + 10 * f + 9) a9 := by rw [x9, x8, x7, x6, x5, x4, x3, x2, x1]; rfl
  rw [h14, bd_e (st μ 0 0 v0 rfl rfl (by decide)), ← x1, z1.2, h14, bd_e (st μ1 1 1 v1 z1.1 rfl (by decide)), ← x2, z2.2, h14, bd_e (st μ2 2 2 v2 z2.1 rfl (by decide)), ← x3, z3.2, h14, bd_e (st μ3 3 3 v3 z3.1 rfl (by decide)), ← x4, z4.2, h14, bd_e (st μ4 4 4 v4 z4.1 rfl (by decide)), ← x5, z5.2, h14, bd_e (st μ5 5 5 v5 z5.1 rfl (by decide)), ← x6, z6.2, h14, h17, bd_e (st μ6 6 6 a6 z6.1 rfl (by decide)), ← x7, z7.2, h14, h18, bd_e (st μ7 7 7 a7 z7.1 rfl (by decide)), ← x8, z8.2, h14, h19, bd_e (st μ8 8 8 a8 z8.1 rfl (by decide)), ← x9, z9.2, h14, h20, bd_e (st μ9 9 9 a9 z9.1 rfl (by decide)), en]
/-- up to the mark -/
theorem ri1_R {μ : Mm} {z : Zt3} {P : Pic} {pl : Int32} (hB : RBs y s t L tn μ0) (fu : Nat) (h : RS y s L μ0 μ z) (hP : PR μ y (1 - s) P) (hV : VP P) : ∃ l tp w h m z4 μ1, fX10_readImage fu y pl μ = fX10_readImage_L169 fu y (nI (hd P 5)) (nI l) (nI tp) (nI w) (nI h) (nI m) (nI (mkS m)) μ1 ∧ m = (zB t L (iA5 pl P l tp w h z4)).1 ∧ m < 256 ∧ (∀ pd, zIm t L pl P pd z = zK t L pl P pd l tp w h z4) ∧ RS y s L μ0 μ1 (iA7 pl P (mkS m) (zB t L (iA5 pl P l tp w h z4)).2) ∧ RFr y μ μ1 := by
  have hs := hB.2.1.1
  have hc := hV.2.2.2.2.1
  obtain ⟨μ1, e1, c1, f1⟩ := tw_R hB h
  obtain ⟨μ2, e2, c2, f2⟩ := tw_R hB c1
  obtain ⟨μ3, e3, c3, f3⟩ := tw_R hB c2
  obtain ⟨μ4, e4, c4, f4⟩ := tw_R hB c3
  have b1 : (zTw t L z).1 < 65536 := zTw_b hB.ht
  have b2 : (zTw t L (zTw t L z).2).1 < 65536 := zTw_b hB.ht
  have b3 : (zTw t L (zTw t L (zTw t L z).2).2).1 < 65536 := zTw_b hB.ht
  have b4 : (zTw t L (zTw t L (zTw t L (zTw t L z).2).2).2).1 < 65536 := zTw_b hB.ht
  have em : ∀ pd, zIm t L pl P pd z = zK t L pl P pd (zTw t L z).1 (zTw t L (zTw t L z).2).1 (zTw t L (zTw t L (zTw t L z).2).2).1 (zTw t L (zTw t L (zTw t L (zTw t L z).2).2).2).1 (zTw t L (zTw t L (zTw t L (zTw t L z).2).2).2).2 := fun pd => by unfold zIm; rfl
  generalize (zTw t L (zTw t L (zTw t L (zTw t L z).2).2).2).2 = z4 at *
  generalize (zTw t L (zTw t L (zTw t L (zTw t L z).2).2).2).1 = hh at *
  generalize (zTw t L (zTw t L (zTw t L z).2).2).1 = w at *
  generalize (zTw t L (zTw t L z).2).1 = tp at *
  generalize (zTw t L z).1 = l at *
  have f04 : RFr y μ μ4 := ((f1.tr f2).tr f3).tr f4
  have l7 : ∀ (ν : Mm) (z' : Zt3), RS y s L μ0 ν z' → ν.2 y 7 = y + 3 := fun ν z' hν => by rw [hν.1.1]; exact hB.1.2.2.1
  have hk4 : ∀ k, k < 6 → μ4.1 (y + 3) (6 * (1 - s) + k) = nI (hd P k) := fun k hk => by rw [f04.2.1 _ (by omega)]; exact hP.1.1 k hk
  have h0 : μ4.1 (y + 3) (6 * (1 - s)) = nI (hd P 0) := hk4 0 (by decide)
  have W64 := hV.1.2.1
  have H64 := hV.1.2.2.2
  obtain ⟨μ5, e5, c5, f5⟩ : ∃ μ5, (if (24 : Int32) ≤ nI (hd P 5) then
    fX10_readImage_L99 fu y pl (nI (hd P 5)) (nI l) (nI tp) (nI w) (nI hh) μ4
  else
    if nI w ≤ 0 then
      fX10_readImage_L99 fu y pl (nI (hd P 5)) (nI l) (nI tp) (nI w) (nI hh) μ4
    else
      if nI hh ≤ 0 then
        fX10_readImage_L99 fu y pl (nI (hd P 5)) (nI l) (nI tp) (nI w) (nI hh) μ4
      else
        gd (ib (6 * (μ4.1 y 14)) 12) <|
        if (μ4.1 (μ4.2 y 7) (6 * (μ4.1 y 14)).toNatClampNeg) < (nI l + nI w) then
          fX10_readImage_L99 fu y pl (nI (hd P 5)) (nI l) (nI tp) (nI w) (nI hh) μ4
        else
          gd (ib ((6 * (μ4.1 y 14)) + 1) 12) <|
          if (μ4.1 (μ4.2 y 7) ((6 * (μ4.1 y 14)) + 1).toNatClampNeg) < (nI tp + nI hh) then
            fX10_readImage_L99 fu y pl (nI (hd P 5)) (nI l) (nI tp) (nI w) (nI hh) μ4
          else
            fX10_readImage_L100 fu y pl (nI (hd P 5)) (nI l) (nI tp) (nI w) (nI hh) 1 μ4) = fX10_readImage_L114 fu y pl (nI (hd P 5)) (nI l) (nI tp) (nI w) (nI hh) μ5 ∧ RS y s L μ0 μ5 (iA5 pl P l tp w hh z4) ∧ RFr y μ4 μ5 := by
    obtain ⟨g1, g2⟩ := wr_R (k := 6) (kk := 6) (v := pl) c4 rfl (by decide)
    have refu : fX10_readImage_L99 fu y pl (nI (hd P 5)) (nI l) (nI tp) (nI w) (nI hh) μ4 = fX10_readImage_L114 fu y pl (nI (hd P 5)) (nI l) (nI tp) (nI w) (nI hh) (fX10_wrong y 6 pl μ4) := rfl
    have okk : fX10_readImage_L100 fu y pl (nI (hd P 5)) (nI l) (nI tp) (nI w) (nI hh) 1 μ4 = fX10_readImage_L114 fu y pl (nI (hd P 5)) (nI l) (nI tp) (nI w) (nI hh) μ4 := rfl
    rw [refu, okk, c4.into hB, show (6 : Int32) * nI (1 - s) = nI (6 * (1 - s)) from pk_mul 6 (1 - s), nI_1, r_ib (by omega) (by decide), r_ib (by omega) (by decide), l7 _ _ c4, nI_clamp (by omega), nI_clamp (by omega), h0, hk4 1 (by decide), nI_add, nI_add]
    unfold iA5
    by_cases q1 : hd P 5 < 24
    · rw [if_neg (show ¬ (24 : Int32) ≤ nI (hd P 5) from nI_ge (b := 24) q1 (by decide))]
      by_cases q2 : 1 ≤ w
      · rw [if_neg (show ¬ nI w ≤ 0 from nI_nle (by omega) (by omega))]
        by_cases q3 : 1 ≤ hh
        · rw [if_neg (show ¬ nI hh ≤ 0 from nI_nle (by omega) (by omega))]
          by_cases q4 : l + w ≤ hd P 0
          · rw [if_neg (nI_nlt q4 (by omega))]
            by_cases q5 : tp + hh ≤ hd P 1
            · rw [if_neg (nI_nlt q5 (by omega)), if_pos ⟨q1, q2, q3, q4, q5⟩]
              exact ⟨μ4, rfl, c4, RFr.rf⟩
            · rw [if_pos (nI_lt (by omega) (by omega)), if_neg (fun q => q5 q.2.2.2.2)]
              exact ⟨_, rfl, g1, g2⟩
          · rw [if_pos (nI_lt (by omega) (by omega)), if_neg (fun q => q4 q.2.2.2.1)]
            exact ⟨_, rfl, g1, g2⟩
        · rw [if_pos (show nI hh ≤ 0 from nI_le (b := 0) (by omega) (by decide)), if_neg (fun q => q3 q.2.2.1)]
          exact ⟨_, rfl, g1, g2⟩
      · rw [if_pos (show nI w ≤ 0 from nI_le (b := 0) (by omega) (by decide)), if_neg (fun q => q2 q.2.1)]
        exact ⟨_, rfl, g1, g2⟩
    · rw [if_pos (show (24 : Int32) ≤ nI (hd P 5) from nI_le (a := 24) (by omega) (by omega)), if_neg (fun q => q1 q.1)]
      exact ⟨_, rfl, g1, g2⟩
  obtain ⟨μ6, e6, c6, f6⟩ := on_R hB c5
  obtain ⟨m, em2⟩ : ∃ m, m = (zB t L (iA5 pl P l tp w hh z4)).1 := ⟨_, rfl⟩
  have hm : m < 256 := by rw [em2]; exact zB_b hB.ht
  rw [← em2] at e6
  obtain ⟨m1, m2, m3, m4⟩ := mk_dec m hm
  have f06 : RFr y μ μ6 := (f04.tr f5).tr f6
  have hk6 : μ6.1 (y + 3) (6 * (1 - s) + 2) = nI (hd P 2) := by rw [f06.2.1 _ (by omega)]; exact hP.1.1 2 (by decide)
  obtain ⟨μ7, e7, c7, f7⟩ : ∃ μ7, fX10_readImage_L138 fu y pl (nI (hd P 5)) (nI l) (nI tp) (nI w) (nI hh) (nI m) (nI (mkS m)) μ6 = fX10_readImage_L169 fu y (nI (hd P 5)) (nI l) (nI tp) (nI w) (nI hh) (nI m) (nI (mkS m)) μ7 ∧ RS y s L μ0 μ7 (iA7 pl P (mkS m) (zB t L (iA5 pl P l tp w hh z4)).2) ∧ RFr y μ6 μ7 := by
    obtain ⟨g1, g2⟩ := wr_R (k := 7) (kk := 7) (v := pl) c6 rfl (by decide)
    have hG := tsz_le hV.2.1
    unfold iA7 fX10_readImage_L138
    by_cases q1 : mkS m = 0
    · rw [if_pos (show nI (mkS m) = 0 by rw [q1]; rfl), c6.into hB, six_ix (v := 2) 2 rfl, r_ib (by omega) (by decide), l7 _ _ c6, nI_clamp (by omega), hk6, lt'_e]
      by_cases q2 : hd P 2 = 0
      · rw [if_pos (show nI (hd P 2) = 0 by rw [q2]; rfl), if_pos ⟨q1, q2⟩]
        exact ⟨_, rfl, g1, g2⟩
      · rw [if_neg (nI_ne0 (by omega) (by omega)), if_neg (fun q => q2 q.2)]
        exact ⟨μ6, rfl, c6, RFr.rf⟩
    · rw [if_neg (nI_ne0 (by omega) (by omega)), if_neg (fun q => q1 q.1)]
      exact ⟨μ6, rfl, c6, RFr.rf⟩
  refine ⟨l, tp, w, hh, m, z4, μ7, ?_, em2, hm, em, c7, f06.tr f7⟩
  unfold fX10_readImage
  have h5 : μ.1 (y + 3) (6 * (1 - s) + 5) = nI (hd P 5) := hP.1.1 5 (by decide)
  rw [h.into hB, six_ix (v := 5) 5 rfl, r_ib (by omega) (by decide), l7 _ _ h, nI_clamp (by omega), h5, lt'_e, bd_e e1, lt'_e]
  dsimp only
  rw [bd_e e2, lt'_e]
  dsimp only
  rw [bd_e e3, lt'_e]
  dsimp only
  rw [bd_e e4, lt'_e]
  dsimp only
  rw [e5]
  unfold fX10_readImage_L114
  rw [bd_e e6, lt'_e]
  dsimp only
  by_cases q : m < 128
  · have : mkS m = 0 := by unfold mkS; rw [if_pos q]
    rw [if_pos (show nI m ≤ 127 from nI_le (b := 127) (by omega) (by decide)), ← e7, this]
    rfl
  · rw [if_neg (show ¬ nI m ≤ 127 from nI_ge (a := 127) (by omega) (by omega)), m2.resolve_left q]
    exact e7
/-- the least length, the rows, the codes -/
theorem ri3_R {μ : Mm} {z : Zt3} {f w h g i lim : Nat} (hB : RBs y s t L tn μ0) (fu : Nat) (hfu : 100000 ≤ fu) (hS : RS y s L μ0 μ z) (hf : f < 24) (hw : 1 ≤ w ∧ w ≤ 64) (hh : h ≤ 64) (hi : i ≤ 1) (hF : μ.1 (y + 5) (240 * (1 - s) + 10 * f + 2) = nI w ∧ μ.1 (y + 5) (240 * (1 - s) + 10 * f + 3) = nI h ∧ μ.1 (y + 5) (240 * (1 - s) + 10 * f + 4) = nI g ∧ μ.1 (y + 5) (240 * (1 - s) + 10 * f + 5) = nI i) {G : Nat} (hG : μ.1 (y + 3) (6 * (1 - s) + 2) = nI G) (hlim : lim = if g = 0 then G else g) (hg2 : g ≤ 256 ∧ G ≤ 256) : ∃ μ', (lt' (μ.1 y 12) fun x15 => bd (fX10_one y μ) fun q16 => lt' q16.1 fun x17 => if x17 < 2 then fX10_readImage_L361 fu y (nI f) x15 x17 q16.2 else if x17 ≤ 8 then fX10_readImage_L369 fu y (nI f) x15 x17 q16.2 else fX10_readImage_L361 fu y (nI f) x15 x17 q16.2) = some μ' ∧ RS y s L μ0 μ' (iE t L (w * h) lim z) ∧ (∀ k, (14 ≤ k ∧ k ≤ 20) → μ'.1 y k = μ.1 y k) ∧ ((iE t L (w * h) lim z).2.1 = 0 → ∃ r, iD t L (w * h) lim z = some r ∧ (∀ k, k < w * h → μ'.1 (y + 7) (98304 * (1 - s) + 4096 * f + plM w h i k) = nI (r k)) ∧ (∀ k, k < 98304 * (1 - s) + 4096 * f ∨ 98304 * (1 - s) + 4096 * f + 4096 ≤ k → μ'.1 (y + 7) k = μ.1 (y + 7) k) ∧ (∀ k, k ≠ 6 * (1 - s) + 5 → μ'.1 (y + 3) k = μ.1 (y + 3) k) ∧ μ'.1 (y + 3) (6 * (1 - s) + 5) = nI (f + 1) ∧ μ'.1 (y + 4) = μ.1 (y + 4) ∧ μ'.1 (y + 5) = μ.1 (y + 5) ∧ μ'.1 (y + 6) = μ.1 (y + 6)) := by
  have hs := hB.2.1.1
  have bwh := Nat.mul_le_mul hw.2 hh
  have hb8 : (zB t L z).1 < 256 := zB_b hB.ht
  obtain ⟨μ1, e1, c1, f1⟩ := on_R hB hS
  rw [lt'_e, bd_e e1, lt'_e, hS.2.1.1]
  dsimp only
  obtain ⟨μ2, e2, c2, f2⟩ : ∃ μ2, (if nI (zB t L z).1 < 2 then fX10_readImage_L361 fu y (nI f) (nI z.1) (nI (zB t L z).1) μ1 else if nI (zB t L z).1 ≤ 8 then fX10_readImage_L369 fu y (nI f) (nI z.1) (nI (zB t L z).1) μ1 else fX10_readImage_L361 fu y (nI f) (nI z.1) (nI (zB t L z).1) μ1) = fX10_readImage_L369 fu y (nI f) (nI z.1) (nI (zB t L z).1) μ2 ∧ RS y s L μ0 μ2 (iB t L z) ∧ RFr y μ1 μ2 := by
    obtain ⟨g1, g2⟩ := wr_R (k := 8) (kk := 8) (v := nI z.1) c1 rfl (by decide)
    have refu : fX10_readImage_L361 fu y (nI f) (nI z.1) (nI (zB t L z).1) μ1 = fX10_readImage_L369 fu y (nI f) (nI z.1) (nI (zB t L z).1) (fX10_wrong y 8 (nI z.1) μ1) := rfl
    rw [refu]
    unfold iB
    by_cases q1 : 2 ≤ (zB t L z).1
    · rw [if_neg (show ¬ nI (zB t L z).1 < 2 from nI_nlt (b := 2) q1 (by omega))]
      by_cases q2 : (zB t L z).1 ≤ 8
      · rw [if_pos (show nI (zB t L z).1 ≤ 8 from nI_le (b := 8) q2 (by decide)), if_pos ⟨q1, q2⟩]
        exact ⟨μ1, rfl, c1, RFr.rf⟩
      · rw [if_neg (show ¬ nI (zB t L z).1 ≤ 8 from nI_ge (a := 8) (by omega) (by omega)), if_neg (fun q => q2 q.2)]
        exact ⟨_, rfl, g1, g2⟩
    · rw [if_pos (show nI (zB t L z).1 < 2 from nI_lt (b := 2) (by omega) (by decide)), if_neg (fun q => q1 q.1)]
      exact ⟨_, rfl, g1, g2⟩
  rw [e2]
  have f02 : RFr y μ μ2 := f1.tr f2
  unfold fX10_readImage_L369
  rw [good_R c2, lt'_e]
  by_cases qB : (iB t L z).2.1 = 0
  · rw [if_pos qB, if_neg (show ¬ (1 : Int32) = 0 by decide)]
    obtain ⟨v1, v2, v3⟩ := iB_l qB
    obtain ⟨μ3, e3, c3, f3, g3⟩ := ga_R hB fu (by omega) c2 qB
    rw [bd_e e3, good_R c3, lt'_e]
    unfold iE
    by_cases q : (zG t L (iB t L z)).2.1 = 0
    · rw [if_pos q, if_neg (show ¬ (1 : Int32) = 0 by decide), if_pos q]
      obtain ⟨q1, qq, eq⟩ := zG_l q
      obtain ⟨d1, d2⟩ := g3 qq eq
      have r3 : μ3.2 = μ0.2 := c3.1.1
      have k3 : ∀ b, b ≠ y → b ≠ y + 8 → μ3.1 b = μ.1 b := fun b h1 h2 => by rw [f3.2.1 b h1 h2, f02.2.1 b h1]
      have hD : RDt y μ3 qq.2.1 qq.2.2 := by
        refine ⟨by rw [r3]; exact hB.1.2.2.2.2.2.2.2.1, d1, ?_, d2⟩
        have b := gM_b hB.ht _ _ _ _ _ eq (Nat.zero_le _) (fun j hj => by omega)
        have := hB.hL
        omega
      have hlim2 : lim ≤ 256 := by rw [hlim]; split <;> omega
      have hco : fX10_colours y (nI (1 - s)) (nI f) μ3 = some (nI lim) := by
        have l9 : μ3.2 y 9 = y + 5 := by rw [r3]; exact hB.1.2.2.2.2.1
        have f4 : fX10_field y (nI (1 - s)) (nI f) 4 μ3 = some (nI g) := by
          have := field_at (μ := μ3) (f := f) (j := 4) l9 (show 1 - s < 2 by omega) hf (by decide)
          rw [k3 (y + 5) (by omega) (by omega), hF.2.2.1] at this
          exact this
        unfold fX10_colours
        rw [bd_e f4, bd_e f4, six_ix (v := 2) 2 rfl, r_ib (by omega) (by decide), show μ3.2 y 7 = y + 3 by rw [r3]; exact hB.1.2.2.1, nI_clamp (by omega), k3 (y + 3) (by omega) (by omega), hG, hlim]
        by_cases w1 : g = 0
        · rw [if_pos (show nI g ≤ 0 from nI_le (b := 0) (by omega) (by decide)), if_pos w1]
        · rw [if_neg (show ¬ nI g ≤ 0 from nI_nle (by omega) (by omega)), if_neg w1]
      have hDRi : DRi y (1 - s) f w h i μ3 := by
        refine ⟨⟨by rw [r3]; exact hB.1.2.2.2.2.1, by rw [r3]; exact hB.1.2.2.2.2.2.2.1, c3.into hB⟩, ?_, ?_, ?_⟩
        · rw [k3 (y + 5) (by omega) (by omega)]; exact hF.1
        · rw [k3 (y + 5) (by omega) (by omega)]; exact hF.2.1
        · rw [k3 (y + 5) (by omega) (by omega)]; exact hF.2.2.2
      have hRT : RTl y μ3 := by
        unfold RTl
        rw [r3]
        exact ⟨hB.1.2.2.2.2.2.2.2.2.1, hB.1.2.2.2.2.2.2.2.2.2.1, hB.1.2.2.2.2.2.2.2.2.2.2.1, hB.1.2.2.2.2.2.2.2.2.2.2.2.1⟩
      obtain ⟨b, μ4, e4, d4, r0, r1⟩ := dec_R (e := (zB t L z).1) (lim := lim) fu hfu v1 hlim2 (show 1 - s < 2 by omega) hf hw hh hi hRT hD hDRi hco
      rw [bd_e e4]
      dsimp only
      have c4 : RS y s L μ0 μ4 (zG t L (iB t L z)) := by
        obtain ⟨⟨h1, h2, h3, h4, h5, h6⟩, h7, h8⟩ := c3
        refine ⟨⟨d4.1.trans h1, fun b hb => by rw [d4.2.1 b (by omega) (by omega) (by omega)]; exact h2 b hb, by rw [d4.2.1 _ (by omega) (by omega) (by omega)]; exact h3, by rw [d4.2.1 _ (by omega) (by omega) (by omega)]; exact h4, ?_, ?_⟩, ?_, h8⟩
        · rw [d4.2.2.2 2 (by omega), d4.2.2.2 3 (by omega), d4.2.2.2 6 (by omega), d4.2.2.2 13 (by omega), d4.2.2.2 14 (by omega)]; exact h5
        · rw [d4.2.1 (y + 3) (by omega) (by omega) (by omega), d4.2.1 (y + 4) (by omega) (by omega) (by omega), d4.2.1 (y + 5) (by omega) (by omega) (by omega), d4.2.1 (y + 6) (by omega) (by omega) (by omega)]
          refine ⟨h6.1, h6.2.1, h6.2.2.1, h6.2.2.2.1, fun k hk => ?_⟩
          rw [d4.2.2.1 _ (by omega)]
          exact h6.2.2.2.2 k hk
        · rw [d4.2.2.2 12 (by omega), d4.2.2.2 4 (by omega), d4.2.2.2 5 (by omega)]; exact h7
      have eD : iD t L (w * h) lim z = dA qq.2.2 qq.2.1 (zB t L z).1 (w * h) lim := by unfold iD; rw [eq]; rfl
      have ky : ∀ k, (14 ≤ k ∧ k ≤ 20) → μ4.1 y k = μ.1 y k := fun k hk => by
        rw [d4.2.2.2 k (by omega), f3.2.2 k (by omega) (by omega) (by omega) (by omega), f02.2.2 k (by omega) (by omega) (by omega)]
      rw [eD]
      cases hr : dA qq.2.2 qq.2.1 (zB t L z).1 (w * h) lim with
      | none =>
        obtain ⟨g1, g2⟩ := wr_R (k := 9) (kk := 9) (v := nI z.1) c4 rfl (by decide)
        rw [if_pos (r0 hr), if_neg (show ¬ (none : Option Nf).isSome = true by decide), lt'_e]
        unfold fX10_readImage_L406
        rw [good_R g1, lt'_e, if_neg (zW_l (by decide)), if_pos rfl]
        refine ⟨_, rfl, g1, fun k hk => ?_, fun hl => absurd hl (zW_l (by decide))⟩
        rw [g2.2.2 k (by omega) (by omega) (by omega)]
        exact ky k hk
      | some r =>
        obtain ⟨b1, o1⟩ := r1 r hr
        rw [if_neg (show ¬ b = 0 by rw [b1]; decide), if_pos (show (some r).isSome = true from rfl)]
        unfold fX10_readImage_L406
        rw [good_R c4, if_pos q, lt'_e, if_neg (show ¬ (1 : Int32) = 0 by decide), c4.into hB, six_ix (v := 5) 5 rfl, r_ib (by omega) (by decide), show μ4.2 y 7 = y + 3 by rw [c4.1.1]; exact hB.1.2.2.1, nI_clamp (by omega), nI_1, lt'_e]
        refine ⟨_, rfl, c4.wi (by omega), fun k hk => ?_, fun _ => ⟨r, rfl, fun k hk => ?_, fun k hk => ?_, fun k hk => ?_, si_k, ?_, ?_, ?_⟩⟩
        · rw [si_b (by omega)]; exact ky k hk
        · rw [si_b (by omega)]; exact o1 k hk
        · rw [si_b (by omega), d4.2.2.1 k hk, k3 _ (by omega) (by omega)]
        · rw [si_j hk, d4.2.1 _ (by omega) (by omega) (by omega), k3 _ (by omega) (by omega)]
        · rw [si_b (by omega), d4.2.1 _ (by omega) (by omega) (by omega), k3 _ (by omega) (by omega)]
        · rw [si_b (by omega), d4.2.1 _ (by omega) (by omega) (by omega), k3 _ (by omega) (by omega)]
        · rw [si_b (by omega), d4.2.1 _ (by omega) (by omega) (by omega), k3 _ (by omega) (by omega)]
    · rw [if_neg q, if_pos rfl, if_neg q]
      unfold fX10_readImage_L406
      rw [good_R c3, lt'_e, if_neg q, if_pos rfl]
      refine ⟨μ3, rfl, c3, fun k hk => ?_, fun hl => absurd hl q⟩
      rw [f3.2.2 k (by omega) (by omega) (by omega) (by omega), f02.2.2 k (by omega) (by omega) (by omega)]
  · rw [if_neg qB, if_pos rfl]
    have e : iE t L (w * h) lim z = iB t L z := by
      unfold iE
      rw [zG_d qB, if_neg qB]
    rw [e]
    exact ⟨μ2, rfl, c2, fun k hk => f02.2.2 k (by omega) (by omega) (by omega), fun hl => absurd hl qB⟩
theorem im_R {μ : Mm} {z : Zt3} {P : Pic} {pd : Pd} {pl : Int32} (hB : RBs y s t L tn μ0) (fu : Nat) (hfu : 100000 ≤ fu) (hS : RS y s L μ0 μ z) (hp : PDR y μ pd) (hpo : PdO pd) (hP : PR μ y (1 - s) P) (hV : VP P) : ∃ μ', fX10_readImage fu y pl μ = some μ' ∧ RS y s L μ0 μ' (zIm t L pl P pd z).1 ∧ μ'.1 y 15 = μ.1 y 15 ∧ ((zIm t L pl P pd z).1.2.1 = 0 → PR μ' y (1 - s) (zIm t L pl P pd z).2 ∧ PDR y μ' pd0) := by
  have hs := hB.2.1.1
  obtain ⟨l, tp, w, h, m, z4, μ1, e1, em, hm, eI, c1, f1⟩ := ri1_R (pl := pl) hB fu hS hP hV
  rw [eI pd]
  unfold zK
  rw [← em, e1]
  obtain ⟨m1, m2, m3, m4⟩ := mk_dec m hm
  obtain ⟨b61, b62⟩ := bit6 m hm
  obtain ⟨z7, e7⟩ : ∃ z7, z7 = iA7 pl P (mkS m) (zB t L (iA5 pl P l tp w h z4)).2 := ⟨_, rfl⟩
  rw [← e7] at c1 ⊢
  have pd1 : PDR y μ1 pd := hp.r f1
  unfold zJ fX10_readImage_L169
  rw [good_R c1, lt'_e]
  by_cases q : z7.2.1 = 0
  · have q' : (iA7 pl P (mkS (zB t L (iA5 pl P l tp w h z4)).1) (zB t L (iA5 pl P l tp w h z4)).2).2.1 = 0 := by rw [← em, ← e7]; exact q
    obtain ⟨c5, hw1, hh1, hlw, hth, hgt⟩ := zK_l q'
    rw [← em] at hgt
    have hw : 1 ≤ w ∧ w ≤ 64 := ⟨hw1, by have := hV.1.2.1; omega⟩
    have hh : h ≤ 64 := by have := hV.1.2.2.2; omega
    have bwh := Nat.mul_le_mul hw.2 hh
    rw [if_pos q, if_neg (show ¬ (1 : Int32) = 0 by decide), if_pos q, c1.into hB, show fX10_localAt (nI (1 - s)) (nI (hd P 5)) 0 = nI (6144 * (1 - s) + 256 * hd P 5) from loc_ix (j := 0), lt'_e, show μ1.2 y 10 = y + 6 by rw [c1.1.1]; exact hB.1.2.2.2.2.2.1]
    obtain ⟨μ2, e2, c2, f2, k2, t2⟩ := rt_R hB fu 12288 (A := y + 6) (F := 6144 * (1 - s) + 256 * hd P 5) (g := mkS m) (by omega) (by omega) (by decide) (fun μ z k v hk hh => hh.wi (by omega)) fu 0 μ1 z7 (by omega) (by omega) c1
    have e2' : fX10_readTable fu 12288 y (y + 6) (nI (6144 * (1 - s) + 256 * hd P 5)) (nI (mkS m)) μ1 = some μ2 := e2
    rw [Nat.sub_zero] at c2 t2
    rw [bd_e e2', b62]
    have y2 : ∀ k, 14 ≤ k → k ≤ 20 → μ2.1 y k = μ1.1 y k := fun k h1 h2 => f2.2.2 k (by omega) (by omega) (by omega)
    rw [ri_set (a6 := nI pd.2.1) (a7 := pd.2.2.1) (a8 := nI pd.2.2.2.1) (a9 := nI pd.2.2.2.2) (fun ν => lt' (fX10_forget y ν) fun μ14 => lt' (μ14.1 y 12) fun x15 => bd (fX10_one y μ14) fun q16 => lt' q16.1 fun x17 => if x17 < 2 then fX10_readImage_L361 fu y (nI (hd P 5)) x15 x17 q16.2 else if x17 ≤ 8 then fX10_readImage_L369 fu y (nI (hd P 5)) x15 x17 q16.2 else fX10_readImage_L361 fu y (nI (hd P 5)) x15 x17 q16.2) (by rw [c2.1.1]; exact hB.1.2.2.2.2.1) (show 1 - s < 2 by omega) c5 (c2.into hB) (by rw [y2 17 (by decide) (by decide)]; exact pd1.2.1) (by rw [y2 18 (by decide) (by decide)]; exact pd1.2.2.1) (by rw [y2 19 (by decide) (by decide)]; exact pd1.2.2.2.1) (by rw [y2 20 (by decide) (by decide)]; exact pd1.2.2.2.2)]
    obtain ⟨vs, evs⟩ : ∃ vs : List Int32, vs = [nI l, nI tp, nI w, nI h, nI (mkS m), nI (m / 64 % 2), nI pd.2.1, pd.2.2.1, nI pd.2.2.2.1, nI pd.2.2.2.2] := ⟨_, rfl⟩
    rw [← evs]
    have hlen : vs.length = 10 := by rw [evs]; rfl
    obtain ⟨μ3, x3⟩ : ∃ μ3, μ3 = sf μ2 (y + 5) (240 * (1 - s) + 10 * hd P 5) vs := ⟨_, rfl⟩
    rw [← x3]
    have c3 : RS y s L μ0 μ3 (zS t L (3 * mkS m) z7) := by rw [x3]; exact RSsf rfl vs μ2 _ (by omega) c2
    have a3 : Ag μ2 μ3 (y + 5) (y + 6) := by rw [x3]; exact sf_ag (by omega) (by omega) vs μ2 _
    have at3 : ∀ j x, vs[j]? = some x → μ3.1 (y + 5) (240 * (1 - s) + 10 * hd P 5 + j) = x := fun j x hx => by rw [x3]; exact sf_at vs μ2 _ j x hx
    obtain ⟨c4, f4, pd4⟩ := fg_R c3
    obtain ⟨μ4, x4⟩ : ∃ μ4, μ4 = fX10_forget y μ3 := ⟨_, rfl⟩
    rw [← x4] at c4 f4 pd4
    have F5 : μ4.1 (y + 5) = μ3.1 (y + 5) := f4.2.1 _ (by omega)
    have a_ : ∀ j x, vs[j]? = some x → μ4.1 (y + 5) (240 * (1 - s) + 10 * hd P 5 + j) = x := fun j x hx => by rw [F5]; exact at3 j x hx
    have lo3 : μ4.1 (y + 3) = μ.1 (y + 3) := by rw [f4.2.1 _ (by omega), a3.2 _ (by omega), f2.2.1 _ (by omega) (by omega), f1.2.1 _ (by omega)]
    have hG : μ4.1 (y + 3) (6 * (1 - s) + 2) = nI (hd P 2) := by rw [lo3]; exact hP.1.1 2 (by decide)
    obtain ⟨μ5, e5, c6, y5, g5⟩ := ri3_R (f := hd P 5) (w := w) (h := h) (g := mkS m) (i := m / 64 % 2) (G := hd P 2) (lim := tbl P (mkS m)) hB fu hfu c4 c5 hw hh (by omega) ⟨a_ 2 _ (by rw [evs]; rfl), a_ 3 _ (by rw [evs]; rfl), a_ 4 _ (by rw [evs]; rfl), a_ 5 _ (by rw [evs]; rfl)⟩ hG rfl ⟨m3, tsz_le hV.2.1⟩
    refine ⟨μ5, ?_, c6, ?_, fun hl => ?_⟩
    · show (lt' (fX10_forget y μ3) fun μ14 => _) = _
      rw [lt'_e, ← x4]
      exact e5
    · rw [y5 15 (by omega), f4.2.2 15 (by decide) (by decide) (by decide) (by decide), a3.2 y (by omega), y2 15 (by decide) (by decide), f1.2.2 15 (by decide) (by decide) (by decide)]
    · obtain ⟨r, hr, hpl, k7, k3, k3', k4, k5, k6⟩ := g5 hl
      have z8 : (zS t L (3 * mkS m) z7).2.1 = 0 := (iE_l hl).1
      rw [hr]
      have F6 : μ5.1 (y + 6) = μ2.1 (y + 6) := by rw [k6, f4.2.1 _ (by omega), a3.2 _ (by omega)]
      refine ⟨pGf_R (μ := μ) hP c5 (by omega) m3 (fun f hf => ?_) (fun k hk => ?_) k3' ?_ (fun k hk => ?_) ?_ (fun k hk => ?_) (fun k hk => ?_) (fun k hk => ?_) (fun k hk => ?_), ?_⟩
      · have v := hV.2.2.2.2.2 f hf
        have v1 := v.1
        have v2 := hV.1
        have := Nat.mul_le_mul (show fx P f 2 ≤ 64 by omega) (show fx P f 3 ≤ 64 by omega)
        exact ⟨tsz_le v.2.1, this⟩
      · rw [k3 k hk, lo3]
      · rw [k4, f4.2.1 _ (by omega), a3.2 _ (by omega), f2.2.1 _ (by omega) (by omega), f1.2.1 _ (by omega)]
      · rw [k5, F5, x3, sf_lo _ _ _ _ (by omega), f2.2.1 _ (by omega) (by omega), f1.2.1 _ (by omega)]
      · rw [k5]
        exact ⟨a_ 0 _ (by rw [evs]; rfl), a_ 1 _ (by rw [evs]; rfl), a_ 2 _ (by rw [evs]; rfl), a_ 3 _ (by rw [evs]; rfl), a_ 4 _ (by rw [evs]; rfl), a_ 5 _ (by rw [evs]; rfl), a_ 6 _ (by rw [evs]; rfl), a_ 7 _ (by rw [evs]; rfl), a_ 8 _ (by rw [evs]; rfl), a_ 9 _ (by rw [evs]; rfl)⟩
      · rw [F6, k2 k (by omega), f1.2.1 _ (by omega)]
      · rw [F6]
        have := t2 z8 k (by omega) hk
        rw [Nat.sub_zero] at this
        exact this
      · rw [k7 k hk, f4.2.1 _ (by omega), a3.2 _ (by omega), f2.2.1 _ (by omega) (by omega), f1.2.1 _ (by omega)]
      · obtain ⟨j, hj, ej⟩ := plM_sur (il := m / 64 % 2) hk
        rw [← ej, hpl j hj]
        show nI (r j) = nI (pX w h (m / 64 % 2) r (plM w h (m / 64 % 2) j))
        rw [pX_k hj]
      · unfold PDR
        rw [y5 16 (by omega), y5 17 (by omega), y5 18 (by omega), y5 19 (by omega), y5 20 (by omega)]
        exact pd4
  · rw [if_neg q, if_pos rfl, if_neg q]
    exact ⟨μ1, rfl, c1, f1.2.2 15 (by decide) (by decide) (by decide), fun hl => absurd hl q⟩
end IR
