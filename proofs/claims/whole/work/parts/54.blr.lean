/-! the blocks: the reference -/
section BR'
variable {y s L tn : Nat} {t : Nat → Nat} {μ0 : Mm}
/-- the loop's end, with a fault -/
theorem br_e {μ : Mm} {z : Zt3} (fu K : Nat) (h : RS y s L μ0 μ z) (he : ¬ z.2.1 = 0) : fX10_readBlocks_L9 fu (K + 1) y 0 μ = some μ := by
  show fX10_readBlocks_B9 (fX10_readBlocks_L9 fu K) fu y 0 μ = _
  unfold fX10_readBlocks_B9
  rw [if_pos rfl, good_R h, lt'_e, if_neg he, if_pos rfl]
theorem b89 {μ : Mm} {z : Zt3} {rec : Nat → Int32 → Mm → Option Mm} (fu : Nat) (h : RS y s L μ0 μ z) : fX10_readBlocks_L89 rec fu y 1 μ = if z.2.1 = 0 then rec y 1 μ else rec y 0 μ := by
  unfold fX10_readBlocks_L89
  rw [if_neg (show ¬ (1 : Int32) = 0 by decide), good_R h, lt'_e]
  by_cases q : z.2.1 = 0
  · rw [if_pos q, if_neg (show ¬ (1 : Int32) = 0 by decide), if_pos q]
  · rw [if_neg q, if_pos rfl, if_neg q]
theorem bl_R (hB : RBs y s t L tn μ0) (fu : Nat) (hfu : 100000 ≤ fu) {old : Nat} (ho : old ≤ 1) : ∀ (f K : Nat) (μ : Mm) (z : Zt3) (P : Pic) (pd : Pd), z.2.1 = 0 → L - z.1 < f → f + 1 ≤ K → RS y s L μ0 μ z → PDR y μ pd → PdO pd → PR μ y (1 - s) P → VP P → μ.1 y 15 = nI old → ∃ μ', fX10_readBlocks_L9 fu K y 1 μ = some μ' ∧ RS y s L μ0 μ' (zBk t L old f z P pd).1 ∧ ((zBk t L old f z P pd).1.2.1 = 0 → PR μ' y (1 - s) (zBk t L old f z P pd).2) := by
  have hL := hB.hL
  intro f
  induction f with
  | zero => intro K μ z P pd hz hf; omega
  | succ f ih =>
    intro K μ z P pd q hf hK hS hp hpo hP hV h15
    obtain ⟨K, rfl⟩ : ∃ K', K = K' + 2 := ⟨K - 2, by omega⟩
    have hzL : z.1 ≤ L := hS.2.2.1
    have er : zBk t L old (f + 1) z P pd = (if (zB t L z).2.2.1 = 0 then
      (if (zB t L z).1 = 44 then zBk t L old f (zIm t L (nI z.1) P pd (zB t L z).2).1 (zIm t L (nI z.1) P pd (zB t L z).2).2 pd0
      else if (zB t L z).1 = 33 ∧ old = 0 then zBk t L old f (zX t L (zB t L z).2 pd).1 P (zX t L (zB t L z).2 pd).2
      else if (zB t L z).1 = 59 ∧ pd.1 = 0 then ((if (zB t L z).2.1 < L then zW 10 (nI (zB t L z).2.1) (zB t L z).2 else (zB t L z).2), P)
      else (zW 4 (nI z.1) (zB t L z).2, P))
    else ((zB t L z).2, P)) := by
      show (if z.2.1 = 0 then _ else (z, P)) = _
      rw [if_pos q]
    rw [er]
    show ∃ μ', fX10_readBlocks_B9 (fX10_readBlocks_L9 fu (K + 1)) fu y 1 μ = some μ' ∧ _
    unfold fX10_readBlocks_B9
    obtain ⟨μ1, e1, c1, f1⟩ := on_R hB hS
    obtain ⟨b, eb⟩ : ∃ b, b = (zB t L z).1 := ⟨_, rfl⟩
    have hb : b < 256 := by rw [eb]; exact zB_b hB.ht
    obtain ⟨z1, ez1⟩ : ∃ z1, z1 = (zB t L z).2 := ⟨_, rfl⟩
    have hz1 : z1.2.1 = 0 → z1.1 = z.1 + 1 := fun w => by
      rw [ez1] at w ⊢
      exact (zB_l w).2.2.1
    rw [← ez1] at c1
    rw [← eb] at e1
    rw [← eb, ← ez1, if_neg (show ¬ (1 : Int32) = 0 by decide), lt'_e, bd_e e1, lt'_e, hS.2.1.1]
    dsimp only
    have h151 : μ1.1 y 15 = nI old := by rw [f1.2.2 15 (by decide) (by decide) (by decide)]; exact h15
    have P1 : PR μ1 y (1 - s) P := by
      unfold PR PRh PRf
      rw [f1.2.1 (y + 3) (by omega), f1.2.1 (y + 4) (by omega), f1.2.1 (y + 5) (by omega), f1.2.1 (y + 6) (by omega), f1.2.1 (y + 7) (by omega)]
      exact hP
    have p1 : PDR y μ1 pd := hp.r f1
    rw [good_R c1, lt'_e, h151]
    have w4 : ¬ (zW 4 (nI z.1) z1).2.1 = 0 := zW_l (by decide)
    have refu : ∃ μ', fX10_readBlocks_L83 (fX10_readBlocks_L9 fu (K + 1)) fu y 1 (nI z.1) μ1 = some μ' ∧ RS y s L μ0 μ' (zW 4 (nI z.1) z1) := by
      obtain ⟨g1, g2⟩ := wr_R (k := 4) (kk := 4) (v := nI z.1) c1 rfl (by decide)
      unfold fX10_readBlocks_L83
      rw [lt'_e, b89 fu g1, if_neg w4, br_e fu K g1 w4]
      exact ⟨_, rfl, g1⟩
    by_cases qz : z1.2.1 = 0
    · rw [if_pos qz, if_neg (show ¬ (1 : Int32) = 0 by decide), if_pos qz]
      have hz1' := hz1 qz
      have hzl : z.1 < L := by
        rw [ez1] at qz
        exact (zB_l qz).2.1
      by_cases q1 : b = 44
      · rw [if_pos (show nI b = 44 by rw [q1]; rfl), if_pos q1]
        obtain ⟨μ2, e2, c2, f2, g2⟩ := im_R (pl := nI z.1) hB fu hfu c1 p1 hpo P1 hV
        rw [bd_e e2, b89 fu c2]
        have up := up_I (t := t) (L := L) (pl := nI z.1) (P := P) (pd := pd) (z := z1) hB.ht
        by_cases ql : (zIm t L (nI z.1) P pd z1).1.2.1 = 0
        · rw [if_pos ql]
          obtain ⟨g3, g4⟩ := g2 ql
          have u2 := (up ql).2
          have eI : zIm t L (nI z.1) P pd z1 = zK t L (nI z.1) P pd (zTw t L z1).1 (zTw t L (zTw t L z1).2).1 (zTw t L (zTw t L (zTw t L z1).2).2).1 (zTw t L (zTw t L (zTw t L (zTw t L z1).2).2).2).1 (zTw t L (zTw t L (zTw t L (zTw t L z1).2).2).2).2 := by unfold zIm; rfl
          have V2 : VP (zIm t L (nI z.1) P pd z1).2 := by
            rw [eI] at ql ⊢
            exact zK_V hB.ht hV hpo ql
          exact ih (K + 1) μ2 _ _ pd0 ql (by omega) (by omega) c2 g4 pd0_o g3 V2 (by rw [f2]; exact h151)
        · rw [if_neg ql, br_e fu K c2 ql, zBk_d ql]
          exact ⟨μ2, rfl, c2, fun w => absurd w ql⟩
      rw [if_neg (nI_nl (v := 44) rfl q1 (by omega) (by decide)), if_neg q1]
      by_cases q2 : b = 33 ∧ old = 0
      · rw [if_pos (show nI b = 33 by rw [q2.1]; rfl), if_pos (show nI old = 0 by rw [q2.2]; rfl), if_pos q2]
        obtain ⟨μ2, e2, c2, f2, g2⟩ := xt_R hB fu (by omega) c1 p1 hpo
        rw [bd_e e2, b89 fu c2]
        have up := up_X (t := t) (L := L) (z := z1) (p := pd) hB.ht
        by_cases ql : (zX t L z1 pd).1.2.1 = 0
        · rw [if_pos ql]
          have u2 := (up ql).2
          have P2 : PR μ2 y (1 - s) P := by
            unfold PR PRh PRf
            rw [f2.2.1 (y + 3) (by omega), f2.2.1 (y + 4) (by omega), f2.2.1 (y + 5) (by omega), f2.2.1 (y + 6) (by omega), f2.2.1 (y + 7) (by omega)]
            exact P1
          exact ih (K + 1) μ2 _ _ _ ql (by omega) (by omega) c2 g2 (zX_p hB.ht hpo) P2 hV (by rw [f2.2.2 15 (by decide) (by decide) (by decide) (by decide)]; exact h151)
        · rw [if_neg ql, br_e fu K c2 ql, zBk_d ql]
          exact ⟨μ2, rfl, c2, fun w => absurd w ql⟩
      rw [if_neg q2]
      have nx : (if nI b = 33 then (if nI old = 0 then (bd (fX10_readMore fu y μ1) fun μ7 => fX10_readBlocks_L89 (fX10_readBlocks_L9 fu (K + 1)) fu y 1 μ7) else fX10_readBlocks_L65 (fX10_readBlocks_L9 fu (K + 1)) fu y 1 (nI z.1) (nI b) μ1) else fX10_readBlocks_L65 (fX10_readBlocks_L9 fu (K + 1)) fu y 1 (nI z.1) (nI b) μ1) = fX10_readBlocks_L65 (fX10_readBlocks_L9 fu (K + 1)) fu y 1 (nI z.1) (nI b) μ1 := by
        by_cases w : b = 33
        · rw [if_pos (show nI b = 33 by rw [w]; rfl), if_neg (nI_ne0 (by omega) (by omega))]
        · rw [if_neg (nI_nl (v := 33) rfl w (by omega) (by decide))]
      rw [nx]
      unfold fX10_readBlocks_L65
      by_cases q3 : b = 59 ∧ pd.1 = 0
      · rw [if_pos (show nI b = 59 by rw [q3.1]; rfl), p1.1, if_pos (show nI pd.1 = 0 by rw [q3.2]; rfl), if_pos q3]
        unfold fX10_readBlocks_L89
        rw [if_pos rfl]
        show ∃ μ', fX10_readBlocks_B9 (fX10_readBlocks_L9 fu K) fu y 0 μ1 = some μ' ∧ _
        unfold fX10_readBlocks_B9
        have h13 : μ1.1 y 13 = nI L := by rw [c1.1.2.2.2.2.1.2.2.2.1]; exact hB.2.1.2.2.2
        rw [if_pos rfl, good_R c1, lt'_e, if_pos qz, if_neg (show ¬ (1 : Int32) = 0 by decide), h13, c1.2.1.1, lt'_e]
        by_cases q4 : z1.1 < L
        · rw [if_neg (nI_ge q4 (by omega)), if_pos q4]
          obtain ⟨g1, g2⟩ := wr_R (k := 10) (kk := 10) (v := nI z1.1) c1 rfl (by decide)
          exact ⟨_, rfl, g1, fun w => absurd w (zW_l (by decide))⟩
        · rw [if_pos (nI_le (by omega) (by have := c1.2.2.1; omega)), if_neg q4]
          exact ⟨_, rfl, c1, fun _ => P1⟩
      · rw [if_neg q3]
        have nx2 : (if nI b = 59 then (if μ1.1 y 16 = 0 then fX10_readBlocks_L89 (fX10_readBlocks_L9 fu (K + 1)) fu y 0 μ1 else fX10_readBlocks_L83 (fX10_readBlocks_L9 fu (K + 1)) fu y 1 (nI z.1) μ1) else fX10_readBlocks_L83 (fX10_readBlocks_L9 fu (K + 1)) fu y 1 (nI z.1) μ1) = fX10_readBlocks_L83 (fX10_readBlocks_L9 fu (K + 1)) fu y 1 (nI z.1) μ1 := by
          by_cases w : b = 59
          · rw [if_pos (show nI b = 59 by rw [w]; rfl), p1.1, if_neg (nI_ne0 (by omega) (by have := hpo.1; omega))]
          · rw [if_neg (nI_nl (v := 59) rfl w (by omega) (by decide))]
        rw [nx2]
        obtain ⟨μ2, e2, c2⟩ := refu
        exact ⟨μ2, e2, c2, fun w => absurd w w4⟩
    · rw [if_neg qz, if_pos rfl, if_neg qz]
      exact ⟨μ1, rfl, c1, fun w => absurd w qz⟩
end BR'
/-! A STREAM: what it makes -/
def zRd (t : Nf) (L : Nat) (z : Zt3) : Zt3 × Pic := zBk t L (zOld t L (zQ4 t L z)) (L + 1) (zHd t L z) (pHd t L z) pd0
theorem zOld_1 {t : Nf} {L : Nat} {z : Zt3} : zOld t L z ≤ 1 := by
  unfold zOld; split <;> omega
section PA
variable {n d L tn : Nat} {t : Nat → Nat} {μ0 : Mm}
theorem parse_C {μ : Mm} {z0 : Zt3} (hz0 : z0 = (0, 0, -1)) (hB : CB n d t L tn μ) (hbr : ∃ tw kw ow, BR μ (n + 5) tw kw ow) (fu : Nat) (hfu : 100000 ≤ fu) : ∃ μ', fX5_parse fu (n + 1) (nI L) μ = some μ' ∧ CS n d L μ μ' (zRd t L z0).1 ∧ ((zRd t L z0).1.2.1 = 0 → PC μ' d (zRd t L z0).2 ∧ VP (zRd t L z0).2) := by
  have hd' : n + 13 ≤ d := by have := hB.2.2.2.2; omega
  have hL := hB.hL
  unfold zRd
  have hmin : mmin (nI L) (μ.1 (μ.2 (n + 1) 0) 1) = nI L := by
    rw [hB.1.1.1, hB.2.2.1.2.1]
    have h1 := hB.2.2.2.1
    have h2 := hB.2.2.1.2.2.1
    unfold mmin
    rw [if_neg (nI_nlt h1 (by omega))]
  obtain ⟨ν, eν⟩ : ∃ ν, ν = si (si (si (si (si (si μ (n + 1) 4 (nI L)) (n + 1) 5 0) (n + 1) 6 0) (n + 1) 8 0) (n + 1) 9 0) (n + 1) 10 (-1) := ⟨_, rfl⟩
  have a1 : Ag μ ν (n + 1) (n + 2) := by
    rw [eν]
    exact (((((Ag.wi (by omega) (by omega)).nsi (by omega) (by omega)).nsi (by omega) (by omega)).nsi (by omega) (by omega)).nsi (by omega) (by omega)).nsi (by omega) (by omega)
  obtain ⟨tw, kw, ow, hb⟩ := hbr
  have c0 : CS n d L μ ν z0 := by
    rw [hz0]
    refine ⟨⟨a1.1, fun b hb _ _ => a1.2 b (by omega), tw, kw, ow, hb.ag a1 (by omega)⟩, ⟨?_, ?_, ?_, ?_⟩, ⟨Nat.zero_le _, by show 0 ≤ 10; omega⟩⟩
    · rw [eν, si_j (by decide), si_j (by decide), si_j (by decide), si_j (by decide), si_j (by decide), si_k]
    · rw [eν, si_j (by decide), si_j (by decide), si_j (by decide), si_j (by decide), si_k]; rfl
    · rw [eν, si_j (by decide), si_k]; rfl
    · rw [eν, si_k]
  have h6 : ν.1 (n + 1) 6 = nI 0 := by rw [eν, si_j (by decide), si_j (by decide), si_j (by decide), si_k]; rfl
  have h8 : ν.1 (n + 1) 8 = 0 := by rw [eν, si_j (by decide), si_j (by decide), si_k]
  obtain ⟨μ1, e1, c1, f1, p1⟩ := dr_C hB c0
  obtain ⟨μ2, e2, c2, f2, o2⟩ := start_C hB fu (by omega) c1 (by rw [f1.2.2 6 (by decide) (by decide) (by decide) (by decide)]; exact h6)
  obtain ⟨μ3, e3, c3, f3, P3⟩ := screen_C hB fu (by omega) c2 (by rw [hz0])
  have p3 : PDC n μ3 pd0 := by
    unfold PDC
    rw [f3.2.1 (n + 12) (by omega) (by omega), f3.2.2 7 (by decide) (by decide) (by decide), f2.2.1 (n + 12) (by omega), f2.2.2 7 (by decide) (by decide) (by decide) (by decide)]
    exact p1
  have h63 : μ3.1 (n + 1) 6 = nI (zOld t L (zQ4 t L z0)) := by rw [f3.2.2 6 (by decide) (by decide) (by decide)]; exact o2
  have h83 : μ3.1 (n + 1) 8 = 0 := by rw [f3.2.2 8 (by decide) (by decide) (by decide), f2.2.2 8 (by decide) (by decide) (by decide) (by decide), f1.2.2 8 (by decide) (by decide) (by decide) (by decide)]; exact h8
  obtain ⟨μ4, e4, c4, P4⟩ := bl_C hB fu hfu zOld_1 (L + 1) fu 0 μ3 _ (pHd t L z0) pd0 (fun _ => by omega) (by omega) (Nat.zero_le _) c3 p3 pd0_o (fun q => ⟨P3 q, (zHd_l (by rw [hz0]) hB.ht q).2.2.1⟩) h63 h83
  refine ⟨μ4, ?_, c4, P4⟩
  unfold fX5_parse
  rw [hmin, lt'_e, lt'_e, lt'_e, lt'_e, lt'_e, lt'_e, ← eν, bd_e e1, bd_e e2, bd_e e3]
  exact e4
end PA
