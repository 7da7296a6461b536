/-! THE BLOCKS -/
/-- alive behind it: alive before it, and not further back -/
def zUp (z z' : Zt3) : Prop := z'.2.1 = 0 → z.2.1 = 0 ∧ z.1 ≤ z'.1
theorem zUp.rf {z : Zt3} : zUp z z := fun h => ⟨h, Nat.le_refl _⟩
theorem zUp.tr {a b c : Zt3} (h : zUp a b) (h1 : zUp b c) : zUp a c := fun q => by
  obtain ⟨q1, q2⟩ := h1 q
  obtain ⟨w1, w2⟩ := h q1
  exact ⟨w1, Nat.le_trans w2 q2⟩
section UP
variable {t : Nf} {L : Nat}
theorem up_B {z : Zt3} : zUp z (zB t L z).2 := fun h => by
  obtain ⟨a, b, c, d, e⟩ := zB_l h
  exact ⟨a, by omega⟩
theorem up_W {k : Nat} {p : Int32} {z : Zt3} (hk : k ≠ 0) : zUp z (zW k p z) := fun h => absurd h (zW_l hk)
theorem up_E {k : Nat} {z : Zt3} : zUp z (zE t L k z) := by
  unfold zE
  split
  · exact up_B
  · exact up_B.tr (up_W (by decide))
theorem up_T {z : Zt3} : zUp z (zTw t L z).2 := fun h => by
  obtain ⟨a, b, c⟩ := zTw_l h
  exact ⟨a, by omega⟩
theorem up_S {k : Nat} {z : Zt3} : zUp z (zS t L k z) := fun h => by
  obtain ⟨a, b, c, d⟩ := zS_l k z h
  exact ⟨a, by omega⟩
theorem up_G {z : Zt3} (ht : ∀ j, j < L → t j < 256) : zUp z (zG t L z) := fun h => by
  obtain ⟨a, q, e⟩ := zG_l h
  have b := gM_b ht _ _ _ _ _ e (Nat.zero_le _) (fun j hj => by omega)
  refine ⟨a, ?_⟩
  unfold zG
  rw [if_pos a, e]
  show z.1 ≤ q.1
  omega
theorem up_X {z : Zt3} {p : Pd} (ht : ∀ j, j < L → t j < 256) : zUp z (zX t L z p).1 := by
  unfold zX
  split
  · dsimp only
    exact (((up_B.tr up_E).tr up_S).tr (up_G ht))
  · split
    · dsimp only
      unfold ctZ5 ctZ3 ctZ2
      exact ((((up_B.tr up_E).tr up_B).tr up_T).tr up_B).tr up_E
    · split
      · dsimp only
        exact up_B.tr (up_G ht)
      · split
        · dsimp only
          exact (((up_B.tr up_E).tr up_S).tr (up_G ht))
        · dsimp only
          exact up_B.tr (up_W (by decide))
theorem up_iE {pl lim : Nat} {z : Zt3} (ht : ∀ j, j < L → t j < 256) : zUp z (iE t L pl lim z) := by
  have b : zUp z (iB t L z) := by
    unfold iB
    split
    · exact up_B
    · exact up_B.tr (up_W (by decide))
  unfold iE
  split
  · split
    · exact b.tr (up_G ht)
    · exact (b.tr (up_G ht)).tr (up_W (by decide))
  · exact b.tr (up_G ht)
theorem up_I {pl : Int32} {P : Pic} {pd : Pd} {z : Zt3} (ht : ∀ j, j < L → t j < 256) : zUp z (zIm t L pl P pd z).1 := by
  have k : ∀ l tp w h z, zUp z (zK t L pl P pd l tp w h z).1 := by
    intro l tp w h z
    have a5 : zUp z (iA5 pl P l tp w h z) := by
      unfold iA5
      split
      · exact zUp.rf
      · exact up_W (by decide)
    have a7 : ∀ g z, zUp z (iA7 pl P g z) := by
      intro g z
      unfold iA7
      split
      · exact up_W (by decide)
      · exact zUp.rf
    unfold zK
    have j : ∀ m z, zUp z (zJ t L P pd l tp w h m z).1 := by
      intro m z
      unfold zJ
      split
      · dsimp only
        exact up_S.tr (up_iE ht)
      · exact zUp.rf
    exact ((a5.tr up_B).tr (a7 _ _)).tr (j _ _)
  unfold zIm
  exact (((up_T.tr up_T).tr up_T).tr up_T).tr (k _ _ _ _ _)
end UP
def zBk (t : Nf) (L old : Nat) : Nat → Zt3 → Pic → Pd → Zt3 × Pic
  | 0 => fun z P _ => (z, P)
  | f + 1 => fun z P pd => if z.2.1 = 0 then
      (if (zB t L z).2.2.1 = 0 then
        (if (zB t L z).1 = 44 then zBk t L old f (zIm t L (nI z.1) P pd (zB t L z).2).1 (zIm t L (nI z.1) P pd (zB t L z).2).2 pd0
        else if (zB t L z).1 = 33 ∧ old = 0 then zBk t L old f (zX t L (zB t L z).2 pd).1 P (zX t L (zB t L z).2 pd).2
        else if (zB t L z).1 = 59 ∧ pd.1 = 0 then ((if (zB t L z).2.1 < L then zW 10 (nI (zB t L z).2.1) (zB t L z).2 else (zB t L z).2), P)
        else (zW 4 (nI z.1) (zB t L z).2, P))
      else ((zB t L z).2, P))
    else (z, P)
theorem zBk_d {t : Nf} {L old f : Nat} {z : Zt3} {P : Pic} {pd : Pd} (h : ¬ z.2.1 = 0) : zBk t L old f z P pd = (z, P) := by
  cases f with
  | zero => rfl
  | succ f =>
    show (if z.2.1 = 0 then _ else (z, P)) = _
    rw [if_neg h]
/-! the class -/
section BC
variable {n d L tn : Nat} {t : Nat → Nat} {μ0 : Mm}
theorem CS.w8 {μ : Mm} {z : Zt3} {v : Int32} (h : CS n d L μ0 μ z) (hd : n + 13 ≤ d) : CS n d L μ0 (si μ (n + 1) 8 v) z := by
  obtain ⟨⟨h1, h2, tw, kw, ow, h3⟩, ⟨q1, q2, q3, q4⟩, h5⟩ := h
  refine ⟨⟨h1, fun b hb hb2 hb3 => by rw [si_b hb]; exact h2 b hb hb2 hb3, tw, kw, ow, h3.ag (Ag.wi (lo := n + 1) (hi := n + 2) (by omega) (by omega)) (by omega)⟩, ⟨?_, ?_, ?_, ?_⟩, h5⟩
  · rw [si_j (by decide)]; exact q1
  · rw [si_j (by decide)]; exact q2
  · rw [si_j (by decide)]; exact q3
  · rw [si_j (by decide)]; exact q4
/-- the loop's end: a fault, or the END -/
theorem bl_e {μ : Mm} {z : Zt3} {v : Int32} (fu K : Nat) (h : CS n d L μ0 μ z) (he : ¬ z.2.1 = 0 ∨ ¬ μ.1 (n + 1) 8 = 0) : fX5_parse_L54 fu (K + 1) (n + 1) v μ = some μ := by
  show fX5_parse_B54 (fX5_parse_L54 fu K) fu (n + 1) v μ = _
  unfold fX5_parse_B54
  rw [h.2.1.2.2.1]
  split
  · rfl
  · split
    · next q =>
      rcases he with w | w
      · exact absurd q (nI_ne0 (by have := h.2.2.2; omega) (by have := h.2.2.2; omega))
      · rw [if_neg w]
    · rfl
theorem bl_C (hB : CB n d t L tn μ0) (fu : Nat) (hfu : 100000 ≤ fu) {old : Nat} (ho : old ≤ 1) : ∀ (f K i : Nat) (μ : Mm) (z : Zt3) (P : Pic) (pd : Pd), (z.2.1 = 0 → L - z.1 < f) → f + 1 ≤ K → i ≤ z.1 → CS n d L μ0 μ z → PDC n μ pd → PdO pd → (z.2.1 = 0 → PC μ d P ∧ VP P) → μ.1 (n + 1) 6 = nI old → μ.1 (n + 1) 8 = 0 → ∃ μ', fX5_parse_L54 fu K (n + 1) (nI i) μ = some μ' ∧ CS n d L μ0 μ' (zBk t L old f z P pd).1 ∧ ((zBk t L old f z P pd).1.2.1 = 0 → PC μ' d (zBk t L old f z P pd).2 ∧ VP (zBk t L old f z P pd).2) := by
  have hd' : n + 13 ≤ d := by have := hB.2.2.2.2; omega
  have hL := hB.hL
  intro f
  induction f with
  | zero =>
    intro K i μ z P pd hf hK hi hS hp hpo hP h6 h8
    by_cases q : z.2.1 = 0
    · exact absurd (hf q) (by omega)
    · obtain ⟨K, rfl⟩ : ∃ K', K = K' + 1 := ⟨K - 1, by omega⟩
      rw [zBk_d q]
      exact ⟨μ, bl_e fu K hS (Or.inl q), hS, fun w => absurd w q⟩
  | succ f ih =>
    intro K i μ z P pd hf hK hi hS hp hpo hP h6 h8
    obtain ⟨K, rfl⟩ : ∃ K', K = K' + 2 := ⟨K - 2, by omega⟩
    by_cases q : z.2.1 = 0
    · obtain ⟨hPC, hV⟩ := hP q
      have hzL : z.1 ≤ L := hS.2.2.1
      have hfz := hf q
      have er : zBk t L old (f + 1) z P pd = (if (zB t L z).2.2.1 = 0 then
        (if (zB t L z).1 = 44 then zBk t L old f (zIm t L (nI z.1) P pd (zB t L z).2).1 (zIm t L (nI z.1) P pd (zB t L z).2).2 pd0
        else if (zB t L z).1 = 33 ∧ old = 0 then zBk t L old f (zX t L (zB t L z).2 pd).1 P (zX t L (zB t L z).2 pd).2
        else if (zB t L z).1 = 59 ∧ pd.1 = 0 then ((if (zB t L z).2.1 < L then zW 10 (nI (zB t L z).2.1) (zB t L z).2 else (zB t L z).2), P)
        else (zW 4 (nI z.1) (zB t L z).2, P))
      else ((zB t L z).2, P)) := by
        show (if z.2.1 = 0 then _ else (z, P)) = _
        rw [if_pos q]
      rw [er]
      show ∃ μ', fX5_parse_B54 (fX5_parse_L54 fu (K + 1)) fu (n + 1) (nI i) μ = some μ' ∧ _
      unfold fX5_parse_B54
      rw [hS.2.1.1, if_neg (nI_nlt (by omega) (by omega)), hS.2.1.2.2.1, if_pos (show nI z.2.1 = 0 by rw [q]; rfl), if_pos h8]
      simp only [lt'_e, nI_1]
      obtain ⟨μ1, e1, c1, f1⟩ := nb_C hB hS
      obtain ⟨b, eb⟩ : ∃ b, b = (zB t L z).1 := ⟨_, rfl⟩
      have hb : b < 256 := by rw [eb]; exact zB_b hB.ht
      obtain ⟨z1, ez1⟩ : ∃ z1, z1 = (zB t L z).2 := ⟨_, rfl⟩
      have hz1 : z1.2.1 = 0 → z1.1 = z.1 + 1 := fun w => by
        rw [ez1] at w ⊢
        exact (zB_l w).2.2.1
      have hbd : ¬ z1.2.1 = 0 → b = 0 := fun w => by
        by_cases w1 : z.1 < L
        · rw [ez1, zB_1 q w1] at w; exact absurd rfl w
        · rw [eb, zB_0 q w1]
      rw [← ez1] at c1
      rw [← eb] at e1
      rw [← eb, ← ez1]
      have h61 : μ1.1 (n + 1) 6 = nI old := by rw [f1.2.2 6 (by decide) (by decide) (by decide)]; exact h6
      have h81 : μ1.1 (n + 1) 8 = 0 := by rw [f1.2.2 8 (by decide) (by decide) (by decide)]; exact h8
      have P1 : PC μ1 d P := hPC.lo hV.2.2.2.2.1 f1.1 (fun b h1 h2 => f1.2.1 b (by omega))
      have p1 : PDC n μ1 pd := hp.g f1.g
      have run : fX5_parseBlock fu (n + 1) μ = (if nI b = 44 then (bd (fX5_parseImage fu (n + 1) (nI z.1) μ1) fun μ5 => some μ5) else if nI b = 33 then (if nI old = 0 then (bd (fX5_parseExtension fu (n + 1) μ1) fun μ4 => some μ4) else fX5_parseBlock_L44 fu (n + 1) (nI z.1) (nI b) μ1) else fX5_parseBlock_L44 fu (n + 1) (nI z.1) (nI b) μ1) := by
        unfold fX5_parseBlock
        rw [lt'_e, bd_e e1, lt'_e, hS.2.1.2.1]
        dsimp only
        rw [h61]
      rw [run]
      -- what ends in a refusal
      have refu : ¬ (zW 4 (nI z.1) z1).2.1 = 0 → ∃ μ', (bd (fX5_parseBlock_L64 fu (n + 1) (nI z.1) μ1) fun μ1 => fX5_parse_L54 fu (K + 1) (n + 1) (nI (i + 1)) μ1) = some μ' ∧ CS n d L μ0 μ' (zW 4 (nI z.1) z1) := by
        intro w
        obtain ⟨g1, g2⟩ := rf_C (k := 4) (kk := 4) (v := nI z.1) hB c1 rfl (by decide)
        have e : fX5_parseBlock_L64 fu (n + 1) (nI z.1) μ1 = some (fX5_refuse (n + 1) 4 (nI z.1) μ1) := rfl
        rw [bd_e e, bl_e fu K g1 (Or.inl w)]
        exact ⟨_, rfl, g1⟩
      have w4 : ¬ (zW 4 (nI z.1) z1).2.1 = 0 := zW_l (by decide)
      by_cases qz : z1.2.1 = 0
      · rw [if_pos qz]
        have hz1' := hz1 qz
        have hzl : z.1 < L := by
          rw [ez1] at qz
          exact (zB_l qz).2.1
        by_cases q1 : b = 44
        · rw [if_pos (show nI b = 44 by rw [q1]; rfl), if_pos q1]
          obtain ⟨μ2, e2, c2, f2, g2⟩ := im_C (pl := nI z.1) hB fu hfu c1 p1 hpo P1 hV
          rw [bd_e e2, bd_s]
          have up := up_I (t := t) (L := L) (pl := nI z.1) (P := P) (pd := pd) (z := z1) hB.ht
          by_cases ql : (zIm t L (nI z.1) P pd z1).1.2.1 = 0
          · obtain ⟨g3, g4⟩ := g2 ql
            have u2 := (up ql).2
            have eI : zIm t L (nI z.1) P pd z1 = zK t L (nI z.1) P pd (zTw t L z1).1 (zTw t L (zTw t L z1).2).1 (zTw t L (zTw t L (zTw t L z1).2).2).1 (zTw t L (zTw t L (zTw t L (zTw t L z1).2).2).2).1 (zTw t L (zTw t L (zTw t L (zTw t L z1).2).2).2).2 := by unfold zIm; rfl
            have V2 : VP (zIm t L (nI z.1) P pd z1).2 := by
              rw [eI] at ql ⊢
              exact zK_V hB.ht hV hpo ql
            exact ih (K + 1) (i + 1) μ2 _ _ pd0 (fun _ => by omega) (by omega) (by omega) c2 g4 pd0_o (fun _ => ⟨g3, V2⟩) (by rw [f2.2 6 (by decide) (by decide) (by decide) (by decide)]; exact h61) (by rw [f2.2 8 (by decide) (by decide) (by decide) (by decide)]; exact h81)
          · rw [bl_e fu K c2 (Or.inl ql), zBk_d ql]
            exact ⟨μ2, rfl, c2, fun w => absurd w ql⟩
        rw [if_neg (nI_nl (v := 44) rfl q1 (by omega) (by decide)), if_neg q1]
        by_cases q2 : b = 33 ∧ old = 0
        · rw [if_pos (show nI b = 33 by rw [q2.1]; rfl), if_pos (show nI old = 0 by rw [q2.2]; rfl), if_pos q2]
          obtain ⟨μ2, e2, c2, f2, g2⟩ := xt_C hB fu (by omega) c1 p1 hpo
          rw [bd_e e2, bd_s]
          have up := up_X (t := t) (L := L) (z := z1) (p := pd) hB.ht
          by_cases ql : (zX t L z1 pd).1.2.1 = 0
          · have u2 := (up ql).2
            exact ih (K + 1) (i + 1) μ2 _ _ _ (fun _ => by omega) (by omega) (by omega) c2 g2 (zX_p hB.ht hpo) (fun _ => ⟨P1.lo hV.2.2.2.2.1 f2.1 (fun b h1 h2 => f2.2.1 b (by omega) (by omega) (by omega) (by omega)), hV⟩) (by rw [f2.2.2 6 (by decide) (by decide) (by decide) (by decide)]; exact h61) (by rw [f2.2.2 8 (by decide) (by decide) (by decide) (by decide)]; exact h81)
          · rw [bl_e fu K c2 (Or.inl ql), zBk_d ql]
            exact ⟨μ2, rfl, c2, fun w => absurd w ql⟩
        rw [if_neg q2]
        have nx : (if nI b = 33 then (if nI old = 0 then (bd (fX5_parseExtension fu (n + 1) μ1) fun μ4 => some μ4) else fX5_parseBlock_L44 fu (n + 1) (nI z.1) (nI b) μ1) else fX5_parseBlock_L44 fu (n + 1) (nI z.1) (nI b) μ1) = fX5_parseBlock_L44 fu (n + 1) (nI z.1) (nI b) μ1 := by
          by_cases w : b = 33
          · rw [if_pos (show nI b = 33 by rw [w]; rfl), if_neg (nI_ne0 (by omega) (by omega))]
          · rw [if_neg (nI_nl (v := 33) rfl w (by omega) (by decide))]
        rw [nx]
        unfold fX5_parseBlock_L44
        by_cases q3 : b = 59 ∧ pd.1 = 0
        · rw [if_pos (show nI b = 59 by rw [q3.1]; rfl), p1.1, if_pos (show nI pd.1 = 0 by rw [q3.2]; rfl), if_pos q3, lt'_e, bd_s]
          have c2 : CS n d L μ0 (si μ1 (n + 1) 8 1) z1 := c1.w8 hd'
          have P2 : PC (si μ1 (n + 1) 8 1) d P := P1.lo hV.2.2.2.2.1 rfl (fun b h1 h2 => si_b (by omega))
          unfold fX5_parseEnd
          rw [lt'_e, c2.2.1.1, c2.2.1.2.1, lt'_e]
          by_cases q4 : z1.1 < L
          · rw [if_neg (nI_ge q4 (by omega)), if_pos q4]
            obtain ⟨g1, g2⟩ := rf_C (k := 10) (kk := 10) (v := nI z1.1) hB c2 rfl (by decide)
            have wd : ¬ (zW 10 (nI z1.1) z1).2.1 = 0 := zW_l (by decide)
            rw [bl_e fu K g1 (Or.inl wd)]
            exact ⟨_, rfl, g1, fun w => absurd w wd⟩
          · rw [if_pos (nI_le (by omega) (by have := c1.2.2.1; omega)), if_neg q4, bl_e fu K c2 (Or.inr (by rw [si_k]; decide))]
            exact ⟨_, rfl, c2, fun _ => ⟨P2, hV⟩⟩
        · rw [if_neg q3]
          have nx2 : (if nI b = 59 then (if μ1.1 (n + 1) 7 = 0 then (lt' (fX5_parseEnd (n + 1) μ1) fun μ1 => some μ1) else fX5_parseBlock_L64 fu (n + 1) (nI z.1) μ1) else fX5_parseBlock_L64 fu (n + 1) (nI z.1) μ1) = fX5_parseBlock_L64 fu (n + 1) (nI z.1) μ1 := by
            by_cases w : b = 59
            · rw [if_pos (show nI b = 59 by rw [w]; rfl), p1.1, if_neg (nI_ne0 (by omega) (by have := hpo.1; omega))]
            · rw [if_neg (nI_nl (v := 59) rfl w (by omega) (by decide))]
          rw [nx2]
          obtain ⟨μ2, e2, c2⟩ := refu w4
          exact ⟨μ2, e2, c2, fun w => absurd w w4⟩
      · rw [if_neg qz]
        have b0 := hbd qz
        have eW : zW 4 (nI z.1) z1 = z1 := zW_d qz
        rw [if_neg (nI_nl (v := 44) rfl (show b ≠ 44 by omega) (by omega) (by decide)), if_neg (nI_nl (v := 33) rfl (show b ≠ 33 by omega) (by omega) (by decide))]
        unfold fX5_parseBlock_L44
        rw [if_neg (nI_nl (v := 59) rfl (show b ≠ 59 by omega) (by omega) (by decide))]
        obtain ⟨μ2, e2, c2⟩ := refu w4
        rw [eW] at c2
        exact ⟨μ2, e2, c2, fun w => absurd w qz⟩
    · rw [zBk_d q]
      exact ⟨μ, bl_e fu (K + 1) hS (Or.inl q), hS, fun w => absurd w q⟩
end BC
