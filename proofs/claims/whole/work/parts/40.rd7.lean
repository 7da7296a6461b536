/-! the head: the class -/
def CFo (n : Nat) (μ μ' : Mm) : Prop := μ'.2 = μ.2 ∧ (∀ b, b ≠ n + 1 → μ'.1 b = μ.1 b) ∧ ∀ k, k ≠ 5 → k ≠ 6 → k ≠ 9 → k ≠ 10 → μ'.1 (n + 1) k = μ.1 (n + 1) k
theorem CF.o {n : Nat} {μ μ' : Mm} (h : CF n μ μ') : CFo n μ μ' := ⟨h.1, h.2.1, fun k a _ b c => h.2.2 k a b c⟩
theorem CFo.tr {n : Nat} {μ μ1 μ2 : Mm} (h : CFo n μ μ1) (h1 : CFo n μ1 μ2) : CFo n μ μ2 := ⟨h1.1.trans h.1, fun b hb => (h1.2.1 b hb).trans (h.2.1 b hb), fun k a b c d => (h1.2.2 k a b c d).trans (h.2.2 k a b c d)⟩
theorem CFo.wi {n : Nat} {v : Int32} {μ : Mm} : CFo n μ (si μ (n + 1) 6 v) := ⟨rfl, fun b hb => si_b hb, fun k _ h _ _ => si_j h⟩
theorem CS.w6 {n d L : Nat} {μ0 μ : Mm} {z : Zt3} {v : Int32} (h : CS n d L μ0 μ z) (hd : n + 13 ≤ d) : CS n d L μ0 (si μ (n + 1) 6 v) z := by
  obtain ⟨⟨h1, h2, tw, kw, ow, h3⟩, ⟨q1, q2, q3, q4⟩, h5⟩ := h
  refine ⟨⟨h1, fun b hb hb2 hb3 => by rw [si_b hb]; exact h2 b hb hb2 hb3, tw, kw, ow, h3.ag (Ag.wi (lo := n + 1) (hi := n + 2) (by omega) (by omega)) (by omega)⟩, ⟨?_, ?_, ?_, ?_⟩, h5⟩
  · rw [si_j (by decide)]; exact q1
  · rw [si_j (by decide)]; exact q2
  · rw [si_j (by decide)]; exact q3
  · rw [si_j (by decide)]; exact q4
section HC
variable {n d L tn : Nat} {t : Nat → Nat} {μ0 : Mm}
/-- the flag of an older stream -/
theorem p49 {μ : Mm} {z : Zt3} (hB : CB n d t L tn μ0) (fu : Nat) (rec2 : Nat → Int32 → Mm → Option Mm) {i o v : Nat} (h : CS n d L μ0 μ z) (h6 : μ.1 (n + 1) 6 = nI o) (ho : o ≤ 1) (hv : v ≤ 1) : ∃ μ', fX5_parseStart_L49 rec2 fu (n + 1) (nI i) (nI v) μ = rec2 (n + 1) (nI (i + 1)) μ' ∧ CS n d L μ0 μ' z ∧ CFo n μ μ' ∧ μ'.1 (n + 1) 6 = nI (max o v) := by
  have hd : n + 13 ≤ d := by have := hB.2.2.2.2; omega
  unfold fX5_parseStart_L49 fX5_parseStart_L61
  rw [h6]
  simp only [lt'_e, nI_1]
  rcases (show o = 0 ∨ o = 1 by omega) with rfl | rfl
  · rw [if_pos (show nI 0 = 0 from rfl)]
    rcases (show v = 0 ∨ v = 1 by omega) with rfl | rfl
    · rw [if_pos (show nI 0 = 0 from rfl)]
      exact ⟨_, rfl, h.w6 hd, CFo.wi, si_k⟩
    · rw [if_neg (show ¬ nI 1 = 0 by decide)]
      exact ⟨_, rfl, h.w6 hd, CFo.wi, si_k⟩
  · rw [if_neg (show ¬ nI 1 = 0 by decide)]
    refine ⟨_, rfl, h.w6 hd, CFo.wi, ?_⟩
    rw [si_k, show max 1 v = 1 by omega]
    rfl
theorem st_C {μ : Mm} {z : Zt3} (hB : CB n d t L tn μ0) (fu N : Nat) {i k o : Nat} (hi : i < 6) (hi4 : i ≠ 4) (hk : sT 0 i = nI k) (hk2 : k < 256) (h : CS n d L μ0 μ z) (h6 : μ.1 (n + 1) 6 = nI o) (ho : o ≤ 1) : ∃ μ', fX5_parseStart_L2 fu (N + 1) (n + 1) (nI i) μ = fX5_parseStart_L2 fu N (n + 1) (nI (i + 1)) μ' ∧ CS n d L μ0 μ' (zMs t L k z) ∧ CFo n μ μ' ∧ μ'.1 (n + 1) 6 = nI o := by
  obtain ⟨μ1, e1, c1, f1⟩ := nb_C hB h
  have hb := zB_b (z := z) hB.ht
  have h61 : μ1.1 (n + 1) 6 = nI o := by rw [f1.2.2 6 (by decide) (by decide) (by decide)]; exact h6
  show ∃ μ', fX5_parseStart_B2 (fX5_parseStart_L2 fu N) fu (n + 1) (nI i) μ = _ ∧ _
  unfold fX5_parseStart_B2 fX5_parseStart_L28 fX5_parseStart_L29 zMs
  rw [if_neg (show ¬ (6 : Int32) ≤ nI i from nI_ge (b := 6) hi (by decide)), bd_e e1, lt'_e, if_neg (nI_nl (v := 4) rfl hi4 (by omega) (by decide)), r_ib hi (by decide), nI_clamp (by omega), hk]
  dsimp only
  by_cases c : (zB t L z).1 = k
  · rw [if_pos (show nI (zB t L z).1 = nI k by rw [c]), if_pos c]
    obtain ⟨μ2, e2, c2, f2, g2⟩ := p49 (i := i) (v := 0) hB fu (fX5_parseStart_L2 fu N) c1 h61 ho (by decide)
    exact ⟨μ2, e2, c2, f1.o.tr f2, by rw [g2, Nat.max_zero]⟩
  · rw [if_neg (fun q => c ((nI_eq (by omega) (by omega)).mp q)), if_neg c, if_pos rfl, lt'_e]
    obtain ⟨c2, f2⟩ := rf_C (k := 1) (kk := 1) (v := 0) hB c1 rfl (by decide)
    have h62 : (fX5_refuse (n + 1) 1 0 μ1).1 (n + 1) 6 = nI o := by rw [f2.2.2 6 (by decide) (by decide) (by decide)]; exact h61
    obtain ⟨μ3, e3, c3, f3, g3⟩ := p49 (i := i) (v := 0) hB fu (fX5_parseStart_L2 fu N) c2 h62 ho (by decide)
    exact ⟨μ3, e3, c3, (f1.tr f2).o.tr f3, by rw [g3, Nat.max_zero]⟩
theorem st4_C {μ : Mm} {z : Zt3} (hB : CB n d t L tn μ0) (fu N : Nat) (h : CS n d L μ0 μ z) (h6 : μ.1 (n + 1) 6 = nI 0) : ∃ μ', fX5_parseStart_L2 fu (N + 1) (n + 1) (nI 4) μ = fX5_parseStart_L2 fu N (n + 1) (nI 5) μ' ∧ CS n d L μ0 μ' (zV t L z) ∧ CFo n μ μ' ∧ μ'.1 (n + 1) 6 = nI (zOld t L z) := by
  obtain ⟨μ1, e1, c1, f1⟩ := nb_C hB h
  have hb := zB_b (z := z) hB.ht
  have h61 : μ1.1 (n + 1) 6 = nI 0 := by rw [f1.2.2 6 (by decide) (by decide) (by decide)]; exact h6
  show ∃ μ', fX5_parseStart_B2 (fX5_parseStart_L2 fu N) fu (n + 1) (nI 4) μ = _ ∧ _
  unfold fX5_parseStart_B2 fX5_parseStart_L28 fX5_parseStart_L29 zV zOld
  have h9 : sT 0 4 = nI 57 := by decide
  rw [if_neg (show ¬ (6 : Int32) ≤ nI 4 by decide), bd_e e1, lt'_e, if_pos (show nI 4 = 4 from rfl), r_ib (by decide) (by decide), r_ib (by decide) (by decide), nI_clamp (by decide), h9]
  dsimp only
  by_cases c5 : (zB t L z).1 = 55
  · rw [if_pos (show nI (zB t L z).1 = 55 by rw [c5]; rfl), if_neg (show ¬ nI (zB t L z).1 = nI 57 by rw [c5]; decide), if_neg (show ¬ (1 : Int32) = 0 by decide), if_pos (Or.inl c5), if_pos c5]
    obtain ⟨μ2, e2, c2, f2, g2⟩ := p49 (i := 4) (v := 1) hB fu (fX5_parseStart_L2 fu N) c1 h61 (by decide) (by decide)
    exact ⟨μ2, e2, c2, f1.o.tr f2, g2⟩
  · rw [if_neg (nI_nl (v := 55) rfl c5 (by omega) (by decide)), if_neg c5]
    by_cases c7 : (zB t L z).1 = 57
    · rw [if_pos (show nI (zB t L z).1 = nI 57 by rw [c7]), if_pos (Or.inr c7)]
      obtain ⟨μ2, e2, c2, f2, g2⟩ := p49 (i := 4) (v := 0) hB fu (fX5_parseStart_L2 fu N) c1 h61 (by decide) (by decide)
      exact ⟨μ2, e2, c2, f1.o.tr f2, g2⟩
    · rw [if_neg (nI_nl (v := nI 57) rfl c7 (by omega) (by decide)), if_pos rfl, if_neg (show ¬ ((zB t L z).1 = 55 ∨ (zB t L z).1 = 57) by omega), lt'_e]
      obtain ⟨c2, f2⟩ := rf_C (k := 1) (kk := 1) (v := 0) hB c1 rfl (by decide)
      have h62 : (fX5_refuse (n + 1) 1 0 μ1).1 (n + 1) 6 = nI 0 := by rw [f2.2.2 6 (by decide) (by decide) (by decide)]; exact h61
      obtain ⟨μ3, e3, c3, f3, g3⟩ := p49 (i := 4) (v := 0) hB fu (fX5_parseStart_L2 fu N) c2 h62 (by decide) (by decide)
      exact ⟨μ3, e3, c3, (f1.tr f2).o.tr f3, g3⟩
theorem start_C {μ : Mm} {z : Zt3} (hB : CB n d t L tn μ0) (fu : Nat) (hfu : 10 ≤ fu) (h : CS n d L μ0 μ z) (h6 : μ.1 (n + 1) 6 = nI 0) : ∃ μ', fX5_parseStart fu (n + 1) μ = some μ' ∧ CS n d L μ0 μ' (zQ6 t L z) ∧ CFo n μ μ' ∧ μ'.1 (n + 1) 6 = nI (zOld t L (zQ4 t L z)) := by
  obtain ⟨N, eN⟩ : ∃ N, fu = N + 7 := ⟨fu - 7, by omega⟩
  obtain ⟨μ1, e1, c1, f1, g1⟩ := st_C (i := 0) (k := 71) hB fu (N + 6) (by decide) (by decide) (by decide) (by decide) h h6 (by decide)
  obtain ⟨μ2, e2, c2, f2, g2⟩ := st_C (i := 1) (k := 73) hB fu (N + 5) (by decide) (by decide) (by decide) (by decide) c1 g1 (by decide)
  obtain ⟨μ3, e3, c3, f3, g3⟩ := st_C (i := 2) (k := 70) hB fu (N + 4) (by decide) (by decide) (by decide) (by decide) c2 g2 (by decide)
  obtain ⟨μ4, e4, c4, f4, g4⟩ := st_C (i := 3) (k := 56) hB fu (N + 3) (by decide) (by decide) (by decide) (by decide) c3 g3 (by decide)
  obtain ⟨μ5, e5, c5, f5, g5⟩ := st4_C hB fu (N + 2) c4 g4
  have ho : zOld t L (zMs t L 56 (zMs t L 70 (zMs t L 73 (zMs t L 71 z)))) ≤ 1 := by unfold zOld; split <;> omega
  obtain ⟨μ6, e6, c6, f6, g6⟩ := st_C (i := 5) (k := 97) hB fu (N + 1) (by decide) (by decide) (by decide) (by decide) c5 g5 ho
  refine ⟨μ6, ?_, ?_, ((((f1.tr f2).tr f3).tr f4).tr f5).tr f6, ?_⟩
  · unfold fX5_parseStart
    have e : fX5_parseStart_L2 fu fu (n + 1) 0 μ = fX5_parseStart_L2 fu (N + 6 + 1) (n + 1) (nI 0) μ := by rw [show N + 6 + 1 = fu by omega]; rfl
    rw [e, e1, show N + 6 = N + 5 + 1 from rfl, e2, show N + 5 = N + 4 + 1 from rfl, e3, show N + 4 = N + 3 + 1 from rfl, e4, show N + 3 = N + 2 + 1 from rfl, e5, show N + 2 = N + 1 + 1 from rfl, e6]
    show fX5_parseStart_B2 (fX5_parseStart_L2 fu N) fu (n + 1) (nI 6) μ6 = some μ6
    unfold fX5_parseStart_B2
    rw [if_pos (show (6 : Int32) ≤ nI 6 by decide)]
  · unfold zQ6 zQ4; exact c6
  · unfold zQ4; exact g6
theorem side_C {w : Nat} (h : w < 65536) : fX9_isSide (nI w) = if 1 ≤ w ∧ w ≤ 64 then 1 else 0 := by
  unfold fX9_isSide
  by_cases c1 : w < 1
  · rw [if_pos (show nI w < 1 from nI_lt (b := 1) c1 (by decide)), if_neg (by omega)]
  · rw [if_neg (show ¬ nI w < 1 from nI_nlt (b := 1) (by omega) (by omega))]
    by_cases c2 : 64 < w
    · rw [if_pos (show (64 : Int32) < nI w from nI_lt (a := 64) c2 (by omega)), if_neg (by omega)]
    · rw [if_neg (show ¬ (64 : Int32) < nI w from nI_nlt (a := 64) (by omega) (by decide)), if_pos (by omega)]
def CFs (n d : Nat) (μ μ' : Mm) : Prop := μ'.2 = μ.2 ∧ (∀ b, b ≠ n + 1 → (b < d ∨ d + 124 ≤ b) → μ'.1 b = μ.1 b) ∧ ∀ k, k ≠ 5 → k ≠ 9 → k ≠ 10 → μ'.1 (n + 1) k = μ.1 (n + 1) k
theorem CF.s {μ μ' : Mm} (h : CF n μ μ') : CFs n d μ μ' := ⟨h.1, fun b h1 _ => h.2.1 b h1, h.2.2⟩
theorem CFs.tr {μ μ1 μ2 : Mm} (h : CFs n d μ μ1) (h1 : CFs n d μ1 μ2) : CFs n d μ μ2 := ⟨h1.1.trans h.1, fun b hb hb2 => (h1.2.1 b hb hb2).trans (h.2.1 b hb hb2), fun k a b c => (h1.2.2 k a b c).trans (h.2.2 k a b c)⟩
theorem CFs.ag {μ μ' : Mm} (h : Ag μ μ' d (d + 124)) (hd : n + 13 ≤ d) : CFs n d μ μ' := ⟨h.1, fun b _ hb => h.2 b (by omega), fun k _ _ _ => by rw [h.2 _ (by omega)]⟩
theorem CFd.s {a : Nat} {μ μ' : Mm} (h : CFd n a μ μ') (ha : d ≤ a ∧ a < d + 124) : CFs n d μ μ' := ⟨h.1, fun b h1 hb => h.2.1 b h1 (by omega), h.2.2⟩
theorem CS.ag {μ μ' : Mm} {z : Zt3} (h : CS n d L μ0 μ z) (ha : Ag μ μ' d (d + 124)) (hd : n + 13 ≤ d) : CS n d L μ0 μ' z := by
  obtain ⟨⟨h1, h2, tw, kw, ow, h3⟩, h4, h5⟩ := h
  refine ⟨⟨ha.1.trans h1, fun b hb hb2 hb3 => by rw [ha.2 b (by omega)]; exact h2 b hb hb2 hb3, tw, kw, ow, h3.ag ha (by omega)⟩, ?_, h5⟩
  rw [ha.2 (n + 1) (by omega)]
  exact h4
theorem screen_C {μ : Mm} {z : Zt3} (hB : CB n d t L tn μ0) (fu : Nat) (hfu : 300 ≤ fu) (h : CS n d L μ0 μ (zQ6 t L z)) (hz : z.1 = 0) : ∃ μ', fX5_parseScreen fu (n + 1) μ = some μ' ∧ CS n d L μ0 μ' (zHd t L z) ∧ CFs n d μ μ' ∧ ((zHd t L z).2.1 = 0 → PC μ' d (pHd t L z)) := by
  have hd : n + 13 ≤ d := by have := hB.2.2.2.2; omega
  obtain ⟨μ1, e1, c1, f1⟩ := nn_C hB h
  obtain ⟨W, eW⟩ : ∃ W, W = hW t L z := ⟨_, rfl⟩
  have hW1 : W < 65536 := by rw [eW]; exact zTw_b hB.ht
  have e1' : fX5_nextNumber (n + 1) μ = some (nI W, μ1) := by rw [eW]; exact e1
  obtain ⟨μ2, e2, c2, f2⟩ : ∃ μ2, (if fX9_isSide (nI W) = 0 then fX5_parseScreen_L19 fu (n + 1) (nI W) (fX5_refuse (n + 1) 3 6 μ1) else fX5_parseScreen_L19 fu (n + 1) (nI W) μ1) = fX5_parseScreen_L19 fu (n + 1) (nI W) μ2 ∧ CS n d L μ0 μ2 (zQ8 t L z) ∧ CF n μ1 μ2 := by
    rw [side_C hW1]
    unfold zQ8 zSd
    rw [eW]
    by_cases c : 1 ≤ hW t L z ∧ hW t L z ≤ 64
    · rw [if_pos c, if_neg (show ¬ (1 : Int32) = 0 by decide)]
      refine ⟨μ1, rfl, ?_, CF.rf⟩
      rw [if_pos (show 1 ≤ (zTw t L (zQ6 t L z)).1 ∧ (zTw t L (zQ6 t L z)).1 ≤ 64 from c)]
      exact c1
    · rw [if_neg c, if_pos rfl]
      obtain ⟨g1, g2⟩ := rf_C (k := 3) (kk := 3) (v := 6) hB c1 rfl (by decide)
      refine ⟨_, rfl, ?_, g2⟩
      rw [if_neg (show ¬ (1 ≤ (zTw t L (zQ6 t L z)).1 ∧ (zTw t L (zQ6 t L z)).1 ≤ 64) from c)]
      exact g1
  obtain ⟨μ3, e3, c3, f3⟩ := nn_C hB c2
  obtain ⟨H, eH⟩ : ∃ H, H = hH t L z := ⟨_, rfl⟩
  have hH1 : H < 65536 := by rw [eH]; exact zTw_b hB.ht
  have e3' : fX5_nextNumber (n + 1) μ2 = some (nI H, μ3) := by rw [eH]; exact e3
  obtain ⟨μ4, e4, c4, f4⟩ : ∃ μ4, (if fX9_isSide (nI H) = 0 then fX5_parseScreen_L38 fu (n + 1) (nI W) (nI H) (fX5_refuse (n + 1) 3 8 μ3) else fX5_parseScreen_L38 fu (n + 1) (nI W) (nI H) μ3) = fX5_parseScreen_L38 fu (n + 1) (nI W) (nI H) μ4 ∧ CS n d L μ0 μ4 (zQ10 t L z) ∧ CF n μ3 μ4 := by
    rw [side_C hH1]
    unfold zQ10 zSd
    rw [eH]
    by_cases c : 1 ≤ hH t L z ∧ hH t L z ≤ 64
    · rw [if_pos c, if_neg (show ¬ (1 : Int32) = 0 by decide)]
      refine ⟨μ3, rfl, ?_, CF.rf⟩
      rw [if_pos (show 1 ≤ (zTw t L (zQ8 t L z)).1 ∧ (zTw t L (zQ8 t L z)).1 ≤ 64 from c)]
      exact c3
    · rw [if_neg c, if_pos rfl]
      obtain ⟨g1, g2⟩ := rf_C (k := 3) (kk := 3) (v := 8) hB c3 rfl (by decide)
      refine ⟨_, rfl, ?_, g2⟩
      rw [if_neg (show ¬ (1 ≤ (zTw t L (zQ8 t L z)).1 ∧ (zTw t L (zQ8 t L z)).1 ≤ 64) from c)]
      exact g1
  obtain ⟨μ5, e5, c5, f5⟩ := nb_C hB c4
  obtain ⟨μ6, e6, c6, f6⟩ := nb_C hB c5
  obtain ⟨μ7, e7, c7, f7⟩ := nb_C hB c6
  obtain ⟨M, eM⟩ : ∃ M, M = hM t L z := ⟨_, rfl⟩
  obtain ⟨B, eB⟩ : ∃ B, B = hB' t L z := ⟨_, rfl⟩
  obtain ⟨A, eA⟩ : ∃ A, A = hA t L z := ⟨_, rfl⟩
  have hM8 : M < 256 := by rw [eM]; exact zB_b hB.ht
  obtain ⟨m1, m2, m3, m4⟩ := mk_dec M hM8
  have e5' : fX5_nextByte (n + 1) μ4 = some (nI M, μ5) := by rw [eM]; exact e5
  have e6' : fX5_nextByte (n + 1) μ5 = some (nI B, μ6) := by rw [eB]; exact e6
  have e7' : fX5_nextByte (n + 1) μ6 = some (nI A, μ7) := by rw [eA]; exact e7
  have c7' : CS n d L μ0 μ7 (zQ13 t L z) := by unfold zQ13; exact c7
  have f07 : CF n μ μ7 := (((((f1.tr f2).tr f3).tr f4).tr f5).tr f6).tr f7
  have run : fX5_parseScreen fu (n + 1) μ = (if μ7.1 (n + 1) 9 = 0 then bd (fX4_reset fu d (nI W) (nI H) (nI (mkS M)) (nI B) (nI A) μ7) fun μ8 => bd (fX5_parseTable fu (n + 1) (μ8.2 (μ8.2 (n + 1) 3) 5) μ8) fun μ9 => some μ9 else some μ7) := by
    unfold fX5_parseScreen
    rw [bd_e e1', lt'_e, lt'_e]
    dsimp only
    rw [show (lt' (fX5_refuse (n + 1) 3 6 μ1) fun μ4 => fX5_parseScreen_L19 fu (n + 1) (nI W) μ4) = fX5_parseScreen_L19 fu (n + 1) (nI W) (fX5_refuse (n + 1) 3 6 μ1) from rfl, e2]
    unfold fX5_parseScreen_L19
    rw [bd_e e3', lt'_e, lt'_e]
    dsimp only
    rw [show (lt' (fX5_refuse (n + 1) 3 8 μ3) fun μ4 => fX5_parseScreen_L38 fu (n + 1) (nI W) (nI H) μ4) = fX5_parseScreen_L38 fu (n + 1) (nI W) (nI H) (fX5_refuse (n + 1) 3 8 μ3) from rfl, e4]
    unfold fX5_parseScreen_L38
    rw [bd_e e5', lt'_e]
    dsimp only
    rw [bd_e e6', lt'_e]
    dsimp only
    rw [bd_e e7', lt'_e]
    dsimp only
    rw [m1, lt'_e, c7.1.1, hB.1.1.2.2.2]
  rw [run, c7'.2.1.2.2.1]
  have hz10 := c7'.2.2.2
  by_cases cz : (zQ13 t L z).2.1 = 0
  · rw [if_pos (show nI (zQ13 t L z).2.1 = 0 by rw [cz]; rfl)]
    have lp : LPi μ7 d := hB.2.1.eq c7'.1.1
    obtain ⟨μ8, e8, a8, g8, g9⟩ := reset_C (W := W) (H := H) (G := mkS M) (B := B) (As := A) lp m3 fu (by omega)
    have c8 := c7'.ag a8 hd
    rw [bd_e e8, c8.1.1, hB.1.1.2.2.2, hB.2.1.1]
    obtain ⟨μ9, e9, c9, f9, -, g10⟩ := pt_C hB fu (T := d + 1) (g := mkS M) (by omega) hB.2.1.2.2.1 m3 fu 0 μ8 _ (by omega) (by omega) c8 g8.2.2.1
    have e9' : fX5_parseTable fu (n + 1) (d + 1) μ8 = some μ9 := e9
    rw [bd_e e9']
    rw [Nat.sub_zero] at c9 g10
    have zh : zHd t L z = zS t L (3 * mkS M) (zQ13 t L z) := by unfold zHd; rw [eM]
    refine ⟨μ9, rfl, by rw [zh]; exact c9, (f07.s.tr (CFs.ag a8 hd)).tr (f9.s (by omega)), fun hl => ?_⟩
    obtain ⟨z1, z2, z3, z4, z5⟩ := zHd_l hz hB.ht hl
    rw [zh] at hl
    unfold pHd
    rw [← eW, ← eH, ← eM, ← eB, ← eA]
    refine gP_C (hB.2.1.eq c9.1.1) ?_ (fun k hk => ?_)
    · rw [f9.2.1 d (by omega) (by omega), f9.2.1 (d + 1) (by omega) (by omega)]
      exact g8
    · have := g10 hl k (by omega) hk
      rw [z2, Nat.sub_zero] at this
      exact this
  · rw [if_neg (nI_ne0 (by omega) (by omega))]
    have zh : zHd t L z = zQ13 t L z := by unfold zHd; exact zS_d _ _ cz
    exact ⟨μ7, rfl, by rw [zh]; exact c7', f07.s, fun q => absurd (by rw [← zh]; exact q) cz⟩
end HC
