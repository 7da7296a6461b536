/-! an IMAGE: the class -/
section IC
variable {n d L tn : Nat} {t : Nat → Nat} {μ0 : Mm}
def CFi (n : Nat) (μ μ' : Mm) : Prop := μ'.2 = μ.2 ∧ ∀ k, k ≠ 5 → k ≠ 7 → k ≠ 9 → k ≠ 10 → μ'.1 (n + 1) k = μ.1 (n + 1) k
theorem CFi.tr {μ μ1 μ2 : Mm} (h : CFi n μ μ1) (h1 : CFi n μ1 μ2) : CFi n μ μ2 := ⟨h1.1.trans h.1, fun k a b c e => (h1.2 k a b c e).trans (h.2 k a b c e)⟩
theorem CF.i {μ μ' : Mm} (h : CF n μ μ') : CFi n μ μ' := ⟨h.1, fun k a _ b c => h.2.2 k a b c⟩
theorem CFg.i {μ μ' : Mm} (h : CFg n μ μ') : CFi n μ μ' := ⟨h.1, fun k a _ b c => h.2.2 k a b c⟩
theorem CFx.i {μ μ' : Mm} (h : CFx n μ μ') : CFi n μ μ' := ⟨h.1, fun k a b c e => h.2.2 k a b c e⟩
theorem CFd.i {a : Nat} {μ μ' : Mm} (h : CFd n a μ μ') : CFi n μ μ' := ⟨h.1, fun k a _ b c => h.2.2 k a b c⟩
theorem Ag.i {lo hi : Nat} {μ μ' : Mm} (h : Ag μ μ' lo hi) (h1 : n + 2 ≤ lo ∨ hi ≤ n + 1) : CFi n μ μ' := ⟨h.1, fun k _ _ _ _ => by rw [h.2 (n + 1) (by omega)]⟩
theorem DFc.i {μ μ' : Mm} (h : DFc n μ μ') : CFi n μ μ' := ⟨h.1, fun k _ _ _ _ => by rw [h.2 (n + 1) (by omega) (by omega)]⟩
theorem CS.dfc {μ μ' : Mm} {z : Zt3} (h : CS n d L μ0 μ z) (hd : n + 13 ≤ d) (hf : DFc n μ μ') : CS n d L μ0 μ' z := by
  obtain ⟨⟨h1, h2, tw, kw, ow, h3⟩, h4, h5⟩ := h
  obtain ⟨b1, b2, b3, b4, b5⟩ := h3
  refine ⟨⟨hf.1.trans h1, fun b hb hb2 hb3 => by rw [hf.2 b (by omega) (by omega)]; exact h2 b hb hb2 hb3, tw, kw, ow, ⟨by rw [hf.1]; exact b1, by rw [hf.2 _ (by omega) (by omega)]; exact b2, b3, by rw [hf.2 _ (by omega) (by omega)]; exact b4, fun j hj => by rw [hf.2 _ (by omega) (by omega)]; exact b5 j hj⟩⟩, ?_, h5⟩
  rw [hf.2 (n + 1) (by omega) (by omega)]
  exact h4
theorem PC.lo {p : Nat} {P : Pic} {μ μ' : Mm} (h : PC μ p P) (hc : hd P 5 ≤ 24) (e2 : μ'.2 = μ.2) (hh : ∀ b, p ≤ b → b < p + 124 → μ'.1 b = μ.1 b) : PC μ' p P := by
  refine ⟨h.1.eq e2, ?_, fun f hf => ?_⟩
  · unfold PCh
    rw [hh p (by omega) (by omega), hh (p + 1) (by omega) (by omega), hh (p + 2) (by omega) (by omega)]
    exact h.2.1
  · unfold PCf
    rw [hh _ (by omega) (by omega), hh _ (by omega) (by omega), hh _ (by omega) (by omega), hh _ (by omega) (by omega), hh _ (by omega) (by omega)]
    exact h.2.2 f hf
theorem room_C {p : Nat} {P : Pic} {μ : Mm} (h : PC μ p P) (hc : hd P 5 ≤ 24) : fX4_hasRoom p μ = if hd P 5 < 24 then 1 else 0 := by
  unfold fX4_hasRoom
  rw [h.2.1.2.2.2.2.2.1]
  by_cases q : hd P 5 < 24
  · rw [if_neg (show ¬ (24 : Int32) ≤ nI (hd P 5) from nI_ge (b := 24) q (by decide)), if_pos q]
  · rw [if_pos (show (24 : Int32) ≤ nI (hd P 5) from nI_le (a := 24) (by omega) (by omega)), if_neg q]
theorem holds_C {p l tp w h : Nat} {P : Pic} {μ : Mm} (hp : PC μ p P) (hW : hd P 0 ≤ 64) (hH : hd P 1 ≤ 64) (hl : l < 65536) (ht : tp < 65536) (hw : w < 65536) (hh : h < 65536) : fX4_holds p (nI l) (nI tp) (nI w) (nI h) μ = if 1 ≤ w ∧ 1 ≤ h ∧ l + w ≤ hd P 0 ∧ tp + h ≤ hd P 1 then 1 else 0 := by
  unfold fX4_holds
  rw [hp.2.1.1, hp.2.1.2.1]
  by_cases q1 : 1 ≤ w
  · rw [if_neg (show ¬ nI w < 1 from nI_nlt (b := 1) q1 (by omega))]
    by_cases q2 : w ≤ hd P 0
    · rw [if_neg (nI_nlt q2 (by omega)), if_neg (nI_pos (by omega)), pk_sub q2]
      by_cases q3 : l + w ≤ hd P 0
      · rw [if_neg (nI_nlt (by omega) (by omega))]
        by_cases q4 : 1 ≤ h
        · rw [if_neg (show ¬ nI h < 1 from nI_nlt (b := 1) q4 (by omega))]
          by_cases q5 : h ≤ hd P 1
          · rw [if_neg (nI_nlt q5 (by omega)), if_neg (nI_pos (by omega)), pk_sub q5]
            by_cases q6 : tp + h ≤ hd P 1
            · rw [if_neg (nI_nlt (by omega) (by omega)), if_pos ⟨q1, q4, q3, q6⟩]
            · rw [if_pos (nI_lt (by omega) (by omega)), if_neg (fun q => q6 q.2.2.2)]
          · rw [if_pos (nI_lt (by omega) (by omega)), if_neg (fun q => by have := q.2.2.2; omega)]
        · rw [if_pos (show nI h < 1 from nI_lt (b := 1) (by omega) (by decide)), if_neg (fun q => q4 q.2.1)]
      · rw [if_pos (nI_lt (by omega) (by omega)), if_neg (fun q => q3 q.2.2.1)]
    · rw [if_pos (nI_lt (by omega) (by omega)), if_neg (fun q => by have := q.2.2.1; omega)]
  · rw [if_pos (show nI w < 1 from nI_lt (b := 1) (by omega) (by decide)), if_neg (fun q => q1 q.1)]
theorem gives_C {p g : Nat} {P : Pic} {μ : Mm} (hp : PC μ p P) (hG : hd P 2 ≤ 256) (hg : g ≤ 256) : fX4_givesTable p (nI g) μ = if g = 0 ∧ hd P 2 = 0 then 0 else 1 := by
  unfold fX4_givesTable
  rw [hp.1.1, hp.2.1.2.2.1]
  by_cases q1 : g = 0
  · rw [if_pos (show nI g = 0 by rw [q1]; rfl)]
    by_cases q2 : hd P 2 = 0
    · rw [if_pos (show nI (hd P 2) = 0 by rw [q2]; rfl), if_pos ⟨q1, q2⟩]
    · rw [if_neg (nI_ne0 (by omega) (by omega)), if_neg (fun q => q2 q.2)]
  · rw [if_neg (nI_ne0 (by omega) (by omega)), if_neg (fun q => q1 q.1)]
/-- up to the mark -/
theorem pf1_C {μ : Mm} {z : Zt3} {P : Pic} {pl : Int32} (hB : CB n d t L tn μ0) (fu : Nat) (h : CS n d L μ0 μ z) (hP : PC μ d P) (hV : VP P) : ∃ l tp w h m z4 μ1, fX5_parseFrame fu (n + 1) pl μ = fX5_parseFrame_L87 fu (n + 1) (nI l) (nI tp) (nI w) (nI h) (nI m) (nI (mkS m)) μ1 ∧ m = (zB t L (iA5 pl P l tp w h z4)).1 ∧ m < 256 ∧ (∀ pd, zIm t L pl P pd z = zK t L pl P pd l tp w h z4) ∧ CS n d L μ0 μ1 (iA7 pl P (mkS m) (zB t L (iA5 pl P l tp w h z4)).2) ∧ CF n μ μ1 := by
  have hd' : n + 13 ≤ d := by have := hB.2.2.2.2; omega
  obtain ⟨μ1, e1, c1, f1⟩ := nn_C hB h
  obtain ⟨μ2, e2, c2, f2⟩ := nn_C hB c1
  obtain ⟨μ3, e3, c3, f3⟩ := nn_C hB c2
  obtain ⟨μ4, e4, c4, f4⟩ := nn_C hB c3
  have b1 : (zTw t L z).1 < 65536 := zTw_b hB.ht
  have b2 : (zTw t L (zTw t L z).2).1 < 65536 := zTw_b hB.ht
  have b3 : (zTw t L (zTw t L (zTw t L z).2).2).1 < 65536 := zTw_b hB.ht
  have b4 : (zTw t L (zTw t L (zTw t L (zTw t L z).2).2).2).1 < 65536 := zTw_b hB.ht
  have em : ∀ pd, zIm t L pl P pd z = zK t L pl P pd (zTw t L z).1 (zTw t L (zTw t L z).2).1 (zTw t L (zTw t L (zTw t L z).2).2).1 (zTw t L (zTw t L (zTw t L (zTw t L z).2).2).2).1 (zTw t L (zTw t L (zTw t L (zTw t L z).2).2).2).2 := fun pd => by unfold zIm; rfl
  generalize (zTw t L (zTw t L (zTw t L (zTw t L z).2).2).2).2 = z4 at *
  generalize (zTw t L (zTw t L (zTw t L (zTw t L z).2).2).2).1 = hh at *
  generalize (zTw t L (zTw t L (zTw t L z).2).2).1 = w at *
  generalize (zTw t L (zTw t L z).2).1 = tp at *
  generalize (zTw t L z).1 = l at *
  have f04 : CF n μ μ4 := ((f1.tr f2).tr f3).tr f4
  have l3 : ∀ ν z', CS n d L μ0 ν z' → ν.2 (n + 1) 3 = d := fun ν z' hν => by rw [hν.1.1]; exact hB.1.1.2.2.2
  have P4 : PC μ4 d P := hP.lo hV.2.2.2.2.1 f04.1 (fun b h1 h2 => f04.2.1 b (by omega))
  obtain ⟨μ5, e5, c5, f5⟩ : ∃ μ5, (if fX4_hasRoom d μ4 = 0 then fX5_parseFrame_L48 fu (n + 1) pl (nI l) (nI tp) (nI w) (nI hh) μ4 else lt' (fX4_holds d (nI l) (nI tp) (nI w) (nI hh) μ4) fun x10 => if x10 = 0 then fX5_parseFrame_L48 fu (n + 1) pl (nI l) (nI tp) (nI w) (nI hh) μ4 else fX5_parseFrame_L55 fu (n + 1) pl (nI l) (nI tp) (nI w) (nI hh) μ4) = fX5_parseFrame_L55 fu (n + 1) pl (nI l) (nI tp) (nI w) (nI hh) μ5 ∧ CS n d L μ0 μ5 (iA5 pl P l tp w hh z4) ∧ CF n μ4 μ5 := by
    obtain ⟨g1, g2⟩ := rf_C (k := 6) (kk := 6) (v := pl) hB c4 rfl (by decide)
    have refu : fX5_parseFrame_L48 fu (n + 1) pl (nI l) (nI tp) (nI w) (nI hh) μ4 = fX5_parseFrame_L55 fu (n + 1) pl (nI l) (nI tp) (nI w) (nI hh) (fX5_refuse (n + 1) 6 pl μ4) := rfl
    rw [refu, room_C P4 hV.2.2.2.2.1, holds_C P4 hV.1.2.1 hV.1.2.2.2 b1 b2 b3 b4, lt'_e]
    unfold iA5
    by_cases q1 : hd P 5 < 24
    · rw [if_pos q1, if_neg (show ¬ (1 : Int32) = 0 by decide)]
      by_cases q2 : 1 ≤ w ∧ 1 ≤ hh ∧ l + w ≤ hd P 0 ∧ tp + hh ≤ hd P 1
      · rw [if_pos q2, if_neg (show ¬ (1 : Int32) = 0 by decide), if_pos ⟨q1, q2⟩]
        exact ⟨μ4, rfl, c4, CF.rf⟩
      · rw [if_neg q2, if_pos rfl, if_neg (fun q => q2 q.2)]
        exact ⟨_, rfl, g1, g2⟩
    · rw [if_neg q1, if_pos rfl, if_neg (fun q => q1 q.1)]
      exact ⟨_, rfl, g1, g2⟩
  obtain ⟨μ6, e6, c6, f6⟩ := nb_C hB c5
  obtain ⟨m, em2⟩ : ∃ m, m = (zB t L (iA5 pl P l tp w hh z4)).1 := ⟨_, rfl⟩
  have hm : m < 256 := by rw [em2]; exact zB_b hB.ht
  rw [← em2] at e6
  obtain ⟨m1, m2, m3, m4⟩ := mk_dec m hm
  have f06 : CF n μ μ6 := (f04.tr f5).tr f6
  have P6 : PC μ6 d P := hP.lo hV.2.2.2.2.1 f06.1 (fun b h1 h2 => f06.2.1 b (by omega))
  obtain ⟨μ7, e7, c7, f7⟩ : ∃ μ7, (if fX4_givesTable d (nI (mkS m)) μ6 = 0 then fX5_parseFrame_L87 fu (n + 1) (nI l) (nI tp) (nI w) (nI hh) (nI m) (nI (mkS m)) (fX5_refuse (n + 1) 7 pl μ6) else fX5_parseFrame_L87 fu (n + 1) (nI l) (nI tp) (nI w) (nI hh) (nI m) (nI (mkS m)) μ6) = fX5_parseFrame_L87 fu (n + 1) (nI l) (nI tp) (nI w) (nI hh) (nI m) (nI (mkS m)) μ7 ∧ CS n d L μ0 μ7 (iA7 pl P (mkS m) (zB t L (iA5 pl P l tp w hh z4)).2) ∧ CF n μ6 μ7 := by
    obtain ⟨g1, g2⟩ := rf_C (k := 7) (kk := 7) (v := pl) hB c6 rfl (by decide)
    rw [gives_C P6 (tsz_le hV.2.1) m3]
    unfold iA7
    by_cases q : mkS m = 0 ∧ hd P 2 = 0
    · rw [if_pos q, if_pos rfl, if_pos q]
      exact ⟨_, rfl, g1, g2⟩
    · rw [if_neg q, if_neg (show ¬ (1 : Int32) = 0 by decide), if_neg q]
      exact ⟨μ6, rfl, c6, CF.rf⟩
  refine ⟨l, tp, w, hh, m, z4, μ7, ?_, em2, hm, em, c7, f06.tr f7⟩
  unfold fX5_parseFrame
  rw [bd_e e1, lt'_e]
  dsimp only
  rw [bd_e e2, lt'_e]
  dsimp only
  rw [bd_e e3, lt'_e]
  dsimp only
  rw [bd_e e4, lt'_e]
  dsimp only
  rw [l3 _ _ c4, lt'_e, e5]
  unfold fX5_parseFrame_L55
  rw [bd_e e6, lt'_e]
  dsimp only
  rw [m1, lt'_e, l3 _ _ c6, lt'_e, lt'_e, e7]
/-- the FRAME added, its table -/
theorem pf2_C {μ : Mm} {z : Zt3} {P : Pic} {pd : Pd} {l tp w h g i : Nat} (hB : CB n d t L tn μ0) (fu : Nat) (hfu : 13000 ≤ fu) (hS : CS n d L μ0 μ z) (hp : PDC n μ pd) (hpo : PdO pd) (hP : PC μ d P) (hc : hd P 5 < 24) (hwh : w * h ≤ 4096) (hg : g ≤ 256) (hi : i ≤ 1) : ∃ μ' μ1, fX5_parseFrame_L121 fu (n + 1) d (nI l) (nI tp) (nI w) (nI h) (nI g) (nI i) μ = some (some (d + 4 + 5 * hd P 5), μ') ∧ CS n d L μ0 μ' (zS t L (3 * g) z) ∧ CFi n μ μ' ∧ PDC n μ' pd0 ∧ PC μ1 d (pF P l tp w h g i) ∧ μ1.2 = μ.2 ∧ (∀ b, d ≤ b → b < d + 124 → b ≠ d + 6 + 5 * hd P 5 → b ≠ d + 7 + 5 * hd P 5 → μ'.1 b = μ1.1 b) ∧ (μ'.1 (d + 7 + 5 * hd P 5) 0 = nI pd.2.1 ∧ μ'.1 (d + 7 + 5 * hd P 5) 1 = pd.2.2.1 ∧ μ'.1 (d + 7 + 5 * hd P 5) 2 = nI pd.2.2.2.1 ∧ μ'.1 (d + 7 + 5 * hd P 5) 3 = nI pd.2.2.2.2) ∧ ((zS t L (3 * g) z).2.1 = 0 → ∀ k, k < g → μ'.1 (d + 6 + 5 * hd P 5) k = tbC t z.1 k) := by
  have hd' : n + 13 ≤ d := by have := hB.2.2.2.2; omega
  obtain ⟨f, ef⟩ : ∃ f, f = hd P 5 := ⟨_, rfl⟩
  obtain ⟨μ1, e1, a1, P1⟩ := addFrame_C (l := l) (t := tp) (g := g) (i := i) fu (by omega) hP hc hwh hg hi
  have hF := P1.2.2 (hd P 5) (by rw [pF_c]; omega)
  unfold PCf at hF
  rw [pF_s.1.2.2.2.2.1] at hF
  have hL := P1.1.2.2.2 (hd P 5) hc
  rw [← ef] at e1 hF hL hc ⊢
  have S1 := hS.ag a1 hd'
  have pd1 : PDC n μ1 pd := by
    unfold PDC
    rw [a1.2 (n + 1) (by omega), a1.2 (n + 12) (by omega)]
    exact hp
  obtain ⟨μ2, x2⟩ : ∃ μ2, μ2 = si (si (si (si μ1 (d + 7 + 5 * f) 0 (nI pd.2.1)) (d + 7 + 5 * f) 1 pd.2.2.1) (d + 7 + 5 * f) 2 (nI pd.2.2.2.1)) (d + 7 + 5 * f) 3 (nI pd.2.2.2.2) := ⟨_, rfl⟩
  have a2 : Ag μ1 μ2 (d + 7 + 5 * f) (d + 8 + 5 * f) := by
    rw [x2]
    exact ((((Ag.wi (by omega) (by omega)).nsi (by omega) (by omega)).nsi (by omega) (by omega)).nsi (by omega) (by omega))
  have l12 : μ1.2 (n + 1) 2 = n + 12 := by rw [S1.1.1]; exact hB.1.1.2.2.1
  have e2 : fX8_copyFrom (μ1.2 (d + 4 + 5 * f) 6) (μ1.2 (n + 1) 2) μ1 = some μ2 := by
    unfold fX8_copyFrom
    rw [l12, hL.2.2.1, pd1.2.1, pd1.2.2.1, pd1.2.2.2.1, pd1.2.2.2.2, bd_e (become_C (by
      rcases (show pd.2.2.2.2 = 0 ∨ pd.2.2.2.2 = 1 by have := hpo.2.2.2.2; omega) with q | q
      · rw [q]; exact Or.inl rfl
      · rw [q]; exact Or.inr rfl)), x2]
  have S2 := S1.ag (a2.up (by omega) (by omega)) hd'
  obtain ⟨μ3, e3, S3, F3, pd3⟩ := dr_C hB S2
  have l5 : μ3.2 (d + 4 + 5 * f) 5 = d + 5 + 5 * f := by rw [F3.1, a2.1]; exact hL.2.1
  have g3 : μ3.1 (d + 5 + 5 * f) 1 = nI g := by
    rw [F3.2.1 _ (by omega) (by omega) (by omega) (by omega), a2.2 _ (by omega)]
    exact hF.2.1.1
  have lT : μ0.2 (d + 5 + 5 * f) 0 = d + 5 + 5 * f + 1 := by
    have := (hB.2.1.2.2.2 f hc).2.2.2.2
    rw [this]; omega
  obtain ⟨μ4, e4, S4, F4, -, t4⟩ := pt_C hB fu (T := d + 5 + 5 * f) (g := g) (by omega) lT hg fu 0 μ3 z (by omega) (by omega) S3 g3
  have e4' : fX5_parseTable fu (n + 1) (d + 5 + 5 * f) μ3 = some μ4 := e4
  rw [Nat.sub_zero] at S4 t4
  have ez : d + 5 + 5 * f + 1 = d + 6 + 5 * f := by omega
  rw [ez] at F4 t4
  have w3 : μ3.1 (d + 7 + 5 * f) = μ2.1 (d + 7 + 5 * f) := F3.2.1 _ (by omega) (by omega) (by omega) (by omega)
  have w4 : μ4.1 (d + 7 + 5 * f) = μ2.1 (d + 7 + 5 * f) := by rw [F4.2.1 _ (by omega) (by omega)]; exact w3
  refine ⟨μ4, μ1, ?_, S4, ?_, ?_, P1, a1.1, fun b h1 h2 h3 h4 => ?_, ?_, fun hl k hk => ?_⟩
  · unfold fX5_parseFrame_L121
    rw [bd_e e1, lt'_e]
    dsimp only
    rw [bd_e e2, bd_e e3, l5, bd_e e4']
  · exact (((a1.i (by omega)).tr (a2.i (by omega))).tr F3.i).tr F4.i
  · unfold PDC
    rw [F4.2.1 (n + 12) (by omega) (by omega), F4.2.2 7 (by decide) (by decide) (by decide)]
    exact pd3
  · rw [F4.2.1 b (by omega) (by omega), F3.2.1 b (by omega) (by omega) (by omega) (by omega), a2.2 b (by omega)]
  · rw [w4, x2]
    refine ⟨?_, ?_, ?_, si_k⟩
    · rw [si_j (by decide), si_j (by decide), si_j (by decide), si_k]
    · rw [si_j (by decide), si_j (by decide), si_k]
    · rw [si_j (by decide), si_k]
  · have := t4 hl k (by omega) hk
    rw [Nat.sub_zero] at this
    exact this
theorem zG_l {t : Nat → Nat} {L : Nat} {z : Zt3} (h : (zG t L z).2.1 = 0) : z.2.1 = 0 ∧ ∃ q, gM t L (L + 1) z.1 0 (fun _ => 0) = some q := by
  unfold zG at h
  by_cases q : z.2.1 = 0
  · refine ⟨q, ?_⟩
    rw [if_pos q] at h
    cases hq : gM t L (L + 1) z.1 0 (fun _ => 0) with
    | none => rw [hq] at h; exact absurd h (show ¬ (2 = 0) by decide)
    | some q => exact ⟨q, rfl⟩
  · rw [if_neg q] at h; exact absurd h q
theorem iB_l {t : Nat → Nat} {L : Nat} {z : Zt3} (h : (iB t L z).2.1 = 0) : (2 ≤ (zB t L z).1 ∧ (zB t L z).1 ≤ 8) ∧ iB t L z = (zB t L z).2 ∧ z.2.1 = 0 := by
  unfold iB at h ⊢
  by_cases q : 2 ≤ (zB t L z).1 ∧ (zB t L z).1 ≤ 8
  · rw [if_pos q] at h
    exact ⟨q, if_pos q, (zB_l h).1⟩
  · rw [if_neg q] at h
    exact absurd h (zW_l (by decide))
theorem zG_d {t : Nat → Nat} {L : Nat} {z : Zt3} (h : ¬ z.2.1 = 0) : zG t L z = z := by
  unfold zG; rw [if_neg h]
theorem iE_d {t : Nat → Nat} {L pl lim : Nat} {z : Zt3} (h : ¬ z.2.1 = 0) : iE t L pl lim z = z := by
  have e : iB t L z = z := by
    unfold iB
    rw [zB_d h]
    dsimp only
    rw [if_neg (by omega), zW_d h]
  unfold iE
  rw [e, zG_d h, if_neg h]
/-- up to the least length -/
theorem im2_C {μ : Mm} {z : Zt3} {n2 : Option Nat} (hB : CB n d t L tn μ0) (fu : Nat) (h : CS n d L μ0 μ z) : ∃ μ1, (lt' (μ.1 (n + 1) 5) fun x3 => bd (fX5_nextByte (n + 1) μ) fun q4 => lt' q4.1 fun x5 => if x5 < 2 then fX5_parseImage_L30 fu (n + 1) n2 x3 x5 q4.2 else if x5 ≤ 8 then fX5_parseImage_L37 fu (n + 1) n2 x3 x5 q4.2 else fX5_parseImage_L30 fu (n + 1) n2 x3 x5 q4.2) = fX5_parseImage_L37 fu (n + 1) n2 (nI z.1) (nI (zB t L z).1) μ1 ∧ CS n d L μ0 μ1 (iB t L z) ∧ CF n μ μ1 := by
  obtain ⟨μ1, e1, c1, f1⟩ := nb_C hB h
  have hb : (zB t L z).1 < 256 := zB_b hB.ht
  rw [lt'_e, bd_e e1, lt'_e, h.2.1.2.1]
  dsimp only
  obtain ⟨g1, g2⟩ := rf_C (k := 8) (kk := 8) (v := nI z.1) hB c1 rfl (by decide)
  have refu : fX5_parseImage_L30 fu (n + 1) n2 (nI z.1) (nI (zB t L z).1) μ1 = fX5_parseImage_L37 fu (n + 1) n2 (nI z.1) (nI (zB t L z).1) (fX5_refuse (n + 1) 8 (nI z.1) μ1) := rfl
  rw [refu]
  unfold iB
  by_cases q1 : 2 ≤ (zB t L z).1
  · rw [if_neg (show ¬ nI (zB t L z).1 < 2 from nI_nlt (b := 2) q1 (by omega))]
    by_cases q2 : (zB t L z).1 ≤ 8
    · rw [if_pos (show nI (zB t L z).1 ≤ 8 from nI_le (b := 8) q2 (by decide)), if_pos ⟨q1, q2⟩]
      exact ⟨μ1, rfl, c1, f1⟩
    · rw [if_neg (show ¬ nI (zB t L z).1 ≤ 8 from nI_ge (a := 8) (by omega) (by omega)), if_neg (fun q => q2 q.2)]
      exact ⟨_, rfl, g1, f1.tr g2⟩
  · rw [if_pos (show nI (zB t L z).1 < 2 from nI_lt (b := 2) (by omega) (by decide)), if_neg (fun q => q1 q.1)]
    exact ⟨_, rfl, g1, f1.tr g2⟩
/-- the rows, the codes, the places -/
theorem im3_C {μ : Mm} {z : Zt3} {f w h g G i lim : Nat} (hB : CB n d t L tn μ0) (fu : Nat) (hfu : 100000 ≤ fu) (hS : CS n d L μ0 μ (iB t L z)) (hf : f < 24) (hw : 1 ≤ w ∧ w ≤ 64) (hh : h ≤ 64) (hi : i ≤ 1) (hF : μ.1 (d + 4 + 5 * f) 2 = nI w ∧ μ.1 (d + 4 + 5 * f) 3 = nI h ∧ μ.1 (d + 4 + 5 * f) 4 = nI i) (hg : μ.1 (d + 5 + 5 * f) 1 = nI g) (hG : μ.1 (d + 1) 1 = nI G) (hlim : lim = if g = 0 then G else g) (hg2 : g ≤ 256 ∧ G ≤ 256) : ∃ μ', fX5_parseImage_L37 fu (n + 1) (some (d + 4 + 5 * f)) (nI z.1) (nI (zB t L z).1) μ = some μ' ∧ CS n d L μ0 μ' (iE t L (w * h) lim z) ∧ CFi n μ μ' ∧ (μ'.1 (n + 12) = μ.1 (n + 12) ∧ μ'.1 (n + 1) 7 = μ.1 (n + 1) 7) ∧ ((iE t L (w * h) lim z).2.1 = 0 → ∃ r, iD t L (w * h) lim z = some r ∧ (∀ k, k < w * h → μ'.1 (d + 8 + 5 * f) (plM w h i k) = nI (r k)) ∧ ∀ b, d ≤ b → b < d + 124 → b ≠ d + 8 + 5 * f → μ'.1 b = μ.1 b) := by
  have hd' : n + 13 ≤ d := by have := hB.2.2.2.2; omega
  have bwh := Nat.mul_le_mul hw.2 hh
  have hb8 : (zB t L z).1 < 256 := zB_b hB.ht
  obtain ⟨μ1, e1, c1, f1, g1⟩ := ga_C hB fu (by omega) hS
  have k1 : ∀ b, d ≤ b → b < d + 124 → μ1.1 b = μ.1 b := fun b h1 h2 => f1.2.1 b (by omega) (by omega) (by omega)
  have hL0 := hB.2.1.2.2.2 f hf
  have r1 : μ1.2 = μ0.2 := c1.1.1
  unfold fX5_parseImage_L37
  rw [bd_e e1, c1.2.1.2.2.1]
  by_cases q : (zG t L (iB t L z)).2.1 = 0
  · obtain ⟨q1, qq, eq⟩ := zG_l q
    obtain ⟨v1, v2, v3⟩ := iB_l q1
    have hBR := g1 q1 qq eq
    rw [if_pos (show nI (zG t L (iB t L z)).2.1 = 0 by rw [q]; rfl), oc_s]
    have ts : μ1.1 (fX4_tableOf (μ1.2 (n + 1) 3) (d + 4 + 5 * f) μ1) 1 = nI lim := by
      unfold fX4_tableOf
      rw [r1, hL0.2.1, hB.1.1.2.2.2, hB.2.1.1, k1 (d + 5 + 5 * f) (by omega) (by omega), hg, hlim]
      by_cases w1 : g = 0
      · rw [if_pos (show nI g = 0 by rw [w1]; rfl), if_pos w1, k1 _ (by omega) (by omega)]; exact hG
      · rw [if_neg (nI_ne0 (by omega) (by omega)), if_neg w1, k1 _ (by omega) (by omega)]; exact hg
    have sz : fX3_size (d + 4 + 5 * f) μ1 = nI (w * h) := by
      unfold fX3_size
      rw [k1 _ (by omega) (by omega), hF.1, hF.2.1, pk_mul]
    have hlim2 : lim ≤ 256 := by rw [hlim]; split <;> omega
    rw [lt'_e, lt'_e, sz, ts, show μ1.2 (n + 1) 1 = n + 4 by rw [r1]; exact hB.1.1.2.1]
    obtain ⟨b, μ2, e2, d2, r0, r1'⟩ := dec_C (e := (zB t L z).1) (pl := w * h) (lim := lim) fu hfu v1 hlim2 (by omega) (by rw [r1]; exact hB.1.2) hBR
    rw [bd_e e2]
    dsimp only
    have c2 := c1.dfc hd' d2
    have eD : iD t L (w * h) lim z = dA qq.2.2 qq.2.1 (zB t L z).1 (w * h) lim := by unfold iD; rw [eq]; rfl
    have k2 : ∀ b, d ≤ b → b < d + 124 → μ2.1 b = μ.1 b := fun b h1 h2 => by rw [d2.2 b (by omega) (by omega)]; exact k1 b h1 h2
    have kp : (μ2.1 (n + 12) = μ.1 (n + 12) ∧ μ2.1 (n + 1) 7 = μ.1 (n + 1) 7) := by
      rw [d2.2 (n + 12) (by omega) (by omega), d2.2 (n + 1) (by omega) (by omega)]
      exact ⟨f1.2.1 _ (by omega) (by omega) (by omega), f1.2.2 7 (by decide) (by decide) (by decide)⟩
    unfold iE
    rw [if_pos q, eD]
    cases hr : dA qq.2.2 qq.2.1 (zB t L z).1 (w * h) lim with
    | none =>
      obtain ⟨g2, g3⟩ := rf_C (k := 9) (kk := 9) (v := nI z.1) hB c2 rfl (by decide)
      rw [if_pos (r0 hr), if_neg (show ¬ (none : Option Nf).isSome = true by decide), lt'_e]
      refine ⟨_, rfl, g2, (f1.i.tr d2.i).tr g3.i, ?_, fun hl => absurd hl (zW_l (by decide))⟩
      rw [g3.2.1 _ (by omega), g3.2.2 7 (by decide) (by decide) (by decide)]
      exact kp
    | some r =>
      obtain ⟨b1, o1⟩ := r1' r hr
      rw [if_neg (show ¬ b = 0 by rw [b1]; decide), if_pos (show (some r).isSome = true from rfl)]
      have r2 : μ2.2 = μ0.2 := c2.1.1
      have l1 : μ2.2 (μ2.2 (n + 1) 1) 1 = n + 7 := by rw [r2, hB.1.1.2.1]; exact hB.1.2.2.1
      rw [l1]
      obtain ⟨μ3, e3, a3, g3⟩ := from_loop (F := d + 4 + 5 * f) (q := d + 8 + 5 * f) (O := n + 7) fu (by omega) hi hw hh (by omega) (by omega) fu 0 μ2 (by omega) (by omega) (by rw [r2]; exact hL0.2.2.2.1) (by rw [k2 _ (by omega) (by omega)]; exact hF) (fun k hk => by omega)
      have e3' : fX3_fromStreamOrder fu (d + 4 + 5 * f) (n + 7) μ2 = some μ3 := e3
      rw [bd_e e3']
      refine ⟨μ3, rfl, c2.ag (a3.up (by omega) (by omega)) hd', (f1.i.tr d2.i).tr (a3.i (by omega)), ?_, fun _ => ⟨r, rfl, fun k hk => ?_, fun b h1 h2 h3 => ?_⟩⟩
      · rw [a3.2 _ (by omega), a3.2 _ (by omega)]; exact kp
      · rw [g3 k hk]; exact o1 k hk
      · rw [a3.2 b (by omega)]; exact k2 b h1 h2
  · rw [if_neg (nI_ne0 (by have := c1.2.2.2; omega) (by have := c1.2.2.2; omega))]
    unfold iE
    rw [if_neg q]
    exact ⟨μ1, rfl, c1, f1.i, ⟨f1.2.1 _ (by omega) (by omega) (by omega), f1.2.2 7 (by decide) (by decide) (by decide)⟩, fun hl => absurd hl q⟩
theorem dA_lim {D : Nf} {c e pl lim : Nat} {r : Nf} (h : dA D c e pl lim = some r) : ∀ k, k < pl → r k < lim := by
  unfold dA at h
  split at h
  · exact dM_lim _ _ _ _ _ _ _ _ _ _ _ _ (fun k hk => by omega) h
  · cases h
theorem iD_lim {pl lim : Nat} {z : Zt3} {r : Nf} (h : iD t L pl lim z = some r) : ∀ k, k < pl → r k < lim := by
  unfold iD at h
  cases hq : gM t L (L + 1) (iB t L z).1 0 (fun _ => 0) with
  | none => rw [hq] at h; cases h
  | some q => rw [hq] at h; exact dA_lim h
theorem iE_l {pl lim : Nat} {z : Zt3} (h : (iE t L pl lim z).2.1 = 0) : z.2.1 = 0 ∧ ∃ r, iD t L pl lim z = some r := by
  unfold iE at h
  by_cases q : (zG t L (iB t L z)).2.1 = 0
  · rw [if_pos q] at h
    by_cases q2 : (iD t L pl lim z).isSome = true
    · exact ⟨(iB_l (zG_l q).1).2.2, Option.isSome_iff_exists.mp q2⟩
    · rw [if_neg q2] at h; exact absurd h (zW_l (by decide))
  · rw [if_neg q] at h; exact absurd h q
/-- the picture that an IMAGE makes -/
theorem zK_V {pl : Int32} {P : Pic} {pd : Pd} {l tp w h : Nat} {z : Zt3} (ht : ∀ j, j < L → t j < 256) (hV : VP P) (hpo : PdO pd) (hl : (zK t L pl P pd l tp w h z).1.2.1 = 0) : VP (zK t L pl P pd l tp w h z).2 := by
  unfold zK at hl ⊢
  obtain ⟨m, em⟩ : ∃ m, m = (zB t L (iA5 pl P l tp w h z)).1 := ⟨_, rfl⟩
  have hm : m < 256 := by rw [em]; exact zB_b ht
  obtain ⟨m1, m2, m3, m4⟩ := mk_dec m hm
  obtain ⟨z7, e7⟩ : ∃ z7, z7 = iA7 pl P (mkS m) (zB t L (iA5 pl P l tp w h z)).2 := ⟨_, rfl⟩
  rw [← em, ← e7] at hl ⊢
  unfold zJ at hl ⊢
  by_cases q : z7.2.1 = 0
  · rw [if_pos q] at hl ⊢
    obtain ⟨r, hr⟩ := (iE_l hl).2
    have q' : (iA7 pl P (mkS (zB t L (iA5 pl P l tp w h z)).1) (zB t L (iA5 pl P l tp w h z)).2).2.1 = 0 := by rw [← em, ← e7]; exact q
    obtain ⟨a, b, c, d, e, g⟩ := zK_l q'
    rw [← em] at g
    rw [hr]
    exact pGf_V hV a b c d e m4 (by omega) g hpo (fun k hk => pX_lt (iD_lim hr) hk)
  · rw [if_neg q] at hl; exact absurd hl q
theorem im_C {μ : Mm} {z : Zt3} {P : Pic} {pd : Pd} {pl : Int32} (hB : CB n d t L tn μ0) (fu : Nat) (hfu : 100000 ≤ fu) (hS : CS n d L μ0 μ z) (hp : PDC n μ pd) (hpo : PdO pd) (hP : PC μ d P) (hV : VP P) : ∃ μ', fX5_parseImage fu (n + 1) pl μ = some μ' ∧ CS n d L μ0 μ' (zIm t L pl P pd z).1 ∧ CFi n μ μ' ∧ ((zIm t L pl P pd z).1.2.1 = 0 → PC μ' d (zIm t L pl P pd z).2 ∧ PDC n μ' pd0) := by
  have hd' : n + 13 ≤ d := by have := hB.2.2.2.2; omega
  obtain ⟨l, tp, w, h, m, z4, μ1, e1, em, hm, eI, c1, f1⟩ := pf1_C (pl := pl) hB fu hS hP hV
  rw [eI pd]
  unfold zK
  rw [← em]
  obtain ⟨m1, m2, m3, m4⟩ := mk_dec m hm
  obtain ⟨b61, b62⟩ := bit6 m hm
  obtain ⟨z7, e7⟩ : ∃ z7, z7 = iA7 pl P (mkS m) (zB t L (iA5 pl P l tp w h z4)).2 := ⟨_, rfl⟩
  rw [← e7] at c1 ⊢
  have P1 : PC μ1 d P := hP.lo hV.2.2.2.2.1 f1.1 (fun b h1 h2 => f1.2.1 b (by omega))
  have pd1 : PDC n μ1 pd := hp.g f1.g
  unfold zJ fX5_parseImage
  by_cases q : z7.2.1 = 0
  · have q' : (iA7 pl P (mkS (zB t L (iA5 pl P l tp w h z4)).1) (zB t L (iA5 pl P l tp w h z4)).2).2.1 = 0 := by rw [← em, ← e7]; exact q
    obtain ⟨c5, hw1, hh1, hlw, hth, hgt⟩ := zK_l q'
    rw [← em] at hgt
    have hw : 1 ≤ w ∧ w ≤ 64 := ⟨hw1, by have := hV.1.2.1; omega⟩
    have hh : h ≤ 64 := by have := hV.1.2.2.2; omega
    have bwh := Nat.mul_le_mul hw.2 hh
    obtain ⟨μ2, ν, e2, c2, f2, pd2, Pn, rn, kn, wn, tn'⟩ := pf2_C (l := l) (tp := tp) (w := w) (h := h) (g := mkS m) (i := m / 64 % 2) hB fu (by omega) c1 pd1 hpo P1 c5 (by omega) m3 (by omega)
    have run : fX5_parseFrame fu (n + 1) pl μ = some (some (d + 4 + 5 * hd P 5), μ2) := by
      rw [e1]
      unfold fX5_parseFrame_L87
      rw [c1.2.1.2.2.1, if_pos (show nI z7.2.1 = 0 by rw [q]; rfl), show μ1.2 (n + 1) 3 = d by rw [c1.1.1]; exact hB.1.1.2.2.2]
      by_cases q6 : m / 64 % 2 = 0
      · rw [if_pos (b61.mpr q6)]
        rw [q6] at e2
        exact e2
      · rw [if_neg (fun x => q6 (b61.mp x))]
        rw [show m / 64 % 2 = 1 by omega] at e2
        exact e2
    rw [bd_e run, lt'_e, if_pos q]
    dsimp only
    obtain ⟨μ3, e3, c3, f3⟩ := im2_C (n2 := some (d + 4 + 5 * hd P 5)) hB fu c2
    rw [e3]
    obtain ⟨⟨a0, a1, a2, a3, a4, a5, a6, a8, a9⟩, at', al, ax⟩ := pF_s (P := P) (l := l) (t := tp) (w := w) (h := h) (g := mkS m) (i := m / 64 % 2)
    have hFr := Pn.2.2 (hd P 5) (by rw [pF_c]; omega)
    unfold PCf at hFr
    rw [a0, a1, a2, a3, a4, a5] at hFr
    have hHd := Pn.2.1.2.2.1
    rw [pF_h (by decide)] at hHd
    have k3 : ∀ b, d ≤ b → b < d + 124 → μ3.1 b = μ2.1 b := fun b h1 h2 => f3.2.1 b (by omega)
    obtain ⟨μ4, e4, c4, f4, p4, g4⟩ := im3_C (f := hd P 5) (w := w) (h := h) (g := mkS m) (G := hd P 2) (i := m / 64 % 2) (lim := tbl P (mkS m)) hB fu hfu c3 c5 hw hh (by omega) (by rw [k3 _ (by omega) (by omega), kn _ (by omega) (by omega) (by omega) (by omega)]; exact ⟨hFr.1.2.2.1, hFr.1.2.2.2.1, hFr.1.2.2.2.2⟩) (by rw [k3 _ (by omega) (by omega), kn _ (by omega) (by omega) (by omega) (by omega)]; exact hFr.2.1.1) (by rw [k3 _ (by omega) (by omega), kn _ (by omega) (by omega) (by omega) (by omega)]; exact hHd) rfl ⟨m3, tsz_le hV.2.1⟩
    refine ⟨μ4, e4, c4, ((f1.i.tr f2).tr f3.i).tr f4, fun hl => ?_⟩
    obtain ⟨r, hr, hpl, hk⟩ := g4 hl
    have z8 : (zS t L (3 * mkS m) z7).2.1 = 0 := (iE_l hl).1
    rw [hr]
    refine ⟨pGf_C Pn (by rw [f4.1, f3.1, f2.1, ← rn]) (fun b h1 h2 h3 h4 h5 => ?_) c5 (fun k hk2 => ?_) ?_ (fun k hk2 => ?_), ?_⟩
    · rw [hk b h1 h2 h5, k3 b h1 h2, kn b h1 h2 h3 h4]
    · rw [hk _ (by omega) (by omega) (by omega), k3 _ (by omega) (by omega)]
      exact tn' z8 k hk2
    · rw [hk _ (by omega) (by omega) (by omega), k3 _ (by omega) (by omega)]
      exact wn
    · obtain ⟨j, hj, ej⟩ := plM_sur (il := m / 64 % 2) hk2
      rw [← ej, hpl j hj]
      show nI (r j) = nI (pX w h (m / 64 % 2) r (plM w h (m / 64 % 2) j))
      rw [pX_k hj]
    · unfold PDC
      rw [p4.1, p4.2, f3.2.1 (n + 12) (by omega), f3.2.2 7 (by decide) (by decide) (by decide)]
      exact pd2
  · have run : fX5_parseFrame fu (n + 1) pl μ = some (none, μ1) := by
      rw [e1]
      unfold fX5_parseFrame_L87
      rw [c1.2.1.2.2.1, if_neg (nI_ne0 (by have := c1.2.2.2; omega) (by have := c1.2.2.2; omega))]
    rw [bd_e run, lt'_e, if_neg q]
    dsimp only
    obtain ⟨μ3, e3, c3, f3⟩ := im2_C (n2 := none) hB fu c1
    rw [e3]
    have eB : iB t L z7 = z7 := by
      unfold iB
      rw [zB_d q]
      dsimp only
      rw [if_neg (by omega), zW_d q]
    rw [eB] at c3
    obtain ⟨μ4, e4, c4, f4, -⟩ := ga_C hB fu (by omega) c3
    rw [zG_d q] at c4
    unfold fX5_parseImage_L37
    rw [bd_e e4, c4.2.1.2.2.1, if_neg (nI_ne0 (by have := c1.2.2.2; omega) (by have := c1.2.2.2; omega))]
    exact ⟨μ4, rfl, c4, (f1.i.tr f3.i).tr f4.i, fun hl => absurd hl q⟩
end IC
