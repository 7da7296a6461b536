/-! the head: the reference -/
section HR
variable {y s L tn : Nat} {t : Nat → Nat} {μ0 : Mm}
theorem RS.into {μ : Mm} {z : Zt3} (hB : RBs y s t L tn μ0) (h : RS y s L μ0 μ z) : μ.1 y 14 = nI (1 - s) := by rw [h.1.2.2.2.2.1.2.2.2.2]; exact hB.2.1.2.2.1
theorem ms_R {μ : Mm} {z : Zt3} (hB : RBs y s t L tn μ0) {k : Nat} {kk : Int32} (hkk : kk = nI k) (hk : k < 256) (h : RS y s L μ0 μ z) : ∃ μ', fX10_must y kk 0 μ = some μ' ∧ RS y s L μ0 μ' (zMs t L k z) ∧ RFr y μ μ' := by
  subst hkk
  obtain ⟨μ1, e1, c1, f1⟩ := on_R hB h
  have hb := zB_b (z := z) hB.ht
  unfold fX10_must zMs
  rw [bd_e e1]
  dsimp only
  by_cases c : (zB t L z).1 = k
  · rw [if_pos (show nI (zB t L z).1 = nI k by rw [c]), if_pos c]
    exact ⟨μ1, rfl, c1, f1⟩
  · rw [if_neg (fun q => c ((nI_eq (by omega) (by omega)).mp q)), if_neg c, lt'_e]
    obtain ⟨g1, g2⟩ := wr_R (k := 1) (kk := 1) (v := 0) c1 rfl (by decide)
    exact ⟨_, rfl, g1, f1.tr g2⟩
def RFh (y : Nat) (μ μ' : Mm) : Prop := μ'.2 = μ.2 ∧ (∀ b, b ≠ y → b ≠ y + 3 → μ'.1 b = μ.1 b) ∧ ∀ k, k ≠ 4 → k ≠ 5 → k ≠ 12 → μ'.1 y k = μ.1 y k
theorem RFr.h {μ μ' : Mm} (h : RFr y μ μ') : RFh y μ μ' := ⟨h.1, fun b h1 _ => h.2.1 b h1, h.2.2⟩
theorem RFh.tr {μ μ1 μ2 : Mm} (h : RFh y μ μ1) (h1 : RFh y μ1 μ2) : RFh y μ μ2 := ⟨h1.1.trans h.1, fun b hb hb2 => (h1.2.1 b hb hb2).trans (h.2.1 b hb hb2), fun k a b c => (h1.2.2 k a b c).trans (h.2.2 k a b c)⟩
theorem RFh.wi {μ : Mm} {k : Nat} {v : Int32} : RFh y μ (si μ (y + 3) k v) := ⟨rfl, fun b _ hb => si_b hb, fun k _ _ _ => by rw [si_b (by omega)]⟩
theorem sd_R {μ : Mm} {z : Zt3} (hB : RBs y s t L tn μ0) (fu N : Nat) {k : Nat} (hk : k < 2) (h : RS y s L μ0 μ z) : ∃ μ', fX10_readHead_L75 fu (N + 1) y (nI k) μ = fX10_readHead_L75 fu N y (nI (k + 1)) μ' ∧ RS y s L μ0 μ' (zSd t L (nI z.1) z) ∧ RFh y μ μ' ∧ μ'.1 (y + 3) (6 * (1 - s) + k) = nI (zTw t L z).1 ∧ ∀ j, j ≠ 6 * (1 - s) + k → μ'.1 (y + 3) j = μ.1 (y + 3) j := by
  have hs := hB.2.1.1
  obtain ⟨μ1, e1, c1, f1⟩ := tw_R hB h
  obtain ⟨v, ev⟩ : ∃ v, v = (zTw t L z).1 := ⟨_, rfl⟩
  have hv : v < 65536 := by rw [ev]; exact zTw_b hB.ht
  rw [← ev] at e1 ⊢
  have fin : ∀ (ν : Mm) (z' : Zt3), RS y s L μ0 ν z' → RFr y μ ν → ∃ μ', fX10_readHead_L110 (fX10_readHead_L75 fu N) fu y (nI k) (nI v) ν = fX10_readHead_L75 fu N y (nI (k + 1)) μ' ∧ RS y s L μ0 μ' z' ∧ RFh y μ μ' ∧ μ'.1 (y + 3) (6 * (1 - s) + k) = nI v ∧ ∀ j, j ≠ 6 * (1 - s) + k → μ'.1 (y + 3) j = μ.1 (y + 3) j := by
    intro ν z' hν fν
    refine ⟨si ν (y + 3) (6 * (1 - s) + k) (nI v), ?_, hν.wi (by omega), fν.h.tr RFh.wi, si_k, fun j hj => ?_⟩
    · unfold fX10_readHead_L110
      have l7 : ν.2 y 7 = y + 3 := by rw [hν.1.1]; exact hB.1.2.2.1
      rw [hν.into hB, six_ix (v := nI k) k rfl, r_ib (by omega) (by decide), nI_clamp (by omega), l7, lt'_e, lt'_e, nI_1]
    · rw [si_j hj, fν.2.1 _ (by omega)]
  show ∃ μ', fX10_readHead_B75 (fX10_readHead_L75 fu N) fu y (nI k) μ = _ ∧ _
  unfold fX10_readHead_B75 zSd
  rw [if_neg (show ¬ (2 : Int32) ≤ nI k from nI_ge (b := 2) hk (by decide)), lt'_e, bd_e e1, lt'_e, h.2.1.1, ← ev]
  dsimp only
  have bad : ¬ (1 ≤ v ∧ v ≤ 64) → ∃ μ', fX10_readHead_L104 (fX10_readHead_L75 fu N) fu y (nI k) (nI z.1) (nI v) μ1 = fX10_readHead_L75 fu N y (nI (k + 1)) μ' ∧ RS y s L μ0 μ' (if 1 ≤ v ∧ v ≤ 64 then (zTw t L z).2 else zW 3 (nI z.1) (zTw t L z).2) ∧ RFh y μ μ' ∧ μ'.1 (y + 3) (6 * (1 - s) + k) = nI v ∧ ∀ j, j ≠ 6 * (1 - s) + k → μ'.1 (y + 3) j = μ.1 (y + 3) j := fun q => by
    rw [if_neg q]
    obtain ⟨g1, g2⟩ := wr_R (k := 3) (kk := 3) (v := nI z.1) c1 rfl (by decide)
    exact fin _ _ g1 (f1.tr g2)
  by_cases q1 : v < 1
  · rw [if_pos (show nI v < 1 from nI_lt (b := 1) q1 (by decide))]
    exact bad (by omega)
  · rw [if_neg (show ¬ nI v < 1 from nI_nlt (b := 1) (by omega) (by omega))]
    by_cases q2 : v ≤ 64
    · rw [if_pos (show nI v ≤ 64 from nI_le (b := 64) q2 (by decide)), if_pos (show 1 ≤ v ∧ v ≤ 64 by omega)]
      exact fin _ _ c1 f1
    · rw [if_neg (show ¬ nI v ≤ 64 from nI_ge (a := 64) (by omega) (by omega))]
      exact bad (by omega)
/-- behind the two sides -/
theorem hd2_R {μ : Mm} {z : Zt3} (hB : RBs y s t L tn μ0) (fu N : Nat) (hfu : 300 ≤ fu) (h : RS y s L μ0 μ (zQ10 t L z)) (hz : z.1 = 0) (hw : μ.1 (y + 3) (6 * (1 - s)) = nI (hW t L z)) (hh : μ.1 (y + 3) (6 * (1 - s) + 1) = nI (hH t L z)) : ∃ μ', fX10_readHead_L75 fu (N + 1) y (nI 2) μ = some μ' ∧ RS y s L μ0 μ' (zHd t L z) ∧ μ'.1 y 15 = μ.1 y 15 ∧ ((zHd t L z).2.1 = 0 → PR μ' y (1 - s) (pHd t L z)) := by
  have hs := hB.2.1.1
  obtain ⟨μ1, e1, c1, f1⟩ := on_R hB h
  obtain ⟨μ2, e2, c2, f2⟩ := on_R hB c1
  obtain ⟨M, eM⟩ : ∃ M, M = hM t L z := ⟨_, rfl⟩
  obtain ⟨B, eB⟩ : ∃ B, B = hB' t L z := ⟨_, rfl⟩
  obtain ⟨A, eA⟩ : ∃ A, A = hA t L z := ⟨_, rfl⟩
  have e1' : fX10_one y μ = some (nI M, μ1) := by rw [eM]; exact e1
  have e2' : fX10_one y μ1 = some (nI B, μ2) := by rw [eB]; exact e2
  have hM8 : M < 256 := by rw [eM]; exact zB_b hB.ht
  obtain ⟨m1, m2, m3, m4⟩ := mk_dec M hM8
  obtain ⟨ν1, x1⟩ : ∃ ν1, ν1 = si μ2 (y + 3) (6 * (1 - s) + 3) (nI B) := ⟨_, rfl⟩
  have cn1 : RS y s L μ0 ν1 (zB t L (zB t L (zQ10 t L z)).2).2 := by rw [x1]; exact c2.wi (by omega)
  obtain ⟨μ3, e3, c3, f3⟩ := on_R hB cn1
  have e3' : fX10_one y ν1 = some (nI A, μ3) := by rw [eA]; exact e3
  have c3' : RS y s L μ0 μ3 (zQ13 t L z) := by unfold zQ13; exact c3
  obtain ⟨ν2, x2⟩ : ∃ ν2, ν2 = si μ3 (y + 3) (6 * (1 - s) + 4) (nI A) := ⟨_, rfl⟩
  have cn2 : RS y s L μ0 ν2 (zQ13 t L z) := by rw [x2]; exact c3'.wi (by omega)
  obtain ⟨ν3, x3⟩ : ∃ ν3, ν3 = si ν2 (y + 3) (6 * (1 - s) + 5) 0 := ⟨_, rfl⟩
  have cn3 : RS y s L μ0 ν3 (zQ13 t L z) := by rw [x3]; exact cn2.wi (by omega)
  obtain ⟨ν4, x4⟩ : ∃ ν4, ν4 = si ν3 (y + 3) (6 * (1 - s) + 2) (nI (mkS M)) := ⟨_, rfl⟩
  have cn4 : RS y s L μ0 ν4 (zQ13 t L z) := by rw [x4]; exact cn3.wi (by omega)
  have f04 : RFh y μ ν4 := by
    have g1 : RFh y μ ν1 := by rw [x1]; exact (f1.tr f2).h.tr RFh.wi
    have g2 : RFh y μ ν2 := by rw [x2]; exact (g1.tr f3.h).tr RFh.wi
    have g3 : RFh y μ ν3 := by rw [x3]; exact g2.tr RFh.wi
    rw [x4]; exact g3.tr RFh.wi
  have l7 : ∀ (ν : Mm) (z' : Zt3), RS y s L μ0 ν z' → ν.2 y 7 = y + 3 := fun ν z' hν => by rw [hν.1.1]; exact hB.1.2.2.1
  have hd2 : ν4.1 (y + 3) (6 * (1 - s) + 2) = nI (mkS M) := by rw [x4, si_k]
  obtain ⟨μ5, e5, c5, f5, -, g5⟩ := rt_R hB fu 512 (A := y + 4) (F := 256 * (1 - s)) (g := mkS M) (by omega) (by omega) (by decide) (fun μ z k v hk hh => hh.wi (by omega)) fu 0 ν4 _ (by omega) (by omega) cn4
  have c217 : fX10_readHead_L217 fu y (y + 3) (nI (6 * (1 - s) + 2)) (nI (mkS M)) ν3 = some μ5 := by
    unfold fX10_readHead_L217
    have l8 : ν4.2 y 8 = y + 4 := by rw [cn4.1.1]; exact hB.1.2.2.2.1
    rw [r_ib (by omega) (by decide), nI_clamp (by omega), lt'_e, ← x4, cn4.into hB, six_ix (v := 2) 2 rfl, r_ib (by omega) (by decide), l7 _ _ cn4, l8, nI_clamp (by omega), hd2, show (256 : Int32) * nI (1 - s) = nI (256 * (1 - s)) from pk_mul 256 (1 - s)]
    have e5' : fX10_readTable fu 512 y (y + 4) (nI (256 * (1 - s))) (nI (mkS M)) ν4 = some μ5 := e5
    rw [bd_e e5']
  have run : fX10_readHead_L75 fu (N + 1) y (nI 2) μ = some μ5 := by
    show fX10_readHead_B75 (fX10_readHead_L75 fu N) fu y (nI 2) μ = _
    unfold fX10_readHead_B75
    rw [if_pos (show (2 : Int32) ≤ nI 2 by decide), bd_e e1', lt'_e]
    dsimp only
    rw [bd_e e2']
    dsimp only
    rw [c1.into hB, six_ix (v := 3) 3 rfl, r_ib (by omega) (by decide), l7 _ _ c1, nI_clamp (by omega), lt'_e, ← x1, bd_e e3']
    dsimp only
    rw [cn1.into hB, six_ix (v := 4) 4 rfl, r_ib (by omega) (by decide), l7 _ _ cn1, nI_clamp (by omega), lt'_e, ← x2, cn2.into hB, six_ix (v := 5) 5 rfl, r_ib (by omega) (by decide), l7 _ _ cn2, nI_clamp (by omega), lt'_e, ← x3, cn3.into hB, six_ix (v := 2) 2 rfl, l7 _ _ cn3]
    by_cases q : M < 128
    · rw [if_pos (show nI M ≤ 127 from nI_le (b := 127) (by omega) (by decide))]
      have : mkS M = 0 := by unfold mkS; rw [if_pos q]
      rw [this] at c217
      exact c217
    · rw [if_neg (show ¬ nI M ≤ 127 from nI_ge (a := 127) (by omega) (by omega)), m2.resolve_left q]
      exact c217
  rw [Nat.sub_zero] at c5 g5
  have zh : zHd t L z = zS t L (3 * mkS M) (zQ13 t L z) := by unfold zHd; rw [eM]
  refine ⟨μ5, run, by rw [zh]; exact c5, ?_, fun hl => ?_⟩
  · rw [f5.2.2 15 (by decide) (by decide) (by decide), f04.2.2 15 (by decide) (by decide) (by decide)]
  · obtain ⟨z1, z2, z3, z4, z5⟩ := zHd_l hz hB.ht hl
    rw [zh] at hl
    have k3 : μ5.1 (y + 3) = ν4.1 (y + 3) := f5.2.1 _ (by omega) (by omega)
    have k0 : ∀ j, j < 6 * (1 - s) + 2 → ν4.1 (y + 3) j = μ.1 (y + 3) j := fun j hj => by
      rw [x4, si_j (by omega), x3, si_j (by omega), x2, si_j (by omega), f3.2.1 _ (by omega), x1, si_j (by omega), f2.2.1 _ (by omega), f1.2.1 _ (by omega)]
    unfold pHd
    rw [← eM, ← eB, ← eA]
    refine gP_R ?_ (fun k hk => ?_)
    · rw [k3, k0 _ (by omega), k0 _ (by omega), hd2]
      refine ⟨hw, hh, rfl, ?_, ?_, ?_⟩
      · rw [x4, si_j (by omega), x3, si_j (by omega), x2, si_j (by omega), f3.2.1 _ (by omega), x1, si_k]
      · rw [x4, si_j (by omega), x3, si_j (by omega), x2, si_k]
      · rw [x4, si_j (by omega), x3, si_k]; rfl
    · have := g5 hl k (by omega) hk
      rw [z2, Nat.sub_zero] at this
      exact this
theorem head_RR {μ : Mm} {z : Zt3} (hB : RBs y s t L tn μ0) (fu : Nat) (hfu : 300 ≤ fu) (h : RS y s L μ0 μ z) (hz : z.1 = 0) : ∃ μ', fX10_readHead fu y μ = some μ' ∧ RS y s L μ0 μ' (zHd t L z) ∧ μ'.1 y 15 = nI (zOld t L (zQ4 t L z)) ∧ ((zHd t L z).2.1 = 0 → PR μ' y (1 - s) (pHd t L z)) := by
  have hs := hB.2.1.1
  obtain ⟨μ1, e1, c1, f1⟩ := ms_R (k := 71) (kk := 71) hB rfl (by decide) h
  obtain ⟨μ2, e2, c2, f2⟩ := ms_R (k := 73) (kk := 73) hB rfl (by decide) c1
  obtain ⟨μ3, e3, c3, f3⟩ := ms_R (k := 70) (kk := 70) hB rfl (by decide) c2
  obtain ⟨μ4, e4, c4, f4⟩ := ms_R (k := 56) (kk := 56) hB rfl (by decide) c3
  have c4' : RS y s L μ0 μ4 (zQ4 t L z) := by unfold zQ4; exact c4
  obtain ⟨μ5, e5, c5, f5⟩ := on_R hB c4'
  obtain ⟨b, eb⟩ : ∃ b, b = (zB t L (zQ4 t L z)).1 := ⟨_, rfl⟩
  have hb : b < 256 := by rw [eb]; exact zB_b hB.ht
  rw [← eb] at e5
  have fin : ∀ ν : Mm, RS y s L μ0 ν (zV t L (zQ4 t L z)) → ∃ μ', fX10_readHead_L51 fu y (nI b) ν = some μ' ∧ RS y s L μ0 μ' (zHd t L z) ∧ μ'.1 y 15 = nI (zOld t L (zQ4 t L z)) ∧ ((zHd t L z).2.1 = 0 → PR μ' y (1 - s) (pHd t L z)) := by
    intro ν hν
    obtain ⟨o, eo⟩ : ∃ o, o = zOld t L (zQ4 t L z) := ⟨_, rfl⟩
    have ho : o ≤ 1 := by rw [eo]; unfold zOld; split <;> omega
    have e51 : fX10_readHead_L51 fu y (nI b) ν = fX10_readHead_L63 fu y y (nI o) ν := by
      unfold fX10_readHead_L51
      rw [eo]
      unfold zOld
      rw [← eb]
      by_cases q : b = 55
      · rw [if_pos (show nI b = 55 by rw [q]; rfl), if_pos q]; rfl
      · rw [if_neg (nI_nl (v := 55) rfl q (by omega) (by decide)), if_neg q]; rfl
    have c15 : RS y s L μ0 (si ν y 15 (nI o)) (zV t L (zQ4 t L z)) := hν.wi (by omega)
    obtain ⟨μ6, e6, c6, f6⟩ := ms_R (k := 97) (kk := 97) hB rfl (by decide) c15
    have c6' : RS y s L μ0 μ6 (zQ6 t L z) := by unfold zQ6; exact c6
    obtain ⟨N, eN⟩ : ∃ N, fu = N + 3 := ⟨fu - 3, by omega⟩
    obtain ⟨μ7, e7, c7, f7, g7, g7'⟩ := sd_R (k := 0) hB fu (N + 2) (by decide) c6'
    have z8 : zSd t L (nI (zQ6 t L z).1) (zQ6 t L z) = zQ8 t L z := by
      unfold zQ8
      refine zSd_c (fun q => ?_)
      rw [(zQ6_l q).2.1, hz]
      rfl
    rw [z8] at c7
    obtain ⟨μ8, e8, c8, f8, g8, g8'⟩ := sd_R (k := 1) hB fu (N + 1) (by decide) c7
    have z10 : zSd t L (nI (zQ8 t L z).1) (zQ8 t L z) = zQ10 t L z := by
      unfold zQ10
      refine zSd_c (fun q => ?_)
      have q' := q
      unfold zQ8 at q' ⊢
      obtain ⟨a1, a2, a3, a4, a5⟩ := zSd_l q'
      rw [a2, (zQ6_l a1).2.1, hz]
      rfl
    rw [z10] at c8
    have w0 : μ8.1 (y + 3) (6 * (1 - s)) = nI (hW t L z) := by
      rw [g8' _ (by omega)]
      exact g7
    have w1 : μ8.1 (y + 3) (6 * (1 - s) + 1) = nI (hH t L z) := g8
    obtain ⟨μ9, e9, c9, g9, p9⟩ := hd2_R hB fu N hfu c8 hz w0 w1
    refine ⟨μ9, ?_, c9, ?_, p9⟩
    · rw [e51]
      unfold fX10_readHead_L63
      rw [r_b01 ho, lt'_e, bd_e e6]
      have : fX10_readHead_L75 fu fu y 0 μ6 = fX10_readHead_L75 fu (N + 2 + 1) y (nI 0) μ6 := by rw [show N + 2 + 1 = fu by omega]; rfl
      rw [this, e7, show N + 2 = N + 1 + 1 from rfl, e8]
      exact e9
    · rw [g9, f8.2.2 15 (by decide) (by decide) (by decide), f7.2.2 15 (by decide) (by decide) (by decide), f6.2.2 15 (by decide) (by decide) (by decide), si_k, eo]
  unfold fX10_readHead
  rw [bd_e e1, bd_e e2, bd_e e3, bd_e e4, bd_e e5, lt'_e]
  dsimp only
  by_cases q5 : b = 55
  · rw [if_pos (show nI b = 55 by rw [q5]; rfl)]
    refine fin μ5 ?_
    unfold zV
    rw [if_pos (by rw [← eb]; exact Or.inl q5)]
    exact c5
  rw [if_neg (nI_nl (v := 55) rfl q5 (by omega) (by decide))]
  by_cases q7 : b = 57
  · rw [if_pos (show nI b = 57 by rw [q7]; rfl)]
    refine fin μ5 ?_
    unfold zV
    rw [if_pos (by rw [← eb]; exact Or.inr q7)]
    exact c5
  rw [if_neg (nI_nl (v := 57) rfl q7 (by omega) (by decide)), lt'_e]
  obtain ⟨g1, g2⟩ := wr_R (k := 1) (kk := 1) (v := 0) c5 rfl (by decide)
  refine fin _ ?_
  unfold zV
  rw [if_neg (by rw [← eb]; omega)]
  exact g1
end HR
