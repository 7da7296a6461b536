/-! READ -/
theorem BR.eqc {μ μ' : Mm} {r k : Nat} {t : Nat → Nat} {o : Int32} (h : BR μ r t k o) (e2 : μ'.2 r = μ.2 r) (e0 : μ'.1 r = μ.1 r) (e1 : μ'.1 (r + 1) = μ.1 (r + 1)) : BR μ' r t k o := by
  obtain ⟨h1, h2, h3, h4, h5⟩ := h
  exact ⟨by rw [e2]; exact h1, by rw [e0]; exact h2, h3, by rw [e0]; exact h4, fun j hj => by rw [e1]; exact h5 j hj⟩
theorem SC.lo {μ μ' : Mm} {n p d m w tn on : Nat} {t o : Nat → Nat} {fk fp : Int32} {P : Pic} (h : SC n μ p d m w tn on t o fk fp P) (hv : hd P 5 ≤ 24) (e2 : μ'.2 = μ.2) (he : ∀ b, b < n + 273 → μ'.1 b = μ.1 b) : SC n μ' p d m w tn on t o fk fp P := by
  obtain ⟨h1, h2, h3, ⟨a4, b4, c4, h4⟩, ⟨a5, b5, c5, h5⟩, ⟨a6, b6, c6, h6⟩, h7, h8, h9⟩ := h
  have hpd := h1.2.2.2.2.2
  have q : ∀ r : Nat, μ'.2 r = μ.2 r := fun r => by rw [e2]
  refine ⟨h1.fr (q _) (q _) (q _) (q _) (q _), h2.eqc (q _) (he _ (by omega)) (he _ (by omega)), h3.eqc (q _) (he _ (by omega)) (he _ (by omega)), ⟨a4, b4, c4, h4.eqc (q _) (he _ (by omega)) (he _ (by omega))⟩, ⟨a5, b5, c5, h5.eqc (q _) (he _ (by omega)) (he _ (by omega))⟩, ⟨a6, b6, c6, h6.eqc (q _) (he _ (by omega)) (he _ (by omega))⟩, h7.eq e2, h8.lo hv e2 (fun b h1 h2 => he b (by omega)), ?_⟩
  rw [he n (by omega), he (n + 1) (by omega)]
  exact h9
/-- the reference's picture that is not written over -/
theorem PR.kr {μ0 μ : Mm} {y s : Nat} {P : Pic} (h : PR μ0 y s P) (hV : VP P) (hk : KR y s μ0 μ) : PR μ y s P := by
  obtain ⟨k1, k2, k3, k4, k5, k6, k7, k8, k9, k10⟩ := hk
  have hc := hV.2.2.2.2.1
  refine ⟨⟨fun k q => by rw [k6 k q]; exact h.1.1 k q, fun k q => by rw [k7 k (by have := tsz_le hV.2.1; omega)]; exact h.1.2 k q⟩, fun f hf => ?_⟩
  obtain ⟨g1, g2, g3, g4⟩ := h.2 f hf
  have v := hV.2.2.2.2.2 f hf
  have v1 := v.1
  have v2 := hV.1
  have v3 := tsz_le v.2.1
  have v4 := Nat.mul_le_mul (show fx P f 2 ≤ 64 by omega) (show fx P f 3 ≤ 64 by omega)
  refine ⟨fun j hj h7 => ?_, ?_, fun k hk => ?_, fun k hk => ?_⟩
  · rw [Nat.add_assoc, k8 _ (by omega), ← Nat.add_assoc]; exact g1 j hj h7
  · rw [Nat.add_assoc, k8 _ (by omega), ← Nat.add_assoc]; exact g2
  · rw [Nat.add_assoc, k9 _ (by omega), ← Nat.add_assoc]; exact g3 k hk
  · rw [Nat.add_assoc, k10 _ (by omega), ← Nat.add_assoc]; exact g4 k hk
theorem KR.rfl' {y s : Nat} {μ : Mm} : KR y s μ μ := ⟨rfl, fun _ _ => rfl, rfl, rfl, ⟨rfl, rfl, rfl, rfl, rfl⟩, fun _ _ => rfl, fun _ _ => rfl, fun _ _ => rfl, fun _ _ => rfl, fun _ _ => rfl⟩
/-- the reference reads -/
theorem read_R {μ : Mm} {y s tn on L : Nat} {t o : Nf} {fk fp : Int32} {P : Pic} {z0 : Zt3} (hz0 : z0 = (0, 0, -1)) (h : SR y μ s tn on t o fk fp P) (hV : VP P) (htn : tn ≤ 12000) (hL : L ≤ tn) (fu : Nat) (hfu : 100000 ≤ fu) : ∃ μ', fX10_read fu y (nI L) μ = some ((if (zRd t L z0).1.2.1 = 0 then nI (hd (zRd t L z0).2 5) else -1), μ') ∧ μ'.2 = μ.2 ∧ (∀ b, b < y → μ'.1 b = μ.1 b) ∧ (VP (zRd t L z0).2 ∨ ¬ (zRd t L z0).1.2.1 = 0 → SR y μ' (if (zRd t L z0).1.2.1 = 0 then 1 - s else s) 0 on t o (nI (zRd t L z0).1.2.1) (zRd t L z0).1.2.2 (if (zRd t L z0).1.2.1 = 0 then (zRd t L z0).2 else P)) := by
  obtain ⟨h1, ⟨hs, h6⟩, ⟨h2, hT⟩, ⟨h3, hO⟩, h4, h5, hP⟩ := h
  obtain ⟨ν, eν⟩ : ∃ ν, ν = si (si (si (si (si (si μ y 2 0) y 4 0) y 5 (-1)) y 12 0) y 13 (nI L)) y 14 (nI (1 - s)) := ⟨_, rfl⟩
  have a1 : Ag μ ν y (y + 1) := by
    rw [eν]
    exact (((((Ag.wi (by omega) (by omega)).nsi (by omega) (by omega)).nsi (by omega) (by omega)).nsi (by omega) (by omega)).nsi (by omega) (by omega)).nsi (by omega) (by omega)
  have v2 : ν.1 y 2 = nI 0 := by rw [eν, si_j (by decide), si_j (by decide), si_j (by decide), si_j (by decide), si_j (by decide), si_k]; rfl
  have v3 : ν.1 y 3 = nI on := by rw [eν, si_j (by decide), si_j (by decide), si_j (by decide), si_j (by decide), si_j (by decide), si_j (by decide)]; exact h3
  have v4 : ν.1 y 4 = nI 0 := by rw [eν, si_j (by decide), si_j (by decide), si_j (by decide), si_j (by decide), si_k]; rfl
  have v5 : ν.1 y 5 = -1 := by rw [eν, si_j (by decide), si_j (by decide), si_j (by decide), si_k]
  have v6 : ν.1 y 6 = nI s := by rw [eν, si_j (by decide), si_j (by decide), si_j (by decide), si_j (by decide), si_j (by decide), si_j (by decide)]; exact h6
  have v12 : ν.1 y 12 = nI 0 := by rw [eν, si_j (by decide), si_j (by decide), si_k]; rfl
  have v13 : ν.1 y 13 = nI L := by rw [eν, si_j (by decide), si_k]
  have v14 : ν.1 y 14 = nI (1 - s) := by rw [eν, si_k]
  have hB : RBs y s t L tn ν := ⟨by unfold LR; rw [a1.1]; exact h1, ⟨hs, v6, v14, v13⟩, hT.ag a1 (by omega), hL, htn⟩
  have c0 : RS y s L ν ν z0 := by
    rw [hz0]
    exact ⟨KR.rfl', ⟨v12, v4, v5⟩, ⟨Nat.zero_le _, by show 0 ≤ 10; omega⟩⟩
  have Pν : PR ν y s P := by
    unfold PR PRh PRf
    rw [a1.2 (y + 3) (by omega), a1.2 (y + 4) (by omega), a1.2 (y + 5) (by omega), a1.2 (y + 6) (by omega), a1.2 (y + 7) (by omega)]
    exact hP
  obtain ⟨μ1, e1, c1, o1, P1⟩ := head_RR hB fu (by omega) c0 (by rw [hz0])
  obtain ⟨c2, f2, p2⟩ := fg_R c1
  obtain ⟨μ2, x2⟩ : ∃ μ2, μ2 = fX10_forget y μ1 := ⟨_, rfl⟩
  rw [← x2] at c2 f2 p2
  have o2 : μ2.1 y 15 = nI (zOld t L (zQ4 t L z0)) := by rw [f2.2.2 15 (by decide) (by decide) (by decide) (by decide)]; exact o1
  obtain ⟨μ3, e3, c3, P3⟩ : ∃ μ3, fX10_readBlocks fu y μ1 = some μ3 ∧ RS y s L ν μ3 (zRd t L z0).1 ∧ ((zRd t L z0).1.2.1 = 0 → PR μ3 y (1 - s) (zRd t L z0).2) := by
    unfold fX10_readBlocks zRd
    rw [lt'_e, ← x2, lt'_e, good_R c2]
    by_cases q : (zHd t L z0).2.1 = 0
    · rw [if_pos q]
      have P2 : PR μ2 y (1 - s) (pHd t L z0) := by
        unfold PR PRh PRf
        rw [f2.2.1 (y + 3) (by omega), f2.2.1 (y + 4) (by omega), f2.2.1 (y + 5) (by omega), f2.2.1 (y + 6) (by omega), f2.2.1 (y + 7) (by omega)]
        exact P1 q
      exact bl_R hB fu hfu zOld_1 (L + 1) fu μ2 _ _ pd0 q (by omega) (by omega) c2 p2 pd0_o P2 (zHd_l (by rw [hz0]) hB.ht q).2.2.1 o2
    · rw [if_neg q, zBk_d q]
      obtain ⟨K, rfl⟩ : ∃ K', fu = K' + 1 := ⟨fu - 1, by omega⟩
      dsimp only
      exact ⟨μ2, br_e _ K c2 q, c2, fun w => absurd w q⟩
  generalize zRd t L z0 = Z at *
  have run : fX10_read fu y (nI L) μ = (lt' (fX10_good y μ3) fun x9 => if x9 = 0 then some ((-1), μ3) else lt' (si μ3 y 6 (μ3.1 y 14)) fun μ10 => bd (fX10_frames y μ10) fun x11 => some (x11, μ10)) := by
    unfold fX10_read
    rw [if_neg (nI_pos (by omega)), h2, if_pos (nI_le hL (by omega))]
    have s6 : (1 : Int32) - nI s = nI (1 - s) := pk_sub (a := 1) (by omega)
    have w6 : (si (si (si (si (si μ y 2 0) y 4 0) y 5 (-1)) y 12 0) y 13 (nI L)).1 y 6 = nI s := by rw [si_j (by decide), si_j (by decide), si_j (by decide), si_j (by decide), si_j (by decide)]; exact h6
    rw [lt'_e, lt'_e, lt'_e, lt'_e, lt'_e, w6, s6, lt'_e, ← eν, bd_e e1, bd_e e3]
  rw [run, good_R c3, lt'_e]
  have kr := c3.1
  have RO : RB μ3 (y + 2) o on := fun j hj => by rw [kr.2.2.2.1, a1.2 _ (by omega)]; exact hO j hj
  have L3 : LR y μ3 := by unfold LR; rw [kr.1, a1.1]; exact h1
  by_cases q : Z.1.2.1 = 0
  · rw [if_pos q, if_neg (show ¬ (1 : Int32) = 0 by decide), c3.into hB, lt'_e, if_pos q]
    have PN := P3 q
    obtain ⟨ω, eω⟩ : ∃ ω, ω = si μ3 y 6 (nI (1 - s)) := ⟨_, rfl⟩
    rw [← eω]
    have w3 : ω.1 (y + 3) = μ3.1 (y + 3) := by rw [eω, si_b (by omega)]
    have wl : ω.2 = μ3.2 := by rw [eω]; rfl
    have w6 : ω.1 y 6 = nI (1 - s) := by rw [eω, si_k]
    have fr : fX10_frames y ω = some (nI (hd Z.2 5)) := by
      unfold fX10_frames
      rw [w6, six_ix (v := 5) 5 rfl, r_ib (by omega) (by decide), wl, L3.2.2.1, nI_clamp (by omega), w3, PN.1.1 5 (by decide)]
    rw [bd_e fr]
    refine ⟨ω, rfl, by rw [wl, kr.1, a1.1], fun b hb => by rw [eω, si_b (by omega), kr.2.1 b hb, a1.2 b (by omega)], fun _ => ?_⟩
    rw [if_pos q, if_pos q]
    have yk : ∀ k, k ≠ 6 → ω.1 y k = μ3.1 y k := fun k hk => by rw [eω, si_j hk]
    have yb : ∀ b, b ≠ y → ω.1 b = μ3.1 b := fun b hb => by rw [eω, si_b hb]
    refine ⟨by unfold LR; rw [wl]; exact L3, ⟨by omega, w6⟩, ⟨?_, fun j hj => by omega⟩, ⟨?_, fun j hj => by rw [yb _ (by omega)]; exact RO j hj⟩, ?_, ?_, ?_⟩
    · rw [yk 2 (by decide), kr.2.2.2.2.1.1]; exact v2
    · rw [yk 3 (by decide), kr.2.2.2.2.1.2.1]; exact v3
    · rw [yk 4 (by decide)]; exact c3.2.1.2.1
    · rw [yk 5 (by decide)]; exact c3.2.1.2.2
    · unfold PR PRh PRf
      rw [yb (y + 3) (by omega), yb (y + 4) (by omega), yb (y + 5) (by omega), yb (y + 6) (by omega), yb (y + 7) (by omega)]
      exact PN
  · rw [if_neg q, if_pos rfl, if_neg q]
    refine ⟨μ3, rfl, by rw [kr.1, a1.1], fun b hb => by rw [kr.2.1 b hb, a1.2 b (by omega)], fun _ => ?_⟩
    rw [if_neg q, if_neg q]
    refine ⟨L3, ⟨hs, ?_⟩, ⟨?_, fun j hj => by omega⟩, ⟨?_, RO⟩, c3.2.1.2.1, c3.2.1.2.2, Pν.kr hV kr⟩
    · rw [kr.2.2.2.2.1.2.2.1]; exact v6
    · rw [kr.2.2.2.2.1.1]; exact v2
    · rw [kr.2.2.2.2.1.2.1]; exact v3
