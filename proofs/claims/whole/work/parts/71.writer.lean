/-! WRITE: the reference -/
theorem cp_l {y wn : Nat} {W : Nf} (fu : Nat) (hwn : wn ≤ 12000) : ∀ (K i : Nat) (μ : Mm), i ≤ wn → wn - i < K → μ.2 y 1 = y + 2 → μ.2 y 21 = y + 8 → μ.1 y 31 = nI wn → RB μ (y + 8) W wn → RB μ (y + 2) W i → ∃ μ', fX10_write_L207 fu K y (nI i) μ = some (nI wn, μ') ∧ RB μ' (y + 2) W wn ∧ μ'.1 y 3 = nI wn ∧ μ'.2 = μ.2 ∧ (∀ b, b ≠ y → b ≠ y + 2 → μ'.1 b = μ.1 b) ∧ (∀ k, k ≠ 3 → μ'.1 y k = μ.1 y k) := by
  intro K
  induction K with
  | zero => intro i μ _ h; omega
  | succ K ih =>
    intro i μ hi hK l1 l21 h31 hD hO
    show ∃ μ', fX10_write_B207 (fX10_write_L207 fu K) fu y (nI i) μ = some (_, μ') ∧ _
    unfold fX10_write_B207
    rw [h31]
    by_cases q : i = wn
    · subst q
      rw [if_pos (nI_le (by omega) (by omega)), lt'_e, si_k]
      exact ⟨_, rfl, fun j hj => by rw [si_b (by omega)]; exact hO j hj, si_k, rfl, fun b g1 g2 => si_b g1, fun k hk => si_j hk⟩
    · rw [if_neg (nI_ge (by omega) (by omega)), r_ib (by omega) (by decide), r_ib (by omega) (by decide), l1, l21, nI_clamp (by omega), lt'_e, lt'_e, nI_1]
      obtain ⟨ν, eν⟩ : ∃ ν, ν = si μ (y + 2) i (vp_nar .byte (μ.1 (y + 8) i)) := ⟨_, rfl⟩
      rw [← eν]
      have r : ν.2 = μ.2 := by rw [eν]; rfl
      have nb : ∀ b, b ≠ y + 2 → ν.1 b = μ.1 b := fun b hb => by rw [eν, si_b hb]
      obtain ⟨μ', e', O', y3, r', b', k'⟩ := ih (i + 1) ν (by omega) (by omega) (by rw [r]; exact l1) (by rw [r]; exact l21) (by rw [nb _ (by omega)]; exact h31) (fun j hj => by rw [nb _ (by omega)]; exact hD j hj) (fun j hj => by
        rw [eν, si_r]
        by_cases w : j = i
        · rw [w, u1_k, nar_b']; exact hD i (by omega)
        · rw [u1_j w]; exact hO j (by omega))
      exact ⟨μ', e', O', y3, r'.trans r, fun b g1 g2 => (b' b g1 g2).trans (nb b g2), fun k hk => by rw [k' k hk, nb _ (by omega)]⟩
theorem wr_l {y s : Nat} {P : Pic} (fu : Nat) (hfu : 5000 ≤ fu) (hV : VP P) (hs : s < 2) : ∀ (m K f : Nat) (μ : Mm) (S : Ot), f + m = hd P 5 → m < K → LR y μ → μ.1 y 6 = nI s → PR μ y s P → RO μ y S → S.2 + 8000 * m ≤ 300000 → ∃ μ', fX10_write_L168 fu K y (nI f) μ = (if (emI (eFs P m f S) 59).2 ≤ 12000 then fX10_write_L207 fu fu y 0 μ' else some ((-1), μ')) ∧ RO μ' y (emI (eFs P m f S) 59) ∧ RSF y μ μ' := by
  have hc := hV.2.2.2.2.1
  intro m
  induction m with
  | zero =>
    intro K f μ S hf hK hL h6 hP hO hS
    obtain ⟨K, rfl⟩ : ∃ K', K = K' + 1 := ⟨K - 1, by omega⟩
    show ∃ μ', fX10_write_B168 (fX10_write_L168 fu K) fu y (nI f) μ = _ ∧ RO μ' y (emI S 59) ∧ _
    unfold fX10_write_B168
    have fr : fX10_frames y μ = some (nI (hd P 5)) := by
      unfold fX10_frames
      rw [h6, six_ix (v := 5) 5 rfl, r_ib (by omega) (by decide), hL.2.2.1, nI_clamp (by omega), hP.1.1 5 (by decide)]
    obtain ⟨μ1, e1, c1, a1⟩ := hO.say (by omega) 59
    rw [bd_e fr, if_pos (nI_le (by omega) (by omega)), bd_e e1, c1.2.1]
    refine ⟨μ1, ?_, c1, a1.s⟩
    have e59 : (emI (eFs P 0 f S) 59).2 = (emI S 59).2 := rfl
    rw [e59]
    by_cases q : (emI S 59).2 ≤ 12000
    · rw [if_pos (show nI (emI S 59).2 ≤ 12000 from nI_le (b := 12000) q (by decide)), if_pos q]
    · rw [if_neg (show ¬ nI (emI S 59).2 ≤ 12000 from nI_ge (a := 12000) (by omega) (by have := c1.2.2.2; omega)), if_neg q]
  | succ m ih =>
    intro K f μ S hf hK hL h6 hP hO hS
    obtain ⟨K, rfl⟩ : ∃ K', K = K' + 1 := ⟨K - 1, by omega⟩
    have es : eFs P (m + 1) f S = eFs P m (f + 1) (eFr P f S) := rfl
    rw [es]
    show ∃ μ', fX10_write_B168 (fX10_write_L168 fu K) fu y (nI f) μ = _ ∧ _
    unfold fX10_write_B168
    have fr : fX10_frames y μ = some (nI (hd P 5)) := by
      unfold fX10_frames
      rw [h6, six_ix (v := 5) 5 rfl, r_ib (by omega) (by decide), hL.2.2.1, nI_clamp (by omega), hP.1.1 5 (by decide)]
    obtain ⟨μ1, e1, c1, a1⟩ := fr_R fu hfu hV (show f < hd P 5 by omega) hs hL h6 hP hO (by omega)
    have z := (eFr_2 (S := S) hV (show f < hd P 5 by omega)).2
    rw [bd_e fr, if_neg (nI_ge (by omega) (by omega)), bd_e e1, lt'_e, nI_1]
    obtain ⟨μ', e', c', a'⟩ := ih K (f + 1) μ1 (eFr P f S) (by omega) (by omega) (by unfold LR; rw [a1.1]; exact hL) (by rw [a1.2.2 6 (by omega)]; exact h6) (by
      unfold PR PRh PRf
      rw [a1.2.1 (y + 3) (by omega) (by omega), a1.2.1 (y + 4) (by omega) (by omega), a1.2.1 (y + 5) (by omega) (by omega), a1.2.1 (y + 6) (by omega) (by omega), a1.2.1 (y + 7) (by omega) (by omega)]
      exact hP) c1 (by omega)
    exact ⟨μ', e', c', a1.tr a'⟩
theorem write_R {μ : Mm} {y s tn on : Nat} {t o : Nf} {fk fp : Int32} {P : Pic} (h : SR y μ s tn on t o fk fp P) (hV : VP P) (fu : Nat) (hfu : 13000 ≤ fu) : ∃ μ', fX10_write fu y μ = some ((if (eW P).2 ≤ 12000 then nI (eW P).2 else -1), μ') ∧ μ'.2 = μ.2 ∧ (∀ b, b < y → μ'.1 b = μ.1 b) ∧ SR y μ' s tn (if (eW P).2 ≤ 12000 then (eW P).2 else on) t (if (eW P).2 ≤ 12000 then (eW P).1 else o) fk fp P := by
  obtain ⟨hL, ⟨hs, h6⟩, ⟨h2, hT⟩, ⟨h3, hO⟩, h4, h5, hP⟩ := h
  have hc := hV.2.2.2.2.1
  obtain ⟨ν, eν⟩ : ∃ ν, ν = si μ y 31 0 := ⟨_, rfl⟩
  have aν : SFr y μ ν := by rw [eν]; exact ⟨rfl, fun b g1 _ => si_b g1, fun k hk => si_j hk⟩
  have O0 : RO ν y (fun _ => 0, 0) := ⟨by rw [aν.1]; exact hL.2.2.2.2.2.2.2.1, by rw [eν, si_k]; rfl, fun j hj => absurd hj (by show ¬ j < min 0 12000; omega), by show 0 < 2 ^ 30; decide⟩
  obtain ⟨μ1, e1, c1, a1⟩ := O0.say (by show 0 + 1 < 2 ^ 30; decide) 71
  obtain ⟨μ2, e2, c2, a2⟩ := c1.say (by show 1 + 1 < 2 ^ 30; decide) 73
  obtain ⟨μ3, e3, c3, a3⟩ := c2.say (by show 2 + 1 < 2 ^ 30; decide) 70
  obtain ⟨μ4, e4, c4, a4⟩ := c3.say (by show 3 + 1 < 2 ^ 30; decide) 56
  obtain ⟨μ5, e5, c5, a5⟩ := c4.say (by show 4 + 1 < 2 ^ 30; decide) 57
  obtain ⟨μ6, e6, c6, a6⟩ := c5.say (by show 5 + 1 < 2 ^ 30; decide) 97
  obtain ⟨μ7, e7, c7, a7⟩ := c6.say2 (by show 6 + 2 < 2 ^ 30; decide) (nI (hd P 0))
  obtain ⟨μ8, e8, c8, a8⟩ := c7.say2 (by show 8 + 2 < 2 ^ 30; decide) (nI (hd P 1))
  obtain ⟨μ9, e9, c9, a9⟩ := c8.say (by show 10 + 1 < 2 ^ 30; decide) (nI (mkB (hd P 2) + 112))
  obtain ⟨μ10, e10, c10, a10⟩ := c9.say (by show 11 + 1 < 2 ^ 30; decide) (nI (hd P 3))
  obtain ⟨μ11, e11, c11, a11⟩ := c10.say (by show 12 + 1 < 2 ^ 30; decide) (nI (hd P 4))
  have b6 : SFr y μ μ6 := (((((aν.tr a1).tr a2).tr a3).tr a4).tr a5).tr a6
  have b7 := b6.tr a7
  have b8 := b7.tr a8
  have b9 := b8.tr a9
  have b10 := b9.tr a10
  have b11 := b10.tr a11
  have c11' : RO μ11 y (emL (fun _ => 0, 0) (hdL P)) := c11
  have hg := tsz_le hV.2.1
  obtain ⟨μ12, e12, c12, a12⟩ := say_T (y := y) (A := y + 4) (F := 256 * s) (m := hd P 2) (ln := 512) (g := gt P) (S0 := emL (fun _ => 0, 0) (hdL P)) fu (by omega) (by decide) (by omega) (by rw [emL_2]; show 0 + 13 + 3 * hd P 2 < 2 ^ 30; omega) fu 0 μ11 (by omega) (by omega) (fun k hk => by rw [b11.2.1 _ (by omega) (by omega)]; exact hP.1.2 k hk) c11'
  have e12' : fX10_sayTable fu 512 y (y + 4) (nI (256 * s)) (nI (hd P 2)) μ11 = some μ12 := e12
  have b12 := b11.tr a12
  have s0 := eHd_2 hV
  obtain ⟨μ13, e13, c13, a13⟩ := wr_l fu (by omega) hV hs (hd P 5) fu 0 μ12 (eHd P) (by omega) (by omega) (by unfold LR; rw [b12.1]; exact hL) (by rw [b12.2.2 6 (by decide)]; exact h6) (by
      unfold PR PRh PRf
      rw [b12.2.1 (y + 3) (by omega) (by omega), b12.2.1 (y + 4) (by omega) (by omega), b12.2.1 (y + 5) (by omega) (by omega), b12.2.1 (y + 6) (by omega) (by omega), b12.2.1 (y + 7) (by omega) (by omega)]
      exact hP) c12 (by omega)
  have e13' : fX10_write_L168 fu fu y 0 μ12 = (if (eW P).2 ≤ 12000 then fX10_write_L207 fu fu y 0 μ13 else some ((-1), μ13)) := e13
  have c13' : RO μ13 y (eW P) := c13
  have b13 : RSF y μ μ13 := b12.s.tr a13
  have hk : ∀ (ν' : Mm), SFr y μ ν' → ∀ k, k < 6 → ν'.1 (y + 3) (6 * s + k) = nI (hd P k) := fun ν' hν k q => by rw [hν.2.1 _ (by omega) (by omega)]; exact hP.1.1 k q
  have h6' : ∀ (ν' : Mm), SFr y μ ν' → ν'.1 y 6 = nI s := fun ν' hν => by rw [hν.2.2 6 (by decide)]; exact h6
  have l7 : ∀ (ν' : Mm), SFr y μ ν' → ν'.2 y 7 = y + 3 := fun ν' hν => by rw [hν.1]; exact hL.2.2.1
  have L104 : ∀ t2 : Int32, (112 + t2) + nI (lb (hd P 2)) = nI (mkB (hd P 2) + 112) → fX10_write_L104 fu y (nI (hd P 2)) y 112 t2 μ8 = (if (eW P).2 ≤ 12000 then fX10_write_L207 fu fu y 0 μ13 else some ((-1), μ13)) := by
    intro t2 ht
    unfold fX10_write_L104
    rw [bd_e (bo_R fu (by omega) hg), ht, bd_e e9, h6' _ b9, six_ix (v := 3) 3 rfl, r_ib (by omega) (by decide), l7 _ b9, nI_clamp (by omega), hk _ b9 3 (by decide), bd_e e10, h6' _ b10, six_ix (v := 4) 4 rfl, r_ib (by omega) (by decide), l7 _ b10, nI_clamp (by omega), hk _ b10 4 (by decide), bd_e e11, b11.1, hL.2.2.2.1, h6' _ b11, show (256 : Int32) * nI s = nI (256 * s) from pk_mul 256 s, bd_e e12']
    exact e13'
  have run : fX10_write fu y μ = (if (eW P).2 ≤ 12000 then fX10_write_L207 fu fu y 0 μ13 else some ((-1), μ13)) := by
    have z0 := hk _ b6 0 (by decide)
    rw [Nat.add_zero] at z0
    have w0 : μ6.1 (y + 3) (6 * s) = nI (hd P 0) := hk _ b6 0 (by decide)
    unfold fX10_write
    rw [lt'_e, ← eν, bd_e e1, bd_e e2, bd_e e3, bd_e e4, bd_e e5, bd_e e6, h6' _ b6, show (6 : Int32) * nI s = nI (6 * s) from pk_mul 6 s, r_ib (by omega) (by decide), l7 _ b6, nI_clamp (by omega), w0, bd_e e7, h6' _ b7, six_ix (v := 1) 1 rfl, r_ib (by omega) (by decide), l7 _ b7, nI_clamp (by omega), hk _ b7 1 (by decide), bd_e e8, h6' _ b8, six_ix (v := 2) 2 rfl, r_ib (by omega) (by decide), l7 _ b8, nI_clamp (by omega), hk _ b8 2 (by decide), lt'_e]
    have l8 := lb_8 (g := hd P 2)
    by_cases q : hd P 2 = 0
    · rw [if_pos (show nI (hd P 2) ≤ 0 from nI_le (b := 0) (by omega) (by decide))]
      exact L104 0 (by rw [q]; decide)
    · rw [if_neg (show ¬ nI (hd P 2) ≤ 0 from nI_nle (by omega) (by omega))]
      refine L104 128 ?_
      unfold mkB
      rw [if_neg q, show (112 + 128 : Int32) = nI 240 by decide, nI_add, show 240 + lb (hd P 2) = 128 + lb (hd P 2) + 112 by omega]
  rw [run]
  have P13 : PR μ13 y s P := by
    unfold PR PRh PRf
    rw [b13.2.1 (y + 3) (by omega) (by omega), b13.2.1 (y + 4) (by omega) (by omega), b13.2.1 (y + 5) (by omega) (by omega), b13.2.1 (y + 6) (by omega) (by omega), b13.2.1 (y + 7) (by omega) (by omega)]
    exact hP
  have L13 : LR y μ13 := by unfold LR; rw [b13.1]; exact hL
  generalize eW P = Z at *
  by_cases q : Z.2 ≤ 12000
  · rw [if_pos q, if_pos q, if_pos q, if_pos q]
    obtain ⟨o1, o2, o3, o4⟩ := c13'
    rw [Nat.min_eq_left q] at o3
    obtain ⟨μ14, e14, O14, y3, r14, b14, k14⟩ := cp_l fu q fu 0 μ13 (Nat.zero_le _) (by omega) L13.2.1 o1 o2 o3 (fun j hj => by omega)
    have e14' : fX10_write_L207 fu fu y 0 μ13 = some (nI Z.2, μ14) := e14
    refine ⟨μ14, e14', r14.trans b13.1, fun b hb => by rw [b14 b (by omega) (by omega), b13.2.1 b (by omega) (by omega)], ?_⟩
    refine ⟨by unfold LR; rw [r14]; exact L13, ⟨hs, ?_⟩, ⟨?_, fun j hj => ?_⟩, ⟨y3, O14⟩, ?_, ?_, ?_⟩
    · rw [k14 6 (by decide), b13.2.2 6 (by omega)]; exact h6
    · rw [k14 2 (by decide), b13.2.2 2 (by omega)]; exact h2
    · rw [b14 _ (by omega) (by omega), b13.2.1 _ (by omega) (by omega)]; exact hT j hj
    · rw [k14 4 (by decide), b13.2.2 4 (by omega)]; exact h4
    · rw [k14 5 (by decide), b13.2.2 5 (by omega)]; exact h5
    · unfold PR PRh PRf
      rw [b14 (y + 3) (by omega) (by omega), b14 (y + 4) (by omega) (by omega), b14 (y + 5) (by omega) (by omega), b14 (y + 6) (by omega) (by omega), b14 (y + 7) (by omega) (by omega)]
      exact P13
  · rw [if_neg q, if_neg q, if_neg q, if_neg q]
    refine ⟨μ13, rfl, b13.1, fun b hb => b13.2.1 b (by omega) (by omega), L13, ⟨hs, ?_⟩, ⟨?_, fun j hj => ?_⟩, ⟨?_, fun j hj => ?_⟩, ?_, ?_, P13⟩
    · rw [b13.2.2 6 (by omega)]; exact h6
    · rw [b13.2.2 2 (by omega)]; exact h2
    · rw [b13.2.1 _ (by omega) (by omega)]; exact hT j hj
    · rw [b13.2.2 3 (by omega)]; exact h3
    · rw [b13.2.1 _ (by omega) (by omega)]; exact hO j hj
    · rw [b13.2.2 4 (by omega)]; exact h4
    · rw [b13.2.2 5 (by omega)]; exact h5
theorem write_ok {n : Nat} {μ : Mm} (fu : Nat) (hfu : 13000 ≤ fu) (h : STe n μ) : ∃ r μ1 μ2, fX9_write fu n μ = some (r, μ1) ∧ fX10_write fu (n + 273) μ1 = some (r, μ2) ∧ STe n μ2 := by
  obtain ⟨p, d, m, w, s, tn, on, t, o, fk, fp, P, hC, hR, hV⟩ := h
  obtain ⟨μ1, e1, C1, k1⟩ := write_C hC hV fu (by omega)
  have R1 := hR.hi k1
  obtain ⟨μ2, e2, r2, k2, R2⟩ := write_R R1 hV fu hfu
  exact ⟨_, μ1, μ2, e1, e2, p, d, _, _, s, tn, _, t, _, fk, fp, P, C1.lo hV.2.2.2.2.1 r2 k2, R2, hV⟩
