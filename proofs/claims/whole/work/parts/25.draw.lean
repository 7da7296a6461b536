/-! begin, colour, control, paint, frame -/
theorem SC.pic {μ μ' : Mm} {n p d m w tn on : Nat} {t o : Nat → Nat} {fk fp : Int32} {P P' : Pic} (h : SC n μ p d m w tn on t o fk fp P) (ha : Ag μ μ' p (p + 124)) (hP : PC μ' p P') : SC n μ' p d m w tn on t o fk fp P' := by
  obtain ⟨h1, h2, h3, ⟨a4, b4, c4, h4⟩, ⟨a5, b5, c5, h5⟩, ⟨a6, b6, c6, h6⟩, h7, h8, h9⟩ := h
  have hpd := h1.2.2.2.2.2
  have hf := ha.fr (Nat.le_refl _) (Nat.le_refl _)
  refine ⟨h1.fr (by rw [ha.1]) (by rw [ha.1]) (by rw [ha.1]) (by rw [ha.1]) (by rw [ha.1]), h2.fr hf (by omega), h3.fr hf (by omega), ⟨a4, b4, c4, h4.fr hf (by omega)⟩, ⟨a5, b5, c5, h5.fr hf (by omega)⟩, ⟨a6, b6, c6, h6.fr hf (by omega)⟩, h7.eq ha.1, hP, ?_⟩
  rw [ha.2 n (by omega), ha.2 (n + 1) (by omega)]
  exact h9
theorem SR.pic {μ μ' : Mm} {y s tn on : Nat} {t o : Nat → Nat} {fk fp : Int32} {P P' : Pic} (h : SR y μ s tn on t o fk fp P) (ha : Ag μ μ' (y + 3) (y + 8)) (hP : PR μ' y s P') : SR y μ' s tn on t o fk fp P' := by
  obtain ⟨h1, h2, h3, h4, h5, h6, h7⟩ := h
  have e := ha.2 y (by omega)
  refine ⟨?_, by rw [e]; exact h2, ⟨by rw [e]; exact h3.1, h3.2.ag ha (by omega)⟩, ⟨by rw [e]; exact h4.1, h4.2.ag ha (by omega)⟩, by rw [e]; exact h5, by rw [e]; exact h6, hP⟩
  unfold LR
  rw [ha.1]
  exact h1
theorem STe.of {n : Nat} {μ μ1 μ2 : Mm} {p d m w s tn on : Nat} {t o : Nat → Nat} {fk fp : Int32} {P P' : Pic} (hC : SC n μ p d m w tn on t o fk fp P) (hR : SR (n + 273) μ s tn on t o fk fp P) (hV : VP P') (ha : Ag μ μ1 p (p + 124)) (hP : PC μ1 p P') (hb : Ag μ1 μ2 (n + 273 + 3) (n + 273 + 8)) (hQ : PR μ2 (n + 273) s P') : STe n μ2 := by
  have hpd := hC.1.2.2.2.2.2
  have h1 := hC.pic ha hP
  have h2 := hR.fr (ha.fr (Nat.le_refl _) (Nat.le_refl _)) (by omega)
  exact ⟨p, d, m, w, s, tn, on, t, o, fk, fp, P', h1.hi hV.2.2.2.2.1 (hb.fr (Nat.le_refl _) (Nat.le_refl _)) (by omega), h2.pic hb hQ, hV⟩
/-! numbers that are asked for -/
theorem within_case (v : Int32) {lo hi : Nat} (hl : lo < 2 ^ 31) (hh : hi < 2 ^ 31) : (∃ k, lo ≤ k ∧ k ≤ hi ∧ v = nI k ∧ fX10_isWithin v (nI lo) (nI hi) = 1) ∨ fX10_isWithin v (nI lo) (nI hi) = 0 := by
  unfold fX10_isWithin
  by_cases c1 : v < nI lo
  · exact Or.inr (by rw [if_pos c1])
  · by_cases c2 : nI hi < v
    · exact Or.inr (by rw [if_neg c1, if_pos c2])
    · have c3 : ¬ v < 0 := by
        intro q
        apply c1
        rw [Int32.lt_iff_toInt_lt] at q ⊢
        rw [nI_toInt hl]
        have : Int32.toInt 0 = 0 := by decide
        omega
      obtain ⟨j, hj, rfl⟩ := nI_of c3
      refine Or.inl ⟨j, ?_, ?_, rfl, by rw [if_neg c1, if_neg c2]⟩
      · rcases Nat.lt_or_ge j lo with q | q
        · exact absurd (nI_lt q hl) c1
        · exact q
      · rcases Nat.lt_or_ge hi j with q | q
        · exact absurd (nI_lt q hj) c2
        · exact q
theorem within_1 {k lo hi : Nat} (h1 : lo ≤ k) (h2 : k ≤ hi) (hh : hi < 2 ^ 31) : fX10_isWithin (nI k) (nI lo) (nI hi) = 1 := by
  unfold fX10_isWithin
  rw [if_neg (nI_nlt h1 (by omega)), if_neg (nI_nlt h2 hh)]
theorem tab_dec : ∀ k, k < 257 → 2 ≤ k → ((k = 2 ∨ k = 4 ∨ k = 8 ∨ k = 16 ∨ k = 32 ∨ k = 64 ∨ k = 128 ∨ k = 256) ∧ fJ6_bitCount_0f7a4 (nI k) = 1 ∧ nI k &&& (nI k - 1) = 0) ∨ (fJ6_bitCount_0f7a4 (nI k) ≠ 1 ∧ nI k &&& (nI k - 1) ≠ 0) := by decide +kernel
theorem tab_case (v : Int32) : (∃ k, tsz k ∧ v = nI k ∧ fX9_isTableSize v = 1 ∧ fX10_isTable v = 1) ∨ (fX9_isTableSize v = 0 ∧ fX10_isTable v = 0) := by
  unfold fX9_isTableSize fX10_isTable
  by_cases c0 : v = 0
  · exact Or.inl ⟨0, Or.inl rfl, c0, by rw [if_pos c0], by rw [if_pos c0]⟩
  rw [if_neg c0, if_neg c0]
  by_cases c1 : v < 2
  · exact Or.inr ⟨by rw [if_pos c1], by rw [if_pos c1]⟩
  rw [if_neg c1, if_neg c1]
  by_cases c2 : (256 : Int32) < v
  · exact Or.inr ⟨by rw [if_pos c2], by rw [if_pos c2]⟩
  rw [if_neg c2, if_neg c2, lt'_e]
  have c3 : ¬ v < 0 := by
    intro q
    apply c1
    rw [Int32.lt_iff_toInt_lt] at q ⊢
    have e0 : Int32.toInt 0 = 0 := by decide
    have e2 : Int32.toInt 2 = 2 := by decide
    omega
  obtain ⟨j, hj, rfl⟩ := nI_of c3
  have h2 : 2 ≤ j := by
    rcases Nat.lt_or_ge j 2 with q | q
    · exact absurd (nI_lt (b := 2) q (by decide)) c1
    · exact q
  have h3 : j ≤ 256 := by
    rcases Nat.lt_or_ge 256 j with q | q
    · exact absurd (nI_lt (a := 256) q hj) c2
    · exact q
  rcases tab_dec j (by omega) h2 with ⟨g1, g2, g3⟩ | ⟨g2, g3⟩
  · exact Or.inl ⟨j, Or.inr g1, rfl, by rw [if_pos g2], by rw [if_pos g3]⟩
  · exact Or.inr ⟨by rw [if_neg g2], by rw [if_neg g3]⟩
/-! loops that fill -/
theorem tReset_loop {T c : Nat} (fu : Nat) (hc : c ≤ 256) : ∀ (n i : Nat) (μ : Mm), i ≤ c → c - i < n → μ.2 T 0 = T + 1 → ∃ μ', fX7_reset_L7 fu n T (nI c) (nI i) μ = some μ' ∧ Ag μ μ' (T + 1) (T + 2) ∧ ∀ k, μ'.1 (T + 1) k = if i ≤ k ∧ k < c then 0 else μ.1 (T + 1) k := by
  intro n
  induction n with
  | zero => intro i μ h1 h2; omega
  | succ n ih =>
    intro i μ h1 h2 hl
    show ∃ μ', fX7_reset_B7 (fX7_reset_L7 fu n) fu T (nI c) (nI i) μ = some μ' ∧ _
    unfold fX7_reset_B7
    by_cases hic : i = c
    · subst hic
      rw [if_pos (nI_le (Nat.le_refl _) (by omega))]
      refine ⟨μ, rfl, Ag.rf, fun k => ?_⟩
      rw [if_neg (by omega)]
    · rw [if_neg (nI_ge (by omega) (by omega)), gd_e (ib_nI (by omega) (by decide)), lt'_e, lt'_e, hl, nI_clamp (by omega), nI_1]
      obtain ⟨μ', e, a, g⟩ := ih (i + 1) (si μ (T + 1) i 0) (by omega) (by omega) hl
      refine ⟨μ', e, (Ag.wi (by omega) (by omega)).tr a, fun k => ?_⟩
      rw [g k, si_r]
      by_cases hk : k = i
      · subst hk
        rw [if_neg (by omega), if_pos (by omega), u1_k]
      · rw [u1_j hk]
        by_cases hk2 : i ≤ k ∧ k < c
        · rw [if_pos (by omega), if_pos hk2]
        · rw [if_neg (by omega), if_neg hk2]
theorem tReset {μ : Mm} {T c : Nat} (hl : μ.2 T 0 = T + 1) (hc : c ≤ 256) (fu : Nat) (hf : c + 1 ≤ fu) : ∃ μ', fX7_reset fu T (nI c) μ = some μ' ∧ Ag μ μ' T (T + 2) ∧ μ'.1 T 1 = nI c ∧ (∀ k, k < c → μ'.1 (T + 1) k = 0) := by
  unfold fX7_reset
  rw [lt'_e]
  obtain ⟨μ', e, a, g⟩ := tReset_loop fu hc fu 0 (si μ T 1 (nI c)) (by omega) (by omega) hl
  refine ⟨μ', e, (Ag.wi (by omega) (by omega)).tr (a.up (by omega) (by omega)), ?_, fun k hk => ?_⟩
  · rw [a.2 T (by omega), si_k]
  · rw [g k, if_pos (by omega)]
theorem fill_loop {F q b : Nat} (fu : Nat) (hb : b ≤ 4096) (v : Int32) : ∀ (n i : Nat) (μ : Mm), i ≤ b → b - i < n → μ.2 F 7 = q → ∃ μ', fX3_fill_L3 fu n F (nI b) v (nI i) μ = some μ' ∧ Ag μ μ' q (q + 1) ∧ ∀ k, μ'.1 q k = if i ≤ k ∧ k < b then v else μ.1 q k := by
  intro n
  induction n with
  | zero => intro i μ h1 h2; omega
  | succ n ih =>
    intro i μ h1 h2 hl
    show ∃ μ', fX3_fill_B3 (fX3_fill_L3 fu n) fu F (nI b) v (nI i) μ = some μ' ∧ _
    unfold fX3_fill_B3
    by_cases hic : i = b
    · subst hic
      rw [if_pos (nI_le (Nat.le_refl _) (by omega))]
      refine ⟨μ, rfl, Ag.rf, fun k => ?_⟩
      rw [if_neg (by omega)]
    · rw [if_neg (nI_ge (by omega) (by omega)), gd_e (ib_nI (by omega) (by decide)), lt'_e, lt'_e, hl, nI_clamp (by omega), nI_1]
      obtain ⟨μ', e, a, g⟩ := ih (i + 1) (si μ q i v) (by omega) (by omega) hl
      refine ⟨μ', e, (Ag.wi (by omega) (by omega)).tr a, fun k => ?_⟩
      rw [g k, si_r]
      by_cases hk : k = i
      · subst hk
        rw [if_neg (by omega), if_pos (by omega), u1_k]
      · rw [u1_j hk]
        by_cases hk2 : i ≤ k ∧ k < b
        · rw [if_pos (by omega), if_pos hk2]
        · rw [if_neg (by omega), if_neg hk2]
theorem reset_C {μ : Mm} {p : Nat} {W H G B As : Nat} (hl : LPi μ p) (hG : G ≤ 256) (fu : Nat) (hf : G + 1 ≤ fu) : ∃ μ', fX4_reset fu p (nI W) (nI H) (nI G) (nI B) (nI As) μ = some μ' ∧ Ag μ μ' p (p + 124) ∧ (μ'.1 p 0 = nI W ∧ μ'.1 p 1 = nI H ∧ μ'.1 (p + 1) 1 = nI G ∧ μ'.1 p 2 = nI B ∧ μ'.1 p 3 = nI As ∧ μ'.1 p 4 = nI 0) ∧ ∀ k, k < G → μ'.1 (p + 2) k = 0 := by
  unfold fX4_reset
  simp only [lt'_e]
  have l5 : (si (si (si (si (si μ p 0 (nI W)) p 1 (nI H)) p 2 (nI B)) p 3 (nI As)) p 4 0).2 p 5 = p + 1 := hl.1
  rw [l5]
  obtain ⟨μ', e, a, g1, g2⟩ := tReset (μ := si (si (si (si (si μ p 0 (nI W)) p 1 (nI H)) p 2 (nI B)) p 3 (nI As)) p 4 0) (T := p + 1) (c := G) hl.2.2.1 hG fu hf
  refine ⟨μ', by rw [bd_e e], ?_, ⟨?_, ?_, g1, ?_, ?_, ?_⟩, g2⟩
  · exact (((((Ag.wi (by omega) (by omega)).nsi (by omega) (by omega)).nsi (by omega) (by omega)).nsi (by omega) (by omega)).nsi (by omega) (by omega)).tr (a.up (by omega) (by omega))
  · rw [a.2 p (by omega), si_j (by decide), si_j (by decide), si_j (by decide), si_j (by decide), si_k]
  · rw [a.2 p (by omega), si_j (by decide), si_j (by decide), si_j (by decide), si_k]
  · rw [a.2 p (by omega), si_j (by decide), si_j (by decide), si_k]
  · rw [a.2 p (by omega), si_j (by decide), si_k]
  · rw [a.2 p (by omega), si_k]; rfl
/-- a new picture -/
def newP (W H G B As : Nat) : Pic := (fun k => match k with | 0 => W | 1 => H | 2 => G | 3 => B | 4 => As | _ => 0, fun _ => 0, fun _ _ => 0, fun _ => 0, fun _ _ => 0, fun _ _ => 0)
theorem newP_C {μ' : Mm} {p W H G B As : Nat} (hl : LPi μ' p) (h : μ'.1 p 0 = nI W ∧ μ'.1 p 1 = nI H ∧ μ'.1 (p + 1) 1 = nI G ∧ μ'.1 p 2 = nI B ∧ μ'.1 p 3 = nI As ∧ μ'.1 p 4 = nI 0) (hg : ∀ k, k < G → μ'.1 (p + 2) k = 0) : PC μ' p (newP W H G B As) :=
  ⟨hl, ⟨h.1, h.2.1, h.2.2.1, h.2.2.2.1, h.2.2.2.2.1, h.2.2.2.2.2, hg⟩, fun f hf => absurd hf (Nat.not_lt_zero f)⟩
theorem newP_V {W H G B As : Nat} (hW : 1 ≤ W ∧ W ≤ 64) (hH : 1 ≤ H ∧ H ≤ 64) (hG : tsz G) (hB : B < 256) (hA : As < 256) : VP (newP W H G B As) := ⟨⟨hW.1, hW.2, hH.1, hH.2⟩, hG, hB, hA, Nat.zero_le _, fun f hf => absurd hf (Nat.not_lt_zero f)⟩
theorem beginR_loop {y s : Nat} (fu : Nat) (hs : s < 2) : ∀ (n i : Nat) (μ : Mm), i ≤ 256 → 256 - i < n → μ.2 y 8 = y + 4 → μ.1 y 6 = nI s → ∃ μ', fX10_begin_L133 fu n y (nI i) μ = some (1, μ') ∧ Ag μ μ' (y + 4) (y + 5) ∧ ∀ k, μ'.1 (y + 4) k = if 256 * s + i ≤ k ∧ k < 256 * s + 256 then 0 else μ.1 (y + 4) k := by
  intro n
  induction n with
  | zero => intro i μ h1 h2; omega
  | succ n ih =>
    intro i μ h1 h2 hl h6
    show ∃ μ', fX10_begin_B133 (fX10_begin_L133 fu n) fu y (nI i) μ = some (1, μ') ∧ _
    unfold fX10_begin_B133
    by_cases hic : i = 256
    · subst hic
      rw [if_pos (show (256 : Int32) ≤ nI 256 by decide)]
      refine ⟨μ, rfl, Ag.rf, fun k => ?_⟩
      rw [if_neg (by omega)]
    · rw [if_neg (show ¬ (256 : Int32) ≤ nI i from nI_ge (b := 256) (by omega) (by decide)), h6, glo_ix, gd_e (ib_nI (by omega) (by decide)), lt'_e, lt'_e, hl, nI_clamp (by omega), nI_1]
      obtain ⟨μ', e, a, g⟩ := ih (i + 1) (si μ (y + 4) (256 * s + i) 0) (by omega) (by omega) hl (by rw [si_b (by omega)]; exact h6)
      refine ⟨μ', e, (Ag.wi (by omega) (by omega)).tr a, fun k => ?_⟩
      rw [g k, si_r]
      by_cases hk : k = 256 * s + i
      · subst hk
        rw [if_neg (by omega), if_pos (by omega), u1_k]
      · rw [u1_j hk]
        by_cases hk2 : 256 * s + i ≤ k ∧ k < 256 * s + 256
        · rw [if_pos (by omega), if_pos hk2]
        · rw [if_neg (by omega), if_neg hk2]
theorem six_ix {s : Nat} (k : Nat) {v : Int32} (hv : v = nI k) : (6 * nI s) + v = nI (6 * s + k) := by
  subst hv
  show (nI 6 * nI s) + nI k = _
  rw [pk_mul, nI_add]
theorem six_0 {s : Nat} : (6 : Int32) * nI s = nI (6 * s) := by
  show nI 6 * nI s = _
  rw [pk_mul]
theorem begin_ok {n : Nat} {μ : Mm} (fu : Nat) (hfu : 300 ≤ fu) (h : STe n μ) (a b c d : Int32) : ∃ r μ1 μ2, fX9_begin fu n a b c d μ = some (r, μ1) ∧ fX10_begin fu (n + 273) a b c d μ1 = some (r, μ2) ∧ STe n μ2 := by
  have h0 := h
  obtain ⟨p, dd, m, w, s, tn, on, t, o, fk, fp, P, hC, hR, hV⟩ := h
  have l3 : μ.2 n 3 = p := hC.1.1.2.2.2.1
  have hpd := hC.1.2.2.2.2.2
  have no : ∀ {x y : Int32}, ¬ ((1 : Int32) = 0) := fun {_ _} => by decide
  rcases within_case a (lo := 1) (hi := 64) (by decide) (by decide) with ⟨W, hW1, hW2, ea, ka⟩ | ka
  · rcases within_case b (lo := 1) (hi := 64) (by decide) (by decide) with ⟨H, hH1, hH2, eb, kb⟩ | kb
    · rcases tab_case c with ⟨G, hG, ec, kc, kc'⟩ | ⟨kc, kc'⟩
      · rcases within_case d (lo := 0) (hi := 255) (by decide) (by decide) with ⟨B, hB1, hB2, ed, kd⟩ | kd
        · have hG2 := tsz_le hG
          obtain ⟨μ1, e1, a1, g1, g2⟩ := reset_C (W := W) (H := H) (G := G) (B := B) (As := 0) hC.2.2.2.2.2.2.2.1.1 hG2 fu (by omega)
          have hP1 : PC μ1 p (newP W H G B 0) := newP_C (hC.2.2.2.2.2.2.2.1.1.eq a1.1) g1 g2
          have hR1 := hR.fr (a1.fr (Nat.le_refl _) (Nat.le_refl _)) (by omega)
          have hs := hR1.2.1
          have l7 : μ1.2 (n + 273) 7 = n + 273 + 3 := hR1.1.2.2.1
          have l8 : μ1.2 (n + 273) 8 = n + 273 + 4 := hR1.1.2.2.2.1
          obtain ⟨ν, eν⟩ : ∃ ν, ν = si (si (si (si (si (si μ1 (n + 273 + 3) (6 * s) (nI W)) (n + 273 + 3) (6 * s + 1) (nI H)) (n + 273 + 3) (6 * s + 2) (nI G)) (n + 273 + 3) (6 * s + 3) (nI B)) (n + 273 + 3) (6 * s + 4) 0) (n + 273 + 3) (6 * s + 5) 0 := ⟨_, rfl⟩
          have aν : Ag μ1 ν (n + 273 + 3) (n + 273 + 4) := by
            rw [eν]
            exact (((((Ag.wi (by omega) (by omega)).nsi (by omega) (by omega)).nsi (by omega) (by omega)).nsi (by omega) (by omega)).nsi (by omega) (by omega)).nsi (by omega) (by omega)
          obtain ⟨μ2, e2, a2, g3⟩ := beginR_loop (y := n + 273) (s := s) fu hs.1 fu 0 ν (by omega) (by omega) (by rw [aν.1]; exact l8) (by rw [aν.2 _ (by omega)]; exact hs.2)
          refine ⟨1, μ1, μ2, ?_, ?_, STe.of hC hR (newP_V ⟨hW1, hW2⟩ ⟨hH1, hH2⟩ hG (by omega) (by omega)) a1 hP1 ((aν.up (by omega) (by omega)).tr (a2.up (by omega) (by omega))) ⟨⟨fun k hk => ?_, fun k hk => ?_⟩, fun f hf => absurd hf (Nat.not_lt_zero f)⟩⟩
          · unfold fX9_begin
            simp only [lt'_e]
            rw [show fX9_isSide a = 1 from ka, if_neg (show ¬ (1 : Int32) = 0 by decide), show fX9_isSide b = 1 from kb, if_neg (show ¬ (1 : Int32) = 0 by decide), kc, if_neg (show ¬ (1 : Int32) = 0 by decide), show fX9_isByte d = 1 from kd, if_neg (show ¬ (1 : Int32) = 0 by decide), l3, ea, eb, ec, ed, show (0 : Int32) = nI 0 from rfl, bd_e e1]
          · unfold fX10_begin
            simp only [lt'_e]
            rw [show fX10_isWithin a 1 64 = 1 from ka, if_neg (show ¬ (1 : Int32) = 0 by decide), show fX10_isWithin b 1 64 = 1 from kb, if_neg (show ¬ (1 : Int32) = 0 by decide), kc', if_neg (show ¬ (1 : Int32) = 0 by decide), show fX10_isWithin d 0 255 = 1 from kd, if_neg (show ¬ (1 : Int32) = 0 by decide)]
            have q6 : ∀ (ν : Mm), Ag μ1 ν (n + 273 + 3) (n + 273 + 4) → ν.1 (n + 273) 6 = nI s ∧ ν.2 (n + 273) 7 = n + 273 + 3 := fun ν h => ⟨by rw [h.2 _ (by omega)]; exact hs.2, by rw [h.1]; exact l7⟩
            rw [hs.2, l7, six_0, gd_e (ib_nI (by omega) (by decide)), nI_clamp (by omega)]
            have a' : Ag μ1 (si μ1 (n + 273 + 3) (6 * s) a) (n + 273 + 3) (n + 273 + 4) := Ag.wi (by omega) (by omega)
            rw [(q6 _ a').1, (q6 _ a').2, six_ix (v := 1) 1 rfl, gd_e (ib_nI (by omega) (by decide)), nI_clamp (by omega)]
            have a' := a'.nsi (a := n + 273 + 3) (k := 6 * s + 1) (v := b) (by omega) (by omega)
            rw [(q6 _ a').1, (q6 _ a').2, six_ix (v := 2) 2 rfl, gd_e (ib_nI (by omega) (by decide)), nI_clamp (by omega)]
            have a' := a'.nsi (a := n + 273 + 3) (k := 6 * s + 2) (v := c) (by omega) (by omega)
            rw [(q6 _ a').1, (q6 _ a').2, six_ix (v := 3) 3 rfl, gd_e (ib_nI (by omega) (by decide)), nI_clamp (by omega)]
            have a' := a'.nsi (a := n + 273 + 3) (k := 6 * s + 3) (v := d) (by omega) (by omega)
            rw [(q6 _ a').1, (q6 _ a').2, six_ix (v := 4) 4 rfl, gd_e (ib_nI (by omega) (by decide)), nI_clamp (by omega)]
            have a' := a'.nsi (a := n + 273 + 3) (k := 6 * s + 4) (v := 0) (by omega) (by omega)
            rw [(q6 _ a').1, (q6 _ a').2, six_ix (v := 5) 5 rfl, gd_e (ib_nI (by omega) (by decide)), nI_clamp (by omega), ea, eb, ec, ed, ← eν]
            exact e2
          · rw [a2.2 _ (by omega), eν]
            rcases (show k = 0 ∨ k = 1 ∨ k = 2 ∨ k = 3 ∨ k = 4 ∨ k = 5 by omega) with rfl | rfl | rfl | rfl | rfl | rfl
            · rw [si_j (by omega), si_j (by omega), si_j (by omega), si_j (by omega), si_j (by omega)]; exact si_k
            · rw [si_j (by omega), si_j (by omega), si_j (by omega), si_j (by omega)]; exact si_k
            · rw [si_j (by omega), si_j (by omega), si_j (by omega)]; exact si_k
            · rw [si_j (by omega), si_j (by omega)]; exact si_k
            · rw [si_j (by omega)]; exact si_k
            · exact si_k
          · have hk' : k < G := hk
            rw [g3 (256 * s + k), if_pos (by omega)]
            rfl
        · refine ⟨0, μ, μ, ?_, ?_, h0⟩
          · unfold fX9_begin
            simp only [lt'_e]
            rw [show fX9_isSide a = 1 from ka, if_neg (show ¬ (1 : Int32) = 0 by decide), show fX9_isSide b = 1 from kb, if_neg (show ¬ (1 : Int32) = 0 by decide), kc, if_neg (show ¬ (1 : Int32) = 0 by decide), show fX9_isByte d = 0 from kd, if_pos rfl]
          · unfold fX10_begin
            simp only [lt'_e]
            rw [show fX10_isWithin a 1 64 = 1 from ka, if_neg (show ¬ (1 : Int32) = 0 by decide), show fX10_isWithin b 1 64 = 1 from kb, if_neg (show ¬ (1 : Int32) = 0 by decide), kc', if_neg (show ¬ (1 : Int32) = 0 by decide), show fX10_isWithin d 0 255 = 0 from kd, if_pos rfl]
      · refine ⟨0, μ, μ, ?_, ?_, h0⟩
        · unfold fX9_begin
          simp only [lt'_e]
          rw [show fX9_isSide a = 1 from ka, if_neg (show ¬ (1 : Int32) = 0 by decide), show fX9_isSide b = 1 from kb, if_neg (show ¬ (1 : Int32) = 0 by decide), kc, if_pos rfl]
        · unfold fX10_begin
          simp only [lt'_e]
          rw [show fX10_isWithin a 1 64 = 1 from ka, if_neg (show ¬ (1 : Int32) = 0 by decide), show fX10_isWithin b 1 64 = 1 from kb, if_neg (show ¬ (1 : Int32) = 0 by decide), kc', if_pos rfl]
    · refine ⟨0, μ, μ, ?_, ?_, h0⟩
      · unfold fX9_begin
        simp only [lt'_e]
        rw [show fX9_isSide a = 1 from ka, if_neg (show ¬ (1 : Int32) = 0 by decide), show fX9_isSide b = 0 from kb, if_pos rfl]
      · unfold fX10_begin
        simp only [lt'_e]
        rw [show fX10_isWithin a 1 64 = 1 from ka, if_neg (show ¬ (1 : Int32) = 0 by decide), show fX10_isWithin b 1 64 = 0 from kb, if_pos rfl]
  · refine ⟨0, μ, μ, ?_, ?_, h0⟩
    · unfold fX9_begin
      simp only [lt'_e]
      rw [show fX9_isSide a = 0 from ka, if_pos rfl]
    · unfold fX10_begin
      simp only [lt'_e]
      rw [show fX10_isWithin a 1 64 = 0 from ka, if_pos rfl]
