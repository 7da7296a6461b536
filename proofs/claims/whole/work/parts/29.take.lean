/-! take, paint -/
theorem takeR_loop {y on : Nat} (fu : Nat) (hon : on ≤ 12000) : ∀ (n i : Nat) (μ : Mm), i ≤ on → on - i < n → μ.2 y 0 = y + 1 → μ.2 y 1 = y + 2 → μ.1 y 3 = nI on → ∃ μ', fX10_take_L2 fu n y (nI i) μ = some (nI on, μ') ∧ Ag μ μ' y (y + 2) ∧ μ'.1 y 2 = nI on ∧ (∀ k, k ≠ 2 → μ'.1 y k = μ.1 y k) ∧ ∀ j, μ'.1 (y + 1) j = if i ≤ j ∧ j < on then vp_nar .byte (μ.1 (y + 2) j) else μ.1 (y + 1) j := by
  intro n
  induction n with
  | zero => intro i μ h1 h2; omega
  | succ n ih =>
    intro i μ h1 h2 l0 l1 h3
    show ∃ μ', fX10_take_B2 (fX10_take_L2 fu n) fu y (nI i) μ = some (nI on, μ') ∧ _
    unfold fX10_take_B2
    by_cases hic : i = on
    · refine ⟨si μ y 2 (nI on), ?_, Ag.wi (by omega) (by omega), si_k, fun k hk => si_j hk, fun j => ?_⟩
      · simp (disch := omega) only [lt'_e, bd_s, oc_n, oc_s, m1_e, lit_d, nI_add, pk_mul, pk_sub, nI_clamp, r_le1, r_le0, r_lt1, r_lt0, r_eq1, r_eq0, r_ib, r_b01, r_cpk, m1_eq, m1_eq', m1_lt, m1_le, m1_lt', ↓reduceIte, h3, si_k]
      · rw [if_neg (by omega), si_b (by omega)]
    · obtain ⟨μ', e, a, g2, gk, g⟩ := ih (i + 1) (si μ (y + 1) i (vp_nar .byte (μ.1 (y + 2) i))) (by omega) (by omega) l0 l1 (by rw [si_b (by omega)]; exact h3)
      refine ⟨μ', ?_, (Ag.wi (by omega) (by omega)).tr a, g2, fun k hk => by rw [gk k hk, si_b (by omega)], fun k => ?_⟩
      · simp (disch := omega) only [lt'_e, bd_s, oc_n, oc_s, m1_e, lit_d, nI_add, pk_mul, pk_sub, nI_clamp, r_le1, r_le0, r_lt1, r_lt0, r_eq1, r_eq0, r_ib, r_b01, r_cpk, m1_eq, m1_eq', m1_lt, m1_le, m1_lt', ↓reduceIte, h3, l0, l1, e]
      · rw [g k, si_r, si_b (by omega)]
        by_cases hk : k = i
        · subst hk
          rw [if_neg (by omega), if_pos (by omega), u1_k]
        · rw [u1_j hk]
          by_cases hk2 : i ≤ k ∧ k < on
          · rw [if_pos (by omega), if_pos hk2]
          · rw [if_neg (by omega), if_neg hk2]
theorem take_ok {n : Nat} {μ : Mm} (fu : Nat) (hfu : 12001 ≤ fu) (h : STe n μ) : ∃ r μ1 μ2, fX9_take n μ = some (r, μ1) ∧ fX10_take fu (n + 273) μ1 = some (r, μ2) ∧ STe n μ2 := by
  obtain ⟨p, dd, m, w, s, tn, on, t, o, fk, fp, P, hC, hR, hV⟩ := h
  have hpd := hC.1.2.2.2.2.2
  have hon := hC.2.2.1.2.2.1
  obtain ⟨μ1, e1, b1, a1⟩ := hC.2.1.copy hC.2.2.1 (Or.inl rfl) (by omega)
  have hC1 := hC.tape hV.2.2.2.2.1 a1 b1
  have hR1 := hR.fr (a1.fr (Nat.le_refl _) (Nat.le_refl _)) (by omega)
  obtain ⟨μ2, e2, a2, g2, gk, g⟩ := takeR_loop (y := n + 273) fu hon fu 0 μ1 (by omega) (by omega) hR1.1.1 hR1.1.2.1 hR1.2.2.2.1.1
  refine ⟨nI on, μ1, μ2, ?_, e2, p, dd, m, w, s, on, on, o, o, fk, fp, P, hC1.hi hV.2.2.2.2.1 (a2.fr (Nat.le_refl _) (Nat.le_refl _)) (by omega), hR1.tape a2 gk g2 (fun j hj => ?_), hV⟩
  · unfold fX9_take
    rw [hC.1.1.1, hC.1.1.2.2.2.2, bd_e e1, a1.1, hC.1.1.1, b1.2.1]
  · rw [g j, if_pos (by omega), nar_b']
    exact hR1.2.2.2.1.2 j hj
/-! paint -/
def pI (P : Pic) (f a b q : Nat) : Pic := (P.1, P.2.1, P.2.2.1, P.2.2.2.1, P.2.2.2.2.1, s2 P.2.2.2.2.2 f (fun k => if a ≤ k ∧ k < b then q else P.2.2.2.2.2 f k))
theorem pI_C {μ μ' : Mm} {p f a b q : Nat} {P : Pic} (h : PC μ p P) (hf : f < hd P 5) (ha : Ag μ μ' (p + 8 + 5 * f) (p + 9 + 5 * f)) (hk : ∀ k, μ'.1 (p + 8 + 5 * f) k = if a ≤ k ∧ k < b then nI q else μ.1 (p + 8 + 5 * f) k) : PC μ' p (pI P f a b q) := by
  have hF := ha.fr (Nat.le_refl _) (Nat.le_refl _)
  refine ⟨h.1.eq ha.1, h.2.1.fr hF (by omega), fun g hg => ?_⟩
  by_cases hgf : g = f
  · subst hgf
    obtain ⟨h1, ⟨h2, h3⟩, h4, h5⟩ := h.2.2 g hg
    refine ⟨?_, ⟨?_, fun k hk => ?_⟩, ?_, fun i hi => ?_⟩
    · rw [ha.2 _ (by omega)]; exact h1
    · rw [ha.2 _ (by omega)]; exact h2
    · rw [ha.2 _ (by omega)]; exact h3 k hk
    · rw [ha.2 _ (by omega)]; exact h4
    · rw [hk i]
      show _ = nI (s2 P.2.2.2.2.2 g _ g i)
      rw [s2_s]
      by_cases c : a ≤ i ∧ i < b
      · rw [if_pos c, if_pos c]
      · rw [if_neg c, if_neg c]; exact h5 i hi
  · obtain ⟨h1, h2, h3, h4⟩ := (h.2.2 g hg).fr hF (by omega)
    refine ⟨h1, h2, h3, fun i hi => ?_⟩
    show _ = nI (s2 P.2.2.2.2.2 f _ g i)
    rw [s2_o hgf]
    exact h4 i hi
theorem pI_R {μ μ' : Mm} {y s f a b q : Nat} {P : Pic} (h : PR μ y s P) (hz : ∀ g, g < hd P 5 → fx P g 2 * fx P g 3 ≤ 4096) (hb : b ≤ 4096) (ha : Ag μ μ' (y + 7) (y + 8)) (hk : ∀ k, μ'.1 (y + 7) k = if 98304 * s + 4096 * f + a ≤ k ∧ k < 98304 * s + 4096 * f + b then nI q else μ.1 (y + 7) k) : PR μ' y s (pI P f a b q) := by
  have e3 := ha.2 (y + 3) (by omega)
  have e4 := ha.2 (y + 4) (by omega)
  have e5 := ha.2 (y + 5) (by omega)
  have e6 := ha.2 (y + 6) (by omega)
  refine ⟨⟨fun k hk => by rw [e3]; exact h.1.1 k hk, fun k hk => by rw [e4]; exact h.1.2 k hk⟩, fun g hg => ?_⟩
  obtain ⟨h1, h2, h3, h4⟩ := h.2 g hg
  have hz' := hz g hg
  refine ⟨fun j hj h7 => by rw [e5]; exact h1 j hj h7, by rw [e5]; exact h2, fun k hk => by rw [e6]; exact h3 k hk, fun i hi => ?_⟩
  have hi' : i < fx P g 2 * fx P g 3 := hi
  rw [hk]
  show _ = nI (s2 P.2.2.2.2.2 f _ g i)
  by_cases hgf : g = f
  · subst hgf
    rw [s2_s]
    by_cases c : a ≤ i ∧ i < b
    · rw [if_pos (by omega), if_pos c]
    · rw [if_neg (by omega), if_neg c]; exact h4 i hi
  · rw [s2_o hgf, if_neg (by omega)]
    exact h4 i hi
theorem pI_V {P : Pic} {f a b q : Nat} (hV : VP P) (hq : q < tbs P f) : VP (pI P f a b q) := by
  refine ⟨hV.1, hV.2.1, hV.2.2.1, hV.2.2.2.1, hV.2.2.2.2.1, fun g hg => ?_⟩
  obtain ⟨h1, h2, h3, h4, h5, h6⟩ := hV.2.2.2.2.2 g hg
  refine ⟨h1, h2, h3, h4, h5, fun i hi => ?_⟩
  show s2 P.2.2.2.2.2 f _ g i < tbs P g
  by_cases hgf : g = f
  · subst hgf
    rw [s2_s]
    by_cases c : a ≤ i ∧ i < b
    · rw [if_pos c]; exact hq
    · rw [if_neg c]; exact h6 i hi
  · rw [s2_o hgf]
    exact h6 i hi
theorem tableOf_C {μ : Mm} {p f : Nat} {P : Pic} (h : PC μ p P) (hf : f < hd P 5) (hV : VP P) : ∃ T, fX4_tableOf p (p + 4 + 5 * f) μ = T ∧ μ.1 T 1 = nI (tbs P f) ∧ ((fx P f 4 = 0 ∧ T = p + 1) ∨ (fx P f 4 ≠ 0 ∧ T = p + 5 + 5 * f)) := by
  have hF := h.2.2 f hf
  have hc := hV.2.2.2.2.1
  have hL := h.1.2.2.2 f (by omega)
  have hz := tsz_le (hV.2.2.2.2.2 f hf).2.1
  unfold fX4_tableOf tbs
  rw [hL.2.1, hF.2.1.1]
  by_cases c : fx P f 4 = 0
  · rw [if_pos (show nI (fx P f 4) = 0 by rw [c]; rfl), if_pos c, h.1.1]
    exact ⟨_, rfl, h.2.1.2.2.1, Or.inl ⟨c, rfl⟩⟩
  · rw [if_neg (nI_ne0 (by omega) (by omega)), if_neg c]
    exact ⟨_, rfl, hF.2.1.1, Or.inr ⟨c, rfl⟩⟩
theorem paintR_loop {y s f a m q : Nat} (fu : Nat) (hs : s < 2) (hf : f < 24) (ham : a + m ≤ 4096) (hq : q < 8192) : ∀ (n i : Nat) (μ : Mm), i ≤ m → m - i < n → μ.2 y 11 = y + 7 → μ.1 y 6 = nI s → ∃ μ', fX10_paint_L68 fu n y (nI f) (nI a) (nI m) (nI q) (nI i) μ = some (1, μ') ∧ Ag μ μ' (y + 7) (y + 8) ∧ ∀ k, μ'.1 (y + 7) k = if 98304 * s + 4096 * f + (a + i) ≤ k ∧ k < 98304 * s + 4096 * f + (a + m) then nI q else μ.1 (y + 7) k := by
  intro n
  induction n with
  | zero => intro i μ h1 h2; omega
  | succ n ih =>
    intro i μ h1 h2 l h6
    show ∃ μ', fX10_paint_B68 (fX10_paint_L68 fu n) fu y (nI f) (nI a) (nI m) (nI q) (nI i) μ = some (1, μ') ∧ _
    unfold fX10_paint_B68
    by_cases hic : i = m
    · refine ⟨μ, ?_, Ag.rf, fun j => ?_⟩
      · simp (disch := omega) only [lt'_e, bd_s, oc_n, oc_s, m1_e, lit_d, nI_add, pk_mul, pk_sub, nI_clamp, r_le1, r_le0, r_lt1, r_lt0, r_eq1, r_eq0, r_ib, r_b01, r_cpk, m1_eq, m1_eq', m1_lt, m1_le, m1_lt', ↓reduceIte]
      · rw [if_neg (by omega)]
    · obtain ⟨μ', e, aa, g⟩ := ih (i + 1) (si μ (y + 7) (98304 * s + 4096 * f + (a + i)) (nI q)) (by omega) (by omega) l (by rw [si_b (by omega)]; exact h6)
      refine ⟨μ', ?_, (Ag.wi (by omega) (by omega)).tr aa, fun k => ?_⟩
      · rw [h6, nI_add, bd_e (setIndex_R (μ := μ) l hs hf (by omega) hq)]
        simp (disch := omega) only [lt'_e, bd_s, oc_n, oc_s, m1_e, lit_d, nI_add, pk_mul, pk_sub, nI_clamp, r_le1, r_le0, r_lt1, r_lt0, r_eq1, r_eq0, r_ib, r_b01, r_cpk, m1_eq, m1_eq', m1_lt, m1_le, m1_lt', ↓reduceIte, e]
      · rw [g k, si_r]
        by_cases hk : k = 98304 * s + 4096 * f + (a + i)
        · subst hk
          rw [if_neg (by omega), if_pos (by omega), u1_k]
        · rw [u1_j hk]
          by_cases hk2 : 98304 * s + 4096 * f + (a + i) ≤ k ∧ k < 98304 * s + 4096 * f + (a + m)
          · rw [if_pos (by omega), if_pos hk2]
          · rw [if_neg (by omega), if_neg hk2]
theorem paint_ok {n : Nat} {μ : Mm} (fu : Nat) (hfu : 4097 ≤ fu) (h : STe n μ) (v a b c : Int32) : ∃ r μ1 μ2, fX9_paint fu n v a b c μ = some (r, μ1) ∧ fX10_paint fu (n + 273) v a b c μ1 = some (r, μ2) ∧ STe n μ2 := by
  have h0 := h
  obtain ⟨p, dd, m, w, s, tn, on, t, o, fk, fp, P, hC, hR, hV⟩ := h
  have hc := hV.2.2.2.2.1
  have l3 : μ.2 n 3 = p := hC.1.1.2.2.2.1
  have hpd := hC.1.2.2.2.2.2
  have hP := hC.2.2.2.2.2.2.2.1
  have hs := hR.2.1
  rcases fr_case (c := hd P 5) (by omega) v with ⟨f, hf, ev⟩ | hv
  · have hL := hP.1.2.2.2 f (by omega)
    obtain ⟨p1, p2, -, -⟩ := vf_pl hV hf
    have hF := hP.2.2 f hf
    have hVF := hV.2.2.2.2.2 f hf
    obtain ⟨T, eT, hT, -⟩ := tableOf_C hP hf hV
    have tb : 1 ≤ tbs P f ∧ tbs P f ≤ 256 := ⟨by have := hVF.2.2.2.2.1; omega, by unfold tbs; split; exact tsz_le hV.2.1; exact tsz_le hVF.2.1⟩
    subst ev
    have cl : fX9_paint fu n (nI f) a b c μ = (if a < 0 then some (0, μ) else if b < 0 then some (0, μ) else if nI (fx P f 2 * fx P f 3) < a then some (0, μ) else if b ≤ nI (fx P f 2 * fx P f 3) - a then (if fX7_has T c μ = 0 then some (0, μ) else bd (fX3_fill fu (p + 4 + 5 * f) a (a + b) c μ) fun μ7 => some (1, μ7)) else some (0, μ)) := by
      unfold fX9_paint
      rw [l3, bd_e (frameAt_1 hP hc hf), oc_s, size_C hF, eT]
      simp only [lt'_e]
    have rf : ∀ μ1, SR (n + 273) μ1 s tn on t o fk fp P → fX10_paint fu (n + 273) (nI f) a b c μ1 = (if fX10_isWithin c 0 (nI (tbs P f - 1)) = 0 then some (0, μ1) else if fX10_isWithin a 0 (nI (fx P f 2 * fx P f 3)) = 0 then some (0, μ1) else if fX10_isWithin b 0 (nI (fx P f 2 * fx P f 3) - a) = 0 then some (0, μ1) else fX10_paint_L68 fu fu (n + 273) (nI f) a b c 0 μ1) := by
      intro μ1 h1
      unfold fX10_paint
      rw [bd_e (isFrame_1 h1 hc hf), if_neg (show ¬ (1 : Int32) = 0 by decide), bd_e (colours_R h1 hV hf), bd_e (places_R h1 hc hf), show nI (tbs P f) - 1 = nI (tbs P f - 1) from pk_sub (b := 1) (by omega)]
      simp only [lt'_e]
    rcases within_case a (lo := 0) (hi := fx P f 2 * fx P f 3) (by decide) (by omega) with ⟨A, -, hA, ea, ka⟩ | ka
    · subst ea
      rw [pk_sub hA] at cl
      rcases within_case b (lo := 0) (hi := fx P f 2 * fx P f 3 - A) (by decide) (by omega) with ⟨B, -, hB, eb, kb⟩ | kb
      · subst eb
        rcases within_case c (lo := 0) (hi := tbs P f - 1) (by decide) (by omega) with ⟨q, -, hq, ec, kc⟩ | kc
        · subst ec
          obtain ⟨μ1, e1, a1, g1⟩ := fill_loop (F := p + 4 + 5 * f) (q := p + 8 + 5 * f) (b := A + B) fu (by omega) (nI q) fu A μ (by omega) (by omega) hL.2.2.2.1
          have hP1 : PC μ1 p (pI P f A (A + B) q) := pI_C hP hf (a1.up (by omega) (by omega)) g1
          have hR1 := hR.fr (a1.fr (Nat.le_refl _) (Nat.le_refl _)) (by omega)
          obtain ⟨μ2, e2, a2, g2⟩ := paintR_loop (y := n + 273) (s := s) (f := f) (a := A) (m := B) (q := q) fu hs.1 (by omega) (by omega) (by omega) fu 0 μ1 (by omega) (by omega) hR1.1.2.2.2.2.2.2.1 hR1.2.1.2
          refine ⟨1, μ1, μ2, ?_, ?_, STe.of hC hR (pI_V (f := f) (a := A) (b := A + B) (q := q) hV (by omega)) (a1.up (by omega) (by omega)) hP1 (a2.up (by omega) (by omega)) (pI_R hR1.2.2.2.2.2.2 (fun g hg => (vf_pl hV hg).1) (by omega) (a2.up (by omega) (by omega)) g2)⟩
          · rw [cl, has_1 hT (by omega) (show q < tbs P f by omega)]
            unfold fX3_fill
            simp (disch := omega) only [lt'_e, bd_s, oc_n, oc_s, m1_e, lit_d, nI_add, pk_mul, pk_sub, nI_clamp, r_le1, r_le0, r_lt1, r_lt0, r_eq1, r_eq0, r_ib, r_b01, r_cpk, m1_eq, m1_eq', m1_lt, m1_le, m1_lt', ↓reduceIte, e1]
          · rw [rf μ1 hR1, pk_sub hA, show fX10_isWithin (nI q) 0 (nI (tbs P f - 1)) = 1 from kc, if_neg (show ¬ (1 : Int32) = 0 by decide), show fX10_isWithin (nI A) 0 (nI (fx P f 2 * fx P f 3)) = 1 from ka, if_neg (show ¬ (1 : Int32) = 0 by decide), show fX10_isWithin (nI B) 0 (nI (fx P f 2 * fx P f 3 - A)) = 1 from kb, if_neg (show ¬ (1 : Int32) = 0 by decide)]
            exact e2
        · refine ⟨0, μ, μ, ?_, ?_, h0⟩
          · have hh : fX7_has T c μ = 0 := by
              refine has_0 hT ?_
              rcases within_neg kc with q | q
              · exact Or.inl q
              · refine Or.inr ?_
                by_cases c1 : c < 0
                · exact absurd (Int32.lt_trans q c1) (nI_pos (by omega))
                · obtain ⟨j, hj, rfl⟩ := nI_of c1
                  have := (nI_ltI (by omega) hj).mp q
                  exact nI_le (by omega) hj
            rw [cl, hh]
            simp (disch := omega) only [lt'_e, bd_s, oc_n, oc_s, m1_e, lit_d, nI_add, pk_mul, pk_sub, nI_clamp, r_le1, r_le0, r_lt1, r_lt0, r_eq1, r_eq0, r_ib, r_b01, r_cpk, m1_eq, m1_eq', m1_lt, m1_le, m1_lt', ↓reduceIte]
          · rw [rf μ hR, show fX10_isWithin c 0 (nI (tbs P f - 1)) = 0 from kc, if_pos rfl]
      · refine ⟨0, μ, μ, ?_, ?_, h0⟩
        · rw [cl]
          by_cases c1 : b < 0
          · rw [if_pos c1]; simp
          · rw [if_neg c1, if_neg (show ¬ b ≤ nI (fx P f 2 * fx P f 3 - A) from Int32.not_le.mpr ((within_neg kb).resolve_left c1))]
            simp
        · rw [rf μ hR, pk_sub hA, show fX10_isWithin b 0 (nI (fx P f 2 * fx P f 3 - A)) = 0 from kb, if_pos rfl]
          simp
    · refine ⟨0, μ, μ, ?_, ?_, h0⟩
      · rw [cl]
        by_cases c1 : a < 0
        · rw [if_pos c1]
        · rw [if_neg c1, if_pos (show nI (fx P f 2 * fx P f 3) < a from (within_neg ka).resolve_left c1)]
          simp
      · rw [rf μ hR, show fX10_isWithin a 0 (nI (fx P f 2 * fx P f 3)) = 0 from ka, if_pos rfl]
        simp
  · refine ⟨0, μ, μ, ?_, ?_, h0⟩
    · unfold fX9_paint
      rw [l3, bd_e (frameAt_0 hP hv), oc_n]
    · unfold fX10_paint
      rw [bd_e (isFrame_0 hR hv), if_pos rfl]
