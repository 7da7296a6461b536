theorem sh_dec : (List.range 8192).all (fun q => decide ((nI q).toInt16.toInt32 = nI q)) = true := by decide +kernel
theorem sh_nI {q : Nat} (h : q < 8192) : (nI q).toInt16.toInt32 = nI q := by
  have := List.all_eq_true.mp sh_dec q (List.mem_range.mpr h)
  simpa using this
theorem nar_s {q : Nat} (h : q < 8192) : vp_nar .short (nI q).toInt16.toInt32 = nI q := by rw [pk_vs, sh_nI h]
theorem sh_m1 : vp_nar .short (-1) = -1 := by decide
/-! colour -/
def pG (P : Pic) (j : Nat) (x : Int32) : Pic := (P.1, u1 P.2.1 j x, P.2.2)
def pL (P : Pic) (f j : Nat) (x : Int32) : Pic := (P.1, P.2.1, P.2.2.1, P.2.2.2.1, u2 P.2.2.2.2.1 f j x, P.2.2.2.2.2)
theorem pG_C {μ : Mm} {p j : Nat} {P : Pic} {x : Int32} (h : PC μ p P) (hc : hd P 5 ≤ 24) : PC (si μ (p + 2) j x) p (pG P j x) := by
  refine ⟨h.1.eq rfl, ⟨?_, ?_, ?_, ?_, ?_, ?_, fun k hk => ?_⟩, fun f hf => ?_⟩
  · rw [si_b (by omega)]; exact h.2.1.1
  · rw [si_b (by omega)]; exact h.2.1.2.1
  · rw [si_b (by omega)]; exact h.2.1.2.2.1
  · rw [si_b (by omega)]; exact h.2.1.2.2.2.1
  · rw [si_b (by omega)]; exact h.2.1.2.2.2.2.1
  · rw [si_b (by omega)]; exact h.2.1.2.2.2.2.2.1
  · rw [si_r]
    show u1 (μ.1 (p + 2)) j x k = u1 (gt P) j x k
    by_cases hk2 : k = j
    · subst hk2; rw [u1_k, u1_k]
    · rw [u1_j hk2, u1_j hk2]; exact h.2.1.2.2.2.2.2.2 k hk
  · exact (h.2.2 f hf).fr (Ag.wi (lo := p + 2) (hi := p + 3) (by omega) (by omega) |>.fr (Nat.le_refl _) (Nat.le_refl _)) (by omega)
theorem pL_C {μ : Mm} {p f j : Nat} {P : Pic} {x : Int32} (h : PC μ p P) (hf : f < hd P 5) : PC (si μ (p + 6 + 5 * f) j x) p (pL P f j x) := by
  have ha : Fr μ (si μ (p + 6 + 5 * f) j x) (p + 6 + 5 * f) (p + 7 + 5 * f) := (Ag.wi (by omega) (by omega)).fr (Nat.le_refl _) (Nat.le_refl _)
  refine ⟨h.1.eq rfl, h.2.1.fr ha (by omega), fun g hg => ?_⟩
  by_cases hgf : g = f
  · subst hgf
    obtain ⟨h1, ⟨h2, h3⟩, h4, h5⟩ := h.2.2 g hg
    refine ⟨?_, ⟨?_, fun k hk => ?_⟩, ?_, fun i hi => ?_⟩
    · rw [si_b (by omega)]; exact h1
    · rw [si_b (by omega)]; exact h2
    · rw [si_r]
      show u1 (μ.1 (p + 6 + 5 * g)) j x k = u2 (lt P) g j x g k
      rw [u2_s]
      by_cases hk2 : k = j
      · subst hk2; rw [u1_k, u1_k]
      · rw [u1_j hk2, u1_j hk2]; exact h3 k hk
    · rw [si_b (by omega)]; exact h4
    · rw [si_b (by omega)]; exact h5 i hi
  · obtain ⟨h1, ⟨h2, h3⟩, h4, h5⟩ := (h.2.2 g hg).fr ha (by omega)
    refine ⟨h1, ⟨h2, fun k hk => ?_⟩, h4, h5⟩
    show _ = u2 (lt P) f j x g k
    rw [u2_o hgf]
    exact h3 k hk
theorem pG_R {μ : Mm} {y s j : Nat} {P : Pic} {x : Int32} (h : PR μ y s P) : PR (si μ (y + 4) (256 * s + j) x) y s (pG P j x) := by
  refine ⟨⟨fun k hk => ?_, fun k hk => ?_⟩, fun f hf => ?_⟩
  · rw [si_b (by omega)]; exact h.1.1 k hk
  · rw [si_r]
    show u1 (μ.1 (y + 4)) (256 * s + j) x (256 * s + k) = u1 (gt P) j x k
    by_cases hk2 : k = j
    · subst hk2; rw [u1_k, u1_k]
    · rw [u1_j hk2, u1_j (by omega)]; exact h.1.2 k hk
  · obtain ⟨h1, h2, h3, h4⟩ := h.2 f hf
    refine ⟨fun i hi hi7 => ?_, ?_, fun k hk => ?_, fun i hi => ?_⟩
    · rw [si_b (by omega)]; exact h1 i hi hi7
    · rw [si_b (by omega)]; exact h2
    · rw [si_b (by omega)]; exact h3 k hk
    · rw [si_b (by omega)]; exact h4 i hi
theorem pL_R {μ : Mm} {y s f j : Nat} {P : Pic} {x : Int32} (h : PR μ y s P) (hj : j < 256) (hz : ∀ g, g < hd P 5 → fx P g 4 ≤ 256) : PR (si μ (y + 6) (6144 * s + 256 * f + j) x) y s (pL P f j x) := by
  refine ⟨⟨fun k hk => ?_, fun k hk => ?_⟩, fun g hg => ?_⟩
  · rw [si_b (by omega)]; exact h.1.1 k hk
  · rw [si_b (by omega)]; exact h.1.2 k hk
  · obtain ⟨h1, h2, h3, h4⟩ := h.2 g hg
    have hz' := hz g hg
    refine ⟨fun i hi hi7 => ?_, ?_, fun k hk => ?_, fun i hi => ?_⟩
    · rw [si_b (by omega)]; exact h1 i hi hi7
    · rw [si_b (by omega)]; exact h2
    · have hk' : k < fx P g 4 := hk
      rw [si_r]
      show u1 (μ.1 (y + 6)) (6144 * s + 256 * f + j) x (6144 * s + 256 * g + k) = u2 (lt P) f j x g k
      by_cases hgf : g = f
      · subst hgf
        rw [u2_s]
        by_cases hk2 : k = j
        · subst hk2; rw [u1_k, u1_k]
        · rw [u1_j hk2, u1_j (by omega)]; exact h3 k hk
      · rw [u2_o hgf, u1_j (by omega)]
        exact h3 k hk
    · rw [si_b (by omega)]; exact h4 i hi
theorem rgb_case (v : Int32) : (∃ k, k ≤ 16777215 ∧ v = nI k ∧ fX10_isWithin v 0 16777215 = 1) ∨ (fX10_isWithin v 0 16777215 = 0 ∧ (v < 0 ∨ ¬ v ≤ 16777215)) := by
  rcases within_case v (lo := 0) (hi := 16777215) (by decide) (by decide) with ⟨k, h1, h2, h3, h4⟩ | h
  · exact Or.inl ⟨k, h2, h3, h4⟩
  · refine Or.inr ⟨h, ?_⟩
    have h' : (if v < 0 then (0 : Int32) else if (16777215 : Int32) < v then 0 else 1) = 0 := h
    by_cases c1 : v < 0
    · exact Or.inl c1
    · rw [if_neg c1] at h'
      by_cases c2 : (16777215 : Int32) < v
      · exact Or.inr (Int32.not_le.mpr c2)
      · rw [if_neg c2] at h'
        exact absurd h' (by decide)
theorem colour_ok {n : Nat} {μ : Mm} (h : STe n μ) (v k c : Int32) : ∃ r μ1 μ2, fX9_colour n v k c μ = some (r, μ1) ∧ fX10_colour (n + 273) v k c μ1 = some (r, μ2) ∧ STe n μ2 := by
  have h0 := h
  obtain ⟨p, dd, m, w, s, tn, on, t, o, fk, fp, P, hC, hR, hV⟩ := h
  have hc := hV.2.2.2.2.1
  have hg := tsz_le hV.2.1
  have l3 : μ.2 n 3 = p := hC.1.1.2.2.2.1
  have hpd := hC.1.2.2.2.2.2
  have hP := hC.2.2.2.2.2.2.2.1
  have hs := hR.2.1
  rcases isColour_R hR hV v k with ⟨j, e1, hj, e2, e⟩ | ⟨f, j, hf, e1, hj, e2, e⟩ | ⟨e, hh⟩
  · rcases rgb_case c with ⟨x, hx, ex, kx⟩ | ⟨kx, hx⟩
    · have a1 : Ag μ (si μ (p + 2) j (nI x)) p (p + 124) := Ag.wi (by omega) (by omega)
      have hP1 := pG_C (j := j) (x := nI x) hP hc
      have hR1 := hR.fr (a1.fr (Nat.le_refl _) (Nat.le_refl _)) (by omega)
      refine ⟨1, si μ (p + 2) j (nI x), si (si μ (p + 2) j (nI x)) (n + 273 + 4) (256 * s + j) (nI x), ?_, ?_, STe.of (P' := pG P j (nI x)) hC hR hV a1 hP1 (Ag.wi (by omega) (by omega)) (pG_R hR1.2.2.2.2.2.2)⟩
      · unfold fX9_colour
        rw [e1, e2, bd_e (tableAt_g l3 hP), oc_s, lt'_e, has_1 hP.2.1.2.2.1 (by omega) hj, if_neg (show ¬ (1 : Int32) = 0 by decide), ex, if_neg (nI_pos (by omega)), if_pos (show nI x ≤ 16777215 from nI_le (b := 16777215) hx (by decide)), gd_e (ib_nI (by omega) (by decide)), lt'_e, hP.1.2.2.1, nI_clamp (by omega)]
      · have ec : fX10_isColour (n + 273) v k (si μ (p + 2) j (nI x)) = some 1 := by
          rcases isColour_R hR1 hV v k with ⟨j', q1, q2, q3, q⟩ | ⟨f', j', q1, q2, q3, q4, q⟩ | ⟨q, hq⟩
          · exact q
          · exact q
          · exfalso
            rcases hq with ⟨q1, q2⟩ | ⟨q1, q2⟩ | ⟨f', q1, q2, q3⟩
            · rw [e2] at q2
              exact q2.elim (nI_pos (by omega)) (nI_ge hj (by omega))
            · exact q1 e1
            · rw [e1] at q2; exact nI_nm1 (by omega) q2.symm
        unfold fX10_colour
        rw [bd_e ec, if_neg (show ¬ (1 : Int32) = 0 by decide), lt'_e, kx, if_neg (show ¬ (1 : Int32) = 0 by decide), if_pos e1, e2, hR1.2.1.2, glo_ix, gd_e (ib_nI (by omega) (by decide)), lt'_e, hR1.1.2.2.2.1, nI_clamp (by omega), ex]
    · refine ⟨0, μ, μ, ?_, ?_, h0⟩
      · unfold fX9_colour
        rw [e1, e2, bd_e (tableAt_g l3 hP), oc_s, lt'_e, has_1 hP.2.1.2.2.1 (by omega) hj, if_neg (show ¬ (1 : Int32) = 0 by decide)]
        by_cases c1 : c < 0
        · rw [if_pos c1]
        · rw [if_neg c1, if_neg (hx.resolve_left c1)]
      · unfold fX10_colour
        rw [bd_e e, if_neg (show ¬ (1 : Int32) = 0 by decide), lt'_e, kx, if_pos rfl]
  · have hl := tsz_le (hV.2.2.2.2.2 f hf).2.1
    have hF := hP.2.2 f hf
    rcases rgb_case c with ⟨x, hx, ex, kx⟩ | ⟨kx, hx⟩
    · have a1 : Ag μ (si μ (p + 6 + 5 * f) j (nI x)) p (p + 124) := Ag.wi (by omega) (by omega)
      have hP1 := pL_C (j := j) (x := nI x) hP hf
      have hR1 := hR.fr (a1.fr (Nat.le_refl _) (Nat.le_refl _)) (by omega)
      refine ⟨1, si μ (p + 6 + 5 * f) j (nI x), si (si μ (p + 6 + 5 * f) j (nI x)) (n + 273 + 6) (6144 * s + 256 * f + j) (nI x), ?_, ?_, STe.of (P' := pL P f j (nI x)) hC hR hV a1 hP1 (Ag.wi (by omega) (by omega)) (pL_R hR1.2.2.2.2.2.2 (by omega) (fun g hg => tsz_le (hV.2.2.2.2.2 g hg).2.1))⟩
      · unfold fX9_colour
        rw [e1, e2, bd_e (tableAt_f l3 hP hc hf), oc_s, lt'_e, has_1 hF.2.1.1 (by omega) hj, if_neg (show ¬ (1 : Int32) = 0 by decide), ex, if_neg (nI_pos (by omega)), if_pos (show nI x ≤ 16777215 from nI_le (b := 16777215) hx (by decide)), gd_e (ib_nI (by omega) (by decide)), lt'_e, (hP.1.2.2.2 f (by omega)).2.2.2.2, nI_clamp (by omega)]
      · have ec : fX10_isColour (n + 273) v k (si μ (p + 6 + 5 * f) j (nI x)) = some 1 := by
          rcases isColour_R hR1 hV v k with ⟨j', q1, q2, q3, q⟩ | ⟨f', j', q1, q2, q3, q4, q⟩ | ⟨q, hq⟩
          · exact q
          · exact q
          · exfalso
            rcases hq with ⟨q1, q2⟩ | ⟨q1, q2⟩ | ⟨f', q1, q2, q3⟩
            · rw [e1] at q1; exact nI_nm1 (by omega) q1
            · rw [e1] at q2
              exact q2.elim (nI_pos (by omega)) (nI_ge hf (by omega))
            · rw [e1] at q2
              have := (nI_eq (a := f) (b := f') (by omega) (by omega)).mp q2
              subst this
              rw [e2] at q3
              exact q3.elim (nI_pos (by omega)) (nI_ge hj (by omega))
        unfold fX10_colour
        rw [bd_e ec, if_neg (show ¬ (1 : Int32) = 0 by decide), lt'_e, kx, if_neg (show ¬ (1 : Int32) = 0 by decide), if_neg (by rw [e1]; exact nI_nm1 (by omega)), lt'_e, e1, e2, hR1.2.1.2, loc_ix, gd_e (ib_nI (by omega) (by decide)), lt'_e, hR1.1.2.2.2.2.2.1, nI_clamp (by omega), ex]
    · refine ⟨0, μ, μ, ?_, ?_, h0⟩
      · unfold fX9_colour
        rw [e1, e2, bd_e (tableAt_f l3 hP hc hf), oc_s, lt'_e, has_1 hF.2.1.1 (by omega) hj, if_neg (show ¬ (1 : Int32) = 0 by decide)]
        by_cases c1 : c < 0
        · rw [if_pos c1]
        · rw [if_neg c1, if_neg (hx.resolve_left c1)]
      · unfold fX10_colour
        rw [bd_e e, if_neg (show ¬ (1 : Int32) = 0 by decide), lt'_e, kx, if_pos rfl]
  · refine ⟨0, μ, μ, ?_, ?_, h0⟩
    · unfold fX9_colour
      rcases hh with ⟨q, hk⟩ | ⟨q, hv⟩ | ⟨f, hf, q, hk⟩
      · rw [q, bd_e (tableAt_g l3 hP), oc_s, lt'_e, has_0 hP.2.1.2.2.1 hk, if_pos rfl]
      · rw [bd_e (tableAt_0 l3 hP q hv), oc_n]
      · rw [q, bd_e (tableAt_f l3 hP hc hf), oc_s, lt'_e, has_0 (hP.2.2 f hf).2.1.1 hk, if_pos rfl]
    · unfold fX10_colour
      rw [bd_e e, if_pos rfl]
/-! fields of the reference -/
theorem setField_R {μ : Mm} {y s f j : Nat} {c v : Int32} (hL : μ.2 y 9 = y + 5) (hs : s < 2) (hf : f < 24) (hj : j < 10) (hc : c = nI j) : fX10_setField y (nI s) (nI f) c v μ = some (si μ (y + 5) (240 * s + 10 * f + j) v) := by
  subst hc
  unfold fX10_setField
  rw [fld_ix hs hf hj, gd_e (ib_nI (by omega) (by decide)), lt'_e, hL, nI_clamp (by omega)]
theorem setIndex_R {μ : Mm} {y s f i q : Nat} (hL : μ.2 y 11 = y + 7) (hs : s < 2) (hf : f < 24) (hi : i < 4096) (hq : q < 8192) : fX10_setIndex y (nI s) (nI f) (nI i) (nI q) μ = some (si μ (y + 7) (98304 * s + 4096 * f + i) (nI q)) := by
  unfold fX10_setIndex
  rw [idx_ix, gd_e (ib_nI (by omega) (by decide)), lt'_e, hL, nI_clamp (by omega), nar_s hq]
