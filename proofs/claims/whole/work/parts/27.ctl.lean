/-! control -/
def pW (P : Pic) (f d : Nat) (x : Int32) (l i : Nat) : Pic := (P.1, P.2.1, s2 P.2.2.1 f (u1 (u1 (u1 (P.2.2.1 f) 6 d) 8 l) 9 i), s2 P.2.2.2.1 f x, P.2.2.2.2)
theorem tr_case (v : Int32) : (v = -1 ∧ fX10_isWithin v (-1) 255 = 1) ∨ (∃ k, k < 256 ∧ v = nI k ∧ v ≠ -1 ∧ fX10_isWithin v (-1) 255 = 1 ∧ fX9_isByte v = 1) ∨ (v ≠ -1 ∧ fX10_isWithin v (-1) 255 = 0 ∧ fX9_isByte v = 0) := by
  by_cases c0 : v = -1
  · subst c0; exact Or.inl ⟨rfl, by decide⟩
  · rcases within_case v (lo := 0) (hi := 255) (by decide) (by decide) with ⟨k, h1, h2, h3, h4⟩ | h
    · refine Or.inr (Or.inl ⟨k, by omega, h3, c0, ?_, h4⟩)
      unfold fX10_isWithin
      rw [h3]
      have hlt : ¬ nI k < -1 := by
        rw [Int32.lt_iff_toInt_lt, nI_toInt (by omega)]
        have : Int32.toInt (-1) = -1 := by decide
        omega
      rw [if_neg hlt, if_neg (show ¬ (255 : Int32) < nI k from nI_nlt (a := 255) h2 (by decide))]
    · refine Or.inr (Or.inr ⟨c0, ?_, h⟩)
      have h' : (if v < 0 then (0 : Int32) else if (255 : Int32) < v then 0 else 1) = 0 := h
      unfold fX10_isWithin
      by_cases c1 : v < -1
      · rw [if_pos c1]
      · rw [if_neg c1]
        by_cases c2 : (255 : Int32) < v
        · rw [if_pos c2]
        · exfalso
          have c3 : v < 0 := by
            by_cases c4 : v < 0
            · exact c4
            · rw [if_neg c4, if_neg c2] at h'
              exact absurd h' (by decide)
          apply c0
          rw [Int32.lt_iff_toInt_lt] at c1 c3
          have e0 : Int32.toInt 0 = 0 := by decide
          have e1 : Int32.toInt (-1) = -1 := by decide
          apply Int32.toInt_inj.mp
          omega
theorem within_neg {v : Int32} {lo hi : Int32} (h : fX10_isWithin v lo hi = 0) : v < lo ∨ hi < v := by
  unfold fX10_isWithin at h
  by_cases c1 : v < lo
  · exact Or.inl c1
  · rw [if_neg c1] at h
    by_cases c2 : hi < v
    · exact Or.inr c2
    · rw [if_neg c2] at h
      exact absurd h (by decide)
theorem become_C {μ : Mm} {a : Nat} {d x l i : Int32} (hb : i = 0 ∨ i = 1) : fX8_become a d x l i μ = some (si (si (si (si μ a 0 d) a 1 x) a 2 l) a 3 i) := by
  unfold fX8_become
  rcases hb with rfl | rfl <;> rfl
theorem pW_C {μ : Mm} {p f d l i : Nat} {P : Pic} {x : Int32} (h : PC μ p P) (hf : f < hd P 5) : PC (si (si (si (si μ (p + 7 + 5 * f) 0 (nI d)) (p + 7 + 5 * f) 1 x) (p + 7 + 5 * f) 2 (nI l)) (p + 7 + 5 * f) 3 (nI i)) p (pW P f d x l i) := by
  have ha : Fr μ (si (si (si (si μ (p + 7 + 5 * f) 0 (nI d)) (p + 7 + 5 * f) 1 x) (p + 7 + 5 * f) 2 (nI l)) (p + 7 + 5 * f) 3 (nI i)) (p + 7 + 5 * f) (p + 8 + 5 * f) := ((((Ag.wi (by omega) (by omega)).nsi (by omega) (by omega)).nsi (by omega) (by omega)).nsi (by omega) (by omega)).fr (Nat.le_refl _) (Nat.le_refl _)
  refine ⟨h.1.eq rfl, h.2.1.fr ha (by omega), fun g hg => ?_⟩
  have hg' : g < hd P 5 := hg
  by_cases hgf : g = f
  · subst hgf
    obtain ⟨h1, ⟨h2, h3⟩, h4, h5⟩ := h.2.2 g hg
    have e1 := (ha (p + 4 + 5 * g) (by omega)).1
    have e2 := (ha (p + 5 + 5 * g) (by omega)).1
    have e3 := (ha (p + 6 + 5 * g) (by omega)).1
    have e4 := (ha (p + 8 + 5 * g) (by omega)).1
    have q : ∀ j, j ≠ 6 → j ≠ 8 → j ≠ 9 → fx (pW P g d x l i) g j = fx P g j := fun j h6 h8 h9 => by
      show s2 P.2.2.1 g (u1 (u1 (u1 (P.2.2.1 g) 6 d) 8 l) 9 i) g j = _
      rw [s2_s, u1_j h9, u1_j h8, u1_j h6]
    have q6 : fx (pW P g d x l i) g 6 = d := by
      show s2 P.2.2.1 g (u1 (u1 (u1 (P.2.2.1 g) 6 d) 8 l) 9 i) g 6 = _
      rw [s2_s, u1_j (by decide), u1_j (by decide), u1_k]
    have q8 : fx (pW P g d x l i) g 8 = l := by
      show s2 P.2.2.1 g (u1 (u1 (u1 (P.2.2.1 g) 6 d) 8 l) 9 i) g 8 = _
      rw [s2_s, u1_j (by decide), u1_k]
    have q9 : fx (pW P g d x l i) g 9 = i := by
      show s2 P.2.2.1 g (u1 (u1 (u1 (P.2.2.1 g) 6 d) 8 l) 9 i) g 9 = _
      rw [s2_s, u1_k]
    have qt : tr (pW P g d x l i) g = x := by
      show s2 P.2.2.2.1 g x g = _
      rw [s2_s]
    unfold PCf
    rw [e1, e2, e3, e4, q 0 (by decide) (by decide) (by decide), q 1 (by decide) (by decide) (by decide), q 2 (by decide) (by decide) (by decide), q 3 (by decide) (by decide) (by decide), q 4 (by decide) (by decide) (by decide), q 5 (by decide) (by decide) (by decide), q6, q8, q9, qt]
    refine ⟨h1, ⟨h2, h3⟩, ⟨?_, ?_, ?_, si_k⟩, h5⟩
    · rw [si_j (by decide), si_j (by decide), si_j (by decide), si_k]
    · rw [si_j (by decide), si_j (by decide), si_k]
    · rw [si_j (by decide), si_k]
  · have := (h.2.2 g hg).fr ha (by omega)
    have q : fx (pW P f d x l i) g = fx P g := by
      show s2 P.2.2.1 f _ g = _
      rw [s2_o hgf]
    have qt : tr (pW P f d x l i) g = tr P g := by
      show s2 P.2.2.2.1 f x g = _
      rw [s2_o hgf]
    unfold PCf
    rw [q, qt]
    exact this
theorem pW_R {μ : Mm} {y s f d l i : Nat} {P : Pic} {x : Int32} (h : PR μ y s P) : PR (si (si (si (si μ (y + 5) (240 * s + 10 * f + 6) (nI d)) (y + 5) (240 * s + 10 * f + 7) x) (y + 5) (240 * s + 10 * f + 8) (nI l)) (y + 5) (240 * s + 10 * f + 9) (nI i)) y s (pW P f d x l i) := by
  have ha : Fr μ (si (si (si (si μ (y + 5) (240 * s + 10 * f + 6) (nI d)) (y + 5) (240 * s + 10 * f + 7) x) (y + 5) (240 * s + 10 * f + 8) (nI l)) (y + 5) (240 * s + 10 * f + 9) (nI i)) (y + 5) (y + 6) := ((((Ag.wi (by omega) (by omega)).nsi (by omega) (by omega)).nsi (by omega) (by omega)).nsi (by omega) (by omega)).fr (Nat.le_refl _) (Nat.le_refl _)
  have e3 := (ha (y + 3) (by omega)).1
  have e4 := (ha (y + 4) (by omega)).1
  have e6 := (ha (y + 6) (by omega)).1
  have e7 := (ha (y + 7) (by omega)).1
  refine ⟨⟨fun k hk => by rw [e3]; exact h.1.1 k hk, fun k hk => by rw [e4]; exact h.1.2 k hk⟩, fun g hg => ?_⟩
  obtain ⟨h1, h2, h3, h4⟩ := h.2 g hg
  by_cases hgf : g = f
  · subst hgf
    have q : ∀ j, j ≠ 6 → j ≠ 8 → j ≠ 9 → fx (pW P g d x l i) g j = fx P g j := fun j h6 h8 h9 => by
      show s2 P.2.2.1 g (u1 (u1 (u1 (P.2.2.1 g) 6 d) 8 l) 9 i) g j = _
      rw [s2_s, u1_j h9, u1_j h8, u1_j h6]
    refine ⟨fun j hj h7 => ?_, ?_, fun k hk => ?_, fun k hk => ?_⟩
    · by_cases j9 : j = 9
      · subst j9
        rw [si_k]
        show _ = nI (s2 P.2.2.1 g (u1 (u1 (u1 (P.2.2.1 g) 6 d) 8 l) 9 i) g 9)
        rw [s2_s, u1_k]
      rw [si_j (by omega)]
      by_cases j8 : j = 8
      · subst j8
        rw [si_k]
        show _ = nI (s2 P.2.2.1 g (u1 (u1 (u1 (P.2.2.1 g) 6 d) 8 l) 9 i) g 8)
        rw [s2_s, u1_j (by decide), u1_k]
      rw [si_j (by omega), si_j (by omega)]
      by_cases j6 : j = 6
      · subst j6
        rw [si_k]
        show _ = nI (s2 P.2.2.1 g (u1 (u1 (u1 (P.2.2.1 g) 6 d) 8 l) 9 i) g 6)
        rw [s2_s, u1_j (by decide), u1_j (by decide), u1_k]
      rw [si_j (by omega), q j j6 j8 j9]
      exact h1 j hj h7
    · rw [si_j (by omega), si_j (by omega), si_k]
      show x = s2 P.2.2.2.1 g x g
      rw [s2_s]
    · rw [q 4 (by decide) (by decide) (by decide)] at hk
      rw [e6]; exact h3 k hk
    · rw [q 2 (by decide) (by decide) (by decide), q 3 (by decide) (by decide) (by decide)] at hk
      rw [e7]; exact h4 k hk
  · have q : fx (pW P f d x l i) g = fx P g := by
      show s2 P.2.2.1 f _ g = _
      rw [s2_o hgf]
    have qt : tr (pW P f d x l i) g = tr P g := by
      show s2 P.2.2.2.1 f x g = _
      rw [s2_o hgf]
    unfold PRf
    rw [q, qt]
    refine ⟨fun j hj h7 => ?_, ?_, fun k hk => by rw [e6]; exact h3 k hk, fun k hk => by rw [e7]; exact h4 k hk⟩
    · rw [si_j (by omega), si_j (by omega), si_j (by omega), si_j (by omega)]; exact h1 j hj h7
    · rw [si_j (by omega), si_j (by omega), si_j (by omega), si_j (by omega)]; exact h2
theorem pW_V {P : Pic} {f d l i : Nat} {x : Int32} (hV : VP P) (hd' : d < 8) (hl : l < 65536) (hi : i ≤ 1) (hx : x = -1 ∨ ∃ k, k < 256 ∧ x = nI k) : VP (pW P f d x l i) := by
  refine ⟨hV.1, hV.2.1, hV.2.2.1, hV.2.2.2.1, hV.2.2.2.2.1, fun g hg => ?_⟩
  have hF := hV.2.2.2.2.2 g hg
  by_cases hgf : g = f
  · subst hgf
    have q : ∀ j, j ≠ 6 → j ≠ 8 → j ≠ 9 → fx (pW P g d x l i) g j = fx P g j := fun j h6 h8 h9 => by
      show s2 P.2.2.1 g (u1 (u1 (u1 (P.2.2.1 g) 6 d) 8 l) 9 i) g j = _
      rw [s2_s, u1_j h9, u1_j h8, u1_j h6]
    have q6 : fx (pW P g d x l i) g 6 = d := by
      show s2 P.2.2.1 g (u1 (u1 (u1 (P.2.2.1 g) 6 d) 8 l) 9 i) g 6 = _
      rw [s2_s, u1_j (by decide), u1_j (by decide), u1_k]
    have q8 : fx (pW P g d x l i) g 8 = l := by
      show s2 P.2.2.1 g (u1 (u1 (u1 (P.2.2.1 g) 6 d) 8 l) 9 i) g 8 = _
      rw [s2_s, u1_j (by decide), u1_k]
    have q9 : fx (pW P g d x l i) g 9 = i := by
      show s2 P.2.2.1 g (u1 (u1 (u1 (P.2.2.1 g) 6 d) 8 l) 9 i) g 9 = _
      rw [s2_s, u1_k]
    have qt : tr (pW P g d x l i) g = x := by
      show s2 P.2.2.2.1 g x g = _
      rw [s2_s]
    unfold VF tbs
    rw [q 0 (by decide) (by decide) (by decide), q 1 (by decide) (by decide) (by decide), q 2 (by decide) (by decide) (by decide), q 3 (by decide) (by decide) (by decide), q 4 (by decide) (by decide) (by decide), q 5 (by decide) (by decide) (by decide), q6, q8, q9, qt]
    exact ⟨hF.1, hF.2.1, ⟨hF.2.2.1.1, hd', hl, hi⟩, hx, hF.2.2.2.2⟩
  · have q : fx (pW P f d x l i) g = fx P g := by
      show s2 P.2.2.1 f _ g = _
      rw [s2_o hgf]
    have qt : tr (pW P f d x l i) g = tr P g := by
      show s2 P.2.2.2.1 f x g = _
      rw [s2_o hgf]
    unfold VF tbs
    rw [q, qt]
    exact hF
theorem control_ok {n : Nat} {μ : Mm} (h : STe n μ) (v a b c e : Int32) (he : e = 0 ∨ e = 1) : ∃ r μ1 μ2, fX9_control n v a b c e μ = some (r, μ1) ∧ fX10_control (n + 273) v a b c e μ1 = some (r, μ2) ∧ STe n μ2 := by
  have h0 := h
  obtain ⟨p, dd, m, w, s, tn, on, t, o, fk, fp, P, hC, hR, hV⟩ := h
  have hc := hV.2.2.2.2.1
  have l3 : μ.2 n 3 = p := hC.1.1.2.2.2.1
  have hpd := hC.1.2.2.2.2.2
  have hP := hC.2.2.2.2.2.2.2.1
  have hs := hR.2.1
  rcases fr_case (c := hd P 5) (by omega) v with ⟨f, hf, ev⟩ | hv
  · have hL := hP.1.2.2.2 f (by omega)
    have cl : fX9_control n v a b c e μ = (if a < 0 then some (0, μ) else if (7 : Int32) < a then some (0, μ) else if c < 0 then some (0, μ) else if c ≤ 65535 then (if b = (-1) then fX9_control_L53 a b c e (p + 4 + 5 * f) μ else lt' (fX9_isByte b) fun x3 => if x3 = 0 then some (0, μ) else fX9_control_L53 a b c e (p + 4 + 5 * f) μ) else some (0, μ)) := by
      unfold fX9_control
      rw [l3, ev, bd_e (frameAt_1 hP hc hf), oc_s]
    have rf : ∀ μ1, SR (n + 273) μ1 s tn on t o fk fp P → fX10_control (n + 273) v a b c e μ1 = (if fX10_isWithin a 0 7 = 0 then some (0, μ1) else if fX10_isWithin b (-1) 255 = 0 then some (0, μ1) else if fX10_isWithin c 0 65535 = 0 then some (0, μ1) else
          bd (fX10_setField (n + 273) (μ1.1 (n + 273) 6) v 6 a μ1) fun μ5 =>
          bd (fX10_setField (n + 273) (μ5.1 (n + 273) 6) v 7 b μ5) fun μ6 =>
          bd (fX10_setField (n + 273) (μ6.1 (n + 273) 6) v 8 c μ6) fun μ7 =>
          if e = 0 then
            fX10_control_L97 (n + 273) (μ7.1 (n + 273) 6) v 9 0 μ7
          else
            fX10_control_L97 (n + 273) (μ7.1 (n + 273) 6) v 9 1 μ7) := by
      intro μ1 h1
      unfold fX10_control
      rw [ev, bd_e (isFrame_1 h1 hc hf), if_neg (show ¬ (1 : Int32) = 0 by decide)]
      simp only [lt'_e]
    rcases within_case a (lo := 0) (hi := 7) (by decide) (by decide) with ⟨d, hd1, hd2, ea, ka⟩ | ka
    · rcases within_case c (lo := 0) (hi := 65535) (by decide) (by decide) with ⟨l, hl1, hl2, ec, kc⟩ | kc
      · have good : ∀ (x : Int32), b = x → (x = -1 ∨ ∃ k, k < 256 ∧ x = nI k) → fX10_isWithin b (-1) 255 = 1 → (fX9_control n v a b c e μ = fX9_control_L53 a b c e (p + 4 + 5 * f) μ) → ∃ r μ1 μ2, fX9_control n v a b c e μ = some (r, μ1) ∧ fX10_control (n + 273) v a b c e μ1 = some (r, μ2) ∧ STe n μ2 := by
          intro x ex hx kb hcl
          obtain ⟨i, hi, ei⟩ : ∃ i : Nat, i ≤ 1 ∧ e = nI i := by
            rcases he with rfl | rfl
            · exact ⟨0, by omega, rfl⟩
            · exact ⟨1, by omega, rfl⟩
          obtain ⟨μ1, em⟩ : ∃ μ1, μ1 = si (si (si (si μ (p + 7 + 5 * f) 0 (nI d)) (p + 7 + 5 * f) 1 x) (p + 7 + 5 * f) 2 (nI l)) (p + 7 + 5 * f) 3 (nI i) := ⟨_, rfl⟩
          have a1 : Ag μ μ1 p (p + 124) := by
            rw [em]
            exact ((((Ag.wi (by omega) (by omega)).nsi (by omega) (by omega)).nsi (by omega) (by omega)).nsi (by omega) (by omega))
          have hR1 := hR.fr (a1.fr (Nat.le_refl _) (Nat.le_refl _)) (by omega)
          have hP1 : PC μ1 p (pW P f d x l i) := by rw [em]; exact pW_C hP hf
          have l9 : μ1.2 (n + 273) 9 = n + 273 + 5 := hR1.1.2.2.2.2.1
          have k6 := hR1.2.1
          refine ⟨1, μ1, _, ?_, ?_, STe.of hC hR (pW_V (f := f) (d := d) (l := l) (i := i) hV (by omega) (by omega) hi hx) a1 hP1 ((((Ag.wi (by omega) (by omega)).nsi (by omega) (by omega)).nsi (by omega) (by omega)).nsi (by omega) (by omega)) (pW_R (f := f) (x := x) hR1.2.2.2.2.2.2)⟩
          · rw [hcl]
            unfold fX9_control_L53
            rw [hL.2.2.1, bd_e (become_C he), ea, ex, ec, ei, ← em]
          · have f6 := setField_R (μ := μ1) (c := 6) (v := a) (f := f) (j := 6) l9 k6.1 (by omega) (by decide) rfl
            obtain ⟨ν1, x1⟩ : ∃ ν1, ν1 = si μ1 (n + 273 + 5) (240 * s + 10 * f + 6) a := ⟨_, rfl⟩
            rw [← x1] at f6
            have q1 : ν1.1 (n + 273) 6 = nI s := by rw [x1, si_b (by omega)]; exact k6.2
            have f7 := setField_R (μ := ν1) (c := 7) (v := b) (f := f) (j := 7) (by rw [x1]; exact l9) k6.1 (by omega) (by decide) rfl
            obtain ⟨ν2, x2⟩ : ∃ ν2, ν2 = si ν1 (n + 273 + 5) (240 * s + 10 * f + 7) b := ⟨_, rfl⟩
            rw [← x2] at f7
            have q2 : ν2.1 (n + 273) 6 = nI s := by rw [x2, si_b (by omega)]; exact q1
            have f8 := setField_R (μ := ν2) (c := 8) (v := c) (f := f) (j := 8) (by rw [x2, x1]; exact l9) k6.1 (by omega) (by decide) rfl
            obtain ⟨ν3, x3⟩ : ∃ ν3, ν3 = si ν2 (n + 273 + 5) (240 * s + 10 * f + 8) c := ⟨_, rfl⟩
            rw [← x3] at f8
            have q3 : ν3.1 (n + 273) 6 = nI s := by rw [x3, si_b (by omega)]; exact q2
            have l93 : ν3.2 (n + 273) 9 = n + 273 + 5 := by rw [x3, x2, x1]; exact l9
            rw [rf μ1 hR1, show fX10_isWithin a 0 7 = 1 from ka, if_neg (show ¬ (1 : Int32) = 0 by decide), kb, if_neg (show ¬ (1 : Int32) = 0 by decide), show fX10_isWithin c 0 65535 = 1 from kc, if_neg (show ¬ (1 : Int32) = 0 by decide), ev, k6.2, bd_e f6, q1, bd_e f7, q2, bd_e f8, q3]
            unfold fX10_control_L97
            rw [← ea, ← ex, ← ec, ← x1, ← x2, ← x3]
            rcases (show i = 0 ∨ i = 1 by omega) with r | r
            · rw [r] at ei ⊢
              rw [if_pos (show e = 0 from ei), bd_e (setField_R (μ := ν3) (c := 9) (v := 0) (f := f) (j := 9) l93 k6.1 (by omega) (by decide) rfl)]
              rfl
            · rw [r] at ei ⊢
              rw [if_neg (show ¬ e = 0 by rw [ei]; decide), bd_e (setField_R (μ := ν3) (c := 9) (v := 1) (f := f) (j := 9) l93 k6.1 (by omega) (by decide) rfl)]
              rfl
        have pre : fX9_control n v a b c e μ = (if b = (-1) then fX9_control_L53 a b c e (p + 4 + 5 * f) μ else lt' (fX9_isByte b) fun x3 => if x3 = 0 then some (0, μ) else fX9_control_L53 a b c e (p + 4 + 5 * f) μ) := by
          rw [cl, ea, if_neg (nI_pos (by omega)), if_neg (show ¬ (7 : Int32) < nI d from nI_nlt (a := 7) hd2 (by decide)), ec, if_neg (nI_pos (by omega)), if_pos (show nI l ≤ 65535 from nI_le (b := 65535) hl2 (by decide))]
        rcases tr_case b with ⟨eb, kb⟩ | ⟨k, hk, eb, nb, kb, kb'⟩ | ⟨nb, kb, kb'⟩
        · exact good (-1) eb (Or.inl rfl) kb (by rw [pre, if_pos eb])
        · exact good (nI k) eb (Or.inr ⟨k, hk, rfl⟩) kb (by rw [pre, if_neg nb, lt'_e, kb', if_neg (show ¬ (1 : Int32) = 0 by decide)])
        · refine ⟨0, μ, μ, ?_, ?_, h0⟩
          · rw [pre, if_neg nb, lt'_e, kb', if_pos rfl]
          · rw [rf μ hR, show fX10_isWithin a 0 7 = 1 from ka, if_neg (show ¬ (1 : Int32) = 0 by decide), kb, if_pos rfl]
      · refine ⟨0, μ, μ, ?_, ?_, h0⟩
        · rw [cl, ea, if_neg (nI_pos (by omega)), if_neg (show ¬ (7 : Int32) < nI d from nI_nlt (a := 7) hd2 (by decide))]
          by_cases c1 : c < 0
          · rw [if_pos c1]
          · rw [if_neg c1, if_neg (show ¬ c ≤ 65535 from Int32.not_le.mpr ((within_neg kc).resolve_left c1))]
        · rw [rf μ hR, show fX10_isWithin a 0 7 = 1 from ka, if_neg (show ¬ (1 : Int32) = 0 by decide), show fX10_isWithin c 0 65535 = 0 from kc]
          split
          · rfl
          · rfl
    · refine ⟨0, μ, μ, ?_, ?_, h0⟩
      · rw [cl]
        by_cases c1 : a < 0
        · rw [if_pos c1]
        · rw [if_neg c1, if_pos (show (7 : Int32) < a from (within_neg ka).resolve_left c1)]
      · rw [rf μ hR, show fX10_isWithin a 0 7 = 0 from ka, if_pos rfl]
  · refine ⟨0, μ, μ, ?_, ?_, h0⟩
    · unfold fX9_control
      rw [l3, bd_e (frameAt_0 hP hv), oc_n]
    · unfold fX10_control
      rw [bd_e (isFrame_0 hR hv), if_pos rfl]
