/-! frame -/
def pF (P : Pic) (l t w h g i : Nat) : Pic := (u1 P.1 5 (hd P 5 + 1), P.2.1, s2 P.2.2.1 (hd P 5) (fun j => match j with | 0 => l | 1 => t | 2 => w | 3 => h | 4 => g | 5 => i | _ => 0), s2 P.2.2.2.1 (hd P 5) (-1), s2 P.2.2.2.2.1 (hd P 5) (fun _ => 0), s2 P.2.2.2.2.2 (hd P 5) (fun _ => 0))
theorem pF_c {P : Pic} {l t w h g i : Nat} : hd (pF P l t w h g i) 5 = hd P 5 + 1 := by
  show u1 P.1 5 (hd P 5 + 1) 5 = hd P 5 + 1
  exact u1_k
theorem pF_h {P : Pic} {l t w h g i k : Nat} (hk : k ≠ 5) : hd (pF P l t w h g i) k = hd P k := by
  show u1 P.1 5 _ k = _
  rw [u1_j hk]
theorem pF_o {P : Pic} {l t w h g i f : Nat} (hf : f ≠ hd P 5) : fx (pF P l t w h g i) f = fx P f ∧ tr (pF P l t w h g i) f = tr P f ∧ lt (pF P l t w h g i) f = lt P f ∧ ix (pF P l t w h g i) f = ix P f := ⟨s2_o hf, s2_o hf, s2_o hf, s2_o hf⟩
theorem pF_s {P : Pic} {l t w h g i : Nat} : (fx (pF P l t w h g i) (hd P 5) 0 = l ∧ fx (pF P l t w h g i) (hd P 5) 1 = t ∧ fx (pF P l t w h g i) (hd P 5) 2 = w ∧ fx (pF P l t w h g i) (hd P 5) 3 = h ∧ fx (pF P l t w h g i) (hd P 5) 4 = g ∧ fx (pF P l t w h g i) (hd P 5) 5 = i ∧ fx (pF P l t w h g i) (hd P 5) 6 = 0 ∧ fx (pF P l t w h g i) (hd P 5) 8 = 0 ∧ fx (pF P l t w h g i) (hd P 5) 9 = 0) ∧ tr (pF P l t w h g i) (hd P 5) = -1 ∧ (∀ k, lt (pF P l t w h g i) (hd P 5) k = 0) ∧ (∀ k, ix (pF P l t w h g i) (hd P 5) k = 0) := by
  have e : fx (pF P l t w h g i) (hd P 5) = fun j => match j with | 0 => l | 1 => t | 2 => w | 3 => h | 4 => g | 5 => i | _ => 0 := s2_s
  have e2 : lt (pF P l t w h g i) (hd P 5) = fun _ => 0 := s2_s
  have e3 : ix (pF P l t w h g i) (hd P 5) = fun _ => 0 := s2_s
  rw [e, e2, e3]
  exact ⟨⟨rfl, rfl, rfl, rfl, rfl, rfl, rfl, rfl, rfl⟩, s2_s, fun _ => rfl, fun _ => rfl⟩
theorem pF_V {P : Pic} {l t w h g i : Nat} (hV : VP P) (hc : hd P 5 < 24) (hw : 1 ≤ w) (hh : 1 ≤ h) (hl : l + w ≤ hd P 0) (ht : t + h ≤ hd P 1) (hg : tsz g) (hi : i ≤ 1) (hgt : ¬ (g = 0 ∧ hd P 2 = 0)) : VP (pF P l t w h g i) := by
  refine ⟨?_, ?_, ?_, ?_, ?_, fun f hf => ?_⟩
  · rw [pF_h (by decide), pF_h (by decide)]; exact hV.1
  · rw [pF_h (by decide)]; exact hV.2.1
  · rw [pF_h (by decide)]; exact hV.2.2.1
  · rw [pF_h (by decide)]; exact hV.2.2.2.1
  · rw [pF_c]; omega
  · unfold VF tbs
    rw [pF_h (by decide), pF_h (by decide), pF_h (by decide)]
    by_cases hfc : f = hd P 5
    · subst hfc
      obtain ⟨⟨s0, s1, s2, s3, s4, s5, s6, s8, s9⟩, st, sl, si⟩ := pF_s (P := P) (l := l) (t := t) (w := w) (h := h) (g := g) (i := i)
      rw [s0, s1, s2, s3, s4, s5, s6, s8, s9, st]
      have : (if g = 0 then hd P 2 else g) ≠ 0 := by split <;> omega
      refine ⟨⟨hw, hh, hl, ht⟩, hg, ⟨hi, by decide, by decide, by decide⟩, Or.inl rfl, this, fun k hk => ?_⟩
      rw [si k]
      omega
    · obtain ⟨o1, o2, o3, o4⟩ := pF_o (P := P) (l := l) (t := t) (w := w) (h := h) (g := g) (i := i) hfc
      rw [o1, o2, o4]
      rw [pF_c] at hf
      exact hV.2.2.2.2.2 f (by omega)
theorem pF_C {μ μ' : Mm} {p l t w h g i : Nat} {P : Pic} (hP : PC μ p P) (hc : hd P 5 < 24) (a1 : Ag μ μ' p (p + 124)) (k0 : ∀ k, k ≠ 4 → μ'.1 p k = μ.1 p k) (k4 : μ'.1 p 4 = nI (hd P 5 + 1)) (kl : ∀ b, b ≠ p → b < p + 4 + 5 * hd P 5 ∨ p + 9 + 5 * hd P 5 ≤ b → μ'.1 b = μ.1 b)
    (f0 : μ'.1 (p + 4 + 5 * hd P 5) 0 = nI l ∧ μ'.1 (p + 4 + 5 * hd P 5) 1 = nI t ∧ μ'.1 (p + 4 + 5 * hd P 5) 2 = nI w ∧ μ'.1 (p + 4 + 5 * hd P 5) 3 = nI h ∧ μ'.1 (p + 4 + 5 * hd P 5) 4 = nI i) (f1 : μ'.1 (p + 5 + 5 * hd P 5) 1 = nI g) (f2 : ∀ k, k < g → μ'.1 (p + 6 + 5 * hd P 5) k = 0)
    (f3 : μ'.1 (p + 7 + 5 * hd P 5) 0 = 0 ∧ μ'.1 (p + 7 + 5 * hd P 5) 1 = -1 ∧ μ'.1 (p + 7 + 5 * hd P 5) 2 = 0 ∧ μ'.1 (p + 7 + 5 * hd P 5) 3 = 0) (f4 : ∀ k, k < w * h → μ'.1 (p + 8 + 5 * hd P 5) k = 0) : PC μ' p (pF P l t w h g i) := by
  obtain ⟨⟨s0, s1, s2, s3, s4, s5, s6, s8, s9⟩, st, sl, sx⟩ := pF_s (P := P) (l := l) (t := t) (w := w) (h := h) (g := g) (i := i)
  refine ⟨hP.1.eq a1.1, ?_, fun f hf => ?_⟩
  · unfold PCh
    rw [pF_h (by decide), pF_h (by decide), pF_h (by decide), pF_h (by decide), pF_h (by decide), pF_c, k0 0 (by decide), k0 1 (by decide), k0 2 (by decide), k0 3 (by decide), k4, kl (p + 1) (by omega) (by omega), kl (p + 2) (by omega) (by omega)]
    exact ⟨hP.2.1.1, hP.2.1.2.1, hP.2.1.2.2.1, hP.2.1.2.2.2.1, hP.2.1.2.2.2.2.1, rfl, hP.2.1.2.2.2.2.2.2⟩
  · by_cases hfc : f = hd P 5
    · subst hfc
      unfold PCf
      rw [s0, s1, s2, s3, s4, s5, s6, s8, s9, st]
      exact ⟨f0, ⟨f1, fun k hk => by rw [sl k]; exact f2 k hk⟩, f3, fun k hk => by rw [sx k]; exact f4 k hk⟩
    · obtain ⟨o1, o2, o3, o4⟩ := pF_o (P := P) (l := l) (t := t) (w := w) (h := h) (g := g) (i := i) hfc
      rw [pF_c] at hf
      unfold PCf
      rw [o1, o2, o3, o4, kl _ (by omega) (by omega), kl _ (by omega) (by omega), kl _ (by omega) (by omega), kl _ (by omega) (by omega), kl _ (by omega) (by omega)]
      exact hP.2.2 f (by omega)
theorem wReset_C {μ : Mm} {a : Nat} : fX8_reset a μ = some (si (si (si (si μ a 0 0) a 1 (-1)) a 2 0) a 3 0) := by
  unfold fX8_reset
  rw [bd_e (become_C (Or.inl rfl))]
theorem addFrame_C {μ : Mm} {p l t w h g i : Nat} {P : Pic} (fu : Nat) (hfu : 4097 ≤ fu) (hP : PC μ p P) (hc : hd P 5 < 24) (hwh : w * h ≤ 4096) (hg : g ≤ 256) (hi : i ≤ 1) : ∃ μ', fX4_addFrame fu p (nI l) (nI t) (nI w) (nI h) (nI g) (nI i) μ = some (p + 4 + 5 * hd P 5, μ') ∧ Ag μ μ' p (p + 124) ∧ PC μ' p (pF P l t w h g i) := by
  have hL := hP.1.2.2.2 (hd P 5) hc
  obtain ⟨c, ec⟩ : ∃ c, c = hd P 5 := ⟨_, rfl⟩
  rw [← ec] at hL hc ⊢
  obtain ⟨μ1, x1⟩ : ∃ μ1, μ1 = si (si (si (si μ (p + 4 + 5 * c) 0 (nI l)) (p + 4 + 5 * c) 1 (nI t)) (p + 4 + 5 * c) 2 (nI w)) (p + 4 + 5 * c) 3 (nI h) := ⟨_, rfl⟩
  obtain ⟨μ2, x2⟩ : ∃ μ2, μ2 = si (si (si (si μ1 (p + 7 + 5 * c) 0 0) (p + 7 + 5 * c) 1 (-1)) (p + 7 + 5 * c) 2 0) (p + 7 + 5 * c) 3 0 := ⟨_, rfl⟩
  have a1 : Ag μ μ1 (p + 4 + 5 * c) (p + 5 + 5 * c) := by
    rw [x1]
    exact ((((Ag.wi (by omega) (by omega)).nsi (by omega) (by omega)).nsi (by omega) (by omega)).nsi (by omega) (by omega))
  have a2 : Ag μ1 μ2 (p + 7 + 5 * c) (p + 8 + 5 * c) := by
    rw [x2]
    exact ((((Ag.wi (by omega) (by omega)).nsi (by omega) (by omega)).nsi (by omega) (by omega)).nsi (by omega) (by omega))
  have l2 : μ2.2 = μ.2 := by rw [a2.1, a1.1]
  obtain ⟨μ3, e3, a3, g3⟩ := fill_loop (F := p + 4 + 5 * c) (q := p + 8 + 5 * c) (b := w * h) fu hwh 0 fu 0 μ2 (by omega) (by omega) (by rw [l2]; exact hL.2.2.2.1)
  have l3 : μ3.2 = μ.2 := by rw [a3.1, l2]
  have z : p + 5 + 5 * c + 1 = p + 6 + 5 * c := by omega
  obtain ⟨μ4, e4, a4, g4, g5⟩ := tReset (μ := μ3) (T := p + 5 + 5 * c) (c := g) (by rw [l3, z]; exact hL.2.2.2.2) hg fu (by omega)
  rw [z] at g5
  obtain ⟨μ5, x5⟩ : ∃ μ5, μ5 = si μ4 (p + 4 + 5 * c) 4 (nI i) := ⟨_, rfl⟩
  have a5 : Ag μ4 μ5 (p + 4 + 5 * c) (p + 5 + 5 * c) := by rw [x5]; exact Ag.wi (by omega) (by omega)
  have kl5 : ∀ b, b < p + 4 + 5 * c ∨ p + 9 + 5 * c ≤ b → μ5.1 b = μ.1 b := fun b hb => by
    rw [a5.2 b (by omega), a4.2 b (by omega), a3.2 b (by omega), a2.2 b (by omega), a1.2 b (by omega)]
  have h4 : μ5.1 p 4 = nI c := by rw [kl5 p (by omega), ec]; exact hP.2.1.2.2.2.2.2.1
  have l5 : μ5.2 = μ.2 := by rw [a5.1, a4.1, l3]
  have aA : Ag μ (si μ5 p 4 (nI (c + 1))) p (p + 124) := by
    refine Ag.nsi ⟨l5, fun b hb => kl5 b (by omega)⟩ (by omega) (by omega)
  refine ⟨si μ5 p 4 (nI (c + 1)), ?_, aA, ?_⟩
  · unfold fX4_addFrame
    have h4' : μ.1 p 4 = nI c := by rw [ec]; exact hP.2.1.2.2.2.2.2.1
    have cF : fX3_reset fu (p + 4 + 5 * c) (nI l) (nI t) (nI w) (nI h) μ = some μ3 := by
      unfold fX3_reset
      simp only [lt'_e]
      rw [← x1, a1.1, hL.2.2.1, bd_e wReset_C, ← x2]
      have sz : fX3_size (p + 4 + 5 * c) μ2 = nI (w * h) := by
        unfold fX3_size
        rw [a2.2 _ (by omega), x1, si_j (by decide), si_k, si_k, pk_mul]
      rw [sz]
      unfold fX3_fill
      exact bd_e e3
    rw [h4', r_ib hc (by omega), hP.1.2.1, nI_clamp (by omega), hL.1, lt'_e, bd_e cF, l3, hL.2.1, bd_e e4, r_b01 hi, lt'_e, ← x5, lt'_e, h4, nI_1]
  · have q4 : ∀ k, k ≠ 4 → μ5.1 (p + 4 + 5 * c) k = μ1.1 (p + 4 + 5 * c) k := fun k hk => by
      rw [x5, si_j hk, a4.2 _ (by omega), a3.2 _ (by omega), a2.2 _ (by omega)]
    have v : ∀ b, b ≠ p → (si μ5 p 4 (nI (c + 1))).1 b = μ5.1 b := fun b hb => si_b hb
    have w7 : μ5.1 (p + 7 + 5 * c) = μ2.1 (p + 7 + 5 * c) := by rw [a5.2 _ (by omega), a4.2 _ (by omega), a3.2 _ (by omega)]
    refine pF_C hP (by omega) aA (fun k hk => ?_) ?_ (fun b hb hb2 => ?_) ?_ ?_ (fun k hk => ?_) ?_ (fun k hk => ?_)
    · rw [si_j hk, kl5 p (by omega)]
    · rw [si_k, ec]
    · rw [v b hb]; exact kl5 b (by omega)
    · rw [← ec, v _ (by omega), q4 0 (by decide), q4 1 (by decide), q4 2 (by decide), q4 3 (by decide), x5, si_k, x1]
      refine ⟨?_, ?_, ?_, si_k, rfl⟩
      · rw [si_j (by decide), si_j (by decide), si_j (by decide), si_k]
      · rw [si_j (by decide), si_j (by decide), si_k]
      · rw [si_j (by decide), si_k]
    · rw [← ec, v _ (by omega), a5.2 _ (by omega)]; exact g4
    · rw [← ec, v _ (by omega), a5.2 _ (by omega)]; exact g5 k hk
    · rw [← ec, v _ (by omega), w7, x2]
      refine ⟨?_, ?_, ?_, si_k⟩
      · rw [si_j (by decide), si_j (by decide), si_j (by decide), si_k]
      · rw [si_j (by decide), si_j (by decide), si_k]
      · rw [si_j (by decide), si_k]
    · rw [← ec, v _ (by omega), a5.2 _ (by omega), a4.2 _ (by omega), g3 k, if_pos (by omega)]

theorem fill0_loc {y s f g : Nat} (fu : Nat) (hs : s < 2) (hf : f < 24) (hg : g ≤ 256) (w h : Int32) {R : Mm → Option (Int32 × Mm)} (hR : ∀ μ, fX10_frame_L293 fu fu y w h (nI f) 0 μ = R μ) : ∀ (n i : Nat) (μ : Mm), i ≤ g → g - i < n → μ.2 y 10 = y + 6 → μ.1 y 6 = nI s → ∃ μ', fX10_frame_L260 fu n y w h (nI g) (nI f) (nI i) μ = R μ' ∧ Ag μ μ' (y + 6) (y + 7) ∧ ∀ k, μ'.1 (y + 6) k = if 6144 * s + 256 * f + i ≤ k ∧ k < 6144 * s + 256 * f + g then 0 else μ.1 (y + 6) k := by
  intro n
  induction n with
  | zero => intro i μ h1 h2; omega
  | succ n ih =>
    intro i μ h1 h2 l h6
    show ∃ μ', fX10_frame_B260 (fX10_frame_L260 fu n) fu y w h (nI g) (nI f) (nI i) μ = R μ' ∧ _
    unfold fX10_frame_B260
    by_cases hic : i = g
    · refine ⟨μ, ?_, Ag.rf, fun j => ?_⟩
      · rw [if_pos (nI_le (by omega) (by omega)), hR]
      · rw [if_neg (by omega)]
    · obtain ⟨μ', e, aa, gg⟩ := ih (i + 1) (si μ (y + 6) (6144 * s + 256 * f + i) 0) (by omega) (by omega) l (by rw [si_b (by omega)]; exact h6)
      refine ⟨μ', ?_, (Ag.wi (by omega) (by omega)).tr aa, fun k => ?_⟩
      · rw [if_neg (nI_ge (by omega) (by omega)), h6, loc_ix, lt'_e, r_ib (by omega) (by decide), nI_clamp (by omega), l, lt'_e, lt'_e, nI_1]
        exact e
      · rw [gg k, si_r]
        by_cases hk : k = 6144 * s + 256 * f + i
        · subst hk
          rw [if_neg (by omega), if_pos (by omega), u1_k]
        · rw [u1_j hk]
          by_cases hk2 : 6144 * s + 256 * f + i ≤ k ∧ k < 6144 * s + 256 * f + g
          · rw [if_pos (by omega), if_pos hk2]
          · rw [if_neg (by omega), if_neg hk2]
theorem fill0_ix {y s f w h : Nat} (fu : Nat) (hs : s < 2) (hf : f < 24) (hwh : w * h ≤ 4096) : ∀ (n i : Nat) (μ : Mm), i ≤ w * h → w * h - i < n → μ.2 y 11 = y + 7 → μ.2 y 7 = y + 3 → μ.1 y 6 = nI s → μ.1 (y + 3) (6 * s + 5) = nI f → ∃ μ', fX10_frame_L293 fu n y (nI w) (nI h) (nI f) (nI i) μ = some (nI f, si μ' (y + 3) (6 * s + 5) (nI (f + 1))) ∧ Ag μ μ' (y + 7) (y + 8) ∧ ∀ k, μ'.1 (y + 7) k = if 98304 * s + 4096 * f + i ≤ k ∧ k < 98304 * s + 4096 * f + w * h then 0 else μ.1 (y + 7) k := by
  intro n
  induction n with
  | zero => intro i μ h1 h2; omega
  | succ n ih =>
    intro i μ h1 h2 l l7 h6 h5
    show ∃ μ', fX10_frame_B293 (fX10_frame_L293 fu n) fu y (nI w) (nI h) (nI f) (nI i) μ = _ ∧ _
    unfold fX10_frame_B293
    rw [pk_mul]
    by_cases hic : i = w * h
    · refine ⟨μ, ?_, Ag.rf, fun j => ?_⟩
      · rw [if_pos (nI_le (by omega) (by omega)), h6, six_ix (v := 5) 5 rfl, l7, lt'_e, lt'_e, r_ib (by omega) (by decide), r_ib (by omega) (by decide), nI_clamp (by omega), lt'_e, h5, nI_1]
      · rw [if_neg (by omega)]
    · obtain ⟨μ', e, aa, gg⟩ := ih (i + 1) (si μ (y + 7) (98304 * s + 4096 * f + i) 0) (by omega) (by omega) l l7 (by rw [si_b (by omega)]; exact h6) (by rw [si_b (by omega)]; exact h5)
      refine ⟨μ', ?_, (Ag.wi (by omega) (by omega)).tr aa, fun k => ?_⟩
      · rw [if_neg (nI_ge (by omega) (by omega)), h6, bd_e (show fX10_setIndex y (nI s) (nI f) (nI i) 0 μ = some (si μ (y + 7) (98304 * s + 4096 * f + i) 0) from setIndex_R (q := 0) l hs hf (by omega) (by decide)), lt'_e, nI_1]
        exact e
      · rw [gg k, si_r]
        by_cases hk : k = 98304 * s + 4096 * f + i
        · subst hk
          rw [if_neg (by omega), if_pos (by omega), u1_k]
        · rw [u1_j hk]
          by_cases hk2 : 98304 * s + 4096 * f + i ≤ k ∧ k < 98304 * s + 4096 * f + w * h
          · rw [if_pos (by omega), if_pos hk2]
          · rw [if_neg (by omega), if_neg hk2]
/-- the reference's fields of one FRAME, one after the other -/
def sf (μ : Mm) (a k : Nat) (vs : List Int32) : Mm := match vs with
  | [] => μ
  | v :: vs => sf (si μ a k v) a (k + 1) vs
theorem sf_ag {a lo hi : Nat} (h1 : lo ≤ a) (h2 : a < hi) : ∀ (vs : List Int32) (μ : Mm) (k : Nat), Ag μ (sf μ a k vs) lo hi := by
  intro vs
  induction vs with
  | nil => intro μ k; exact Ag.rf
  | cons v vs ih => intro μ k; exact (Ag.wi h1 h2).tr (ih _ _)
theorem sf_lo {a : Nat} : ∀ (vs : List Int32) (μ : Mm) (k j : Nat), j < k ∨ k + vs.length ≤ j → (sf μ a k vs).1 a j = μ.1 a j := by
  intro vs
  induction vs with
  | nil => intro μ k j _; rfl
  | cons v vs ih =>
    intro μ k j hj
    show (sf (si μ a k v) a (k + 1) vs).1 a j = _
    rw [List.length_cons] at hj
    rw [ih _ _ _ (by omega), si_j (by omega)]
theorem sf_at {a : Nat} : ∀ (vs : List Int32) (μ : Mm) (k j : Nat) (x : Int32), vs[j]? = some x → (sf μ a k vs).1 a (k + j) = x := by
  intro vs
  induction vs with
  | nil => intro μ k j x h; cases h
  | cons v vs ih =>
    intro μ k j x h
    show (sf (si μ a k v) a (k + 1) vs).1 a (k + j) = _
    cases j with
    | zero =>
      have : v = x := by simpa using h
      rw [sf_lo _ _ _ _ (by omega), ← this]
      exact si_k
    | succ j =>
      rw [show k + (j + 1) = k + 1 + j by omega]
      exact ih _ _ _ _ (by simpa using h)
theorem pF_R {μ μ' : Mm} {y s l t w h g i : Nat} {P : Pic} (hR : PR μ y s P) (hc : hd P 5 < 24) (hwh : w * h ≤ 4096) (hg : g ≤ 256) (hVz : ∀ f, f < hd P 5 → fx P f 4 ≤ 256 ∧ fx P f 2 * fx P f 3 ≤ 4096)
    (k3 : ∀ k, k ≠ 6 * s + 5 → μ'.1 (y + 3) k = μ.1 (y + 3) k) (k3' : μ'.1 (y + 3) (6 * s + 5) = nI (hd P 5 + 1)) (k4 : μ'.1 (y + 4) = μ.1 (y + 4))
    (k5 : ∀ k, k < 240 * s + 10 * hd P 5 ∨ 240 * s + 10 * hd P 5 + 10 ≤ k → μ'.1 (y + 5) k = μ.1 (y + 5) k)
    (f5 : μ'.1 (y + 5) (240 * s + 10 * hd P 5) = nI l ∧ μ'.1 (y + 5) (240 * s + 10 * hd P 5 + 1) = nI t ∧ μ'.1 (y + 5) (240 * s + 10 * hd P 5 + 2) = nI w ∧ μ'.1 (y + 5) (240 * s + 10 * hd P 5 + 3) = nI h ∧ μ'.1 (y + 5) (240 * s + 10 * hd P 5 + 4) = nI g ∧ μ'.1 (y + 5) (240 * s + 10 * hd P 5 + 5) = nI i ∧ μ'.1 (y + 5) (240 * s + 10 * hd P 5 + 6) = 0 ∧ μ'.1 (y + 5) (240 * s + 10 * hd P 5 + 7) = -1 ∧ μ'.1 (y + 5) (240 * s + 10 * hd P 5 + 8) = 0 ∧ μ'.1 (y + 5) (240 * s + 10 * hd P 5 + 9) = 0)
    (k6 : ∀ k, μ'.1 (y + 6) k = if 6144 * s + 256 * hd P 5 ≤ k ∧ k < 6144 * s + 256 * hd P 5 + g then 0 else μ.1 (y + 6) k)
    (k7 : ∀ k, μ'.1 (y + 7) k = if 98304 * s + 4096 * hd P 5 ≤ k ∧ k < 98304 * s + 4096 * hd P 5 + w * h then 0 else μ.1 (y + 7) k) : PR μ' y s (pF P l t w h g i) := by
  obtain ⟨⟨s0, s1, s2, s3, s4, s5, s6, s8, s9⟩, st, sl, sx⟩ := pF_s (P := P) (l := l) (t := t) (w := w) (h := h) (g := g) (i := i)
  refine ⟨⟨fun k hk => ?_, fun k hk => ?_⟩, fun f hf => ?_⟩
  · by_cases h5 : k = 5
    · subst h5
      rw [pF_c, k3']
    · rw [pF_h h5, k3 _ (by omega)]; exact hR.1.1 k hk
  · rw [pF_h (by decide)] at hk
    rw [k4]; exact hR.1.2 k hk
  · by_cases hfc : f = hd P 5
    · subst hfc
      refine ⟨fun j hj h7 => ?_, ?_, fun k hk => ?_, fun k hk => ?_⟩
      · rcases (show j = 0 ∨ j = 1 ∨ j = 2 ∨ j = 3 ∨ j = 4 ∨ j = 5 ∨ j = 6 ∨ j = 8 ∨ j = 9 by omega) with rfl | rfl | rfl | rfl | rfl | rfl | rfl | rfl | rfl
        · rw [s0]; exact f5.1
        · rw [s1]; exact f5.2.1
        · rw [s2]; exact f5.2.2.1
        · rw [s3]; exact f5.2.2.2.1
        · rw [s4]; exact f5.2.2.2.2.1
        · rw [s5]; exact f5.2.2.2.2.2.1
        · rw [s6]; exact f5.2.2.2.2.2.2.1
        · rw [s8]; exact f5.2.2.2.2.2.2.2.2.1
        · rw [s9]; exact f5.2.2.2.2.2.2.2.2.2
      · rw [st]; exact f5.2.2.2.2.2.2.2.1
      · rw [s4] at hk
        rw [k6, if_pos (by omega), sl k]
      · rw [s2, s3] at hk
        rw [k7, if_pos (by omega), sx k]
        rfl
    · obtain ⟨o1, o2, o3, o4⟩ := pF_o (P := P) (l := l) (t := t) (w := w) (h := h) (g := g) (i := i) hfc
      rw [pF_c] at hf
      obtain ⟨h1, h2, h3, h4⟩ := hR.2 f (by omega)
      have hz := hVz f (by omega)
      unfold PRf
      rw [o1, o2, o3, o4]
      refine ⟨fun j hj h7 => ?_, ?_, fun k hk => ?_, fun k hk => ?_⟩
      · rw [k5 _ (by omega)]; exact h1 j hj h7
      · rw [k5 _ (by omega)]; exact h2
      · rw [k6, if_neg (by omega)]; exact h3 k hk
      · rw [k7, if_neg (by omega)]; exact h4 k hk
