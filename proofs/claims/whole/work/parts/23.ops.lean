/-! feed, take, out, fault, about -/
def STe (n : Nat) (μ : Mm) : Prop := ∃ p d m w s tn on t o fk fp P, SC n μ p d m w tn on t o fk fp P ∧ SR (n + 273) μ s tn on t o fk fp P ∧ VP P
theorem Ag.br5 {μ μ' : Mm} {r k lo hi : Nat} {t : Nat → Nat} {o : Int32} (h : ∃ tw kw ow, BR μ r tw kw ow) (ha : Ag μ μ' lo hi) (hr : r + 2 ≤ lo ∨ hi ≤ r) : ∃ tw kw ow, BR μ' r tw kw ow := by
  obtain ⟨a, b, c, h⟩ := h
  exact ⟨a, b, c, h.ag ha hr⟩
/-- the class's state behind a change of its tape alone -/
theorem SC.tape {μ μ' : Mm} {n p d m w tn on tn' : Nat} {t o t' : Nat → Nat} {fk fp : Int32} {P : Pic} (h : SC n μ p d m w tn on t o fk fp P) (hv : hd P 5 ≤ 24) (ha : Ag μ μ' (n + 2) (n + 4)) (hb : BR μ' (n + 2) t' tn' 0) : SC n μ' p d m w tn' on t' o fk fp P := by
  obtain ⟨h1, h2, h3, ⟨a4, b4, c4, h4⟩, ⟨a5, b5, c5, h5⟩, ⟨a6, b6, c6, h6⟩, h7, h8, h9⟩ := h
  have hpd := h1.2.2.2.2.2
  have hf := ha.fr (Nat.le_refl _) (Nat.le_refl _)
  refine ⟨h1.fr (by rw [ha.1]) (by rw [ha.1]) (by rw [ha.1]) (by rw [ha.1]) (by rw [ha.1]), hb, h3.fr hf (by omega), ⟨a4, b4, c4, h4.fr hf (by omega)⟩, ⟨a5, b5, c5, h5.fr hf (by omega)⟩, ⟨a6, b6, c6, h6.fr hf (by omega)⟩, h7.fr hf (by omega), h8.fr hf (by omega) hv, ?_⟩
  rw [ha.2 n (by omega), ha.2 (n + 1) (by omega)]
  exact h9
theorem SR.tape {μ μ' : Mm} {y s tn on tn' : Nat} {t o t' : Nat → Nat} {fk fp : Int32} {P : Pic} (h : SR y μ s tn on t o fk fp P) (ha : Ag μ μ' y (y + 2)) (h0 : ∀ k, k ≠ 2 → μ'.1 y k = μ.1 y k) (h2 : μ'.1 y 2 = nI tn') (hb : RB μ' (y + 1) t' tn') : SR y μ' s tn' on t' o fk fp P := by
  obtain ⟨h1, h2', h3, h4, h5, h6, h7⟩ := h
  refine ⟨?_, ⟨h2'.1, by rw [h0 6 (by decide)]; exact h2'.2⟩, ⟨h2, hb⟩, ⟨by rw [h0 3 (by decide)]; exact h4.1, h4.2.ag ha (by omega)⟩, by rw [h0 4 (by decide)]; exact h5, by rw [h0 5 (by decide)]; exact h6, h7.fr (ha.fr (Nat.le_refl _) (Nat.le_refl _)) (by omega)⟩
  unfold LR
  rw [ha.1]
  exact h1
def app20 (t : Nat → Nat) (k : Nat) (a b c d e : Int32) : Nat → Nat := app4 (app4 (app4 (app4 (app4 t k a) (k + 4) b) (k + 8) c) (k + 12) d) (k + 16) e
theorem BR.feed {μ : Mm} {r k : Nat} {t : Nat → Nat} {o : Int32} (h : BR μ r t k o) (hk : k + 20 ≤ 12000) (a b c d e : Int32) : ∃ μ1 μ2 μ3 μ4 μ5, fX0_addFour r a μ = some μ1 ∧ fX0_addFour r b μ1 = some μ2 ∧ fX0_addFour r c μ2 = some μ3 ∧ fX0_addFour r d μ3 = some μ4 ∧ fX0_addFour r e μ4 = some μ5 ∧ BR μ5 r (app20 t k a b c d e) (k + 20) o ∧ Ag μ μ5 r (r + 2) ∧ μ1.2 = μ.2 ∧ μ2.2 = μ.2 ∧ μ3.2 = μ.2 ∧ μ4.2 = μ.2 := by
  obtain ⟨μ1, e1, b1, a1⟩ := h.addFour (v := a) (by omega)
  obtain ⟨μ2, e2, b2, a2⟩ := b1.addFour (v := b) (by omega)
  obtain ⟨μ3, e3, b3, a3⟩ := b2.addFour (v := c) (by omega)
  obtain ⟨μ4, e4, b4, a4⟩ := b3.addFour (v := d) (by omega)
  obtain ⟨μ5, e5, b5, a5⟩ := b4.addFour (v := e) (by omega)
  exact ⟨μ1, μ2, μ3, μ4, μ5, e1, e2, e3, e4, e5, b5, (((a1.tr a2).tr a3).tr a4).tr a5, a1.1, (a1.tr a2).1, ((a1.tr a2).tr a3).1, (((a1.tr a2).tr a3).tr a4).1⟩
theorem feed_ok {n : Nat} {μ : Mm} (fu : Nat) (hfu : 5 ≤ fu) (h : STe n μ) (a b c d e : Int32) : ∃ r μ1 μ2, fX9_feed n a b c d e μ = some (r, μ1) ∧ fX10_feed fu (n + 273) a b c d e μ1 = some (r, μ2) ∧ STe n μ2 := by
  obtain ⟨p, dd, m, w, s, tn, on, t, o, fk, fp, P, hC, hR, hV⟩ := h
  have htn := hC.2.1.2.2.1
  have l0 : μ.2 n 0 = n + 2 := hC.1.1.1
  have r0 : μ.2 (n + 273) 0 = n + 274 := hR.1.1
  have k1 : μ.1 (n + 2) 1 = nI tn := hC.2.1.2.1
  have k2 : μ.1 (n + 273) 2 = nI tn := hR.2.2.1.1
  by_cases hk : tn + 20 ≤ 12000
  · obtain ⟨μ1, μ2, μ3, μ4, μ5, e1, e2, e3, e4, e5, b5, a5, x1, x2, x3, x4⟩ := hC.2.1.feed hk a b c d e
    have hC5 := hC.tape hV.2.2.2.2.1 a5 b5
    have hR5 := hR.fr (a5.fr (Nat.le_refl _) (Nat.le_refl _)) (by omega)
    obtain ⟨ν1, f1, g1, z1⟩ := within_ok (v := a) fu hfu hR5.2.2.1.2 (by omega)
    obtain ⟨ν2, f2, g2, z2⟩ := within_ok (v := b) fu hfu g1 (by omega)
    obtain ⟨ν3, f3, g3, z3⟩ := within_ok (v := c) fu hfu g2 (by omega)
    obtain ⟨ν4, f4, g4, z4⟩ := within_ok (v := d) fu hfu g3 (by omega)
    obtain ⟨ν5, f5, g5, z5⟩ := within_ok (v := e) fu hfu g4 (by omega)
    have z := (((z1.tr z2).tr z3).tr z4).tr z5
    have k5 : μ5.1 (n + 273) 2 = nI tn := hR5.2.2.1.1
    have r5 : μ5.2 (n + 273) 0 = n + 273 + 1 := hR5.1.1
    have key : Ag μ5 (si ν5 (n + 273) 2 (nI (tn + 20))) (n + 273) (n + 275) := (z.up (by omega) (by omega)).nsi (by omega) (by omega)
    refine ⟨nI (tn + 20), μ5, si ν5 (n + 273) 2 (nI (tn + 20)), ?_, ?_, p, dd, m, w, s, tn + 20, on, app20 t tn a b c d e, o, fk, fp, P, ?_, ?_, hV⟩
    · unfold fX9_feed
      rw [if_pos (show μ.1 (μ.2 n 0) 1 ≤ 11980 by rw [l0, k1]; exact nI_le (b := 11980) (by omega) (by decide)), l0, bd_e e1, x1, l0, bd_e e2, x2, l0, bd_e e3, x3, l0, bd_e e4, x4, l0, bd_e e5, a5.1, l0, b5.2.1]
    · unfold fX10_feed
      rw [if_pos (show μ5.1 (n + 273) 2 + 20 ≤ 12000 by rw [k5]; show nI tn + nI 20 ≤ nI 12000; rw [nI_add]; exact nI_le hk (by decide)), r5, k5, bd_e f1]
      simp only [lt'_e]
      rw [z1.1, r5, bd_e f2]
      simp only []
      rw [(z1.tr z2).1, r5, bd_e f3]
      simp only []
      rw [((z1.tr z2).tr z3).1, r5, bd_e f4]
      simp only []
      rw [(((z1.tr z2).tr z3).tr z4).1, r5, bd_e f5]
      simp only [si_k]
    · exact hC5.hi hV.2.2.2.2.1 (key.fr (Nat.le_refl _) (Nat.le_refl _)) (Nat.le_refl _)
    · refine hR5.tape key (fun k hk => ?_) si_k ?_
      · rw [si_j hk, z.2 _ (by omega)]
      · exact g5.ag (Ag.wi (lo := n + 273) (hi := n + 274) (by omega) (by omega)) (by omega)
  · refine ⟨-1, μ, μ, ?_, ?_, p, dd, m, w, s, tn, on, t, o, fk, fp, P, hC, hR, hV⟩
    · unfold fX9_feed
      rw [if_neg]
      rw [l0, k1]
      exact nI_ge (b := tn) (a := 11980) (by omega) (by omega)
    · unfold fX10_feed
      rw [if_neg]
      rw [k2]
      show ¬ nI tn + nI 20 ≤ nI 12000
      rw [nI_add]
      exact nI_ge (by omega) (by omega)
/-! out -/
theorem out_ok {n : Nat} {μ : Mm} (h : STe n μ) (i : Int32) : ∃ r, fX9_out n i μ = some r ∧ fX10_out (n + 273) i μ = some r := by
  obtain ⟨p, dd, m, w, s, tn, on, t, o, fk, fp, P, hC, hR, hV⟩ := h
  have l4 : μ.2 n 4 = m := hC.1.1.2.2.2.2
  have hon := hC.2.2.1.2.2.1
  refine ⟨_, by unfold fX9_out; rw [l4, bd_e (hC.2.2.1.at i)], ?_⟩
  unfold fX10_out
  rw [hR.2.2.2.1.1]
  by_cases c1 : i < 0
  · rw [if_pos c1, if_pos c1]
  · rw [if_neg c1, if_neg c1]
    by_cases c2 : nI on ≤ i
    · rw [if_pos c2, if_pos c2]
    · rw [if_neg c2, if_neg c2]
      obtain ⟨j, hj, rfl⟩ := nI_of c1
      have hjk : j < on := by
        rcases Nat.lt_or_ge j on with q | q
        · exact q
        · exact absurd (nI_le q hj) c2
      rw [gd_e (ib_nI (by omega) (by decide)), nI_clamp (by omega)]
      have r1 : μ.2 (n + 273) 1 = n + 273 + 2 := hR.1.2.1
      rw [r1, (hR.2.2.2.1.2 j hjk).1]
/-! fault -/
theorem fault_ok {n : Nat} {μ : Mm} (h : STe n μ) (i : Int32) : fX9_fault n i μ = fX10_fault (n + 273) i μ := by
  obtain ⟨p, dd, m, w, s, tn, on, t, o, fk, fp, P, hC, hR, hV⟩ := h
  have l1 : μ.2 n 1 = n + 1 := hC.1.1.2.1
  have r4 := hR.2.2.2.2.1
  have r5 := hR.2.2.2.2.2.1
  unfold fX9_fault fX10_fault
  rw [l1, r4, r5]
  rcases hC.2.2.2.2.2.2.2.2 with ⟨q1, q2, q3⟩ | ⟨q1, q2, q3⟩
  · rw [if_pos q1, q2, q3]
    split
    · rfl
    · split <;> rfl
  · rw [if_neg (by rw [q1]; decide), q2, q3]
/-! about -/
theorem about_ok {n : Nat} {μ : Mm} (h : STe n μ) (i : Int32) : fX10_about (n + 273) i μ = some (fX9_about n i μ) := by
  obtain ⟨p, dd, m, w, s, tn, on, t, o, fk, fp, P, hC, hR, hV⟩ := h
  have l0 : μ.2 n 0 = n + 2 := hC.1.1.1
  have l3 : μ.2 n 3 = p := hC.1.1.2.2.2.1
  have l4 : μ.2 n 4 = m := hC.1.1.2.2.2.2
  have hP := hC.2.2.2.2.2.2.2.1
  have l5 : μ.2 p 5 = p + 1 := hP.1.1
  obtain ⟨g0, g1, g2, g3, g4, g5, -⟩ := hP.2.1
  have hH := hR.2.2.2.2.2.2.1.1
  have r7 : μ.2 (n + 273) 7 = n + 273 + 3 := hR.1.2.2.1
  have hs := hR.2.1
  unfold fX9_about fX10_about
  rw [l0, l3, l4, l5, g0, g1, g2, g3, g4, g5, hC.2.1.2.1, hC.2.2.1.2.1, hR.2.2.1.1, hR.2.2.2.1.1, hs.2, r7]
  have key : ∀ k, k < 6 → (if (nI k) = 6 then some (nI tn) else if (nI k) = 7 then some (nI on) else if (nI k) < 0 then some (-1) else if (6 : Int32) ≤ nI k then some (-1) else gd (ib ((6 * nI s) + nI k) 12) (some (μ.1 (n + 273 + 3) ((6 * nI s) + nI k).toNatClampNeg))) = some (nI (hd P k)) := by
    intro k hk
    have e1 : ¬ nI k = 6 := fun e => by have := (nI_eq (a := k) (b := 6) (by omega) (by decide)).mp e; omega
    have e2 : ¬ nI k = 7 := fun e => by have := (nI_eq (a := k) (b := 7) (by omega) (by decide)).mp e; omega
    rw [if_neg e1, if_neg e2, if_neg (nI_pos (by omega)), if_neg (show ¬ (6 : Int32) ≤ nI k from nI_ge (b := 6) hk (by decide))]
    show gd (ib (nI 6 * nI s + nI k) 12) _ = _
    rw [pk_mul, nI_add, gd_e (ib_nI (by omega) (by decide))]
    show some (μ.1 (n + 273 + 3) (nI 6 * nI s + nI k).toNatClampNeg) = _
    rw [pk_mul, nI_add, nI_clamp (by omega), hH k hk]
  by_cases c0 : i = 0
  · subst c0; exact key 0 (by decide)
  rw [if_neg c0]
  by_cases c1 : i = 1
  · subst c1; exact key 1 (by decide)
  rw [if_neg c1]
  by_cases c2 : i = 2
  · subst c2; exact key 2 (by decide)
  rw [if_neg c2]
  by_cases c3 : i = 3
  · subst c3; exact key 3 (by decide)
  rw [if_neg c3]
  by_cases c4 : i = 4
  · subst c4; exact key 4 (by decide)
  rw [if_neg c4]
  by_cases c5 : i = 5
  · subst c5; exact key 5 (by decide)
  rw [if_neg c5]
  by_cases c6 : i = 6
  · rw [if_pos c6, if_pos c6]
  rw [if_neg c6, if_neg c6]
  by_cases c7 : i = 7
  · rw [if_pos c7, if_pos c7]
  rw [if_neg c7, if_neg c7]
  by_cases c8 : i < 0
  · rw [if_pos c8]
  rw [if_neg c8]
  obtain ⟨j, hj, rfl⟩ := nI_of c8
  have hj6 : 6 ≤ j := by
    rcases Nat.lt_or_ge j 6 with q | q
    · exfalso
      rcases (show j = 0 ∨ j = 1 ∨ j = 2 ∨ j = 3 ∨ j = 4 ∨ j = 5 by omega) with rfl | rfl | rfl | rfl | rfl | rfl
      · exact c0 rfl
      · exact c1 rfl
      · exact c2 rfl
      · exact c3 rfl
      · exact c4 rfl
      · exact c5 rfl
    · exact q
  rw [if_pos (show (6 : Int32) ≤ nI j from nI_le (a := 6) hj6 hj)]
