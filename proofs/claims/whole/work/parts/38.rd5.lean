/-! extensions -/
abbrev Pd : Type := Nat × Nat × Int32 × Nat × Nat
def pd0 : Pd := (0, 0, -1, 0, 0)
def PdO (p : Pd) : Prop := p.1 ≤ 1 ∧ p.2.1 < 8 ∧ (p.2.2.1 = -1 ∨ ∃ k, k < 256 ∧ p.2.2.1 = nI k) ∧ p.2.2.2.1 < 65536 ∧ p.2.2.2.2 ≤ 1
theorem pd0_o : PdO pd0 := ⟨by decide, by decide, Or.inl rfl, by decide, by decide⟩
def PDC (n : Nat) (μ : Mm) (p : Pd) : Prop := μ.1 (n + 1) 7 = nI p.1 ∧ μ.1 (n + 12) 0 = nI p.2.1 ∧ μ.1 (n + 12) 1 = p.2.2.1 ∧ μ.1 (n + 12) 2 = nI p.2.2.2.1 ∧ μ.1 (n + 12) 3 = nI p.2.2.2.2
def PDR (y : Nat) (μ : Mm) (p : Pd) : Prop := μ.1 y 16 = nI p.1 ∧ μ.1 y 17 = nI p.2.1 ∧ μ.1 y 18 = p.2.2.1 ∧ μ.1 y 19 = nI p.2.2.2.1 ∧ μ.1 y 20 = nI p.2.2.2.2
/-- what reading a control block changes: its place, its pending values -/
def ctB (t : Nat → Nat) (L : Nat) (z : Zt3) : Nat := (zB t L (zE t L 4 z)).1
def ctZ2 (t : Nat → Nat) (L : Nat) (z : Zt3) : Zt3 := (zB t L (zE t L 4 z)).2
def ctD (t : Nat → Nat) (L : Nat) (z : Zt3) : Nat := (zTw t L (ctZ2 t L z)).1
def ctZ3 (t : Nat → Nat) (L : Nat) (z : Zt3) : Zt3 := (zTw t L (ctZ2 t L z)).2
def ctT (t : Nat → Nat) (L : Nat) (z : Zt3) : Nat := (zB t L (ctZ3 t L z)).1
def ctZ5 (t : Nat → Nat) (L : Nat) (z : Zt3) : Zt3 := zE t L 0 (zB t L (ctZ3 t L z)).2
def ctP (t : Nat → Nat) (L : Nat) (z : Zt3) : Pd := (1, ctB t L z / 4 % 8, (if ctB t L z % 2 = 0 then -1 else nI (ctT t L z)), ctD t L z, ctB t L z / 2 % 2)
def zX (t : Nat → Nat) (L : Nat) (z : Zt3) (p : Pd) : Zt3 × Pd :=
  if (zB t L z).1 = 1 then (zG t L (zS t L 12 (zE t L 12 (zB t L z).2)), pd0)
  else if (zB t L z).1 = 249 ∧ p.1 = 0 then (ctZ5 t L (zB t L z).2, ctP t L (zB t L z).2)
  else if (zB t L z).1 = 254 ∧ p.1 = 0 then (zG t L (zB t L z).2, p)
  else if (zB t L z).1 = 255 ∧ p.1 = 0 then (zG t L (zS t L 11 (zE t L 11 (zB t L z).2)), p)
  else (zW 4 (nI z.1) (zB t L z).2, p)
theorem ctP_o {t : Nat → Nat} {L : Nat} {z : Zt3} (ht : ∀ j, j < L → t j < 256) : PdO (ctP t L z) := by
  refine ⟨Nat.le_refl 1, Nat.mod_lt _ (by decide), ?_, zTw_b ht, ?_⟩
  · have e : (ctP t L z).2.2.1 = if ctB t L z % 2 = 0 then -1 else nI (ctT t L z) := rfl
    rw [e]
    by_cases q : ctB t L z % 2 = 0
    · rw [if_pos q]; exact Or.inl rfl
    · rw [if_neg q]; exact Or.inr ⟨_, zB_b ht, rfl⟩
  · show ctB t L z / 2 % 2 ≤ 1
    omega
theorem zX_p {t : Nat → Nat} {L : Nat} {z : Zt3} {p : Pd} (ht : ∀ j, j < L → t j < 256) (h : PdO p) : PdO (zX t L z p).2 := by
  unfold zX
  split
  · exact pd0_o
  · split
    · exact ctP_o ht
    · split
      · exact h
      · split
        · exact h
        · exact h
def CFx (n : Nat) (μ μ' : Mm) : Prop := μ'.2 = μ.2 ∧ (∀ b, b ≠ n + 1 → b ≠ n + 5 → b ≠ n + 6 → b ≠ n + 12 → μ'.1 b = μ.1 b) ∧ ∀ k, k ≠ 5 → k ≠ 7 → k ≠ 9 → k ≠ 10 → μ'.1 (n + 1) k = μ.1 (n + 1) k
theorem CFg.x {n : Nat} {μ μ' : Mm} (h : CFg n μ μ') : CFx n μ μ' := ⟨h.1, fun b h1 h2 h3 _ => h.2.1 b h1 h2 h3, fun k h1 _ h2 h3 => h.2.2 k h1 h2 h3⟩
theorem CFx.tr {n : Nat} {μ μ1 μ2 : Mm} (h : CFx n μ μ1) (h1 : CFx n μ1 μ2) : CFx n μ μ2 := ⟨h1.1.trans h.1, fun b hb hb2 hb3 hb4 => (h1.2.1 b hb hb2 hb3 hb4).trans (h.2.1 b hb hb2 hb3 hb4), fun k a b c d => (h1.2.2 k a b c d).trans (h.2.2 k a b c d)⟩
theorem PDC.g {n : Nat} {μ μ' : Mm} {p : Pd} (h : PDC n μ p) (hf : CFg n μ μ') : PDC n μ' p := by
  unfold PDC
  rw [hf.2.2 7 (by decide) (by decide) (by decide), hf.2.1 (n + 12) (by omega) (by omega) (by omega)]
  exact h
/-- pending values and the flag are written -/
theorem CS.wp {n d L : Nat} {μ0 μ : Mm} {z : Zt3} {a x l i w : Int32} (h : CS n d L μ0 μ z) (hd : n + 13 ≤ d) : CS n d L μ0 (si (si (si (si (si μ (n + 12) 0 a) (n + 12) 1 x) (n + 12) 2 l) (n + 12) 3 i) (n + 1) 7 w) z ∧ CFx n μ (si (si (si (si (si μ (n + 12) 0 a) (n + 12) 1 x) (n + 12) 2 l) (n + 12) 3 i) (n + 1) 7 w) := by
  obtain ⟨ν, e⟩ : ∃ ν, ν = si (si (si (si μ (n + 12) 0 a) (n + 12) 1 x) (n + 12) 2 l) (n + 12) 3 i := ⟨_, rfl⟩
  have a1 : Ag μ ν (n + 12) (n + 13) := by
    rw [e]
    exact ((((Ag.wi (by omega) (by omega)).nsi (by omega) (by omega)).nsi (by omega) (by omega)).nsi (by omega) (by omega))
  rw [← e]
  obtain ⟨⟨h1, h2, tw, kw, ow, h3⟩, ⟨q1, q2, q3, q4⟩, h5⟩ := h
  refine ⟨⟨⟨a1.1.trans h1, fun b hb hb2 hb3 => ?_, tw, kw, ow, ?_⟩, ⟨?_, ?_, ?_, ?_⟩, h5⟩, ⟨a1.1, fun b hb _ _ hb4 => ?_, fun k _ hk _ _ => ?_⟩⟩
  · rw [si_b hb, a1.2 b (by omega)]; exact h2 b hb hb2 hb3
  · exact (h3.ag a1 (by omega)).ag (Ag.wi (lo := n + 1) (hi := n + 2) (by omega) (by omega)) (by omega)
  · rw [si_j (by decide), a1.2 _ (by omega)]; exact q1
  · rw [si_j (by decide), a1.2 _ (by omega)]; exact q2
  · rw [si_j (by decide), a1.2 _ (by omega)]; exact q3
  · rw [si_j (by decide), a1.2 _ (by omega)]; exact q4
  · rw [si_b hb, a1.2 b (by omega)]
  · rw [si_j hk, a1.2 _ (by omega)]
theorem wp_pd {n : Nat} {μ : Mm} {a l i w : Nat} {x : Int32} : PDC n (si (si (si (si (si μ (n + 12) 0 (nI a)) (n + 12) 1 x) (n + 12) 2 (nI l)) (n + 12) 3 (nI i)) (n + 1) 7 (nI w)) (w, a, x, l, i) := by
  refine ⟨si_k, ?_, ?_, ?_, ?_⟩
  · rw [si_b (by omega), si_j (by decide), si_j (by decide), si_j (by decide), si_k]
  · rw [si_b (by omega), si_j (by decide), si_j (by decide), si_k]
  · rw [si_b (by omega), si_j (by decide), si_k]
  · rw [si_b (by omega), si_k]
theorem bits_dec : ∀ b, b < 256 → (nI b >>> ((2 : Int32) &&& 31)) &&& 7 = nI (b / 4 % 8) ∧ (nI b >>> ((1 : Int32) &&& 31)) &&& 1 = nI (b / 2 % 2) ∧ (nI b &&& 1 = nI (b % 2)) ∧ (nI b &&& 2 = 0 ↔ b / 2 % 2 = 0) := by decide +kernel
section EX
variable {n d L tn : Nat} {t : Nat → Nat} {μ0 : Mm}
theorem dr_C {μ : Mm} {z : Zt3} (hB : CB n d t L tn μ0) (h : CS n d L μ0 μ z) : ∃ μ', fX5_dropControl (n + 1) μ = some μ' ∧ CS n d L μ0 μ' z ∧ CFx n μ μ' ∧ PDC n μ' pd0 := by
  have hd : n + 13 ≤ d := by have := hB.2.2.2.2; omega
  obtain ⟨c1, f1⟩ := h.wp (a := nI 0) (x := -1) (l := nI 0) (i := nI 0) (w := nI 0) hd
  refine ⟨_, ?_, c1, f1, wp_pd⟩
  unfold fX5_dropControl
  rw [h.1.1, hB.1.1.2.2.1, bd_e wReset_C, lt'_e]
  rfl
theorem ct_C {μ : Mm} {z : Zt3} (hB : CB n d t L tn μ0) (h : CS n d L μ0 μ z) : ∃ μ', fX5_parseControl (n + 1) μ = some μ' ∧ CS n d L μ0 μ' (ctZ5 t L z) ∧ CFx n μ μ' ∧ PDC n μ' (ctP t L z) := by
  have hd : n + 13 ≤ d := by have := hB.2.2.2.2; omega
  obtain ⟨μ1, e1, c1, f1⟩ := ex_C (k := 4) (kk := 4) hB h rfl (by decide)
  obtain ⟨μ2, e2, c2, f2⟩ := nb_C hB c1
  obtain ⟨μ3, e3, c3, f3⟩ := nn_C hB c2
  obtain ⟨μ4, e4, c4, f4⟩ := nb_C hB c3
  obtain ⟨μ5, e5, c5, f5⟩ := ex_C (k := 0) (kk := 0) hB c4 rfl (by decide)
  have hb : ctB t L z < 256 := zB_b hB.ht
  obtain ⟨b1, b2, b3, b4⟩ := bits_dec _ hb
  obtain ⟨c6, f6⟩ := c5.wp (a := nI (ctB t L z / 4 % 8)) (x := if ctB t L z % 2 = 0 then -1 else nI (ctT t L z)) (l := nI (ctD t L z)) (i := nI (ctB t L z / 2 % 2)) (w := nI 1) hd
  refine ⟨_, ?_, c6, ((((f1.tr f2).tr f3).tr f4).tr f5).g.x.tr f6, wp_pd⟩
  have l2 : μ5.2 (n + 1) 2 = n + 12 := by rw [c5.1.1]; exact hB.1.1.2.2.1
  have inner : ∀ x : Int32, fX5_parseControl_L36 (n + 1) (nI (ctB t L z)) (nI (ctD t L z)) x μ5 = some (si (si (si (si (si μ5 (n + 12) 0 (nI (ctB t L z / 4 % 8))) (n + 12) 1 x) (n + 12) 2 (nI (ctD t L z))) (n + 12) 3 (nI (ctB t L z / 2 % 2))) (n + 1) 7 (nI 1)) := by
    intro x
    unfold fX5_parseControl_L36 fX5_parseControl_L62
    rw [l2, b1]
    by_cases q : ctB t L z / 2 % 2 = 0
    · rw [if_pos (b4.mpr q), bd_e (become_C (Or.inl rfl)), q]
      rfl
    · have q1 : ctB t L z / 2 % 2 = 1 := by omega
      rw [if_neg (fun w => q (b4.mp w)), bd_e (become_C (Or.inr rfl)), q1]
      rfl
  unfold fX5_parseControl
  rw [bd_e e1, bd_e e2, lt'_e, bd_e e3, lt'_e, bd_e e4, lt'_e, bd_e e5]
  show (if nI (ctB t L z) &&& 1 = 0 then fX5_parseControl_L36 (n + 1) (nI (ctB t L z)) (nI (ctD t L z)) (-1) μ5 else fX5_parseControl_L36 (n + 1) (nI (ctB t L z)) (nI (ctD t L z)) (nI (ctT t L z)) μ5) = _
  rw [b3, inner, inner]
  by_cases q : ctB t L z % 2 = 0
  · rw [if_pos (show nI (ctB t L z % 2) = 0 by rw [q]; rfl), if_pos q]
  · rw [if_neg (nI_ne0 (by omega) (by omega)), if_neg q]
theorem skip_C {μ : Mm} {z : Zt3} (hB : CB n d t L tn μ0) (fu : Nat) {m : Nat} {kk : Int32} (hkk : kk = nI m) (hm : m ≤ 255) (hfu : 300 ≤ fu) (h : CS n d L μ0 μ z) : ∃ μ', fX5_skip fu (n + 1) kk μ = some μ' ∧ CS n d L μ0 μ' (zS t L m z) ∧ CF n μ μ' := by
  subst hkk
  have := sk_C hB fu (m := m) hm fu 0 μ z (by omega) (by omega) h
  rw [Nat.sub_zero] at this
  exact this
theorem xt_C {μ : Mm} {z : Zt3} {p : Pd} (hB : CB n d t L tn μ0) (fu : Nat) (hfu : 13000 ≤ fu) (h : CS n d L μ0 μ z) (hp : PDC n μ p) (hpo : PdO p) : ∃ μ', fX5_parseExtension fu (n + 1) μ = some μ' ∧ CS n d L μ0 μ' (zX t L z p).1 ∧ CFx n μ μ' ∧ PDC n μ' (zX t L z p).2 := by
  obtain ⟨μ1, e1, c1, f1⟩ := nb_C hB h
  obtain ⟨b, eb⟩ : ∃ b, b = (zB t L z).1 := ⟨_, rfl⟩
  have hb : b < 256 := by rw [eb]; exact zB_b hB.ht
  have p1 : PDC n μ1 p := hp.g f1.g
  have hp7 : μ1.1 (n + 1) 7 = nI p.1 := p1.1
  have hpo1 := hpo.1
  unfold fX5_parseExtension zX
  rw [← eb] at e1 ⊢
  rw [lt'_e, bd_e e1, lt'_e, h.2.1.2.1]
  dsimp only
  rw [hp7]
  have refu : ∃ μ', fX5_parseExtension_L113 fu (n + 1) (nI z.1) μ1 = some μ' ∧ CS n d L μ0 μ' (zW 4 (nI z.1) (zB t L z).2) ∧ CFx n μ μ' ∧ PDC n μ' p := by
    obtain ⟨g1, g2⟩ := rf_C (k := 4) (kk := 4) (v := nI z.1) hB c1 rfl (by decide)
    exact ⟨_, rfl, g1, (f1.tr g2).g.x, p1.g g2.g⟩
  by_cases q1 : b = 1
  · rw [if_pos (show nI b = 1 by rw [q1]; rfl), if_pos q1]
    obtain ⟨μ2, e2, c2, f2⟩ := ex_C (k := 12) (kk := 12) hB c1 rfl (by decide)
    obtain ⟨μ3, e3, c3, f3⟩ := skip_C hB fu (m := 12) (kk := 12) rfl (by decide) (by omega) c2
    obtain ⟨μ4, e4, c4, f4, -⟩ := ga_C hB fu hfu c3
    obtain ⟨μ5, e5, c5, f5, p5⟩ := dr_C hB c4
    rw [bd_e e2, bd_e e3, bd_e e4, bd_e e5]
    dsimp only
    exact ⟨μ5, rfl, c5, (((f1.tr f2).tr f3).g.tr f4).x.tr f5, p5⟩
  rw [if_neg (nI_nl (v := 1) rfl q1 (by omega) (by decide)), if_neg q1]
  by_cases qw : p.1 = 0
  · have ew : nI p.1 = 0 := by rw [qw]; rfl
    rw [if_pos ew]
    by_cases q2 : b = 249
    · rw [if_pos (show nI b = 249 by rw [q2]; rfl), if_pos ⟨q2, qw⟩]
      obtain ⟨μ2, e2, c2, f2, p2⟩ := ct_C hB c1
      rw [bd_e e2]
      dsimp only
      exact ⟨μ2, rfl, c2, f1.g.x.tr f2, p2⟩
    rw [if_neg (nI_nl (v := 249) rfl q2 (by omega) (by decide)), if_neg (show ¬ (b = 249 ∧ p.1 = 0) from fun q => q2 q.1)]
    unfold fX5_parseExtension_L59 fX5_parseExtension_L80
    rw [hp7, if_pos ew, if_pos ew]
    by_cases q3 : b = 254
    · rw [if_pos (show nI b = 254 by rw [q3]; rfl), if_pos ⟨q3, qw⟩]
      obtain ⟨μ2, e2, c2, f2, -⟩ := ga_C hB fu hfu c1
      rw [bd_e e2]
      dsimp only
      exact ⟨μ2, rfl, c2, (f1.g.tr f2).x, p1.g f2⟩
    rw [if_neg (nI_nl (v := 254) rfl q3 (by omega) (by decide)), if_neg (show ¬ (b = 254 ∧ p.1 = 0) from fun q => q3 q.1)]
    by_cases q4 : b = 255
    · rw [if_pos (show nI b = 255 by rw [q4]; rfl), if_pos ⟨q4, qw⟩]
      obtain ⟨μ2, e2, c2, f2⟩ := ex_C (k := 11) (kk := 11) hB c1 rfl (by decide)
      obtain ⟨μ3, e3, c3, f3⟩ := skip_C hB fu (m := 11) (kk := 11) rfl (by decide) (by omega) c2
      obtain ⟨μ4, e4, c4, f4, -⟩ := ga_C hB fu hfu c3
      rw [bd_e e2, bd_e e3, bd_e e4]
      dsimp only
      exact ⟨μ4, rfl, c4, (((f1.tr f2).tr f3).g.tr f4).x, ((p1.g (f2.tr f3).g).g f4)⟩
    rw [if_neg (nI_nl (v := 255) rfl q4 (by omega) (by decide)), if_neg (show ¬ (b = 255 ∧ p.1 = 0) from fun q => q4 q.1)]
    dsimp only
    exact refu
  · have nw : ¬ nI p.1 = 0 := nI_ne0 (by omega) (by omega)
    rw [if_neg nw, if_neg (show ¬ (b = 249 ∧ p.1 = 0) from fun q => qw q.2), if_neg (show ¬ (b = 254 ∧ p.1 = 0) from fun q => qw q.2), if_neg (show ¬ (b = 255 ∧ p.1 = 0) from fun q => qw q.2)]
    have el : fX5_parseExtension_L59 fu (n + 1) (nI z.1) (nI b) μ1 = fX5_parseExtension_L113 fu (n + 1) (nI z.1) μ1 := by
      unfold fX5_parseExtension_L59 fX5_parseExtension_L80
      rw [hp7, if_neg nw, if_neg nw]
      split
      · split <;> rfl
      · split <;> rfl
    have el2 : ∀ (c : Prop) [Decidable c] (z : Option Mm), (if c then z else z) = z := fun c _ z => by split <;> rfl
    rw [el2, el]
    dsimp only
    exact refu
end EX
