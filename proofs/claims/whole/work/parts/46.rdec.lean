/-! the reference's table of rows -/
def RTl (y : Nat) (μ : Mm) : Prop := μ.2 y 24 = y + 9 ∧ μ.2 y 25 = y + 10 ∧ μ.2 y 26 = y + 11 ∧ μ.2 y 27 = y + 12
def RTa (y : Nat) (μ : Mm) (e nx : Nat) (A F T N : Nat → Nat) : Prop :=
  RTl y μ ∧ (∀ x, DK (2 ^ e) nx x → μ.1 (y + 11) x = nI (F x) ∧ μ.1 (y + 10) x = nI (T x) ∧ μ.1 (y + 12) x = nI (N x)) ∧ (∀ x, x < 2 ^ e → μ.1 (y + 9) x = m1) ∧ (∀ x, 2 ^ e + 2 ≤ x → x < nx → μ.1 (y + 9) x = nI (A x))
def RTf (y : Nat) (μ : Mm) (sz nx : Nat) (fm : Option Nat) : Prop := μ.1 y 28 = nI sz ∧ μ.1 y 29 = nI nx ∧ μ.1 y 30 = fmI fm
def RTF (y : Nat) (μ μ' : Mm) : Prop := μ'.2 = μ.2 ∧ (∀ b, b ≠ y → (b < y + 9 ∨ y + 13 ≤ b) → μ'.1 b = μ.1 b) ∧ ∀ k, (k < 28 ∨ 30 < k) → μ'.1 y k = μ.1 y k
theorem RTF.rf {y : Nat} {μ : Mm} : RTF y μ μ := ⟨rfl, fun _ _ _ => rfl, fun _ _ => rfl⟩
theorem RTF.tr {y : Nat} {μ μ1 μ2 : Mm} (h : RTF y μ μ1) (h1 : RTF y μ1 μ2) : RTF y μ μ2 := ⟨h1.1.trans h.1, fun b hb hb2 => (h1.2.1 b hb hb2).trans (h.2.1 b hb hb2), fun k hk => (h1.2.2 k hk).trans (h.2.2 k hk)⟩
theorem RTF.wi {y k : Nat} {v : Int32} {μ : Mm} (h : 28 ≤ k ∧ k ≤ 30) : RTF y μ (si μ y k v) := ⟨rfl, fun b hb _ => si_b hb, fun j hj => si_j (by omega)⟩
theorem RTF.ag {y : Nat} {μ μ' : Mm} (h : Ag μ μ' (y + 9) (y + 13)) : RTF y μ μ' := ⟨h.1, fun b _ hb => h.2 b (by omega), fun k _ => by rw [h.2 y (by omega)]⟩
theorem nar_sn {q : Nat} (h : q < 8192) : vp_nar .short (nI q) = nI q := by rw [vp_nar_short, sh_nI h]
theorem RTa.eqv {y e nx : Nat} {μ μ' : Mm} {A F T N : Nat → Nat} (h : RTa y μ e nx A F T N) (e2 : μ'.2 y = μ.2 y) (e9 : μ'.1 (y + 9) = μ.1 (y + 9)) (e10 : μ'.1 (y + 10) = μ.1 (y + 10)) (e11 : μ'.1 (y + 11) = μ.1 (y + 11)) (e12 : μ'.1 (y + 12) = μ.1 (y + 12)) : RTa y μ' e nx A F T N := by
  unfold RTa RTl
  rw [e2, e9, e10, e11, e12]
  exact h
theorem RTa.f {y e nx k : Nat} {v : Int32} {μ : Mm} {A F T N : Nat → Nat} (h : RTa y μ e nx A F T N) : RTa y (si μ y k v) e nx A F T N := h.eqv rfl (si_b (by omega)) (si_b (by omega)) (si_b (by omega)) (si_b (by omega))
theorem al_loop {y e : Nat} (fu : Nat) (he : e ≤ 8) : ∀ (K i : Nat) (μ : Mm), i ≤ 2 ^ e → 2 ^ e - i < K → RTl y μ → (∀ x, x < i → μ.1 (y + 9) x = m1 ∧ μ.1 (y + 10) x = nI x ∧ μ.1 (y + 11) x = nI x ∧ μ.1 (y + 12) x = nI 1) → ∃ μ', fX10_alone_L2 fu K y (nI e) (nI i) μ = some μ' ∧ Ag μ μ' (y + 9) (y + 13) ∧ ∀ x, x < 2 ^ e → μ'.1 (y + 9) x = m1 ∧ μ'.1 (y + 10) x = nI x ∧ μ'.1 (y + 11) x = nI x ∧ μ'.1 (y + 12) x = nI 1 := by
  have h2e := two_e he
  intro K
  induction K with
  | zero => intro i μ _ h; omega
  | succ K ih =>
    intro i μ hi hK hl hx
    show ∃ μ', fX10_alone_B2 (fX10_alone_L2 fu K) fu y (nI e) (nI i) μ = some μ' ∧ _
    unfold fX10_alone_B2
    rw [shl1 e (by omega)]
    by_cases q : i = 2 ^ e
    · rw [if_pos (nI_le (by omega) (by omega))]
      exact ⟨μ, rfl, Ag.rf, fun x hx2 => hx x (by omega)⟩
    · rw [if_neg (nI_ge (by omega) (by omega)), r_ib (by omega) (by decide), nI_clamp (by omega), hl.1, sh_m1, nar_s (by omega), show vp_nar .short 1 = nI 1 from nar_sn (q := 1) (by decide), m1_d]
      simp only [lt'_e, si_2, nI_1, hl.2.1, hl.2.2.1, hl.2.2.2]
      rw [r_ib (by omega) (by decide), r_ib (by omega) (by decide), r_ib (by omega) (by decide)]
      obtain ⟨ν, eν⟩ : ∃ ν, ν = si (si (si (si μ (y + 9) i m1) (y + 10) i (nI i)) (y + 11) i (nI i)) (y + 12) i (nI 1) := ⟨_, rfl⟩
      rw [← eν]
      have a : Ag μ ν (y + 9) (y + 13) := by
        rw [eν]
        exact (((Ag.wi (by omega) (by omega)).nsi (by omega) (by omega)).nsi (by omega) (by omega)).nsi (by omega) (by omega)
      have w9 : ν.1 (y + 9) = u1 (μ.1 (y + 9)) i m1 := by rw [eν, si_b (by omega), si_b (by omega), si_b (by omega), si_r]
      have w10 : ν.1 (y + 10) = u1 (μ.1 (y + 10)) i (nI i) := by rw [eν, si_b (by omega), si_b (by omega), si_r, si_b (by omega)]
      have w11 : ν.1 (y + 11) = u1 (μ.1 (y + 11)) i (nI i) := by rw [eν, si_b (by omega), si_r, si_b (by omega), si_b (by omega)]
      have w12 : ν.1 (y + 12) = u1 (μ.1 (y + 12)) i (nI 1) := by rw [eν, si_r, si_b (by omega), si_b (by omega), si_b (by omega)]
      obtain ⟨μ', e', a', g'⟩ := ih (i + 1) ν (by omega) (by omega) (by unfold RTl; rw [a.1]; exact hl) (fun x hx2 => by
        rw [w9, w10, w11, w12]
        by_cases w : x = i
        · rw [w, u1_k, u1_k, u1_k, u1_k]; exact ⟨rfl, rfl, rfl, rfl⟩
        · rw [u1_j w, u1_j w, u1_j w, u1_j w]; exact hx x (by omega))
      exact ⟨μ', e', a.tr a', g'⟩
theorem re_R {y e : Nat} {μ : Mm} (he : e ≤ 8) : RTf y (fX10_restart y (nI e) μ) (e + 1) (2 ^ e + 2) none ∧ RTF y μ (fX10_restart y (nI e) μ) ∧ Ag μ (fX10_restart y (nI e) μ) y (y + 1) := by
  unfold fX10_restart
  simp only [lt'_e]
  rw [shl1 e (by omega), nI_1, show nI (2 ^ e) + 2 = nI (2 ^ e + 2) from nI_add _ 2]
  refine ⟨⟨?_, ?_, si_k⟩, ((RTF.wi (by omega)).tr (RTF.wi (by omega))).tr (RTF.wi (by omega)), ((Ag.wi (by omega) (by omega)).nsi (by omega) (by omega)).nsi (by omega) (by omega)⟩
  · rw [si_j (by decide), si_j (by decide), si_k]
  · rw [si_j (by decide), si_k]
theorem RTa.re {y e nx : Nat} {μ : Mm} {A F T N : Nat → Nat} (h : RTa y μ e nx A F T N) (hnx : 2 ^ e + 2 ≤ nx) : RTa y μ e (2 ^ e + 2) A F T N := ⟨h.1, fun x hx => h.2.1 x (by rcases hx with q | q; exact Or.inl q; exact Or.inr ⟨q.1, by omega⟩), h.2.2.1, fun x q1 q2 => by omega⟩
theorem tell_R {y e sz nx p v : Nat} {μ : Mm} {A F T N : Nat → Nat} (hI : DI e nx (some p) A F T N) (h : RTa y μ e nx A F T N) (hf : RTf y μ sz nx (some p)) (hs : 1 ≤ sz ∧ sz ≤ 12) (h4 : nx < 4096) (hv : v < 8192) : ∃ μ', fX10_tell y (nI v) μ = some μ' ∧ RTa y μ' e (nx + 1) (u1 A nx p) (u1 F nx (F p)) (u1 T nx v) (u1 N nx (N p + 1)) ∧ RTf y μ' (szT sz nx) (nx + 1) (some p) ∧ RTF y μ μ' := by
  obtain ⟨f1, f2, f3⟩ := hf
  obtain ⟨⟨l0, l1, l2, l3⟩, g3, g4, g5⟩ := h
  have hp := hI.2.2.1 p rfl
  have h2e := two_e hI.1.2
  have hnx := hI.2.1.1
  have hp4 : p < 4096 := by rcases hp with q | q <;> omega
  obtain ⟨gp1, gp2, gp3⟩ := g3 p hp
  obtain ⟨np1, np2, np3, np4⟩ := hI.n p hp
  have hpn : p ≠ nx := by rcases hp with q | q <;> omega
  have f3' : μ.1 y 30 = nI p := f3
  obtain ⟨μ1, x1⟩ : ∃ μ1, μ1 = si μ (y + 9) nx (nI p) := ⟨_, rfl⟩
  obtain ⟨μ2, x2⟩ : ∃ μ2, μ2 = si μ1 (y + 10) nx (nI v) := ⟨_, rfl⟩
  obtain ⟨μ3, x3⟩ : ∃ μ3, μ3 = si μ2 (y + 11) nx (nI (F p)) := ⟨_, rfl⟩
  obtain ⟨μ4, x4⟩ : ∃ μ4, μ4 = si μ3 (y + 12) nx (nI (N p + 1)) := ⟨_, rfl⟩
  obtain ⟨μ5, x5⟩ : ∃ μ5, μ5 = si μ4 y 29 (nI (nx + 1)) := ⟨_, rfl⟩
  have r1 : μ1.1 y = μ.1 y ∧ μ1.2 = μ.2 := by rw [x1]; exact ⟨si_b (by omega), rfl⟩
  have r2 : μ2.1 y = μ.1 y ∧ μ2.2 = μ.2 := by rw [x2]; exact ⟨by rw [si_b (by omega)]; exact r1.1, r1.2⟩
  have r3 : μ3.1 y = μ.1 y ∧ μ3.2 = μ.2 := by rw [x3]; exact ⟨by rw [si_b (by omega)]; exact r2.1, r2.2⟩
  have r4 : μ4.1 y = μ.1 y ∧ μ4.2 = μ.2 := by rw [x4]; exact ⟨by rw [si_b (by omega)]; exact r3.1, r3.2⟩
  have a4 : Ag μ μ4 (y + 9) (y + 13) := by
    rw [x4, x3, x2, x1]
    exact (((Ag.wi (by omega) (by omega)).nsi (by omega) (by omega)).nsi (by omega) (by omega)).nsi (by omega) (by omega)
  have v11 : μ2.1 (y + 11) p = nI (F p) := by rw [x2, si_b (by omega), x1, si_b (by omega)]; exact gp1
  have v12 : μ3.1 (y + 12) p = nI (N p) := by rw [x3, si_b (by omega), x2, si_b (by omega), x1, si_b (by omega)]; exact gp3
  have w9 : μ4.1 (y + 9) = u1 (μ.1 (y + 9)) nx (nI p) := by rw [x4, si_b (by omega), x3, si_b (by omega), x2, si_b (by omega), x1, si_r]
  have w10 : μ4.1 (y + 10) = u1 (μ.1 (y + 10)) nx (nI v) := by rw [x4, si_b (by omega), x3, si_b (by omega), x2, si_r, x1, si_b (by omega)]
  have w11 : μ4.1 (y + 11) = u1 (μ.1 (y + 11)) nx (nI (F p)) := by rw [x4, si_b (by omega), x3, si_r, x2, si_b (by omega), x1, si_b (by omega)]
  have w12 : μ4.1 (y + 12) = u1 (μ.1 (y + 12)) nx (nI (N p + 1)) := by rw [x4, si_r, x3, si_b (by omega), x2, si_b (by omega), x1, si_b (by omega)]
  have rta : RTa y μ4 e (nx + 1) (u1 A nx p) (u1 F nx (F p)) (u1 T nx v) (u1 N nx (N p + 1)) := by
    refine ⟨by unfold RTl; rw [r4.2]; exact ⟨l0, l1, l2, l3⟩, fun x hx => ?_, fun x hx => ?_, fun x q1 q2 => ?_⟩
    · rw [w10, w11, w12]
      by_cases q : x = nx
      · subst q
        rw [u1_k, u1_k, u1_k, u1_k, u1_k, u1_k]
        exact ⟨rfl, rfl, rfl⟩
      · rw [u1_j q, u1_j q, u1_j q, u1_j q, u1_j q, u1_j q]
        exact g3 x (by rcases hx with w | w; exact Or.inl w; exact Or.inr ⟨w.1, by omega⟩)
    · rw [w9, u1_j (by omega)]; exact g4 x hx
    · rw [w9]
      by_cases q : x = nx
      · subst q; rw [u1_k, u1_k]
      · rw [u1_j q, u1_j q]; exact g5 x q1 (by omega)
  have m5 : RTf y μ5 sz (nx + 1) (some p) := by
    rw [x5]
    refine ⟨?_, si_k, ?_⟩
    · rw [si_j (by decide), r4.1]; exact f1
    · rw [si_j (by decide), r4.1]; exact f3
  have run : fX10_tell y (nI v) μ = (if nI (nx + 1) = nI (2 ^ sz) then (if (12 : Int32) ≤ nI sz then some μ5 else some (si μ5 y 28 (nI (sz + 1)))) else some μ5) := by
    unfold fX10_tell
    rw [f2, r_ib h4 (by decide), l0, nI_clamp (by omega), f3', nar_s (by omega), lt'_e, ← x1, r1.1, r1.2, f2, r_ib h4 (by decide), l1, nI_clamp (by omega), nar_s hv, lt'_e, ← x2, r2.1, r2.2, f3', f2, r_ib hp4 (by decide), r_ib h4 (by decide), l2, nI_clamp (by omega), nI_clamp (by omega), v11, nar_sn (by omega), lt'_e, ← x3, r3.1, r3.2, f3', f2, r_ib hp4 (by decide), r_ib h4 (by decide), l3, nI_clamp (by omega), nI_clamp (by omega), v12, nI_1, nar_s (by omega), lt'_e, ← x4, r4.1, f2, nI_1, lt'_e, ← x5, m5.2.1, m5.1, shl1 sz (by omega), lt'_e, nI_1]
  have h12 : 2 ^ sz ≤ 2 ^ 12 := Nat.pow_le_pow_right (by decide) hs.2
  rw [run]
  have rta5 : RTa y μ5 e (nx + 1) (u1 A nx p) (u1 F nx (F p)) (u1 T nx v) (u1 N nx (N p + 1)) := by rw [x5]; exact rta.f
  have df5 : RTF y μ μ5 := by rw [x5]; exact (RTF.ag a4).tr (RTF.wi (by omega))
  by_cases q1 : nx + 1 = 2 ^ sz
  · rw [if_pos (show nI (nx + 1) = nI (2 ^ sz) by rw [q1])]
    by_cases q2 : sz < 12
    · rw [if_neg (show ¬ (12 : Int32) ≤ nI sz from nI_ge (b := 12) q2 (by decide))]
      have e : szT sz nx = sz + 1 := by unfold szT; rw [if_pos ⟨q1, q2⟩]
      refine ⟨_, rfl, rta5.f, ?_, df5.tr (RTF.wi (by omega))⟩
      rw [e]
      obtain ⟨w1, w2, w3⟩ := m5
      refine ⟨si_k, ?_, ?_⟩
      · rw [si_j (by decide)]; exact w2
      · rw [si_j (by decide)]; exact w3
    · rw [if_pos (show (12 : Int32) ≤ nI sz from nI_le (a := 12) (by omega) (by omega))]
      have e : szT sz nx = sz := by unfold szT; rw [if_neg (by omega)]
      refine ⟨_, rfl, rta5, ?_, df5⟩
      rw [e]; exact m5
  · rw [if_neg (fun q => q1 ((nI_eq (by omega) (by omega)).mp q))]
    have e : szT sz nx = sz := by unfold szT; rw [if_neg (fun q => q1 q.1)]
    refine ⟨_, rfl, rta5, ?_, df5⟩
    rw [e]; exact m5
/-! the reference's codes -/
theorem shlb : ∀ b, b < 2 → ∀ i, i < 13 → nI b <<< (nI i &&& 31) = nI (b * 2 ^ i) := by decide +kernel
def RDt (y : Nat) (μ : Mm) (c : Nat) (D : Nat → Nat) : Prop := μ.2 y 21 = y + 8 ∧ μ.1 y 22 = nI c ∧ c ≤ 12000 ∧ RB μ (y + 8) D c
theorem cd_loop {y sz bit c : Nat} {μ : Mm} {D : Nat → Nat} (fu : Nat) (hD : RDt y μ c D) (h28 : μ.1 y 28 = nI sz) (h23 : μ.1 y 23 = nI bit) (hs : sz ≤ 12) (hb : bit + sz ≤ 8 * c) : ∀ (K i : Nat), i ≤ sz → sz - i < K → fX10_code_L25 fu K y (nI (cdS D bit i)) (nI i) μ = some (nI (cdS D bit sz), si μ y 23 (nI (bit + sz))) := by
  obtain ⟨d1, d2, d3, d4⟩ := hD
  intro K
  induction K with
  | zero => intro i _ h; omega
  | succ K ih =>
    intro i hi hK
    show fX10_code_B25 (fX10_code_L25 fu K) fu y (nI (cdS D bit i)) (nI i) μ = _
    unfold fX10_code_B25
    rw [h28, h23]
    by_cases q : i = sz
    · rw [if_pos (nI_le (by omega) (by omega)), nI_add, lt'_e, q]
    · have hlt := cdS_lt D bit i
      have h11 : 2 ^ i ≤ 2 ^ 11 := Nat.pow_le_pow_right (by decide) (by omega)
      have hb2 : D ((bit + i) / 8) / 2 ^ ((bit + i) % 8) % 2 < 2 := Nat.mod_lt _ (by decide)
      have hj : (bit + i) / 8 < c := by omega
      have bx := bit_x (d4 _ hj).1 (d4 _ hj).2 (s := (bit + i) % 8) (Nat.mod_lt _ (by decide))
      have hmul : D ((bit + i) / 8) / 2 ^ ((bit + i) % 8) % 2 * 2 ^ i ≤ 1 * 2 ^ i := Nat.mul_le_mul_right _ (by omega)
      rw [if_neg (nI_ge (by omega) (by omega)), nI_add, pk_shrN (by omega) _ 3 (by decide), show (2 : Nat) ^ 3 = 8 from rfl, r_ib (by omega) (by decide), nI_clamp (by omega), d1, show nI (bit + i) &&& 7 = nI ((bit + i) % 8) from pk_andN (by omega) 3 (by decide), bx, shlb _ hb2 _ (by omega), or_add hlt (by omega), lt'_e, lt'_e, nI_1]
      exact ih (i + 1) (by omega) (by omega)
theorem code_1 {y sz bit c : Nat} {μ : Mm} {D : Nat → Nat} (fu : Nat) (hfu : 20 ≤ fu) (hD : RDt y μ c D) (h28 : μ.1 y 28 = nI sz) (h23 : μ.1 y 23 = nI bit) (hs : sz ≤ 12) (hb : bit + sz ≤ 8 * c) : fX10_code fu y μ = some (nI (cdS D bit sz), si μ y 23 (nI (bit + sz))) := by
  have h3 := hD.2.2.1
  unfold fX10_code
  rw [h28, h23, hD.2.1, nI_add, show (8 : Int32) * nI c = nI (8 * c) from pk_mul 8 c, if_pos (nI_le hb (by omega))]
  exact cd_loop fu hD h28 h23 hs hb fu 0 (by omega) (by omega)
theorem code_0 {y sz bit c : Nat} {μ : Mm} {D : Nat → Nat} (fu : Nat) (hD : RDt y μ c D) (h28 : μ.1 y 28 = nI sz) (h23 : μ.1 y 23 = nI bit) (hs : sz ≤ 12) (hbm : bit ≤ 8 * c) (hb : ¬ bit + sz ≤ 8 * c) : fX10_code fu y μ = some (-1, μ) := by
  have h3 := hD.2.2.1
  unfold fX10_code
  rw [h28, h23, hD.2.1, nI_add, show (8 : Int32) * nI c = nI (8 * c) from pk_mul 8 c, if_neg (nI_ge (by omega) (by omega))]
