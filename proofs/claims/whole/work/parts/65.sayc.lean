theorem nar_h : ∀ l : List Nat, (∀ x, x ∈ l → x < 4096) → vp_nar .short (hdI l) = hdI l := by
  intro l hl
  cases l with
  | nil => exact sh_m1
  | cons x xs => exact nar_sn (by have := hl x (by simp); omega)
section SC'
variable {y s f w h il e nx : Nat} {o : Nf} {ch : Nl} {A F T N : Nf} {S0 : Ot}
theorem l253_n {a len c sz : Nat} {v9 : Int32} {b : Bt} {μ : Mm} (fu : Nat) (hfu : 300 ≤ fu) (hS0 : S0.2 ≤ 2000000) (hb : BtO b) (hc : c < 2 ^ sz) (hs : sz ≤ 12) (hE : 8 * b.2.1 + b.2.2.2 ≤ 60000) (hC : RCs y μ e nx ch A F T N) (hF : RTf y μ sz nx none) (hW : RWb y μ S0 b) : ∃ μ', fX10_sayLongest_L253 fu y (nI a) (nI len) v9 (nI c) μ = some (nI (a + len), μ') ∧ RCs y μ' e nx ch A F T N ∧ RTf y μ' sz nx (some c) ∧ RWb y μ' S0 (pc b c sz) ∧ RSF y μ μ' := by
  obtain ⟨μ1, e1, W1, w1⟩ := rb_R (c := c) (s2 := sz) fu hfu hS0 hb hc hs hE hW
  have F1 := hF.w w1
  have h30 : μ1.1 y 30 = -1 := F1.2.2
  unfold fX10_sayLongest_L253 fX10_sayLongest_L330
  rw [hF.1, bd_e e1, h30, if_pos (show (-1 : Int32) < 0 by decide), lt'_e, nI_add]
  have a2 : RTF y μ1 (si μ1 y 30 (nI c)) := RTF.wi (by omega)
  refine ⟨_, rfl, ?_, F1.bf, W1.eqv rfl (si_b (by omega)) (si_b (by omega)) (fun k h1 h2 => si_j (by omega)), w1.s.tr a2.s⟩
  have C1 := hC.w w1
  refine ⟨C1.1.f, ?_, C1.2.2.1, C1.2.2.2⟩
  rw [si_b (by omega), si_b (by omega)]
  exact C1.2.1
theorem l253_t {a len c sz p v : Nat} {b : Bt} {μ : Mm} (fu : Nat) (hfu : 300 ≤ fu) (hS0 : S0.2 ≤ 2000000) (hD : DI e nx (some p) A F T N) (hT : TI e nx ch A F T) (h4 : nx < 4096) (hv : v < 8192) (hb : BtO b) (hc : c < 2 ^ sz) (hs : 1 ≤ sz ∧ sz ≤ 12) (hE : 8 * b.2.1 + b.2.2.2 ≤ 60000) (hC : RCs y μ e nx ch A F T N) (hF : RTf y μ sz nx (some p)) (hW : RWb y μ S0 b) : ∃ μ', fX10_sayLongest_L253 fu y (nI a) (nI len) (nI v) (nI c) μ = some (nI (a + len), μ') ∧ RCs y μ' e (nx + 1) (tch ch nx p) (u1 A nx p) (u1 F nx (F p)) (u1 T nx v) (u1 N nx (N p + 1)) ∧ RTf y μ' (szT sz nx) (nx + 1) (some c) ∧ RWb y μ' S0 (pc b c sz) ∧ RSF y μ μ' := by
  have hp := hD.2.2.1 p rfl
  have p4 := DK4 hD.1.2 hD.2.1.2 hp
  have hnx := hD.2.1.1
  have hpn : p ≠ nx := by rcases hp with q | q <;> omega
  obtain ⟨μ1, e1, W1, w1⟩ := rb_R (c := c) (s2 := sz) fu hfu hS0 hb hc hs.2 hE hW
  have F1 := hF.w w1
  have C1 := hC.w w1
  have h30 : μ1.1 y 30 = nI p := F1.2.2
  have h29 := F1.2.1
  obtain ⟨l36, l37⟩ := C1.2.2
  obtain ⟨μ2, x2⟩ : ∃ μ2, μ2 = si μ1 (y + 14) nx m1 := ⟨_, rfl⟩
  obtain ⟨μ3, x3⟩ : ∃ μ3, μ3 = si μ2 (y + 15) nx (hdI (ch p)) := ⟨_, rfl⟩
  obtain ⟨μ4, x4⟩ : ∃ μ4, μ4 = si μ3 (y + 14) p (nI nx) := ⟨_, rfl⟩
  have r2 : μ2.1 y = μ1.1 y ∧ μ2.2 = μ1.2 := by rw [x2]; exact ⟨si_b (by omega), rfl⟩
  have r3 : μ3.1 y = μ1.1 y ∧ μ3.2 = μ1.2 := by rw [x3]; exact ⟨by rw [si_b (by omega)]; exact r2.1, r2.2⟩
  have r4 : μ4.1 y = μ1.1 y ∧ μ4.2 = μ1.2 := by rw [x4]; exact ⟨by rw [si_b (by omega)]; exact r3.1, r3.2⟩
  have hh2 : μ2.1 (y + 14) p = hdI (ch p) := by rw [x2, si_j hpn]; exact (C1.2.1 p hp).1
  have a4 : Ag μ1 μ4 (y + 14) (y + 16) := by
    rw [x4, x3, x2]
    exact ((Ag.wi (by omega) (by omega)).nsi (by omega) (by omega)).nsi (by omega) (by omega)
  have w14 : μ4.1 (y + 14) = u1 (u1 (μ1.1 (y + 14)) nx m1) p (nI nx) := by rw [x4, si_r, x3, si_b (by omega), x2, si_r]
  have w15 : μ4.1 (y + 15) = u1 (μ1.1 (y + 15)) nx (μ1.1 (y + 14) p) := by rw [x4, si_b (by omega), x3, si_r, x2, si_b (by omega), (C1.2.1 p hp).1]
  have T4 : RTa y μ4 e nx A F T N := C1.1.eqv (by rw [a4.1]) (a4.2 _ (by omega)) (a4.2 _ (by omega)) (a4.2 _ (by omega)) (a4.2 _ (by omega))
  obtain ⟨μ5, e5, A5, F5, f5⟩ := tell_R (v := v) hD T4 (F1.eqv r4.1) hs h4 hv
  have nh : vp_nar .short (hdI (ch p)) = hdI (ch p) := nar_h _ (fun x hx => by
    have := (hT.1 p hp).1 x hx
    omega)
  unfold fX10_sayLongest_L253 fX10_sayLongest_L330
  rw [hF.1, bd_e e1, h30, h29, if_neg (nI_pos (by omega)), if_neg (show ¬ (4096 : Int32) ≤ nI nx from nI_ge (b := 4096) h4 (by decide)), r_ib h4 (by decide), l36, nI_clamp (by omega), sh_m1, m1_d, lt'_e, ← x2, r2.1, r2.2, h30, h29, r_ib p4 (by decide), r_ib h4 (by decide), l37, l36, nI_clamp (by omega), nI_clamp (by omega), hh2, nh, lt'_e, ← x3, r3.1, r3.2, h30, h29, r_ib p4 (by decide), l36, nI_clamp (by omega), nar_s (by omega), lt'_e, ← x4, bd_e e5, lt'_e, nI_add]
  have a6 : RTF y μ5 (si μ5 y 30 (nI c)) := RTF.wi (by omega)
  have s45 : RSF y μ1 μ5 := (a4.s (by omega) (by omega)).tr f5.s
  refine ⟨_, rfl, ?_, F5.bf, W1.eqv ?_ ?_ ?_ (fun k h1 h2 => ?_), (w1.s.tr s45).tr a6.s⟩
  · refine ⟨A5.f, ?_, ?_, ?_⟩
    · rw [si_b (by omega), si_b (by omega), f5.2.1 _ (by omega) (by omega), f5.2.1 _ (by omega) (by omega), w14, w15]
      exact C1.2.1.tell hD hT
    · show μ5.2 y 36 = _
      rw [f5.1, a4.1]; exact l36
    · show μ5.2 y 37 = _
      rw [f5.1, a4.1]; exact l37
  · show μ5.2 = μ1.2
    rw [f5.1, a4.1]
  · rw [si_b (by omega), f5.2.1 _ (by omega) (by omega), a4.2 _ (by omega)]
  · rw [si_b (by omega), f5.2.1 _ (by omega) (by omega), a4.2 _ (by omega)]
  · rw [si_j (by omega), f5.2.2 k (by omega), a4.2 _ (by omega)]
/-- one code: the reference -/
theorem lo_R {a sz cl : Nat} {fm : Option Nat} {b : Bt} {μ : Mm} (fu : Nat) (hfu : 5000 ≤ fu) (hS0 : S0.2 ≤ 2000000) (hE : EI o (w * h) e a nx sz cl fm ch A F T N b) (ha : a < w * h) (h4 : nx < 4096) (hC : RCs y μ e nx ch A F T N) (hF : RTf y μ sz nx fm) (hX : RXi y s f w h il o μ) (hW : RWb y μ S0 b) (hs : s < 2) (hf : f < 24) (hw : 1 ≤ w ∧ w ≤ 64) (hh : h ≤ 64) (hil : il ≤ 1) : ∃ μ', RSF y μ μ' ∧ (match fm with
    | none => fX10_sayLongest fu y (nI f) (nI a) (nI (w * h)) μ = some (nI (lg ch T o (w * h) (w * h) (o a) (a + 1)).2, μ') ∧ RCs y μ' e nx ch A F T N ∧ RTf y μ' sz nx (some (lg ch T o (w * h) (w * h) (o a) (a + 1)).1) ∧ RWb y μ' S0 (pc b (lg ch T o (w * h) (w * h) (o a) (a + 1)).1 sz)
    | some p => fX10_sayLongest fu y (nI f) (nI a) (nI (w * h)) μ = some (nI (lg (tch ch nx p) (u1 T nx (o a)) o (w * h) (w * h) (o a) (a + 1)).2, μ') ∧ RCs y μ' e (nx + 1) (tch ch nx p) (u1 A nx p) (u1 F nx (F p)) (u1 T nx (o a)) (u1 N nx (N p + 1)) ∧ RTf y μ' (szT sz nx) (nx + 1) (some (lg (tch ch nx p) (u1 T nx (o a)) o (w * h) (w * h) (o a) (a + 1)).1) ∧ RWb y μ' S0 (pc b (lg (tch ch nx p) (u1 T nx (o a)) o (w * h) (w * h) (o a) (a + 1)).1 sz)) := by
  have hpl := hE.2.2.2.2.1
  have hec := hE.ec
  have hsz := hE.2.2.1
  have ho := hE.2.2.2.2.2.2.1
  have hbt := hE.2.2.2.1
  have oa := ho a ha
  have h2e := two_e hE.1.1.2
  obtain ⟨st1, st2, st3⟩ := hE.st ha
  have run : fX10_sayLongest fu y (nI f) (nI a) (nI (w * h)) μ = fX10_sayLongest_L86 fu y (nI f) (nI a) (nI (w * h)) (nI (lg ch T o (w * h) (w * h) (o a) (a + 1)).1) (nI (lg ch T o (w * h) (w * h) (o a) (a + 1)).2) μ := by
    unfold fX10_sayLongest
    rw [bd_e (ix_R hX hs hf hw hh hil ha), lt'_e, nI_1]
    exact ou_l fu (by omega) hE.1 hE.2.1 hC hX hs hf hw hh hil ho (w * h) fu (o a) (a + 1) (by omega) (by omega) (by omega) st1
  rw [run]
  obtain ⟨i1, i2, i3, i4⟩ := lg_i (pl := w * h) hE.1 hE.2.1 (w * h) (o a) (a + 1) st1 st3 (by omega) (by omega)
  have sF := std_F hE.1 hE.2.1 _ i1 i2
  -- the plain code
  have plain : ∀ r : Nat × Nat, DK (2 ^ e) nx r.1 → fX10_sayLongest_L183 fu y (nI a) (nI r.1) 0 μ = fX10_sayLongest_L253 fu y (nI a) (nI (N r.1)) (nI (F r.1)) (nI r.1) μ := by
    intro r hr
    have r4 := DK4 hE.1.1.2 hE.1.2.1.2 hr
    unfold fX10_sayLongest_L183 fX10_sayLongest_L211 fX10_sayLongest_L237
    rw [if_pos rfl, r_ib r4 (by decide), if_pos rfl, r_ib r4 (by decide), if_pos rfl, hC.1.1.2.2.2, hC.1.1.2.2.1, nI_clamp (by omega), (hC.1.2.1 r.1 hr).2.2, (hC.1.2.1 r.1 hr).1]
  cases fm with
  | none =>
    obtain ⟨⟨x1, x2, x3, x4⟩, x5⟩ := hE.nxt ha h4 hE.1 hE.2.1 (Or.inr rfl) sz ⟨Nat.le_refl _, hsz.2.1, hsz.2.2⟩
    dsimp only
    generalize lg ch T o (w * h) (w * h) (o a) (a + 1) = r at *
    have h30 : μ.1 y 30 = -1 := hF.2.2
    have e86 : fX10_sayLongest_L86 fu y (nI f) (nI a) (nI (w * h)) (nI r.1) (nI r.2) μ = fX10_sayLongest_L183 fu y (nI a) (nI r.1) 0 μ := by
      unfold fX10_sayLongest_L86 fX10_sayLongest_L182
      rw [h30, if_pos (show (-1 : Int32) < 0 by decide)]
    rw [e86, plain r i1]
    obtain ⟨μ', e', C', F', W', s'⟩ := l253_n (a := a) (len := N r.1) (v9 := nI (F r.1)) fu (by omega) hS0 hbt x1 hsz.2.1 (by omega) hC hF hW
    rw [← i3] at e'
    exact ⟨μ', s', e', C', F', W'⟩
  | some p =>
    have hp := hE.1.2.2.1 p rfl
    have p4 := DK4 hE.1.1.2 hE.1.2.1.2 hp
    obtain ⟨n1, n2, n3, n4⟩ := hE.1.n p hp
    have hv := hE.2.2.2.2.2.2.2 p rfl ha
    obtain ⟨d1, d2, d3, d4, d5⟩ := hE.tl ha h4
    obtain ⟨⟨x1, x2, x3, x4⟩, x5⟩ := hE.nxt ha h4 d1 d2 (Or.inl rfl) (szT sz nx) ⟨d3, d4, d5⟩
    obtain ⟨l1, l2⟩ := l86 (a := a) (c := (lg ch T o (w * h) (w * h) (o a) (a + 1)).1) (k := (lg ch T o (w * h) (w * h) (o a) (a + 1)).2) fu hfu hE.1 hC hF hX hs hf hw hh hil ho h4 (by omega) i4
    dsimp only
    rcases lg_2 (pl := w * h) hE.1 hE.2.1 hv (w * h) (o a) (a + 1) st1 st3 (by omega) (by omega) with ⟨g1, g2⟩ | ⟨g1, g2, g3, g4⟩
    · have nsp : ¬ (¬ (N p + 1 ≤ (lg ch T o (w * h) (w * h) (o a) (a + 1)).2 - a) ∧ a + N p < w * h ∧ std A T o a (N p) p ∧ o (a + N p) = F p) := by
        intro ⟨z1, z2, z3, z4⟩
        have zF := std_F hE.1 hE.2.1 p hp z3
        have rc := reach (pl := w * h) hE.1 hE.2.1 p hp z3 (by omega) (w * h - (N p - 1))
        rw [show w * h - (N p - 1) + (N p - 1) = w * h by omega] at rc
        obtain ⟨q, eq⟩ : ∃ q, w * h - (N p - 1) = q + 1 := ⟨w * h - (N p - 1) - 1, by omega⟩
        have er : lg ch T o (w * h) (q + 1) p (a + N p) = if a + N p < w * h then (match fnd T (o (a + N p)) (ch p) with | some x => lg ch T o (w * h) q x (a + N p + 1) | none => (p, a + N p)) else (p, a + N p) := rfl
        rw [eq, er, if_pos z2, z4, zF, hv] at rc
        rw [rc] at g2
        exact g2 ⟨rfl, z2, by show o (a + N p) = o a; rw [z4, zF]⟩
      rw [l2 nsp, plain _ i1]
      rw [g1] at x1 ⊢
      generalize lg ch T o (w * h) (w * h) (o a) (a + 1) = r at *
      obtain ⟨μ', e', C', F', W', s'⟩ := l253_t (a := a) (len := N r.1) (c := r.1) (v := F r.1) fu (by omega) hS0 hE.1 hE.2.1 h4 (by omega) hbt x1 ⟨by omega, hsz.2.1⟩ (by omega) hC hF hW
      rw [← i3] at e'
      rw [sF] at e' C'
      rw [sF]
      exact ⟨μ', s', e', C', F', W'⟩
    · rw [g4] at x1 ⊢
      have zS : std A T o a (N p) p := by
        rw [g1] at i2
        exact i2
      have zF := std_F hE.1 hE.2.1 p hp zS
      rw [g1] at l1 ⊢
      dsimp only at l1 x1 ⊢
      rw [l1 ⟨by omega, g2, zS, by rw [g3, zF]⟩]
      have h30 : μ.1 y 30 = nI p := hF.2.2
      have e183 : fX10_sayLongest_L183 fu y (nI a) (nI p) 1 μ = fX10_sayLongest_L253 fu y (nI a) (nI (N p + 1)) (nI (F p)) (nI nx) μ := by
        unfold fX10_sayLongest_L183 fX10_sayLongest_L211 fX10_sayLongest_L237
        rw [if_neg (show ¬ (1 : Int32) = 0 by decide), h30, r_ib p4 (by decide), if_neg (show ¬ (1 : Int32) = 0 by decide), r_ib p4 (by decide), if_neg (show ¬ (1 : Int32) = 0 by decide), hC.1.1.2.2.2, hC.1.1.2.2.1, nI_clamp (by omega), (hC.1.2.1 p hp).2.2, (hC.1.2.1 p hp).1, hF.2.1, nI_1]
      rw [e183]
      obtain ⟨μ', e', C', F', W', s'⟩ := l253_t (a := a) (len := N p + 1) (c := nx) (v := F p) fu (by omega) hS0 hE.1 hE.2.1 h4 (by omega) hbt x1 ⟨by omega, hsz.2.1⟩ (by omega) hC hF hW
      rw [← Nat.add_assoc] at e'
      rw [zF] at e' C'
      rw [zF]
      exact ⟨μ', s', e', C', F', W'⟩
end SC'
