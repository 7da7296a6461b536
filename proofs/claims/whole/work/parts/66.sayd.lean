section SD'
variable {y s f w h il e : Nat} {o : Nf} {S0 : Ot}
/-- CLEAR: the reference -/
theorem h_l {a : Nat} (rec : Nat → Int32 → Int32 → Int32 → Int32 → Mm → Option Mm) (fu : Nat) (he : e ≤ 8) (pl' : Int32) : ∀ (K i : Nat) (μ : Mm), i ≤ 2 ^ e → 2 ^ e - i < K → μ.2 y 36 = y + 14 → (∀ x, x < i → μ.1 (y + 14) x = m1) → ∃ μ', fX10_sayCodes_L109 rec fu K y (nI e) (nI f) pl' (nI a) (nI i) μ = fX10_sayCodes_L131 rec fu y (nI e) (nI f) pl' (nI a) μ' ∧ Ag μ μ' (y + 14) (y + 15) ∧ ∀ x, x < 2 ^ e → μ'.1 (y + 14) x = m1 := by
  have h2e := two_e he
  intro K
  induction K with
  | zero => intro i μ _ h; omega
  | succ K ih =>
    intro i μ hi hK hl hx
    show ∃ μ', fX10_sayCodes_B109 rec (fX10_sayCodes_L109 rec fu K) fu y (nI e) (nI f) pl' (nI a) (nI i) μ = _ ∧ _
    unfold fX10_sayCodes_B109
    rw [shl1 e (by omega)]
    by_cases q : i = 2 ^ e
    · rw [if_pos (nI_le (by omega) (by omega))]
      exact ⟨μ, rfl, Ag.rf, fun x hx2 => hx x (by omega)⟩
    · rw [if_neg (nI_ge (by omega) (by omega)), r_ib (by omega) (by decide), hl, nI_clamp (by omega), sh_m1, lt'_e, lt'_e, nI_1]
      obtain ⟨μ', e', a', g'⟩ := ih (i + 1) (si μ (y + 14) i (-1)) (by omega) (by omega) hl (fun x hx2 => by
        rw [si_r]
        by_cases w : x = i
        · rw [w, u1_k]; rfl
        · rw [u1_j w]; exact hx x (by omega))
      exact ⟨μ', e', (Ag.wi (by omega) (by omega)).tr a', g'⟩
theorem h_0 (fu : Nat) (he : e ≤ 8) (pl' : Int32) : ∀ (K i : Nat) (μ : Mm), i ≤ 2 ^ e → 2 ^ e - i < K → μ.2 y 36 = y + 14 → (∀ x, x < i → μ.1 (y + 14) x = m1) → ∃ μ', fX10_sayCodes_L49 fu K y (nI e) (nI f) pl' (nI i) μ = fX10_sayCodes_L74 fu fu y (nI e) (nI f) pl' 0 μ' ∧ Ag μ μ' (y + 14) (y + 15) ∧ ∀ x, x < 2 ^ e → μ'.1 (y + 14) x = m1 := by
  have h2e := two_e he
  intro K
  induction K with
  | zero => intro i μ _ h; omega
  | succ K ih =>
    intro i μ hi hK hl hx
    show ∃ μ', fX10_sayCodes_B49 (fX10_sayCodes_L49 fu K) fu y (nI e) (nI f) pl' (nI i) μ = _ ∧ _
    unfold fX10_sayCodes_B49
    rw [shl1 e (by omega)]
    by_cases q : i = 2 ^ e
    · rw [if_pos (nI_le (by omega) (by omega))]
      exact ⟨μ, rfl, Ag.rf, fun x hx2 => hx x (by omega)⟩
    · rw [if_neg (nI_ge (by omega) (by omega)), r_ib (by omega) (by decide), hl, nI_clamp (by omega), sh_m1, lt'_e, lt'_e, nI_1]
      obtain ⟨μ', e', a', g'⟩ := ih (i + 1) (si μ (y + 14) i (-1)) (by omega) (by omega) hl (fun x hx2 => by
        rw [si_r]
        by_cases w : x = i
        · rw [w, u1_k]; rfl
        · rw [u1_j w]; exact hx x (by omega))
      exact ⟨μ', e', (Ag.wi (by omega) (by omega)).tr a', g'⟩
theorem pc_pad {B : Bt} (hb : BtO B) (h0 : ¬ B.2.2.2 = 0) : pc B 0 (8 - B.2.2.2) = (u1 B.1 B.2.1 B.2.2.1, B.2.1 + 1, 0, 0) := by
  have h1 := hb.1
  have h2 := hb.2
  have h7 : 2 ^ B.2.2.2 ≤ 2 ^ 7 := Nat.pow_le_pow_right (by decide) (by omega)
  unfold pc
  have e1 : B.2.2.2 + (8 - B.2.2.2) = 8 := by omega
  rw [Nat.zero_mul, Nat.add_zero, e1]
  show (if 8 < 8 then _ else pcL 2 (u1 B.1 B.2.1 (B.2.2.1 % 256), B.2.1 + 1, B.2.2.1 / 256, 8 - 8)) = _
  rw [if_neg (by decide), Nat.mod_eq_of_lt (by omega), Nat.div_eq_of_lt (by omega)]
  rfl
theorem sc_l (fu : Nat) (hfu : 5000 ≤ fu) (hS0 : S0.2 ≤ 2000000) (hs : s < 2) (hf : f < 24) (hw : 1 ≤ w ∧ w ≤ 64) (hh : h ≤ 64) (hil : il ≤ 1) : ∀ (g K a nx sz cl : Nat) (fm : Option Nat) (ch : Nl) (A F T N : Nf) (b : Bt) (μ : Mm), EI o (w * h) e a nx sz cl fm ch A F T N b → w * h - a < g → g ≤ K → RCs y μ e nx ch A F T N → RTf y μ sz nx fm → RXi y s f w h il o μ → RWb y μ S0 b → ∃ μ', fX10_sayCodes_L74 fu K y (nI e) (nI f) (nI (w * h)) (nI a) μ = some μ' ∧ RWb y μ' S0 (eM o (w * h) e g a nx sz fm ch A F T N b) ∧ RSF y μ μ' := by
  intro g
  induction g with
  | zero => intro K a nx sz cl fm ch A F T N b μ _ h; omega
  | succ g ih =>
    intro K a nx sz cl fm ch A F T N b μ hE hg hK hC hF hX hW
    obtain ⟨K, rfl⟩ : ∃ K', K = K' + 1 := ⟨K - 1, by omega⟩
    have er : eM o (w * h) e (g + 1) a nx sz fm ch A F T N b = if a < w * h then (if nx = 4096 then eS o (w * h) (eM o (w * h) e g) a (2 ^ e + 2) (e + 1) none (fun _ => []) A F T N (pc b (2 ^ e) sz) else eS o (w * h) (eM o (w * h) e g) a nx sz fm ch A F T N b) else eZ e sz b := rfl
    rw [er]
    have h2e := two_e hE.1.1.2
    have hpl := hE.2.2.2.2.1
    have hnx := hE.1.2.1
    have hec := hE.ec
    have hsz := hE.2.2.1
    have he := hE.1.1
    show ∃ μ', fX10_sayCodes_B74 (fX10_sayCodes_L74 fu K) fu y (nI e) (nI f) (nI (w * h)) (nI a) μ = some μ' ∧ _
    unfold fX10_sayCodes_B74
    rw [shl1 e (by omega)]
    by_cases q : a < w * h
    · rw [if_neg (nI_ge q (by omega)), hF.2.1, if_pos q]
      have fin : ∀ (nx sz cl : Nat) (fm : Option Nat) (ch : Nl) (A F T N : Nf) (b : Bt) (ν : Mm), EI o (w * h) e a nx sz cl fm ch A F T N b → nx < 4096 → RCs y ν e nx ch A F T N → RTf y ν sz nx fm → RXi y s f w h il o ν → RWb y ν S0 b → ∃ μ', fX10_sayCodes_L131 (fX10_sayCodes_L74 fu K) fu y (nI e) (nI f) (nI (w * h)) (nI a) ν = some μ' ∧ RWb y μ' S0 (eS o (w * h) (eM o (w * h) e g) a nx sz fm ch A F T N b) ∧ RSF y ν μ' := by
        intro nx sz cl fm ch A F T N b ν hE h4 hC hF hX hW
        obtain ⟨μ1, s1, g1⟩ := lo_R fu hfu hS0 hE q h4 hC hF hX hW hs hf hw hh hil
        unfold fX10_sayCodes_L131
        cases fm with
        | none =>
          obtain ⟨e1, C1, F1, W1⟩ := g1
          obtain ⟨⟨x1, x2, x3, x4⟩, x5⟩ := hE.nxt q h4 hE.1 hE.2.1 (Or.inr rfl) sz ⟨Nat.le_refl _, hE.2.2.1.2.1, hE.2.2.1.2.2⟩
          rw [bd_e e1, lt'_e]
          obtain ⟨μ', e', b', w'⟩ := ih K _ nx sz cl _ ch A F T N _ μ1 x5 (by omega) (by omega) C1 F1 (hX.f s1) W1
          exact ⟨μ', e', b', s1.tr w'⟩
        | some p =>
          obtain ⟨e1, C1, F1, W1⟩ := g1
          obtain ⟨d1, d2, d3, d4, d5⟩ := hE.tl q h4
          obtain ⟨⟨x1, x2, x3, x4⟩, x5⟩ := hE.nxt q h4 d1 d2 (Or.inl rfl) (szT sz nx) ⟨d3, d4, d5⟩
          rw [bd_e e1, lt'_e]
          obtain ⟨μ', e', b', w'⟩ := ih K _ (nx + 1) (szT sz nx) cl _ _ _ _ _ _ _ μ1 x5 (by omega) (by omega) C1 F1 (hX.f s1) W1
          exact ⟨μ', e', b', s1.tr w'⟩
      by_cases q2 : nx = 4096
      · rw [if_pos (show nI nx = 4096 by rw [q2]; rfl), if_pos q2, hF.1]
        obtain ⟨μ1, e1, W1, w1⟩ := rb_R (c := 2 ^ e) (s2 := sz) fu (by omega) hS0 hE.2.2.2.1 (Nat.pow_lt_pow_right (by decide) (by omega)) hsz.2.1 (by omega) hW
        obtain ⟨f2, r2, a2⟩ := re_R (y := y) (e := e) (μ := μ1) he.2
        have C1 := hC.w w1
        obtain ⟨μ2, x2⟩ : ∃ μ2, μ2 = fX10_restart y (nI e) μ1 := ⟨_, rfl⟩
        rw [← x2] at f2 r2 a2
        rw [bd_e e1, lt'_e, ← x2]
        obtain ⟨μ3, e3, a3, g3⟩ := h_l (f := f) (a := a) (fX10_sayCodes_L74 fu K) fu he.2 (nI (w * h)) fu 0 μ2 (Nat.zero_le _) (by omega) (by rw [a2.1]; exact C1.2.2.1) (fun x hx => by omega)
        have e3' : fX10_sayCodes_L109 (fX10_sayCodes_L74 fu K) fu fu y (nI e) (nI f) (nI (w * h)) (nI a) 0 μ2 = fX10_sayCodes_L131 (fX10_sayCodes_L74 fu K) fu y (nI e) (nI f) (nI (w * h)) (nI a) μ3 := e3
        rw [e3']
        have s3 : RSF y μ μ3 := (w1.s.tr r2.s).tr (a3.s (by omega) (by omega))
        have T3 : RTa y μ3 e (2 ^ e + 2) A F T N := (C1.1.re hnx.1).eqv (by rw [a3.1, a2.1]) (by rw [a3.2 _ (by omega), a2.2 _ (by omega)]) (by rw [a3.2 _ (by omega), a2.2 _ (by omega)]) (by rw [a3.2 _ (by omega), a2.2 _ (by omega)]) (by rw [a3.2 _ (by omega), a2.2 _ (by omega)])
        obtain ⟨μ', e', b', w'⟩ := fin _ _ _ _ _ _ _ _ _ _ μ3 (hE.clr q2) (by omega) ⟨T3, WTr.clr g3, by rw [a3.1, a2.1]; exact C1.2.2.1, by rw [a3.1, a2.1]; exact C1.2.2.2⟩ (f2.eqv (a3.2 _ (by omega))) (hX.f s3) (W1.eqv (by rw [a3.1, a2.1]) (by rw [a3.2 _ (by omega), a2.2 _ (by omega)]) (by rw [a3.2 _ (by omega), a2.2 _ (by omega)]) (fun k h1 h2 => by rw [a3.2 _ (by omega), r2.2.2 k (by omega)]))
        exact ⟨μ', e', b', s3.tr w'⟩
      · rw [if_neg (nI_nl (v := 4096) rfl q2 (by omega) (by decide)), if_neg q2]
        exact fin _ _ _ _ _ _ _ _ _ _ μ hE (by omega) hC hF hX hW
    · rw [if_neg q, if_pos (nI_le (by omega) (by omega))]
      unfold eZ
      have e4 : 4 ≤ 2 ^ e := by
        have : 2 ^ 2 ≤ 2 ^ e := Nat.pow_le_pow_right (by decide) he.1
        omega
      have hc : 2 ^ e + 1 < 2 ^ sz := by
        have : 2 ^ (e + 1) ≤ 2 ^ sz := Nat.pow_le_pow_right (by decide) hsz.1
        rw [Nat.pow_succ] at this
        omega
      obtain ⟨o1, o2, o3⟩ := pc_o hE.2.2.2.1 hc hsz.2.1
      obtain ⟨μ1, e1, W1, w1⟩ := rb_R (c := 2 ^ e + 1) (s2 := sz) fu (by omega) hS0 hE.2.2.2.1 hc hsz.2.1 (by omega) hW
      rw [nI_1, hF.1, bd_e e1]
      generalize pc b (2 ^ e + 1) sz = B at *
      rw [W1.2.2.1.2.2]
      by_cases w0 : B.2.2.2 = 0
      · rw [if_pos (show nI B.2.2.2 ≤ 0 from nI_le (b := 0) (by omega) (by decide)), if_pos w0]
        exact ⟨μ1, rfl, W1, w1.s⟩
      · have o1b := o1.2
        rw [if_neg (show ¬ nI B.2.2.2 ≤ 0 from nI_nle (by omega) (by omega)), if_neg w0, show (8 : Int32) - nI B.2.2.2 = nI (8 - B.2.2.2) from pk_sub (a := 8) (by omega)]
        obtain ⟨μ2, e2, W2, w2⟩ := rb_R (c := 0) (s2 := 8 - B.2.2.2) fu (by omega) hS0 o1 (Nat.two_pow_pos _) (by omega) (by omega) W1
        have e2' : fX10_sayBits fu y 0 (nI (8 - B.2.2.2)) μ1 = some μ2 := e2
        rw [bd_e e2']
        rw [pc_pad o1 w0] at W2
        exact ⟨μ2, rfl, W2, w1.s.tr w2.s⟩
/-- the reference encodes so -/
theorem sc_R {μ : Mm} (fu : Nat) (hfu : 5000 ≤ fu) (he : 2 ≤ e ∧ e ≤ 8) (hS0 : S0.2 ≤ 2000000) (hs : s < 2) (hf : f < 24) (hw : 1 ≤ w ∧ w ≤ 64) (hh : h ≤ 64) (hil : il ≤ 1) (ho : ∀ k, k < w * h → o k < 2 ^ e) (hX : RXi y s f w h il o μ) (hL : LR y μ) (hO : RO μ y S0) : ∃ μ', fX10_sayCodes fu y (nI e) (nI f) μ = some μ' ∧ RWb y μ' S0 (eA o (w * h) e) ∧ RSF y μ μ' := by
  have h2e := two_e he.2
  have bwh := Nat.mul_le_mul hw.2 hh
  have hpl : fX10_places y (nI s) (nI f) μ = some (nI (w * h)) := by
    unfold fX10_places
    rw [bd_e (show fX10_field y (nI s) (nI f) 2 μ = some (nI w) by rw [← hX.2.1.1]; exact field_at hX.1.1 hs hf (by decide)), bd_e (show fX10_field y (nI s) (nI f) 3 μ = some (nI h) by rw [← hX.2.1.2.1]; exact field_at hX.1.1 hs hf (by decide)), pk_mul]
  have hTl : RTl y μ := ⟨hL.2.2.2.2.2.2.2.2.1, hL.2.2.2.2.2.2.2.2.2.1, hL.2.2.2.2.2.2.2.2.2.2.1, hL.2.2.2.2.2.2.2.2.2.2.2.1⟩
  obtain ⟨μ1, e1, g1, x1⟩ := al_loop (y := y) (e := e) fu he.2 fu 0 μ (Nat.zero_le _) (by omega) hTl (fun x hx => by omega)
  have al : fX10_alone fu y (nI e) μ = some μ1 := e1
  have ta : RTa y μ1 e (2 ^ e + 2) (fun _ => 0) (fun x => x) (fun x => x) (fun _ => 1) := by
    refine ⟨by unfold RTl; rw [g1.1]; exact hTl, fun x hx => ?_, fun x hx => (x1 x hx).1, fun x q1 q2 => by omega⟩
    have hx2 : x < 2 ^ e := by rcases hx with q | q <;> omega
    exact ⟨(x1 x hx2).2.2.1, (x1 x hx2).2.1, (x1 x hx2).2.2.2⟩
  obtain ⟨f2, r2, a2⟩ := re_R (y := y) (e := e) (μ := μ1) he.2
  obtain ⟨μ2, x2⟩ : ∃ μ2, μ2 = fX10_restart y (nI e) μ1 := ⟨_, rfl⟩
  rw [← x2] at f2 r2 a2
  obtain ⟨μ3, x3⟩ : ∃ μ3, μ3 = si (si (si μ2 y 32 0) y 33 0) y 34 0 := ⟨_, rfl⟩
  have a3 : Ag μ2 μ3 y (y + 1) := by rw [x3]; exact ((Ag.wi (by omega) (by omega)).nsi (by omega) (by omega)).nsi (by omega) (by omega)
  have w3 : RWF y μ2 μ3 := by rw [x3]; exact ((RWF.wi (by omega)).tr (RWF.wi (by omega))).tr (RWF.wi (by omega))
  have s3 : RSF y μ μ3 := ((g1.s (by omega) (by omega)).tr r2.s).tr w3.s
  have O3 : RO μ3 y S0 := by
    obtain ⟨p1, p2, p3, p4⟩ := hO
    refine ⟨by rw [s3.1]; exact p1, ?_, fun j hj => ?_, p4⟩
    · rw [x3, si_j (by decide), si_j (by decide), si_j (by decide), r2.2.2 31 (by omega), g1.2 _ (by omega)]; exact p2
    · rw [a3.2 _ (by omega), a2.2 _ (by omega), g1.2 _ (by omega)]; exact p3 j hj
  have W3 : RWb y μ3 S0 (fun _ => 0, 0, 0, 0) := by
    refine ⟨by rw [s3.1]; exact hL.2.2.2.2.2.2.2.2.2.2.2.2.1, O3, ⟨?_, ?_, ?_⟩, fun j hj => absurd hj (by show ¬ j < 0 % 255; omega)⟩
    · rw [x3, si_k]; rfl
    · rw [x3, si_j (by decide), si_j (by decide), si_k]; rfl
    · rw [x3, si_j (by decide), si_k]; rfl
  have F3 : RTf y μ3 (e + 1) (2 ^ e + 2) none := f2.w w3
  have hbt : BtO ((fun _ => 0, 0, 0, 0) : Bt) := ⟨by decide, by decide⟩
  obtain ⟨μ4, e4, W4, w4⟩ := rb_R (c := 2 ^ e) (s2 := e + 1) fu (by omega) hS0 hbt (Nat.pow_lt_pow_right (by decide) (by omega)) (by omega) (by decide) W3
  have s4 : RSF y μ μ4 := s3.tr w4.s
  obtain ⟨μ5, e5, a5, g5⟩ := h_0 (f := f) fu he.2 (nI (w * h)) fu 0 μ4 (Nat.zero_le _) (by omega) (by rw [s4.1]; exact hL.2.2.2.2.2.2.2.2.2.2.2.2.2.1) (fun x hx => by omega)
  have s5 : RSF y μ μ5 := s4.tr (a5.s (by omega) (by omega))
  have T4 : RTa y μ4 e (2 ^ e + 2) (fun _ => 0) (fun x => x) (fun x => x) (fun _ => 1) := by
    refine ta.eqv (by rw [w4.1, w3.1, r2.1]) ?_ ?_ ?_ ?_
    · rw [w4.2.1 _ (by omega) (by omega) (by omega), a3.2 _ (by omega), a2.2 _ (by omega)]
    · rw [w4.2.1 _ (by omega) (by omega) (by omega), a3.2 _ (by omega), a2.2 _ (by omega)]
    · rw [w4.2.1 _ (by omega) (by omega) (by omega), a3.2 _ (by omega), a2.2 _ (by omega)]
    · rw [w4.2.1 _ (by omega) (by omega) (by omega), a3.2 _ (by omega), a2.2 _ (by omega)]
  have C5 : RCs y μ5 e (2 ^ e + 2) (fun _ => []) (fun _ => 0) (fun x => x) (fun x => x) (fun _ => 1) := ⟨T4.eqv (by rw [a5.1]) (a5.2 _ (by omega)) (a5.2 _ (by omega)) (a5.2 _ (by omega)) (a5.2 _ (by omega)), WTr.clr g5, by rw [s5.1]; exact hL.2.2.2.2.2.2.2.2.2.2.2.2.2.1, by rw [s5.1]; exact hL.2.2.2.2.2.2.2.2.2.2.2.2.2.2⟩
  obtain ⟨μ6, e6, W6, s6⟩ := sc_l fu hfu hS0 hs hf hw hh hil (w * h + 1) fu 0 _ _ 0 none _ _ _ _ _ _ μ5 (EI0 he (by omega) ho) (by omega) (by omega) C5 ((F3.w w4).eqv (a5.2 _ (by omega))) (hX.f s5) (W4.eqv a5.1 (a5.2 _ (by omega)) (a5.2 _ (by omega)) (fun k h1 h2 => by rw [a5.2 y (by omega)]))
  refine ⟨μ6, ?_, W6, s5.tr s6⟩
  unfold fX10_sayCodes
  have e5' : fX10_sayCodes_L49 fu fu y (nI e) (nI f) (nI (w * h)) 0 μ4 = fX10_sayCodes_L74 fu fu y (nI e) (nI f) (nI (w * h)) 0 μ5 := e5
  rw [hX.1.2.2, bd_e hpl, bd_e al, lt'_e, ← x2, lt'_e, lt'_e, lt'_e, ← x3, shl1 e (by omega), F3.1, bd_e e4, e5']
  exact e6
/-- the last row, the end of the rows -/
theorem se_R {ec : Nat} {b : Bt} {μ : Mm} (fu : Nat) (hfu : 300 ≤ fu) (hS0 : S0.2 ≤ 2000000) (hb : b.2.1 ≤ 7000) (h : RWb y μ S0 b) : ∃ μ', (if (μ.1 y 34) ≤ 0 then fX10_sayFrame_L249 fu y μ else bd (fX10_sayRow fu y μ) fun μ3 => fX10_sayFrame_L249 fu y μ3) = some μ' ∧ RO μ' y (rEnd b.1 b.2.1 S0) ∧ RWF y μ μ' := by
  obtain ⟨h1, h2, ⟨i34, i32, i33⟩, h4⟩ := h
  have sF := rF_2 (E := b.1) (S := S0) (b.2.1 / 255)
  unfold rEnd fX10_sayFrame_L249
  rw [i34]
  by_cases q : b.2.1 % 255 = 0
  · rw [if_pos (show nI (b.2.1 % 255) ≤ 0 from nI_le (b := 0) (by omega) (by decide)), if_pos q]
    obtain ⟨μ1, e1, c1, a1⟩ := h2.say (by omega) 0
    rw [bd_e e1]
    have z : emI (rF b.1 S0 (b.2.1 / 255)) 0 = emN (rF b.1 S0 (b.2.1 / 255)) 0 := emN_n (b := 0) (by decide)
    rw [z] at c1
    exact ⟨μ1, rfl, c1, a1.w⟩
  · rw [if_neg (show ¬ nI (b.2.1 % 255) ≤ 0 from nI_nle (by omega) (by omega)), if_neg q]
    obtain ⟨μ1, e1, c1, w1, -⟩ := sr_R (E := b.1) (a := 255 * (b.2.1 / 255)) (m := b.2.1 % 255) fu hfu (by omega) (by omega) h1 i34 h4 h2
    rw [bd_e e1]
    have s1 := rB_2 (E := b.1) (a := 255 * (b.2.1 / 255)) (m := b.2.1 % 255) (S := rF b.1 S0 (b.2.1 / 255))
    obtain ⟨μ2, e2, c2, a2⟩ := c1.say (by omega) 0
    rw [bd_e e2]
    have z : emI (rB b.1 (255 * (b.2.1 / 255)) (b.2.1 % 255) (rF b.1 S0 (b.2.1 / 255))) 0 = emN (rB b.1 (255 * (b.2.1 / 255)) (b.2.1 % 255) (rF b.1 S0 (b.2.1 / 255))) 0 := emN_n (b := 0) (by decide)
    rw [z] at c2
    exact ⟨μ2, rfl, c2, w1.tr a2.w⟩
end SD'
