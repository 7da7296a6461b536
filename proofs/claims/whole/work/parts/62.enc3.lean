theorem anyI (x : Int32) : ∃ k, x = nI k := ⟨x.toBitVec.toNat, Int32.toBitVec_inj.mp (BitVec.eq_of_toNat_eq (by rw [pk_tn x.toBitVec.isLt]))⟩
section EC3
variable {n e pl : Nat} {o : Nf}
theorem eZ_b {sz : Nat} {b : Bt} (hb : BtO b) (he : e + 1 ≤ sz ∧ sz ≤ 12) (hec : 8 * b.2.1 + b.2.2.2 ≤ 50000) : (eZ e sz b).2.1 ≤ 7000 := by
  have hc : 2 ^ e + 1 < 2 ^ sz ∨ 2 ^ e + 1 ≤ 2 ^ sz := Or.inr (Nat.pow_lt_pow_right (by decide) (by omega))
  have hc2 : 2 ^ e + 1 ≤ 2 ^ sz := by omega
  unfold eZ
  have h2 : 2 * 2 ^ e ≤ 2 ^ sz := by
    have : 2 ^ (e + 1) ≤ 2 ^ sz := Nat.pow_le_pow_right (by decide) he.1
    rw [Nat.pow_succ] at this
    omega
  by_cases q : 2 ^ e + 1 < 2 ^ sz
  · obtain ⟨o1, o2, o3⟩ := pc_o hb q he.2
    split
    · omega
    · show (pc b (2 ^ e + 1) sz).2.1 + 1 ≤ 7000
      omega
  · have : 2 ^ e = 1 := by
      have : 1 ≤ 2 ^ e := Nat.one_le_two_pow
      omega
    have h1 : 2 ^ sz = 2 := by omega
    have : 2 ^ 1 ≤ 2 ^ sz := Nat.pow_le_pow_right (by decide) (by omega)
    -- e = 0, a size of one bit
    obtain ⟨a1, a2, a3⟩ := pcL_o 3 (b.1, b.2.1, 0, b.2.2.2 + sz) (by show 0 < 2 ^ _; exact Nat.two_pow_pos _) (by show b.2.2.2 + sz < _; have := hb.2; omega)
    have k : ∀ f (x y : Bt), x.2.1 = y.2.1 → x.2.2.2 = y.2.2.2 → (pcL f x).2.1 = (pcL f y).2.1 := by
      intro f
      induction f with
      | zero => intro x y h1 _; exact h1
      | succ f ih =>
        intro x y h1 h2
        show (if x.2.2.2 < 8 then x else _).2.1 = (if y.2.2.2 < 8 then y else _).2.1
        rw [h2]
        split
        · exact h1
        · refine ih _ _ ?_ ?_
          · show x.2.1 + 1 = y.2.1 + 1; rw [h1]
          · rfl
    have a4 : (pc b (2 ^ e + 1) sz).2.1 = (pcL 3 (b.1, b.2.1, 0, b.2.2.2 + sz)).2.1 := k 3 _ _ rfl rfl
    have a2' : 8 * (pcL 3 (b.1, b.2.1, 0, b.2.2.2 + sz)).2.1 + (pcL 3 (b.1, b.2.1, 0, b.2.2.2 + sz)).2.2.2 = 8 * b.2.1 + (b.2.2.2 + sz) := a2
    split
    · omega
    · show (pc b (2 ^ e + 1) sz).2.1 + 1 ≤ 7000
      omega
/-- one turn of the writing -/
theorem eM_s {a nx sz cl : Nat} {fm : Option Nat} {ch : Nl} {A F T N : Nf} {b : Bt} (h : EI o pl e a nx sz cl fm ch A F T N b) (ha : a < pl) (h4 : nx < 4096) (f : Nat) : ∃ a' nx' sz' fm' ch' A' F' T' N' b', eS o pl (eM o pl e f) a nx sz fm ch A F T N b = eM o pl e f a' nx' sz' fm' ch' A' F' T' N' b' ∧ EI o pl e a' nx' sz' cl fm' ch' A' F' T' N' b' ∧ a < a' := by
  cases fm with
  | none =>
    obtain ⟨⟨x1, x2, x3, x4⟩, x5⟩ := h.nxt ha h4 h.1 h.2.1 (Or.inr rfl) sz ⟨Nat.le_refl _, h.2.2.1.2.1, h.2.2.1.2.2⟩
    exact ⟨_, _, _, _, _, _, _, _, _, _, rfl, x5, x2⟩
  | some p =>
    obtain ⟨d1, d2, d3, d4, d5⟩ := h.tl ha h4
    obtain ⟨⟨x1, x2, x3, x4⟩, x5⟩ := h.nxt ha h4 d1 d2 (Or.inl rfl) (szT sz nx) ⟨d3, d4, d5⟩
    exact ⟨_, _, _, _, _, _, _, _, _, _, rfl, x5, x2⟩
theorem eM_b : ∀ (f a nx sz cl : Nat) (fm : Option Nat) (ch : Nl) (A F T N : Nf) (b : Bt), EI o pl e a nx sz cl fm ch A F T N b → pl - a < f → (eM o pl e f a nx sz fm ch A F T N b).2.1 ≤ 7000 := by
  intro f
  induction f with
  | zero => intro a nx sz cl fm ch A F T N b _ h; omega
  | succ f ih =>
    intro a nx sz cl fm ch A F T N b h hf
    have er : eM o pl e (f + 1) a nx sz fm ch A F T N b = if a < pl then (if nx = 4096 then eS o pl (eM o pl e f) a (2 ^ e + 2) (e + 1) none (fun _ => []) A F T N (pc b (2 ^ e) sz) else eS o pl (eM o pl e f) a nx sz fm ch A F T N b) else eZ e sz b := rfl
    rw [er]
    have h2e := two_e h.1.1.2
    by_cases q : a < pl
    · rw [if_pos q]
      by_cases q2 : nx = 4096
      · rw [if_pos q2]
        obtain ⟨a', nx', sz', fm', ch', A', F', T', N', b', e1, E1, l1⟩ := eM_s (h.clr q2) q (by omega) f
        rw [e1]
        exact ih _ _ _ _ _ _ _ _ _ _ _ E1 (by omega)
      · rw [if_neg q2]
        obtain ⟨a', nx', sz', fm', ch', A', F', T', N', b', e1, E1, l1⟩ := eM_s h q (by have := h.1.2.1.2; omega) f
        rw [e1]
        exact ih _ _ _ _ _ _ _ _ _ _ _ E1 (by omega)
    · rw [if_neg q]
      have := h.ec
      exact eZ_b h.2.2.2.1 ⟨h.2.2.1.1, h.2.2.1.2.1⟩ (by omega)
theorem el_C (fu : Nat) (hfu : 5000 ≤ fu) : ∀ (f K i a nx sz cl : Nat) (fm : Option Nat) (ch : Nl) (A F T N : Nf) (b : Bt) (μ : Mm), EI o pl e a nx sz cl fm ch A F T N b → pl - a < f → f ≤ K → i ≤ a → WSf n μ e pl o a nx sz fm b → WTc n μ e nx ch T → ∃ μ', fX2_encode_L39 fu K (n + 264) (nI pl) (nI i) μ = some μ' ∧ BR μ' (n + 265) (eM o pl e f a nx sz fm ch A F T N b).1 (eM o pl e f a nx sz fm ch A F T N b).2.1 0 ∧ WFr n μ μ' := by
  intro f
  induction f with
  | zero => intro K i a nx sz cl fm ch A F T N b μ _ h; omega
  | succ f ih =>
    intro K i a nx sz cl fm ch A F T N b μ hE hf hK hi h hw
    obtain ⟨K, rfl⟩ : ∃ K', K = K' + 1 := ⟨K - 1, by omega⟩
    have er : eM o pl e (f + 1) a nx sz fm ch A F T N b = if a < pl then (if nx = 4096 then eS o pl (eM o pl e f) a (2 ^ e + 2) (e + 1) none (fun _ => []) A F T N (pc b (2 ^ e) sz) else eS o pl (eM o pl e f) a nx sz fm ch A F T N b) else eZ e sz b := rfl
    rw [er]
    have h2e := two_e hE.1.1.2
    have hpl := hE.2.2.2.2.1
    have hnx := hE.1.2.1
    have hec := hE.ec
    show ∃ μ', fX2_encode_B39 (fX2_encode_L39 fu K) fu (n + 264) (nI pl) (nI i) μ = some μ' ∧ _
    unfold fX2_encode_B39
    have i9 := h.2.2.2.2.2.2.2.1
    have i7 := h.2.2.2.2.2.1
    have i6 := h.2.2.2.2.1
    have i5 := h.2.2.2.1
    rw [i9]
    by_cases q : a < pl
    · rw [if_neg (nI_ge (by omega) (by omega)), if_neg (nI_ge q (by omega)), i7, if_pos q]
      -- the code, for any table
      have fin : ∀ (nx sz cl : Nat) (fm : Option Nat) (ch : Nl) (A F T N : Nf) (b : Bt) (ν : Mm), EI o pl e a nx sz cl fm ch A F T N b → nx < 4096 → WSf n ν e pl o a nx sz fm b → WTc n ν e nx ch T → ∃ μ', fX2_encode_L70 (fX2_encode_L39 fu K) fu (n + 264) (nI pl) (nI i) ν = some μ' ∧ BR μ' (n + 265) (eS o pl (eM o pl e f) a nx sz fm ch A F T N b).1 (eS o pl (eM o pl e f) a nx sz fm ch A F T N b).2.1 0 ∧ WFr n ν μ' := by
        intro nx sz cl fm ch A F T N b ν hE h4 hS hW
        obtain ⟨μ1, e1, w1, g1⟩ := pl_C fu hfu hE q h4 hS hW
        unfold fX2_encode_L70
        rw [bd_e e1, lt'_e, nI_1]
        cases fm with
        | none =>
          obtain ⟨S1, W1⟩ := g1
          obtain ⟨⟨x1, x2, x3, x4⟩, x5⟩ := hE.nxt q h4 hE.1 hE.2.1 (Or.inr rfl) sz ⟨Nat.le_refl _, hE.2.2.1.2.1, hE.2.2.1.2.2⟩
          obtain ⟨μ', e', b', w'⟩ := ih K (i + 1) _ nx sz cl _ ch A F T N _ μ1 x5 (by omega) (by omega) (by omega) S1 W1
          exact ⟨μ', e', b', w1.tr w'⟩
        | some p =>
          obtain ⟨S1, W1⟩ := g1
          obtain ⟨d1, d2, d3, d4, d5⟩ := hE.tl q h4
          obtain ⟨⟨x1, x2, x3, x4⟩, x5⟩ := hE.nxt q h4 d1 d2 (Or.inl rfl) (szT sz nx) ⟨d3, d4, d5⟩
          obtain ⟨μ', e', b', w'⟩ := ih K (i + 1) _ (nx + 1) (szT sz nx) cl _ _ _ _ _ _ _ μ1 x5 (by omega) (by omega) (by omega) S1 W1
          exact ⟨μ', e', b', w1.tr w'⟩
      by_cases q2 : nx = 4096
      · rw [if_pos (show nI nx = 4096 by rw [q2]; rfl), if_pos q2, i6]
        obtain ⟨μ1, e1, S1, W1, w1⟩ := pcl_C (T := T) (s2 := sz) fu (by omega) hE.1.1 hE.2.2.2.1 ⟨hE.2.2.1.1, hE.2.2.1.2.1⟩ (by omega) h
        rw [bd_e e1]
        obtain ⟨μ', e', b', w'⟩ := fin _ _ _ _ _ _ _ _ _ _ μ1 (hE.clr q2) (by omega) S1 W1
        exact ⟨μ', e', b', w1.tr w'⟩
      · rw [if_neg (nI_nl (v := 4096) rfl q2 (by omega) (by decide)), if_neg q2]
        exact fin _ _ _ _ _ _ _ _ _ _ μ hE (by omega) h hw
    · rw [if_neg q]
      have en : ∃ μ', fX2_encode_L81 fu (n + 264) μ = some μ' ∧ BR μ' (n + 265) (eZ e sz b).1 (eZ e sz b).2.1 0 ∧ WFr n μ μ' := by
        unfold fX2_encode_L81 eZ
        have hsz := hE.2.2.1
        have he := hE.1.1
        have e4 : 4 ≤ 2 ^ e := by
          have : 2 ^ 2 ≤ 2 ^ e := Nat.pow_le_pow_right (by decide) he.1
          omega
        have hc : 2 ^ e + 1 < 2 ^ sz := by
          have : 2 ^ (e + 1) ≤ 2 ^ sz := Nat.pow_le_pow_right (by decide) hsz.1
          rw [Nat.pow_succ] at this
          omega
        obtain ⟨o1, o2, o3⟩ := pc_o hE.2.2.2.1 hc hsz.2.1
        obtain ⟨μ1, e1, S1, w1⟩ := wc_C (c := 2 ^ e + 1) (s2 := sz) fu (by omega) hE.2.2.2.1 hc hsz.2.1 (by omega) h
        rw [i5, shl1 e (by omega), nI_1, i6, bd_e e1]
        generalize pc b (2 ^ e + 1) sz = B at *
        rw [S1.2.2.2.2.2.2.2.2.2]
        by_cases w : B.2.2.2 = 0
        · rw [if_pos (show nI B.2.2.2 ≤ 0 from nI_le (b := 0) (by omega) (by decide)), if_pos w]
          exact ⟨μ1, rfl, S1.2.2.1, w1.r⟩
        · have o1b := o1.2
          have o1a := o1.1
          have h7 : 2 ^ B.2.2.2 ≤ 2 ^ 7 := Nat.pow_le_pow_right (by decide) (by omega)
          rw [if_neg (show ¬ nI B.2.2.2 ≤ 0 from nI_nle (by omega) (by omega)), if_neg w, S1.1.1, S1.2.2.2.2.2.2.2.2.1]
          obtain ⟨μ2, e2, b2, a2⟩ := S1.2.2.1.add (v := nI B.2.2.1) (by omega)
          rw [by8_nI (by omega)] at b2
          rw [bd_e e2]
          exact ⟨μ2, rfl, b2, w1.r.tr ⟨a2.1, fun b hb => a2.2 b (by omega)⟩⟩
      by_cases q3 : pl ≤ i
      · rw [if_pos (nI_le q3 (by omega))]; exact en
      · rw [if_neg (nI_ge (by omega) (by omega)), if_pos (nI_le (by omega) (by omega))]; exact en
theorem EI0 (he : 2 ≤ e ∧ e ≤ 8) (hpl : pl ≤ 4096) (ho : ∀ k, k < pl → o k < 2 ^ e) : EI o pl e 0 (2 ^ e + 2) (e + 1) 0 none (fun _ => []) (fun _ => 0) (fun x => x) (fun x => x) (fun _ => 1) (pc (fun _ => 0, 0, 0, 0) (2 ^ e) (e + 1)) := by
  have hb : BtO ((fun _ => 0, 0, 0, 0) : Bt) := ⟨by decide, by decide⟩
  have hc : 2 ^ e < 2 ^ (e + 1) := Nat.pow_lt_pow_right (by decide) (by omega)
  have e4 : 4 ≤ 2 ^ e := by
    have : 2 ^ 2 ≤ 2 ^ e := Nat.pow_le_pow_right (by decide) he.1
    omega
  obtain ⟨o1, o2, o3⟩ := pc_o hb hc (by omega)
  refine ⟨DI0 he, TI.clr, ⟨Nat.le_refl _, by omega, Or.inl (by rw [Nat.pow_succ]; omega)⟩, o1, ⟨Nat.zero_le _, hpl⟩, ⟨?_, by omega⟩, ho, fun p hp => by cases hp⟩
  have : 8 * (pc (fun _ => 0, 0, 0, 0) (2 ^ e) (e + 1)).2.1 + (pc (fun _ => 0, 0, 0, 0) (2 ^ e) (e + 1)).2.2.2 = 8 * 0 + 0 + (e + 1) := o2
  omega
theorem eA_b (he : 2 ≤ e ∧ e ≤ 8) (hpl : pl ≤ 4096) (ho : ∀ k, k < pl → o k < 2 ^ e) : (eA o pl e).2.1 ≤ 7000 := by
  unfold eA
  exact eM_b _ _ _ _ _ _ _ _ _ _ _ _ (EI0 he hpl ho) (by omega)
/-- the class encodes so -/
theorem en_C {μ : Mm} (fu : Nat) (hfu : 5000 ≤ fu) (he : 2 ≤ e ∧ e ≤ 8) (hpl : pl ≤ 4096) (ho : ∀ k, k < pl → o k < 2 ^ e) (hl : WSl n μ) (hb : ∃ tw kw ow, BR μ (n + 265) tw kw ow) (hO : ∀ k, k < pl → μ.1 (n + 267) k = nI (o k)) : ∃ μ', fX2_encode fu (n + 264) (nI pl) (nI e) μ = some μ' ∧ BR μ' (n + 265) (eA o pl e).1 (eA o pl e).2.1 0 ∧ WFr n μ μ' := by
  obtain ⟨tw, kw, ow, hb⟩ := hb
  unfold fX2_encode
  obtain ⟨μ1, x1⟩ : ∃ μ1, μ1 = si μ (n + 264) 5 (nI e) := ⟨_, rfl⟩
  have a1 : Ag μ μ1 (n + 264) (n + 265) := by rw [x1]; exact Ag.wi (by omega) (by omega)
  have b1 := hb.ag a1 (by omega)
  obtain ⟨b2, a2⟩ := b1.clear
  obtain ⟨μ2, x2⟩ : ∃ μ2, μ2 = fX0_clear (n + 265) μ1 := ⟨_, rfl⟩
  rw [← x2] at b2 a2
  obtain ⟨μ5, x5⟩ : ∃ μ5, μ5 = si (si (si μ2 (n + 264) 10 0) (n + 264) 11 0) (n + 264) 9 0 := ⟨_, rfl⟩
  have a5 : Ag μ2 μ5 (n + 264) (n + 265) := by rw [x5]; exact ((Ag.wi (by omega) (by omega)).nsi (by omega) (by omega)).nsi (by omega) (by omega)
  have w5 : WF3 n μ μ5 := ((a1.w3 (by omega) (by omega)).tr (a2.w3 (by omega) (by omega))).tr (a5.w3 (by omega) (by omega))
  have f5 : μ5.1 (n + 264) 5 = nI e := by rw [x5, si_j (by decide), si_j (by decide), si_j (by decide), a2.2 _ (by omega), x1, si_k]
  have B0 : BR μ5 (n + 265) (fun _ => 0) 0 0 := (b2.ag a5 (by omega)).eqv (fun j hj => by omega)
  -- the fields that CLEAR writes may hold anything before
  have hbt : BtO ((fun _ => 0, 0, 0, 0) : Bt) := ⟨by decide, by decide⟩
  obtain ⟨k6, h6⟩ := anyI (μ5.1 (n + 264) 6)
  obtain ⟨k7, h7⟩ := anyI (μ5.1 (n + 264) 7)
  obtain ⟨k8, h8⟩ := anyI (μ5.1 (n + 264) 8)
  have h10 : μ5.1 (n + 264) 10 = nI 0 := by rw [x5, si_j (by decide), si_j (by decide), si_k]; rfl
  have h11 : μ5.1 (n + 264) 11 = nI 0 := by rw [x5, si_j (by decide), si_k]; rfl
  have h9 : μ5.1 (n + 264) 9 = nI 0 := by rw [x5, si_k]; rfl
  have S5 : WSf n μ5 e pl o 0 k7 k6 (some k8) (fun _ => 0, 0, 0, 0) := ⟨by unfold WSl; rw [w5.1]; exact hl, fun k hk => by rw [w5.2 _ (by omega)]; exact hO k hk, B0, f5, h6, h7, h8, h9, h10, h11⟩
  obtain ⟨μ6, e6, S6, W6, w6⟩ := pcl_C (T := fun x => x) (s2 := e + 1) fu (by omega) he hbt ⟨Nat.le_refl _, by omega⟩ (by decide) S5
  obtain ⟨μ7, e7, b7, w7⟩ := el_C fu hfu (pl + 1) fu 0 0 _ _ 0 none _ _ _ _ _ _ μ6 (EI0 he hpl ho) (by omega) (by omega) (Nat.le_refl _) S6 W6
  refine ⟨μ7, ?_, b7, w5.r.tr (w6.tr w7)⟩
  rw [lt'_e, ← x1, a1.1, hl.1, lt'_e, ← x2, lt'_e, lt'_e, lt'_e, ← x5, f5, nI_1, bd_e e6]
  exact e7
end EC3
