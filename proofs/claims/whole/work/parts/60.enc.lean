/-! ENCODING: the class -/
def WSl (n : Nat) (μ : Mm) : Prop := μ.2 (n + 264) 0 = n + 265 ∧ μ.2 (n + 264) 1 = n + 267 ∧ μ.2 (n + 264) 2 = n + 268 ∧ μ.2 (n + 264) 3 = n + 269 ∧ μ.2 (n + 264) 4 = n + 270
def WSi (n : Nat) (μ : Mm) (e nx sz : Nat) (fm : Option Nat) (a : Nat) (b : Bt) : Prop := μ.1 (n + 264) 5 = nI e ∧ μ.1 (n + 264) 6 = nI sz ∧ μ.1 (n + 264) 7 = nI nx ∧ μ.1 (n + 264) 8 = fmI fm ∧ μ.1 (n + 264) 9 = nI a ∧ μ.1 (n + 264) 10 = nI b.2.2.1 ∧ μ.1 (n + 264) 11 = nI b.2.2.2
def WSf (n : Nat) (μ : Mm) (e pl : Nat) (o : Nf) (a nx sz : Nat) (fm : Option Nat) (b : Bt) : Prop := WSl n μ ∧ (∀ k, k < pl → μ.1 (n + 267) k = nI (o k)) ∧ BR μ (n + 265) b.1 b.2.1 0 ∧ WSi n μ e nx sz fm a b
def WTc (n : Nat) (μ : Mm) (e nx : Nat) (ch : Nl) (T : Nf) : Prop := WTr (μ.1 (n + 268)) (μ.1 (n + 269)) e nx ch ∧ ∀ x, 2 ^ e + 2 ≤ x → x < nx → μ.1 (n + 270) x = nI (T x)
def WFr (n : Nat) (μ μ' : Mm) : Prop := μ'.2 = μ.2 ∧ ∀ b, (b < n + 264 ∨ b = n + 267 ∨ n + 271 ≤ b) → μ'.1 b = μ.1 b
def WF3 (n : Nat) (μ μ' : Mm) : Prop := μ'.2 = μ.2 ∧ ∀ b, (b < n + 264 ∨ n + 267 ≤ b) → μ'.1 b = μ.1 b
theorem WFr.rf {n : Nat} {μ : Mm} : WFr n μ μ := ⟨rfl, fun _ _ => rfl⟩
theorem WF3.rf {n : Nat} {μ : Mm} : WF3 n μ μ := ⟨rfl, fun _ _ => rfl⟩
theorem WFr.tr {n : Nat} {μ μ1 μ2 : Mm} (h : WFr n μ μ1) (h1 : WFr n μ1 μ2) : WFr n μ μ2 := ⟨h1.1.trans h.1, fun b hb => (h1.2 b hb).trans (h.2 b hb)⟩
theorem WF3.tr {n : Nat} {μ μ1 μ2 : Mm} (h : WF3 n μ μ1) (h1 : WF3 n μ1 μ2) : WF3 n μ μ2 := ⟨h1.1.trans h.1, fun b hb => (h1.2 b hb).trans (h.2 b hb)⟩
theorem WF3.r {n : Nat} {μ μ' : Mm} (h : WF3 n μ μ') : WFr n μ μ' := ⟨h.1, fun b hb => h.2 b (by omega)⟩
theorem Ag.w3 {n lo hi : Nat} {μ μ' : Mm} (h : Ag μ μ' lo hi) (h1 : n + 264 ≤ lo) (h2 : hi ≤ n + 267) : WF3 n μ μ' := ⟨h.1, fun b hb => h.2 b (by omega)⟩
theorem WTc.w3 {n e nx : Nat} {ch : Nl} {T : Nf} {μ μ' : Mm} (h : WTc n μ e nx ch T) (hf : WF3 n μ μ') : WTc n μ' e nx ch T := by
  unfold WTc
  rw [hf.2 (n + 268) (by omega), hf.2 (n + 269) (by omega), hf.2 (n + 270) (by omega)]
  exact h
/-- a field of the writer of codes is written -/
theorem WSf.si {n e pl a nx sz k e' a' nx' sz' : Nat} {o : Nf} {fm fm' : Option Nat} {b b' : Bt} {v : Int32} {μ : Mm} (h : WSf n μ e pl o a nx sz fm b) (hi : WSi n (si μ (n + 264) k v) e' nx' sz' fm' a' b') (hb : b'.1 = b.1 ∧ b'.2.1 = b.2.1) : WSf n (si μ (n + 264) k v) e' pl o a' nx' sz' fm' b' := by
  obtain ⟨h1, h2, h3, h4⟩ := h
  refine ⟨h1, fun k hk => by rw [si_b (by omega)]; exact h2 k hk, ?_, hi⟩
  rw [hb.1, hb.2]
  exact h3.ag (Ag.wi (lo := n + 264) (hi := n + 265) (by omega) (by omega)) (by omega)
section EC
variable {n e pl : Nat} {o : Nf}
theorem wc_l {a nx sz : Nat} {fm : Option Nat} (fu : Nat) : ∀ (f K : Nat) (b : Bt) (μ : Mm), b.2.2.1 < 2 ^ 30 → b.2.2.2 < 8 * (f + 1) → f < K → 8 * b.2.1 + b.2.2.2 ≤ 80000 → WSf n μ e pl o a nx sz fm b → ∃ μ', fX2_putCode_L25 fu K (n + 264) μ = some μ' ∧ WSf n μ' e pl o a nx sz fm (pcL f b) ∧ WF3 n μ μ' := by
  intro f
  induction f with
  | zero =>
    intro K b μ h1 h2 hK h3 h
    obtain ⟨K, rfl⟩ : ∃ K', K = K' + 1 := ⟨K - 1, by omega⟩
    refine ⟨μ, ?_, h, WF3.rf⟩
    show fX2_putCode_B25 (fX2_putCode_L25 fu K) fu (n + 264) μ = _
    unfold fX2_putCode_B25
    rw [h.2.2.2.2.2.2.2.2.2, if_pos (show nI b.2.2.2 < 8 from nI_lt (b := 8) (by omega) (by decide))]
  | succ f ih =>
    intro K b μ h1 h2 hK h3 h
    obtain ⟨K, rfl⟩ : ∃ K', K = K' + 1 := ⟨K - 1, by omega⟩
    have er : pcL (f + 1) b = if b.2.2.2 < 8 then b else pcL f (u1 b.1 b.2.1 (b.2.2.1 % 256), b.2.1 + 1, b.2.2.1 / 256, b.2.2.2 - 8) := rfl
    rw [er]
    show ∃ μ', fX2_putCode_B25 (fX2_putCode_L25 fu K) fu (n + 264) μ = some μ' ∧ _
    unfold fX2_putCode_B25
    obtain ⟨g1, g2, g3, i5, i6, i7, i8, i9, i10, i11⟩ := h
    rw [i11]
    by_cases q : b.2.2.2 < 8
    · rw [if_pos (show nI b.2.2.2 < 8 from nI_lt (b := 8) q (by decide)), if_pos q]
      exact ⟨μ, rfl, ⟨g1, g2, g3, i5, i6, i7, i8, i9, i10, i11⟩, WF3.rf⟩
    · rw [if_neg (show ¬ nI b.2.2.2 < 8 from nI_nlt (b := 8) (by omega) (by omega)), if_neg q, g1.1, i10]
      obtain ⟨μ1, e1, b1, a1⟩ := g3.add (v := nI b.2.2.1) (by omega)
      rw [by8_m (by omega)] at b1
      have y4 : μ1.1 (n + 264) = μ.1 (n + 264) := a1.2 _ (by omega)
      rw [bd_e e1, y4, i10, pk_shrN (by omega) _ 8 (by decide), show (2 : Nat) ^ 8 = 256 from rfl, lt'_e, si_j (by decide), y4, i11, show nI b.2.2.2 - 8 = nI (b.2.2.2 - 8) from pk_sub (b := 8) (by omega), lt'_e]
      obtain ⟨ν, eν⟩ : ∃ ν, ν = si (si μ1 (n + 264) 10 (nI (b.2.2.1 / 256))) (n + 264) 11 (nI (b.2.2.2 - 8)) := ⟨_, rfl⟩
      rw [← eν]
      have a2 : Ag μ1 ν (n + 264) (n + 265) := by rw [eν]; exact (Ag.wi (by omega) (by omega)).nsi (by omega) (by omega)
      have fo : ∀ k, k ≠ 10 → k ≠ 11 → ν.1 (n + 264) k = μ.1 (n + 264) k := fun k h1 h2 => by rw [eν, si_j h2, si_j h1, y4]
      have w3 : WF3 n μ ν := (a1.w3 (by omega) (by omega)).tr (a2.w3 (by omega) (by omega))
      have S : WSf n ν e pl o a nx sz fm (u1 b.1 b.2.1 (b.2.2.1 % 256), b.2.1 + 1, b.2.2.1 / 256, b.2.2.2 - 8) := by
        refine ⟨by unfold WSl; rw [w3.1]; exact g1, fun k hk => by rw [w3.2 _ (by omega)]; exact g2 k hk, b1.ag a2 (by omega), ?_, ?_, ?_, ?_, ?_, ?_, ?_⟩
        · rw [fo 5 (by decide) (by decide)]; exact i5
        · rw [fo 6 (by decide) (by decide)]; exact i6
        · rw [fo 7 (by decide) (by decide)]; exact i7
        · rw [fo 8 (by decide) (by decide)]; exact i8
        · rw [fo 9 (by decide) (by decide)]; exact i9
        · rw [eν, si_j (by decide), si_k]
        · rw [eν, si_k]
      obtain ⟨μ', e', S', w'⟩ := ih K _ ν (by show b.2.2.1 / 256 < 2 ^ 30; omega) (by show b.2.2.2 - 8 < _; omega) (by omega) (by show 8 * (b.2.1 + 1) + (b.2.2.2 - 8) ≤ _; omega) S
      exact ⟨μ', e', S', w3.tr w'⟩
theorem wc_C {a nx sz c s2 : Nat} {fm : Option Nat} {b : Bt} {μ : Mm} (fu : Nat) (hfu : 10 ≤ fu) (hb : BtO b) (hc : c < 2 ^ s2) (hs : s2 ≤ 12) (hE : 8 * b.2.1 + b.2.2.2 ≤ 60000) (h : WSf n μ e pl o a nx sz fm b) : ∃ μ', fX2_putCode fu (n + 264) (nI c) (nI s2) μ = some μ' ∧ WSf n μ' e pl o a nx sz fm (pc b c s2) ∧ WF3 n μ μ' := by
  obtain ⟨q1, q2, q3⟩ := pc_in hb hc hs
  have c4 : c < 4096 := by
    have : 2 ^ s2 ≤ 2 ^ 12 := Nat.pow_le_pow_right (by decide) hs
    omega
  have h' := h
  obtain ⟨g1, g2, g3, i5, i6, i7, i8, i9, i10, i11⟩ := h
  unfold fX2_putCode pc
  have h19 : (2 : Nat) ^ 19 = 524288 := rfl
  rw [i10, i11, shlN c4 hb.2, or_add hb.1 (by omega), lt'_e, si_j (by decide), i11, nI_add, lt'_e]
  obtain ⟨ν, eν⟩ : ∃ ν, ν = si (si μ (n + 264) 10 (nI (b.2.2.1 + c * 2 ^ b.2.2.2))) (n + 264) 11 (nI (b.2.2.2 + s2)) := ⟨_, rfl⟩
  rw [← eν]
  have a2 : Ag μ ν (n + 264) (n + 265) := by rw [eν]; exact (Ag.wi (by omega) (by omega)).nsi (by omega) (by omega)
  have fo : ∀ k, k ≠ 10 → k ≠ 11 → ν.1 (n + 264) k = μ.1 (n + 264) k := fun k h1 h2 => by rw [eν, si_j h2, si_j h1]
  have S : WSf n ν e pl o a nx sz fm (b.1, b.2.1, b.2.2.1 + c * 2 ^ b.2.2.2, b.2.2.2 + s2) := by
    refine ⟨by unfold WSl; rw [a2.1]; exact g1, fun k hk => by rw [a2.2 _ (by omega)]; exact g2 k hk, g3.ag a2 (by omega), ?_, ?_, ?_, ?_, ?_, ?_, ?_⟩
    · rw [fo 5 (by decide) (by decide)]; exact i5
    · rw [fo 6 (by decide) (by decide)]; exact i6
    · rw [fo 7 (by decide) (by decide)]; exact i7
    · rw [fo 8 (by decide) (by decide)]; exact i8
    · rw [fo 9 (by decide) (by decide)]; exact i9
    · rw [eν, si_j (by decide), si_k]
    · rw [eν, si_k]
  obtain ⟨μ', e', S', w'⟩ := wc_l fu 3 fu _ ν (by show b.2.2.1 + c * 2 ^ b.2.2.2 < 2 ^ 30; omega) (by show b.2.2.2 + s2 < _; omega) (by omega) (by show 8 * b.2.1 + (b.2.2.2 + s2) ≤ 80000; omega) S
  exact ⟨μ', e', S', (a2.w3 (by omega) (by omega)).tr w'⟩
/-- CLEAR: no row has children -/
theorem cl_l {a nx sz : Nat} {fm : Option Nat} {b : Bt} (fu : Nat) (he : e ≤ 8) : ∀ (K i : Nat) (μ : Mm), i ≤ 2 ^ e → 2 ^ e - i < K → WSf n μ e pl o a nx sz fm b → (∀ x, x < i → μ.1 (n + 268) x = m1) → ∃ μ', fX2_putClear_L15 fu K (n + 264) (nI (2 ^ e)) (nI i) μ = some μ' ∧ WSf n μ' e pl o a (2 ^ e + 2) (e + 1) none b ∧ (∀ x, x < 2 ^ e → μ'.1 (n + 268) x = m1) ∧ WFr n μ μ' := by
  have h2e := two_e he
  intro K
  induction K with
  | zero => intro i μ _ h; omega
  | succ K ih =>
    intro i μ hi hK h hx
    show ∃ μ', fX2_putClear_B15 (fX2_putClear_L15 fu K) fu (n + 264) (nI (2 ^ e)) (nI i) μ = some μ' ∧ _
    unfold fX2_putClear_B15
    have h' := h
    obtain ⟨g1, g2, g3, i5, i6, i7, i8, i9, i10, i11⟩ := h
    by_cases q : i = 2 ^ e
    · rw [if_pos (nI_le (by omega) (by omega)), i5, nI_1, lt'_e, show nI (2 ^ e) + 2 = nI (2 ^ e + 2) from nI_add _ 2, lt'_e, lt'_e]
      obtain ⟨ν, eν⟩ : ∃ ν, ν = si (si (si μ (n + 264) 6 (nI (e + 1))) (n + 264) 7 (nI (2 ^ e + 2))) (n + 264) 8 (-1) := ⟨_, rfl⟩
      rw [← eν]
      have a2 : Ag μ ν (n + 264) (n + 265) := by rw [eν]; exact ((Ag.wi (by omega) (by omega)).nsi (by omega) (by omega)).nsi (by omega) (by omega)
      have fo : ∀ k, k ≠ 6 → k ≠ 7 → k ≠ 8 → ν.1 (n + 264) k = μ.1 (n + 264) k := fun k h1 h2 h3 => by rw [eν, si_j h3, si_j h2, si_j h1]
      refine ⟨ν, rfl, ⟨by unfold WSl; rw [a2.1]; exact g1, fun k hk => by rw [a2.2 _ (by omega)]; exact g2 k hk, g3.ag a2 (by omega), ?_, ?_, ?_, ?_, ?_, ?_, ?_⟩, fun x hx2 => by rw [a2.2 _ (by omega)]; exact hx x (by omega), (a2.w3 (by omega) (by omega)).r⟩
      · rw [fo 5 (by decide) (by decide) (by decide)]; exact i5
      · rw [eν, si_j (by decide), si_j (by decide), si_k]
      · rw [eν, si_j (by decide), si_k]
      · rw [eν, si_k]; rfl
      · rw [fo 9 (by decide) (by decide) (by decide)]; exact i9
      · rw [fo 10 (by decide) (by decide) (by decide)]; exact i10
      · rw [fo 11 (by decide) (by decide) (by decide)]; exact i11
    · rw [if_neg (nI_ge (by omega) (by omega)), r_ib (by omega) (by decide), g1.2.2.1, nI_clamp (by omega), lt'_e, lt'_e, nI_1]
      obtain ⟨ν, eν⟩ : ∃ ν, ν = si μ (n + 268) i (-1) := ⟨_, rfl⟩
      rw [← eν]
      have a2 : Ag μ ν (n + 268) (n + 269) := by rw [eν]; exact Ag.wi (by omega) (by omega)
      have S : WSf n ν e pl o a nx sz fm b := by
        refine ⟨by unfold WSl; rw [a2.1]; exact g1, fun k hk => by rw [a2.2 _ (by omega)]; exact g2 k hk, g3.ag a2 (by omega), ?_⟩
        unfold WSi
        rw [a2.2 (n + 264) (by omega)]
        exact ⟨i5, i6, i7, i8, i9, i10, i11⟩
      obtain ⟨μ', e', S', x', w'⟩ := ih (i + 1) ν (by omega) (by omega) S (fun x hx2 => by
        rw [eν, si_r]
        by_cases w : x = i
        · rw [w, u1_k]; rfl
        · rw [u1_j w]; exact hx x (by omega))
      exact ⟨μ', e', S', x', WFr.tr ⟨a2.1, fun b hb => a2.2 b (by omega)⟩ w'⟩
theorem pcl_C {a nx sz s2 : Nat} {fm : Option Nat} {b : Bt} {T : Nf} {μ : Mm} (fu : Nat) (hfu : 300 ≤ fu) (he : 2 ≤ e ∧ e ≤ 8) (hb : BtO b) (hs : e + 1 ≤ s2 ∧ s2 ≤ 12) (hE : 8 * b.2.1 + b.2.2.2 ≤ 60000) (h : WSf n μ e pl o a nx sz fm b) : ∃ μ', fX2_putClear fu (n + 264) (nI s2) μ = some μ' ∧ WSf n μ' e pl o a (2 ^ e + 2) (e + 1) none (pc b (2 ^ e) s2) ∧ WTc n μ' e (2 ^ e + 2) (fun _ => []) T ∧ WFr n μ μ' := by
  have h2e := two_e he.2
  obtain ⟨μ1, e1, S1, w1⟩ := wc_C (c := 2 ^ e) (s2 := s2) fu (by omega) hb (Nat.pow_lt_pow_right (by decide) (by omega)) hs.2 hE h
  obtain ⟨μ2, e2, S2, x2, w2⟩ := cl_l fu he.2 fu 0 μ1 (Nat.zero_le _) (by omega) S1 (fun x hx => by omega)
  refine ⟨μ2, ?_, S2, ⟨WTr.clr x2, fun x h1 h2 => by omega⟩, w1.r.tr w2⟩
  unfold fX2_putClear
  rw [h.2.2.2.1, shl1 e (by omega), lt'_e, bd_e e1]
  exact e2
end EC
