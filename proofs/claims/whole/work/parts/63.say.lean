/-! ENCODING: the reference's bits and rows -/
def RWF (y : Nat) (μ μ' : Mm) : Prop := μ'.2 = μ.2 ∧ (∀ b, b ≠ y → b ≠ y + 8 → b ≠ y + 13 → μ'.1 b = μ.1 b) ∧ ∀ k, (k < 31 ∨ 34 < k) → μ'.1 y k = μ.1 y k
theorem RWF.rf {y : Nat} {μ : Mm} : RWF y μ μ := ⟨rfl, fun _ _ _ _ => rfl, fun _ _ => rfl⟩
theorem RWF.tr {y : Nat} {μ μ1 μ2 : Mm} (h : RWF y μ μ1) (h1 : RWF y μ1 μ2) : RWF y μ μ2 := ⟨h1.1.trans h.1, fun b a c d => (h1.2.1 b a c d).trans (h.2.1 b a c d), fun k hk => (h1.2.2 k hk).trans (h.2.2 k hk)⟩
theorem SFr.w {y : Nat} {μ μ' : Mm} (h : SFr y μ μ') : RWF y μ μ' := ⟨h.1, fun b a c _ => h.2.1 b a c, fun k hk => h.2.2 k (by omega)⟩
theorem RWF.wi {y k : Nat} {v : Int32} {μ : Mm} (h : 31 ≤ k ∧ k ≤ 34) : RWF y μ (si μ y k v) := ⟨rfl, fun b a _ _ => si_b a, fun j hj => si_j (by omega)⟩
theorem RO.si {y a k : Nat} {v : Int32} {S : Ot} {μ : Mm} (h : RO μ y S) (hc : (a = y ∧ k ≠ 31) ∨ (a ≠ y ∧ a ≠ y + 8)) : RO (si μ a k v) y S := by
  obtain ⟨h1, h2, h3, h4⟩ := h
  refine ⟨h1, by rw [si_e (by omega)]; exact h2, fun j hj => ?_, h4⟩
  rw [si_e (by omega)]
  exact h3 j hj
/-- a row goes out -/
theorem sr_l {y a m : Nat} {E : Nf} {S : Ot} (fu : Nat) (hm : m ≤ 255) (hS : S.2 + m < 2 ^ 30 - 1) : ∀ (K i : Nat) (μ : Mm), i ≤ m → m - i < K → μ.2 y 35 = y + 13 → μ.1 y 34 = nI m → (∀ j, j < m → μ.1 (y + 13) j &&& 255 = nI (E (a + j)) ∧ E (a + j) < 256) → RO μ y (rBb E a i S) → ∃ μ', fX10_sayRow_L10 fu K y (nI i) μ = some μ' ∧ RO μ' y (rBb E a m S) ∧ RWF y μ μ' ∧ (μ'.1 y 34 = nI 0 ∧ μ'.1 y 32 = μ.1 y 32 ∧ μ'.1 y 33 = μ.1 y 33) := by
  intro K
  induction K with
  | zero => intro i μ _ h; omega
  | succ K ih =>
    intro i μ hi hK hl h34 hr hO
    show ∃ μ', fX10_sayRow_B10 (fX10_sayRow_L10 fu K) fu y (nI i) μ = some μ' ∧ _
    unfold fX10_sayRow_B10
    rw [h34]
    by_cases q : i = m
    · subst q
      rw [if_pos (nI_le (by omega) (by omega)), lt'_e]
      exact ⟨_, rfl, hO.si (by omega), RWF.wi (by omega), si_k, si_j (by decide), si_j (by decide)⟩
    · obtain ⟨r1, r2⟩ := hr i (by omega)
      have s2 := rBb_2 (E := E) (a := a) (S := S) i
      obtain ⟨μ1, e1, c1, a1⟩ := hO.say (by omega) (μ.1 (y + 13) i)
      rw [emN_I r2 r1] at c1
      rw [if_neg (nI_ge (by omega) (by omega)), r_ib (by omega) (by decide), hl, nI_clamp (by omega), bd_e e1, lt'_e, nI_1]
      obtain ⟨μ', e', c', a', f'⟩ := ih (i + 1) μ1 (by omega) (by omega) (by rw [a1.1]; exact hl) (by rw [a1.2.2 34 (by decide)]; exact h34) (fun j hj => by rw [a1.2.1 _ (by omega) (by omega)]; exact hr j hj) c1
      exact ⟨μ', e', c', a1.w.tr a', f'.1, by rw [f'.2.1, a1.2.2 32 (by decide)], by rw [f'.2.2, a1.2.2 33 (by decide)]⟩
theorem sr_R {y a m : Nat} {E : Nf} {S : Ot} {μ : Mm} (fu : Nat) (hfu : 300 ≤ fu) (hm : m ≤ 255) (hS : S.2 + m < 2 ^ 30 - 2) (hl : μ.2 y 35 = y + 13) (h34 : μ.1 y 34 = nI m) (hr : ∀ j, j < m → μ.1 (y + 13) j &&& 255 = nI (E (a + j)) ∧ E (a + j) < 256) (hO : RO μ y S) : ∃ μ', fX10_sayRow fu y μ = some μ' ∧ RO μ' y (rB E a m S) ∧ RWF y μ μ' ∧ (μ'.1 y 34 = nI 0 ∧ μ'.1 y 32 = μ.1 y 32 ∧ μ'.1 y 33 = μ.1 y 33) := by
  unfold fX10_sayRow
  obtain ⟨μ1, e1, c1, a1⟩ := hO.say (by omega) (nI m)
  rw [emN_n (by omega)] at c1
  rw [h34, bd_e e1]
  obtain ⟨μ', e', c', a', f'⟩ := sr_l (S := emN S m) (E := E) (a := a) fu hm (by show S.2 + 1 + m < _; omega) fu 0 μ1 (by omega) (by omega) (by rw [a1.1]; exact hl) (by rw [a1.2.2 34 (by decide)]; exact h34) (fun j hj => by rw [a1.2.1 _ (by omega) (by omega)]; exact hr j hj) c1
  exact ⟨μ', e', c', a1.w.tr a', f'.1, by rw [f'.2.1, a1.2.2 32 (by decide)], by rw [f'.2.2, a1.2.2 33 (by decide)]⟩
def RWb (y : Nat) (μ : Mm) (S0 : Ot) (b : Bt) : Prop := μ.2 y 35 = y + 13 ∧ RO μ y (rF b.1 S0 (b.2.1 / 255)) ∧ (μ.1 y 34 = nI (b.2.1 % 255) ∧ μ.1 y 32 = nI b.2.2.1 ∧ μ.1 y 33 = nI b.2.2.2) ∧ ∀ j, j < b.2.1 % 255 → μ.1 (y + 13) j &&& 255 = nI (b.1 (255 * (b.2.1 / 255) + j)) ∧ b.1 (255 * (b.2.1 / 255) + j) < 256
theorem rb_l {y : Nat} {S0 : Ot} (fu : Nat) (hfu : 300 ≤ fu) (hS0 : S0.2 ≤ 2000000) : ∀ (f K : Nat) (b : Bt) (μ : Mm), b.2.2.1 < 2 ^ 30 → b.2.2.2 < 8 * (f + 1) → f < K → 8 * b.2.1 + b.2.2.2 ≤ 80000 → RWb y μ S0 b → ∃ μ', fX10_sayBits_L25 fu K y μ = some μ' ∧ RWb y μ' S0 (pcL f b) ∧ RWF y μ μ' := by
  intro f
  induction f with
  | zero =>
    intro K b μ h1 h2 hK h3 h
    obtain ⟨K, rfl⟩ : ∃ K', K = K' + 1 := ⟨K - 1, by omega⟩
    refine ⟨μ, ?_, h, RWF.rf⟩
    show fX10_sayBits_B25 (fX10_sayBits_L25 fu K) fu y μ = _
    unfold fX10_sayBits_B25
    rw [h.2.2.1.2.2, if_pos (show nI b.2.2.2 < 8 from nI_lt (b := 8) (by omega) (by decide))]
  | succ f ih =>
    intro K b μ h1 h2 hK h3 h
    obtain ⟨K, rfl⟩ : ∃ K', K = K' + 1 := ⟨K - 1, by omega⟩
    have er : pcL (f + 1) b = if b.2.2.2 < 8 then b else pcL f (u1 b.1 b.2.1 (b.2.2.1 % 256), b.2.1 + 1, b.2.2.1 / 256, b.2.2.2 - 8) := rfl
    rw [er]
    show ∃ μ', fX10_sayBits_B25 (fX10_sayBits_L25 fu K) fu y μ = some μ' ∧ _
    unfold fX10_sayBits_B25
    obtain ⟨g1, g2, ⟨i34, i32, i33⟩, g4⟩ := h
    rw [i33]
    by_cases q : b.2.2.2 < 8
    · rw [if_pos (show nI b.2.2.2 < 8 from nI_lt (b := 8) q (by decide)), if_pos q]
      exact ⟨μ, rfl, ⟨g1, g2, ⟨i34, i32, i33⟩, g4⟩, RWF.rf⟩
    · rw [if_neg (show ¬ nI b.2.2.2 < 8 from nI_nlt (b := 8) (by omega) (by omega)), if_neg q, i34, r_ib (by omega) (by decide), g1, nI_clamp (by omega), i32, lt'_e, si_b (by omega), i34, nI_1, lt'_e, si_k]
      obtain ⟨ν, eν⟩ : ∃ ν, ν = si (si μ (y + 13) (b.2.1 % 255) (vp_nar .byte (nI b.2.2.1).toInt8.toInt32)) y 34 (nI (b.2.1 % 255 + 1)) := ⟨_, rfl⟩
      rw [← eν]
      have wν : RWF y μ ν := by
        rw [eν]
        exact RWF.tr (μ1 := si μ (y + 13) (b.2.1 % 255) (vp_nar .byte (nI b.2.2.1).toInt8.toInt32)) ⟨rfl, fun b _ _ h => si_b h, fun k _ => by rw [si_b (by omega)]⟩ (RWF.wi (by omega))
      have v34 : ν.1 y 34 = nI (b.2.1 % 255 + 1) := by rw [eν, si_k]
      have v32 : ν.1 y 32 = nI b.2.2.1 := by rw [eν, si_j (by decide), si_b (by omega)]; exact i32
      have v33 : ν.1 y 33 = nI b.2.2.2 := by rw [eν, si_j (by decide), si_b (by omega)]; exact i33
      obtain ⟨E', eE⟩ : ∃ E' : Nf, E' = u1 b.1 b.2.1 (b.2.2.1 % 256) := ⟨_, rfl⟩
      have hdm : 255 * (b.2.1 / 255) + b.2.1 % 255 = b.2.1 := Nat.div_add_mod _ _
      have rows : ∀ j, j < b.2.1 % 255 + 1 → ν.1 (y + 13) j &&& 255 = nI (E' (255 * (b.2.1 / 255) + j)) ∧ E' (255 * (b.2.1 / 255) + j) < 256 := by
        intro j hj
        rw [eν, si_b (by omega), si_r, eE]
        by_cases w : j = b.2.1 % 255
        · rw [w, u1_k, hdm, u1_k, nar_b, b_toB, by8_and, by8_m (by omega)]
          exact ⟨rfl, Nat.mod_lt _ (by decide)⟩
        · rw [u1_j w, u1_j (by omega)]
          exact g4 j (by omega)
      have eF : rF E' S0 (b.2.1 / 255) = rF b.1 S0 (b.2.1 / 255) := by
        rw [eE]
        exact rF_e _ (fun k hk => u1_j (by omega))
      have Oν : RO ν y (rF E' S0 (b.2.1 / 255)) := by
        rw [eF, eν]
        exact RO.si (RO.si g2 (by omega)) (by omega)
      have sF := rF_2 (E := E') (S := S0) (b.2.1 / 255)
      have lν : ν.2 y 35 = y + 13 := by rw [wν.1]; exact g1
      -- behind the row
      have tail : ∀ ω : Mm, RWF y ν ω → RO ω y (rF E' S0 ((b.2.1 + 1) / 255)) → ω.1 y 34 = nI ((b.2.1 + 1) % 255) → ω.1 y 32 = nI b.2.2.1 → ω.1 y 33 = nI b.2.2.2 → (∀ j, j < (b.2.1 + 1) % 255 → ω.1 (y + 13) j &&& 255 = nI (E' (255 * ((b.2.1 + 1) / 255) + j)) ∧ E' (255 * ((b.2.1 + 1) / 255) + j) < 256) → ∃ μ', fX10_sayBits_L72 (fX10_sayBits_L25 fu K) fu y ω = some μ' ∧ RWb y μ' S0 (pcL f (u1 b.1 b.2.1 (b.2.2.1 % 256), b.2.1 + 1, b.2.2.1 / 256, b.2.2.2 - 8)) ∧ RWF y μ μ' := by
        intro ω wω Oω o34 o32 o33 oR
        unfold fX10_sayBits_L72
        rw [o32, ushr8 (by omega), lt'_e, si_j (by decide), o33, show nI b.2.2.2 - 8 = nI (b.2.2.2 - 8) from pk_sub (b := 8) (by omega), lt'_e]
        obtain ⟨τ, eτ⟩ : ∃ τ, τ = si (si ω y 32 (nI (b.2.2.1 / 256))) y 33 (nI (b.2.2.2 - 8)) := ⟨_, rfl⟩
        rw [← eτ]
        have wτ : RWF y ω τ := by rw [eτ]; exact (RWF.wi (by omega)).tr (RWF.wi (by omega))
        have S : RWb y τ S0 (u1 b.1 b.2.1 (b.2.2.1 % 256), b.2.1 + 1, b.2.2.1 / 256, b.2.2.2 - 8) := by
          rw [← eE]
          refine ⟨by rw [wτ.1, wω.1]; exact lν, by rw [eτ]; exact RO.si (RO.si Oω (by omega)) (by omega), ⟨?_, ?_, ?_⟩, fun j hj => ?_⟩
          · rw [eτ, si_j (by decide), si_j (by decide)]; exact o34
          · rw [eτ, si_j (by decide), si_k]
          · rw [eτ, si_k]
          · rw [eτ, si_b (by omega), si_b (by omega)]; exact oR j hj
        obtain ⟨μ', e', S', w'⟩ := ih K _ τ (by show b.2.2.1 / 256 < 2 ^ 30; omega) (by show b.2.2.2 - 8 < _; omega) (by omega) (by show 8 * (b.2.1 + 1) + (b.2.2.2 - 8) ≤ _; omega) S
        exact ⟨μ', e', S', ((wν.tr wω).tr wτ).tr w'⟩
      by_cases q2 : b.2.1 % 255 + 1 = 255
      · rw [if_pos (show nI (b.2.1 % 255 + 1) = 255 by rw [q2]; rfl)]
        obtain ⟨ω, e1, O1, w1, f34, f32, f33⟩ := sr_R (E := E') (a := 255 * (b.2.1 / 255)) (m := 255) fu hfu (by decide) (by rw [sF]; omega) lν (by rw [v34, q2]) (fun j hj => rows j (by omega)) Oν
        rw [bd_e e1]
        have d1 : (b.2.1 + 1) / 255 = b.2.1 / 255 + 1 := by omega
        have d2 : (b.2.1 + 1) % 255 = 0 := by omega
        exact tail ω w1 (by rw [d1]; exact O1) (by rw [d2]; exact f34) (by rw [f32]; exact v32) (by rw [f33]; exact v33) (fun j hj => by omega)
      · rw [if_neg (show ¬ nI (b.2.1 % 255 + 1) = 255 from nI_nl (v := 255) rfl q2 (by omega) (by decide))]
        have d1 : (b.2.1 + 1) / 255 = b.2.1 / 255 := by omega
        have d2 : (b.2.1 + 1) % 255 = b.2.1 % 255 + 1 := by omega
        exact tail ν RWF.rf (by rw [d1]; exact Oν) (by rw [d2]; exact v34) v32 v33 (fun j hj => by rw [d1]; exact rows j (by omega))
theorem rb_R {y c s2 : Nat} {S0 : Ot} {b : Bt} {μ : Mm} (fu : Nat) (hfu : 300 ≤ fu) (hS0 : S0.2 ≤ 2000000) (hb : BtO b) (hc : c < 2 ^ s2) (hs : s2 ≤ 12) (hE : 8 * b.2.1 + b.2.2.2 ≤ 60000) (h : RWb y μ S0 b) : ∃ μ', fX10_sayBits fu y (nI c) (nI s2) μ = some μ' ∧ RWb y μ' S0 (pc b c s2) ∧ RWF y μ μ' := by
  obtain ⟨q1, q2, q3⟩ := pc_in hb hc hs
  have c4 : c < 4096 := by
    have : 2 ^ s2 ≤ 2 ^ 12 := Nat.pow_le_pow_right (by decide) hs
    omega
  obtain ⟨g1, g2, ⟨i34, i32, i33⟩, g4⟩ := h
  unfold fX10_sayBits pc
  have h19 : (2 : Nat) ^ 19 = 524288 := rfl
  rw [i32, i33, shlN c4 hb.2, or_add hb.1 (by omega), lt'_e, si_j (by decide), i33, nI_add, lt'_e]
  obtain ⟨ν, eν⟩ : ∃ ν, ν = si (si μ y 32 (nI (b.2.2.1 + c * 2 ^ b.2.2.2))) y 33 (nI (b.2.2.2 + s2)) := ⟨_, rfl⟩
  rw [← eν]
  have wν : RWF y μ ν := by rw [eν]; exact (RWF.wi (by omega)).tr (RWF.wi (by omega))
  have S : RWb y ν S0 (b.1, b.2.1, b.2.2.1 + c * 2 ^ b.2.2.2, b.2.2.2 + s2) := by
    refine ⟨by rw [wν.1]; exact g1, by rw [eν]; exact RO.si (RO.si g2 (by omega)) (by omega), ⟨?_, ?_, ?_⟩, fun j hj => ?_⟩
    · rw [eν, si_j (by decide), si_j (by decide)]; exact i34
    · rw [eν, si_j (by decide), si_k]
    · rw [eν, si_k]
    · rw [eν, si_b (by omega), si_b (by omega)]; exact g4 j hj
  obtain ⟨μ', e', S', w'⟩ := rb_l fu hfu hS0 3 fu _ ν (by show b.2.2.1 + c * 2 ^ b.2.2.2 < 2 ^ 30; omega) (by show b.2.2.2 + s2 < _; omega) (by omega) (by show 8 * b.2.1 + (b.2.2.2 + s2) ≤ 80000; omega) S
  exact ⟨μ', e', S', wν.tr w'⟩
