/-! WRITING: a FRAME -/
def lb (g : Nat) : Nat := if g ≤ 2 then 0 else if g ≤ 4 then 1 else if g ≤ 8 then 2 else if g ≤ 16 then 3 else if g ≤ 32 then 4 else if g ≤ 64 then 5 else if g ≤ 128 then 6 else 7
def mkB (g : Nat) : Nat := if g = 0 then 0 else 128 + lb g
def le' (g : Nat) : Nat := if lb g = 0 then 2 else lb g + 1
theorem lb_8 {g : Nat} : lb g < 8 := by
  unfold lb
  repeat' split
  all_goals omega
theorem le_o {g : Nat} : 2 ≤ le' g ∧ le' g ≤ 8 := by
  have := lb_8 (g := g)
  unfold le'
  split <;> omega
theorem le_p {g : Nat} (h : tsz g) : g ≤ 2 ^ le' g := by
  rcases h with q | q | q | q | q | q | q | q | q <;> subst q <;> decide
theorem bo_l {g : Nat} (fu : Nat) (hg : g ≤ 256) : ∀ (K i : Nat), i ≤ lb g → lb g - i < K → fX10_bitsOf_L2 fu K (nI g) (nI i) = some (nI (lb g)) := by
  have s2 : ∀ i, i < 8 → ((2 : Int32) <<< (nI i &&& 31)) = nI (2 ^ (i + 1)) := by decide +kernel
  have l8 := lb_8 (g := g)
  intro K
  induction K with
  | zero => intro i _ h; omega
  | succ K ih =>
    intro i hi hK
    show fX10_bitsOf_B2 (fX10_bitsOf_L2 fu K) fu (nI g) (nI i) = _
    unfold fX10_bitsOf_B2
    rw [s2 i (by omega)]
    have hp : 2 ^ (i + 1) ≤ 2 ^ 8 := Nat.pow_le_pow_right (by decide) (by omega)
    by_cases q : i = lb g
    · have : g ≤ 2 ^ (i + 1) := by
        rw [q]
        unfold lb
        repeat' split
        all_goals omega
      rw [if_pos (nI_le this (by omega)), q]
    · have : ¬ g ≤ 2 ^ (i + 1) := by
        have hlt : i < lb g := by omega
        intro hc
        have e : i = 0 ∨ i = 1 ∨ i = 2 ∨ i = 3 ∨ i = 4 ∨ i = 5 ∨ i = 6 := by omega
        unfold lb at hlt
        rcases e with rfl | rfl | rfl | rfl | rfl | rfl | rfl
        all_goals (simp only [Nat.zero_add, Nat.reduceAdd, Nat.reducePow] at hc)
        all_goals (repeat' split at hlt)
        all_goals omega
      rw [if_neg (nI_ge (by omega) (by omega)), lt'_e, nI_1]
      exact ih (i + 1) (by omega) (by omega)
theorem bo_R {g : Nat} (fu : Nat) (hfu : 10 ≤ fu) (hg : g ≤ 256) : fX10_bitsOf fu (nI g) = some (nI (lb g)) := bo_l fu hg fu 0 (by omega) (by have := lb_8 (g := g); omega)
theorem pw_C {g : Nat} (h : tsz g) (h0 : g ≠ 0) : fJ6_numberOfTrailingZeros_0f7a4 (nI g) = nI (lb g + 1) := by
  rcases h with q | q | q | q | q | q | q | q | q
  · exact absurd q h0
  all_goals (subst q; decide +kernel)
theorem mk_C {T g : Nat} {μ : Mm} (h : tsz g) (h1 : μ.1 T 1 = nI g) : fX7_mark T μ = nI (mkB g) := by
  have hg := tsz_le h
  unfold fX7_mark fX7_power mkB
  rw [h1]
  by_cases q : g = 0
  · rw [if_pos (show nI g = 0 by rw [q]; rfl), if_pos q]; rfl
  · rw [if_neg (nI_ne0 (by omega) (by omega)), if_neg q, pw_C h q, lt'_e, lt'_e, show (128 : Int32) + nI (lb g + 1) = nI (128 + (lb g + 1)) from nI_add 128 _]
    exact pk_sub (b := 1) (by omega)
theorem mk_R {g il : Nat} (h : tsz g) (hil : il ≤ 1) : ((if nI g ≤ 0 then (0 : Int32) else 128) ||| (nI il <<< ((6 : Int32) &&& 31))) ||| nI (lb g) = nI (mkB g + 64 * il) := by
  have e : il = 0 ∨ il = 1 := by omega
  rcases e with rfl | rfl <;> rcases h with q | q | q | q | q | q | q | q | q <;> subst q <;> decide +kernel
theorem cb_e {d i : Nat} (hd : d < 8) (hi : i ≤ 1) : ((nI d <<< ((2 : Int32) &&& 31)) ||| (if nI i = 0 then (0 : Int32) else 2)) = ((nI d <<< ((2 : Int32) &&& 31)) ||| (nI i <<< ((1 : Int32) &&& 31))) := by
  have e : i = 0 ∨ i = 1 := by omega
  rcases e with rfl | rfl
  · rfl
  · rfl
def cbI (P : Pic) (f : Nat) : Int32 := ((nI (fx P f 6) <<< ((2 : Int32) &&& 31)) ||| (nI (fx P f 9) <<< ((1 : Int32) &&& 31))) ||| (if tr P f = -1 then 0 else 1)
def ctlL (P : Pic) (f : Nat) : List Int32 := [33, 249, 4, cbI P f, nI (fx P f 8), nI (fx P f 8) >>> ((8 : Int32) &&& 31), (if tr P f = -1 then 0 else tr P f), 0]
def imgL (P : Pic) (f : Nat) : List Int32 := [44, nI (fx P f 0), nI (fx P f 0) >>> ((8 : Int32) &&& 31), nI (fx P f 1), nI (fx P f 1) >>> ((8 : Int32) &&& 31), nI (fx P f 2), nI (fx P f 2) >>> ((8 : Int32) &&& 31), nI (fx P f 3), nI (fx P f 3) >>> ((8 : Int32) &&& 31), nI (mkB (fx P f 4) + 64 * fx P f 5)]
def oF (P : Pic) (f : Nat) : Nf := fun k => ix P f (plM (fx P f 2) (fx P f 3) (fx P f 5) k)
def eFr (P : Pic) (f : Nat) (S : Ot) : Ot := rEnd (eA (oF P f) (fx P f 2 * fx P f 3) (le' (tbs P f))).1 (eA (oF P f) (fx P f 2 * fx P f 3) (le' (tbs P f))).2.1 (emI (emT (lt P f) (fx P f 4) (emL (emL S (ctlL P f)) (imgL P f))) (nI (le' (tbs P f))))
theorem emL_2 : ∀ (l : List Int32) (S : Ot), (emL S l).2 = S.2 + l.length := by
  intro l
  induction l with
  | nil => intro S; rfl
  | cons v vs ih =>
    intro S
    show (emL (emI S v) vs).2 = _
    rw [ih, emI_2, List.length_cons]
    omega
theorem rEnd_2 {E : Nf} {ec : Nat} {S : Ot} : S.2 < (rEnd E ec S).2 ∧ (rEnd E ec S).2 ≤ S.2 + ec + ec / 255 + 2 := by
  unfold rEnd
  have h1 := rF_2 (E := E) (S := S) (ec / 255)
  split
  · show _ < (rF E S (ec / 255)).2 + 1 ∧ (rF E S (ec / 255)).2 + 1 ≤ _
    omega
  · have h2 := rB_2 (E := E) (a := 255 * (ec / 255)) (m := ec % 255) (S := rF E S (ec / 255))
    show _ < (rB E (255 * (ec / 255)) (ec % 255) (rF E S (ec / 255))).2 + 1 ∧ (rB E (255 * (ec / 255)) (ec % 255) (rF E S (ec / 255))).2 + 1 ≤ _
    omega
theorem oF_lt {P : Pic} {f : Nat} (hV : VP P) (hf : f < hd P 5) : ∀ k, k < fx P f 2 * fx P f 3 → oF P f k < 2 ^ le' (tbs P f) := by
  intro k hk
  have v := hV.2.2.2.2.2 f hf
  have h1 := v.2.2.2.2.2 _ (plM_lt (il := fx P f 5) hk)
  have h2 : tsz (tbs P f) := by
    unfold tbs
    split
    · exact hV.2.1
    · exact v.2.1
  have h3 := le_p h2
  show ix P f _ < _
  omega
theorem tbs_z {P : Pic} {f : Nat} (hV : VP P) (hf : f < hd P 5) : tsz (tbs P f) ∧ tbs P f ≠ 0 := by
  have v := hV.2.2.2.2.2 f hf
  refine ⟨?_, v.2.2.2.2.1⟩
  unfold tbs
  split
  · exact hV.2.1
  · exact v.2.1
theorem eFr_2 {P : Pic} {f : Nat} {S : Ot} (hV : VP P) (hf : f < hd P 5) : S.2 < (eFr P f S).2 ∧ (eFr P f S).2 ≤ S.2 + 8000 := by
  have v := hV.2.2.2.2.2 f hf
  have v1 := v.1
  have v2 := hV.1
  have bwh := Nat.mul_le_mul (show fx P f 2 ≤ 64 by omega) (show fx P f 3 ≤ 64 by omega)
  have hb := eA_b (o := oF P f) (pl := fx P f 2 * fx P f 3) (e := le' (tbs P f)) le_o (by omega) (oF_lt hV hf)
  unfold eFr
  have h1 := rEnd_2 (E := (eA (oF P f) (fx P f 2 * fx P f 3) (le' (tbs P f))).1) (ec := (eA (oF P f) (fx P f 2 * fx P f 3) (le' (tbs P f))).2.1) (S := emI (emT (lt P f) (fx P f 4) (emL (emL S (ctlL P f)) (imgL P f))) (nI (le' (tbs P f))))
  rw [emI_2, emT_2, emL_2, emL_2] at h1
  have l1 : (ctlL P f).length = 8 := rfl
  have l2 : (imgL P f).length = 10 := rfl
  have h4 := tsz_le v.2.1
  rw [l1, l2] at h1
  omega
/-! the class -/
theorem to_loop {F q O w h il : Nat} (fu : Nat) (hfu : 10 ≤ fu) (hil : il ≤ 1) (hw : 1 ≤ w ∧ w ≤ 64) (hh : h ≤ 64) (hOF : O ≠ F) (hqO : q ≠ O) : ∀ (K i : Nat) (μ : Mm), i ≤ h → h - i < K → μ.2 F 7 = q → (μ.1 F 2 = nI w ∧ μ.1 F 3 = nI h ∧ μ.1 F 4 = nI il) → (∀ k, k < w * i → μ.1 O k = μ.1 q (plM w h il k)) → ∃ μ', fX3_toStreamOrder_L2 fu K F O (nI i) μ = some μ' ∧ Ag μ μ' O (O + 1) ∧ (∀ k, k < w * h → μ'.1 O k = μ.1 q (plM w h il k)) := by
  have b := Nat.mul_le_mul hw.2 hh
  intro K
  induction K with
  | zero => intro i μ h1 h2; omega
  | succ K ih =>
    intro i μ h1 h2 hl hF hk
    show ∃ μ', fX3_toStreamOrder_B2 (fX3_toStreamOrder_L2 fu K) fu F O (nI i) μ = some μ' ∧ _
    unfold fX3_toStreamOrder_B2
    rw [hF.2.1, hF.1]
    by_cases qe : i = h
    · subst qe
      rw [if_pos (nI_le (Nat.le_refl _) (by omega))]
      exact ⟨μ, rfl, Ag.rf, hk⟩
    · have hi : i < h := by omega
      have ll := lnO_lt (il := il) hi
      have m1 : w * (i + 1) ≤ w * h := Nat.mul_le_mul_left _ hi
      have m2 : w * (lnO h il i + 1) ≤ w * h := Nat.mul_le_mul_left _ ll
      rw [Nat.mul_add, Nat.mul_one] at m1 m2
      rw [if_neg (nI_ge hi (by omega)), bd_e (line_C fu hfu hF.2.2 hF.2.1 hil hh hi), pk_mul, pk_mul, Nat.mul_comm i w, Nat.mul_comm (lnO h il i) w, r_cpk (by omega) (by omega) (by decide) (by decide), hl, nI_clamp (by omega), nI_clamp (by omega), nI_clamp (by omega), lt'_e, lt'_e, nI_1]
      obtain ⟨ν, eν⟩ : ∃ ν, ν = sa μ O (va_cpy (μ.1 q) (μ.1 O) (w * lnO h il i) (w * i) w) := ⟨_, rfl⟩
      rw [← eν]
      have nb : ∀ b, b ≠ O → ν.1 b = μ.1 b := fun b hb => by rw [eν, sa_b hb]
      have nO : ν.1 O = va_cpy (μ.1 q) (μ.1 O) (w * lnO h il i) (w * i) w := by rw [eν, sa_a]
      have aν : Ag μ ν O (O + 1) := by rw [eν]; exact Ag.wa (by omega) (by omega)
      obtain ⟨μ', e', a', g'⟩ := ih (i + 1) ν hi (by omega) (by rw [aν.1]; exact hl) (by rw [nb F (fun w => hOF w.symm)]; exact hF) (fun k hk2 => by
        rw [nb q hqO, nO]
        rw [Nat.mul_add, Nat.mul_one] at hk2
        by_cases w1 : k < w * i
        · rw [pk_cpy_out (by omega)]
          exact hk k w1
        · have kd : k / w = i := by
            have e := dm_div (w := w) (q := i) (r := k - w * i) (by omega)
            rw [show w * i + (k - w * i) = k by omega] at e
            exact e.1
          have dm := Nat.div_add_mod k w
          rw [kd] at dm
          unfold plM
          rw [kd, pk_cpy_in (by omega) (by omega)]
          rw [show w * lnO h il i + (k - w * i) = w * lnO h il i + k % w by omega])
      refine ⟨μ', e', aν.tr a', fun k hk2 => ?_⟩
      rw [g' k hk2, nb q hqO]
