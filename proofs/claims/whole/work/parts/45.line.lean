/-! lines in the order of a stream -/
def lnM (h k : Nat) : Nat := if k < (h + 7) / 8 then 8 * k else if k < (h + 7) / 8 + (h + 3) / 8 then 4 + 8 * (k - (h + 7) / 8) else if k < (h + 7) / 8 + (h + 3) / 8 + (h + 1) / 4 then 2 + 4 * (k - (h + 7) / 8 - (h + 3) / 8) else 1 + 2 * (k - (h + 7) / 8 - (h + 3) / 8 - (h + 1) / 4)
def lnO (h il k : Nat) : Nat := if il = 0 then k else lnM h k
def plM (w h il k : Nat) : Nat := w * lnO h il (k / w) + k % w
theorem ln_sum (h : Nat) : (h + 7) / 8 + (h + 3) / 8 + (h + 1) / 4 + h / 2 = h := by omega
theorem lnM_lt {h k : Nat} (hk : k < h) : lnM h k < h := by
  have := ln_sum h
  unfold lnM
  split
  · omega
  · split
    · omega
    · split <;> omega
theorem lnM_inj {h a b : Nat} (ha : a < h) (hb : b < h) (e : lnM h a = lnM h b) : a = b := by
  have := ln_sum h
  unfold lnM at e
  split at e
  · split at e
    · omega
    · split at e
      · omega
      · split at e <;> omega
  · split at e
    · split at e
      · omega
      · split at e
        · omega
        · split at e <;> omega
    · split at e
      · split at e
        · omega
        · split at e
          · omega
          · split at e <;> omega
      · split at e
        · omega
        · split at e
          · omega
          · split at e <;> omega
theorem lnM_sur {h l : Nat} (hl : l < h) : ∃ k, k < h ∧ lnM h k = l := by
  have := ln_sum h
  have h8 : l % 8 = 0 ∨ l % 8 = 4 ∨ l % 4 = 2 ∨ l % 2 = 1 := by omega
  rcases h8 with q | q | q | q
  · refine ⟨l / 8, by omega, ?_⟩
    unfold lnM
    rw [if_pos (by omega)]
    omega
  · refine ⟨(h + 7) / 8 + l / 8, by omega, ?_⟩
    unfold lnM
    rw [if_neg (by omega), if_pos (by omega)]
    omega
  · refine ⟨(h + 7) / 8 + (h + 3) / 8 + l / 4, by omega, ?_⟩
    unfold lnM
    rw [if_neg (by omega), if_neg (by omega), if_pos (by omega)]
    omega
  · refine ⟨(h + 7) / 8 + (h + 3) / 8 + (h + 1) / 4 + l / 2, by omega, ?_⟩
    unfold lnM
    rw [if_neg (by omega), if_neg (by omega), if_neg (by omega)]
    omega
theorem lnO_lt {h il k : Nat} (hk : k < h) : lnO h il k < h := by
  unfold lnO; split
  · exact hk
  · exact lnM_lt hk
theorem lnO_inj {h il a b : Nat} (ha : a < h) (hb : b < h) (e : lnO h il a = lnO h il b) : a = b := by
  unfold lnO at e
  split at e
  · exact e
  · exact lnM_inj ha hb e
theorem lnO_sur {h il l : Nat} (hl : l < h) : ∃ k, k < h ∧ lnO h il k = l := by
  unfold lnO
  split
  · exact ⟨l, hl, rfl⟩
  · exact lnM_sur hl
theorem div_lt {w h k : Nat} (hk : k < w * h) : k / w < h ∧ k % w < w := by
  have hw : 0 < w := by
    rcases Nat.eq_zero_or_pos w with q | q
    · subst q; omega
    · exact q
  exact ⟨Nat.div_lt_of_lt_mul hk, Nat.mod_lt _ hw⟩
theorem dm_in {w h q r : Nat} (hq : q < h) (hr : r < w) : w * q + r < w * h := by
  have : w * (q + 1) ≤ w * h := Nat.mul_le_mul_left _ hq
  rw [Nat.mul_add] at this
  omega
theorem dm_div {w q r : Nat} (hr : r < w) : (w * q + r) / w = q ∧ (w * q + r) % w = r := by
  refine ⟨?_, ?_⟩
  · rw [Nat.mul_add_div (by omega), Nat.div_eq_of_lt hr]; omega
  · rw [Nat.mul_add_mod, Nat.mod_eq_of_lt hr]
theorem plM_lt {w h il k : Nat} (hk : k < w * h) : plM w h il k < w * h := dm_in (lnO_lt (div_lt hk).1) (div_lt hk).2
theorem plM_inj {w h il a b : Nat} (ha : a < w * h) (hb : b < w * h) (e : plM w h il a = plM w h il b) : a = b := by
  obtain ⟨a1, a2⟩ := div_lt ha
  obtain ⟨b1, b2⟩ := div_lt hb
  unfold plM at e
  have d1 := dm_div (w := w) (q := lnO h il (a / w)) a2
  have d2 := dm_div (w := w) (q := lnO h il (b / w)) b2
  rw [e] at d1
  have q1 : lnO h il (a / w) = lnO h il (b / w) := d1.1.symm.trans d2.1
  have q2 : a % w = b % w := d1.2.symm.trans d2.2
  have q3 := lnO_inj a1 b1 q1
  have x1 := Nat.div_add_mod a w
  have x2 := Nat.div_add_mod b w
  rw [← x1, ← x2, q3, q2]
theorem plM_sur {w h il i : Nat} (hi : i < w * h) : ∃ k, k < w * h ∧ plM w h il k = i := by
  obtain ⟨a1, a2⟩ := div_lt hi
  obtain ⟨q, hq, eq⟩ := lnO_sur (il := il) a1
  refine ⟨w * q + i % w, dm_in hq a2, ?_⟩
  unfold plM
  obtain ⟨d1, d2⟩ := dm_div (w := w) (q := q) a2
  rw [d1, d2, eq]
  exact Nat.div_add_mod i w
/-! both sides compute them -/
theorem line_R {h k : Nat} (hh : h ≤ 64) (hk : k < h) : fX10_line (nI k) (nI h) = nI (lnM h k) := by
  have e1 : (nI h + 7) / 8 = nI ((h + 7) / 8) := by
    rw [show nI h + 7 = nI (h + 7) from nI_add h 7]
    exact pk_div (d := 8) (by omega) (by decide) (by decide)
  have e2 : (nI h + 3) / 8 = nI ((h + 3) / 8) := by
    rw [show nI h + 3 = nI (h + 3) from nI_add h 3]
    exact pk_div (d := 8) (by omega) (by decide) (by decide)
  have e3 : (nI h + 1) / 4 = nI ((h + 1) / 4) := by
    rw [nI_1]
    exact pk_div (d := 4) (by omega) (by decide) (by decide)
  unfold fX10_line lnM
  rw [e1, e2, e3, lt'_e, lt'_e, lt'_e, nI_add, nI_add]
  by_cases q1 : k < (h + 7) / 8
  · rw [if_neg (nI_ge q1 (by omega)), if_pos q1]
    exact pk_mul 8 k
  rw [if_pos (nI_le (by omega) (by omega)), if_neg q1]
  by_cases q2 : k < (h + 7) / 8 + (h + 3) / 8
  · rw [if_neg (nI_ge q2 (by omega)), if_pos q2, pk_sub (by omega), show (8 : Int32) * nI (k - (h + 7) / 8) = nI (8 * (k - (h + 7) / 8)) from pk_mul 8 _]
    exact nI_add 4 _
  rw [if_pos (nI_le (by omega) (by omega)), if_neg q2]
  by_cases q3 : k < (h + 7) / 8 + (h + 3) / 8 + (h + 1) / 4
  · rw [if_neg (nI_ge q3 (by omega)), if_pos q3, pk_sub (by omega), pk_sub (by omega), show (4 : Int32) * nI (k - (h + 7) / 8 - (h + 3) / 8) = nI (4 * (k - (h + 7) / 8 - (h + 3) / 8)) from pk_mul 4 _]
    exact nI_add 2 _
  rw [if_pos (nI_le (by omega) (by omega)), if_neg q3, pk_sub (by omega), pk_sub (by omega), pk_sub (by omega), show (2 : Int32) * nI (k - (h + 7) / 8 - (h + 3) / 8 - (h + 1) / 4) = nI (2 * (k - (h + 7) / 8 - (h + 3) / 8 - (h + 1) / 4)) from pk_mul 2 _]
  exact nI_add 1 _
theorem pl_R {μ : Mm} {y s f w h il k : Nat} (hL : μ.2 y 9 = y + 5) (hs : s < 2) (hf : f < 24) (hw : 1 ≤ w ∧ w ≤ 64) (hh : h ≤ 64) (hk : k < w * h) (f2 : μ.1 (y + 5) (240 * s + 10 * f + 2) = nI w) (f3 : μ.1 (y + 5) (240 * s + 10 * f + 3) = nI h) (f5 : μ.1 (y + 5) (240 * s + 10 * f + 5) = nI il) (hil : il ≤ 1) : fX10_placeOf y (nI s) (nI f) (nI k) μ = some (nI (plM w h il k)) := by
  have b := Nat.mul_le_mul hw.2 hh
  unfold fX10_placeOf plM lnO
  rw [bd_e (show fX10_field y (nI s) (nI f) 2 μ = some (nI w) by rw [← f2]; exact field_at hL hs hf (by decide)), bd_e (show fX10_field y (nI s) (nI f) 5 μ = some (nI il) by rw [← f5]; exact field_at hL hs hf (by decide))]
  by_cases q : il = 0
  · rw [if_pos (show nI il = 0 by rw [q]; rfl), if_pos q, Nat.div_add_mod]
  · obtain ⟨d1, d2⟩ := div_lt hk
    have nzw : nz (nI w) = true := by
      unfold nz
      simp only [Bool.not_eq_true', decide_eq_false_iff_not]
      exact nI_ne0 (by omega) (by omega)
    rw [if_neg (nI_ne0 (by omega) (by omega)), if_neg q, gd_e nzw, bd_e (show fX10_field y (nI s) (nI f) 3 μ = some (nI h) by rw [← f3]; exact field_at hL hs hf (by decide)), lt'_e, gd_e nzw, pk_rem (by omega) (by omega) (by omega), pk_div (by omega) (by omega) (by omega), line_R hh d1, pk_mul, nI_add]
theorem ln_dec : ∀ h, h < 65 → 1 ≤ h → (((nI h - sT 1 0) + ((1 : Int32) <<< (sT 2 0 &&& 31))) - 1) >>> (sT 2 0 &&& 31) = nI ((h + 7) / 8) ∧ (((nI h - sT 1 1) + ((1 : Int32) <<< (sT 2 1 &&& 31))) - 1) >>> (sT 2 1 &&& 31) = nI ((h + 3) / 8) ∧ (((nI h - sT 1 2) + ((1 : Int32) <<< (sT 2 2 &&& 31))) - 1) >>> (sT 2 2 &&& 31) = nI ((h + 1) / 4) ∧ (((nI h - sT 1 3) + ((1 : Int32) <<< (sT 2 3 &&& 31))) - 1) >>> (sT 2 3 &&& 31) = nI (h / 2) := by decide +kernel
theorem sh_dec2 : ∀ r, r < 65 → sT 1 0 + (nI r <<< (sT 2 0 &&& 31)) = nI (8 * r) ∧ sT 1 1 + (nI r <<< (sT 2 1 &&& 31)) = nI (4 + 8 * r) ∧ sT 1 2 + (nI r <<< (sT 2 2 &&& 31)) = nI (2 + 4 * r) ∧ sT 1 3 + (nI r <<< (sT 2 3 &&& 31)) = nI (1 + 2 * r) := by decide +kernel
theorem line_C {μ : Mm} {F h il k : Nat} (fu : Nat) (hfu : 10 ≤ fu) (h4 : μ.1 F 4 = nI il) (h3 : μ.1 F 3 = nI h) (hil : il ≤ 1) (hh : h ≤ 64) (hk : k < h) : fX3_lineOf fu F (nI k) μ = some (nI (lnO h il k)) := by
  have hs := ln_sum h
  unfold fX3_lineOf lnO
  rw [h4]
  by_cases q : il = 0
  · rw [if_pos (show nI il = 0 by rw [q]; rfl), if_pos q]
  rw [if_neg (nI_ne0 (by omega) (by omega)), if_neg q]
  obtain ⟨N, eN⟩ : ∃ N, fu = N + 4 := ⟨fu - 4, by omega⟩
  obtain ⟨d0, d1, d2, d3⟩ := ln_dec h (by omega) (by omega)
  have st : ∀ (i r lines v : Nat) (K : Nat), i < 4 → r < 65 → lines < 65 → (((nI h - sT 1 i) + ((1 : Int32) <<< (sT 2 i &&& 31))) - 1) >>> (sT 2 i &&& 31) = nI lines → sT 1 i + (nI r <<< (sT 2 i &&& 31)) = nI v → fX3_lineOf_L13 fu (K + 1) F (nI k) (nI r) (nI i) μ = if lines ≤ r then fX3_lineOf_L13 fu K F (nI k) (nI (r - lines)) (nI (i + 1)) μ else some (nI v) := by
    intro i r lines v K hi hr hl e1 e2
    show fX3_lineOf_B13 (fX3_lineOf_L13 fu K) fu F (nI k) (nI r) (nI i) μ = _
    unfold fX3_lineOf_B13
    rw [if_neg (show ¬ (4 : Int32) ≤ nI i from nI_ge (b := 4) hi (by decide)), r_ib hi (by decide), nI_clamp (by omega), lt'_e, r_ib hi (by decide), lt'_e, h3, e1, lt'_e, e2]
    by_cases w : lines ≤ r
    · rw [if_pos (nI_le w (by omega)), if_pos w, pk_sub w, lt'_e, lt'_e, nI_1]
    · rw [if_neg (nI_ge (by omega) (by omega)), if_neg w]
  have e0 : fX3_lineOf_L13 fu fu F (nI k) (nI k) 0 μ = fX3_lineOf_L13 fu (N + 3 + 1) F (nI k) (nI k) (nI 0) μ := by rw [show N + 3 + 1 = fu by omega]; rfl
  unfold lnM
  rw [e0, st 0 k _ _ (N + 3) (by decide) (by omega) (by omega) d0 (sh_dec2 k (by omega)).1]
  by_cases q1 : k < (h + 7) / 8
  · rw [if_neg (by omega), if_pos q1]
  rw [if_pos (by omega), if_neg q1, show N + 3 = N + 2 + 1 from rfl, st 1 _ _ _ (N + 2) (by decide) (by omega) (by omega) d1 (sh_dec2 (k - (h + 7) / 8) (by omega)).2.1]
  by_cases q2 : k < (h + 7) / 8 + (h + 3) / 8
  · rw [if_neg (by omega), if_pos q2]
  rw [if_pos (by omega), if_neg q2, show N + 2 = N + 1 + 1 from rfl, st 2 _ _ _ (N + 1) (by decide) (by omega) (by omega) d2 (sh_dec2 (k - (h + 7) / 8 - (h + 3) / 8) (by omega)).2.2.1]
  by_cases q3 : k < (h + 7) / 8 + (h + 3) / 8 + (h + 1) / 4
  · rw [if_neg (by omega), if_pos q3]
  rw [if_pos (by omega), if_neg q3, st 3 _ _ _ N (by decide) (by omega) (by omega) d3 (sh_dec2 (k - (h + 7) / 8 - (h + 3) / 8 - (h + 1) / 4) (by omega)).2.2.2, if_neg (by omega)]
theorem from_loop {F q O w h il : Nat} (fu : Nat) (hfu : 10 ≤ fu) (hil : il ≤ 1) (hw : 1 ≤ w ∧ w ≤ 64) (hh : h ≤ 64) (hqF : q ≠ F) (hqO : q ≠ O) : ∀ (K i : Nat) (μ : Mm), i ≤ h → h - i < K → μ.2 F 7 = q → (μ.1 F 2 = nI w ∧ μ.1 F 3 = nI h ∧ μ.1 F 4 = nI il) → (∀ k, k < w * i → μ.1 q (plM w h il k) = μ.1 O k) → ∃ μ', fX3_fromStreamOrder_L2 fu K F O (nI i) μ = some μ' ∧ Ag μ μ' q (q + 1) ∧ (∀ k, k < w * h → μ'.1 q (plM w h il k) = μ.1 O k) := by
  have b := Nat.mul_le_mul hw.2 hh
  intro K
  induction K with
  | zero => intro i μ h1 h2; omega
  | succ K ih =>
    intro i μ h1 h2 hl hF hk
    show ∃ μ', fX3_fromStreamOrder_B2 (fX3_fromStreamOrder_L2 fu K) fu F O (nI i) μ = some μ' ∧ _
    unfold fX3_fromStreamOrder_B2
    rw [hF.2.1, hF.1]
    by_cases qe : i = h
    · subst qe
      rw [if_pos (nI_le (Nat.le_refl _) (by omega))]
      exact ⟨μ, rfl, Ag.rf, hk⟩
    · have hi : i < h := by omega
      have ll := lnO_lt (il := il) hi
      have c1 := dm_in (w := w) hi (show 0 < w by omega)
      have m1 : w * (i + 1) ≤ w * h := Nat.mul_le_mul_left _ hi
      have m2 : w * (lnO h il i + 1) ≤ w * h := Nat.mul_le_mul_left _ ll
      rw [Nat.mul_add, Nat.mul_one] at m1 m2
      rw [if_neg (nI_ge hi (by omega)), bd_e (line_C fu hfu hF.2.2 hF.2.1 hil hh hi), pk_mul, pk_mul, Nat.mul_comm i w, Nat.mul_comm (lnO h il i) w, r_cpk (by omega) (by omega) (by decide) (by decide), hl, nI_clamp (by omega), nI_clamp (by omega), nI_clamp (by omega), lt'_e, lt'_e, nI_1]
      obtain ⟨ν, eν⟩ : ∃ ν, ν = sa μ q (va_cpy (μ.1 O) (μ.1 q) (w * i) (w * lnO h il i) w) := ⟨_, rfl⟩
      rw [← eν]
      have nb : ∀ b, b ≠ q → ν.1 b = μ.1 b := fun b hb => by rw [eν, sa_b hb]
      have nq : ν.1 q = va_cpy (μ.1 O) (μ.1 q) (w * i) (w * lnO h il i) w := by rw [eν, sa_a]
      have aν : Ag μ ν q (q + 1) := by rw [eν]; exact Ag.wa (by omega) (by omega)
      obtain ⟨μ', e', a', g'⟩ := ih (i + 1) ν hi (by omega) (by rw [aν.1]; exact hl) (by rw [nb F (fun w => hqF w.symm)]; exact hF) (fun k hk2 => by
        rw [nb O (fun w => hqO w.symm), nq]
        rw [Nat.mul_add, Nat.mul_one] at hk2
        obtain ⟨k1, k2⟩ := div_lt (show k < w * h by omega)
        by_cases w1 : k < w * i
        · rw [pk_cpy_out]
          · exact hk k w1
          · have ne : lnO h il (k / w) ≠ lnO h il i := fun e => by
              have e2 := lnO_inj k1 hi e
              have dm := Nat.div_add_mod k w
              rw [e2] at dm
              omega
            unfold plM
            rcases Nat.lt_or_gt_of_ne ne with c | c
            · have : w * (lnO h il (k / w) + 1) ≤ w * lnO h il i := Nat.mul_le_mul_left _ c
              rw [Nat.mul_add, Nat.mul_one] at this
              omega
            · have : w * (lnO h il i + 1) ≤ w * lnO h il (k / w) := Nat.mul_le_mul_left _ c
              rw [Nat.mul_add, Nat.mul_one] at this
              omega
        · have kd : k / w = i := by
            have e := dm_div (w := w) (q := i) (r := k - w * i) (by omega)
            rw [show w * i + (k - w * i) = k by omega] at e
            exact e.1
          have dm := Nat.div_add_mod k w
          rw [kd] at dm
          unfold plM
          rw [kd, pk_cpy_in (by omega) (by omega)]
          rw [show w * i + (w * lnO h il i + k % w - w * lnO h il i) = k by omega])
      refine ⟨μ', e', aν.tr a', fun k hk2 => ?_⟩
      rw [g' k hk2, nb O (fun w => hqO w.symm)]
