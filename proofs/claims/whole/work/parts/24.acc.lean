/-! reaching FRAMES, fields, tables on both sides -/
theorem lt_of_nle {a b : Nat} (ha : a < 2 ^ 31) (h : ¬ nI b ≤ nI a) : a < b := by
  rcases Nat.lt_or_ge a b with q | q
  · exact q
  · exact absurd (nI_le q ha) h
theorem fr_case {c : Nat} (hc : c < 2 ^ 31) (v : Int32) : (∃ f, f < c ∧ v = nI f) ∨ (v < 0 ∨ nI c ≤ v) := by
  by_cases c1 : v < 0
  · exact Or.inr (Or.inl c1)
  · by_cases c2 : nI c ≤ v
    · exact Or.inr (Or.inr c2)
    · obtain ⟨j, hj, rfl⟩ := nI_of c1
      exact Or.inl ⟨j, lt_of_nle hj c2, rfl⟩
section CA
variable {μ : Mm} {p : Nat} {P : Pic}
theorem frameAt_1 (h : PC μ p P) (hc : hd P 5 ≤ 24) {f : Nat} (hf : f < hd P 5) : fX4_frameAt p (nI f) μ = some (some (p + 4 + 5 * f)) := by
  unfold fX4_frameAt
  rw [if_neg (nI_pos (by omega)), h.2.1.2.2.2.2.2.1, if_neg (nI_ge hf (by omega)), gd_e (ib_nI (by omega) (by decide)), h.1.2.1, nI_clamp (by omega), (h.1.2.2.2 f (by omega)).1]
theorem frameAt_0 (h : PC μ p P) {v : Int32} (hv : v < 0 ∨ nI (hd P 5) ≤ v) : fX4_frameAt p v μ = some none := by
  unfold fX4_frameAt
  rw [h.2.1.2.2.2.2.2.1]
  by_cases c1 : v < 0
  · rw [if_pos c1]
  · rw [if_neg c1, if_pos (hv.resolve_left c1)]
theorem size_C {f : Nat} (h : PCf μ p P f) : fX3_size (p + 4 + 5 * f) μ = nI (fx P f 2 * fx P f 3) := by
  unfold fX3_size
  rw [h.1.2.2.1, h.1.2.2.2.1, pk_mul]
theorem has_C {T c : Nat} (hT : μ.1 T 1 = nI c) (hc : c < 2 ^ 31) (v : Int32) : (∃ k, k < c ∧ v = nI k ∧ fX7_has T v μ = 1) ∨ ((v < 0 ∨ nI c ≤ v) ∧ fX7_has T v μ = 0) := by
  unfold fX7_has
  rw [hT]
  rcases fr_case hc v with ⟨k, hk, rfl⟩ | hv
  · exact Or.inl ⟨k, hk, rfl, by rw [if_neg (nI_pos (by omega)), if_neg (nI_ge hk hc)]⟩
  · refine Or.inr ⟨hv, ?_⟩
    by_cases c1 : v < 0
    · rw [if_pos c1]
    · rw [if_neg c1, if_pos (hv.resolve_left c1)]
end CA
section RA
variable {μ : Mm} {y s tn on : Nat} {t o : Nat → Nat} {fk fp : Int32} {P : Pic}
theorem head_R (h : SR y μ s tn on t o fk fp P) {k : Nat} {v : Int32} (hv : v = nI k) (hk : k < 6) : ib (6 * μ.1 y 6 + v) 12 = true ∧ μ.1 (μ.2 y 7) (6 * μ.1 y 6 + v).toNatClampNeg = nI (hd P k) := by
  subst hv
  obtain ⟨hs1, hs2⟩ := h.2.1
  rw [hs2, h.1.2.2.1]
  show ib (nI 6 * nI s + nI k) 12 = true ∧ μ.1 (y + 3) (nI 6 * nI s + nI k).toNatClampNeg = _
  rw [pk_mul, nI_add, nI_clamp (by omega)]
  exact ⟨ib_nI (by omega) (by decide), h.2.2.2.2.2.2.1.1 k hk⟩
theorem head_R0 (h : SR y μ s tn on t o fk fp P) : ib (6 * μ.1 y 6) 12 = true ∧ μ.1 (μ.2 y 7) (6 * μ.1 y 6).toNatClampNeg = nI (hd P 0) := by
  obtain ⟨hs1, hs2⟩ := h.2.1
  rw [hs2, h.1.2.2.1]
  show ib (nI 6 * nI s) 12 = true ∧ μ.1 (y + 3) (nI 6 * nI s).toNatClampNeg = _
  rw [pk_mul, nI_clamp (by omega)]
  exact ⟨ib_nI (by omega) (by decide), h.2.2.2.2.2.2.1.1 0 (by decide)⟩
theorem frames_R (h : SR y μ s tn on t o fk fp P) : fX10_frames y μ = some (nI (hd P 5)) := by
  have := head_R h (k := 5) (v := 5) rfl (by decide)
  unfold fX10_frames
  rw [gd_e this.1]
  exact congrArg some this.2
theorem isFrame_1 (h : SR y μ s tn on t o fk fp P) (hc : hd P 5 ≤ 24) {f : Nat} (hf : f < hd P 5) : fX10_isFrame y (nI f) μ = some 1 := by
  unfold fX10_isFrame
  rw [if_neg (nI_pos (by omega)), bd_e (frames_R h), if_neg (nI_ge hf (by omega))]
theorem isFrame_0 (h : SR y μ s tn on t o fk fp P) {v : Int32} (hv : v < 0 ∨ nI (hd P 5) ≤ v) : fX10_isFrame y v μ = some 0 := by
  unfold fX10_isFrame
  by_cases c1 : v < 0
  · rw [if_pos c1]
  · rw [if_neg c1, bd_e (frames_R h), if_pos (hv.resolve_left c1)]
theorem fld_ix {s f j : Nat} (hs : s < 2) (hf : f < 24) (hj : j < 10) : ((240 * nI s) + (10 * nI f)) + nI j = nI (240 * s + 10 * f + j) := by
  show ((nI 240 * nI s) + (nI 10 * nI f)) + nI j = _
  rw [pk_mul, pk_mul, nI_add, nI_add]
theorem idx_ix {s f j : Nat} : ((98304 * nI s) + (4096 * nI f)) + nI j = nI (98304 * s + 4096 * f + j) := by
  show ((nI 98304 * nI s) + (nI 4096 * nI f)) + nI j = _
  rw [pk_mul, pk_mul, nI_add, nI_add]
theorem loc_ix {s f j : Nat} : fX10_localAt (nI s) (nI f) (nI j) = nI (6144 * s + 256 * f + j) := by
  unfold fX10_localAt
  show ((nI 6144 * nI s) + (nI 256 * nI f)) + nI j = _
  rw [pk_mul, pk_mul, nI_add, nI_add]
theorem glo_ix {s j : Nat} : (256 * nI s) + nI j = nI (256 * s + j) := by
  show (nI 256 * nI s) + nI j = _
  rw [pk_mul, nI_add]
theorem field_at {y s : Nat} {μ : Mm} (hL : μ.2 y 9 = y + 5) {f j : Nat} (hs : s < 2) (hf : f < 24) (hj : j < 10) : fX10_field y (nI s) (nI f) (nI j) μ = some (μ.1 (y + 5) (240 * s + 10 * f + j)) := by
  unfold fX10_field
  rw [fld_ix hs hf hj, gd_e (ib_nI (by omega) (by decide)), hL, nI_clamp (by omega)]
theorem field_R (h : SR y μ s tn on t o fk fp P) (hc : hd P 5 ≤ 24) {f j : Nat} {v : Int32} (hv : v = nI j) (hf : f < hd P 5) (hj : j < 10) : fX10_field y (μ.1 y 6) (nI f) v μ = some (if j = 7 then tr P f else nI (fx P f j)) := by
  subst hv
  rw [h.2.1.2, field_at h.1.2.2.2.2.1 h.2.1.1 (by omega) hj]
  have hF := h.2.2.2.2.2.2.2 f hf
  by_cases h7 : j = 7
  · subst h7
    rw [if_pos rfl, hF.2.1]
  · rw [if_neg h7, hF.1 j hj h7]
theorem places_R (h : SR y μ s tn on t o fk fp P) (hc : hd P 5 ≤ 24) {f : Nat} (hf : f < hd P 5) : fX10_places y (μ.1 y 6) (nI f) μ = some (nI (fx P f 2 * fx P f 3)) := by
  unfold fX10_places
  rw [bd_e (field_R h hc (j := 2) (v := 2) rfl hf (by decide)), bd_e (field_R h hc (j := 3) (v := 3) rfl hf (by decide))]
  show some (nI (fx P f 2) * nI (fx P f 3)) = _
  rw [pk_mul]
theorem colours_R (h : SR y μ s tn on t o fk fp P) (hv : VP P) {f : Nat} (hf : f < hd P 5) : fX10_colours y (μ.1 y 6) (nI f) μ = some (nI (tbs P f)) := by
  have hc := hv.2.2.2.2.1
  have hl := tsz_le (hv.2.2.2.2.2 f hf).2.1
  unfold fX10_colours
  rw [bd_e (field_R h hc (j := 4) (v := 4) rfl hf (by decide))]
  show (if nI (fx P f 4) ≤ 0 then _ else _) = _
  unfold tbs
  by_cases h0 : fx P f 4 = 0
  · rw [h0, if_pos (by decide), if_pos rfl]
    have := head_R h (k := 2) (v := 2) rfl (by decide)
    rw [gd_e this.1]
    exact congrArg some this.2
  · rw [if_neg (nI_nle (by omega) (by omega)), if_neg h0, bd_e (field_R h hc (j := 4) (v := 4) rfl hf (by decide))]
    rfl
theorem indexAt_R (h : SR y μ s tn on t o fk fp P) (hv : VP P) {f i : Nat} (hf : f < hd P 5) (hi : i < fx P f 2 * fx P f 3) (hi2 : i < 4096) : fX10_indexAt y (μ.1 y 6) (nI f) (nI i) μ = some (nI (ix P f i)) := by
  have hc := hv.2.2.2.2.1
  have hs := h.2.1
  unfold fX10_indexAt
  rw [hs.2, idx_ix, gd_e (ib_nI (by omega) (by decide)), h.1.2.2.2.2.2.2.1, nI_clamp (by omega), (h.2.2.2.2.2.2.2 f hf).2.2.2 i hi]
end RA
theorem vf_pl {P : Pic} (hv : VP P) {f : Nat} (hf : f < hd P 5) : fx P f 2 * fx P f 3 ≤ 4096 ∧ 1 ≤ fx P f 2 * fx P f 3 ∧ fx P f 2 ≤ 64 ∧ fx P f 3 ≤ 64 := by
  obtain ⟨⟨a1, a2, a3, a4⟩, -⟩ := hv.2.2.2.2.2 f hf
  obtain ⟨b1, b2, b3, b4⟩ := hv.1
  have h2 : fx P f 2 ≤ 64 := by omega
  have h3 : fx P f 3 ≤ 64 := by omega
  refine ⟨?_, Nat.mul_pos (by omega) (by omega), h2, h3⟩
  calc fx P f 2 * fx P f 3 ≤ 64 * 64 := Nat.mul_le_mul h2 h3
    _ = 4096 := by decide
/-! index, frameOf, colourOf -/
theorem index_ok {n : Nat} {μ : Mm} (h : STe n μ) (v i : Int32) : ∃ r, fX9_index n v i μ = some r ∧ fX10_index (n + 273) v i μ = some r := by
  obtain ⟨p, dd, m, w, s, tn, on, t, o, fk, fp, P, hC, hR, hV⟩ := h
  have hc := hV.2.2.2.2.1
  have l3 : μ.2 n 3 = p := hC.1.1.2.2.2.1
  have hP := hC.2.2.2.2.2.2.2.1
  unfold fX9_index fX10_index
  rw [l3]
  rcases fr_case (c := hd P 5) (by omega) v with ⟨f, hf, rfl⟩ | hv
  · obtain ⟨q1, q2, q3, q4⟩ := vf_pl hV hf
    have hF := hP.2.2 f hf
    rw [bd_e (frameAt_1 hP hc hf), bd_e (isFrame_1 hR hc hf)]
    simp only [oc, lt'_e]
    rw [if_neg (show ¬ (1 : Int32) = 0 by decide), size_C hF, bd_e (places_R hR hc hf)]
    by_cases c1 : i < 0
    · rw [if_pos c1, if_pos c1]; exact ⟨_, rfl, rfl⟩
    · rw [if_neg c1, if_neg c1]
      obtain ⟨j, hj, rfl⟩ := nI_of c1
      by_cases c2 : j < fx P f 2 * fx P f 3
      · rw [if_pos (nI_lt c2 (by omega)), if_neg (nI_ge c2 (by omega)), gd_e (ib_nI (by omega) (by decide)), bd_e (indexAt_R hR hV hf c2 (by omega)), (hP.1.2.2.2 f (by omega)).2.2.2.1, nI_clamp (by omega), hF.2.2.2 j c2]
        exact ⟨_, rfl, rfl⟩
      · rw [if_neg (nI_nlt (by omega) hj), if_pos (nI_le (by omega) hj)]
        exact ⟨_, rfl, rfl⟩
  · rw [bd_e (frameAt_0 hP hv), bd_e (isFrame_0 hR hv)]
    exact ⟨_, rfl, rfl⟩
theorem b01_r {k : Nat} (h : k ≤ 1) : (if nI k = 0 then some 0 else some 1 : Option Int32) = some (nI k) := by
  rcases (show k = 0 ∨ k = 1 by omega) with rfl | rfl <;> decide
theorem frameOf_ok {n : Nat} {μ : Mm} (h : STe n μ) (v i : Int32) : ∃ r, fX9_frameOf n v i μ = some r ∧ fX10_frameOf (n + 273) v i μ = some r := by
  obtain ⟨p, dd, m, w, s, tn, on, t, o, fk, fp, P, hC, hR, hV⟩ := h
  have hc := hV.2.2.2.2.1
  have l3 : μ.2 n 3 = p := hC.1.1.2.2.2.1
  have hP := hC.2.2.2.2.2.2.2.1
  unfold fX9_frameOf fX10_frameOf
  rw [l3]
  rcases fr_case (c := hd P 5) (by omega) v with ⟨f, hf, rfl⟩ | hv
  · have hF := hP.2.2 f hf
    have hL := hP.1.2.2.2 f (by omega)
    have hVf := hV.2.2.2.2.2 f hf
    rw [bd_e (frameAt_1 hP hc hf), bd_e (isFrame_1 hR hc hf)]
    simp only [oc]
    rw [if_neg (show ¬ (1 : Int32) = 0 by decide), hL.2.1, hL.2.2.1, hF.1.1, hF.1.2.1, hF.1.2.2.1, hF.1.2.2.2.1, hF.1.2.2.2.2, hF.2.1.1, hF.2.2.1.1, hF.2.2.1.2.1, hF.2.2.1.2.2.1, hF.2.2.1.2.2.2, b01_r hVf.2.2.1.1, b01_r hVf.2.2.1.2.2.2]
    have key : ∀ j, j < 10 → (if nI j < 0 then some (-1) else if (10 : Int32) ≤ nI j then some (-1) else bd (fX10_field (n + 273) (μ.1 (n + 273) 6) (nI f) (nI j) μ) fun x2 => some x2) = some (if j = 7 then tr P f else nI (fx P f j)) := by
      intro j hj
      rw [if_neg (nI_pos (by omega)), if_neg (show ¬ (10 : Int32) ≤ nI j from nI_ge (b := 10) hj (by decide)), bd_e (field_R hR hc rfl hf hj)]
    by_cases c0 : i = 0
    · subst c0; exact ⟨_, rfl, key 0 (by decide)⟩
    rw [if_neg c0]
    by_cases c1 : i = 1
    · subst c1; exact ⟨_, rfl, key 1 (by decide)⟩
    rw [if_neg c1]
    by_cases c2 : i = 2
    · subst c2; exact ⟨_, rfl, key 2 (by decide)⟩
    rw [if_neg c2]
    by_cases c3 : i = 3
    · subst c3; exact ⟨_, rfl, key 3 (by decide)⟩
    rw [if_neg c3]
    by_cases c4 : i = 4
    · subst c4; exact ⟨_, rfl, key 4 (by decide)⟩
    rw [if_neg c4]
    by_cases c5 : i = 5
    · subst c5; exact ⟨_, rfl, key 5 (by decide)⟩
    rw [if_neg c5]
    by_cases c6 : i = 6
    · subst c6; exact ⟨_, rfl, key 6 (by decide)⟩
    rw [if_neg c6]
    by_cases c7 : i = 7
    · subst c7; exact ⟨_, rfl, key 7 (by decide)⟩
    rw [if_neg c7]
    by_cases c8 : i = 8
    · subst c8; exact ⟨_, rfl, key 8 (by decide)⟩
    rw [if_neg c8]
    by_cases c9 : i = 9
    · subst c9; exact ⟨_, rfl, key 9 (by decide)⟩
    rw [if_neg c9]
    refine ⟨-1, rfl, ?_⟩
    by_cases ca : i < 0
    · rw [if_pos ca]
    rw [if_neg ca]
    obtain ⟨j, hj, rfl⟩ := nI_of ca
    rw [if_pos]
    refine nI_le (a := 10) ?_ hj
    rcases Nat.lt_or_ge j 10 with q | q
    · exfalso
      rcases (show j = 0 ∨ j = 1 ∨ j = 2 ∨ j = 3 ∨ j = 4 ∨ j = 5 ∨ j = 6 ∨ j = 7 ∨ j = 8 ∨ j = 9 by omega) with rfl | rfl | rfl | rfl | rfl | rfl | rfl | rfl | rfl | rfl
      · exact c0 rfl
      · exact c1 rfl
      · exact c2 rfl
      · exact c3 rfl
      · exact c4 rfl
      · exact c5 rfl
      · exact c6 rfl
      · exact c7 rfl
      · exact c8 rfl
      · exact c9 rfl
    · exact q
  · rw [bd_e (frameAt_0 hP hv), bd_e (isFrame_0 hR hv)]
    exact ⟨_, rfl, rfl⟩
/-- which colour is meant: of the GLOBAL TABLE, of a FRAME's own, or none -/
theorem isColour_R {μ : Mm} {y s tn on : Nat} {t o : Nat → Nat} {fk fp : Int32} {P : Pic} (h : SR y μ s tn on t o fk fp P) (hV : VP P) (v k : Int32) :
    (∃ j, v = -1 ∧ j < hd P 2 ∧ k = nI j ∧ fX10_isColour y v k μ = some 1) ∨ (∃ f j, f < hd P 5 ∧ v = nI f ∧ j < fx P f 4 ∧ k = nI j ∧ fX10_isColour y v k μ = some 1) ∨
    (fX10_isColour y v k μ = some 0 ∧ ((v = -1 ∧ (k < 0 ∨ nI (hd P 2) ≤ k)) ∨ (v ≠ -1 ∧ (v < 0 ∨ nI (hd P 5) ≤ v)) ∨ ∃ f, f < hd P 5 ∧ v = nI f ∧ (k < 0 ∨ nI (fx P f 4) ≤ k))) := by
  have hc := hV.2.2.2.2.1
  have hg := tsz_le hV.2.1
  have h2 := head_R h (k := 2) (v := 2) rfl (by decide)
  by_cases c0 : v = -1
  · subst c0
    unfold fX10_isColour fX10_isColour_L15 fX10_isColour_L52
    rw [if_pos rfl, if_pos rfl, gd_e h2.1]
    rcases fr_case (c := hd P 2) (by omega) k with ⟨j, hj, rfl⟩ | hk
    · refine Or.inl ⟨j, rfl, hj, rfl, ?_⟩
      rw [if_neg (nI_pos (by omega))]
      rw [h2.2, if_neg (nI_ge hj (by omega))]
    · refine Or.inr (Or.inr ⟨?_, Or.inl ⟨rfl, hk⟩⟩)
      by_cases c1 : k < 0
      · rw [if_pos c1]
      · rw [if_neg c1]
        rw [h2.2, if_pos (hk.resolve_left c1)]
  · rcases fr_case (c := hd P 5) (by omega) v with ⟨f, hf, rfl⟩ | hv
    · have hl := tsz_le (hV.2.2.2.2.2 f hf).2.1
      unfold fX10_isColour fX10_isColour_L15 fX10_isColour_L52
      rw [if_neg c0, bd_e (isFrame_1 h hc hf), if_neg (show ¬ (1 : Int32) = 0 by decide), if_neg c0]
      rw [bd_e (field_R h hc (j := 4) (v := 4) rfl hf (by decide))]
      show _ ∨ _ ∨ _
      rcases fr_case (c := fx P f 4) (by omega) k with ⟨j, hj, rfl⟩ | hk
      · refine Or.inr (Or.inl ⟨f, j, hf, rfl, hj, rfl, ?_⟩)
        rw [if_neg (nI_pos (by omega))]
        show (if nI (fx P f 4) ≤ nI j then _ else _) = _
        rw [if_neg (nI_ge hj (by omega))]
      · refine Or.inr (Or.inr ⟨?_, Or.inr (Or.inr ⟨f, hf, rfl, hk⟩)⟩)
        by_cases c1 : k < 0
        · rw [if_pos c1]
        · rw [if_neg c1]
          show (if nI (fx P f 4) ≤ k then _ else _) = _
          rw [if_pos (hk.resolve_left c1)]
    · refine Or.inr (Or.inr ⟨?_, Or.inr (Or.inl ⟨c0, hv⟩)⟩)
      unfold fX10_isColour
      rw [if_neg c0, bd_e (isFrame_0 h hv), if_pos rfl]
theorem tableAt_g {μ : Mm} {n p : Nat} {P : Pic} (l3 : μ.2 n 3 = p) (h : PC μ p P) : fX9_tableAt n (-1) μ = some (some (p + 1)) := by
  unfold fX9_tableAt
  rw [if_pos rfl, l3, h.1.1]
theorem nI_nm1 {k : Nat} (h : k < 2 ^ 31) : ¬ nI k = -1 := fun e => by
  have := congrArg Int32.toInt e
  rw [nI_toInt h] at this
  exact absurd this (by
    have : Int32.toInt (-1) = -1 := by decide
    omega)
theorem tableAt_f {μ : Mm} {n p f : Nat} {P : Pic} (l3 : μ.2 n 3 = p) (h : PC μ p P) (hc : hd P 5 ≤ 24) (hf : f < hd P 5) : fX9_tableAt n (nI f) μ = some (some (p + 5 + 5 * f)) := by
  unfold fX9_tableAt
  rw [if_neg (nI_nm1 (by omega)), l3, bd_e (frameAt_1 h hc hf)]
  simp only [oc]
  rw [(h.1.2.2.2 f (by omega)).2.1]
theorem tableAt_0 {μ : Mm} {n p : Nat} {P : Pic} {v : Int32} (l3 : μ.2 n 3 = p) (h : PC μ p P) (h0 : v ≠ -1) (hv : v < 0 ∨ nI (hd P 5) ≤ v) : fX9_tableAt n v μ = some none := by
  unfold fX9_tableAt
  rw [if_neg h0, l3, bd_e (frameAt_0 h hv)]
  rfl
theorem has_1 {μ : Mm} {T c k : Nat} (hT : μ.1 T 1 = nI c) (hc : c < 2 ^ 31) (hk : k < c) : fX7_has T (nI k) μ = 1 := by
  unfold fX7_has
  rw [hT, if_neg (nI_pos (by omega)), if_neg (nI_ge hk hc)]
theorem has_0 {μ : Mm} {T c : Nat} {v : Int32} (hT : μ.1 T 1 = nI c) (hv : v < 0 ∨ nI c ≤ v) : fX7_has T v μ = 0 := by
  unfold fX7_has
  rw [hT]
  by_cases c1 : v < 0
  · rw [if_pos c1]
  · rw [if_neg c1, if_pos (hv.resolve_left c1)]
theorem oc_n {α : Type} {a : α} {b : Nat → α} : oc none a b = a := rfl
theorem oc_s {α : Type} {y : Nat} {a : α} {b : Nat → α} : oc (some y) a b = b y := rfl
theorem colourOf_g {n p j : Nat} {μ : Mm} {P : Pic} (l3 : μ.2 n 3 = p) (hP : PC μ p P) (hj : j < hd P 2) (hg : hd P 2 ≤ 256) : fX9_colourOf n (-1) (nI j) μ = some (gt P j) := by
  unfold fX9_colourOf
  rw [bd_e (tableAt_g l3 hP), oc_s, lt'_e, has_1 hP.2.1.2.2.1 (by omega) hj, if_neg (show ¬ (1 : Int32) = 0 by decide), gd_e (ib_nI (by omega) (by decide)), hP.1.2.2.1, nI_clamp (by omega), hP.2.1.2.2.2.2.2.2 j hj]
theorem colourOf_f {n p f j : Nat} {μ : Mm} {P : Pic} (l3 : μ.2 n 3 = p) (hP : PC μ p P) (hc : hd P 5 ≤ 24) (hf : f < hd P 5) (hj : j < fx P f 4) (hl : fx P f 4 ≤ 256) : fX9_colourOf n (nI f) (nI j) μ = some (lt P f j) := by
  have hF := hP.2.2 f hf
  unfold fX9_colourOf
  rw [bd_e (tableAt_f l3 hP hc hf), oc_s, lt'_e, has_1 hF.2.1.1 (by omega) hj, if_neg (show ¬ (1 : Int32) = 0 by decide), gd_e (ib_nI (by omega) (by decide)), (hP.1.2.2.2 f (by omega)).2.2.2.2, nI_clamp (by omega), hF.2.1.2 j hj]
theorem colourOf_0 {n p : Nat} {μ : Mm} {P : Pic} {v k : Int32} (l3 : μ.2 n 3 = p) (hP : PC μ p P) (hc : hd P 5 ≤ 24) (hh : (v = -1 ∧ (k < 0 ∨ nI (hd P 2) ≤ k)) ∨ (v ≠ -1 ∧ (v < 0 ∨ nI (hd P 5) ≤ v)) ∨ ∃ f, f < hd P 5 ∧ v = nI f ∧ (k < 0 ∨ nI (fx P f 4) ≤ k)) : fX9_colourOf n v k μ = some (-1) := by
  unfold fX9_colourOf
  rcases hh with ⟨e, hk⟩ | ⟨h0, hv⟩ | ⟨f, hf, e, hk⟩
  · rw [e, bd_e (tableAt_g l3 hP), oc_s, lt'_e, has_0 hP.2.1.2.2.1 hk, if_pos rfl]
  · rw [bd_e (tableAt_0 l3 hP h0 hv), oc_n]
  · rw [e, bd_e (tableAt_f l3 hP hc hf), oc_s, lt'_e, has_0 (hP.2.2 f hf).2.1.1 hk, if_pos rfl]
theorem colourOf_ok {n : Nat} {μ : Mm} (h : STe n μ) (v k : Int32) : ∃ r, fX9_colourOf n v k μ = some r ∧ fX10_colourOf (n + 273) v k μ = some r := by
  obtain ⟨p, dd, m, w, s, tn, on, t, o, fk, fp, P, hC, hR, hV⟩ := h
  have hc := hV.2.2.2.2.1
  have hg := tsz_le hV.2.1
  have l3 : μ.2 n 3 = p := hC.1.1.2.2.2.1
  have hP := hC.2.2.2.2.2.2.2.1
  have hs := hR.2.1
  rcases isColour_R hR hV v k with ⟨j, e1, hj, e2, e⟩ | ⟨f, j, hf, e1, hj, e2, e⟩ | ⟨e, hh⟩
  · refine ⟨gt P j, by rw [e1, e2]; exact colourOf_g l3 hP hj hg, ?_⟩
    unfold fX10_colourOf
    rw [bd_e e, if_neg (show ¬ (1 : Int32) = 0 by decide), if_pos e1, e2, hs.2, glo_ix, gd_e (ib_nI (by omega) (by decide)), hR.1.2.2.2.1, nI_clamp (by omega), hR.2.2.2.2.2.2.1.2 j hj]
  · have hl := tsz_le (hV.2.2.2.2.2 f hf).2.1
    refine ⟨lt P f j, by rw [e1, e2]; exact colourOf_f l3 hP hc hf hj hl, ?_⟩
    unfold fX10_colourOf
    rw [bd_e e, if_neg (show ¬ (1 : Int32) = 0 by decide), if_neg (by rw [e1]; exact nI_nm1 (by omega)), lt'_e, e1, e2, hs.2, loc_ix, gd_e (ib_nI (by omega) (by decide)), hR.1.2.2.2.2.2.1, nI_clamp (by omega), (hR.2.2.2.2.2.2.2 f hf).2.2.1 j hj]
  · refine ⟨-1, colourOf_0 l3 hP hc hh, ?_⟩
    unfold fX10_colourOf
    rw [bd_e e, if_pos rfl]
