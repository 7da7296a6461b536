/-! the reference's side -/
def RFr (y : Nat) (μ μ' : Mm) : Prop := μ'.2 = μ.2 ∧ (∀ b, b ≠ y → μ'.1 b = μ.1 b) ∧ ∀ k, k ≠ 4 → k ≠ 5 → k ≠ 12 → μ'.1 y k = μ.1 y k
theorem RFr.rf {y : Nat} {μ : Mm} : RFr y μ μ := ⟨rfl, fun _ _ => rfl, fun _ _ _ _ => rfl⟩
theorem RFr.tr {y : Nat} {μ μ1 μ2 : Mm} (h : RFr y μ μ1) (h1 : RFr y μ1 μ2) : RFr y μ μ2 := ⟨h1.1.trans h.1, fun b hb => (h1.2.1 b hb).trans (h.2.1 b hb), fun k a b c => (h1.2.2 k a b c).trans (h.2.2 k a b c)⟩
def RBs (y s : Nat) (t : Nat → Nat) (L tn : Nat) (μ0 : Mm) : Prop := LR y μ0 ∧ (s < 2 ∧ μ0.1 y 6 = nI s ∧ μ0.1 y 14 = nI (1 - s) ∧ μ0.1 y 13 = nI L) ∧ (RB μ0 (y + 1) t tn ∧ L ≤ tn ∧ tn ≤ 12000)
def KR (y s : Nat) (μ0 μ : Mm) : Prop := μ.2 = μ0.2 ∧ (∀ b, b < y → μ.1 b = μ0.1 b) ∧ μ.1 (y + 1) = μ0.1 (y + 1) ∧ μ.1 (y + 2) = μ0.1 (y + 2) ∧ (μ.1 y 2 = μ0.1 y 2 ∧ μ.1 y 3 = μ0.1 y 3 ∧ μ.1 y 6 = μ0.1 y 6 ∧ μ.1 y 13 = μ0.1 y 13 ∧ μ.1 y 14 = μ0.1 y 14) ∧
  (∀ k, k < 6 → μ.1 (y + 3) (6 * s + k) = μ0.1 (y + 3) (6 * s + k)) ∧ (∀ k, k < 256 → μ.1 (y + 4) (256 * s + k) = μ0.1 (y + 4) (256 * s + k)) ∧ (∀ k, k < 240 → μ.1 (y + 5) (240 * s + k) = μ0.1 (y + 5) (240 * s + k)) ∧ (∀ k, k < 6144 → μ.1 (y + 6) (6144 * s + k) = μ0.1 (y + 6) (6144 * s + k)) ∧ (∀ k, k < 98304 → μ.1 (y + 7) (98304 * s + k) = μ0.1 (y + 7) (98304 * s + k))
def RS (y s L : Nat) (μ0 μ : Mm) (z : Zt3) : Prop := KR y s μ0 μ ∧ (μ.1 y 12 = nI z.1 ∧ μ.1 y 4 = nI z.2.1 ∧ μ.1 y 5 = z.2.2) ∧ zO L z
theorem si_e {μ : Mm} {a k b j : Nat} {v : Int32} (h : b ≠ a ∨ j ≠ k) : (si μ a k v).1 b j = μ.1 b j := by
  by_cases c : b = a
  · subst c
    exact si_j (h.resolve_left (fun q => q rfl))
  · rw [si_b c]
theorem KR.wi {y s a k : Nat} {v : Int32} {μ0 μ : Mm} (h : KR y s μ0 μ) (hc : (a = y ∧ k ≠ 2 ∧ k ≠ 3 ∧ k ≠ 6 ∧ k ≠ 13 ∧ k ≠ 14) ∨ (a = y + 3 ∧ (k < 6 * s ∨ 6 * s + 6 ≤ k)) ∨ (a = y + 4 ∧ (k < 256 * s ∨ 256 * s + 256 ≤ k)) ∨ (a = y + 5 ∧ (k < 240 * s ∨ 240 * s + 240 ≤ k)) ∨ (a = y + 6 ∧ (k < 6144 * s ∨ 6144 * s + 6144 ≤ k)) ∨ (a = y + 7 ∧ (k < 98304 * s ∨ 98304 * s + 98304 ≤ k)) ∨ y + 8 ≤ a) : KR y s μ0 (si μ a k v) := by
  obtain ⟨h1, h2, h3, h4, ⟨q2, q3, q6, q13, q14⟩, w3, w4, w5, w6, w7⟩ := h
  refine ⟨h1, fun b hb => by rw [si_b (by omega)]; exact h2 b hb, by rw [si_b (by omega)]; exact h3, by rw [si_b (by omega)]; exact h4, ⟨?_, ?_, ?_, ?_, ?_⟩, fun j hj => ?_, fun j hj => ?_, fun j hj => ?_, fun j hj => ?_, fun j hj => ?_⟩
  · rw [si_e (by omega)]; exact q2
  · rw [si_e (by omega)]; exact q3
  · rw [si_e (by omega)]; exact q6
  · rw [si_e (by omega)]; exact q13
  · rw [si_e (by omega)]; exact q14
  · rw [si_e (by omega)]; exact w3 j hj
  · rw [si_e (by omega)]; exact w4 j hj
  · rw [si_e (by omega)]; exact w5 j hj
  · rw [si_e (by omega)]; exact w6 j hj
  · rw [si_e (by omega)]; exact w7 j hj
theorem KR.rf' {y s : Nat} {μ0 μ μ' : Mm} (h : KR y s μ0 μ) (hf : RFr y μ μ') : KR y s μ0 μ' := by
  obtain ⟨h1, h2, h3, h4, ⟨q2, q3, q6, q13, q14⟩, w3, w4, w5, w6, w7⟩ := h
  obtain ⟨f1, f2, f3⟩ := hf
  refine ⟨f1.trans h1, fun b hb => by rw [f2 b (by omega)]; exact h2 b hb, by rw [f2 _ (by omega)]; exact h3, by rw [f2 _ (by omega)]; exact h4, ⟨?_, ?_, ?_, ?_, ?_⟩, fun j hj => ?_, fun j hj => ?_, fun j hj => ?_, fun j hj => ?_, fun j hj => ?_⟩
  · rw [f3 _ (by decide) (by decide) (by decide)]; exact q2
  · rw [f3 _ (by decide) (by decide) (by decide)]; exact q3
  · rw [f3 _ (by decide) (by decide) (by decide)]; exact q6
  · rw [f3 _ (by decide) (by decide) (by decide)]; exact q13
  · rw [f3 _ (by decide) (by decide) (by decide)]; exact q14
  · rw [f2 _ (by omega)]; exact w3 j hj
  · rw [f2 _ (by omega)]; exact w4 j hj
  · rw [f2 _ (by omega)]; exact w5 j hj
  · rw [f2 _ (by omega)]; exact w6 j hj
  · rw [f2 _ (by omega)]; exact w7 j hj
section RR
variable {y s L tn : Nat} {t : Nat → Nat} {μ0 : Mm}
theorem RBs.ht (hB : RBs y s t L tn μ0) : ∀ j, j < L → t j < 256 := fun j hj => (hB.2.2.1 j (by have := hB.2.2.2.1; omega)).2
theorem RBs.hL (hB : RBs y s t L tn μ0) : L ≤ 12000 := by have := hB.2.2.2.1; have := hB.2.2.2.2; omega
theorem good_R {μ : Mm} {z : Zt3} (h : RS y s L μ0 μ z) : fX10_good y μ = if z.2.1 = 0 then 1 else 0 := by
  unfold fX10_good
  rw [h.2.1.2.1]
  have := h.2.2.2
  by_cases c : z.2.1 = 0
  · rw [if_pos (show nI z.2.1 = 0 by rw [c]; rfl), if_pos c]
  · rw [if_neg (nI_ne0 (by omega) (by omega)), if_neg c]
theorem wr_R {μ : Mm} {z : Zt3} (h : RS y s L μ0 μ z) {k : Nat} {kk v : Int32} (hkk : kk = nI k) (hk : k ≤ 10) : RS y s L μ0 (fX10_wrong y kk v μ) (zW k v z) ∧ RFr y μ (fX10_wrong y kk v μ) := by
  subst hkk
  obtain ⟨h1, ⟨h2, h3, h4⟩, h6⟩ := h
  unfold fX10_wrong zW
  rw [h3]
  have hz := h6.2
  by_cases c : z.2.1 = 0
  · have e : nI z.2.1 = 0 := by rw [c]; rfl
    rw [if_pos e, if_pos c]
    simp only [lt'_e]
    have cf : RFr y μ (si (si μ y 4 (nI k)) y 5 v) := ⟨rfl, fun b hb => by rw [si_b hb, si_b hb], fun j h4 h5 h12 => by rw [si_j h5, si_j h4]⟩
    refine ⟨⟨h1.rf' cf, ⟨?_, ?_, si_k⟩, h6.1, hk⟩, cf⟩
    · rw [si_j (by decide), si_j (by decide)]; exact h2
    · rw [si_j (by decide), si_k]
  · rw [if_neg (nI_ne0 (by omega) (by omega)), if_neg c]
    exact ⟨⟨h1, ⟨h2, h3, h4⟩, h6⟩, RFr.rf⟩
theorem on_R {μ : Mm} {z : Zt3} (hB : RBs y s t L tn μ0) (h : RS y s L μ0 μ z) : ∃ μ', fX10_one y μ = some (nI (zB t L z).1, μ') ∧ RS y s L μ0 μ' (zB t L z).2 ∧ RFr y μ μ' := by
  have hL := hB.hL
  have h0 := h
  obtain ⟨h1, ⟨h2, h3, h4⟩, h6⟩ := h
  have hz := h6.2
  have hz1 := h6.1
  have h13 : μ.1 y 13 = nI L := by rw [h1.2.2.2.2.1.2.2.2.1]; exact hB.2.1.2.2.2
  have hg := good_R h0
  by_cases c : z.2.1 = 0
  · by_cases c2 : z.1 < L
    · rw [zB_1 c c2]
      have cf : RFr y μ (si μ y 12 (nI (z.1 + 1))) := ⟨rfl, fun b hb => by rw [si_b hb], fun j h4 h5 h12 => by rw [si_j h12]⟩
      have k1 := h1.rf' cf
      refine ⟨si μ y 12 (nI (z.1 + 1)), ?_, ⟨k1, ⟨si_k, ?_, ?_⟩, by show z.1 + 1 ≤ L; omega, by show 0 ≤ 10; omega⟩, cf⟩
      · unfold fX10_one fX10_one_L27
        rw [hg, if_pos c, lt'_e, if_neg (show ¬ (1 : Int32) = 0 by decide), h2, h13, if_pos (nI_lt c2 (by omega)), lt'_e, if_neg (show ¬ (1 : Int32) = 0 by decide), nI_1, lt'_e, si_k, nI_pred, r_ib (by omega) (by decide), nI_clamp (by omega)]
        have l0 : (si μ y 12 (nI (z.1 + 1))).2 y 0 = y + 1 := by rw [si_2, h1.1]; exact hB.1.1
        rw [l0, k1.2.2.1, (hB.2.2.1 z.1 (by have := hB.2.2.2.1; omega)).1]
      · rw [si_j (by decide), h3, c]
      · rw [si_j (by decide)]; exact h4
    · rw [zB_0 c c2]
      obtain ⟨g1, g2⟩ := wr_R (k := 2) (kk := 2) (v := nI L) h0 rfl (by decide)
      have e : zW 2 (nI L) z = (z.1, 2, nI L) := if_pos c
      rw [e] at g1
      refine ⟨_, ?_, g1, g2⟩
      unfold fX10_one fX10_one_L27
      rw [hg, if_pos c, lt'_e, if_neg (show ¬ (1 : Int32) = 0 by decide), h2, h13, if_neg (nI_nlt (by omega) (by omega)), lt'_e, good_R g1, if_neg (show ¬ 2 = 0 by decide), lt'_e, if_pos rfl]
      rfl
  · rw [zB_d c]
    refine ⟨μ, ?_, h0, RFr.rf⟩
    unfold fX10_one fX10_one_L27
    rw [hg, if_neg c, lt'_e, if_pos rfl, lt'_e, if_pos rfl]
    rfl
theorem ln_R {μ : Mm} {z : Zt3} (hB : RBs y s t L tn μ0) (h : RS y s L μ0 μ z) {k : Nat} {kk : Int32} (hkk : kk = nI k) (hk : k < 256) : ∃ μ', fX10_length y kk μ = some μ' ∧ RS y s L μ0 μ' (zE t L k z) ∧ RFr y μ μ' := by
  subst hkk
  obtain ⟨μ1, e1, c1, f1⟩ := on_R hB h
  have hb := zB_b (z := z) hB.ht
  unfold fX10_length zE
  rw [lt'_e, bd_e e1]
  show ∃ μ', (if nI (zB t L z).1 = nI k then some μ1 else lt' (fX10_wrong y 5 (μ.1 y 12) μ1) fun μ3 => some μ3) = some μ' ∧ _
  by_cases c : (zB t L z).1 = k
  · rw [if_pos (by rw [c]), if_pos c]
    exact ⟨μ1, rfl, c1, f1⟩
  · rw [if_neg (fun q => c ((nI_eq (by omega) (by omega)).mp q)), if_neg c, lt'_e, h.2.1.1]
    obtain ⟨g1, g2⟩ := wr_R (k := 5) (kk := 5) (v := nI z.1) c1 rfl (by decide)
    exact ⟨_, rfl, g1, f1.tr g2⟩
theorem tw_R {μ : Mm} {z : Zt3} (hB : RBs y s t L tn μ0) (h : RS y s L μ0 μ z) : ∃ μ', fX10_two y μ = some (nI (zTw t L z).1, μ') ∧ RS y s L μ0 μ' (zTw t L z).2 ∧ RFr y μ μ' := by
  obtain ⟨μ1, e1, c1, f1⟩ := on_R hB h
  obtain ⟨μ2, e2, c2, f2⟩ := on_R hB c1
  refine ⟨μ2, ?_, c2, f1.tr f2⟩
  unfold fX10_two
  rw [bd_e e1, lt'_e, bd_e e2]
  show some (nI _ + nI 256 * nI _, μ2) = _
  rw [pk_mul, nI_add]
  rfl
theorem sk_R (hB : RBs y s t L tn μ0) (fu : Nat) {m : Nat} (hm : m ≤ 255) : ∀ (N i : Nat) (μ : Mm) (z : Zt3), i ≤ m → m - i < N → RS y s L μ0 μ z → ∃ μ', fX10_skip_L2 fu N y (nI m) (nI i) μ = some μ' ∧ RS y s L μ0 μ' (zS t L (m - i) z) ∧ RFr y μ μ' := by
  intro N
  induction N with
  | zero => intro i μ z h1 h2; omega
  | succ N ih =>
    intro i μ z h1 h2 h
    show ∃ μ', fX10_skip_B2 (fX10_skip_L2 fu N) fu y (nI m) (nI i) μ = some μ' ∧ _
    unfold fX10_skip_B2
    by_cases c : i = m
    · subst c
      rw [if_pos (nI_le (Nat.le_refl _) (by omega)), Nat.sub_self]
      exact ⟨μ, rfl, h, RFr.rf⟩
    · obtain ⟨μ1, e1, c1, f1⟩ := on_R hB h
      obtain ⟨μ2, e2, c2, f2⟩ := ih (i + 1) μ1 _ (by omega) (by omega) c1
      rw [if_neg (nI_ge (by omega) (by omega)), bd_e e1, lt'_e, nI_1]
      refine ⟨μ2, e2, ?_, f1.tr f2⟩
      rw [show m - i = (m - (i + 1)) + 1 by omega]
      exact c2
end RR
