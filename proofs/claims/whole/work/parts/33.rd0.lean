/-! READING. The place in the stream, the fault: one number for both sides -/
abbrev Zt3 : Type := Nat × Nat × Int32
def zB (t : Nat → Nat) (L : Nat) (z : Zt3) : Nat × Zt3 := if z.2.1 = 0 then (if z.1 < L then (t z.1, (z.1 + 1, 0, z.2.2)) else (0, (z.1, 2, nI L))) else (0, z)
def zW (k : Nat) (p : Int32) (z : Zt3) : Zt3 := if z.2.1 = 0 then (z.1, k, p) else z
def zE (t : Nat → Nat) (L k : Nat) (z : Zt3) : Zt3 := if (zB t L z).1 = k then (zB t L z).2 else zW 5 (nI z.1) (zB t L z).2
def zTw (t : Nat → Nat) (L : Nat) (z : Zt3) : Nat × Zt3 := ((zB t L z).1 + 256 * (zB t L (zB t L z).2).1, (zB t L (zB t L z).2).2)
def zS (t : Nat → Nat) (L : Nat) : Nat → Zt3 → Zt3
  | 0, z => z
  | k + 1, z => zS t L k (zB t L z).2
/-- the place stays within the stream; a fault has a kind -/
def zO (L : Nat) (z : Zt3) : Prop := z.1 ≤ L ∧ z.2.1 ≤ 10
theorem zB_b {t : Nat → Nat} {L : Nat} {z : Zt3} (ht : ∀ j, j < L → t j < 256) : (zB t L z).1 < 256 := by
  unfold zB
  split
  · split
    · exact ht _ (by assumption)
    · exact (by decide : 0 < 256)
  · exact (by decide : 0 < 256)
theorem zB_o {t : Nat → Nat} {L : Nat} {z : Zt3} (h : zO L z) : zO L (zB t L z).2 := by
  obtain ⟨h1, h2⟩ := h
  unfold zB zO
  split
  · split
    · exact ⟨by show z.1 + 1 ≤ L; omega, by show 0 ≤ 10; omega⟩
    · exact ⟨h1, by show 2 ≤ 10; omega⟩
  · exact ⟨h1, h2⟩
theorem zW_o {L k : Nat} {p : Int32} {z : Zt3} (h : zO L z) (hk : k ≤ 10) : zO L (zW k p z) := by
  obtain ⟨h1, h2⟩ := h
  unfold zW zO
  split
  · exact ⟨h1, hk⟩
  · exact ⟨h1, h2⟩
theorem zE_o {t : Nat → Nat} {L k : Nat} {z : Zt3} (h : zO L z) : zO L (zE t L k z) := by
  unfold zE
  split
  · exact zB_o h
  · exact zW_o (zB_o h) (by decide)
theorem zTw_o {t : Nat → Nat} {L : Nat} {z : Zt3} (h : zO L z) : zO L (zTw t L z).2 := zB_o (zB_o h)
theorem zTw_b {t : Nat → Nat} {L : Nat} {z : Zt3} (ht : ∀ j, j < L → t j < 256) : (zTw t L z).1 < 65536 := by
  have h1 := zB_b (z := z) ht
  have h2 := zB_b (z := (zB t L z).2) ht
  show _ + 256 * _ < 65536
  omega
theorem zS_o {t : Nat → Nat} {L : Nat} : ∀ k z, zO L z → zO L (zS t L k z) := by
  intro k
  induction k with
  | zero => intro z h; exact h
  | succ k ih => intro z h; exact ih _ (zB_o h)
/-- alive behind a byte: alive before it, and one place on -/
theorem zB_l {t : Nat → Nat} {L : Nat} {z : Zt3} (h : (zB t L z).2.2.1 = 0) : z.2.1 = 0 ∧ z.1 < L ∧ (zB t L z).2.1 = z.1 + 1 ∧ (zB t L z).1 = t z.1 ∧ (zB t L z).2.2.2 = z.2.2 := by
  unfold zB at h ⊢
  by_cases c : z.2.1 = 0
  · rw [if_pos c] at h ⊢
    by_cases c2 : z.1 < L
    · rw [if_pos c2]; exact ⟨c, c2, rfl, rfl, rfl⟩
    · rw [if_neg c2] at h; exact absurd h (show ¬ 2 = 0 by decide)
  · rw [if_neg c] at h; exact absurd h c
theorem zB_1 {t : Nat → Nat} {L : Nat} {z : Zt3} (h : z.2.1 = 0) (hL : z.1 < L) : zB t L z = (t z.1, (z.1 + 1, 0, z.2.2)) := by
  unfold zB
  rw [if_pos h, if_pos hL]
theorem zB_0 {t : Nat → Nat} {L : Nat} {z : Zt3} (h : z.2.1 = 0) (hL : ¬ z.1 < L) : zB t L z = (0, (z.1, 2, nI L)) := by
  unfold zB
  rw [if_pos h, if_neg hL]
theorem zB_d {t : Nat → Nat} {L : Nat} {z : Zt3} (h : ¬ z.2.1 = 0) : zB t L z = (0, z) := by
  unfold zB
  rw [if_neg h]
theorem zW_l {k : Nat} {p : Int32} {z : Zt3} (hk : k ≠ 0) : ¬ (zW k p z).2.1 = 0 := by
  unfold zW
  split
  · exact hk
  · assumption
theorem zW_d {k : Nat} {p : Int32} {z : Zt3} (h : ¬ z.2.1 = 0) : zW k p z = z := if_neg h
/-! the class's side -/
def CF (n : Nat) (μ μ' : Mm) : Prop := μ'.2 = μ.2 ∧ (∀ b, b ≠ n + 1 → μ'.1 b = μ.1 b) ∧ ∀ k, k ≠ 5 → k ≠ 9 → k ≠ 10 → μ'.1 (n + 1) k = μ.1 (n + 1) k
theorem CF.rf {n : Nat} {μ : Mm} : CF n μ μ := ⟨rfl, fun _ _ => rfl, fun _ _ _ _ => rfl⟩
theorem CF.tr {n : Nat} {μ μ1 μ2 : Mm} (h : CF n μ μ1) (h1 : CF n μ1 μ2) : CF n μ μ2 := ⟨h1.1.trans h.1, fun b hb => (h1.2.1 b hb).trans (h.2.1 b hb), fun k a b c => (h1.2.2 k a b c).trans (h.2.2 k a b c)⟩
/-- what holds of the memory at the beginning, and stays -/
def CB (n d : Nat) (t : Nat → Nat) (L tn : Nat) (μ0 : Mm) : Prop := ((μ0.2 (n + 1) 0 = n + 2 ∧ μ0.2 (n + 1) 1 = n + 4 ∧ μ0.2 (n + 1) 2 = n + 12 ∧ μ0.2 (n + 1) 3 = d) ∧ (μ0.2 (n + 4) 0 = n + 5 ∧ μ0.2 (n + 4) 1 = n + 7 ∧ μ0.2 (n + 4) 2 = n + 8 ∧ μ0.2 (n + 4) 3 = n + 9 ∧ μ0.2 (n + 4) 4 = n + 10 ∧ μ0.2 (n + 4) 5 = n + 11)) ∧ LPi μ0 d ∧ BR μ0 (n + 2) t tn 0 ∧ L ≤ tn ∧ (d = n + 13 ∨ d = n + 139)
def KC (n d : Nat) (μ0 μ : Mm) : Prop := μ.2 = μ0.2 ∧ (∀ b, b ≠ n + 1 → (b < n + 4 ∨ n + 13 ≤ b) → (b < d ∨ d + 124 ≤ b) → μ.1 b = μ0.1 b) ∧ ∃ tw kw ow, BR μ (n + 5) tw kw ow
def CS (n d L : Nat) (μ0 μ : Mm) (z : Zt3) : Prop := KC n d μ0 μ ∧ (μ.1 (n + 1) 4 = nI L ∧ μ.1 (n + 1) 5 = nI z.1 ∧ μ.1 (n + 1) 9 = nI z.2.1 ∧ μ.1 (n + 1) 10 = z.2.2) ∧ zO L z
theorem KC.cf {n d : Nat} {μ0 μ μ' : Mm} (h : KC n d μ0 μ) (hf : CF n μ μ') : KC n d μ0 μ' := by
  obtain ⟨h1, h2, tw, kw, ow, h3⟩ := h
  refine ⟨hf.1.trans h1, fun b hb hb2 hb3 => (hf.2.1 b hb).trans (h2 b hb hb2 hb3), tw, kw, ow, ?_⟩
  have e5 := hf.2.1 (n + 5) (by omega)
  have e6 := hf.2.1 (n + 5 + 1) (by omega)
  obtain ⟨b1, b2, b3, b4, b5⟩ := h3
  exact ⟨by rw [hf.1]; exact b1, by rw [e5]; exact b2, b3, by rw [e5]; exact b4, fun j hj => by rw [e6]; exact b5 j hj⟩
section RC
variable {n d L tn : Nat} {t : Nat → Nat} {μ0 : Mm}
theorem CB.ht (hB : CB n d t L tn μ0) : ∀ j, j < L → t j < 256 := fun j hj => (hB.2.2.1.2.2.2.2 j (by have := hB.2.2.2.1; omega)).2
theorem CB.hL (hB : CB n d t L tn μ0) : L ≤ 12000 := by have := hB.2.2.2.1; have := hB.2.2.1.2.2.1; omega
theorem KC.tape (hB : CB n d t L tn μ0) {μ : Mm} (h : KC n d μ0 μ) : BR μ (n + 2) t tn 0 := by
  obtain ⟨b1, b2, b3, b4, b5⟩ := hB.2.2.1
  have hd := hB.2.2.2.2
  have e2 := h.2.1 (n + 2) (by omega) (by omega) (by omega)
  have e3 := h.2.1 (n + 2 + 1) (by omega) (by omega) (by omega)
  exact ⟨by rw [h.1]; exact b1, by rw [e2]; exact b2, b3, by rw [e2]; exact b4, fun j hj => by rw [e3]; exact b5 j hj⟩
theorem rf_C {μ : Mm} {z : Zt3} (hB : CB n d t L tn μ0) (h : CS n d L μ0 μ z) {k : Nat} {kk v : Int32} (hkk : kk = nI k) (hk : k ≤ 10) : CS n d L μ0 (fX5_refuse (n + 1) kk v μ) (zW k v z) ∧ CF n μ (fX5_refuse (n + 1) kk v μ) := by
  subst hkk
  obtain ⟨h1, ⟨h2, h3, h4, h5⟩, h6⟩ := h
  unfold fX5_refuse zW
  rw [h4]
  have hz := h6.2
  by_cases c : z.2.1 = 0
  · have e : nI z.2.1 = 0 := by rw [c]; rfl
    rw [if_pos e, if_pos c]
    simp only [lt'_e]
    have cf : CF n μ (si (si μ (n + 1) 9 (nI k)) (n + 1) 10 v) := ⟨rfl, fun b hb => by rw [si_b hb, si_b hb], fun j h5 h9 h10 => by rw [si_j h10, si_j h9]⟩
    refine ⟨⟨h1.cf cf, ⟨?_, ?_, ?_, si_k⟩, h6.1, hk⟩, cf⟩
    · rw [si_j (by decide), si_j (by decide)]; exact h2
    · rw [si_j (by decide), si_j (by decide)]; exact h3
    · rw [si_j (by decide), si_k]
  · rw [if_neg (nI_ne0 (by omega) (by omega)), if_neg c]
    exact ⟨⟨h1, ⟨h2, h3, h4, h5⟩, h6⟩, CF.rf⟩
theorem nb_C {μ : Mm} {z : Zt3} (hB : CB n d t L tn μ0) (h : CS n d L μ0 μ z) : ∃ μ', fX5_nextByte (n + 1) μ = some (nI (zB t L z).1, μ') ∧ CS n d L μ0 μ' (zB t L z).2 ∧ CF n μ μ' := by
  have hL := hB.hL
  have h0 := h
  obtain ⟨h1, ⟨h2, h3, h4, h5⟩, h6⟩ := h
  have hz := h6.2
  have hz1 := h6.1
  by_cases c : z.2.1 = 0
  · by_cases c2 : z.1 < L
    · rw [zB_1 c c2]
      have cf : CF n μ (si μ (n + 1) 5 (nI (z.1 + 1))) := ⟨rfl, fun b hb => by rw [si_b hb], fun j h5 h9 h10 => by rw [si_j h5]⟩
      refine ⟨si μ (n + 1) 5 (nI (z.1 + 1)), ?_, ⟨h1.cf cf, ⟨?_, si_k, ?_, ?_⟩, by show z.1 + 1 ≤ L; omega, by show 0 ≤ 10; omega⟩, cf⟩
      · unfold fX5_nextByte fX5_nextByte_L20
        rw [h2, h3, h4, if_pos (nI_lt c2 (by omega)), if_pos (show nI z.2.1 = 0 by rw [c]; rfl)]
        simp only [lt'_e]
        rw [nI_1, si_k, nI_pred]
        have tp := (h1.cf cf).tape hB
        rw [show (si μ (n + 1) 5 (nI (z.1 + 1))).2 (n + 1) 0 = n + 2 by rw [si_2, h1.1]; exact hB.1.1.1, bd_e (tp.atN (by have := hB.2.2.2.1; omega))]
      · rw [si_j (by decide)]; exact h2
      · rw [si_j (by decide), h4, c]
      · rw [si_j (by decide)]; exact h5
    · rw [zB_0 c c2]
      obtain ⟨g1, g2⟩ := rf_C (k := 2) (kk := 2) (v := nI L) hB h0 rfl (by decide)
      have e : zW 2 (nI L) z = (z.1, 2, nI L) := if_pos c
      rw [e] at g1
      refine ⟨_, ?_, g1, g2⟩
      unfold fX5_nextByte fX5_nextByte_L20
      rw [h2, h3, if_neg (nI_nlt (by omega) (by omega)), lt'_e]
      have e9 : (fX5_refuse (n + 1) 2 (nI L) μ).1 (n + 1) 9 = nI 2 := g1.2.1.2.2.1
      rw [e9, if_neg (by decide)]
      rfl
  · rw [zB_d c]
    refine ⟨μ, ?_, h0, CF.rf⟩
    unfold fX5_nextByte fX5_nextByte_L20
    have ne : ¬ nI z.2.1 = 0 := nI_ne0 (by omega) (by omega)
    have er : fX5_refuse (n + 1) 2 (μ.1 (n + 1) 4) μ = μ := by unfold fX5_refuse; rw [h4, if_neg ne]
    have : ∀ (c : Prop) [Decidable c] (z : Option (Int32 × Mm)), (if c then z else z) = z := fun c _ z => by split <;> rfl
    rw [er]
    simp only [lt'_e, h4, if_neg ne, this]
    rfl
theorem ex_C {μ : Mm} {z : Zt3} (hB : CB n d t L tn μ0) (h : CS n d L μ0 μ z) {k : Nat} {kk : Int32} (hkk : kk = nI k) (hk : k < 256) : ∃ μ', fX5_expect (n + 1) kk μ = some μ' ∧ CS n d L μ0 μ' (zE t L k z) ∧ CF n μ μ' := by
  subst hkk
  obtain ⟨μ1, e1, c1, f1⟩ := nb_C hB h
  have hb := zB_b (z := z) hB.ht
  unfold fX5_expect zE
  rw [lt'_e, bd_e e1]
  show ∃ μ', (if nI (zB t L z).1 = nI k then some μ1 else lt' (fX5_refuse (n + 1) 5 (μ.1 (n + 1) 5) μ1) fun μ3 => some μ3) = some μ' ∧ _
  by_cases c : (zB t L z).1 = k
  · rw [if_pos (by rw [c]), if_pos c]
    exact ⟨μ1, rfl, c1, f1⟩
  · rw [if_neg (fun q => c ((nI_eq (by omega) (by omega)).mp q)), if_neg c, lt'_e, h.2.1.2.1]
    obtain ⟨g1, g2⟩ := rf_C (k := 5) (kk := 5) (v := nI z.1) hB c1 rfl (by decide)
    exact ⟨_, rfl, g1, f1.tr g2⟩
theorem sh8 {x : Nat} (h : x < 256) : nI x <<< ((8 : Int32) &&& 31) = nI (256 * x) := by
  rw [pk_shlN _ 8 (by decide) (by omega)]
  congr 1
  omega
theorem sh16 {x : Nat} (h : x < 256) : nI x <<< ((16 : Int32) &&& 31) = nI (65536 * x) := by
  rw [pk_shlN _ 16 (by decide) (by omega)]
  congr 1
  omega
theorem nn_C {μ : Mm} {z : Zt3} (hB : CB n d t L tn μ0) (h : CS n d L μ0 μ z) : ∃ μ', fX5_nextNumber (n + 1) μ = some (nI (zTw t L z).1, μ') ∧ CS n d L μ0 μ' (zTw t L z).2 ∧ CF n μ μ' := by
  obtain ⟨μ1, e1, c1, f1⟩ := nb_C hB h
  obtain ⟨μ2, e2, c2, f2⟩ := nb_C hB c1
  refine ⟨μ2, ?_, c2, f1.tr f2⟩
  unfold fX5_nextNumber
  rw [bd_e e1, lt'_e, bd_e e2]
  show some (nI _ + nI _ <<< ((8 : Int32) &&& 31), μ2) = _
  rw [sh8 (zB_b hB.ht), nI_add]
  rfl
theorem sk_C (hB : CB n d t L tn μ0) (fu : Nat) {m : Nat} (hm : m ≤ 255) : ∀ (N i : Nat) (μ : Mm) (z : Zt3), i ≤ m → m - i < N → CS n d L μ0 μ z → ∃ μ', fX5_skip_L2 fu N (n + 1) (nI m) (nI i) μ = some μ' ∧ CS n d L μ0 μ' (zS t L (m - i) z) ∧ CF n μ μ' := by
  intro N
  induction N with
  | zero => intro i μ z h1 h2; omega
  | succ N ih =>
    intro i μ z h1 h2 h
    show ∃ μ', fX5_skip_B2 (fX5_skip_L2 fu N) fu (n + 1) (nI m) (nI i) μ = some μ' ∧ _
    unfold fX5_skip_B2
    by_cases c : i = m
    · subst c
      rw [if_pos (nI_le (Nat.le_refl _) (by omega)), Nat.sub_self]
      exact ⟨μ, rfl, h, CF.rf⟩
    · obtain ⟨μ1, e1, c1, f1⟩ := nb_C hB h
      obtain ⟨μ2, e2, c2, f2⟩ := ih (i + 1) μ1 _ (by omega) (by omega) c1
      rw [if_neg (nI_ge (by omega) (by omega)), bd_e e1, lt'_e, nI_1]
      refine ⟨μ2, e2, ?_, f1.tr f2⟩
      rw [show m - i = (m - (i + 1)) + 1 by omega]
      exact c2
end RC
