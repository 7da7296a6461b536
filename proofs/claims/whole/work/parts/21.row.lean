/-! rows of bytes: the class's ByteRow (at r, its array at r + 1), the reference's byte arrays -/
def BR (μ : Mm) (r : Nat) (t : Nat → Nat) (k : Nat) (o : Int32) : Prop := μ.2 r 0 = r + 1 ∧ μ.1 r 1 = nI k ∧ k ≤ 12000 ∧ μ.1 r 2 = o ∧ ∀ j, j < k → μ.1 (r + 1) j = nI (t j) ∧ t j < 256
theorem BR.ag {μ μ' : Mm} {r k lo hi : Nat} {t : Nat → Nat} {o : Int32} (h : BR μ r t k o) (ha : Ag μ μ' lo hi) (hr : r + 2 ≤ lo ∨ hi ≤ r) : BR μ' r t k o := by
  obtain ⟨h1, h2, h3, h4, h5⟩ := h
  have e0 := ha.2 r (by omega)
  have e1 := ha.2 (r + 1) (by omega)
  exact ⟨by rw [ha.1]; exact h1, by rw [e0]; exact h2, h3, by rw [e0]; exact h4, fun j hj => by rw [e1]; exact h5 j hj⟩
theorem BR.eqv {μ : Mm} {r k : Nat} {t t' : Nat → Nat} {o : Int32} (h : BR μ r t k o) (he : ∀ j, j < k → t' j = t j) : BR μ r t' k o := ⟨h.1, h.2.1, h.2.2.1, h.2.2.2.1, fun j hj => by rw [he j hj]; exact h.2.2.2.2 j hj⟩
theorem lit12000 : (12000 : Int32) = nI 12000 := by decide
theorem BR.add {μ : Mm} {r k : Nat} {t : Nat → Nat} {o v : Int32} (h : BR μ r t k o) (hk : k < 12000) : ∃ μ', fX0_add r v μ = some μ' ∧ BR μ' r (u1 t k (by8 v)) (k + 1) o ∧ Ag μ μ' r (r + 2) := by
  obtain ⟨h1, h2, h3, h4, h5⟩ := h
  have hlt : μ.1 r 1 < 12000 := by rw [h2, lit12000]; exact nI_lt hk (by decide)
  have hib : ib (μ.1 r 1) 12000 = true := by rw [h2]; exact ib_nI hk (by decide)
  unfold fX0_add
  rw [if_pos hlt, gd_e hib]
  simp only [lt'_e]
  refine ⟨_, rfl, ⟨h1, ?_, by omega, ?_, fun j hj => ?_⟩, ?_⟩
  · rw [si_k, si_b (by rw [h1]; omega), h2]
    exact nI_1 k
  · rw [si_j (by decide), si_b (by rw [h1]; omega)]
    exact h4
  · rw [si_b (by omega), h1, si_r, h2, nI_clamp (by omega), by8_and]
    by_cases hjk : j = k
    · subst hjk
      rw [u1_k, u1_k]
      exact ⟨rfl, by8_lt v⟩
    · rw [u1_j hjk, u1_j hjk]
      exact h5 j (by omega)
  · exact (Ag.wi (by rw [h1]; omega) (by rw [h1]; omega)).nsi (by omega) (by omega)
theorem BR.full {μ : Mm} {r : Nat} {t : Nat → Nat} {o v : Int32} (h : BR μ r t 12000 o) : ∃ μ', fX0_add r v μ = some μ' ∧ BR μ' r t 12000 1 ∧ Ag μ μ' r (r + 2) := by
  obtain ⟨h1, h2, h3, h4, h5⟩ := h
  have hlt : ¬ μ.1 r 1 < 12000 := by rw [h2, lit12000]; exact nI_nlt (Nat.le_refl _) (by decide)
  unfold fX0_add
  rw [if_neg hlt]
  simp only [lt'_e]
  exact ⟨_, rfl, ⟨h1, by rw [si_j (by decide)]; exact h2, by omega, si_k, fun j hj => by rw [si_b (by omega)]; exact h5 j hj⟩, Ag.wi (by omega) (by omega)⟩
theorem BR.clear {μ : Mm} {r k : Nat} {t : Nat → Nat} {o : Int32} (h : BR μ r t k o) : BR (fX0_clear r μ) r t 0 0 ∧ Ag μ (fX0_clear r μ) r (r + 2) := by
  unfold fX0_clear
  simp only [lt'_e]
  exact ⟨⟨h.1, by rw [si_j (by decide), si_k]; rfl, by omega, si_k, fun j hj => by omega⟩, (Ag.wi (by omega) (by omega)).nsi (by omega) (by omega)⟩
theorem BR.at {μ : Mm} {r k : Nat} {t : Nat → Nat} {o : Int32} (h : BR μ r t k o) (i : Int32) : fX0_at r i μ = some (if i < 0 then -1 else if nI k ≤ i then -1 else nI (t i.toNatClampNeg)) := by
  obtain ⟨h1, h2, h3, h4, h5⟩ := h
  unfold fX0_at
  rw [h2]
  by_cases c1 : i < 0
  · rw [if_pos c1, if_pos c1]
  · rw [if_neg c1, if_neg c1]
    by_cases c2 : nI k ≤ i
    · rw [if_pos c2, if_pos c2]
    · rw [if_neg c2, if_neg c2]
      obtain ⟨j, hj, rfl⟩ := nI_of c1
      have hjk : j < k := by
        rcases Nat.lt_or_ge j k with q | q
        · exact q
        · exact absurd (nI_le q hj) c2
      rw [gd_e (ib_nI (by omega) (by decide)), h1, nI_clamp (by omega), (h5 j hjk).1]
theorem BR.atN {μ : Mm} {r k j : Nat} {t : Nat → Nat} {o : Int32} (h : BR μ r t k o) (hj : j < k) : fX0_at r (nI j) μ = some (nI (t j)) := by
  have h3 := h.2.2.1
  rw [h.at, if_neg (nI_pos (by omega)), if_neg (nI_ge hj (by omega)), nI_clamp (by omega)]
/-- four bytes, the highest first -/
def app4 (t : Nat → Nat) (k : Nat) (v : Int32) : Nat → Nat := u1 (u1 (u1 (u1 t k (by8 (v >>> ((24 : Int32) &&& 31)))) (k + 1) (by8 (v >>> ((16 : Int32) &&& 31)))) (k + 2) (by8 (v >>> ((8 : Int32) &&& 31)))) (k + 3) (by8 v)
theorem BR.addFour {μ : Mm} {r k : Nat} {t : Nat → Nat} {o v : Int32} (h : BR μ r t k o) (hk : k + 4 ≤ 12000) : ∃ μ', fX0_addFour r v μ = some μ' ∧ BR μ' r (app4 t k v) (k + 4) o ∧ Ag μ μ' r (r + 2) := by
  obtain ⟨μ1, e1, b1, a1⟩ := h.add (v := v >>> ((24 : Int32) &&& 31)) (by omega)
  obtain ⟨μ2, e2, b2, a2⟩ := b1.add (v := v >>> ((16 : Int32) &&& 31)) (by omega)
  obtain ⟨μ3, e3, b3, a3⟩ := b2.add (v := v >>> ((8 : Int32) &&& 31)) (by omega)
  obtain ⟨μ4, e4, b4, a4⟩ := b3.add (v := v) (by omega)
  exact ⟨μ4, by unfold fX0_addFour; rw [bd_e e1, bd_e e2, bd_e e3, bd_e e4], b4, ((a1.tr a2).tr a3).tr a4⟩
/-! the reference's bytes -/
def RB (μ : Mm) (a : Nat) (t : Nat → Nat) (k : Nat) : Prop := ∀ j, j < k → μ.1 a j &&& 255 = nI (t j) ∧ t j < 256
theorem RB.ag {μ μ' : Mm} {a k lo hi : Nat} {t : Nat → Nat} (h : RB μ a t k) (ha : Ag μ μ' lo hi) (hr : a < lo ∨ hi ≤ a) : RB μ' a t k := fun j hj => by rw [ha.2 a hr]; exact h j hj
theorem RB.put {μ : Mm} {a k : Nat} {t : Nat → Nat} {x : Int32} (h : RB μ a t k) (y : Int32) (hx : x &&& 255 = y &&& 255) : RB (si μ a k x) a (u1 t k (by8 y)) (k + 1) := by
  intro j hj
  rw [si_r]
  by_cases hjk : j = k
  · subst hjk
    rw [u1_k, u1_k, hx, by8_and]
    exact ⟨rfl, by8_lt y⟩
  · rw [u1_j hjk, u1_j hjk]
    exact h j (by omega)
theorem lit_nI (k : Nat) : (OfNat.ofNat k : Int32) = nI k := rfl
theorem within_ok {μ : Mm} {a k : Nat} {t : Nat → Nat} {v : Int32} (fu : Nat) (hf : 5 ≤ fu) (h : RB μ a t k) (hk : k + 4 ≤ 12020) : ∃ μ', fX10_within fu a (nI k) v μ = some (nI (k + 4), μ') ∧ RB μ' a (app4 t k v) (k + 4) ∧ Ag μ μ' a (a + 1) := by
  obtain ⟨f, rfl⟩ : ∃ f, fu = f + 5 := ⟨fu - 5, by omega⟩
  unfold fX10_within
  have st : ∀ (n : Nat) (i : Nat) (μ : Mm), i < 4 → fX10_within_L2 (f + 5) (n + 1) a (nI k) v (nI i) μ = fX10_within_L2 (f + 5) n a (nI k) v (nI (i + 1)) (si μ a (k + i) (vp_nar .byte ((v >>> ((24 - (8 * nI i)) &&& 31)).toInt8.toInt32))) := by
    intro n i μ hi
    show fX10_within_B2 _ _ _ _ _ _ _ = _
    unfold fX10_within_B2
    rw [if_neg (show ¬ (4 : Int32) ≤ nI i from nI_ge (b := 4) hi (by decide)), nI_add, gd_e (ib_nI (by omega) (by decide)), nI_clamp (by omega)]
    simp only [lt'_e, nI_1]
  have e0 : (0 : Int32) = nI 0 := rfl
  rw [e0, st _ 0 _ (by omega), st _ 1 _ (by omega), st _ 2 _ (by omega), st _ 3 _ (by omega)]
  have fin : ∀ (n : Nat) (μ : Mm), fX10_within_L2 (f + 5) (n + 1) a (nI k) v (nI 4) μ = some (nI (k + 4), μ) := by
    intro n μ
    show fX10_within_B2 _ _ _ _ _ _ _ = _
    unfold fX10_within_B2
    rw [if_pos (show (4 : Int32) ≤ nI 4 from by decide)]
    show some (nI k + nI 4, μ) = _
    rw [nI_add]
  rw [fin]
  refine ⟨_, rfl, ?_, ?_⟩
  · refine RB.put (RB.put (RB.put (RB.put h _ ?_) _ ?_) _ ?_) v ?_
    · rw [nar_b, b_toB]; rfl
    · rw [nar_b, b_toB]; rfl
    · rw [nar_b, b_toB]; rfl
    · rw [nar_b, b_toB, show (24 - 8 * nI 3 : Int32) &&& 31 = (0 : Int32) &&& 31 from by decide, sb_shr0]
  · exact ((((Ag.wi (by omega) (by omega)).nsi (by omega) (by omega)).nsi (by omega) (by omega)).nsi (by omega) (by omega))
