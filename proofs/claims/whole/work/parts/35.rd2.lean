/-! tables in a stream -/
theorem zS_d {t : Nat → Nat} {L : Nat} : ∀ k (z : Zt3), ¬ z.2.1 = 0 → zS t L k z = z := by
  intro k
  induction k with
  | zero => intro z _; rfl
  | succ k ih =>
    intro z h
    show zS t L k (zB t L z).2 = z
    rw [zB_d h]
    exact ih z h
theorem zS_l {t : Nat → Nat} {L : Nat} : ∀ k (z : Zt3), (zS t L k z).2.1 = 0 → z.2.1 = 0 ∧ (zS t L k z).1 = z.1 + k ∧ z.1 + k ≤ max L z.1 ∧ (zS t L k z).2.2 = z.2.2 := by
  intro k
  induction k with
  | zero => intro z h; exact ⟨h, rfl, by omega, rfl⟩
  | succ k ih =>
    intro z h
    obtain ⟨h1, h2, h3, h4⟩ := ih (zB t L z).2 h
    obtain ⟨g1, g2, g3, g4, g5⟩ := zB_l h1
    refine ⟨g1, ?_, by omega, ?_⟩
    · show (zS t L k (zB t L z).2).1 = _
      rw [h2, g3]; omega
    · show (zS t L k (zB t L z).2).2.2 = _
      rw [h4, g5]
theorem zS_1 {t : Nat → Nat} {L : Nat} : ∀ k (z : Zt3), z.2.1 = 0 → z.1 + k ≤ L → zS t L k z = (z.1 + k, 0, z.2.2) := by
  intro k
  induction k with
  | zero =>
    intro z h _
    obtain ⟨a, k, q⟩ := z
    have hk : k = 0 := h
    subst hk
    rfl
  | succ k ih =>
    intro z h hL
    show zS t L k (zB t L z).2 = _
    rw [zB_1 h (by omega), ih (z.1 + 1, 0, z.2.2) rfl (by show z.1 + 1 + k ≤ L; omega)]
    show (z.1 + 1 + k, 0, z.2.2) = _
    rw [show z.1 + 1 + k = z.1 + (k + 1) by omega]
theorem zS_0 {t : Nat → Nat} {L : Nat} : ∀ k (z : Zt3), z.2.1 = 0 → z.1 ≤ L → L < z.1 + k → zS t L k z = (L, 2, nI L) := by
  intro k
  induction k with
  | zero => intro z h h1 h2; omega
  | succ k ih =>
    intro z h h1 h2
    show zS t L k (zB t L z).2 = _
    by_cases c : z.1 < L
    · rw [zB_1 h c]
      exact ih (z.1 + 1, 0, z.2.2) rfl c (by show L < z.1 + 1 + k; omega)
    · rw [zB_0 h c, zS_d _ _ (show ¬ 2 = 0 by decide)]
      show (z.1, 2, nI L) = _
      rw [show z.1 = L by omega]
theorem zS_a {t : Nat → Nat} {L : Nat} : ∀ a b (z : Zt3), zS t L (a + b) z = zS t L b (zS t L a z) := by
  intro a
  induction a with
  | zero => intro b z; rw [Nat.zero_add]; rfl
  | succ a ih =>
    intro b z
    rw [show a + 1 + b = (a + b) + 1 by omega]
    exact ih b _
def rgbE (a b c : Nat) : Int32 := ((nI a <<< ((16 : Int32) &&& 31)) ||| (nI b <<< ((8 : Int32) &&& 31))) ||| nI c
def tbC (t : Nat → Nat) (a k : Nat) : Int32 := rgbE (t (a + 3 * k)) (t (a + 3 * k + 1)) (t (a + 3 * k + 2))
/-- as CF, and one cell more -/
def CFd (n a : Nat) (μ μ' : Mm) : Prop := μ'.2 = μ.2 ∧ (∀ b, b ≠ n + 1 → b ≠ a → μ'.1 b = μ.1 b) ∧ ∀ k, k ≠ 5 → k ≠ 9 → k ≠ 10 → μ'.1 (n + 1) k = μ.1 (n + 1) k
theorem CF.d {n a : Nat} {μ μ' : Mm} (h : CF n μ μ') : CFd n a μ μ' := ⟨h.1, fun b h1 _ => h.2.1 b h1, h.2.2⟩
theorem CFd.tr {n a : Nat} {μ μ1 μ2 : Mm} (h : CFd n a μ μ1) (h1 : CFd n a μ1 μ2) : CFd n a μ μ2 := ⟨h1.1.trans h.1, fun b hb hb2 => (h1.2.1 b hb hb2).trans (h.2.1 b hb hb2), fun k a b c => (h1.2.2 k a b c).trans (h.2.2 k a b c)⟩
theorem CFd.wi {n a k : Nat} {v : Int32} {μ : Mm} (h : a ≠ n + 1) : CFd n a μ (si μ a k v) := ⟨rfl, fun b _ hb => si_b hb, fun k _ _ _ => by rw [si_b (fun q => h q.symm)]⟩
theorem KC.wd {n d a k : Nat} {v : Int32} {μ0 μ : Mm} (h : KC n d μ0 μ) (ha : d ≤ a ∧ a < d + 124) (hd : n + 13 ≤ d) : KC n d μ0 (si μ a k v) := by
  obtain ⟨h1, h2, tw, kw, ow, h3⟩ := h
  refine ⟨h1, fun b hb hb2 hb3 => by rw [si_b (by omega)]; exact h2 b hb hb2 hb3, tw, kw, ow, ?_⟩
  exact h3.ag (Ag.wi (lo := a) (hi := a + 1) (by omega) (by omega)) (by omega)
theorem CS.wd {n d L a k : Nat} {v : Int32} {μ0 μ : Mm} {z : Zt3} (h : CS n d L μ0 μ z) (ha : d ≤ a ∧ a < d + 124) (hd : n + 13 ≤ d) : CS n d L μ0 (si μ a k v) z := by
  refine ⟨h.1.wd ha hd, ?_, h.2.2⟩
  rw [si_b (by omega)]
  exact h.2.1
theorem pt_C {n d L tn : Nat} {t : Nat → Nat} {μ0 : Mm} (hB : CB n d t L tn μ0) (fu : Nat) {T g : Nat} (hT : d ≤ T ∧ T + 1 < d + 124) (hl : μ0.2 T 0 = T + 1) (hg : g ≤ 256) : ∀ (N i : Nat) (μ : Mm) (z : Zt3), i ≤ g → g - i < N → CS n d L μ0 μ z → μ.1 T 1 = nI g → ∃ μ', fX5_parseTable_L2 fu N (n + 1) T (nI i) μ = some μ' ∧ CS n d L μ0 μ' (zS t L (3 * (g - i)) z) ∧ CFd n (T + 1) μ μ' ∧ (∀ k, k < i → μ'.1 (T + 1) k = μ.1 (T + 1) k) ∧ ((zS t L (3 * (g - i)) z).2.1 = 0 → ∀ k, i ≤ k → k < g → μ'.1 (T + 1) k = tbC t z.1 (k - i)) := by
  have hd := hB.2.2.2.2
  intro N
  induction N with
  | zero => intro i μ z h1 h2; omega
  | succ N ih =>
    intro i μ z h1 h2 h hs
    show ∃ μ', fX5_parseTable_B2 (fX5_parseTable_L2 fu N) fu (n + 1) T (nI i) μ = some μ' ∧ _
    unfold fX5_parseTable_B2
    rw [hs]
    by_cases c : i = g
    · subst c
      rw [if_pos (nI_le (Nat.le_refl _) (by omega)), Nat.sub_self]
      exact ⟨μ, rfl, h, CF.rf.d, fun _ _ => rfl, fun _ k h1 h2 => by omega⟩
    · obtain ⟨μ1, e1, c1, f1⟩ := nb_C hB h
      obtain ⟨μ2, e2, c2, f2⟩ := nb_C hB c1
      obtain ⟨μ3, e3, c3, f3⟩ := nb_C hB c2
      obtain ⟨v, ev⟩ : ∃ v, v = rgbE (zB t L z).1 (zB t L (zB t L z).2).1 (zB t L (zB t L (zB t L z).2).2).1 := ⟨_, rfl⟩
      have c4 := c3.wd (a := T + 1) (k := i) (v := v) (by omega) (by omega)
      have ff : CFd n (T + 1) μ (si μ3 (T + 1) i v) := (((f1.tr f2).tr f3).d).tr (CFd.wi (by omega))
      have fT : (si μ3 (T + 1) i v).1 T 1 = nI g := by rw [ff.2.1 T (by omega) (by omega)]; exact hs
      obtain ⟨μ', e, cc, ff2, lo, hi⟩ := ih (i + 1) _ _ (by omega) (by omega) c4 fT
      have ez : zS t L (3 * (g - i)) z = zS t L (3 * (g - (i + 1))) (zB t L (zB t L (zB t L z).2).2).2 := by
        rw [show 3 * (g - i) = 3 * (g - (i + 1)) + 1 + 1 + 1 by omega]
        rfl
      rw [if_neg (nI_ge (by omega) (by omega)), bd_e e1, lt'_e, bd_e e2, lt'_e, bd_e e3, lt'_e, r_ib (by omega) (by decide), lt'_e, lt'_e, nI_clamp (by omega), nI_1]
      have l3 : (nI (zB t L (zB t L (zB t L z).2).2).1, μ3).2.2 T 0 = T + 1 := by
        show μ3.2 T 0 = T + 1
        rw [c3.1.1]; exact hl
      rw [l3]
      refine ⟨μ', ?_, by rw [ez]; exact cc, ff.tr ff2, fun k hk => ?_, fun hz k h1 h2 => ?_⟩
      · show fX5_parseTable_L2 fu N (n + 1) T (nI (i + 1)) (si μ3 (T + 1) i (rgbE _ _ _)) = _
        rw [← ev]; exact e
      · rw [lo k (by omega), si_j (by omega), ((f1.tr f2).tr f3).2.1 _ (by omega)]
      · rw [ez] at hz
        obtain ⟨a1, a2, a3, a4⟩ := zS_l _ _ hz
        obtain ⟨b1, b2, b3, b4, b5⟩ := zB_l a1
        obtain ⟨d1, d2, d3, d4, d5⟩ := zB_l b1
        obtain ⟨g1, g2, g3, g4, g5⟩ := zB_l d1
        by_cases hk : k = i
        · subst hk
          rw [lo k (by omega), si_k, ev, g4, d4, b4, d3, g3, Nat.sub_self]
          rfl
        · rw [hi hz k (by omega) h2, b3, d3, g3]
          unfold tbC
          rw [show z.1 + 1 + 1 + 1 + 3 * (k - (i + 1)) = z.1 + 3 * (k - i) by omega]
def RFd (y a : Nat) (μ μ' : Mm) : Prop := μ'.2 = μ.2 ∧ (∀ b, b ≠ y → b ≠ a → μ'.1 b = μ.1 b) ∧ ∀ k, k ≠ 4 → k ≠ 5 → k ≠ 12 → μ'.1 y k = μ.1 y k
theorem RFr.d {y a : Nat} {μ μ' : Mm} (h : RFr y μ μ') : RFd y a μ μ' := ⟨h.1, fun b h1 _ => h.2.1 b h1, h.2.2⟩
theorem RFd.tr {y a : Nat} {μ μ1 μ2 : Mm} (h : RFd y a μ μ1) (h1 : RFd y a μ1 μ2) : RFd y a μ μ2 := ⟨h1.1.trans h.1, fun b hb hb2 => (h1.2.1 b hb hb2).trans (h.2.1 b hb hb2), fun k a b c => (h1.2.2 k a b c).trans (h.2.2 k a b c)⟩
theorem RFd.wi {y a k : Nat} {v : Int32} {μ : Mm} (h : a ≠ y) : RFd y a μ (si μ a k v) := ⟨rfl, fun b _ hb => si_b hb, fun k _ _ _ => by rw [si_b (fun q => h q.symm)]⟩
theorem RS.wi {y s L a k : Nat} {v : Int32} {μ0 μ : Mm} {z : Zt3} (h : RS y s L μ0 μ z) (hc : (a = y ∧ k ≠ 2 ∧ k ≠ 3 ∧ k ≠ 6 ∧ k ≠ 13 ∧ k ≠ 14 ∧ k ≠ 12 ∧ k ≠ 4 ∧ k ≠ 5) ∨ (a = y + 3 ∧ (k < 6 * s ∨ 6 * s + 6 ≤ k)) ∨ (a = y + 4 ∧ (k < 256 * s ∨ 256 * s + 256 ≤ k)) ∨ (a = y + 5 ∧ (k < 240 * s ∨ 240 * s + 240 ≤ k)) ∨ (a = y + 6 ∧ (k < 6144 * s ∨ 6144 * s + 6144 ≤ k)) ∨ (a = y + 7 ∧ (k < 98304 * s ∨ 98304 * s + 98304 ≤ k)) ∨ y + 8 ≤ a) : RS y s L μ0 (si μ a k v) z := by
  refine ⟨h.1.wi (by omega), ?_, h.2.2⟩
  rw [si_e (by omega), si_e (by omega), si_e (by omega)]
  exact h.2.1
theorem rt_R {y s L tn : Nat} {t : Nat → Nat} {μ0 : Mm} (hB : RBs y s t L tn μ0) (fu ln : Nat) {A F g : Nat} (hA : A ≠ y) (hln : F + g ≤ ln) (hln2 : ln < 2 ^ 31) (hw : ∀ (μ : Mm) (z : Zt3) (k : Nat) (v : Int32), k < g → RS y s L μ0 μ z → RS y s L μ0 (si μ A (F + k) v) z) : ∀ (N i : Nat) (μ : Mm) (z : Zt3), i ≤ g → g - i < N → RS y s L μ0 μ z → ∃ μ', fX10_readTable_L3 fu ln N y A (nI F) (nI g) (nI i) μ = some μ' ∧ RS y s L μ0 μ' (zS t L (3 * (g - i)) z) ∧ RFd y A μ μ' ∧ (∀ k, k < F + i ∨ F + g ≤ k → μ'.1 A k = μ.1 A k) ∧ ((zS t L (3 * (g - i)) z).2.1 = 0 → ∀ k, i ≤ k → k < g → μ'.1 A (F + k) = tbC t z.1 (k - i)) := by
  intro N
  induction N with
  | zero => intro i μ z h1 h2; omega
  | succ N ih =>
    intro i μ z h1 h2 h
    show ∃ μ', fX10_readTable_B3 (fX10_readTable_L3 fu ln N) fu ln y A (nI F) (nI g) (nI i) μ = some μ' ∧ _
    unfold fX10_readTable_B3
    by_cases c : i = g
    · subst c
      rw [if_pos (nI_le (Nat.le_refl _) (by omega)), Nat.sub_self]
      exact ⟨μ, rfl, h, RFr.rf.d, fun _ _ => rfl, fun _ k h1 h2 => by omega⟩
    · rw [if_neg (nI_ge (by omega) (by omega)), good_R h, lt'_e]
      by_cases cz : z.2.1 = 0
      · obtain ⟨μ1, e1, c1, f1⟩ := on_R hB h
        obtain ⟨μ2, e2, c2, f2⟩ := on_R hB c1
        obtain ⟨μ3, e3, c3, f3⟩ := on_R hB c2
        obtain ⟨v, ev⟩ : ∃ v, v = rgbE (zB t L z).1 (zB t L (zB t L z).2).1 (zB t L (zB t L (zB t L z).2).2).1 := ⟨_, rfl⟩
        have c4 := hw μ3 _ i v (by omega) c3
        have ff : RFd y A μ (si μ3 A (F + i) v) := (((f1.tr f2).tr f3).d).tr (RFd.wi hA)
        obtain ⟨μ', e, cc, ff2, lo, hi⟩ := ih (i + 1) _ _ (by omega) (by omega) c4
        have ez : zS t L (3 * (g - i)) z = zS t L (3 * (g - (i + 1))) (zB t L (zB t L (zB t L z).2).2).2 := by
          rw [show 3 * (g - i) = 3 * (g - (i + 1)) + 1 + 1 + 1 by omega]
          rfl
        rw [if_pos cz, if_neg (show ¬ (1 : Int32) = 0 by decide), bd_e e1, lt'_e, bd_e e2, lt'_e, bd_e e3, nI_add, r_ib (by omega) hln2, lt'_e, lt'_e, nI_clamp (by omega), nI_1]
        refine ⟨μ', ?_, by rw [ez]; exact cc, ff.tr ff2, fun k hk => ?_, fun hz k h1 h2 => ?_⟩
        · show fX10_readTable_L3 fu ln N y A (nI F) (nI g) (nI (i + 1)) (si μ3 A (F + i) (rgbE _ _ _)) = _
          rw [← ev]; exact e
        · rw [lo k (by omega), si_j (by omega), ((f1.tr f2).tr f3).2.1 _ hA]
        · rw [ez] at hz
          obtain ⟨a1, a2, a3, a4⟩ := zS_l _ _ hz
          obtain ⟨b1, b2, b3, b4, b5⟩ := zB_l a1
          obtain ⟨d1, d2, d3, d4, d5⟩ := zB_l b1
          obtain ⟨g1, g2, g3, g4, g5⟩ := zB_l d1
          by_cases hk : k = i
          · subst hk
            rw [lo _ (by omega), si_k, ev, g4, d4, b4, d3, g3, Nat.sub_self]
            rfl
          · rw [hi hz k (by omega) h2, b3, d3, g3]
            unfold tbC
            rw [show z.1 + 1 + 1 + 1 + 3 * (k - (i + 1)) = z.1 + 3 * (k - i) by omega]
      · rw [if_neg cz, if_pos rfl]
        have ez := zS_d (t := t) (L := L) (3 * (g - i)) z cz
        rw [ez]
        exact ⟨μ, rfl, h, RFr.rf.d, fun _ _ => rfl, fun q => absurd q cz⟩
