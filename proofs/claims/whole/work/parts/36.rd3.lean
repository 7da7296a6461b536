/-! rows of bytes in a stream -/
def apD (D : Nat → Nat) (c : Nat) (t : Nat → Nat) (a : Nat) : Nat → Nat := fun j => if j < c then D j else t (a + (j - c))
/-- the rows from place a on: where they end, how many bytes they hold, which -/
def gM (t : Nat → Nat) (L : Nat) : Nat → Nat → Nat → (Nat → Nat) → Option (Nat × Nat × (Nat → Nat))
  | 0, _, _, _ => none
  | f + 1, a, c, D => if a < L then (if t a = 0 then some (a + 1, c, D) else if a + 1 + t a ≤ L then gM t L f (a + 1 + t a) (c + t a) (apD D c t (a + 1)) else none) else none
def gZ (L : Nat) (p : Int32) : Option (Nat × Nat × (Nat → Nat)) → Zt3
  | none => (L, 2, nI L)
  | some q => (q.1, 0, p)
def zG (t : Nat → Nat) (L : Nat) (z : Zt3) : Zt3 := if z.2.1 = 0 then gZ L z.2.2 (gM t L (L + 1) z.1 0 (fun _ => 0)) else z
theorem gM_b {t : Nat → Nat} {L : Nat} (ht : ∀ j, j < L → t j < 256) : ∀ f a c (D : Nat → Nat) q, gM t L f a c D = some q → c ≤ a → (∀ j, j < c → D j < 256) → q.1 ≤ L ∧ a < q.1 ∧ q.2.1 < q.1 ∧ ∀ j, j < q.2.1 → q.2.2 j < 256 := by
  intro f
  induction f with
  | zero => intro a c D q h; cases h
  | succ f ih =>
    intro a c D q h hc hD
    unfold gM at h
    by_cases c1 : a < L
    · rw [if_pos c1] at h
      by_cases c2 : t a = 0
      · rw [if_pos c2] at h
        have : q = (a + 1, c, D) := by injection h with h; exact h.symm
        subst this
        exact ⟨by show a + 1 ≤ L; omega, by show a < a + 1; omega, by show c < a + 1; omega, hD⟩
      · rw [if_neg c2] at h
        by_cases c3 : a + 1 + t a ≤ L
        · rw [if_pos c3] at h
          obtain ⟨h1, h2, h3, h4⟩ := ih _ _ _ _ h (by omega) (fun j hj => by
            unfold apD
            split
            · exact hD j (by assumption)
            · exact ht _ (by omega))
          exact ⟨h1, by omega, h3, h4⟩
        · rw [if_neg c3] at h; cases h
    · rw [if_neg c1] at h; cases h
theorem zG_o {t : Nat → Nat} {L : Nat} {z : Zt3} (ht : ∀ j, j < L → t j < 256) (h : zO L z) : zO L (zG t L z) := by
  unfold zG
  split
  · cases e : gM t L (L + 1) z.1 0 (fun _ => 0) with
    | none => exact ⟨Nat.le_refl _, by show 2 ≤ 10; omega⟩
    | some q => exact ⟨(gM_b ht _ _ _ _ _ e (by omega) (fun j hj => by omega)).1, by show 0 ≤ 10; omega⟩
  · exact h
/-- what the class's row of codes changes -/
def CFg (n : Nat) (μ μ' : Mm) : Prop := μ'.2 = μ.2 ∧ (∀ b, b ≠ n + 1 → b ≠ n + 5 → b ≠ n + 6 → μ'.1 b = μ.1 b) ∧ ∀ k, k ≠ 5 → k ≠ 9 → k ≠ 10 → μ'.1 (n + 1) k = μ.1 (n + 1) k
theorem CF.g {n : Nat} {μ μ' : Mm} (h : CF n μ μ') : CFg n μ μ' := ⟨h.1, fun b h1 _ _ => h.2.1 b h1, h.2.2⟩
theorem CFg.tr {n : Nat} {μ μ1 μ2 : Mm} (h : CFg n μ μ1) (h1 : CFg n μ1 μ2) : CFg n μ μ2 := ⟨h1.1.trans h.1, fun b hb hb2 hb3 => (h1.2.1 b hb hb2 hb3).trans (h.2.1 b hb hb2 hb3), fun k a b c => (h1.2.2 k a b c).trans (h.2.2 k a b c)⟩
theorem Ag.cfg {n : Nat} {μ μ' : Mm} (h : Ag μ μ' (n + 5) (n + 5 + 2)) : CFg n μ μ' := ⟨h.1, fun b h1 h2 h3 => h.2 b (by omega), fun k _ _ _ => by rw [h.2 _ (by omega)]⟩
theorem CS.br {n d L : Nat} {μ0 μ μ' : Mm} {z : Zt3} (h : CS n d L μ0 μ z) (ha : Ag μ μ' (n + 5) (n + 5 + 2)) (hb : ∃ tw kw ow, BR μ' (n + 5) tw kw ow) : CS n d L μ0 μ' z := by
  refine ⟨⟨ha.1.trans h.1.1, fun b h1 h2 h3 => by rw [ha.2 b (by omega)]; exact h.1.2.1 b h1 h2 h3, hb⟩, ?_, h.2.2⟩
  rw [ha.2 (n + 1) (by omega)]
  exact h.2.1
theorem BR.addA {μ : Mm} {r : Nat} (h : ∃ tw kw ow, BR μ r tw kw ow) (v : Int32) : ∃ μ', fX0_add r v μ = some μ' ∧ (∃ tw kw ow, BR μ' r tw kw ow) ∧ Ag μ μ' r (r + 2) := by
  obtain ⟨tw, kw, ow, h⟩ := h
  by_cases c : kw < 12000
  · obtain ⟨μ', e, b, a⟩ := h.add (v := v) c
    exact ⟨μ', e, ⟨_, _, _, b⟩, a⟩
  · have : kw = 12000 := by have := h.2.2.1; omega
    subst this
    obtain ⟨μ', e, b, a⟩ := h.full (v := v)
    exact ⟨μ', e, ⟨_, _, _, b⟩, a⟩
section GA
variable {n d L tn : Nat} {t : Nat → Nat} {μ0 : Mm}
/-- one row: dead, whatever comes -/
theorem gi_d (hB : CB n d t L tn μ0) (fu : Nat) (rec12 : Nat → Int32 → Mm → Option Mm) {m : Nat} (hm : m ≤ 255) (v1 : Int32) : ∀ (N i : Nat) (μ : Mm) (z : Zt3), i ≤ m → m - i < N → CS n d L μ0 μ z → ¬ z.2.1 = 0 → ∃ μ', fX5_gatherRows_L39 rec12 fu N (n + 1) v1 (nI m) (nI i) μ = rec12 (n + 1) (v1 + 1) μ' ∧ CS n d L μ0 μ' z ∧ CFg n μ μ' := by
  intro N
  induction N with
  | zero => intro i μ z h1 h2; omega
  | succ N ih =>
    intro i μ z h1 h2 h hz
    show ∃ μ', fX5_gatherRows_B39 rec12 (fX5_gatherRows_L39 rec12 fu N) fu (n + 1) v1 (nI m) (nI i) μ = _ ∧ _
    unfold fX5_gatherRows_B39
    by_cases c : i = m
    · subst c
      rw [if_pos (nI_le (Nat.le_refl _) (by omega)), lt'_e]
      exact ⟨μ, rfl, h, CF.rf.g⟩
    · obtain ⟨μ1, e1, c1, f1⟩ := nb_C hB h
      rw [zB_d hz] at e1 c1
      obtain ⟨μ2, e2, b2, a2⟩ := BR.addA c1.1.2.2 (nI 0)
      have c2 := c1.br a2 b2
      obtain ⟨μ3, e3, c3, f3⟩ := ih (i + 1) μ2 z (by omega) (by omega) c2 hz
      refine ⟨μ3, ?_, c3, (f1.g.tr a2.cfg).tr f3⟩
      rw [if_neg (nI_ge (by omega) (by omega)), bd_e e1, h.1.1, hB.1.1.2.1, hB.1.2.1]
      show bd (fX0_add (n + 5) (nI 0) μ1) _ = _
      rw [bd_e e2, lt'_e, nI_1]
      exact e3
/-- one row: alive -/
theorem gi_l (hB : CB n d t L tn μ0) (fu : Nat) (rec12 : Nat → Int32 → Mm → Option Mm) {m : Nat} (hm : m ≤ 255) (v1 : Int32) : ∀ (N i : Nat) (μ : Mm) (z : Zt3) (c : Nat) (D : Nat → Nat), i ≤ m → m - i < N → CS n d L μ0 μ z → z.2.1 = 0 → c < z.1 → BR μ (n + 5) D c 0 → ∃ μ', fX5_gatherRows_L39 rec12 fu N (n + 1) v1 (nI m) (nI i) μ = rec12 (n + 1) (v1 + 1) μ' ∧ CS n d L μ0 μ' (zS t L (m - i) z) ∧ CFg n μ μ' ∧ ((zS t L (m - i) z).2.1 = 0 → BR μ' (n + 5) (apD D c t z.1) (c + (m - i)) 0) := by
  intro N
  induction N with
  | zero => intro i μ z c D h1 h2; omega
  | succ N ih =>
    intro i μ z c D h1 h2 h hz hc hb
    by_cases cim : i = m
    · subst cim
      show ∃ μ', fX5_gatherRows_B39 rec12 (fX5_gatherRows_L39 rec12 fu N) fu (n + 1) v1 (nI i) (nI i) μ = _ ∧ _
      unfold fX5_gatherRows_B39
      rw [if_pos (nI_le (Nat.le_refl _) (by omega)), lt'_e, Nat.sub_self]
      refine ⟨μ, rfl, h, CF.rf.g, fun _ => ?_⟩
      exact hb.eqv (fun j hj => by unfold apD; rw [if_pos (by omega)])
    · by_cases cL : z.1 < L
      · have hL := hB.hL
        obtain ⟨μ1, e1, c1, f1⟩ := nb_C hB h
        rw [zB_1 hz cL] at e1 c1
        have hb1 : BR μ1 (n + 5) D c 0 := by
          obtain ⟨b1, b2, b3, b4, b5⟩ := hb
          have x5 := f1.2.1 (n + 5) (by omega)
          have x6 := f1.2.1 (n + 5 + 1) (by omega)
          exact ⟨by rw [f1.1]; exact b1, by rw [x5]; exact b2, b3, by rw [x5]; exact b4, fun j hj => by rw [x6]; exact b5 j hj⟩
        obtain ⟨μ2, e2, b2, a2⟩ := hb1.add (v := nI (t z.1)) (by omega)
        have c2 := c1.br a2 ⟨_, _, _, b2⟩
        obtain ⟨μ3, e3, c3, f3, b3⟩ := ih (i + 1) μ2 (z.1 + 1, 0, z.2.2) (c + 1) _ (by omega) (by omega) c2 rfl (by show c + 1 < z.1 + 1; omega) b2
        have ez : zS t L (m - i) z = zS t L (m - (i + 1)) (z.1 + 1, 0, z.2.2) := by
          rw [show m - i = (m - (i + 1)) + 1 by omega]
          show zS t L (m - (i + 1)) (zB t L z).2 = _
          rw [zB_1 hz cL]
        refine ⟨μ3, ?_, by rw [ez]; exact c3, (f1.g.tr a2.cfg).tr f3, fun q => ?_⟩
        · show fX5_gatherRows_B39 rec12 (fX5_gatherRows_L39 rec12 fu N) fu (n + 1) v1 (nI m) (nI i) μ = _
          unfold fX5_gatherRows_B39
          rw [if_neg (nI_ge (by omega) (by omega)), bd_e e1, h.1.1, hB.1.1.2.1, hB.1.2.1]
          show bd (fX0_add (n + 5) (nI (t z.1)) μ1) _ = _
          rw [bd_e e2, lt'_e, nI_1]
          exact e3
        · rw [ez] at q
          have := b3 q
          rw [show c + 1 + (m - (i + 1)) = c + (m - i) by omega] at this
          refine this.eqv (fun j hj => ?_)
          unfold apD
          have tb := hB.ht z.1 cL
          by_cases q1 : j < c
          · rw [if_pos q1, if_pos (by omega), u1_j (by omega)]
          · by_cases q2 : j = c
            · subst q2
              rw [if_neg (by omega), if_pos (by omega), u1_k, by8_nI tb, Nat.sub_self, Nat.add_zero]
            · rw [if_neg q1, if_neg (by omega)]
              show t (z.1 + (j - c)) = t (z.1 + 1 + (j - (c + 1)))
              rw [show z.1 + (j - c) = z.1 + 1 + (j - (c + 1)) by omega]
      · obtain ⟨μ1, e1, c1, f1⟩ := nb_C hB h
        rw [zB_0 hz cL] at e1 c1
        obtain ⟨μ2, e2, b2, a2⟩ := BR.addA c1.1.2.2 (nI 0)
        have c2 := c1.br a2 b2
        obtain ⟨μ3, e3, c3, f3⟩ := gi_d hB fu rec12 hm v1 N (i + 1) μ2 _ (by omega) (by omega) c2 (show ¬ 2 = 0 by decide)
        have ez : zS t L (m - i) z = (z.1, 2, nI L) := by
          have := h.2.2.1
          rw [zS_0 _ _ hz (by omega) (by omega), show z.1 = L by omega]
        refine ⟨μ3, ?_, by rw [ez]; exact c3, (f1.g.tr a2.cfg).tr f3, fun q => ?_⟩
        · show fX5_gatherRows_B39 rec12 (fX5_gatherRows_L39 rec12 fu N) fu (n + 1) v1 (nI m) (nI i) μ = _
          unfold fX5_gatherRows_B39
          rw [if_neg (nI_ge (by omega) (by omega)), bd_e e1, h.1.1, hB.1.1.2.1, hB.1.2.1]
          show bd (fX0_add (n + 5) (nI 0) μ1) _ = _
          rw [bd_e e2, lt'_e, nI_1]
          exact e3
        · rw [ez] at q
          exact absurd q (show ¬ 2 = 0 by decide)
theorem ga_l (hB : CB n d t L tn μ0) (fu : Nat) (hfu : 300 ≤ fu) : ∀ (f N i : Nat) (μ : Mm) (z : Zt3) (c : Nat) (D : Nat → Nat), L - z.1 < f → L - z.1 + 2 ≤ N → CS n d L μ0 μ z → z.2.1 = 0 → i ≤ z.1 → c ≤ z.1 → BR μ (n + 5) D c 0 → ∃ μ', fX5_gatherRows_L12 fu N (n + 1) (nI i) μ = some μ' ∧ CS n d L μ0 μ' (gZ L z.2.2 (gM t L f z.1 c D)) ∧ CFg n μ μ' ∧ (∀ q, gM t L f z.1 c D = some q → BR μ' (n + 5) q.2.2 q.2.1 0) := by
  have hL := hB.hL
  intro f
  induction f with
  | zero => intro N i μ z c D h1; omega
  | succ f ih =>
    intro N i μ z c D hf hN h hz hi hc hb
    obtain ⟨N, rfl⟩ : ∃ N', N = N' + 1 := ⟨N - 1, by omega⟩
    have hz1 := h.2.2.1
    show ∃ μ', fX5_gatherRows_B12 (fX5_gatherRows_L12 fu N) fu (n + 1) (nI i) μ = some μ' ∧ _
    unfold fX5_gatherRows_B12
    rw [h.2.1.1, h.2.1.2.2.1, if_neg (nI_nlt (by omega) (by omega)), if_pos (show nI z.2.1 = 0 by rw [hz]; rfl)]
    obtain ⟨μ1, e1, c1, f1⟩ := nb_C hB h
    have hb1 : BR μ1 (n + 5) D c 0 := by
      obtain ⟨b1, b2, b3, b4, b5⟩ := hb
      have x5 := f1.2.1 (n + 5) (by omega)
      have x6 := f1.2.1 (n + 5 + 1) (by omega)
      exact ⟨by rw [f1.1]; exact b1, by rw [x5]; exact b2, b3, by rw [x5]; exact b4, fun j hj => by rw [x6]; exact b5 j hj⟩
    rw [bd_e e1, lt'_e]
    by_cases cL : z.1 < L
    · have tb := hB.ht z.1 cL
      rw [zB_1 hz cL] at c1 ⊢
      by_cases ct : t z.1 = 0
      · have eg : gM t L (f + 1) z.1 c D = some (z.1 + 1, c, D) := by unfold gM; rw [if_pos cL, if_pos ct]
        rw [if_pos (show nI (t z.1, z.1 + 1, 0, z.2.2).1 = 0 by show nI (t z.1) = 0; rw [ct]; rfl), eg]
        refine ⟨μ1, rfl, c1, f1.g, fun q hq => ?_⟩
        have : q = (z.1 + 1, c, D) := by injection hq with hq; exact hq.symm
        subst this
        exact hb1
      · rw [if_neg (show ¬ nI (t z.1, z.1 + 1, 0, z.2.2).1 = 0 from nI_ne0 (by show 0 < t z.1; omega) (by show t z.1 < _; omega))]
        obtain ⟨μ2, e2, c2, f2, b2⟩ := gi_l hB fu (fX5_gatherRows_L12 fu N) (m := t z.1) (by omega) (nI i) fu 0 μ1 (z.1 + 1, 0, z.2.2) c D (by omega) (by omega) c1 rfl (by show c < z.1 + 1; omega) hb1
        rw [Nat.sub_zero] at c2 b2
        have e2' : fX5_gatherRows_L39 (fX5_gatherRows_L12 fu N) fu fu (n + 1) (nI i) (nI (t z.1)) 0 μ1 = fX5_gatherRows_L12 fu N (n + 1) (nI (i + 1)) μ2 := by rw [← nI_1]; exact e2
        by_cases c3 : z.1 + 1 + t z.1 ≤ L
        · have ez := zS_1 (t := t) (L := L) (t z.1) (z.1 + 1, 0, z.2.2) rfl c3
          rw [ez] at c2 b2
          have eg : gM t L (f + 1) z.1 c D = gM t L f (z.1 + 1 + t z.1) (c + t z.1) (apD D c t (z.1 + 1)) := by
            show (if z.1 < L then _ else _) = _
            rw [if_pos cL, if_neg ct, if_pos c3]
          rw [eg]
          obtain ⟨μ3, e3, c4, f3, b3⟩ := ih N (i + 1) μ2 (z.1 + 1 + t z.1, 0, z.2.2) (c + t z.1) _ (by show L - (z.1 + 1 + t z.1) < f; omega) (by show L - (z.1 + 1 + t z.1) + 2 ≤ N; omega) c2 rfl (by show i + 1 ≤ z.1 + 1 + t z.1; omega) (by show c + t z.1 ≤ z.1 + 1 + t z.1; omega) (b2 rfl)
          exact ⟨μ3, e2'.trans e3, c4, (f1.g.tr f2).tr f3, b3⟩
        · have ez := zS_0 (t := t) (L := L) (t z.1) (z.1 + 1, 0, z.2.2) rfl (show z.1 + 1 ≤ L by omega) (show L < z.1 + 1 + t z.1 by omega)
          rw [ez] at c2
          have eg : gM t L (f + 1) z.1 c D = none := by
            show (if z.1 < L then _ else _) = _
            rw [if_pos cL, if_neg ct, if_neg c3]
          rw [eg]
          refine ⟨μ2, ?_, c2, f1.g.tr f2, fun q hq => by cases hq⟩
          refine e2'.trans ?_
          obtain ⟨N, rfl⟩ : ∃ N', N = N' + 1 := ⟨N - 1, by omega⟩
          show fX5_gatherRows_B12 (fX5_gatherRows_L12 fu N) fu (n + 1) (nI (i + 1)) μ2 = some μ2
          unfold fX5_gatherRows_B12
          rw [c2.2.1.2.2.1, if_neg (show ¬ nI 2 = 0 by decide)]
          split <;> rfl
    · rw [zB_0 hz cL] at c1 ⊢
      have eg : gM t L (f + 1) z.1 c D = none := by
        show (if z.1 < L then _ else _) = _
        rw [if_neg cL]
      rw [eg]
      refine ⟨μ1, ?_, ?_, f1.g, fun q hq => by cases hq⟩
      · exact if_pos rfl
      · have : z.1 = L := by omega
        rw [this] at c1
        exact c1
theorem ga_C {μ : Mm} {z : Zt3} (hB : CB n d t L tn μ0) (fu : Nat) (hfu : 13000 ≤ fu) (h : CS n d L μ0 μ z) : ∃ μ', fX5_gatherRows fu (n + 1) μ = some μ' ∧ CS n d L μ0 μ' (zG t L z) ∧ CFg n μ μ' ∧ (z.2.1 = 0 → ∀ q, gM t L (L + 1) z.1 0 (fun _ => 0) = some q → BR μ' (n + 5) q.2.2 q.2.1 0) := by
  have hL := hB.hL
  unfold fX5_gatherRows
  rw [h.1.1, hB.1.1.2.1, hB.1.2.1, lt'_e]
  obtain ⟨tw, kw, ow, hb⟩ := h.1.2.2
  obtain ⟨b1, a1⟩ := hb.clear
  have c1 := h.br a1 ⟨_, _, _, b1⟩
  by_cases cz : z.2.1 = 0
  · obtain ⟨μ', e, c2, f2, b2⟩ := ga_l hB fu (by omega) (L + 1) fu 0 _ z 0 (fun _ => 0) (by omega) (by omega) c1 cz (by omega) (by omega) (b1.eqv (fun j hj => by omega))
    refine ⟨μ', e, ?_, a1.cfg.tr f2, fun _ => b2⟩
    unfold zG
    rw [if_pos cz]
    exact c2
  · obtain ⟨fu, rfl⟩ : ∃ f', fu = f' + 1 := ⟨fu - 1, by omega⟩
    refine ⟨_, ?_, ?_, a1.cfg, fun q => absurd q cz⟩
    · show fX5_gatherRows_B12 (fX5_gatherRows_L12 (fu + 1) fu) (fu + 1) (n + 1) 0 _ = _
      unfold fX5_gatherRows_B12
      have := c1.2.2.2
      rw [c1.2.1.2.2.1, if_neg (nI_ne0 (by omega) (by omega))]
      split <;> rfl
    · unfold zG
      rw [if_neg cz]
      exact c1
end GA
