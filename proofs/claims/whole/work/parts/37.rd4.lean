/-! rows of bytes: the reference -/
def RFg (y : Nat) (μ μ' : Mm) : Prop := μ'.2 = μ.2 ∧ (∀ b, b ≠ y → b ≠ y + 8 → μ'.1 b = μ.1 b) ∧ ∀ k, k ≠ 4 → k ≠ 5 → k ≠ 12 → k ≠ 22 → μ'.1 y k = μ.1 y k
theorem RFr.g {y : Nat} {μ μ' : Mm} (h : RFr y μ μ') : RFg y μ μ' := ⟨h.1, fun b h1 _ => h.2.1 b h1, fun k a b c _ => h.2.2 k a b c⟩
theorem RFg.rf {y : Nat} {μ : Mm} : RFg y μ μ := ⟨rfl, fun _ _ _ => rfl, fun _ _ _ _ _ => rfl⟩
theorem RFg.tr {y : Nat} {μ μ1 μ2 : Mm} (h : RFg y μ μ1) (h1 : RFg y μ1 μ2) : RFg y μ μ2 := ⟨h1.1.trans h.1, fun b hb hb2 => (h1.2.1 b hb hb2).trans (h.2.1 b hb hb2), fun k a b c d => (h1.2.2 k a b c d).trans (h.2.2 k a b c d)⟩
section GR
variable {y s L tn : Nat} {t : Nat → Nat} {μ0 : Mm}
theorem rows_l (hB : RBs y s t L tn μ0) (fu : Nat) (hfu : 300 ≤ fu) : ∀ (f N : Nat) (μ : Mm) (z : Zt3) (c : Nat) (D : Nat → Nat), L - z.1 < f → L - z.1 + 2 ≤ N → RS y s L μ0 μ z → z.2.1 = 0 → ∃ μ', (bd (fX10_one y μ) fun q1 => lt' q1.1 fun x2 => fX10_rows_L5 fu N y x2 q1.2) = some μ' ∧ RS y s L μ0 μ' (gZ L z.2.2 (gM t L f z.1 c D)) ∧ RFr y μ μ' := by
  have hL := hB.hL
  intro f
  induction f with
  | zero => intro N μ z c D h1; omega
  | succ f ih =>
    intro N μ z c D hf hN h hz
    obtain ⟨N, rfl⟩ : ∃ N', N = N' + 1 := ⟨N - 1, by omega⟩
    have hz1 := h.2.2.1
    obtain ⟨μ1, e1, c1, f1⟩ := on_R hB h
    rw [bd_e e1, lt'_e]
    show ∃ μ', fX10_rows_B5 (fX10_rows_L5 fu N) fu y (nI (zB t L z).1) μ1 = some μ' ∧ _
    unfold fX10_rows_B5
    rw [good_R c1, lt'_e]
    by_cases cL : z.1 < L
    · have tb := hB.ht z.1 cL
      rw [zB_1 hz cL] at c1 ⊢
      rw [if_pos (show (t z.1, z.1 + 1, 0, z.2.2).2.2.1 = 0 from rfl), if_neg (show ¬ (1 : Int32) = 0 by decide)]
      by_cases ct : t z.1 = 0
      · have eg : gM t L (f + 1) z.1 c D = some (z.1 + 1, c, D) := by unfold gM; rw [if_pos cL, if_pos ct]
        rw [if_pos (show nI (t z.1) ≤ 0 by rw [ct]; decide), eg]
        exact ⟨μ1, rfl, c1, f1⟩
      · rw [if_neg (show ¬ nI (t z.1) ≤ 0 from nI_nle (by omega) (by omega))]
        obtain ⟨μ2, e2, c2, f2⟩ := sk_R hB fu (m := t z.1) (by omega) fu 0 μ1 _ (by omega) (by omega) c1
        rw [Nat.sub_zero] at c2
        have e2' : fX10_skip fu y (nI (t z.1)) μ1 = some μ2 := e2
        rw [bd_e e2']
        by_cases c3 : z.1 + 1 + t z.1 ≤ L
        · have ez := zS_1 (t := t) (L := L) (t z.1) (z.1 + 1, 0, z.2.2) rfl c3
          rw [ez] at c2
          have eg : gM t L (f + 1) z.1 c D = gM t L f (z.1 + 1 + t z.1) (c + t z.1) (apD D c t (z.1 + 1)) := by
            show (if z.1 < L then _ else _) = _
            rw [if_pos cL, if_neg ct, if_pos c3]
          rw [eg]
          obtain ⟨μ3, e3, c4, f3⟩ := ih N μ2 (z.1 + 1 + t z.1, 0, z.2.2) (c + t z.1) (apD D c t (z.1 + 1)) (by show L - (z.1 + 1 + t z.1) < f; omega) (by show L - (z.1 + 1 + t z.1) + 2 ≤ N; omega) c2 rfl
          exact ⟨μ3, e3, c4, (f1.tr f2).tr f3⟩
        · have ez := zS_0 (t := t) (L := L) (t z.1) (z.1 + 1, 0, z.2.2) rfl (show z.1 + 1 ≤ L by omega) (show L < z.1 + 1 + t z.1 by omega)
          rw [ez] at c2
          have eg : gM t L (f + 1) z.1 c D = none := by
            show (if z.1 < L then _ else _) = _
            rw [if_pos cL, if_neg ct, if_neg c3]
          rw [eg]
          obtain ⟨μ3, e3, c4, f3⟩ := on_R hB c2
          rw [zB_d (show ¬ 2 = 0 by decide)] at e3 c4
          refine ⟨μ3, ?_, c4, (f1.tr f2).tr f3⟩
          rw [bd_e e3, lt'_e]
          obtain ⟨N, rfl⟩ : ∃ N', N = N' + 1 := ⟨N - 1, by omega⟩
          show fX10_rows_B5 (fX10_rows_L5 fu N) fu y (nI 0) μ3 = some μ3
          unfold fX10_rows_B5
          rw [good_R c4, if_neg (show ¬ 2 = 0 by decide), lt'_e, if_pos rfl]
    · rw [zB_0 hz cL] at c1 ⊢
      rw [if_neg (show ¬ 2 = 0 by decide), if_pos rfl]
      have eg : gM t L (f + 1) z.1 c D = none := by
        show (if z.1 < L then _ else _) = _
        rw [if_neg cL]
      rw [eg]
      refine ⟨μ1, rfl, ?_, f1⟩
      have : z.1 = L := by omega
      rw [this] at c1
      exact c1
theorem rw_R {μ : Mm} {z : Zt3} (hB : RBs y s t L tn μ0) (fu : Nat) (hfu : 13000 ≤ fu) (h : RS y s L μ0 μ z) : ∃ μ', fX10_rows fu y μ = some μ' ∧ RS y s L μ0 μ' (zG t L z) ∧ RFr y μ μ' := by
  have hL := hB.hL
  unfold fX10_rows zG
  by_cases cz : z.2.1 = 0
  · rw [if_pos cz]
    exact rows_l hB fu (by omega) (L + 1) fu μ z 0 (fun _ => 0) (by omega) (by omega) h cz
  · rw [if_neg cz]
    obtain ⟨μ1, e1, c1, f1⟩ := on_R hB h
    rw [zB_d cz] at e1 c1
    refine ⟨μ1, ?_, c1, f1⟩
    rw [bd_e e1, lt'_e]
    obtain ⟨fu, rfl⟩ : ∃ f', fu = f' + 1 := ⟨fu - 1, by omega⟩
    show fX10_rows_B5 (fX10_rows_L5 (fu + 1) fu) (fu + 1) y (nI 0) μ1 = some μ1
    unfold fX10_rows_B5
    rw [good_R c1, if_neg cz, lt'_e, if_pos rfl]
theorem gi_R (hB : RBs y s t L tn μ0) (fu : Nat) (rec10 : Nat → Int32 → Mm → Option Mm) {m : Nat} (hm : m ≤ 255) : ∀ (N i : Nat) (μ : Mm) (z : Zt3) (c : Nat) (D : Nat → Nat), i ≤ m → m - i < N → RS y s L μ0 μ z → z.2.1 = 0 → c < z.1 → μ.1 y 22 = nI c → RB μ (y + 8) D c → ∃ μ', fX10_gather_L23 rec10 fu N y (nI m) (nI i) μ = fX10_gather_L65 rec10 fu y μ' ∧ RS y s L μ0 μ' (zS t L (m - i) z) ∧ RFg y μ μ' ∧ ((zS t L (m - i) z).2.1 = 0 → μ'.1 y 22 = nI (c + (m - i)) ∧ RB μ' (y + 8) (apD D c t z.1) (c + (m - i))) := by
  have hL := hB.hL
  intro N
  induction N with
  | zero => intro i μ z c D h1 h2; omega
  | succ N ih =>
    intro i μ z c D h1 h2 h hz hc h22 hb
    have hz1 := h.2.2.1
    show ∃ μ', fX10_gather_B23 rec10 (fX10_gather_L23 rec10 fu N) fu y (nI m) (nI i) μ = _ ∧ _
    unfold fX10_gather_B23
    by_cases cim : i = m
    · subst cim
      rw [if_pos (nI_le (Nat.le_refl _) (by omega)), Nat.sub_self]
      refine ⟨μ, rfl, h, RFg.rf, fun _ => ⟨h22, fun j hj => ?_⟩⟩
      have := hb j hj
      unfold apD
      rw [if_pos (show j < c from hj)]
      exact this
    · obtain ⟨μ1, e1, c1, f1⟩ := on_R hB h
      obtain ⟨b, eb⟩ : ∃ b, b = (zB t L z).1 := ⟨_, rfl⟩
      have hbb : b < 256 := by rw [eb]; exact zB_b hB.ht
      rw [← eb] at e1
      have l21 : μ.2 y 21 = y + 8 := by rw [h.1.1]; exact hB.1.2.2.2.2.2.2.2.1
      obtain ⟨ν, eν⟩ : ∃ ν, ν = si (si μ1 (y + 8) c (vp_nar .byte (nI b).toInt8.toInt32)) y 22 (nI (c + 1)) := ⟨_, rfl⟩
      have cν : RS y s L μ0 ν (zB t L z).2 := by
        rw [eν]
        exact (c1.wi (a := y + 8) (by omega)).wi (a := y) (by omega)
      have fν : RFg y μ ν := by
        refine f1.g.tr ?_
        rw [eν]
        exact ⟨rfl, fun b h1 h2 => by rw [si_b h1, si_b h2], fun k h4 h5 h12 h22 => by rw [si_j h22, si_b (by omega)]⟩
      have bν : RB ν (y + 8) (u1 D c b) (c + 1) := by
        have hb1 : RB μ1 (y + 8) D c := fun j hj => by rw [f1.2.1 _ (by omega)]; exact hb j hj
        have := hb1.put (x := vp_nar .byte (nI b).toInt8.toInt32) (nI b) (by rw [nar_b, b_toB])
        rw [by8_nI hbb] at this
        rw [eν]
        exact this.ag (Ag.wi (lo := y) (hi := y + 1) (by omega) (by omega)) (by omega)
      have n22 : ν.1 y 22 = nI (c + 1) := by rw [eν]; exact si_k
      have run : fX10_gather_B23 rec10 (fX10_gather_L23 rec10 fu N) fu y (nI m) (nI i) μ = fX10_gather_L23 rec10 fu N y (nI m) (nI (i + 1)) ν := by
        unfold fX10_gather_B23
        rw [if_neg (nI_ge (by omega) (by omega)), good_R h, if_pos hz, lt'_e, if_neg (show ¬ (1 : Int32) = 0 by decide), bd_e e1, h22, r_ib (by omega) (by decide), l21, nI_clamp (by omega), lt'_e, lt'_e, lt'_e, nI_1]
        have q22 : (si μ1 (y + 8) c (vp_nar .byte (nI b).toInt8.toInt32)).1 y 22 = nI c := by
          rw [si_b (by omega), f1.2.2 22 (by decide) (by decide) (by decide)]; exact h22
        show fX10_gather_L23 rec10 fu N y (nI m) (nI (i + 1)) (si (si μ1 (y + 8) c (vp_nar .byte (nI b).toInt8.toInt32)) y 22 ((si μ1 (y + 8) c (vp_nar .byte (nI b).toInt8.toInt32)).1 y 22 + 1)) = _
        rw [q22, nI_1, eν]
      have run' := run
      unfold fX10_gather_B23 at run'
      rw [run']
      by_cases cL : z.1 < L
      · rw [zB_1 hz cL] at cν
        have ebt : b = t z.1 := by rw [eb, zB_1 hz cL]
        obtain ⟨μ3, e3, c3, f3, b3⟩ := ih (i + 1) ν (z.1 + 1, 0, z.2.2) (c + 1) _ (by omega) (by omega) cν rfl (by show c + 1 < z.1 + 1; omega) n22 bν
        have ez : zS t L (m - i) z = zS t L (m - (i + 1)) (z.1 + 1, 0, z.2.2) := by
          rw [show m - i = (m - (i + 1)) + 1 by omega]
          show zS t L (m - (i + 1)) (zB t L z).2 = _
          rw [zB_1 hz cL]
        refine ⟨μ3, e3, by rw [ez]; exact c3, fν.tr f3, fun q => ?_⟩
        rw [ez] at q
        obtain ⟨b4, b5⟩ := b3 q
        rw [show c + 1 + (m - (i + 1)) = c + (m - i) by omega] at b4 b5
        refine ⟨b4, fun j hj => ?_⟩
        have := b5 j hj
        have ej : apD D c t z.1 j = apD (u1 D c b) (c + 1) t (z.1 + 1) j := by
          unfold apD
          by_cases q1 : j < c
          · rw [if_pos q1, if_pos (by omega), u1_j (by omega)]
          · by_cases q2 : j = c
            · subst q2
              rw [if_neg (by omega), if_pos (by omega), u1_k, ebt, Nat.sub_self, Nat.add_zero]
            · rw [if_neg q1, if_neg (by omega)]
              rw [show z.1 + (j - c) = z.1 + 1 + (j - (c + 1)) by omega]
        have t1 : (z.1 + 1, 0, z.2.2).1 = z.1 + 1 := rfl
        rw [t1, ← ej] at this
        exact this
      · rw [zB_0 hz cL] at cν
        have ez : zS t L (m - i) z = (z.1, 2, nI L) := by
          rw [zS_0 _ _ hz (by omega) (by omega), show z.1 = L by omega]
        refine ⟨ν, ?_, by rw [ez]; exact cν, fν, fun q => ?_⟩
        · obtain ⟨N, rfl⟩ : ∃ N', N = N' + 1 := ⟨N - 1, by omega⟩
          show fX10_gather_B23 rec10 (fX10_gather_L23 rec10 fu N) fu y (nI m) (nI (i + 1)) ν = _
          unfold fX10_gather_B23
          rw [good_R cν, if_neg (show ¬ 2 = 0 by decide), lt'_e, if_pos rfl]
          split <;> rfl
        · rw [ez] at q
          exact absurd q (show ¬ 2 = 0 by decide)
theorem ga_lR (hB : RBs y s t L tn μ0) (fu : Nat) (hfu : 300 ≤ fu) : ∀ (f N : Nat) (μ : Mm) (z : Zt3) (c : Nat) (D : Nat → Nat), L - z.1 < f → L - z.1 + 2 ≤ N → RS y s L μ0 μ z → z.2.1 = 0 → c ≤ z.1 → μ.1 y 22 = nI c → RB μ (y + 8) D c → ∃ μ', (bd (fX10_one y μ) fun q1 => lt' q1.1 fun x2 => fX10_gather_L10 fu N y x2 q1.2) = some μ' ∧ RS y s L μ0 μ' (gZ L z.2.2 (gM t L f z.1 c D)) ∧ RFg y μ μ' ∧ (∀ q, gM t L f z.1 c D = some q → μ'.1 y 22 = nI q.2.1 ∧ RB μ' (y + 8) q.2.2 q.2.1) := by
  have hL := hB.hL
  intro f
  induction f with
  | zero => intro N μ z c D h1; omega
  | succ f ih =>
    intro N μ z c D hf hN h hz hc h22 hb
    obtain ⟨N, rfl⟩ : ∃ N', N = N' + 1 := ⟨N - 1, by omega⟩
    have hz1 := h.2.2.1
    obtain ⟨μ1, e1, c1, f1⟩ := on_R hB h
    have h22' : μ1.1 y 22 = nI c := by rw [f1.2.2 22 (by decide) (by decide) (by decide)]; exact h22
    have hb' : RB μ1 (y + 8) D c := fun j hj => by rw [f1.2.1 _ (by omega)]; exact hb j hj
    rw [bd_e e1, lt'_e]
    show ∃ μ', fX10_gather_B10 (fX10_gather_L10 fu N) fu y (nI (zB t L z).1) μ1 = some μ' ∧ _
    unfold fX10_gather_B10
    rw [good_R c1, lt'_e]
    by_cases cL : z.1 < L
    · have tb := hB.ht z.1 cL
      rw [zB_1 hz cL] at c1 ⊢
      rw [if_pos (show (t z.1, z.1 + 1, 0, z.2.2).2.2.1 = 0 from rfl), if_neg (show ¬ (1 : Int32) = 0 by decide)]
      by_cases ct : t z.1 = 0
      · have eg : gM t L (f + 1) z.1 c D = some (z.1 + 1, c, D) := by unfold gM; rw [if_pos cL, if_pos ct]
        rw [if_pos (show nI (t z.1) ≤ 0 by rw [ct]; decide), eg]
        refine ⟨μ1, rfl, c1, f1.g, fun q hq => ?_⟩
        have : q = (z.1 + 1, c, D) := by injection hq with hq; exact hq.symm
        subst this
        exact ⟨h22', hb'⟩
      · rw [if_neg (show ¬ nI (t z.1) ≤ 0 from nI_nle (by omega) (by omega))]
        obtain ⟨μ2, e2, c2, f2, b2⟩ := gi_R hB fu (fX10_gather_L10 fu N) (m := t z.1) (by omega) fu 0 μ1 (z.1 + 1, 0, z.2.2) c D (by omega) (by omega) c1 rfl (by show c < z.1 + 1; omega) h22' hb'
        rw [Nat.sub_zero] at c2 b2
        have e2' : fX10_gather_L23 (fX10_gather_L10 fu N) fu fu y (nI (t z.1)) 0 μ1 = fX10_gather_L65 (fX10_gather_L10 fu N) fu y μ2 := e2
        rw [e2']
        unfold fX10_gather_L65
        by_cases c3 : z.1 + 1 + t z.1 ≤ L
        · have ez := zS_1 (t := t) (L := L) (t z.1) (z.1 + 1, 0, z.2.2) rfl c3
          rw [ez] at c2 b2
          have eg : gM t L (f + 1) z.1 c D = gM t L f (z.1 + 1 + t z.1) (c + t z.1) (apD D c t (z.1 + 1)) := by
            show (if z.1 < L then _ else _) = _
            rw [if_pos cL, if_neg ct, if_pos c3]
          rw [eg]
          obtain ⟨b4, b5⟩ := b2 rfl
          obtain ⟨μ3, e3, c4, f3, b3⟩ := ih N μ2 (z.1 + 1 + t z.1, 0, z.2.2) (c + t z.1) (apD D c t (z.1 + 1)) (by show L - (z.1 + 1 + t z.1) < f; omega) (by show L - (z.1 + 1 + t z.1) + 2 ≤ N; omega) c2 rfl (by show c + t z.1 ≤ z.1 + 1 + t z.1; omega) b4 b5
          exact ⟨μ3, e3, c4, (f1.g.tr f2).tr f3, b3⟩
        · have ez := zS_0 (t := t) (L := L) (t z.1) (z.1 + 1, 0, z.2.2) rfl (show z.1 + 1 ≤ L by omega) (show L < z.1 + 1 + t z.1 by omega)
          rw [ez] at c2
          have eg : gM t L (f + 1) z.1 c D = none := by
            show (if z.1 < L then _ else _) = _
            rw [if_pos cL, if_neg ct, if_neg c3]
          rw [eg]
          obtain ⟨μ3, e3, c4, f3⟩ := on_R hB c2
          rw [zB_d (show ¬ 2 = 0 by decide)] at e3 c4
          refine ⟨μ3, ?_, c4, (f1.g.tr f2).tr f3.g, fun q hq => by cases hq⟩
          rw [bd_e e3, lt'_e]
          obtain ⟨N, rfl⟩ : ∃ N', N = N' + 1 := ⟨N - 1, by omega⟩
          show fX10_gather_B10 (fX10_gather_L10 fu N) fu y (nI 0) μ3 = some μ3
          unfold fX10_gather_B10
          rw [good_R c4, if_neg (show ¬ 2 = 0 by decide), lt'_e, if_pos rfl]
    · rw [zB_0 hz cL] at c1 ⊢
      rw [if_neg (show ¬ 2 = 0 by decide), if_pos rfl]
      have eg : gM t L (f + 1) z.1 c D = none := by
        show (if z.1 < L then _ else _) = _
        rw [if_neg cL]
      rw [eg]
      refine ⟨μ1, rfl, ?_, f1.g, fun q hq => by cases hq⟩
      have : z.1 = L := by omega
      rw [this] at c1
      exact c1
theorem ga_R {μ : Mm} {z : Zt3} (hB : RBs y s t L tn μ0) (fu : Nat) (hfu : 13000 ≤ fu) (h : RS y s L μ0 μ z) (cz : z.2.1 = 0) : ∃ μ', fX10_gather fu y μ = some μ' ∧ RS y s L μ0 μ' (zG t L z) ∧ RFg y μ μ' ∧ (∀ q, gM t L (L + 1) z.1 0 (fun _ => 0) = some q → μ'.1 y 22 = nI q.2.1 ∧ RB μ' (y + 8) q.2.2 q.2.1) := by
  have hL := hB.hL
  unfold fX10_gather zG
  rw [if_pos cz, lt'_e]
  have c0 := h.wi (a := y) (k := 22) (v := 0) (by omega)
  obtain ⟨μ', e, c1, f1, b1⟩ := ga_lR hB fu (by omega) (L + 1) fu _ z 0 (fun _ => 0) (by omega) (by omega) c0 cz (by omega) si_k (fun j hj => by omega)
  refine ⟨μ', e, c1, ?_, b1⟩
  refine RFg.tr (μ1 := si μ y 22 0) ⟨rfl, fun b h1 _ => si_b h1, fun k _ _ _ h22 => si_j h22⟩ f1
end GR
