/-! WRITING: a FRAME, the class -/
def KW (n w : Nat) (μ μ' : Mm) : Prop := μ'.2 = μ.2 ∧ ∀ b, (b < n + 264 ∨ n + 271 ≤ b) → b ≠ w → b ≠ w + 1 → μ'.1 b = μ.1 b
theorem KW.rf {n w : Nat} {μ : Mm} : KW n w μ μ := ⟨rfl, fun _ _ _ _ => rfl⟩
theorem KW.tr {n w : Nat} {μ μ1 μ2 : Mm} (h : KW n w μ μ1) (h1 : KW n w μ1 μ2) : KW n w μ μ2 := ⟨h1.1.trans h.1, fun b a c d => (h1.2 b a c d).trans (h.2 b a c d)⟩
theorem Ag.kw {n w : Nat} {μ μ' : Mm} (h : Ag μ μ' w (w + 2)) : KW n w μ μ' := ⟨h.1, fun b _ h1 h2 => h.2 b (by omega)⟩
theorem WFr.kw {n w : Nat} {μ μ' : Mm} (h : WFr n μ μ') : KW n w μ μ' := ⟨h.1, fun b h0 _ _ => h.2 b (by omega)⟩
theorem ctl_C {x q w f : Nat} {P : Pic} {S : Ot} {μ : Mm} (hw : μ.2 x 1 = w) (hq : q + 1 ≤ w ∨ w + 2 ≤ q) (hv : VF P f) (h0 : μ.1 q 0 = nI (fx P f 6)) (h1 : μ.1 q 1 = tr P f) (h2 : μ.1 q 2 = nI (fx P f 8)) (h3 : μ.1 q 3 = nI (fx P f 9)) (hC : CO μ w S) : ∃ μ', fX6_putControl x q μ = some μ' ∧ CO μ' w (emL S (ctlL P f)) ∧ Ag μ μ' w (w + 2) := by
  have v := hv.2.2.1
  obtain ⟨μ1, e1, c1, a1⟩ := hC.add 33
  obtain ⟨μ2, e2, c2, a2⟩ := c1.add 249
  obtain ⟨μ3, e3, c3, a3⟩ := c2.add 4
  obtain ⟨μ4, e4, c4, a4⟩ := c3.add (cbI P f)
  obtain ⟨μ5, e5, c5, a5⟩ := c4.add2 (nI (fx P f 8))
  obtain ⟨μ6, e6, c6, a6⟩ := c5.add (if tr P f = -1 then 0 else tr P f)
  obtain ⟨μ7, e7, c7, a7⟩ := c6.add 0
  have b2 := a1.tr a2
  have b3 := b2.tr a3
  have b4 := b3.tr a4
  have b5 := b4.tr a5
  have b6 := b5.tr a6
  have hq' : q < w ∨ w + 2 ≤ q := by omega
  refine ⟨μ7, ?_, c7, b6.tr a7⟩
  have q3 : μ3.1 q = μ.1 q := b3.2 q hq'
  have q4 : μ4.1 q = μ.1 q := b4.2 q hq'
  have q5 : μ5.1 q = μ.1 q := b5.2 q hq'
  have main : ∀ t0 : Int32, (t0 = 0 ∧ ¬ tr P f = -1 ∨ t0 = 1 ∧ tr P f = -1) → fX6_putControl_L13 x q t0 μ = some μ7 := by
    intro t0 ht
    unfold fX6_putControl_L13
    rw [hw, bd_e e1, a1.1, hw, bd_e e2, b2.1, hw, bd_e e3, b3.1, hw, q3, h3, h0]
    have l63 : (if nI (fx P f 9) = 0 then fX6_putControl_L63 x q t0 w (nI (fx P f 6) <<< ((2 : Int32) &&& 31)) 0 μ3 else fX6_putControl_L63 x q t0 w (nI (fx P f 6) <<< ((2 : Int32) &&& 31)) 2 μ3) = fX6_putControl_L63 x q t0 w (nI (fx P f 6) <<< ((2 : Int32) &&& 31)) (if nI (fx P f 9) = 0 then (0 : Int32) else 2) μ3 := by split <;> rfl
    rw [l63]
    unfold fX6_putControl_L63
    rw [cb_e v.2.1 v.2.2.2]
    rcases ht with ⟨t1, t2⟩ | ⟨t1, t2⟩
    · rw [t1, if_pos rfl]
      unfold fX6_putControl_L73 fX6_putControl_L104
      have ec : ((nI (fx P f 6) <<< ((2 : Int32) &&& 31)) ||| (nI (fx P f 9) <<< ((1 : Int32) &&& 31))) ||| 1 = cbI P f := by unfold cbI; rw [if_neg t2]
      rw [if_neg t2] at e6
      rw [ec, bd_e e4, b4.1, hw, q4, h2, bd_e e5, if_pos rfl, b5.1, hw, q5, h1, bd_e e6, b6.1, hw, bd_e e7]
    · rw [t1, if_neg (show ¬ (1 : Int32) = 0 by decide)]
      unfold fX6_putControl_L73 fX6_putControl_L104
      have ec : ((nI (fx P f 6) <<< ((2 : Int32) &&& 31)) ||| (nI (fx P f 9) <<< ((1 : Int32) &&& 31))) ||| 0 = cbI P f := by unfold cbI; rw [if_pos t2]
      rw [if_pos t2] at e6
      rw [ec, bd_e e4, b4.1, hw, q4, h2, bd_e e5, if_neg (show ¬ (1 : Int32) = 0 by decide), b5.1, hw, bd_e e6, b6.1, hw, bd_e e7]
  unfold fX6_putControl
  rw [h1]
  by_cases t : tr P f = -1
  · rw [if_pos t]; exact main 1 (Or.inr ⟨rfl, t⟩)
  · rw [if_neg t]; exact main 0 (Or.inl ⟨rfl, t⟩)
theorem img_C {n p w f : Nat} {P : Pic} {S : Ot} {μ : Mm} (fu : Nat) (hfu : 5000 ≤ fu) (hV : VP P) (hf : f < hd P 5) (hp : p = n + 13 ∨ p = n + 139) (hwn : w = n + 137 ∨ w = n + 271) (hP : PC μ p P) (hw : μ.2 (n + 263) 1 = w) (hw0 : μ.2 (n + 263) 0 = n + 264) (hl : WSl n μ) (hb : ∃ tw kw ow, BR μ (n + 265) tw kw ow) (hC : CO μ w S) : ∃ μ', fX6_putImage fu (n + 263) (p + 4 + 5 * f) (nI (le' (tbs P f))) μ = some μ' ∧ CO μ' w (rEnd (eA (oF P f) (fx P f 2 * fx P f 3) (le' (tbs P f))).1 (eA (oF P f) (fx P f 2 * fx P f 3) (le' (tbs P f))).2.1 (emI (emT (lt P f) (fx P f 4) (emL S (imgL P f))) (nI (le' (tbs P f))))) ∧ KW n w μ μ' ∧ ∃ tw kw ow, BR μ' (n + 265) tw kw ow := by
  have hc := hV.2.2.2.2.1
  have v := hV.2.2.2.2.2 f hf
  have v1 := v.1
  have v2 := hV.1
  have bwh := Nat.mul_le_mul (show fx P f 2 ≤ 64 by omega) (show fx P f 3 ≤ 64 by omega)
  have hF := hP.2.2 f hf
  obtain ⟨⟨k0, k1, k2, k3, k4⟩, ⟨kt, kc⟩, -, kp⟩ := hF
  obtain ⟨lf, l5, l6, l7, lc⟩ := hP.1.2.2.2 f (by omega)
  obtain ⟨μ1, e1, c1, a1⟩ := hC.add 44
  obtain ⟨μ2, e2, c2, a2⟩ := c1.add2 (nI (fx P f 0))
  obtain ⟨μ3, e3, c3, a3⟩ := c2.add2 (nI (fx P f 1))
  obtain ⟨μ4, e4, c4, a4⟩ := c3.add2 (nI (fx P f 2))
  obtain ⟨μ5, e5, c5, a5⟩ := c4.add2 (nI (fx P f 3))
  obtain ⟨μ6, e6, c6, a6⟩ := c5.add (nI (mkB (fx P f 4) + 64 * fx P f 5))
  have b2 := a1.tr a2
  have b3 := b2.tr a3
  have b4 := b3.tr a4
  have b5 := b4.tr a5
  have b6 := b5.tr a6
  have bo : ∀ {ν : Mm}, Ag μ ν w (w + 2) → ∀ b, p ≤ b → b < p + 124 → ν.1 b = μ.1 b := fun ha b g1 g2 => ha.2 b (by omega)
  -- the table
  obtain ⟨μ7, e7, c7, a7⟩ := put_T (x := n + 263) (T := p + 5 + 5 * f) (w := w) (m := fx P f 4) (g := lt P f) (S0 := emL S (imgL P f)) fu (tsz_le v.2.1) (by omega) (by omega) fu 0 μ6 (by omega) (by have := tsz_le v.2.1; omega) (by rw [b6.1]; exact hw) (by rw [b6.1, lc]; omega) (by rw [bo b6 _ (by omega) (by omega)]; exact kt) (fun k hk => by rw [bo b6 _ (by omega) (by omega), show p + 5 + 5 * f + 1 = p + 6 + 5 * f by omega]; exact kc k hk) c6
  have e7' : fX6_putTable fu (n + 263) (p + 5 + 5 * f) μ6 = some μ7 := e7
  have b7 := b6.tr a7
  obtain ⟨μ8, e8, c8, a8⟩ := c7.add (nI (le' (tbs P f)))
  have b8 := b7.tr a8
  -- the order of the stream
  obtain ⟨μ9, e9, a9, g9⟩ := to_loop (F := p + 4 + 5 * f) (q := p + 8 + 5 * f) (O := n + 267) (w := fx P f 2) (h := fx P f 3) (il := fx P f 5) fu (by omega) v.2.2.1.1 ⟨v1.1, by omega⟩ (by omega) (by omega) (by omega) fu 0 μ8 (by omega) (by omega) (by rw [b8.1]; exact l7) (by rw [bo b8 _ (by omega) (by omega)]; exact ⟨k2, k3, k4⟩) (fun k hk => by omega)
  have e9' : fX3_toStreamOrder fu (p + 4 + 5 * f) (n + 267) μ8 = some μ9 := e9
  have c9 : CO μ9 w (emI (emT (lt P f) (fx P f 4) (emL S (imgL P f))) (nI (le' (tbs P f)))) := by
    unfold CO at c8 ⊢
    exact c8.ag a9 (by omega)
  have sz9 : fX3_size (p + 4 + 5 * f) μ9 = nI (fx P f 2 * fx P f 3) := by
    unfold fX3_size
    rw [a9.2 _ (by omega), bo b8 _ (by omega) (by omega), k2, k3, pk_mul]
  obtain ⟨tw, kw, ow, hb⟩ := hb
  have B9 : BR μ9 (n + 265) tw kw ow := (hb.ag b8 (by omega)).ag a9 (by omega)
  have r9 : μ9.2 = μ.2 := by rw [a9.1, b8.1]
  obtain ⟨μ10, e10, b10, w10⟩ := en_C (n := n) (e := le' (tbs P f)) (pl := fx P f 2 * fx P f 3) (o := oF P f) (μ := μ9) fu hfu le_o (by omega) (oF_lt hV hf) (by unfold WSl; rw [r9]; exact hl) ⟨tw, kw, ow, B9⟩ (fun k hk => by
    rw [g9 k hk, bo b8 _ (by omega) (by omega)]
    exact kp _ (plM_lt hk))
  have hec := eA_b (o := oF P f) (pl := fx P f 2 * fx P f 3) (e := le' (tbs P f)) le_o (by omega) (oF_lt hV hf)
  have c10 : CO μ10 w (emI (emT (lt P f) (fx P f 4) (emL S (imgL P f))) (nI (le' (tbs P f)))) := by
    unfold CO at c9 ⊢
    exact c9.eqc (by rw [w10.1]) (w10.2 _ (by omega)) (w10.2 _ (by omega))
  have r10 : μ10.2 = μ.2 := by rw [w10.1, r9]
  obtain ⟨μ11, e11, c11, a11⟩ := pr_C (x := n + 263) (w := w) (r := n + 265) fu (by omega) (by omega) (by omega) fu 0 μ10 (by omega) (by omega) (by rw [r10]; exact hw) b10 c10
  have e11' : fX6_putRows fu (n + 263) μ10 = some μ11 := by
    unfold fX6_putRows
    rw [r10, hw0, hl.1, lt'_e]
    exact e11
  refine ⟨μ11, ?_, c11, ((b8.kw.tr ⟨a9.1, fun b g1 g2 g3 => a9.2 b (by omega)⟩).tr w10.kw).tr a11.kw, _, _, _, b10.ag a11 (by omega)⟩
  have F1 : μ1.1 (p + 4 + 5 * f) = μ.1 (p + 4 + 5 * f) := bo a1 _ (by omega) (by omega)
  have F2 : μ2.1 (p + 4 + 5 * f) = μ.1 (p + 4 + 5 * f) := bo b2 _ (by omega) (by omega)
  have F3 : μ3.1 (p + 4 + 5 * f) = μ.1 (p + 4 + 5 * f) := bo b3 _ (by omega) (by omega)
  have F4 : μ4.1 (p + 4 + 5 * f) = μ.1 (p + 4 + 5 * f) := bo b4 _ (by omega) (by omega)
  have F5 : μ5.1 (p + 4 + 5 * f) = μ.1 (p + 4 + 5 * f) := bo b5 _ (by omega) (by omega)
  have mk : fX7_mark (p + 5 + 5 * f) μ5 = nI (mkB (fx P f 4)) := mk_C v.2.1 (by rw [bo b5 _ (by omega) (by omega)]; exact kt)
  have l77 : ∀ t2 : Int32, nI (mkB (fx P f 4)) + t2 = nI (mkB (fx P f 4) + 64 * fx P f 5) → fX6_putImage_L77 fu (n + 263) (p + 4 + 5 * f) (nI (le' (tbs P f))) w (nI (mkB (fx P f 4))) t2 μ5 = some μ11 := by
    intro t2 ht
    unfold fX6_putImage_L77
    rw [ht, bd_e e6, b6.1, l5, bd_e e7', b7.1, hw, bd_e e8, b8.1, hw0, hl.2.1, bd_e e9', sz9, lt'_e, r9, hw0, bd_e e10, bd_e e11']
  unfold fX6_putImage
  rw [hw, bd_e e1, a1.1, hw, F1, k0, bd_e e2, b2.1, hw, F2, k1, bd_e e3, b3.1, hw, F3, k2, bd_e e4, b4.1, hw, F4, k3, bd_e e5, b5.1, l5, mk, lt'_e, F5, k4, hw]
  by_cases q : fx P f 5 = 0
  · rw [if_pos (show nI (fx P f 5) = 0 by rw [q]; rfl)]
    exact l77 0 (by rw [q]; exact nI_add _ 0)
  · have q1 : fx P f 5 = 1 := by have := v.2.2.1.1; omega
    rw [if_neg (nI_ne0 (by omega) (by omega))]
    exact l77 64 (by rw [q1]; exact nI_add _ 64)
/-- one FRAME of the writing -/
theorem fr_C {n p w f : Nat} {P : Pic} {S : Ot} {μ : Mm} (fu : Nat) (hfu : 5000 ≤ fu) (hV : VP P) (hf : f < hd P 5) (hp : p = n + 13 ∨ p = n + 139) (hwn : w = n + 137 ∨ w = n + 271) (hP : PC μ p P) (hw : μ.2 (n + 263) 1 = w) (hw0 : μ.2 (n + 263) 0 = n + 264) (hl : WSl n μ) (hb : ∃ tw kw ow, BR μ (n + 265) tw kw ow) (hC : CO μ w S) (K : Mm → Option (Int32 × Mm)) : ∃ μ', (bd (fX6_putControl (n + 263) (μ.2 (p + 4 + 5 * f) 6) μ) fun μ3 => lt' (fX4_tableOf p (p + 4 + 5 * f) μ3) fun r4 => lt' (fX7_power r4 μ3) fun x5 => bd (fX6_putImage fu (n + 263) (p + 4 + 5 * f) (mmax x5 2) μ3) fun μ6 => K μ6) = K μ' ∧ CO μ' w (eFr P f S) ∧ KW n w μ μ' ∧ ∃ tw kw ow, BR μ' (n + 265) tw kw ow := by
  have hc := hV.2.2.2.2.1
  have v := hV.2.2.2.2.2 f hf
  have hF := hP.2.2 f hf
  obtain ⟨-, ⟨kt, -⟩, ⟨w0, w1, w2, w3⟩, -⟩ := hF
  obtain ⟨lf, l5, l6, l7, lc⟩ := hP.1.2.2.2 f (by omega)
  obtain ⟨μ1, e1, c1, a1⟩ := ctl_C (x := n + 263) (q := p + 7 + 5 * f) (w := w) (P := P) (f := f) hw (by omega) v w0 w1 w2 w3 hC
  have r1 := a1.1
  obtain ⟨tw, kw, ow, hb⟩ := hb
  have P1 : PC μ1 p P := hP.lo hc a1.1 (fun b g1 g2 => a1.2 b (by omega))
  obtain ⟨μ2, e2, c2, k2, b2⟩ := img_C fu hfu hV hf hp hwn P1 (by rw [r1]; exact hw) (by rw [r1]; exact hw0) (by unfold WSl; rw [r1]; exact hl) ⟨tw, kw, ow, hb.ag a1 (by omega)⟩ c1
  refine ⟨μ2, ?_, c2, a1.kw.tr k2, b2⟩
  obtain ⟨t1, t2⟩ := tbs_z hV hf
  have kt1 : μ1.1 (p + 5 + 5 * f) 1 = nI (fx P f 4) := by rw [a1.2 _ (by omega)]; exact kt
  have kg1 : μ1.1 (p + 1) 1 = nI (hd P 2) := P1.2.1.2.2.1
  have h4 := tsz_le v.2.1
  have pw : fX7_power (fX4_tableOf p (p + 4 + 5 * f) μ1) μ1 = nI (lb (tbs P f) + 1) := by
    have et : μ1.1 (fX4_tableOf p (p + 4 + 5 * f) μ1) 1 = nI (tbs P f) := by
      unfold fX4_tableOf tbs
      rw [r1, l5, hP.1.1, kt1]
      by_cases q : fx P f 4 = 0
      · rw [if_pos (show nI (fx P f 4) = 0 by rw [q]; rfl), if_pos q]; exact kg1
      · rw [if_neg (nI_ne0 (by omega) (by omega)), if_neg q]; exact kt1
    unfold fX7_power
    rw [et, pw_C t1 t2, lt'_e]
  have mx : mmax (nI (lb (tbs P f) + 1)) 2 = nI (le' (tbs P f)) := by
    have l8 := lb_8 (g := tbs P f)
    unfold mmax le'
    by_cases q : lb (tbs P f) = 0
    · rw [if_pos q, q]; rfl
    · rw [if_neg q, if_neg (show ¬ nI (lb (tbs P f) + 1) < 2 from nI_nlt (b := 2) (by omega) (by omega))]
  rw [l6, bd_e e1, lt'_e, lt'_e, pw, mx, bd_e e2]
def eFs (P : Pic) : Nat → Nat → Ot → Ot
  | 0, _, S => S
  | m + 1, f, S => eFs P m (f + 1) (eFr P f S)
theorem eFs_2 {P : Pic} (hV : VP P) : ∀ m f (S : Ot), f + m ≤ hd P 5 → S.2 ≤ (eFs P m f S).2 ∧ (eFs P m f S).2 ≤ S.2 + 8000 * m := by
  intro m
  induction m with
  | zero => intro f S _; exact ⟨Nat.le_refl _, by show S.2 ≤ _; omega⟩
  | succ m ih =>
    intro f S h
    obtain ⟨h1, h2⟩ := ih (f + 1) (eFr P f S) (by omega)
    obtain ⟨g1, g2⟩ := eFr_2 (S := S) hV (show f < hd P 5 by omega)
    show S.2 ≤ (eFs P m (f + 1) (eFr P f S)).2 ∧ (eFs P m (f + 1) (eFr P f S)).2 ≤ _
    omega
theorem cm_l {n p w : Nat} {P : Pic} (fu : Nat) (hfu : 5000 ≤ fu) (hV : VP P) (hp : p = n + 13 ∨ p = n + 139) (hwn : w = n + 137 ∨ w = n + 271) : ∀ (m K f : Nat) (μ : Mm) (S : Ot), f + m = hd P 5 → m < K → PC μ p P → μ.2 (n + 263) 1 = w → μ.2 (n + 263) 0 = n + 264 → WSl n μ → (∃ tw kw ow, BR μ (n + 265) tw kw ow) → CO μ w S → ∃ r μ' S', fX6_compose_L14 fu K (n + 263) p (nI f) μ = some (r, μ') ∧ KW n w μ μ' ∧ (∃ tw kw ow, BR μ' (n + 265) tw kw ow) ∧ CO μ' w S' ∧ ((emI (eFs P m f S) 59).2 ≤ 12000 → r = 1 ∧ S' = emI (eFs P m f S) 59) ∧ (¬ (emI (eFs P m f S) 59).2 ≤ 12000 → r = 0) := by
  have hc := hV.2.2.2.2.1
  have fin : ∀ (μ : Mm) (S : Ot), μ.2 (n + 263) 1 = w → (∃ tw kw ow, BR μ (n + 265) tw kw ow) → CO μ w S → ∃ μ', fX6_compose_L70 fu (n + 263) μ = some ((if S.2 + 1 ≤ 12000 then 1 else 0), μ') ∧ KW n w μ μ' ∧ (∃ tw kw ow, BR μ' (n + 265) tw kw ow) ∧ CO μ' w (emI S 59) := by
    intro μ S hw hb hC
    obtain ⟨μ1, e1, c1, a1⟩ := hC.add 59
    obtain ⟨tw, kw, ow, hb⟩ := hb
    unfold fX6_compose_L70
    have c1' := c1
    unfold CO at c1'
    rw [hw, bd_e e1, a1.1, hw, c1'.2.2.2.1, emI_2]
    by_cases q : S.2 + 1 ≤ 12000
    · rw [if_pos q, if_pos rfl, if_pos q]
      exact ⟨μ1, rfl, a1.kw, ⟨tw, kw, ow, hb.ag a1 (by omega)⟩, c1⟩
    · rw [if_neg q, if_neg (show ¬ (1 : Int32) = 0 by decide), if_neg q]
      exact ⟨μ1, rfl, a1.kw, ⟨tw, kw, ow, hb.ag a1 (by omega)⟩, c1⟩
  intro m
  induction m with
  | zero =>
    intro K f μ S hf hK hP hw hw0 hl hb hC
    obtain ⟨K, rfl⟩ : ∃ K', K = K' + 1 := ⟨K - 1, by omega⟩
    obtain ⟨μ1, e1, k1, b1, c1⟩ := fin μ S hw hb hC
    refine ⟨(if S.2 + 1 ≤ 12000 then 1 else 0), μ1, emI S 59, ?_, k1, b1, c1, fun q => ?_, fun q => ?_⟩
    · show fX6_compose_B14 (fX6_compose_L14 fu K) fu (n + 263) p (nI f) μ = _
      unfold fX6_compose_B14
      rw [hP.2.1.2.2.2.2.2.1, if_pos (nI_le (by omega) (by omega))]
      exact e1
    · have q' : S.2 + 1 ≤ 12000 := q
      exact ⟨if_pos q', rfl⟩
    · have q' : ¬ S.2 + 1 ≤ 12000 := q
      exact if_neg q'
  | succ m ih =>
    intro K f μ S hf hK hP hw hw0 hl hb hC
    obtain ⟨K, rfl⟩ : ∃ K', K = K' + 1 := ⟨K - 1, by omega⟩
    have es : eFs P (m + 1) f S = eFs P m (f + 1) (eFr P f S) := rfl
    rw [es]
    show ∃ r μ' S', fX6_compose_B14 (fX6_compose_L14 fu K) fu (n + 263) p (nI f) μ = some (r, μ') ∧ _
    unfold fX6_compose_B14
    have hC' := hC
    unfold CO at hC'
    rw [hP.2.1.2.2.2.2.2.1, if_neg (nI_ge (by omega) (by omega)), hw, hC'.2.2.2.1]
    by_cases q : S.2 ≤ 12000
    · rw [if_pos q, if_pos rfl, r_ib (by omega) (by decide), hP.1.2.1, nI_clamp (by omega), (hP.1.2.2.2 f (by omega)).1, lt'_e]
      obtain ⟨μ1, e1, c1, k1, b1⟩ := fr_C fu hfu hV (show f < hd P 5 by omega) hp hwn hP hw hw0 hl hb hC (fun μ6 => lt' (nI f + 1) fun x7 => fX6_compose_L14 fu K (n + 263) p x7 μ6)
      rw [e1, lt'_e, nI_1]
      have r1 := k1.1
      obtain ⟨r, μ', S', e', k', b', c', g1, g2⟩ := ih K (f + 1) μ1 (eFr P f S) (by omega) (by omega) (hP.lo hc r1 (fun b g1 g2 => k1.2 b (by omega) (by omega) (by omega))) (by rw [r1]; exact hw) (by rw [r1]; exact hw0) (by unfold WSl; rw [r1]; exact hl) b1 c1
      exact ⟨r, μ', S', e', k1.tr k', b', c', g1, g2⟩
    · rw [if_neg q, if_neg (show ¬ (1 : Int32) = 0 by decide)]
      obtain ⟨μ1, e1, k1, b1, c1⟩ := fin μ S hw hb hC
      have mono := (eFs_2 hV m (f + 1) (eFr P f S) (by omega)).1
      have g := (eFr_2 (S := S) hV (show f < hd P 5 by omega)).1
      refine ⟨(if S.2 + 1 ≤ 12000 then 1 else 0), μ1, emI S 59, e1, k1, b1, c1, fun w1 => ?_, fun _ => if_neg (by omega)⟩
      have w1' : (eFs P m (f + 1) (eFr P f S)).2 + 1 ≤ 12000 := w1
      omega
