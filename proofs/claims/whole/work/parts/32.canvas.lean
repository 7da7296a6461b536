/-! canvas -/
theorem nI_nl {a k : Nat} {v : Int32} (hv : v = nI k) (h : ¬ a = k) (ha : a < 2 ^ 31) (hk : k < 2 ^ 31) : ¬ nI a = v := fun e => h ((nI_eq ha hk).mp (e.trans hv))
def cov (P : Pic) (f X Y : Nat) : Bool := decide (fx P f 0 ≤ X) && decide (X < fx P f 0 + fx P f 2) && decide (fx P f 1 ≤ Y) && decide (Y < fx P f 1 + fx P f 3)
def cvi (P : Pic) (f X Y : Nat) : Nat := ix P f ((Y - fx P f 1) * fx P f 2 + (X - fx P f 0))
def shM (P : Pic) (f X Y : Nat) (v : Int32) : Int32 := if cov P f X Y = true then (if nI (cvi P f X Y) = tr P f then v else if fx P f 4 = 0 then gt P (cvi P f X Y) else lt P f (cvi P f X Y)) else v
def lfM (P : Pic) (f X Y : Nat) (v b : Int32) : Int32 := if cov P f X Y = true then (if fx P f 6 = 3 then v else if fx P f 6 = 2 then b else shM P f X Y v) else v
def fdM (P : Pic) (X Y : Nat) (b : Int32) : Nat → Int32
  | 0 => b
  | k + 1 => lfM P k X Y (fdM P X Y b k) b
theorem cov_e {P : Pic} {f X Y : Nat} : cov P f X Y = true ↔ (fx P f 0 ≤ X ∧ X < fx P f 0 + fx P f 2 ∧ fx P f 1 ≤ Y ∧ Y < fx P f 1 + fx P f 3) := by
  simp only [cov, Bool.and_eq_true, decide_eq_true_eq]
  exact ⟨fun ⟨⟨⟨a, b⟩, c⟩, d⟩ => ⟨a, b, c, d⟩, fun ⟨a, b, c, d⟩ => ⟨⟨⟨a, b⟩, c⟩, d⟩⟩
theorem cov_ix {P : Pic} {f X Y : Nat} (hV : VP P) (hf : f < hd P 5) (h : cov P f X Y = true) : (Y - fx P f 1) * fx P f 2 + (X - fx P f 0) < fx P f 2 * fx P f 3 := by
  obtain ⟨a, b, c, d⟩ := cov_e.mp h
  have : (Y - fx P f 1 + 1) * fx P f 2 ≤ fx P f 3 * fx P f 2 := Nat.mul_le_mul_right _ (by omega)
  rw [Nat.add_mul, Nat.mul_comm (fx P f 3)] at this
  omega
section CV
variable {μ : Mm} {p : Nat} {P : Pic} {X Y f : Nat}
theorem covers_C (hP : PC μ p P) (hV : VP P) (hf : f < hd P 5) (hX : X < 64) (hY : Y < 64) : fX3_covers (p + 4 + 5 * f) (nI X) (nI Y) μ = if cov P f X Y = true then 1 else 0 := by
  have hF := hP.2.2 f hf
  have h0 := (hV.2.2.2.2.2 f hf).1
  have h1 := hV.1
  unfold fX3_covers
  rw [hF.1.1, hF.1.2.1, hF.1.2.2.1, hF.1.2.2.2.1, nI_add, nI_add]
  by_cases c : cov P f X Y = true
  · obtain ⟨c1, c2, c3, c4⟩ := cov_e.mp c
    rw [if_pos c, if_neg (nI_nlt c1 (by omega)), if_neg (nI_ge c2 (by omega)), if_neg (nI_nlt c3 (by omega)), if_neg (nI_ge c4 (by omega))]
  · rw [if_neg c]
    rw [cov_e] at c
    by_cases c1 : X < fx P f 0
    · rw [if_pos (nI_lt c1 (by omega))]
    rw [if_neg (nI_nlt (by omega) (by omega))]
    by_cases c2 : fx P f 0 + fx P f 2 ≤ X
    · rw [if_pos (nI_le c2 (by omega))]
    rw [if_neg (nI_ge (by omega) (by omega))]
    by_cases c3 : Y < fx P f 1
    · rw [if_pos (nI_lt c3 (by omega))]
    rw [if_neg (nI_nlt (by omega) (by omega)), if_pos (nI_le (by omega) (by omega))]
theorem shown_C (hP : PC μ p P) (hV : VP P) (hf : f < hd P 5) (hX : X < 64) (hY : Y < 64) (v : Int32) : fX4_shown p (p + 4 + 5 * f) (nI X) (nI Y) v μ = some (shM P f X Y v) := by
  have hF := hP.2.2 f hf
  have hVF := hV.2.2.2.2.2 f hf
  have h1 := hV.1
  have hc := hV.2.2.2.2.1
  have hL := hP.1.2.2.2 f (by omega)
  unfold fX4_shown shM
  rw [covers_C hP hV hf hX hY]
  by_cases c : cov P f X Y = true
  · have hi := cov_ix hV hf c
    obtain ⟨c1, c2, c3, c4⟩ := cov_e.mp c
    have p1 := (vf_pl hV hf).1
    have ei : (((nI Y - μ.1 (p + 4 + 5 * f) 1) * μ.1 (p + 4 + 5 * f) 2) + nI X) - μ.1 (p + 4 + 5 * f) 0 = nI ((Y - fx P f 1) * fx P f 2 + (X - fx P f 0)) := by
      rw [hF.1.1, hF.1.2.1, hF.1.2.2.1, pk_sub c3, pk_mul, nI_add, pk_sub (by omega)]
      congr 1
      omega
    have e2 : fX3_indexAt (p + 4 + 5 * f) (nI X) (nI Y) μ = some (nI (cvi P f X Y)) := by
      unfold fX3_indexAt
      rw [ei, r_ib (by omega) (by decide), hL.2.2.2.1, nI_clamp (by omega), hF.2.2.2 _ hi]
      rfl
    have hv : cvi P f X Y < tbs P f := hVF.2.2.2.2.2 _ hi
    rw [if_pos c, if_pos c, lt'_e, if_neg (show ¬ (1 : Int32) = 0 by decide), bd_e e2, hL.2.2.1, hF.2.2.1.2.1]
    by_cases q : nI (cvi P f X Y) = tr P f
    · rw [if_pos q, if_pos q]
    · rw [if_neg q, if_neg q, lt'_e]
      unfold fX4_tableOf
      rw [hL.2.1, hF.2.1.1]
      unfold tbs at hv
      have z1 := tsz_le hVF.2.1
      have z2 := tsz_le hV.2.1
      by_cases z : fx P f 4 = 0
      · rw [if_pos z] at hv ⊢
        rw [if_pos (show nI (fx P f 4) = 0 by rw [z]; rfl), hP.1.1, r_ib (by omega) (by decide), hP.1.2.2.1, nI_clamp (by omega), hP.2.1.2.2.2.2.2.2 _ hv]
      · rw [if_neg z] at hv ⊢
        rw [if_neg (nI_ne0 (by omega) (by omega)), r_ib (by omega) (by decide), hL.2.2.2.2, nI_clamp (by omega), hF.2.1.2 _ hv]
  · rw [if_neg c, if_neg c, lt'_e, if_pos rfl]
theorem left_C (hP : PC μ p P) (hV : VP P) (hf : f < hd P 5) (hX : X < 64) (hY : Y < 64) (v b : Int32) : fX4_leftBehind p (p + 4 + 5 * f) (nI X) (nI Y) v b μ = some (lfM P f X Y v b) := by
  have hF := hP.2.2 f hf
  have hVF := hV.2.2.2.2.2 f hf
  have hc := hV.2.2.2.2.1
  have hL := hP.1.2.2.2 f (by omega)
  have h6 := hVF.2.2.1.2.1
  unfold fX4_leftBehind lfM
  rw [covers_C hP hV hf hX hY, hL.2.2.1, hF.2.2.1.1, bd_e (shown_C hP hV hf hX hY v), lt'_e]
  by_cases c : cov P f X Y = true
  · rw [if_pos c, if_pos c, if_neg (show ¬ (1 : Int32) = 0 by decide)]
    by_cases q3 : fx P f 6 = 3
    · rw [if_pos q3, if_pos (show nI (fx P f 6) = 3 by rw [q3]; rfl)]
    rw [if_neg q3, if_neg (nI_nl (v := 3) rfl q3 (by omega) (by decide))]
    by_cases q2 : fx P f 6 = 2
    · rw [if_pos q2, if_pos (show nI (fx P f 6) = 2 by rw [q2]; rfl)]
    rw [if_neg q2, if_neg (nI_nl (v := 2) rfl q2 (by omega) (by decide))]
  · rw [if_neg c, if_neg c, if_pos rfl]
theorem colAt_loop (fu : Nat) (hP : PC μ p P) (hV : VP P) {F : Nat} (hF : F < hd P 5) (hX : X < 64) (hY : Y < 64) (b : Int32) : ∀ n i, i ≤ F → F - i < n → fX4_colourAt_L39 fu n p (nI F) (nI X) (nI Y) b (fdM P X Y b i) (nI i) μ = some (shM P F X Y (fdM P X Y b F)) := by
  have hc := hV.2.2.2.2.1
  intro n
  induction n with
  | zero => intro i h1 h2; omega
  | succ n ih =>
    intro i h1 h2
    show fX4_colourAt_B39 (fX4_colourAt_L39 fu n) fu p (nI F) (nI X) (nI Y) b (fdM P X Y b i) (nI i) μ = _
    unfold fX4_colourAt_B39
    rw [hP.1.2.1]
    by_cases hi : i = F
    · subst hi
      rw [if_pos (nI_le (Nat.le_refl _) (by omega)), r_ib (by omega) (by decide), nI_clamp (by omega), (hP.1.2.2.2 i (by omega)).1, bd_e (shown_C hP hV hF hX hY _)]
    · rw [if_neg (nI_ge (by omega) (by omega)), r_ib (by omega) (by decide), nI_clamp (by omega), (hP.1.2.2.2 i (by omega)).1, bd_e (left_C hP hV (by omega) hX hY _ _), lt'_e, nI_1]
      exact ih (i + 1) (by omega) (by omega)
end CV
theorem coversR {μ : Mm} {y s tn on : Nat} {t o : Nat → Nat} {fk fp : Int32} {P : Pic} {X Y f : Nat} (hR : SR y μ s tn on t o fk fp P) (hV : VP P) (hf : f < hd P 5) (hX : X < 64) (hY : Y < 64) : fX10_covers y (nI f) (nI X) (nI Y) μ = some (if cov P f X Y = true then nI (cvi P f X Y) else -1) := by
  have hc := hV.2.2.2.2.1
  have h0 := (hV.2.2.2.2.2 f hf).1
  have h1 := hV.1
  unfold fX10_covers
  rw [bd_e (field_R hR hc (v := 0) (j := 0) rfl hf (by decide)), lt'_e, bd_e (field_R hR hc (v := 1) (j := 1) rfl hf (by decide)), lt'_e, bd_e (field_R hR hc (v := 2) (j := 2) rfl hf (by decide)), bd_e (field_R hR hc (v := 3) (j := 3) rfl hf (by decide)), if_neg (show ¬ 0 = 7 by decide), if_neg (show ¬ 1 = 7 by decide), if_neg (show ¬ 2 = 7 by decide), if_neg (show ¬ 3 = 7 by decide)]
  by_cases c : cov P f X Y = true
  · have hi := cov_ix hV hf c
    obtain ⟨c1, c2, c3, c4⟩ := cov_e.mp c
    have p1 := (vf_pl hV hf).1
    rw [if_pos c, pk_sub c1, pk_sub c3, if_neg (nI_pos (by omega)), if_neg (nI_pos (by omega)), if_neg (nI_ge (by omega) (by omega)), if_pos (nI_lt (by omega) (by omega)), pk_mul, nI_add, Nat.mul_comm, bd_e (indexAt_R hR hV hf hi (by omega))]
    rfl
  · rw [if_neg c]
    rw [cov_e] at c
    by_cases c1 : X < fx P f 0
    · rw [if_pos (pk_sneg (by omega) c1)]
    rw [pk_sub (show fx P f 0 ≤ X by omega), if_neg (nI_pos (by omega))]
    by_cases c3 : Y < fx P f 1
    · rw [if_pos (pk_sneg (by omega) c3)]
    rw [pk_sub (show fx P f 1 ≤ Y by omega), if_neg (nI_pos (by omega))]
    by_cases c2 : fx P f 0 + fx P f 2 ≤ X
    · rw [if_pos (nI_le (by omega) (by omega))]
    rw [if_neg (nI_ge (by omega) (by omega)), if_neg (nI_nlt (by omega) (by omega))]
theorem canR_loop {μ : Mm} {y s tn on : Nat} {t o : Nat → Nat} {fk fp : Int32} {P : Pic} {X Y F : Nat} (fu : Nat) (hR : SR y μ s tn on t o fk fp P) (hV : VP P) (hF : F < hd P 5) (hX : X < 64) (hY : Y < 64) (b : Int32) : ∀ n i v, i ≤ F + 1 → F + 1 - i < n → (i = 0 ∨ ∃ k, i = k + 1 ∧ v = shM P k X Y (fdM P X Y b k)) → fX10_canvas_L133 fu n y (nI F) (nI X) (nI Y) b (fdM P X Y b i) v (nI i) μ = some (shM P F X Y (fdM P X Y b F)) := by
  have hc := hV.2.2.2.2.1
  intro n
  induction n with
  | zero => intro i v h1 h2; omega
  | succ n ih =>
    intro i v h1 h2 hv
    show fX10_canvas_B133 (fX10_canvas_L133 fu n) fu y (nI F) (nI X) (nI Y) b (fdM P X Y b i) v (nI i) μ = _
    unfold fX10_canvas_B133
    by_cases hi : i = F + 1
    · subst hi
      rcases hv with q | ⟨k, q1, q2⟩
      · omega
      · have : k = F := by omega
        subst this
        rw [if_pos (nI_lt (by omega) (by omega)), q2]
    · have hif : i < hd P 5 := by omega
      have hVF := hV.2.2.2.2.2 i hif
      have h6 := hVF.2.2.1.2.1
      have nx : ∀ v', v' = shM P i X Y (fdM P X Y b i) → ∀ (found : Int32), found = lfM P i X Y (fdM P X Y b i) b → fX10_canvas_L133 fu n y (nI F) (nI X) (nI Y) b found v' (nI i + 1) μ = some (shM P F X Y (fdM P X Y b F)) := fun v' q1 found q2 => by
        rw [nI_1, q2]
        exact ih (i + 1) v' (by omega) (by omega) (Or.inr ⟨i, rfl, q1⟩)
      have e6 : fX10_field y (μ.1 y 6) (nI i) 6 μ = some (nI (fx P i 6)) := field_R hR hc (v := 6) (j := 6) rfl hif (by decide)
      have key : ∀ x1 : Int32, x1 = (if cov P i X Y = true then nI (cvi P i X Y) else -1) → fX10_canvas_L226 (fX10_canvas_L133 fu n) fu y (nI F) (nI X) (nI Y) b (fdM P X Y b i) (shM P i X Y (fdM P X Y b i)) (nI i) x1 μ = some (shM P F X Y (fdM P X Y b F)) := by
        intro x1 hx
        unfold fX10_canvas_L226 fX10_canvas_L258
        rw [bd_e e6, lt'_e, lt'_e]
        by_cases c : cov P i X Y = true
        · have hvv : cvi P i X Y < 256 := by
            have := hVF.2.2.2.2.2 _ (cov_ix hV hif c)
            have t1 := tsz_le hVF.2.1
            have t2 := tsz_le hV.2.1
            unfold tbs at this
            show ix P i _ < 256
            split at this <;> omega
          rw [if_pos c] at hx
          by_cases q2 : fx P i 6 = 2
          · rw [if_pos (show nI (fx P i 6) = 2 by rw [q2]; rfl), hx, if_neg (nI_pos (by omega)), lt'_e]
            refine nx _ rfl _ ?_
            unfold lfM
            rw [if_pos c, if_neg (by omega), if_pos q2]
          · rw [if_neg (nI_nl (v := 2) rfl q2 (by omega) (by decide))]
            by_cases q3 : fx P i 6 = 3
            · rw [if_pos (show nI (fx P i 6) = 3 by rw [q3]; rfl)]
              refine nx _ rfl _ ?_
              unfold lfM
              rw [if_pos c, if_pos q3]
            · rw [if_neg (nI_nl (v := 3) rfl q3 (by omega) (by decide))]
              refine nx _ rfl _ ?_
              unfold lfM
              rw [if_pos c, if_neg q3, if_neg q2]
        · rw [if_neg c] at hx
          have es : shM P i X Y (fdM P X Y b i) = fdM P X Y b i := by unfold shM; rw [if_neg c]
          have el : lfM P i X Y (fdM P X Y b i) b = fdM P X Y b i := by unfold lfM; rw [if_neg c]
          rw [hx, if_pos (show (-1 : Int32) < 0 by decide), es]
          rw [es, el] at nx
          have : ∀ (c : Prop) [Decidable c] (z : Option Int32), (if c then z else z) = z := fun c _ z => by split <;> rfl
          rw [this, this]
          exact nx _ rfl _ rfl
      rw [if_neg (nI_nlt (by omega) (by omega)), bd_e (coversR hR hV hif hX hY)]
      by_cases c : cov P i X Y = true
      · have hvt := hVF.2.2.2.2.2 _ (cov_ix hV hif c)
        have t1 := tsz_le hVF.2.1
        have t2 := tsz_le hV.2.1
        have hvv : cvi P i X Y < 256 := by
          unfold tbs at hvt
          show ix P i _ < 256
          split at hvt <;> omega
        have k1 := key _ rfl
        rw [if_pos c] at k1 ⊢
        rw [if_neg (nI_pos (by omega)), bd_e (field_R hR hc (v := 7) (j := 7) rfl hif (by decide)), if_pos rfl]
        by_cases q : nI (cvi P i X Y) = tr P i
        · rw [if_pos q]
          have es : shM P i X Y (fdM P X Y b i) = fdM P X Y b i := by unfold shM; rw [if_pos c, if_pos q]
          rw [es] at k1
          exact k1
        · rw [if_neg q, bd_e (field_R hR hc (v := 4) (j := 4) rfl hif (by decide)), if_neg (show ¬ 4 = 7 by decide)]
          have hvt' : cvi P i X Y < tbs P i := hvt
          unfold tbs at hvt'
          by_cases z : fx P i 4 = 0
          · rw [if_pos z] at hvt'
            have es : shM P i X Y (fdM P X Y b i) = gt P (cvi P i X Y) := by unfold shM; rw [if_pos c, if_neg q, if_pos z]
            rw [es] at k1
            rw [if_pos (show nI (fx P i 4) ≤ 0 by rw [z]; decide), hR.2.1.2, glo_ix, r_ib (by have := hR.2.1.1; omega) (by decide), hR.1.2.2.2.1, nI_clamp (by have := hR.2.1.1; omega), hR.2.2.2.2.2.2.1.2 _ hvt']
            exact k1
          · rw [if_neg z] at hvt'
            have es : shM P i X Y (fdM P X Y b i) = lt P i (cvi P i X Y) := by unfold shM; rw [if_pos c, if_neg q, if_neg z]
            rw [es] at k1
            rw [if_neg (nI_nle (by omega) (by omega)), hR.2.1.2, loc_ix, lt'_e, r_ib (by have := hR.2.1.1; omega) (by decide), hR.1.2.2.2.2.2.1, nI_clamp (by have := hR.2.1.1; omega), (hR.2.2.2.2.2.2.2 i hif).2.2.1 _ hvt']
            exact k1
      · have k1 := key _ rfl
        have es : shM P i X Y (fdM P X Y b i) = fdM P X Y b i := by unfold shM; rw [if_neg c]
        rw [es] at k1
        rw [if_neg c] at k1 ⊢
        rw [if_pos (show (-1 : Int32) < 0 by decide)]
        exact k1
theorem canvas_ok {n : Nat} {μ : Mm} (fu : Nat) (hfu : 30 ≤ fu) (h : STe n μ) (v a b : Int32) : ∃ r, fX9_canvas fu n v a b μ = some r ∧ fX10_canvas fu (n + 273) v a b μ = some r := by
  obtain ⟨p, dd, m, w, s, tn, on, t, o, fk, fp, P, hC, hR, hV⟩ := h
  have hc := hV.2.2.2.2.1
  have l3 : μ.2 n 3 = p := hC.1.1.2.2.2.1
  have hP := hC.2.2.2.2.2.2.2.1
  have hs := hR.2.1
  have hW := hV.1
  have hh := hP.2.1
  rcases fr_case (c := hd P 5) (by omega) v with ⟨f, hf, ev⟩ | hv
  · subst ev
    have cl : fX9_canvas fu n (nI f) a b μ = (if a < 0 then some (-2) else if nI (hd P 0) ≤ a then some (-2) else if b < 0 then some (-2) else if b < nI (hd P 1) then (bd (fX4_colourAt fu p (nI f) a b μ) fun x3 => some x3) else some (-2)) := by
      unfold fX9_canvas
      rw [l3, bd_e (frameAt_1 hP hc hf), oc_s, hh.1, hh.2.1]
    have e0 := head_R0 hR
    have e1 := head_R hR (k := 1) (v := 1) rfl (by decide)
    have e2 := head_R hR (k := 2) (v := 2) rfl (by decide)
    have e3 := head_R hR (k := 3) (v := 3) rfl (by decide)
    have z2 := tsz_le hV.2.1
    have z3 := hV.2.2.1
    obtain ⟨bk, hbk⟩ : ∃ bk : Int32, bk = if hd P 3 < hd P 2 then gt P (hd P 3) else -1 := ⟨_, rfl⟩
    have rf : fX10_canvas fu (n + 273) (nI f) a b μ = (if fX10_isWithin a 0 (nI (hd P 0 - 1)) = 0 then some (-2) else if fX10_isWithin b 0 (nI (hd P 1 - 1)) = 0 then some (-2) else fX10_canvas_L133 fu fu (n + 273) (nI f) a b bk bk bk 0 μ) := by
      unfold fX10_canvas fX10_canvas_L120
      rw [bd_e (isFrame_1 hR hc hf), if_neg (show ¬ (1 : Int32) = 0 by decide)]
      simp only [lt'_e]
      rw [gd_e e0.1, e0.2, gd_e e1.1, e1.2, gd_e e3.1, e3.2, gd_e e2.1, e2.2, gd_e e3.1, show nI (hd P 0) - 1 = nI (hd P 0 - 1) from pk_sub (b := 1) hW.1, show nI (hd P 1) - 1 = nI (hd P 1 - 1) from pk_sub (b := 1) hW.2.2.1, hs.2, glo_ix, r_ib (by omega) (by decide), nI_clamp (by omega), hR.1.2.2.2.1, hbk]
      by_cases q : hd P 3 < hd P 2
      · rw [if_neg (nI_ge q (by omega)), if_pos q, hR.2.2.2.2.2.2.1.2 _ q]
      · rw [if_pos (nI_le (by omega) (by omega)), if_neg q]
    rcases within_case a (lo := 0) (hi := hd P 0 - 1) (by decide) (by omega) with ⟨X, -, hX, ea, ka⟩ | ka
    · rcases within_case b (lo := 0) (hi := hd P 1 - 1) (by decide) (by omega) with ⟨Y, -, hY, eb, kb⟩ | kb
      · refine ⟨shM P f X Y (fdM P X Y bk f), ?_, ?_⟩
        · have cc : fX4_colourAt fu p (nI f) (nI X) (nI Y) μ = some (shM P f X Y (fdM P X Y bk f)) := by
            have lp := colAt_loop (μ := μ) (p := p) fu hP hV hf (X := X) (Y := Y) (by omega) (by omega) bk fu 0 (by omega) (by omega)
            unfold fX4_colourAt fX4_colourAt_L30
            rw [hP.1.1, hh.2.2.2.1, lt'_e]
            by_cases q : hd P 3 < hd P 2
            · rw [if_pos q] at hbk
              rw [has_1 hh.2.2.1 (by omega) q, if_neg (show ¬ (1 : Int32) = 0 by decide), r_ib (by omega) (by decide), hP.1.2.2.1, nI_clamp (by omega), hh.2.2.2.2.2.2 _ q, ← hbk]
              exact lp
            · rw [if_neg q] at hbk
              rw [has_0 hh.2.2.1 (Or.inr (nI_le (by omega) (by omega))), if_pos rfl, ← hbk]
              exact lp
          rw [cl, ea, eb, if_neg (nI_pos (by omega)), if_neg (nI_ge (by omega) (by omega)), if_neg (nI_pos (by omega)), if_pos (nI_lt (by omega) (by omega)), bd_e cc]
        · rw [rf, show fX10_isWithin a 0 (nI (hd P 0 - 1)) = 1 from ka, if_neg (show ¬ (1 : Int32) = 0 by decide), show fX10_isWithin b 0 (nI (hd P 1 - 1)) = 1 from kb, if_neg (show ¬ (1 : Int32) = 0 by decide), ea, eb]
          exact canR_loop fu hR hV hf (by omega) (by omega) bk fu 0 bk (by omega) (by omega) (Or.inl rfl)
      · refine ⟨-2, ?_, ?_⟩
        · rw [cl, ea, if_neg (nI_pos (by omega)), if_neg (nI_ge (by omega) (by omega))]
          by_cases c1 : b < 0
          · rw [if_pos c1]
          · rw [if_neg c1, if_neg]
            intro q
            obtain ⟨j, hj, rfl⟩ := nI_of c1
            have q2 := (nI_ltI (by omega) hj).mp ((within_neg kb).resolve_left c1)
            have q3 := (nI_ltI hj (by omega)).mp q
            omega
        · rw [rf, show fX10_isWithin b 0 (nI (hd P 1 - 1)) = 0 from kb, if_pos rfl]
          split <;> rfl
    · refine ⟨-2, ?_, ?_⟩
      · rw [cl]
        by_cases c1 : a < 0
        · rw [if_pos c1]
        · rw [if_neg c1, if_pos]
          obtain ⟨j, hj, rfl⟩ := nI_of c1
          have q2 := (nI_ltI (by omega) hj).mp ((within_neg ka).resolve_left c1)
          exact nI_le (by omega) hj
      · rw [rf, show fX10_isWithin a 0 (nI (hd P 0 - 1)) = 0 from ka, if_pos rfl]
  · refine ⟨-2, ?_, ?_⟩
    · unfold fX9_canvas
      rw [l3, bd_e (frameAt_0 hP hv), oc_n]
    · unfold fX10_canvas
      rw [bd_e (isFrame_0 hR hv), if_pos rfl]
