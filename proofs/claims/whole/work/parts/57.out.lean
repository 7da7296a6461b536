/-! WRITING: the bytes that come out, on both sides -/
abbrev Ot : Type := Nf × Nat
def emN (S : Ot) (b : Nat) : Ot := (u1 S.1 S.2 b, S.2 + 1)
def emI (S : Ot) (v : Int32) : Ot := emN S (by8 v)
def emL (S : Ot) : List Int32 → Ot
  | [] => S
  | v :: vs => emL (emI S v) vs
/-- the class's row: all bytes as long as there is room -/
def CO (μ : Mm) (w : Nat) (S : Ot) : Prop := BR μ w S.1 (min S.2 12000) (if S.2 ≤ 12000 then 0 else 1)
/-- the reference's -/
def RO (μ : Mm) (y : Nat) (S : Ot) : Prop := μ.2 y 21 = y + 8 ∧ μ.1 y 31 = nI S.2 ∧ RB μ (y + 8) S.1 (min S.2 12000) ∧ S.2 < 2 ^ 30
theorem CO.add {μ : Mm} {w : Nat} {S : Ot} (h : CO μ w S) (v : Int32) : ∃ μ', fX0_add w v μ = some μ' ∧ CO μ' w (emI S v) ∧ Ag μ μ' w (w + 2) := by
  unfold CO at h ⊢
  by_cases q : S.2 < 12000
  · rw [Nat.min_eq_left (by omega), if_pos (by omega)] at h
    obtain ⟨μ', e, b, a⟩ := h.add (v := v) q
    refine ⟨μ', e, ?_, a⟩
    show BR μ' w (u1 S.1 S.2 (by8 v)) (min (S.2 + 1) 12000) (if S.2 + 1 ≤ 12000 then 0 else 1)
    rw [Nat.min_eq_left (by omega), if_pos (by omega)]
    exact b
  · rw [Nat.min_eq_right (by omega)] at h
    obtain ⟨μ', e, b, a⟩ := h.full (v := v)
    refine ⟨μ', e, ?_, a⟩
    show BR μ' w (u1 S.1 S.2 (by8 v)) (min (S.2 + 1) 12000) (if S.2 + 1 ≤ 12000 then 0 else 1)
    rw [Nat.min_eq_right (by omega), if_neg (by omega)]
    exact b.eqv (fun j hj => u1_j (by omega))
theorem CO.add2 {μ : Mm} {w : Nat} {S : Ot} (h : CO μ w S) (v : Int32) : ∃ μ', fX0_addTwo w v μ = some μ' ∧ CO μ' w (emI (emI S v) (v >>> ((8 : Int32) &&& 31))) ∧ Ag μ μ' w (w + 2) := by
  obtain ⟨μ1, e1, c1, a1⟩ := h.add v
  obtain ⟨μ2, e2, c2, a2⟩ := c1.add (v >>> ((8 : Int32) &&& 31))
  exact ⟨μ2, by unfold fX0_addTwo; rw [bd_e e1, bd_e e2], c2, a1.tr a2⟩
/-- what saying changes -/
def SFr (y : Nat) (μ μ' : Mm) : Prop := μ'.2 = μ.2 ∧ (∀ b, b ≠ y → b ≠ y + 8 → μ'.1 b = μ.1 b) ∧ ∀ k, k ≠ 31 → μ'.1 y k = μ.1 y k
theorem SFr.rf {y : Nat} {μ : Mm} : SFr y μ μ := ⟨rfl, fun _ _ _ => rfl, fun _ _ => rfl⟩
theorem SFr.tr {y : Nat} {μ μ1 μ2 : Mm} (h : SFr y μ μ1) (h1 : SFr y μ1 μ2) : SFr y μ μ2 := ⟨h1.1.trans h.1, fun b a c => (h1.2.1 b a c).trans (h.2.1 b a c), fun k a => (h1.2.2 k a).trans (h.2.2 k a)⟩
theorem RO.say {μ : Mm} {y : Nat} {S : Ot} (h : RO μ y S) (hS : S.2 + 1 < 2 ^ 30) (v : Int32) : ∃ μ', fX10_say y v μ = some μ' ∧ RO μ' y (emI S v) ∧ SFr y μ μ' := by
  obtain ⟨h1, h2, h3, h4⟩ := h
  unfold fX10_say fX10_say_L21
  rw [h2]
  by_cases q : S.2 < 12000
  · rw [if_neg (show ¬ (12000 : Int32) ≤ nI S.2 from nI_ge (b := 12000) q (by decide)), r_ib (by omega) (by decide), h1, nI_clamp (by omega), lt'_e, lt'_e, si_b (by omega), h2, nI_1]
    rw [Nat.min_eq_left (by omega)] at h3
    refine ⟨_, rfl, ⟨h1, si_k, ?_, hS⟩, ⟨rfl, fun b a c => by rw [si_b a, si_b c], fun k hk => by rw [si_j hk, si_b (by omega)]⟩⟩
    show RB _ (y + 8) (u1 S.1 S.2 (by8 v)) (min (S.2 + 1) 12000)
    rw [Nat.min_eq_left (by omega)]
    have := RB.put h3 (x := vp_nar .byte v.toInt8.toInt32) v (by rw [nar_b, b_toB])
    intro j hj
    rw [si_b (by omega)]
    exact this j hj
  · rw [if_pos (show (12000 : Int32) ≤ nI S.2 from nI_le (a := 12000) (by omega) (by omega)), lt'_e, nI_1]
    rw [Nat.min_eq_right (by omega)] at h3
    refine ⟨_, rfl, ⟨h1, si_k, ?_, hS⟩, ⟨rfl, fun b a c => by rw [si_b a], fun k hk => by rw [si_j hk]⟩⟩
    show RB _ (y + 8) (u1 S.1 S.2 (by8 v)) (min (S.2 + 1) 12000)
    rw [Nat.min_eq_right (by omega)]
    intro j hj
    rw [si_b (by omega), u1_j (by omega)]
    exact h3 j hj
theorem RO.say2 {μ : Mm} {y : Nat} {S : Ot} (h : RO μ y S) (hS : S.2 + 2 < 2 ^ 30) (v : Int32) : ∃ μ', fX10_sayTwo y v μ = some μ' ∧ RO μ' y (emI (emI S v) (v >>> ((8 : Int32) &&& 31))) ∧ SFr y μ μ' := by
  obtain ⟨μ1, e1, c1, a1⟩ := h.say (by omega) v
  obtain ⟨μ2, e2, c2, a2⟩ := c1.say (by show S.2 + 1 + 1 < 2 ^ 30; omega) (v >>> ((8 : Int32) &&& 31))
  exact ⟨μ2, by unfold fX10_sayTwo; rw [bd_e e1, bd_e e2], c2, a1.tr a2⟩
theorem emI_2 {S : Ot} {v : Int32} : (emI S v).2 = S.2 + 1 := rfl
/-- a table -/
def emT (g : Nat → Int32) : Nat → Ot → Ot
  | 0, S => S
  | k + 1, S => emI (emI (emI (emT g k S) (g k >>> ((16 : Int32) &&& 31))) (g k >>> ((8 : Int32) &&& 31))) (g k)
theorem emT_2 {g : Nat → Int32} {S : Ot} : ∀ k, (emT g k S).2 = S.2 + 3 * k := by
  intro k
  induction k with
  | zero => rfl
  | succ k ih =>
    show (emT g k S).2 + 1 + 1 + 1 = _
    omega
theorem put_T {x T w m : Nat} {g : Nat → Int32} {S0 : Ot} (fu : Nat) (hm : m ≤ 256) (hx : w + 2 ≤ x ∨ x < w) (hT : w + 2 ≤ T ∨ T + 1 < w) : ∀ (K i : Nat) (μ : Mm), i ≤ m → m - i < K → μ.2 x 1 = w → μ.2 T 0 = T + 1 → μ.1 T 1 = nI m → (∀ k, k < m → μ.1 (T + 1) k = g k) → CO μ w (emT g i S0) → ∃ μ', fX6_putTable_L2 fu K x T (nI i) μ = some μ' ∧ CO μ' w (emT g m S0) ∧ Ag μ μ' w (w + 2) := by
  intro K
  induction K with
  | zero => intro i μ _ h; omega
  | succ K ih =>
    intro i μ hi hK hw hl h1 hg hC
    show ∃ μ', fX6_putTable_B2 (fX6_putTable_L2 fu K) fu x T (nI i) μ = some μ' ∧ _
    unfold fX6_putTable_B2
    rw [h1]
    by_cases q : i = m
    · subst q
      rw [if_pos (nI_le (by omega) (by omega))]
      exact ⟨μ, rfl, hC, Ag.rf⟩
    · obtain ⟨μ1, e1, c1, a1⟩ := hC.add (g i >>> ((16 : Int32) &&& 31))
      obtain ⟨μ2, e2, c2, a2⟩ := c1.add (g i >>> ((8 : Int32) &&& 31))
      obtain ⟨μ3, e3, c3, a3⟩ := c2.add (g i)
      have a12 := a1.tr a2
      have a13 := a12.tr a3
      rw [if_neg (nI_ge (by omega) (by omega)), r_ib (by omega) (by decide), hl, nI_clamp (by omega), hg i (by omega), lt'_e, hw, bd_e e1, a1.1, hw, bd_e e2, a12.1, hw, bd_e e3, lt'_e, nI_1]
      obtain ⟨μ', e', c', a'⟩ := ih (i + 1) μ3 (by omega) (by omega) (by rw [a13.1]; exact hw) (by rw [a13.1]; exact hl) (by rw [a13.2 _ (by omega)]; exact h1) (fun k hk => by rw [a13.2 _ (by omega)]; exact hg k hk) c3
      exact ⟨μ', e', c', a13.tr a'⟩
theorem say_T {y A F m ln : Nat} {g : Nat → Int32} {S0 : Ot} (fu : Nat) (hm : F + m ≤ ln) (hln : ln < 2 ^ 31) (hA : A ≠ y ∧ A ≠ y + 8) (hS : S0.2 + 3 * m < 2 ^ 30) : ∀ (K i : Nat) (μ : Mm), i ≤ m → m - i < K → (∀ k, k < m → μ.1 A (F + k) = g k) → RO μ y (emT g i S0) → ∃ μ', fX10_sayTable_L3 fu ln K y A (nI F) (nI m) (nI i) μ = some μ' ∧ RO μ' y (emT g m S0) ∧ SFr y μ μ' := by
  intro K
  induction K with
  | zero => intro i μ _ h; omega
  | succ K ih =>
    intro i μ hi hK hg hC
    show ∃ μ', fX10_sayTable_B3 (fX10_sayTable_L3 fu ln K) fu ln y A (nI F) (nI m) (nI i) μ = some μ' ∧ _
    unfold fX10_sayTable_B3
    by_cases q : i = m
    · subst q
      rw [if_pos (nI_le (by omega) (by omega))]
      exact ⟨μ, rfl, hC, SFr.rf⟩
    · have s2 := emT_2 (g := g) (S := S0) i
      obtain ⟨μ1, e1, c1, a1⟩ := hC.say (by omega) (g i >>> ((16 : Int32) &&& 31))
      obtain ⟨μ2, e2, c2, a2⟩ := c1.say (by rw [emI_2]; omega) (g i >>> ((8 : Int32) &&& 31))
      obtain ⟨μ3, e3, c3, a3⟩ := c2.say (by rw [emI_2, emI_2]; omega) (g i)
      have a12 := a1.tr a2
      have a13 := a12.tr a3
      rw [if_neg (nI_ge (by omega) (by omega)), nI_add, r_ib (by omega) hln, nI_clamp (by omega), hg i (by omega), bd_e e1, r_ib (by omega) hln, a1.2.1 A hA.1 hA.2, hg i (by omega), bd_e e2, r_ib (by omega) hln, a12.2.1 A hA.1 hA.2, hg i (by omega), bd_e e3, lt'_e, nI_1]
      obtain ⟨μ', e', c', a'⟩ := ih (i + 1) μ3 (by omega) (by omega) (fun k hk => by rw [a13.2.1 A hA.1 hA.2]; exact hg k hk) c3
      exact ⟨μ', e', c', a13.tr a'⟩
/-! rows of bytes -/
def rBb (E : Nf) (a : Nat) : Nat → Ot → Ot
  | 0, S => S
  | j + 1, S => emN (rBb E a j S) (E (a + j))
def rB (E : Nf) (a m : Nat) (S : Ot) : Ot := rBb E a m (emN S m)
/-- so many full rows -/
def rF (E : Nf) (S : Ot) : Nat → Ot
  | 0 => S
  | i + 1 => rB E (255 * i) 255 (rF E S i)
def rEnd (E : Nf) (ec : Nat) (S : Ot) : Ot := emN (if ec % 255 = 0 then rF E S (ec / 255) else rB E (255 * (ec / 255)) (ec % 255) (rF E S (ec / 255))) 0
theorem rBb_2 {E : Nf} {a : Nat} {S : Ot} : ∀ j, (rBb E a j S).2 = S.2 + j := by
  intro j
  induction j with
  | zero => rfl
  | succ j ih =>
    show (rBb E a j S).2 + 1 = _
    omega
theorem rB_2 {E : Nf} {a m : Nat} {S : Ot} : (rB E a m S).2 = S.2 + 1 + m := by
  unfold rB
  rw [rBb_2]; rfl
theorem rF_2 {E : Nf} {S : Ot} : ∀ i, (rF E S i).2 = S.2 + 256 * i := by
  intro i
  induction i with
  | zero => rfl
  | succ i ih =>
    show (rB E (255 * i) 255 (rF E S i)).2 = _
    rw [rB_2]; omega
theorem rBb_e {E E' : Nf} {a : Nat} {S : Ot} : ∀ j, (∀ k, k < j → E' (a + k) = E (a + k)) → rBb E' a j S = rBb E a j S := by
  intro j
  induction j with
  | zero => intro _; rfl
  | succ j ih =>
    intro h
    show emN (rBb E' a j S) (E' (a + j)) = emN (rBb E a j S) (E (a + j))
    rw [ih (fun k hk => h k (by omega)), h j (by omega)]
theorem rF_e {E E' : Nf} {S : Ot} : ∀ i, (∀ k, k < 255 * i → E' k = E k) → rF E' S i = rF E S i := by
  intro i
  induction i with
  | zero => intro _; rfl
  | succ i ih =>
    intro h
    show rB E' (255 * i) 255 (rF E' S i) = rB E (255 * i) 255 (rF E S i)
    unfold rB
    rw [ih (fun k hk => h k (by omega)), rBb_e 255 (fun k hk => h _ (by omega))]
theorem emN_I {S : Ot} {b : Nat} {v : Int32} (hb : b < 256) (h : v &&& 255 = nI b) : emI S v = emN S b := by
  have e : by8 v = b := by
    have := by8_and v
    rw [h] at this
    exact ((nI_eq (by omega) (by have := by8_lt v; omega)).mp this).symm
  unfold emI
  rw [e]
theorem emN_n {S : Ot} {b : Nat} (hb : b < 256) : emI S (nI b) = emN S b := by
  unfold emI
  rw [by8_nI hb]
/-- the class puts the rows -/
theorem pr_in {x w c a m : Nat} {E : Nf} {S0 : Ot} (fu : Nat) (rec10 : Nat → Nat → Int32 → Mm → Option Mm) {r : Nat} (hm : m ≤ 255) (ham : a + m ≤ c) (hx : w + 2 ≤ x ∨ x < w) (hr : w + 2 ≤ r ∨ r + 2 ≤ w) : ∀ (K i : Nat) (μ : Mm), i ≤ m → m - i < K → μ.2 x 1 = w → BR μ r E c 0 → CO μ w (rBb E a i S0) → ∃ μ', fX6_putRows_L42 rec10 fu K x r (nI a) (nI m) (nI i) μ = rec10 x r (nI (a + 255)) μ' ∧ CO μ' w (rBb E a m S0) ∧ Ag μ μ' w (w + 2) := by
  intro K
  induction K with
  | zero => intro i μ _ h; omega
  | succ K ih =>
    intro i μ hi hK hw hB hC
    show ∃ μ', fX6_putRows_B42 rec10 (fX6_putRows_L42 rec10 fu K) fu x r (nI a) (nI m) (nI i) μ = _ ∧ _
    unfold fX6_putRows_B42
    have hc := hB.2.2.1
    by_cases q : i = m
    · subst q
      rw [if_pos (nI_le (by omega) (by omega)), lt'_e, show nI a + 255 = nI (a + 255) from nI_add a 255]
      exact ⟨μ, rfl, hC, Ag.rf⟩
    · have hE := (hB.2.2.2.2 (a + i) (by omega)).2
      obtain ⟨μ1, e1, c1, a1⟩ := hC.add (nI (E (a + i)))
      rw [emN_n hE] at c1
      rw [if_neg (nI_ge (by omega) (by omega)), nI_add, bd_e (hB.atN (by omega)), hw, bd_e e1, lt'_e, nI_1]
      obtain ⟨μ', e', c', a'⟩ := ih (i + 1) μ1 (by omega) (by omega) (by rw [a1.1]; exact hw) (hB.ag a1 (by omega)) c1
      exact ⟨μ', e', c', a1.tr a'⟩
theorem pr_C {x w c r : Nat} {E : Nf} {S0 : Ot} (fu : Nat) (hfu : 300 ≤ fu) (hx : w + 2 ≤ x ∨ x < w) (hr : w + 2 ≤ r ∨ r + 2 ≤ w) : ∀ (K i : Nat) (μ : Mm), 255 * i ≤ c → c + 255 < 255 * (i + K) → μ.2 x 1 = w → BR μ r E c 0 → CO μ w (rF E S0 i) → ∃ μ', fX6_putRows_L10 fu K x r (nI (255 * i)) μ = some μ' ∧ CO μ' w (rEnd E c S0) ∧ Ag μ μ' w (w + 2) := by
  intro K
  induction K with
  | zero => intro i μ h1 h2; omega
  | succ K ih =>
    intro i μ h1 h2 hw hB hC
    have hc := hB.2.2.1
    show ∃ μ', fX6_putRows_B10 (fX6_putRows_L10 fu K) fu x r (nI (255 * i)) μ = some μ' ∧ _
    unfold fX6_putRows_B10
    rw [hB.2.1]
    by_cases q : c = 255 * i
    · rw [if_pos (nI_le (by omega) (by omega)), hw]
      obtain ⟨μ1, e1, c1, a1⟩ := hC.add 0
      rw [bd_e e1]
      refine ⟨μ1, rfl, ?_, a1⟩
      have z : emI (rF E S0 i) 0 = emN (rF E S0 i) 0 := emN_n (b := 0) (by decide)
      rw [z] at c1
      unfold rEnd
      rw [if_pos (by omega), show c / 255 = i by omega]
      exact c1
    · rw [if_neg (nI_ge (by omega) (by omega)), pk_sub (by omega), hw]
      by_cases q2 : 255 * i + 255 ≤ c
      · have hmin : mmin (255 : Int32) (nI (c - 255 * i)) = nI 255 := by
          unfold mmin
          by_cases w1 : c - 255 * i < 255
          · omega
          · rw [if_neg (show ¬ nI (c - 255 * i) < 255 from nI_nlt (b := 255) (by omega) (by omega))]; rfl
        rw [hmin, lt'_e]
        obtain ⟨μ1, e1, c1, a1⟩ := hC.add (nI 255)
        rw [emN_n (by decide)] at c1
        rw [bd_e e1]
        obtain ⟨μ2, e2, c2, a2⟩ := pr_in (S0 := emN (rF E S0 i) 255) (a := 255 * i) (m := 255) fu (fX6_putRows_L10 fu K) (by decide) q2 hx hr fu 0 μ1 (by omega) (by omega) (by rw [a1.1]; exact hw) (hB.ag a1 (by omega)) c1
        have e2' : fX6_putRows_L42 (fX6_putRows_L10 fu K) fu fu x r (nI (255 * i)) (nI 255) 0 μ1 = fX6_putRows_L10 fu K x r (nI (255 * i + 255)) μ2 := e2
        rw [e2', show 255 * i + 255 = 255 * (i + 1) by omega]
        have a12 := a1.tr a2
        obtain ⟨μ', e', c', a'⟩ := ih (i + 1) μ2 (by omega) (by omega) (by rw [a12.1]; exact hw) (hB.ag a12 (by omega)) c2
        exact ⟨μ', e', c', a12.tr a'⟩
      · have hmin : mmin (255 : Int32) (nI (c - 255 * i)) = nI (c - 255 * i) := by
          unfold mmin
          by_cases w1 : c - 255 * i < 255
          · rw [if_pos (show nI (c - 255 * i) < 255 from nI_lt (b := 255) w1 (by decide))]
          · omega
        rw [hmin, lt'_e]
        obtain ⟨μ1, e1, c1, a1⟩ := hC.add (nI (c - 255 * i))
        rw [emN_n (by omega)] at c1
        rw [bd_e e1]
        obtain ⟨μ2, e2, c2, a2⟩ := pr_in (S0 := emN (rF E S0 i) (c - 255 * i)) (a := 255 * i) (m := c - 255 * i) fu (fX6_putRows_L10 fu K) (by omega) (by omega) hx hr fu 0 μ1 (by omega) (by omega) (by rw [a1.1]; exact hw) (hB.ag a1 (by omega)) c1
        have e2' : fX6_putRows_L42 (fX6_putRows_L10 fu K) fu fu x r (nI (255 * i)) (nI (c - 255 * i)) 0 μ1 = fX6_putRows_L10 fu K x r (nI (255 * i + 255)) μ2 := e2
        have a12 := a1.tr a2
        obtain ⟨K, rfl⟩ : ∃ K', K = K' + 1 := ⟨K - 1, by omega⟩
        rw [e2']
        show ∃ μ', fX6_putRows_B10 (fX6_putRows_L10 fu K) fu x r (nI (255 * i + 255)) μ2 = some μ' ∧ _
        unfold fX6_putRows_B10
        have hB2 := hB.ag a12 (by omega)
        rw [hB2.2.1, if_pos (nI_le (by omega) (by omega)), a12.1, hw]
        obtain ⟨μ3, e3, c3, a3⟩ := c2.add 0
        rw [bd_e e3]
        refine ⟨μ3, rfl, ?_, a12.tr a3⟩
        have z : emI (rBb E (255 * i) (c - 255 * i) (emN (rF E S0 i) (c - 255 * i))) 0 = emN (rBb E (255 * i) (c - 255 * i) (emN (rF E S0 i) (c - 255 * i))) 0 := emN_n (b := 0) (by decide)
        rw [z] at c3
        unfold rEnd rB
        rw [if_neg (by omega), show c / 255 = i by omega, show c % 255 = c - 255 * i by omega]
        exact c3
