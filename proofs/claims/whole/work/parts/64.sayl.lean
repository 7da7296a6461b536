/-! ENCODING: the reference's search -/
def RXi (y s f w h il : Nat) (o : Nf) (μ : Mm) : Prop := (μ.2 y 9 = y + 5 ∧ μ.2 y 11 = y + 7 ∧ μ.1 y 6 = nI s) ∧ (μ.1 (y + 5) (240 * s + 10 * f + 2) = nI w ∧ μ.1 (y + 5) (240 * s + 10 * f + 3) = nI h ∧ μ.1 (y + 5) (240 * s + 10 * f + 5) = nI il) ∧ ∀ k, k < w * h → μ.1 (y + 7) (98304 * s + 4096 * f + plM w h il k) = nI (o k)
def RCs (y : Nat) (μ : Mm) (e nx : Nat) (ch : Nl) (A F T N : Nf) : Prop := RTa y μ e nx A F T N ∧ WTr (μ.1 (y + 14)) (μ.1 (y + 15)) e nx ch ∧ μ.2 y 36 = y + 14 ∧ μ.2 y 37 = y + 15
/-- what encoding changes -/
def RSF (y : Nat) (μ μ' : Mm) : Prop := μ'.2 = μ.2 ∧ (∀ b, b ≠ y → (b < y + 8 ∨ y + 16 ≤ b) → μ'.1 b = μ.1 b) ∧ ∀ k, (k ≠ 23 ∧ k < 28 ∨ 34 < k) → μ'.1 y k = μ.1 y k
theorem RSF.rf {y : Nat} {μ : Mm} : RSF y μ μ := ⟨rfl, fun _ _ _ => rfl, fun _ _ => rfl⟩
theorem RSF.tr {y : Nat} {μ μ1 μ2 : Mm} (h : RSF y μ μ1) (h1 : RSF y μ1 μ2) : RSF y μ μ2 := ⟨h1.1.trans h.1, fun b a c => (h1.2.1 b a c).trans (h.2.1 b a c), fun k hk => (h1.2.2 k hk).trans (h.2.2 k hk)⟩
theorem RWF.s {y : Nat} {μ μ' : Mm} (h : RWF y μ μ') : RSF y μ μ' := ⟨h.1, fun b a c => h.2.1 b a (by omega) (by omega), fun k hk => h.2.2 k (by omega)⟩
theorem RTF.s {y : Nat} {μ μ' : Mm} (h : RTF y μ μ') : RSF y μ μ' := ⟨h.1, fun b a c => h.2.1 b a (by omega), fun k hk => h.2.2 k (by omega)⟩
theorem Ag.s {y lo hi : Nat} {μ μ' : Mm} (h : Ag μ μ' lo hi) (h1 : y + 8 ≤ lo) (h2 : hi ≤ y + 16) : RSF y μ μ' := ⟨h.1, fun b _ c => h.2 b (by omega), fun k _ => by rw [h.2 y (by omega)]⟩
theorem RXi.f {y s f w h il : Nat} {o : Nf} {μ μ' : Mm} (hx : RXi y s f w h il o μ) (hf : RSF y μ μ') : RXi y s f w h il o μ' := by
  unfold RXi
  rw [hf.1, hf.2.1 (y + 5) (by omega) (by omega), hf.2.1 (y + 7) (by omega) (by omega), hf.2.2 6 (by omega)]
  exact hx
theorem RCs.w {y e nx : Nat} {ch : Nl} {A F T N : Nf} {μ μ' : Mm} (h : RCs y μ e nx ch A F T N) (hf : RWF y μ μ') : RCs y μ' e nx ch A F T N := by
  refine ⟨h.1.eqv (by rw [hf.1]) (hf.2.1 _ (by omega) (by omega) (by omega)) (hf.2.1 _ (by omega) (by omega) (by omega)) (hf.2.1 _ (by omega) (by omega) (by omega)) (hf.2.1 _ (by omega) (by omega) (by omega)), ?_, by rw [hf.1]; exact h.2.2.1, by rw [hf.1]; exact h.2.2.2⟩
  rw [hf.2.1 (y + 14) (by omega) (by omega) (by omega), hf.2.1 (y + 15) (by omega) (by omega) (by omega)]
  exact h.2.1
theorem RTf.w {y sz nx : Nat} {fm : Option Nat} {μ μ' : Mm} (h : RTf y μ sz nx fm) (hf : RWF y μ μ') : RTf y μ' sz nx fm := by
  unfold RTf
  rw [hf.2.2 28 (by omega), hf.2.2 29 (by omega), hf.2.2 30 (by omega)]
  exact h
theorem RWb.eqv {y : Nat} {S0 : Ot} {b : Bt} {μ μ' : Mm} (h : RWb y μ S0 b) (e2 : μ'.2 = μ.2) (e8 : μ'.1 (y + 8) = μ.1 (y + 8)) (e13 : μ'.1 (y + 13) = μ.1 (y + 13)) (ey : ∀ k, 31 ≤ k → k ≤ 34 → μ'.1 y k = μ.1 y k) : RWb y μ' S0 b := by
  obtain ⟨h1, ⟨o1, o2, o3, o4⟩, ⟨i34, i32, i33⟩, h4⟩ := h
  refine ⟨by rw [e2]; exact h1, ⟨by rw [e2]; exact o1, by rw [ey 31 (by omega) (by omega)]; exact o2, fun j hj => by rw [e8]; exact o3 j hj, o4⟩, ⟨by rw [ey 34 (by omega) (by omega)]; exact i34, by rw [ey 32 (by omega) (by omega)]; exact i32, by rw [ey 33 (by omega) (by omega)]; exact i33⟩, fun j hj => by rw [e13]; exact h4 j hj⟩
theorem ix_R {y s f w h il k : Nat} {o : Nf} {μ : Mm} (hx : RXi y s f w h il o μ) (hs : s < 2) (hf : f < 24) (hw : 1 ≤ w ∧ w ≤ 64) (hh : h ≤ 64) (hil : il ≤ 1) (hk : k < w * h) : fX10_indexOf y (nI f) (nI k) μ = some (nI (o k)) := by
  have bwh := Nat.mul_le_mul hw.2 hh
  have hp := plM_lt (il := il) hk
  unfold fX10_indexOf fX10_indexAt
  rw [hx.1.2.2, bd_e (pl_R (il := il) hx.1.1 hs hf hw hh hk hx.2.1.1 hx.2.1.2.1 hx.2.1.2.2 hil), idx_ix, r_ib (by omega) (by decide), hx.1.2.1, nI_clamp (by omega), hx.2.2 k hk, bd_s]
section SL
variable {y s f w h il e nx : Nat} {o : Nf} {fm : Option Nat} {ch : Nl} {A F T N : Nf} {μ : Mm}
theorem in_l {c k : Nat} {a' pl' : Int32} (rec17 : Nat → Int32 → Int32 → Int32 → Int32 → Int32 → Int32 → Mm → Option (Int32 × Mm)) (fu : Nat) (hix : fX10_indexOf y (nI f) (nI k) μ = some (nI (o k))) (hok : o k < 256) (h25 : μ.2 y 25 = y + 10) (h37 : μ.2 y 37 = y + 15) : ∀ (l : List Nat) (K : Nat), lkd (μ.1 (y + 15)) l → (∀ x, x ∈ l → x < 4096 ∧ μ.1 (y + 10) x = nI (T x) ∧ T x < 256) → l.length < K → fX10_sayLongest_L37 rec17 fu K y (nI f) a' pl' (nI c) (nI k) (hdI l) μ = (match fnd T (o k) l with | some x => rec17 y (nI f) a' pl' (nI x) (nI (k + 1)) (nI x) μ | none => rec17 y (nI f) a' pl' (nI c) (nI k) m1 μ) := by
  intro l
  induction l with
  | nil =>
    intro K _ _ hK
    obtain ⟨K, rfl⟩ : ∃ K', K = K' + 1 := ⟨K - 1, by omega⟩
    show fX10_sayLongest_B37 rec17 (fX10_sayLongest_L37 rec17 fu K) fu y (nI f) a' pl' (nI c) (nI k) m1 μ = _
    unfold fX10_sayLongest_B37 fX10_sayLongest_L71
    rw [if_pos (show m1 < 0 by decide), if_pos (show m1 < 0 by decide)]
    rfl
  | cons x xs ih =>
    intro K hk hx hK
    obtain ⟨K, rfl⟩ : ∃ K', K = K' + 1 := ⟨K - 1, by omega⟩
    rw [List.length_cons] at hK
    obtain ⟨x1, x2, x3⟩ := hx x (by simp)
    have ef : fnd T (o k) (x :: xs) = if T x = o k then some x else fnd T (o k) xs := rfl
    rw [ef]
    show fX10_sayLongest_B37 rec17 (fX10_sayLongest_L37 rec17 fu K) fu y (nI f) a' pl' (nI c) (nI k) (nI x) μ = _
    unfold fX10_sayLongest_B37
    rw [if_neg (nI_pos (by omega)), r_ib x1 (by decide), bd_e hix, h25, nI_clamp (by omega), x2]
    by_cases q : T x = o k
    · rw [if_pos (show nI (T x) = nI (o k) by rw [q]), if_pos q]
      unfold fX10_sayLongest_L71
      rw [if_neg (nI_pos (by omega)), lt'_e, nI_1]
    · rw [if_neg (fun w => q ((nI_eq (by omega) (by omega)).mp w)), if_neg q, r_ib x1 (by decide), h37, hk.1, lt'_e]
      exact ih K hk.2 (fun z hz => hx z (by simp [hz])) (by omega)
theorem ou_l {a : Nat} (fu : Nat) (hfu : 300 ≤ fu) (hD : DI e nx fm A F T N) (hT : TI e nx ch A F T) (hC : RCs y μ e nx ch A F T N) (hX : RXi y s f w h il o μ) (hs : s < 2) (hf : f < 24) (hw : 1 ≤ w ∧ w ≤ 64) (hh : h ≤ 64) (hil : il ≤ 1) (ho : ∀ k, k < w * h → o k < 2 ^ e) : ∀ (g K c k : Nat), w * h - k ≤ g → g + 2 ≤ K → k ≤ w * h → DK (2 ^ e) nx c → fX10_sayLongest_L17 fu K y (nI f) (nI a) (nI (w * h)) (nI c) (nI k) (nI c) μ = fX10_sayLongest_L86 fu y (nI f) (nI a) (nI (w * h)) (nI (lg ch T o (w * h) g c k).1) (nI (lg ch T o (w * h) g c k).2) μ := by
  have h2e := two_e hD.1.2
  have bwh := Nat.mul_le_mul hw.2 hh
  intro g
  induction g with
  | zero =>
    intro K c k hg hK hk hc
    obtain ⟨K, rfl⟩ : ∃ K', K = K' + 1 := ⟨K - 1, by omega⟩
    have c4 := DK4 hD.1.2 hD.2.1.2 hc
    show fX10_sayLongest_B17 (fX10_sayLongest_L17 fu K) fu y (nI f) (nI a) (nI (w * h)) (nI c) (nI k) (nI c) μ = _
    unfold fX10_sayLongest_B17
    rw [if_neg (nI_pos (by omega)), if_pos (nI_le (by omega) (by omega))]
    rfl
  | succ g ih =>
    intro K c k hg hK hk hc
    obtain ⟨K, rfl⟩ : ∃ K', K = K' + 2 := ⟨K - 2, by omega⟩
    have c4 := DK4 hD.1.2 hD.2.1.2 hc
    have er : lg ch T o (w * h) (g + 1) c k = if k < w * h then (match fnd T (o k) (ch c) with | some x => lg ch T o (w * h) g x (k + 1) | none => (c, k)) else (c, k) := rfl
    rw [er]
    show fX10_sayLongest_B17 (fX10_sayLongest_L17 fu (K + 1)) fu y (nI f) (nI a) (nI (w * h)) (nI c) (nI k) (nI c) μ = _
    unfold fX10_sayLongest_B17
    rw [if_neg (nI_pos (by omega))]
    by_cases q : k < w * h
    · obtain ⟨w1, w2⟩ := hC.2.1 c hc
      have hy : ∀ x, x ∈ ch c → x < 4096 ∧ μ.1 (y + 10) x = nI (T x) ∧ T x < 256 := fun x hx => by
        obtain ⟨g1, g2, g3⟩ := (hT.1 c hc).1 x hx
        have := (hD.2.2.2.2 x g1 g2).2.2.2
        have := hD.2.1.2
        exact ⟨by omega, (hC.1.2.1 x (Or.inr ⟨g1, g2⟩)).2.1, by omega⟩
      have hlen : (ch c).length ≤ 256 := nd_len 256 _ (hT.1 c hc).2 (fun x hx => (hy x hx).2.2)
      rw [if_neg (nI_ge q (by omega)), if_pos q, r_ib c4 (by decide), hC.2.2.1, nI_clamp (by omega), w1, lt'_e, in_l (T := T) (o := o) _ fu (ix_R hX hs hf hw hh hil q) (by have := ho k q; omega) hC.1.1.2.1 hC.2.2.2 (ch c) fu w2 hy (by omega)]
      cases hq : fnd T (o k) (ch c) with
      | none =>
        show fX10_sayLongest_B17 (fX10_sayLongest_L17 fu K) fu y (nI f) (nI a) (nI (w * h)) (nI c) (nI k) m1 μ = _
        unfold fX10_sayLongest_B17
        rw [if_pos (show m1 < 0 by decide)]
      | some x =>
        obtain ⟨x1, x2⟩ := fnd_s _ hq
        obtain ⟨z1, z2, z3⟩ := ch_N hD hT hc x1
        exact ih (K + 1) x (k + 1) (by omega) (by omega) (by omega) z1
    · rw [if_pos (nI_le (by omega) (by omega)), if_neg q]
/-- does a row stand -/
theorem st_l {a : Nat} (fu : Nat) (hD : DI e nx fm A F T N) (hC : RCs y μ e nx ch A F T N) (hX : RXi y s f w h il o μ) (hs : s < 2) (hf : f < 24) (hw : 1 ≤ w ∧ w ≤ 64) (hh : h ≤ 64) (hil : il ≤ 1) (ho : ∀ k, k < w * h → o k < 2 ^ e) : ∀ (x K : Nat), DK (2 ^ e) nx x → N x < K → a + N x ≤ w * h → (std A T o a (N x) x → fX10_stands_L30 fu K y (nI f) (nI (a + (N x - 1))) (nI x) μ = some 1) ∧ (¬ std A T o a (N x) x → fX10_stands_L30 fu K y (nI f) (nI (a + (N x - 1))) (nI x) μ = some 0) := by
  have h2e := two_e hD.1.2
  intro x
  induction x using Nat.strongRecOn with
  | ind x ih =>
    intro K hx hK hp
    obtain ⟨n1, n2, n3, n4⟩ := hD.n x hx
    have x4 := DK4 hD.1.2 hD.2.1.2 hx
    obtain ⟨K, rfl⟩ : ∃ K', K = K' + 1 := ⟨K - 1, by omega⟩
    obtain ⟨r, er⟩ : ∃ r, N x = r + 1 := ⟨N x - 1, by omega⟩
    have run : fX10_stands_L30 fu (K + 1) y (nI f) (nI (a + (N x - 1))) (nI x) μ = (if nI (T x) = nI (o (a + r)) then fX10_stands_L30 fu K y (nI f) (nI (a + r) + (-1)) (μ.1 (y + 9) x) μ else some 0) := by
      show fX10_stands_B30 (fX10_stands_L30 fu K) fu y (nI f) (nI (a + (N x - 1))) (nI x) μ = _
      unfold fX10_stands_B30
      rw [er, show a + (r + 1 - 1) = a + r by omega, if_neg (nI_pos (by omega)), r_ib x4 (by decide), bd_e (ix_R hX hs hf hw hh hil (by omega)), hC.1.1.2.1, nI_clamp (by omega), (hC.1.2.1 x hx).2.1, lt'_e, r_ib x4 (by decide), hC.1.1.1, lt'_e]
      unfold fX10_stands_L67
      rw [if_pos (show (0 : Int32) ≤ nI x from nI_le (a := 0) (by omega) (by omega))]
    rw [run, er]
    have ok := ho (a + r) (by omega)
    by_cases q : T x = o (a + r)
    · rw [if_pos (show nI (T x) = nI (o (a + r)) by rw [q])]
      rcases hx with w1 | w1
      · have : N x = 1 := (hD.2.2.2.1 x w1).2.2
        have r0 : r = 0 := by omega
        rw [hC.1.2.2.1 x w1]
        have fin : fX10_stands_L30 fu K y (nI f) (nI (a + r) + (-1)) m1 μ = some 1 := by
          obtain ⟨K, rfl⟩ : ∃ K', K = K' + 1 := ⟨K - 1, by omega⟩
          show fX10_stands_B30 (fX10_stands_L30 fu K) fu y (nI f) (nI (a + r) + (-1)) m1 μ = _
          unfold fX10_stands_B30 fX10_stands_L67
          rw [if_pos (show m1 < 0 by decide), if_neg (show ¬ (0 : Int32) ≤ m1 by decide)]
        exact ⟨fun _ => fin, fun w2 => absurd ⟨q, by rw [r0]; trivial⟩ w2⟩
      · obtain ⟨v1, v2, v3, v4⟩ := hD.2.2.2.2 x w1.1 w1.2
        have hA : A x < x := by rcases v1 with z | z <;> omega
        have hk := v1.up (show x ≤ nx by omega)
        have hr : N (A x) = r := by omega
        obtain ⟨m1', m2'⟩ := hD.n (A x) hk
        obtain ⟨i1, i2⟩ := ih (A x) hA K hk (by omega) (by omega)
        rw [hC.1.2.2.2 x w1.1 w1.2, show nI (a + r) + (-1) = nI (a + (N (A x) - 1)) by
          rw [show a + r = a + (N (A x) - 1) + 1 by omega]
          exact pk_m1 _]
        rw [hr] at i1 i2
        rw [hr]
        exact ⟨fun w2 => i1 w2.2, fun w2 => i2 (fun w3 => w2 ⟨q, w3⟩)⟩
    · rw [if_neg (fun z => q ((nI_eq (by omega) (by omega)).mp z))]
      exact ⟨fun w2 => absurd w2.1 q, fun _ => rfl⟩
/-- is the code the one that is told by itself -/
theorem l86 {a c k p : Nat} {sz : Nat} (fu : Nat) (hfu : 5000 ≤ fu) (hD : DI e nx (some p) A F T N) (hC : RCs y μ e nx ch A F T N) (hF : RTf y μ sz nx (some p)) (hX : RXi y s f w h il o μ) (hs : s < 2) (hf : f < 24) (hw : 1 ≤ w ∧ w ≤ 64) (hh : h ≤ 64) (hil : il ≤ 1) (ho : ∀ k, k < w * h → o k < 2 ^ e) (h4 : nx < 4096) (hak : a ≤ k) (hk : k ≤ w * h) : ((¬ (N p + 1 ≤ k - a) ∧ a + N p < w * h ∧ std A T o a (N p) p ∧ o (a + N p) = F p) → fX10_sayLongest_L86 fu y (nI f) (nI a) (nI (w * h)) (nI c) (nI k) μ = fX10_sayLongest_L183 fu y (nI a) (nI c) 1 μ) ∧ (¬ (¬ (N p + 1 ≤ k - a) ∧ a + N p < w * h ∧ std A T o a (N p) p ∧ o (a + N p) = F p) → fX10_sayLongest_L86 fu y (nI f) (nI a) (nI (w * h)) (nI c) (nI k) μ = fX10_sayLongest_L183 fu y (nI a) (nI c) 0 μ) := by
  have h2e := two_e hD.1.2
  have bwh := Nat.mul_le_mul hw.2 hh
  have hp := hD.2.2.1 p rfl
  have p4 := DK4 hD.1.2 hD.2.1.2 hp
  obtain ⟨n1, n2, n3, n4⟩ := hD.n p hp
  have h30 : μ.1 y 30 = nI p := hF.2.2
  have hN := (hC.1.2.1 p hp).2.2
  have hFp := (hC.1.2.1 p hp).1
  unfold fX10_sayLongest_L86 fX10_sayLongest_L182
  rw [h30, hF.2.1, if_neg (nI_pos (by omega)), if_neg (show ¬ (4096 : Int32) ≤ nI nx from nI_ge (b := 4096) h4 (by decide)), r_ib p4 (by decide), hC.1.1.2.2.2, hC.1.1.2.2.1, nI_clamp (by omega), hN, hFp, nI_1, pk_sub hak, nI_add]
  by_cases q1 : N p + 1 ≤ k - a
  · rw [if_pos (nI_le q1 (by omega))]
    exact ⟨fun z => absurd q1 z.1, fun _ => rfl⟩
  rw [if_neg (nI_ge (by omega) (by omega)), r_ib p4 (by decide)]
  by_cases q2 : a + N p < w * h
  · rw [if_neg (nI_ge q2 (by omega))]
    have sd : (std A T o a (N p) p → fX10_stands fu y (nI p) (nI f) (nI a) (nI (w * h)) μ = some 1) ∧ (¬ std A T o a (N p) p → fX10_stands fu y (nI p) (nI f) (nI a) (nI (w * h)) μ = some 0) := by
      obtain ⟨s1, s2⟩ := st_l (a := a) fu hD hC hX hs hf hw hh hil ho p fu hp (by omega) (by omega)
      unfold fX10_stands
      rw [r_ib p4 (by decide), hC.1.1.2.2.2, nI_clamp (by omega), hN, nI_add, if_pos (nI_le (by omega) (by omega)), r_ib p4 (by decide), show nI (a + N p) - 1 = nI (a + (N p - 1)) by
        rw [show a + N p = a + (N p - 1) + 1 by omega]
        exact pk_sub (b := 1) (by omega), lt'_e]
      exact ⟨s1, s2⟩
    by_cases q3 : std A T o a (N p) p
    · rw [bd_e (sd.1 q3), if_neg (show ¬ (1 : Int32) = 0 by decide), r_ib p4 (by decide), bd_e (ix_R hX hs hf hw hh hil q2), r_ib p4 (by decide)]
      have ok := ho _ q2
      by_cases q4 : o (a + N p) = F p
      · rw [if_pos (show nI (o (a + N p)) = nI (F p) by rw [q4])]
        exact ⟨fun _ => rfl, fun z => absurd ⟨q1, q2, q3, q4⟩ z⟩
      · rw [if_neg (fun z => q4 ((nI_eq (by omega) (by omega)).mp z))]
        exact ⟨fun z => absurd z.2.2.2 q4, fun _ => rfl⟩
    · rw [bd_e (sd.2 q3), if_pos rfl]
      exact ⟨fun z => absurd z.2.2.1 q3, fun _ => rfl⟩
  · rw [if_pos (nI_le (by omega) (by omega))]
    exact ⟨fun z => absurd z.2.1 q2, fun _ => rfl⟩
end SL
