/-! the class's reader of codes -/
def fmI : Option Nat → Int32
  | none => -1
  | some p => nI p
def szT (sz nx : Nat) : Nat := if nx + 1 = 2 ^ sz ∧ sz < 12 then sz + 1 else sz
def DCa (n : Nat) (μ : Mm) (e c : Nat) (D : Nat → Nat) (nx dn : Nat) (A F T N o : Nat → Nat) : Prop :=
  (μ.2 (n + 4) 0 = n + 5 ∧ μ.2 (n + 4) 1 = n + 7 ∧ μ.2 (n + 4) 2 = n + 8 ∧ μ.2 (n + 4) 3 = n + 9 ∧ μ.2 (n + 4) 4 = n + 10 ∧ μ.2 (n + 4) 5 = n + 11) ∧ BR μ (n + 5) D c 0 ∧
  (∀ x, DK (2 ^ e) nx x → μ.1 (n + 9) x = nI (F x) ∧ μ.1 (n + 10) x = nI (T x) ∧ μ.1 (n + 11) x = nI (N x)) ∧ (∀ x, 2 ^ e + 2 ≤ x → x < nx → μ.1 (n + 8) x = nI (A x)) ∧ (∀ k, k < dn → μ.1 (n + 7) k = nI (o k))
def DCf (n : Nat) (μ : Mm) (e bit sz nx : Nat) (fm : Option Nat) (dn : Nat) : Prop := μ.1 (n + 4) 6 = nI e ∧ μ.1 (n + 4) 7 = nI bit ∧ μ.1 (n + 4) 8 = nI sz ∧ μ.1 (n + 4) 9 = nI nx ∧ μ.1 (n + 4) 10 = fmI fm ∧ μ.1 (n + 4) 11 = nI dn
def DFc (n : Nat) (μ μ' : Mm) : Prop := μ'.2 = μ.2 ∧ ∀ b, b ≠ n + 4 → (b < n + 7 ∨ n + 12 ≤ b) → μ'.1 b = μ.1 b
theorem DFc.rf {n : Nat} {μ : Mm} : DFc n μ μ := ⟨rfl, fun _ _ _ => rfl⟩
theorem DFc.tr {n : Nat} {μ μ1 μ2 : Mm} (h : DFc n μ μ1) (h1 : DFc n μ1 μ2) : DFc n μ μ2 := ⟨h1.1.trans h.1, fun b hb hb2 => (h1.2 b hb hb2).trans (h.2 b hb hb2)⟩
theorem DFc.wi {n a k : Nat} {v : Int32} {μ : Mm} (h : a = n + 4 ∨ (n + 7 ≤ a ∧ a < n + 12)) : DFc n μ (si μ a k v) := ⟨rfl, fun b hb hb2 => si_b (by omega)⟩
theorem DCa.f {n e c nx dn k : Nat} {v : Int32} {μ : Mm} {D A F T N o : Nat → Nat} (h : DCa n μ e c D nx dn A F T N o) : DCa n (si μ (n + 4) k v) e c D nx dn A F T N o := by
  obtain ⟨h1, h2, h3, h4, h5⟩ := h
  refine ⟨h1, h2.ag (Ag.wi (lo := n + 4) (hi := n + 5) (by omega) (by omega)) (by omega), fun x hx => ?_, fun x q1 q2 => ?_, fun k hk => ?_⟩
  · rw [si_b (by omega), si_b (by omega), si_b (by omega)]; exact h3 x hx
  · rw [si_b (by omega)]; exact h4 x q1 q2
  · rw [si_b (by omega)]; exact h5 k hk
theorem nc_1 {n e c bit sz nx dn : Nat} {fm : Option Nat} {μ : Mm} {D A F T N o : Nat → Nat} (h : DCa n μ e c D nx dn A F T N o) (hf : DCf n μ e bit sz nx fm dn) (hs : 1 ≤ sz ∧ sz ≤ 12) (hb : bit + sz ≤ 8 * c) : fX1_nextCode (n + 4) μ = some (nI (cdS D bit sz), si μ (n + 4) 7 (nI (bit + sz))) := by
  have hB := h.2.1
  have hc := hB.2.2.1
  have hD : ∀ j, j < c → D j < 256 := fun j hj => (hB.2.2.2.2 j hj).2
  unfold fX1_nextCode
  rw [hf.2.1, hf.2.2.1, h.1.1, hB.2.1, nI_add, show nI c * 8 = nI (8 * c) by rw [Nat.mul_comm]; exact pk_mul c 8, if_pos (nI_le hb (by omega)), pk_shrN (by omega) _ 3 (by decide), lt'_e, show (2 : Nat) ^ 3 = 8 from rfl, nI_1, show nI (bit / 8) + 2 = nI (bit / 8 + 2) from nI_add _ 2]
  have a0 : fX0_at (n + 5) (nI (bit / 8)) μ = some (nI (D (bit / 8))) := hB.atN (by omega)
  have am : ∀ j, j < 2 ^ 30 → ∃ x, fX0_at (n + 5) (nI j) μ = some x ∧ mmax x 0 = nI (if j < c then D j else 0) := by
    intro j hj
    by_cases q : j < c
    · refine ⟨_, hB.atN q, ?_⟩
      unfold mmax
      rw [if_neg (nI_pos (by have := hD j q; omega)), if_pos q]
    · refine ⟨-1, ?_, ?_⟩
      · rw [hB.at, if_neg (nI_pos (by omega)), if_pos (nI_le (by omega) (by omega))]
      · unfold mmax
        rw [if_pos (by decide), if_neg q]; rfl
  obtain ⟨x1, a1, m1'⟩ := am (bit / 8 + 1) (by omega)
  obtain ⟨x2, a2, m2'⟩ := am (bit / 8 + 2) (by omega)
  obtain ⟨b1, eb1⟩ : ∃ b1, b1 = if bit / 8 + 1 < c then D (bit / 8 + 1) else 0 := ⟨_, rfl⟩
  obtain ⟨b2, eb2⟩ : ∃ b2, b2 = if bit / 8 + 2 < c then D (bit / 8 + 2) else 0 := ⟨_, rfl⟩
  have l0 : D (bit / 8) < 256 := hD _ (by omega)
  have l1 : b1 < 256 := by
    rw [eb1]; split
    · exact hD _ (by assumption)
    · decide
  have l2 : b2 < 256 := by
    rw [eb2]; split
    · exact hD _ (by assumption)
    · decide
  rw [bd_e a0, bd_e a1, bd_e a2, m1', m2', ← eb1, ← eb2, sh8 l1, sh16 l2, lt'_e, lt'_e, lt'_e]
  have o1 : nI (D (bit / 8)) ||| nI (256 * b1) = nI (D (bit / 8) + 256 * b1) := by
    have := or_add (a := D (bit / 8)) (b := b1) (k := 8) l0 (by omega)
    rw [show b1 * 2 ^ 8 = 256 * b1 by omega] at this
    exact this
  have o2 : nI (D (bit / 8) + 256 * b1) ||| nI (65536 * b2) = nI (D (bit / 8) + 256 * b1 + 65536 * b2) := by
    have := or_add (a := D (bit / 8) + 256 * b1) (b := b2) (k := 16) (by omega) (by omega)
    rw [show b2 * 2 ^ 16 = 65536 * b2 by omega] at this
    exact this
  have s7 : nI bit &&& 7 = nI (bit % 8) := pk_andN (by omega) 3 (by decide)
  have ms : ((1 : Int32) <<< (nI sz &&& 31)) - 1 = nI (2 ^ sz - 1) := by
    rw [shl1 sz (by omega)]
    exact pk_sub (b := 1) Nat.one_le_two_pow
  have h12 : 2 ^ sz ≤ 2 ^ 12 := Nat.pow_le_pow_right (by decide) hs.2
  rw [o1, o2, s7, pk_shrN (by omega) _ (bit % 8) (sm_dec _ (by omega)), ms, pk_andN (k := sz) (by
    have : (D (bit / 8) + 256 * b1 + 65536 * b2) / 2 ^ (bit % 8) ≤ D (bit / 8) + 256 * b1 + 65536 * b2 := Nat.div_le_self _ _
    omega) (pk_tn (by omega))]
  have := cdS_w (D := D) (bit := bit) (b2 := b2) l0 l1 sz hs.2 rfl (fun q => by rw [eb1, if_pos (by omega)]) (fun q => by rw [eb2, if_pos (by omega)])
  rw [this]
theorem nc_0 {n e c bit sz nx dn : Nat} {fm : Option Nat} {μ : Mm} {D A F T N o : Nat → Nat} (h : DCa n μ e c D nx dn A F T N o) (hf : DCf n μ e bit sz nx fm dn) (hs : 1 ≤ sz ∧ sz ≤ 12) (hbm : bit ≤ 8 * c) (hb : ¬ bit + sz ≤ 8 * c) : fX1_nextCode (n + 4) μ = some (-1, μ) := by
  have hc := h.2.1.2.2.1
  unfold fX1_nextCode
  rw [hf.2.1, hf.2.2.1, h.1.1, h.2.1.2.1, nI_add, show nI c * 8 = nI (8 * c) by rw [Nat.mul_comm]; exact pk_mul c 8, if_neg (nI_ge (by omega) (by omega))]
theorem DCf.bit {n e bit sz nx dn b' : Nat} {fm : Option Nat} {μ : Mm} (h : DCf n μ e bit sz nx fm dn) : DCf n (si μ (n + 4) 7 (nI b')) e b' sz nx fm dn := by
  obtain ⟨h1, h2, h3, h4, h5, h6⟩ := h
  refine ⟨?_, si_k, ?_, ?_, ?_, ?_⟩
  · rw [si_j (by decide)]; exact h1
  · rw [si_j (by decide)]; exact h3
  · rw [si_j (by decide)]; exact h4
  · rw [si_j (by decide)]; exact h5
  · rw [si_j (by decide)]; exact h6
theorem DCf.fm {n e bit sz nx dn p : Nat} {fm : Option Nat} {μ : Mm} (h : DCf n μ e bit sz nx fm dn) : DCf n (si μ (n + 4) 10 (nI p)) e bit sz nx (some p) dn := by
  obtain ⟨h1, h2, h3, h4, h5, h6⟩ := h
  refine ⟨?_, ?_, ?_, ?_, si_k, ?_⟩
  · rw [si_j (by decide)]; exact h1
  · rw [si_j (by decide)]; exact h2
  · rw [si_j (by decide)]; exact h3
  · rw [si_j (by decide)]; exact h4
  · rw [si_j (by decide)]; exact h6
theorem fo_C {n e c bit sz nx dn : Nat} {fm : Option Nat} {μ : Mm} {D A F T N o : Nat → Nat} (h : DCa n μ e c D nx dn A F T N o) (hf : DCf n μ e bit sz nx fm dn) (he : e ≤ 8) (hnx : 2 ^ e + 2 ≤ nx) : DCa n (fX1_forget (n + 4) μ) e c D (2 ^ e + 2) dn A F T N o ∧ DCf n (fX1_forget (n + 4) μ) e bit (e + 1) (2 ^ e + 2) none dn ∧ DFc n μ (fX1_forget (n + 4) μ) := by
  obtain ⟨h1, h2, h3, h4, h5, h6⟩ := hf
  unfold fX1_forget
  simp only [lt'_e]
  rw [si_j (by decide : 6 ≠ 8), h1, shl1 e (by omega), nI_1, show nI (2 ^ e) + 2 = nI (2 ^ e + 2) from nI_add _ 2]
  refine ⟨?_, ⟨?_, ?_, ?_, ?_, si_k, ?_⟩, ((DFc.wi (by omega)).tr (DFc.wi (by omega))).tr (DFc.wi (by omega))⟩
  · obtain ⟨g1, g2, g3, g4, g5⟩ := ((h.f (k := 8) (v := nI (e + 1))).f (k := 9) (v := nI (2 ^ e + 2))).f (k := 10) (v := -1)
    exact ⟨g1, g2, fun x hx => g3 x (by rcases hx with q | q; exact Or.inl q; exact Or.inr ⟨q.1, by omega⟩), fun x q1 q2 => by omega, g5⟩
  · rw [si_j (by decide), si_j (by decide), si_j (by decide)]; exact h1
  · rw [si_j (by decide), si_j (by decide), si_j (by decide)]; exact h2
  · rw [si_j (by decide), si_j (by decide), si_k]
  · rw [si_j (by decide), si_k]
  · rw [si_j (by decide), si_j (by decide), si_j (by decide)]; exact h6
/-- a write into the arrays of the table -/
theorem tl_C {n e c bit sz nx dn p v : Nat} {μ : Mm} {D A F T N o : Nat → Nat} (hI : DI e nx (some p) A F T N) (h : DCa n μ e c D nx dn A F T N o) (hf : DCf n μ e bit sz nx (some p) dn) (hs : 1 ≤ sz ∧ sz ≤ 12) (h4 : nx < 4096) : ∃ μ', fX1_tell (n + 4) (nI v) μ = some μ' ∧ DCa n μ' e c D (nx + 1) dn (u1 A nx p) (u1 F nx (F p)) (u1 T nx v) (u1 N nx (N p + 1)) o ∧ DCf n μ' e bit (szT sz nx) (nx + 1) (some p) dn ∧ DFc n μ μ' := by
  obtain ⟨f1, f2, f3, f4, f5, f6⟩ := hf
  obtain ⟨⟨l0, l1, l2, l3, l4, l5⟩, hB, g3, g4, g5⟩ := h
  have hp := hI.2.2.1 p rfl
  have hp4 : p < 4096 := by
    have := hI.2.1
    have := two_e hI.1.2
    rcases hp with q | q <;> omega
  obtain ⟨gp1, gp2, gp3⟩ := g3 p hp
  have hpn : p ≠ nx := by have := hI.2.1.1; rcases hp with q | q <;> omega
  obtain ⟨μ1, x1⟩ : ∃ μ1, μ1 = si μ (n + 8) nx (nI p) := ⟨_, rfl⟩
  obtain ⟨μ2, x2⟩ : ∃ μ2, μ2 = si μ1 (n + 9) nx (nI (F p)) := ⟨_, rfl⟩
  obtain ⟨μ3, x3⟩ : ∃ μ3, μ3 = si μ2 (n + 10) nx (nI v) := ⟨_, rfl⟩
  obtain ⟨μ4, x4⟩ : ∃ μ4, μ4 = si μ3 (n + 11) nx (nI (N p + 1)) := ⟨_, rfl⟩
  obtain ⟨μ5, x5⟩ : ∃ μ5, μ5 = si μ4 (n + 4) 9 (nI (nx + 1)) := ⟨_, rfl⟩
  have s2' : μ4.2 = μ.2 := by rw [x4, x3, x2, x1]; rfl
  have e4 : ∀ b, b < n + 8 ∨ n + 12 ≤ b → μ4.1 b = μ.1 b := fun b hb => by rw [x4, si_b (by omega), x3, si_b (by omega), x2, si_b (by omega), x1, si_b (by omega)]
  have q9 : ∀ ν, (ν = μ ∨ ν = μ1 ∨ ν = μ2 ∨ ν = μ3 ∨ ν = μ4) → ν.1 (n + 4) = μ.1 (n + 4) ∧ ν.2 = μ.2 := by
    intro ν hν
    have w1 : μ1.1 (n + 4) = μ.1 (n + 4) ∧ μ1.2 = μ.2 := by rw [x1]; exact ⟨si_b (by omega), rfl⟩
    have w2 : μ2.1 (n + 4) = μ.1 (n + 4) ∧ μ2.2 = μ.2 := by rw [x2]; exact ⟨by rw [si_b (by omega)]; exact w1.1, w1.2⟩
    have w3 : μ3.1 (n + 4) = μ.1 (n + 4) ∧ μ3.2 = μ.2 := by rw [x3]; exact ⟨by rw [si_b (by omega)]; exact w2.1, w2.2⟩
    have w4 : μ4.1 (n + 4) = μ.1 (n + 4) ∧ μ4.2 = μ.2 := by rw [x4]; exact ⟨by rw [si_b (by omega)]; exact w3.1, w3.2⟩
    rcases hν with rfl | rfl | rfl | rfl | rfl
    · exact ⟨rfl, rfl⟩
    · exact w1
    · exact w2
    · exact w3
    · exact w4
  have r1 := q9 μ1 (by simp)
  have r2 := q9 μ2 (by simp)
  have r3 := q9 μ3 (by simp)
  have r4 := q9 μ4 (by simp)
  have v9 : μ1.1 (n + 9) p = nI (F p) := by rw [x1, si_b (by omega)]; exact gp1
  have v11 : μ3.1 (n + 11) p = nI (N p) := by rw [x3, si_b (by omega), x2, si_b (by omega), x1, si_b (by omega)]; exact gp3
  have dca : DCa n μ4 e c D (nx + 1) dn (u1 A nx p) (u1 F nx (F p)) (u1 T nx v) (u1 N nx (N p + 1)) o := by
    refine ⟨by rw [s2']; exact ⟨l0, l1, l2, l3, l4, l5⟩, ?_, fun x hx => ?_, fun x q1 q2 => ?_, fun k hk => by rw [e4 _ (by omega)]; exact g5 k hk⟩
    · obtain ⟨b1, b2, b3, b4, b5⟩ := hB
      exact ⟨by rw [s2']; exact b1, by rw [e4 _ (by omega)]; exact b2, b3, by rw [e4 _ (by omega)]; exact b4, fun j hj => by rw [e4 _ (by omega)]; exact b5 j hj⟩
    · have w9 : μ4.1 (n + 9) = u1 (μ.1 (n + 9)) nx (nI (F p)) := by rw [x4, si_b (by omega), x3, si_b (by omega), x2, si_r, x1, si_b (by omega)]
      have w10 : μ4.1 (n + 10) = u1 (μ.1 (n + 10)) nx (nI v) := by rw [x4, si_b (by omega), x3, si_r, x2, si_b (by omega), x1, si_b (by omega)]
      have w11 : μ4.1 (n + 11) = u1 (μ.1 (n + 11)) nx (nI (N p + 1)) := by rw [x4, si_r, x3, si_b (by omega), x2, si_b (by omega), x1, si_b (by omega)]
      rw [w9, w10, w11]
      by_cases q : x = nx
      · subst q
        rw [u1_k, u1_k, u1_k, u1_k, u1_k, u1_k]
        exact ⟨rfl, rfl, rfl⟩
      · rw [u1_j q, u1_j q, u1_j q, u1_j q, u1_j q, u1_j q]
        exact g3 x (by rcases hx with w | w; exact Or.inl w; exact Or.inr ⟨w.1, by omega⟩)
    · have w8 : μ4.1 (n + 8) = u1 (μ.1 (n + 8)) nx (nI p) := by rw [x4, si_b (by omega), x3, si_b (by omega), x2, si_b (by omega), x1, si_r]
      rw [w8]
      by_cases q : x = nx
      · subst q; rw [u1_k, u1_k]
      · rw [u1_j q, u1_j q]; exact g4 x q1 (by omega)
  have dff : DFc n μ μ4 := ⟨s2', fun b hb hb2 => e4 b (by omega)⟩
  have m6 : μ5.1 (n + 4) 6 = nI e ∧ μ5.1 (n + 4) 7 = nI bit ∧ μ5.1 (n + 4) 8 = nI sz ∧ μ5.1 (n + 4) 9 = nI (nx + 1) ∧ μ5.1 (n + 4) 10 = nI p ∧ μ5.1 (n + 4) 11 = nI dn := by
    rw [x5]
    refine ⟨?_, ?_, ?_, si_k, ?_, ?_⟩
    · rw [si_j (by decide), r4.1]; exact f1
    · rw [si_j (by decide), r4.1]; exact f2
    · rw [si_j (by decide), r4.1]; exact f3
    · rw [si_j (by decide), r4.1]; exact f5
    · rw [si_j (by decide), r4.1]; exact f6
  have f5' : μ.1 (n + 4) 10 = nI p := f5
  have run : fX1_tell (n + 4) (nI v) μ = (if nI (nx + 1) = nI (2 ^ sz) then (if (12 : Int32) ≤ nI sz then some μ5 else some (si μ5 (n + 4) 8 (nI (sz + 1)))) else some μ5) := by
    unfold fX1_tell
    rw [f4, r_ib h4 (by decide), l2, nI_clamp (by omega), f5', lt'_e, ← x1, r1.1, r1.2, f5', f4, r_ib hp4 (by decide), r_ib h4 (by decide), l3, nI_clamp (by omega), nI_clamp (by omega), v9, lt'_e, ← x2, r2.1, r2.2, f4, r_ib h4 (by decide), l4, nI_clamp (by omega), lt'_e, ← x3, r3.1, r3.2, f5', f4, r_ib hp4 (by decide), r_ib h4 (by decide), l5, nI_clamp (by omega), nI_clamp (by omega), v11, nI_1, lt'_e, ← x4, r4.1, f4, nI_1, lt'_e, ← x5, m6.2.2.2.1, m6.2.2.1, shl1 sz (by omega), lt'_e, nI_1]
  have h12 : 2 ^ sz ≤ 2 ^ 12 := Nat.pow_le_pow_right (by decide) hs.2
  rw [run]
  have dca5 : DCa n μ5 e c D (nx + 1) dn (u1 A nx p) (u1 F nx (F p)) (u1 T nx v) (u1 N nx (N p + 1)) o := by rw [x5]; exact dca.f
  have df5 : DFc n μ μ5 := by rw [x5]; exact dff.tr (DFc.wi (by omega))
  by_cases q1 : nx + 1 = 2 ^ sz
  · rw [if_pos (show nI (nx + 1) = nI (2 ^ sz) by rw [q1])]
    by_cases q2 : sz < 12
    · rw [if_neg (show ¬ (12 : Int32) ≤ nI sz from nI_ge (b := 12) q2 (by decide))]
      have e : szT sz nx = sz + 1 := by unfold szT; rw [if_pos ⟨q1, q2⟩]
      refine ⟨_, rfl, dca5.f, ?_, df5.tr (DFc.wi (by omega))⟩
      rw [e]
      obtain ⟨w1, w2, w3, w4, w5, w6⟩ := m6
      refine ⟨?_, ?_, si_k, ?_, ?_, ?_⟩
      · rw [si_j (by decide)]; exact w1
      · rw [si_j (by decide)]; exact w2
      · rw [si_j (by decide)]; exact w4
      · rw [si_j (by decide)]; exact w5
      · rw [si_j (by decide)]; exact w6
    · rw [if_pos (show (12 : Int32) ≤ nI sz from nI_le (a := 12) (by omega) (by omega))]
      have e : szT sz nx = sz := by unfold szT; rw [if_neg (by omega)]
      refine ⟨_, rfl, dca5, ?_, df5⟩
      rw [e]; exact m6
  · rw [if_neg (fun q => q1 ((nI_eq (by omega) (by omega)).mp q))]
    have e : szT sz nx = sz := by unfold szT; rw [if_neg (fun q => q1 q.1)]
    refine ⟨_, rfl, dca5, ?_, df5⟩
    rw [e]; exact m6
