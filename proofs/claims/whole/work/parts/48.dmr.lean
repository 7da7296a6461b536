/-! the reference decodes so, too -/
def DRi (y s' f w h il : Nat) (μ : Mm) : Prop := (μ.2 y 9 = y + 5 ∧ μ.2 y 11 = y + 7 ∧ μ.1 y 14 = nI s') ∧ μ.1 (y + 5) (240 * s' + 10 * f + 2) = nI w ∧ μ.1 (y + 5) (240 * s' + 10 * f + 3) = nI h ∧ μ.1 (y + 5) (240 * s' + 10 * f + 5) = nI il
def DRo (y s' f w h il : Nat) (μ : Mm) (dn : Nat) (o : Nf) : Prop := ∀ k, k < dn → μ.1 (y + 7) (98304 * s' + 4096 * f + plM w h il k) = nI (o k)
/-- what may change: the table's arrays, the FRAME's places, four fields -/
def DFr (y s' f : Nat) (μ μ' : Mm) : Prop := μ'.2 = μ.2 ∧ (∀ b, b ≠ y → b ≠ y + 7 → (b < y + 9 ∨ y + 13 ≤ b) → μ'.1 b = μ.1 b) ∧ (∀ k, k < 98304 * s' + 4096 * f ∨ 98304 * s' + 4096 * f + 4096 ≤ k → μ'.1 (y + 7) k = μ.1 (y + 7) k) ∧ ∀ k, (k ≠ 23 ∧ k < 28 ∨ 30 < k) → μ'.1 y k = μ.1 y k
theorem DFr.rf {y s' f : Nat} {μ : Mm} : DFr y s' f μ μ := ⟨rfl, fun _ _ _ _ => rfl, fun _ _ => rfl, fun _ _ => rfl⟩
theorem DFr.tr {y s' f : Nat} {μ μ1 μ2 : Mm} (h : DFr y s' f μ μ1) (h1 : DFr y s' f μ1 μ2) : DFr y s' f μ μ2 := ⟨h1.1.trans h.1, fun b a c d => (h1.2.1 b a c d).trans (h.2.1 b a c d), fun k hk => (h1.2.2.1 k hk).trans (h.2.2.1 k hk), fun k hk => (h1.2.2.2 k hk).trans (h.2.2.2 k hk)⟩
theorem RTF.dfr {y s' f : Nat} {μ μ' : Mm} (h : RTF y μ μ') : DFr y s' f μ μ' := ⟨h.1, fun b a _ c => h.2.1 b a c, fun k _ => by rw [h.2.1 (y + 7) (by omega) (by omega)], fun k hk => h.2.2 k (by omega)⟩
theorem DFr.wf {y s' f k : Nat} {v : Int32} {μ : Mm} (hk : k = 23 ∨ (28 ≤ k ∧ k ≤ 30)) : DFr y s' f μ (si μ y k v) := ⟨rfl, fun b a _ _ => si_b a, fun j _ => by rw [si_b (by omega)], fun j hj => si_j (by omega)⟩
theorem DFr.w7 {y s' f k : Nat} {v : Int32} {μ : Mm} (hk : 98304 * s' + 4096 * f ≤ k ∧ k < 98304 * s' + 4096 * f + 4096) : DFr y s' f μ (si μ (y + 7) k v) := ⟨rfl, fun b _ a _ => si_b a, fun j hj => by rw [si_r, u1_j (by omega)], fun j _ => by rw [si_b (by omega)]⟩
theorem DRi.dfr {y s' f w h il : Nat} {μ μ' : Mm} (hi : DRi y s' f w h il μ) (hd : DFr y s' f μ μ') : DRi y s' f w h il μ' := by
  unfold DRi
  rw [hd.1, hd.2.1 (y + 5) (by omega) (by omega) (by omega), hd.2.2.2 14 (by omega)]
  exact hi
theorem RDt.dfr {y s' f c : Nat} {D : Nf} {μ μ' : Mm} (hi : RDt y μ c D) (hd : DFr y s' f μ μ') : RDt y μ' c D := by
  refine ⟨by rw [hd.1]; exact hi.1, by rw [hd.2.2.2 22 (by omega)]; exact hi.2.1, hi.2.2.1, fun j hj => ?_⟩
  rw [hd.2.1 (y + 8) (by omega) (by omega) (by omega)]
  exact hi.2.2.2 j hj
theorem si_R {y s' f k : Nat} {q : Nat} {μ : Mm} (hL : μ.2 y 11 = y + 7) (hs : s' < 2) (hf : f < 24) (hk : k < 4096) (hq : q < 8192) : fX10_setIndex y (nI s') (nI f) (nI k) (nI q) μ = some (si μ (y + 7) (98304 * s' + 4096 * f + k) (nI q)) := by
  unfold fX10_setIndex
  rw [show (98304 : Int32) * nI s' = nI (98304 * s') from pk_mul _ _, show (4096 : Int32) * nI f = nI (4096 * f) from pk_mul _ _, nI_add, nI_add, r_ib (by omega) (by decide), hL, nI_clamp (by omega), nar_s hq, lt'_e]
/-- one place written -/
theorem ix_w {y s' f w h il k q j : Nat} {o : Nf} {μ : Mm} (hk : k < w * h) (hj : j < w * h) (ho : j ≠ k → μ.1 (y + 7) (98304 * s' + 4096 * f + plM w h il j) = nI (o j)) : (si μ (y + 7) (98304 * s' + 4096 * f + plM w h il k) (nI q)).1 (y + 7) (98304 * s' + 4096 * f + plM w h il j) = nI (u1 o k q j) := by
  by_cases e : j = k
  · rw [e, si_k, u1_k]
  · rw [si_j (fun w => e (plM_inj (il := il) hj hk (by omega))), u1_j e]
    exact ho e
theorem pu_loop {y s' f w h il e nx dn lim : Nat} {fm : Option Nat} {A F T N : Nf} (fu many : Nat) (hI : DI e nx fm A F T N) (hlim : lim ≤ 256) (hs' : s' < 2) (hf24 : f < 24) (hw : 1 ≤ w ∧ w ≤ 64) (hh : h ≤ 64) (hil : il ≤ 1) (hmany : dn + many ≤ w * h) : ∀ (r x : Nat) (μ : Mm) (o : Nf) (K : Nat), DK (2 ^ e) nx x → N x = r + 1 → r < many → r + 2 < K → RTa y μ e nx A F T N → DRi y s' f w h il μ → DRo y s' f w h il μ dn o → (∀ k, dn + r < k → k < dn + many → μ.1 (y + 7) (98304 * s' + 4096 * f + plM w h il k) = nI (o k)) → ∃ b μ', fX10_put_L58 fu K y (nI f) (nI lim) (nI (dn + r)) (nI x) μ = some (b, μ') ∧ DFr y s' f μ μ' ∧ (okc A T lim (r + 1) x = false → b = 0) ∧ (okc A T lim (r + 1) x = true → b = 1 ∧ Ag μ μ' (y + 7) (y + 8) ∧ DRo y s' f w h il μ' dn (wrt A T dn (r + 1) x o) ∧ ∀ k, dn ≤ k → k < dn + many → μ'.1 (y + 7) (98304 * s' + 4096 * f + plM w h il k) = nI (wrt A T dn (r + 1) x o k)) := by
  have h2e := two_e hI.1.2
  have hnx := hI.2.1
  have bwh := Nat.mul_le_mul hw.2 hh
  have step : ∀ (r x : Nat) (μ : Mm) (o : Nf) (K : Nat), DK (2 ^ e) nx x → r < many → RTa y μ e nx A F T N → DRi y s' f w h il μ → DRo y s' f w h il μ dn o → (∀ k, dn + r < k → k < dn + many → μ.1 (y + 7) (98304 * s' + 4096 * f + plM w h il k) = nI (o k)) → (¬ T x < lim ∧ fX10_put_L58 fu (K + 1) y (nI f) (nI lim) (nI (dn + r)) (nI x) μ = some (0, μ)) ∨ (T x < lim ∧ ∃ ν, fX10_put_L58 fu (K + 1) y (nI f) (nI lim) (nI (dn + r)) (nI x) μ = fX10_put_L58 fu K y (nI f) (nI lim) (nI (dn + r) + (-1)) (μ.1 (y + 9) x) ν ∧ DFr y s' f μ ν ∧ Ag μ ν (y + 7) (y + 8) ∧ RTa y ν e nx A F T N ∧ DRi y s' f w h il ν ∧ DRo y s' f w h il ν dn (u1 o (dn + r) (T x)) ∧ (∀ k, dn + r ≤ k → k < dn + many → ν.1 (y + 7) (98304 * s' + 4096 * f + plM w h il k) = nI (u1 o (dn + r) (T x) k))) := by
    intro r x μ o K hx hr ha hi ho ho2
    have hx4 : x < 4096 := by rcases hx with q | q <;> omega
    obtain ⟨n1, n2, n3, n4⟩ := hI.n x hx
    have hkp := plM_lt (il := il) (show dn + r < w * h by omega)
    have run : fX10_put_L58 fu (K + 1) y (nI f) (nI lim) (nI (dn + r)) (nI x) μ = fX10_put_B58 (fX10_put_L58 fu K) fu y (nI f) (nI lim) (nI (dn + r)) (nI x) μ := rfl
    rw [run]
    unfold fX10_put_B58
    rw [if_neg (nI_pos (by omega)), r_ib hx4 (by decide), ha.1.2.1, nI_clamp (by omega), (ha.2.1 x hx).2.1]
    by_cases q : T x < lim
    · refine Or.inr ⟨q, ?_⟩
      rw [if_pos (nI_lt q (by omega)), hi.1.2.2, bd_e (pl_R (il := il) hi.1.1 hs' hf24 hw hh (by omega) hi.2.1 hi.2.2.1 hi.2.2.2 hil), r_ib hx4 (by decide), bd_e (si_R hi.1.2.1 hs' hf24 (by omega) (by omega)), lt'_e, r_ib hx4 (by decide), lt'_e]
      obtain ⟨ν, eν⟩ : ∃ ν, ν = si μ (y + 7) (98304 * s' + 4096 * f + plM w h il (dn + r)) (nI (T x)) := ⟨_, rfl⟩
      rw [← eν]
      have nb : ∀ b, b ≠ y + 7 → ν.1 b = μ.1 b := fun b hb => by rw [eν, si_b hb]
      have n2 : ν.2 = μ.2 := by rw [eν]; rfl
      have dν : DFr y s' f μ ν := by rw [eν]; exact DFr.w7 (by omega)
      have pw : ∀ j, j < w * h → (j ≠ dn + r → μ.1 (y + 7) (98304 * s' + 4096 * f + plM w h il j) = nI (o j)) → ν.1 (y + 7) (98304 * s' + 4096 * f + plM w h il j) = nI (u1 o (dn + r) (T x) j) := fun j hj hj2 => by
        rw [eν]; exact ix_w (by omega) hj hj2
      refine ⟨ν, ?_, dν, ?_, ha.eqv (by rw [n2]) (nb _ (by omega)) (nb _ (by omega)) (nb _ (by omega)) (nb _ (by omega)), hi.dfr dν, fun k hk => pw k (by omega) (fun _ => ho k hk), fun k h1 h2 => pw k (by omega) (fun hne => ho2 k (by omega) h2)⟩
      · rw [n2, ha.1.1, nb _ (by omega)]
      · rw [eν]; exact Ag.wi (by omega) (by omega)
    · refine Or.inl ⟨q, ?_⟩
      rw [if_neg (nI_nlt (by omega) (by omega))]
  intro r
  induction r with
  | zero =>
    intro x μ o K hx hN hr hK ha hi ho ho2
    obtain ⟨K, rfl⟩ : ∃ K', K = K' + 2 := ⟨K - 2, by omega⟩
    have eo : okc A T lim (0 + 1) x = decide (T x < lim) := by show (decide (T x < lim) && true) = _; rw [Bool.and_true]
    rw [eo]
    have hx2 : x < 2 ^ e := by
      rcases hx with q | q
      · exact q
      · obtain ⟨w1, w2, _⟩ := hI.2.2.2.2 x q.1 q.2
        have := hI.n (A x) (w1.up (by omega))
        omega
    rcases step 0 x μ o (K + 1) hx hr ha hi ho ho2 with ⟨q, e1⟩ | ⟨q, ν, e1, d1, g1, a1, i1, o1, p1⟩
    · exact ⟨0, μ, e1, DFr.rf, fun _ => rfl, fun w => absurd w (by simp [q])⟩
    · refine ⟨1, ν, ?_, d1, fun w => absurd w (by simp [q]), fun _ => ⟨rfl, g1, o1, fun k h1 h2 => p1 k (by omega) h2⟩⟩
      rw [e1, ha.2.2.1 x hx2]
      show fX10_put_B58 (fX10_put_L58 fu K) fu y (nI f) (nI lim) (nI (dn + 0) + -1) m1 ν = _
      unfold fX10_put_B58
      rw [if_pos (show m1 < 0 by decide)]
  | succ r ih =>
    intro x μ o K hx hN hr hK ha hi ho ho2
    obtain ⟨K, rfl⟩ : ∃ K', K = K' + 1 := ⟨K - 1, by omega⟩
    have eo : okc A T lim (r + 1 + 1) x = (decide (T x < lim) && okc A T lim (r + 1) (A x)) := rfl
    rw [eo]
    have hxr : 2 ^ e + 2 ≤ x ∧ x < nx := by
      rcases hx with q | q
      · have := (hI.2.2.2.1 x q).2.2; omega
      · exact q
    obtain ⟨wA, wN, wF, wT⟩ := hI.2.2.2.2 x hxr.1 hxr.2
    rcases step (r + 1) x μ o K hx hr ha hi ho ho2 with ⟨q, e1⟩ | ⟨q, ν, e1, d1, g1, a1, i1, o1, p1⟩
    · exact ⟨0, μ, e1, DFr.rf, fun _ => rfl, fun w => absurd w (by simp [q])⟩
    · obtain ⟨b, μ', e', d', r0, r1⟩ := ih (A x) ν (u1 o (dn + (r + 1)) (T x)) K (wA.up (by omega)) (by omega) (by omega) (by omega) a1 i1 o1 (fun k h1 h2 => p1 k (by omega) h2)
      refine ⟨b, μ', ?_, d1.tr d', fun w => ?_, fun w => ?_⟩
      · rw [e1, ha.2.2.2 x hxr.1 hxr.2, show nI (dn + (r + 1)) + (-1) = nI (dn + r) from pk_m1 (dn + r)]
        exact e'
      · have : okc A T lim (r + 1) (A x) = false := by simpa [q] using w
        exact r0 this
      · have : okc A T lim (r + 1) (A x) = true := by simpa [q] using w
        obtain ⟨t1, t2, t3, t4⟩ := r1 this
        exact ⟨t1, g1.tr t2, t3, t4⟩
theorem put_R {y s' f w h il e nx dn lim x : Nat} {fm : Option Nat} {A F T N o : Nf} {μ : Mm} (fu : Nat) (hfu : 4200 ≤ fu) (hI : DI e nx fm A F T N) (hlim : lim ≤ 256) (hs' : s' < 2) (hf24 : f < 24) (hw : 1 ≤ w ∧ w ≤ 64) (hh : h ≤ 64) (hil : il ≤ 1) (hx : DK (2 ^ e) nx x) (hd : dn + N x ≤ w * h) (ha : RTa y μ e nx A F T N) (hi : DRi y s' f w h il μ) (ho : DRo y s' f w h il μ dn o) : ∃ b μ', fX10_put fu y (nI x) 0 (nI f) (nI dn) (nI (N x)) (nI lim) μ = some (b, μ') ∧ DFr y s' f μ μ' ∧ (okc A T lim (N x) x = false → b = 0) ∧ (okc A T lim (N x) x = true → b = 1 ∧ Ag μ μ' (y + 7) (y + 8) ∧ DRo y s' f w h il μ' (dn + N x) (wrt A T dn (N x) x o)) := by
  obtain ⟨n1, n2, n3, n4⟩ := hI.n x hx
  have h2e := two_e hI.1.2
  have hnx := hI.2.1
  have hx4 : x < 4096 := by rcases hx with q | q <;> omega
  obtain ⟨r, er⟩ : ∃ r, N x = r + 1 := ⟨N x - 1, by omega⟩
  unfold fX10_put
  rw [er, nI_add, show nI (dn + (r + 1)) - 1 = nI (dn + r) from pk_sub (b := 1) (by omega), lt'_e, if_pos rfl]
  obtain ⟨b, μ', e', d', r0, r1⟩ := pu_loop fu (r + 1) hI hlim hs' hf24 hw hh hil (by omega) r x μ o fu hx er (by omega) (by omega) ha hi ho (fun k h1 h2 => by omega)
  refine ⟨b, μ', e', d', r0, fun q => ?_⟩
  obtain ⟨t1, t2, t3, t4⟩ := r1 q
  refine ⟨t1, t2, fun k hk => ?_⟩
  by_cases c : k < dn
  · exact t3 k c
  · exact t4 k (by omega) hk
/-- the row that is told by its own code -/
theorem putS_R {y s' f w h il e nx dn lim p : Nat} {A F T N o : Nf} {μ : Mm} (fu : Nat) (hfu : 4200 ≤ fu) (hI : DI e nx (some p) A F T N) (h4 : nx < 4096) (hlim : lim ≤ 256) (hs' : s' < 2) (hf24 : f < 24) (hw : 1 ≤ w ∧ w ≤ 64) (hh : h ≤ 64) (hil : il ≤ 1) (hd : dn + (N p + 1) ≤ w * h) (ha : RTa y μ e nx A F T N) (hi : DRi y s' f w h il μ) (ho : DRo y s' f w h il μ dn o) : ∃ b μ', fX10_put fu y (nI p) 1 (nI f) (nI dn) (nI (N p + 1)) (nI lim) μ = some (b, μ') ∧ DFr y s' f μ μ' ∧ (okc (u1 A nx p) (u1 T nx (F p)) lim (N p + 1) nx = false → b = 0) ∧ (okc (u1 A nx p) (u1 T nx (F p)) lim (N p + 1) nx = true → b = 1 ∧ Ag μ μ' (y + 7) (y + 8) ∧ DRo y s' f w h il μ' (dn + (N p + 1)) (wrt (u1 A nx p) (u1 T nx (F p)) dn (N p + 1) nx o)) := by
  have hx := hI.2.2.1 p rfl
  obtain ⟨n1, n2, n3, n4⟩ := hI.n p hx
  have h2e := two_e hI.1.2
  have hnx := hI.2.1
  have bwh := Nat.mul_le_mul hw.2 hh
  have hx4 : p < 4096 := by rcases hx with q | q <;> omega
  have hpn : p ≠ nx := by rcases hx with q | q <;> omega
  obtain ⟨r, er⟩ : ∃ r, N p = r + 1 := ⟨N p - 1, by omega⟩
  have eo : okc (u1 A nx p) (u1 T nx (F p)) lim (N p + 1) nx = (decide (F p < lim) && okc A T lim (N p) p) := by
    show (decide (u1 T nx (F p) nx < lim) && okc (u1 A nx p) (u1 T nx (F p)) lim (N p) (u1 A nx p nx)) = _
    rw [u1_k, u1_k, okc_x hI (N p) p hx rfl]
  have ew : wrt (u1 A nx p) (u1 T nx (F p)) dn (N p + 1) nx o = wrt A T dn (N p) p (u1 o (dn + N p) (F p)) := by
    show wrt (u1 A nx p) (u1 T nx (F p)) dn (N p) (u1 A nx p nx) (u1 o (dn + N p) (u1 T nx (F p) nx)) = _
    rw [u1_k, u1_k, wrt_x hI (N p) p _ hx rfl]
  rw [eo, ew]
  unfold fX10_put
  rw [nI_add, show nI (dn + (N p + 1)) - 1 = nI (dn + N p) from pk_sub (b := 1) (by omega), lt'_e, if_neg (show ¬ (1 : Int32) = 0 by decide), r_ib hx4 (by decide), ha.1.2.2.1, nI_clamp (by omega), (ha.2.1 p hx).1]
  have hkp := plM_lt (il := il) (show dn + N p < w * h by omega)
  by_cases q : F p < lim
  · rw [if_pos (nI_lt q (by omega)), hi.1.2.2, bd_e (pl_R (il := il) hi.1.1 hs' hf24 hw hh (by omega) hi.2.1 hi.2.2.1 hi.2.2.2 hil), r_ib hx4 (by decide), bd_e (si_R hi.1.2.1 hs' hf24 (by omega) (by omega)), er, show nI (dn + (r + 1)) + (-1) = nI (dn + r) from pk_m1 (dn + r), lt'_e]
    obtain ⟨ν, eν⟩ : ∃ ν, ν = si μ (y + 7) (98304 * s' + 4096 * f + plM w h il (dn + (r + 1))) (nI (F p)) := ⟨_, rfl⟩
    rw [← eν]
    have nb : ∀ b, b ≠ y + 7 → ν.1 b = μ.1 b := fun b hb => by rw [eν, si_b hb]
    have n2 : ν.2 = μ.2 := by rw [eν]; rfl
    have dν : DFr y s' f μ ν := by rw [eν]; exact DFr.w7 (by rw [er] at hkp; omega)
    have pw : ∀ j, j < w * h → (j ≠ dn + (r + 1) → μ.1 (y + 7) (98304 * s' + 4096 * f + plM w h il j) = nI (o j)) → ν.1 (y + 7) (98304 * s' + 4096 * f + plM w h il j) = nI (u1 o (dn + (r + 1)) (F p) j) := fun j hj hj2 => by
      rw [eν]; exact ix_w (by omega) hj hj2
    obtain ⟨b, μ', e', d', r0, r1⟩ := pu_loop fu (r + 1 + 1) hI hlim hs' hf24 hw hh hil (by omega) r p ν (u1 o (dn + (r + 1)) (F p)) fu hx er (by omega) (by omega) (ha.eqv (by rw [n2]) (nb _ (by omega)) (nb _ (by omega)) (nb _ (by omega)) (nb _ (by omega))) (hi.dfr dν) (fun k hk => pw k (by omega) (fun _ => ho k hk)) (fun k h1 h2 => pw k (by omega) (fun hne => by omega))
    refine ⟨b, μ', e', dν.tr d', fun w => r0 (by simpa [q] using w), fun w => ?_⟩
    obtain ⟨t1, t2, t3, t4⟩ := r1 (by simpa [q] using w)
    refine ⟨t1, ?_, fun k hk => ?_⟩
    · have : Ag μ ν (y + 7) (y + 8) := by rw [eν]; exact Ag.wi (by omega) (by omega)
      exact this.tr t2
    · by_cases c : k < dn
      · exact t3 k c
      · exact t4 k (by omega) (by omega)
  · rw [if_neg (nI_nlt (by omega) (by omega))]
    exact ⟨0, μ, rfl, DFr.rf, fun _ => rfl, fun w => absurd w (by simp [q])⟩
