/-- a row put out: the class -/
theorem po_loop {n e c bit sz nx dn lim : Nat} {fm : Option Nat} {D A F T N : Nat → Nat} (fu many : Nat) (hI : DI e nx fm A F T N) (hlim : lim ≤ 256) : ∀ (r x : Nat) (μ : Mm) (o : Nat → Nat) (K : Nat), DK (2 ^ e) nx x → N x = r + 1 → dn + r < 4096 → r + 1 < K → DCa n μ e c D nx dn A F T N o → DCf n μ e bit sz nx fm dn → (∀ k, dn + r < k → k < dn + many → μ.1 (n + 7) k = nI (o k)) → ∃ b μ', fX1_putOut_L30 fu K (n + 4) (nI lim) (nI many) (nI x) (nI r) μ = some (b, μ') ∧ DFc n μ μ' ∧ (okc A T lim (r + 1) x = false → b = 0) ∧ (okc A T lim (r + 1) x = true → b = 1 ∧ DCa n μ' e c D nx dn A F T N (wrt A T dn (r + 1) x o) ∧ DCf n μ' e bit sz nx fm (dn + many) ∧ ∀ k, dn ≤ k → k < dn + many → μ'.1 (n + 7) k = nI (wrt A T dn (r + 1) x o k)) := by
  have h2e := two_e hI.1.2
  have hnx := hI.2.1
  intro r
  induction r with
  | zero =>
    intro x μ o K hx hN hd hK h hf ho
    obtain ⟨K, rfl⟩ : ∃ K', K = K' + 2 := ⟨K - 2, by omega⟩
    have hx4 : x < 4096 := by rcases hx with q | q <;> omega
    obtain ⟨n1, n2, n3, n4⟩ := hI.n x hx
    obtain ⟨⟨l0, l1, l2, l3, l4, l5⟩, hB, g3, g4, g5⟩ := h
    obtain ⟨f1, f2, f3, f4, f5, f6⟩ := hf
    show ∃ b μ', fX1_putOut_B30 (fX1_putOut_L30 fu (K + 1)) fu (n + 4) (nI lim) (nI many) (nI x) (nI 0) μ = some (b, μ') ∧ _
    unfold fX1_putOut_B30
    rw [if_neg (nI_pos (by omega)), r_ib hx4 (by decide), l4, nI_clamp (by omega), (g3 x hx).2.1]
    have eo : okc A T lim (0 + 1) x = decide (T x < lim) := by show (decide (T x < lim) && true) = _; rw [Bool.and_true]
    rw [eo]
    by_cases q : T x < lim
    · rw [if_pos (nI_lt q (by omega)), r_ib hx4 (by decide), f6, show nI dn + nI 0 = nI (dn + 0) from nI_add _ _, r_ib (by omega) (by decide), l1, nI_clamp (by omega), lt'_e, if_pos (show nI 0 ≤ 0 by decide), lt'_e]
      obtain ⟨ν, eν⟩ : ∃ ν, ν = si μ (n + 7) (dn + 0) (nI (T x)) := ⟨_, rfl⟩
      rw [← eν]
      have n7 : ν.1 (n + 7) = u1 (μ.1 (n + 7)) (dn + 0) (nI (T x)) := by rw [eν, si_r]
      have nb : ∀ b, b ≠ n + 7 → ν.1 b = μ.1 b := fun b hb => by rw [eν, si_b hb]
      have n2 : ν.2 = μ.2 := by rw [eν]; rfl
      refine ⟨1, si ν (n + 4) 11 (nI (dn + many)), ?_, ?_, fun w => absurd w (by simp [q]), fun _ => ⟨rfl, ?_, ?_, ?_⟩⟩
      · show fX1_putOut_B30 (fX1_putOut_L30 fu K) fu (n + 4) (nI lim) (nI many) (nI x) (nI 0 + -1) ν = _
        unfold fX1_putOut_B30
        rw [if_pos (show nI 0 + (-1) < 0 by decide), nb _ (by omega), f6, nI_add, lt'_e]
      · have : DFc n μ ν := by rw [eν]; exact DFc.wi (by omega)
        exact this.tr (DFc.wi (by omega))
      · refine DCa.f ⟨by rw [n2]; exact ⟨l0, l1, l2, l3, l4, l5⟩, ?_, fun w hw => ?_, fun w w1 w2 => ?_, fun k hk => ?_⟩
        · rw [eν]; exact hB.ag (Ag.wi (lo := n + 7) (hi := n + 8) (by omega) (by omega)) (by omega)
        · rw [nb _ (by omega), nb _ (by omega), nb _ (by omega)]; exact g3 w hw
        · rw [nb _ (by omega)]; exact g4 w w1 w2
        · rw [n7, u1_j (by omega), wrt_lo _ _ _ _ (by omega)]; exact g5 k hk
      · have k4 : ν.1 (n + 4) = μ.1 (n + 4) := nb _ (by omega)
        refine ⟨?_, ?_, ?_, ?_, ?_, si_k⟩
        · rw [si_j (by decide), k4]; exact f1
        · rw [si_j (by decide), k4]; exact f2
        · rw [si_j (by decide), k4]; exact f3
        · rw [si_j (by decide), k4]; exact f4
        · rw [si_j (by decide), k4]; exact f5
      · intro k h1 h2
        rw [si_b (by omega), n7]
        show _ = nI (u1 o (dn + 0) (T x) k)
        by_cases w : k = dn + 0
        · rw [w, u1_k, u1_k]
        · rw [u1_j w, u1_j w]; exact ho k (by omega) h2
    · rw [if_neg (nI_nlt (by omega) (by omega))]
      exact ⟨0, μ, rfl, DFc.rf, fun _ => rfl, fun w => absurd w (by simp [q])⟩
  | succ r ih =>
    intro x μ o K hx hN hd hK h hf ho
    obtain ⟨K, rfl⟩ : ∃ K', K = K' + 1 := ⟨K - 1, by omega⟩
    have hx4 : x < 4096 := by rcases hx with q | q <;> omega
    obtain ⟨n1, n2, n3, n4⟩ := hI.n x hx
    have hxr : 2 ^ e + 2 ≤ x ∧ x < nx := by
      rcases hx with q | q
      · have := (hI.2.2.2.1 x q).2.2; omega
      · exact q
    obtain ⟨wA, wN, wF, wT⟩ := hI.2.2.2.2 x hxr.1 hxr.2
    have hA : DK (2 ^ e) nx (A x) := by
      rcases wA with w | w
      · exact Or.inl w
      · exact Or.inr ⟨w.1, by omega⟩
    have h' := h
    obtain ⟨⟨l0, l1, l2, l3, l4, l5⟩, hB, g3, g4, g5⟩ := h
    have hf' := hf
    obtain ⟨f1, f2, f3, f4, f5, f6⟩ := hf
    show ∃ b μ', fX1_putOut_B30 (fX1_putOut_L30 fu K) fu (n + 4) (nI lim) (nI many) (nI x) (nI (r + 1)) μ = some (b, μ') ∧ _
    unfold fX1_putOut_B30
    rw [if_neg (nI_pos (by omega)), r_ib hx4 (by decide), l4, nI_clamp (by omega), (g3 x hx).2.1]
    have eo : okc A T lim (r + 1 + 1) x = (decide (T x < lim) && okc A T lim (r + 1) (A x)) := rfl
    rw [eo]
    by_cases q : T x < lim
    · rw [if_pos (nI_lt q (by omega)), r_ib hx4 (by decide), f6, nI_add, r_ib (by omega) (by decide), l1, nI_clamp (by omega), lt'_e, if_neg (show ¬ nI (r + 1) ≤ 0 from nI_nle (by omega) (by omega)), r_ib hx4 (by decide), lt'_e, lt'_e, pk_m1]
      obtain ⟨ν, eν⟩ : ∃ ν, ν = si μ (n + 7) (dn + (r + 1)) (nI (T x)) := ⟨_, rfl⟩
      rw [← eν]
      have n7 : ν.1 (n + 7) = u1 (μ.1 (n + 7)) (dn + (r + 1)) (nI (T x)) := by rw [eν, si_r]
      have nb : ∀ b, b ≠ n + 7 → ν.1 b = μ.1 b := fun b hb => by rw [eν, si_b hb]
      have n2 : ν.2 = μ.2 := by rw [eν]; rfl
      have va : ν.1 (ν.2 (n + 4) 2) x = nI (A x) := by rw [n2, l2, nb _ (by omega)]; exact g4 x hxr.1 hxr.2
      rw [va]
      have dν : DCa n ν e c D nx dn A F T N (u1 o (dn + (r + 1)) (T x)) := by
        refine ⟨by rw [n2]; exact ⟨l0, l1, l2, l3, l4, l5⟩, ?_, fun w hw => ?_, fun w w1 w2 => ?_, fun k hk => ?_⟩
        · rw [eν]; exact hB.ag (Ag.wi (lo := n + 7) (hi := n + 8) (by omega) (by omega)) (by omega)
        · rw [nb _ (by omega), nb _ (by omega), nb _ (by omega)]; exact g3 w hw
        · rw [nb _ (by omega)]; exact g4 w w1 w2
        · rw [n7, u1_j (by omega), u1_j (by omega)]; exact g5 k hk
      have fν : DCf n ν e bit sz nx fm dn := by
        unfold DCf; rw [nb _ (by omega)]; exact hf'
      obtain ⟨b, μ', e', d', r0, r1⟩ := ih (A x) ν (u1 o (dn + (r + 1)) (T x)) K hA (by omega) (by omega) (by omega) dν fν (fun k h1 h2 => by
        rw [n7]
        by_cases w : k = dn + (r + 1)
        · subst w; rw [u1_k, u1_k]
        · rw [u1_j w, u1_j w]; exact ho k (by omega) h2)
      have dfν : DFc n μ ν := by rw [eν]; exact DFc.wi (by omega)
      refine ⟨b, μ', e', dfν.tr d', fun w => ?_, fun w => ?_⟩
      · have : okc A T lim (r + 1) (A x) = false := by simpa [q] using w
        exact r0 this
      · have : okc A T lim (r + 1) (A x) = true := by simpa [q] using w
        exact r1 this
    · rw [if_neg (nI_nlt (by omega) (by omega))]
      exact ⟨0, μ, rfl, DFc.rf, fun _ => rfl, fun w => absurd w (by simp [q])⟩
theorem po_C {n e c bit sz nx dn lim pl x : Nat} {fm : Option Nat} {D A F T N o : Nat → Nat} {μ : Mm} (fu : Nat) (hfu : 4200 ≤ fu) (hI : DI e nx fm A F T N) (hlim : lim ≤ 256) (hpl : dn ≤ pl ∧ pl ≤ 4096) (hx : DK (2 ^ e) nx x) (h : DCa n μ e c D nx dn A F T N o) (hf : DCf n μ e bit sz nx fm dn) : ∃ b μ', fX1_putOut fu (n + 4) (nI x) (nI pl) (nI lim) μ = some (b, μ') ∧ DFc n μ μ' ∧ (¬ (dn + N x ≤ pl ∧ okc A T lim (N x) x = true) → b = 0) ∧ ((dn + N x ≤ pl ∧ okc A T lim (N x) x = true) → b = 1 ∧ DCa n μ' e c D nx (dn + N x) A F T N (wrt A T dn (N x) x o) ∧ DCf n μ' e bit sz nx fm (dn + N x)) := by
  have h2e := two_e hI.1.2
  have hnx := hI.2.1
  have hx4 : x < 4096 := by rcases hx with q | q <;> omega
  obtain ⟨n1, n2, n3, n4⟩ := hI.n x hx
  obtain ⟨r, er⟩ : ∃ r, N x = r + 1 := ⟨N x - 1, by omega⟩
  unfold fX1_putOut
  rw [r_ib hx4 (by decide), h.1.2.2.2.2.2, nI_clamp (by omega), (h.2.2.1 x hx).2.2, hf.2.2.2.2.2, pk_sub hpl.1, lt'_e]
  by_cases q : dn + N x ≤ pl
  · rw [if_pos (nI_le (by omega) (by omega)), er, nI_pred, lt'_e]
    obtain ⟨b, μ', e', d', r0, r1⟩ := po_loop (bit := bit) (sz := sz) fu (r + 1) hI hlim r x μ o fu hx er (by omega) (by omega) h hf (fun k h1 h2 => by omega)
    refine ⟨b, μ', e', d', fun w => r0 ?_, fun w => ?_⟩
    · cases hc : okc A T lim (r + 1) x with
      | false => rfl
      | true => exact absurd ⟨by omega, hc⟩ w
    · obtain ⟨b1, a1, f1, g1⟩ := r1 w.2
      refine ⟨b1, ⟨a1.1, a1.2.1, a1.2.2.1, a1.2.2.2.1, fun k hk => ?_⟩, f1⟩
      by_cases hk2 : k < dn
      · exact a1.2.2.2.2 k hk2
      · exact g1 k (by omega) hk
  · rw [if_neg (nI_ge (by omega) (by omega))]
    exact ⟨0, μ, rfl, DFc.rf, fun _ => rfl, fun w => absurd w.1 q⟩
/-- is the code known; the row that comes by it is told -/
def tlF (nx p v : Nat) (F : Nat → Nat) : Nat := F (if v = nx then p else v)
theorem ik_t {n e c bit sz nx dn p v : Nat} {D A F T N o : Nat → Nat} {μ : Mm} (hI : DI e nx (some p) A F T N) (h : DCa n μ e c D nx dn A F T N o) (hf : DCf n μ e bit sz nx (some p) dn) (hs : 1 ≤ sz ∧ sz ≤ 12) (h4 : nx < 4096) (hv : v < 4096) (hv2 : v < 2 ^ e ∨ 2 ^ e + 2 ≤ v) : (nx < v ∧ fX1_isKnown (n + 4) (nI v) μ = some (0, μ)) ∨ (v ≤ nx ∧ ∃ μ', fX1_isKnown (n + 4) (nI v) μ = some (1, μ') ∧ DCa n μ' e c D (nx + 1) dn (u1 A nx p) (u1 F nx (F p)) (u1 T nx (tlF nx p v F)) (u1 N nx (N p + 1)) o ∧ DCf n μ' e bit (szT sz nx) (nx + 1) (some v) dn ∧ DFc n μ μ') := by
  have h2e := two_e hI.1.2
  have hnx := hI.2.1
  have hp := hI.2.2.1 p rfl
  have hp4 : p < 4096 := by rcases hp with q | q <;> omega
  have f10 : μ.1 (n + 4) 10 = nI p := hf.2.2.2.2.1
  have pre : fX1_isKnown (n + 4) (nI v) μ = fX1_isKnown_L23 (n + 4) (nI v) 1 μ := by
    unfold fX1_isKnown
    rw [f10, if_neg (nI_nm1 (by omega)), hf.2.2.2.1, if_neg (show ¬ (4096 : Int32) ≤ nI nx from nI_ge (b := 4096) h4 (by decide))]
  rw [pre]
  unfold fX1_isKnown_L23
  rw [if_neg (nI_pos (by omega)), hf.2.2.2.1]
  by_cases q : nx < v
  · exact Or.inl ⟨q, by rw [if_pos (nI_lt q (by omega))]⟩
  · refine Or.inr ⟨by omega, ?_⟩
    rw [if_neg (nI_nlt (by omega) (by omega)), if_neg (show ¬ (1 : Int32) = 0 by decide)]
    have e50 : ∀ (c : Prop) [Decidable c] (z : Option (Int32 × Mm)), (if c then z else z) = z := fun c _ z => by split <;> rfl
    rw [e50]
    unfold fX1_isKnown_L50 fX1_isKnown_L75
    obtain ⟨w, ew⟩ : ∃ w, w = if v = nx then p else v := ⟨_, rfl⟩
    have hw : DK (2 ^ e) nx w := by
      rw [ew]
      split
      · exact hp
      · rcases hv2 with q2 | q2
        · exact Or.inl q2
        · exact Or.inr ⟨q2, by omega⟩
    have hw4 : w < 4096 := by rcases hw with q | q <;> omega
    obtain ⟨μ', e', a', d', f'⟩ := tl_C (v := tlF nx p v F) hI h hf hs h4
    have gF : μ.1 (n + 9) w = nI (tlF nx p v F) := by rw [(h.2.2.1 w hw).1]; unfold tlF; rw [← ew]
    refine ⟨si μ' (n + 4) 10 (nI v), ?_, a'.f, d'.fm, f'.tr (DFc.wi (by omega))⟩
    rw [if_neg (show ¬ (1 : Int32) = 0 by decide), hf.2.2.2.1, h.1.2.2.2.1, f10]
    by_cases qv : v = nx
    · rw [if_pos (show nI v = nI nx by rw [qv])]
      rw [if_pos qv] at ew
      subst ew
      rw [r_ib hw4 (by decide), nI_clamp (by omega), gF, bd_e e', lt'_e]
    · rw [if_neg (fun w => qv ((nI_eq (by omega) (by omega)).mp w))]
      rw [if_neg qv] at ew
      subst ew
      rw [r_ib hw4 (by decide), nI_clamp (by omega), gF, bd_e e', lt'_e]
theorem ik_n {n e c bit sz nx dn v : Nat} {fm : Option Nat} {D A F T N o : Nat → Nat} {μ : Mm} (hI : DI e nx fm A F T N) (h : DCa n μ e c D nx dn A F T N o) (hf : DCf n μ e bit sz nx fm dn) (ht : fm = none ∨ nx = 4096) (hv : v < 4096) : (nx ≤ v ∧ fX1_isKnown (n + 4) (nI v) μ = some (0, μ)) ∨ (v < nx ∧ fX1_isKnown (n + 4) (nI v) μ = some (1, si μ (n + 4) 10 (nI v))) := by
  have hnx := hI.2.1
  have pre : fX1_isKnown (n + 4) (nI v) μ = fX1_isKnown_L23 (n + 4) (nI v) 0 μ := by
    unfold fX1_isKnown fX1_isKnown_L22
    rw [hf.2.2.2.1]
    rcases ht with q | q
    · rw [if_pos (by rw [hf.2.2.2.2.1, q]; rfl)]
    · rw [if_pos (show (4096 : Int32) ≤ nI nx by rw [q]; decide)]
      split <;> rfl
  rw [pre]
  unfold fX1_isKnown_L23 fX1_isKnown_L50
  rw [if_neg (nI_pos (by omega)), hf.2.2.2.1]
  by_cases q : nx < v
  · exact Or.inl ⟨by omega, by rw [if_pos (nI_lt q (by omega))]⟩
  · rw [if_neg (nI_nlt (by omega) (by omega)), if_pos rfl, if_pos rfl]
    by_cases q2 : v = nx
    · exact Or.inl ⟨by omega, by rw [if_pos (show nI v = nI nx by rw [q2])]⟩
    · refine Or.inr ⟨by omega, ?_⟩
      rw [if_neg (fun w => q2 ((nI_eq (by omega) (by omega)).mp w)), lt'_e]
/-! the table at its beginning -/
theorem st_loop {n e : Nat} (fu : Nat) (he : e ≤ 8) : ∀ (K i : Nat) (μ : Mm), i ≤ 2 ^ e → 2 ^ e - i < K → (μ.2 (n + 4) 3 = n + 9 ∧ μ.2 (n + 4) 4 = n + 10 ∧ μ.2 (n + 4) 5 = n + 11) → μ.1 (n + 4) 6 = nI e → (∀ x, x < i → μ.1 (n + 9) x = nI x ∧ μ.1 (n + 10) x = nI x ∧ μ.1 (n + 11) x = nI 1) → ∃ μ', fX1_start_L17 fu K (n + 4) (nI i) μ = some (fX1_forget (n + 4) μ') ∧ μ'.2 = μ.2 ∧ (∀ b, b < n + 9 ∨ n + 12 ≤ b → μ'.1 b = μ.1 b) ∧ (∀ x, x < 2 ^ e → μ'.1 (n + 9) x = nI x ∧ μ'.1 (n + 10) x = nI x ∧ μ'.1 (n + 11) x = nI 1) := by
  have h2e := two_e he
  intro K
  induction K with
  | zero => intro i μ h1 h2; omega
  | succ K ih =>
    intro i μ h1 h2 hl h6 hx
    show ∃ μ', fX1_start_B17 (fX1_start_L17 fu K) fu (n + 4) (nI i) μ = _ ∧ _
    unfold fX1_start_B17
    rw [h6, shl1 e (by omega)]
    by_cases q : i = 2 ^ e
    · rw [if_pos (nI_le (by omega) (by omega)), lt'_e]
      exact ⟨μ, rfl, rfl, fun _ _ => rfl, fun x hx' => hx x (by omega)⟩
    · rw [if_neg (nI_ge (by omega) (by omega)), r_ib (by omega) (by decide), hl.1, nI_clamp (by omega), lt'_e, r_ib (by omega) (by decide), show (si μ (n + 9) i (nI i)).2 (n + 4) 4 = n + 10 from hl.2.1, lt'_e, r_ib (by omega) (by decide), show (si (si μ (n + 9) i (nI i)) (n + 10) i (nI i)).2 (n + 4) 5 = n + 11 from hl.2.2, lt'_e, lt'_e, nI_1]
      obtain ⟨ν, eν⟩ : ∃ ν, ν = si (si (si μ (n + 9) i (nI i)) (n + 10) i (nI i)) (n + 11) i 1 := ⟨_, rfl⟩
      rw [← eν]
      have w9 : ν.1 (n + 9) = u1 (μ.1 (n + 9)) i (nI i) := by rw [eν, si_b (by omega), si_b (by omega), si_r]
      have w10 : ν.1 (n + 10) = u1 (μ.1 (n + 10)) i (nI i) := by rw [eν, si_b (by omega), si_r, si_b (by omega)]
      have w11 : ν.1 (n + 11) = u1 (μ.1 (n + 11)) i 1 := by rw [eν, si_r, si_b (by omega), si_b (by omega)]
      have wb : ∀ b, b < n + 9 ∨ n + 12 ≤ b → ν.1 b = μ.1 b := fun b hb => by rw [eν, si_b (by omega), si_b (by omega), si_b (by omega)]
      have w2 : ν.2 = μ.2 := by rw [eν]; rfl
      obtain ⟨μ', e', a', b', c'⟩ := ih (i + 1) ν (by omega) (by omega) (by rw [w2]; exact hl) (by rw [wb _ (by omega)]; exact h6) (fun x hx' => by
        rw [w9, w10, w11]
        by_cases w : x = i
        · subst w; rw [u1_k, u1_k, u1_k]; exact ⟨rfl, rfl, rfl⟩
        · rw [u1_j w, u1_j w, u1_j w]; exact hx x (by omega))
      exact ⟨μ', e', a'.trans w2, fun b hb => (b' b hb).trans (wb b hb), c'⟩
theorem DI0 {e : Nat} (he : 2 ≤ e ∧ e ≤ 8) : DI e (2 ^ e + 2) none (fun _ => 0) (fun x => x) (fun x => x) (fun _ => 1) := by
  have := two_e he.2
  refine ⟨he, ⟨Nat.le_refl _, by omega⟩, fun q hq => ?_, fun x _ => ⟨rfl, rfl, rfl⟩, fun x h1 h2 => ?_⟩
  · cases hq
  · omega
theorem st_CC {n e c : Nat} {D : Nat → Nat} {μ : Mm} (fu : Nat) (hfu : 300 ≤ fu) (he : 2 ≤ e ∧ e ≤ 8) (hl : μ.2 (n + 4) 0 = n + 5 ∧ μ.2 (n + 4) 1 = n + 7 ∧ μ.2 (n + 4) 2 = n + 8 ∧ μ.2 (n + 4) 3 = n + 9 ∧ μ.2 (n + 4) 4 = n + 10 ∧ μ.2 (n + 4) 5 = n + 11) (hb : BR μ (n + 5) D c 0) : ∃ μ', fX1_start fu (n + 4) (nI e) μ = some μ' ∧ DCa n μ' e c D (2 ^ e + 2) 0 (fun _ => 0) (fun x => x) (fun x => x) (fun _ => 1) (fun _ => 0) ∧ DCf n μ' e 0 (e + 1) (2 ^ e + 2) none 0 ∧ DFc n μ μ' := by
  have h2e := two_e he.2
  unfold fX1_start
  simp only [lt'_e]
  obtain ⟨ν, eν⟩ : ∃ ν, ν = si (si (si μ (n + 4) 6 (nI e)) (n + 4) 7 0) (n + 4) 11 0 := ⟨_, rfl⟩
  rw [← eν]
  have w4 : ν.1 (n + 4) 6 = nI e ∧ ν.1 (n + 4) 7 = nI 0 ∧ ν.1 (n + 4) 11 = nI 0 := by
    rw [eν]
    refine ⟨?_, ?_, ?_⟩
    · rw [si_j (by decide), si_j (by decide), si_k]
    · rw [si_j (by decide), si_k]; rfl
    · rw [si_k]; rfl
  have wb : ∀ b, b ≠ n + 4 → ν.1 b = μ.1 b := fun b hb => by rw [eν, si_b hb, si_b hb, si_b hb]
  have w2 : ν.2 = μ.2 := by rw [eν]; rfl
  obtain ⟨μ', e', a', b', c'⟩ := st_loop (n := n) (e := e) fu he.2 fu 0 ν (Nat.zero_le _) (by omega) (by rw [w2]; exact hl.2.2.2) w4.1 (fun x hx => by omega)
  have k4 : μ'.1 (n + 4) = ν.1 (n + 4) := b' _ (by omega)
  have da : DCa n μ' e c D (2 ^ e + 2) 0 (fun _ => 0) (fun x => x) (fun x => x) (fun _ => 1) (fun _ => 0) := by
    refine ⟨by rw [a', w2]; exact hl, ?_, fun x hx => ?_, fun x h1 h2 => by omega, fun k hk => by omega⟩
    · obtain ⟨b1, b2, b3, b4, b5⟩ := hb
      exact ⟨by rw [a', w2]; exact b1, by rw [b' _ (by omega), wb _ (by omega)]; exact b2, b3, by rw [b' _ (by omega), wb _ (by omega)]; exact b4, fun j hj => by rw [b' _ (by omega), wb _ (by omega)]; exact b5 j hj⟩
    · exact c' x (by rcases hx with q | q <;> omega)
  have e6 : μ'.1 (n + 4) 6 = nI e := by rw [k4]; exact w4.1
  have df : DFc n μ μ' := ⟨a'.trans w2, fun b hb hb2 => (b' b (by omega)).trans (wb b hb)⟩
  unfold fX1_forget at e'
  simp only [lt'_e] at e'
  rw [si_j (by decide : 6 ≠ 8), e6, shl1 e (by omega), nI_1, show nI (2 ^ e) + 2 = nI (2 ^ e + 2) from nI_add _ 2] at e'
  refine ⟨_, e', ((da.f).f).f, ⟨?_, ?_, ?_, ?_, si_k, ?_⟩, ((df.tr (DFc.wi (by omega))).tr (DFc.wi (by omega))).tr (DFc.wi (by omega))⟩
  · rw [si_j (by decide), si_j (by decide), si_j (by decide)]; exact e6
  · rw [si_j (by decide), si_j (by decide), si_j (by decide), k4]; exact w4.2.1
  · rw [si_j (by decide), si_j (by decide), si_k]
  · rw [si_j (by decide), si_k]
  · rw [si_j (by decide), si_j (by decide), si_j (by decide), k4]; exact w4.2.2
