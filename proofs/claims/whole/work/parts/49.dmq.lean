theorem RTf.bf {y sz nx v : Nat} {fm : Option Nat} {μ : Mm} (h : RTf y μ sz nx fm) : RTf y (si μ y 30 (nI v)) sz nx (some v) := ⟨by rw [si_j (by decide)]; exact h.1, by rw [si_j (by decide)]; exact h.2.1, si_k⟩
theorem RTf.f23 {y sz nx : Nat} {v : Int32} {fm : Option Nat} {μ : Mm} (h : RTf y μ sz nx fm) : RTf y (si μ y 23 v) sz nx fm := ⟨by rw [si_j (by decide)]; exact h.1, by rw [si_j (by decide)]; exact h.2.1, by rw [si_j (by decide)]; exact h.2.2⟩
theorem RTf.eqv {y sz nx : Nat} {fm : Option Nat} {μ μ' : Mm} (h : RTf y μ sz nx fm) (e : μ'.1 y = μ.1 y) : RTf y μ' sz nx fm := by unfold RTf; rw [e]; exact h
theorem DRo.eqv {y s' f w h il dn : Nat} {o : Nf} {μ μ' : Mm} (ho : DRo y s' f w h il μ dn o) (e : μ'.1 (y + 7) = μ.1 (y + 7)) : DRo y s' f w h il μ' dn o := fun k hk => by rw [e]; exact ho k hk
theorem fm_neg {fm : Option Nat} (h : fm = none) : fmI fm < 0 := by subst h; decide
/-- behind a row that is put: nothing is told -/
theorem t268_n {y sz nx : Nat} {fm : Option Nat} {μ : Mm} {a b c d g x v t : Int32} (rec : Nat → Int32 → Int32 → Int32 → Int32 → Int32 → Int32 → Mm → Option (Int32 × Mm)) (fu : Nat) (hf : RTf y μ sz nx fm) (hn : fm = none ∨ nx = 4096) : fX10_codes_L268 rec fu y a b c d g x v t μ = rec y a b c d g x (si μ y 30 v) := by
  unfold fX10_codes_L268
  rw [hf.2.2, hf.2.1, lt'_e]
  by_cases q : fmI fm < 0
  · rw [if_pos q]
  · rw [if_neg q, if_pos (show (4096 : Int32) ≤ nI nx by
      rcases hn with w | w
      · exact absurd (fm_neg w) q
      · rw [w]; decide)]
/-- behind a row that is put: the next one is told -/
theorem t268_t {y e sz nx p v t : Nat} {μ : Mm} {A F T N : Nf} {a b c d g x : Int32} (rec : Nat → Int32 → Int32 → Int32 → Int32 → Int32 → Int32 → Mm → Option (Int32 × Mm)) (fu : Nat) (hI : DI e nx (some p) A F T N) (h : RTa y μ e nx A F T N) (hf : RTf y μ sz nx (some p)) (hs : 1 ≤ sz ∧ sz ≤ 12) (h4 : nx < 4096) (ht : t < 8192) : ∃ μ', fX10_codes_L268 rec fu y a b c d g x (nI v) (nI t) μ = rec y a b c d g x μ' ∧ RTa y μ' e (nx + 1) (u1 A nx p) (u1 F nx (F p)) (u1 T nx t) (u1 N nx (N p + 1)) ∧ RTf y μ' (szT sz nx) (nx + 1) (some v) ∧ RTF y μ μ' := by
  have hp := hI.2.2.1 p rfl
  have h2e := two_e hI.1.2
  have hp4 : p < 4096 := by rcases hp with q | q <;> omega
  obtain ⟨μ1, e1, a1, f1, r1⟩ := tell_R hI h hf hs h4 ht
  unfold fX10_codes_L268
  have h30 : μ.1 y 30 = nI p := hf.2.2
  rw [h30, hf.2.1, if_neg (nI_pos (by omega)), if_neg (show ¬ (4096 : Int32) ≤ nI nx from nI_ge (b := 4096) h4 (by decide)), bd_e e1, lt'_e]
  exact ⟨_, rfl, a1.f, f1.bf, r1.tr (RTF.wi (by omega))⟩
theorem dl_R {y s' f w h il e c lim : Nat} {D : Nf} (fu : Nat) (hfu : 4200 ≤ fu) (hlim : lim ≤ 256) (hs' : s' < 2) (hf24 : f < 24) (hw : 1 ≤ w ∧ w ≤ 64) (hh : h ≤ 64) (hil : il ≤ 1) : ∀ (g K bit sz nx : Nat) (fm : Option Nat) (dn : Nat) (A F T N o : Nf) (μ : Mm), 8 * c - bit < g → g ≤ K → bit ≤ 8 * c → (1 ≤ sz ∧ sz ≤ 12) → dn ≤ w * h → DI e nx fm A F T N → RTa y μ e nx A F T N → RTf y μ sz nx fm → RDt y μ c D → DRi y s' f w h il μ → DRo y s' f w h il μ dn o → μ.1 y 23 = nI bit → ∃ b μ', fX10_codes_L54 fu K y (nI e) (nI f) (nI (2 ^ e)) (nI (w * h)) (nI lim) (nI dn) μ = some (b, μ') ∧ DFr y s' f μ μ' ∧ (dM D c e (w * h) lim g bit sz nx fm dn A F T N o = none → b = 0) ∧ (∀ r, dM D c e (w * h) lim g bit sz nx fm dn A F T N o = some r → b = 1 ∧ DRo y s' f w h il μ' (w * h) r) := by
  have bwh := Nat.mul_le_mul hw.2 hh
  intro g
  induction g with
  | zero => intro K bit sz nx fm dn A F T N o μ h; omega
  | succ g ih =>
    intro K bit sz nx fm dn A F T N o μ hg hK hbc hs hdn hI ha hf hD hi ho h23
    obtain ⟨K, rfl⟩ : ∃ K', K = K' + 1 := ⟨K - 1, by omega⟩
    have hc := hD.2.2.1
    have h2e := two_e hI.1.2
    have hnx := hI.2.1
    have he12 := hI.1
    have em : ∀ z, dM D c e (w * h) lim (g + 1) bit sz nx fm dn A F T N o = z ↔ (if bit + sz ≤ 8 * c then dB c e (w * h) lim (dM D c e (w * h) lim g) (cdS D bit sz) (bit + sz) sz nx fm dn A F T N o else none) = z := fun z => Iff.rfl
    simp only [em]
    show ∃ b μ', fX10_codes_B54 (fX10_codes_L54 fu K) fu y (nI e) (nI f) (nI (2 ^ e)) (nI (w * h)) (nI lim) (nI dn) μ = some (b, μ') ∧ _
    unfold fX10_codes_B54
    by_cases q : bit + sz ≤ 8 * c
    · rw [bd_e (code_1 fu (by omega) hD hf.1 h23 hs.2 q), lt'_e, if_pos q]
      dsimp only
      obtain ⟨v, ev⟩ : ∃ v, v = cdS D bit sz := ⟨_, rfl⟩
      have hv : v < 4096 := by
        have := cdS_lt D bit sz
        have h12 : 2 ^ sz ≤ 2 ^ 12 := Nat.pow_le_pow_right (by decide) hs.2
        omega
      rw [← ev]
      obtain ⟨ν, eν⟩ : ∃ ν, ν = si μ y 23 (nI (bit + sz)) := ⟨_, rfl⟩
      rw [← eν]
      have aν : RTa y ν e nx A F T N := by rw [eν]; exact ha.f
      have fν : RTf y ν sz nx fm := by rw [eν]; exact hf.f23
      have dν : DFr y s' f μ ν := by rw [eν]; exact DFr.wf (by omega)
      have Dν := hD.dfr dν
      have iν := hi.dfr dν
      have oν : DRo y s' f w h il ν dn o := by rw [eν]; exact ho.eqv (si_b (by omega))
      have bν : ν.1 y 23 = nI (bit + sz) := by rw [eν, si_k]
      unfold dB
      rw [if_pos (show (0 : Int32) ≤ nI v from nI_le (a := 0) (by omega) (by omega)), nI_1]
      by_cases q1 : v = 2 ^ e + 1
      · rw [if_pos (show nI v = nI (2 ^ e + 1) by rw [q1]), if_pos q1]
        by_cases q2 : dn = w * h
        · rw [if_pos (show nI dn = nI (w * h) by rw [q2]), bν, Dν.2.1, show nI (bit + sz) + 7 = nI (bit + sz + 7) from nI_add _ 7, pk_shrN (by omega) _ 3 (by decide), show (2 : Nat) ^ 3 = 8 from rfl]
          by_cases q3 : (bit + sz + 7) / 8 = c
          · rw [if_pos (show nI ((bit + sz + 7) / 8) = nI c by rw [q3]), if_pos ⟨q2, q3⟩]
            refine ⟨1, ν, rfl, dν, fun w => (by cases w), fun r hr => ⟨rfl, ?_⟩⟩
            have : o = r := by injection hr
            rw [← this, ← q2]
            exact oν
          · rw [if_neg (show ¬ nI ((bit + sz + 7) / 8) = nI c from fun w => q3 ((nI_eq (by omega) (by omega)).mp w)), if_neg (fun w => q3 w.2)]
            exact ⟨0, ν, rfl, dν, fun _ => rfl, fun r hr => by cases hr⟩
        · rw [if_neg (show ¬ nI dn = nI (w * h) from fun w => q2 ((nI_eq (by omega) (by omega)).mp w)), if_neg (fun w => q2 w.1)]
          exact ⟨0, ν, rfl, dν, fun _ => rfl, fun r hr => by cases hr⟩
      · rw [if_neg (show ¬ nI v = nI (2 ^ e + 1) from fun w => q1 ((nI_eq (by omega) (by omega)).mp w)), if_neg q1]
        by_cases q2 : v = 2 ^ e
        · rw [if_pos (show nI v = nI (2 ^ e) by rw [q2]), if_pos q2, lt'_e]
          obtain ⟨f', r', g'⟩ := re_R (y := y) (μ := ν) hI.1.2
          obtain ⟨b, μ', e', d2, r0, r1⟩ := ih K (bit + sz) (e + 1) (2 ^ e + 2) none dn A F T N o (fX10_restart y (nI e) ν) (by omega) (by omega) q (by omega) hdn hI.re ((aν.re hnx.1).eqv (by rw [g'.1]) (g'.2 _ (by omega)) (g'.2 _ (by omega)) (g'.2 _ (by omega)) (g'.2 _ (by omega))) f' (Dν.dfr (s' := s') (f := f) r'.dfr) (iν.dfr r'.dfr) (oν.eqv (g'.2 _ (by omega))) (by rw [r'.2.2 23 (by omega)]; exact bν)
          exact ⟨b, μ', e', (dν.tr r'.dfr).tr d2, r0, r1⟩
        · rw [if_neg (show ¬ nI v = nI (2 ^ e) from fun w => q2 ((nI_eq (by omega) (by omega)).mp w)), if_neg q2]
          have hv2 : v < 2 ^ e ∨ 2 ^ e + 2 ≤ v := by omega
          -- a code that is not special
          have plain : v < nx → (¬ (dn + N v ≤ w * h ∧ okc A T lim (N v) v = true) → ∃ μ', fX10_codes_L149 (fX10_codes_L54 fu K) fu y (nI e) (nI f) (nI (2 ^ e)) (nI (w * h)) (nI lim) (nI dn) (nI v) 0 ν = some (0, μ') ∧ DFr y s' f ν μ') ∧ ((dn + N v ≤ w * h ∧ okc A T lim (N v) v = true) → ∃ μ', fX10_codes_L149 (fX10_codes_L54 fu K) fu y (nI e) (nI f) (nI (2 ^ e)) (nI (w * h)) (nI lim) (nI dn) (nI v) 0 ν = fX10_codes_L268 (fX10_codes_L54 fu K) fu y (nI e) (nI f) (nI (2 ^ e)) (nI (w * h)) (nI lim) (nI (dn + N v)) (nI v) (nI (F v)) μ' ∧ DFr y s' f ν μ' ∧ Ag ν μ' (y + 7) (y + 8) ∧ DRo y s' f w h il μ' (dn + N v) (wrt A T dn (N v) v o)) := by
            intro hlt
            have hvk : DK (2 ^ e) nx v := by
              rcases hv2 with w | w
              · exact Or.inl w
              · exact Or.inr ⟨w, hlt⟩
            obtain ⟨n1, n2, n3, n4⟩ := hI.n v hvk
            unfold fX10_codes_L149 fX10_codes_L167 fX10_codes_L193
            rw [fν.2.1, if_pos (nI_lt hlt (by omega)), if_pos rfl, r_ib hv (by decide), aν.1.2.2.2, nI_clamp (by omega), (aν.2.1 v hvk).2.2, nI_add]
            by_cases w1 : dn + N v ≤ w * h
            · rw [if_neg (nI_nlt w1 (by omega)), if_pos rfl]
              unfold fX10_codes_L220
              obtain ⟨b, μ2, e2, d2, r0, r1⟩ := put_R fu hfu hI hlim hs' hf24 hw hh hil hvk w1 aν iν oν
              rw [bd_e e2]
              dsimp only
              refine ⟨fun w2 => ?_, fun w2 => ?_⟩
              · have : okc A T lim (N v) v = false := by
                  cases hc2 : okc A T lim (N v) v with
                  | false => rfl
                  | true => exact absurd ⟨w1, hc2⟩ w2
                rw [if_pos (r0 this)]
                exact ⟨μ2, rfl, d2⟩
              · obtain ⟨b1, g1, o1⟩ := r1 w2.2
                rw [if_neg (show ¬ b = 0 by rw [b1]; decide), nI_add, lt'_e, if_pos rfl, r_ib hv (by decide), g1.1, aν.1.2.2.1, g1.2 (y + 11) (by omega), nI_clamp (by omega), (aν.2.1 v hvk).1]
                exact ⟨μ2, rfl, d2, g1, o1⟩
            · rw [if_pos (nI_lt (by omega) (by omega))]
              exact ⟨fun _ => ⟨ν, rfl, DFr.rf⟩, fun w2 => absurd w2.1 w1⟩
          by_cases q3 : fm.isSome = true ∧ nx < 4096
          · rw [if_pos q3]
            obtain ⟨p, ep⟩ : ∃ p, fm = some p := Option.isSome_iff_exists.mp q3.1
            subst ep
            show ∃ b μ', _ ∧ _ ∧ ((if v ≤ nx ∧ dn + u1 N nx (N p + 1) v ≤ w * h ∧ okc (u1 A nx p) (u1 T nx (tlF nx p v F)) lim (u1 N nx (N p + 1) v) v = true then dM D c e (w * h) lim g (bit + sz) (szT sz nx) (nx + 1) (some v) (dn + u1 N nx (N p + 1) v) (u1 A nx p) (u1 F nx (F p)) (u1 T nx (tlF nx p v F)) (u1 N nx (N p + 1)) (wrt (u1 A nx p) (u1 T nx (tlF nx p v F)) dn (u1 N nx (N p + 1) v) v o) else none) = none → _) ∧ ∀ r, (if v ≤ nx ∧ dn + u1 N nx (N p + 1) v ≤ w * h ∧ okc (u1 A nx p) (u1 T nx (tlF nx p v F)) lim (u1 N nx (N p + 1) v) v = true then dM D c e (w * h) lim g (bit + sz) (szT sz nx) (nx + 1) (some v) (dn + u1 N nx (N p + 1) v) (u1 A nx p) (u1 F nx (F p)) (u1 T nx (tlF nx p v F)) (u1 N nx (N p + 1)) (wrt (u1 A nx p) (u1 T nx (tlF nx p v F)) dn (u1 N nx (N p + 1) v) v o) else none) = some r → _
            have hp := hI.2.2.1 p rfl
            have hp4 : p < 4096 := by rcases hp with w | w <;> omega
            have h30 : ν.1 y 30 = nI p := fν.2.2
            have h29 : ν.1 y 29 = nI nx := fν.2.1
            by_cases w0 : nx < v
            · rw [h29, if_neg (show ¬ nI v = nI nx from fun w => by
                have := (nI_eq (by omega) (by omega)).mp w
                omega)]
              unfold fX10_codes_L148 fX10_codes_L149
              rw [h29, if_neg (nI_nlt (by omega) (by omega)), if_pos rfl, if_neg (fun w => absurd w.1 (by omega))]
              exact ⟨0, ν, rfl, dν, fun _ => rfl, fun r hr => by cases hr⟩
            · have hvk : DK (2 ^ e) (nx + 1) v := by
                rcases hv2 with w | w
                · exact Or.inl w
                · exact Or.inr ⟨w, by omega⟩
              have htl := tlF_lt hI (show v ≤ nx by omega) hv2
              have hI' := hI.tell q3.2 htl v hvk
              -- behind the put
              have fin : ∀ (μ2 : Mm) (N' : Nat), dn + N' ≤ w * h → DFr y s' f ν μ2 → Ag ν μ2 (y + 7) (y + 8) → ∀ o', DRo y s' f w h il μ2 (dn + N') o' → ∃ b μ', fX10_codes_L268 (fX10_codes_L54 fu K) fu y (nI e) (nI f) (nI (2 ^ e)) (nI (w * h)) (nI lim) (nI (dn + N')) (nI v) (nI (tlF nx p v F)) μ2 = some (b, μ') ∧ DFr y s' f μ μ' ∧ (dM D c e (w * h) lim g (bit + sz) (szT sz nx) (nx + 1) (some v) (dn + N') (u1 A nx p) (u1 F nx (F p)) (u1 T nx (tlF nx p v F)) (u1 N nx (N p + 1)) o' = none → b = 0) ∧ (∀ r, dM D c e (w * h) lim g (bit + sz) (szT sz nx) (nx + 1) (some v) (dn + N') (u1 A nx p) (u1 F nx (F p)) (u1 T nx (tlF nx p v F)) (u1 N nx (N p + 1)) o' = some r → b = 1 ∧ DRo y s' f w h il μ' (w * h) r) := by
                intro μ2 N' hN' d2 g2 o' ho'
                obtain ⟨μ3, e3, a3, f3, r3⟩ := t268_t (v := v) (a := nI e) (b := nI f) (c := nI (2 ^ e)) (d := nI (w * h)) (g := nI lim) (x := nI (dn + N')) (fX10_codes_L54 fu K) fu hI (aν.eqv (by rw [g2.1]) (g2.2 _ (by omega)) (g2.2 _ (by omega)) (g2.2 _ (by omega)) (g2.2 _ (by omega))) (fν.eqv (g2.2 _ (by omega))) hs q3.2 (show tlF nx p v F < 8192 by omega)
                rw [e3]
                obtain ⟨b, μ', e', d4, r0, r1⟩ := ih K (bit + sz) (szT sz nx) (nx + 1) (some v) (dn + N') _ _ _ _ o' μ3 (by omega) (by omega) q (szT_o hs) hN' hI' a3 f3 ((Dν.dfr d2).dfr (s' := s') (f := f) r3.dfr) ((iν.dfr d2).dfr r3.dfr) (ho'.eqv (r3.2.1 _ (by omega) (by omega))) (by rw [r3.2.2 23 (by omega), g2.2 y (by omega)]; exact bν)
                exact ⟨b, μ', e', ((dν.tr d2).tr r3.dfr).tr d4, r0, r1⟩
              by_cases w1 : v = nx
              · rw [if_pos (show nI v = ν.1 y 29 by rw [h29, w1]), h30, if_neg (nI_pos (by omega)), h29, if_neg (show ¬ (4096 : Int32) ≤ nI nx from nI_ge (b := 4096) q3.2 (by decide))]
                have et : tlF nx p v F = F p := by unfold tlF; rw [if_pos w1]
                rw [et] at fin ⊢
                rw [w1, u1_k]
                rw [w1] at fin
                obtain ⟨n1, n2, n3, n4⟩ := hI.n p hp
                unfold fX10_codes_L149 fX10_codes_L167 fX10_codes_L193
                rw [h29, if_neg (nI_nlt (by omega) (by omega)), if_neg (show ¬ (1 : Int32) = 0 by decide), if_neg (show ¬ (1 : Int32) = 0 by decide), h30, r_ib hp4 (by decide), aν.1.2.2.2, nI_clamp (by omega), (aν.2.1 p hp).2.2, nI_1, nI_add]
                by_cases w2 : dn + (N p + 1) ≤ w * h
                · rw [if_neg (nI_nlt w2 (by omega)), if_neg (show ¬ (1 : Int32) = 0 by decide)]
                  unfold fX10_codes_L220
                  obtain ⟨b, μ2, e2, d2, r0, r1⟩ := putS_R fu hfu hI q3.2 hlim hs' hf24 hw hh hil w2 aν iν oν
                  rw [bd_e e2]
                  dsimp only
                  cases hc2 : okc (u1 A nx p) (u1 T nx (F p)) lim (N p + 1) nx with
                  | false =>
                    rw [if_pos (r0 hc2), if_neg (fun w => by
                      have := w.2.2
                      cases this)]
                    exact ⟨0, μ2, rfl, dν.tr d2, fun _ => rfl, fun r hr => by cases hr⟩
                  | true =>
                    obtain ⟨b1, g1, o1⟩ := r1 hc2
                    rw [if_neg (show ¬ b = 0 by rw [b1]; decide), nI_add, lt'_e, if_neg (show ¬ (1 : Int32) = 0 by decide), g1.2 y (by omega), h30, r_ib hp4 (by decide), g1.1, aν.1.2.2.1, g1.2 (y + 11) (by omega), nI_clamp (by omega), (aν.2.1 p hp).1, if_pos ⟨Nat.le_refl _, w2, rfl⟩]
                    exact fin μ2 (N p + 1) w2 d2 g1 _ o1
                · rw [if_pos (nI_lt (by omega) (by omega)), if_neg (fun w => w2 w.2.1)]
                  exact ⟨0, ν, rfl, dν, fun _ => rfl, fun r hr => by cases hr⟩
              · have hlt : v < nx := by omega
                have hvk' : DK (2 ^ e) nx v := by
                  rcases hv2 with w | w
                  · exact Or.inl w
                  · exact Or.inr ⟨w, hlt⟩
                rw [if_neg (show ¬ nI v = ν.1 y 29 by
                  rw [h29]
                  exact fun w => w1 ((nI_eq (by omega) (by omega)).mp w))]
                have et : tlF nx p v F = F v := by unfold tlF; rw [if_neg w1]
                rw [et] at fin ⊢
                have e5 : okc (u1 A nx p) (u1 T nx (F v)) lim (N v) v = okc A T lim (N v) v := okc_x hI (N v) v hvk' rfl
                have e6 : wrt (u1 A nx p) (u1 T nx (F v)) dn (N v) v o = wrt A T dn (N v) v o := wrt_x hI (N v) v o hvk' rfl
                rw [u1_j w1, e5, e6]
                unfold fX10_codes_L148
                obtain ⟨p0, p1⟩ := plain hlt
                by_cases w2 : dn + N v ≤ w * h ∧ okc A T lim (N v) v = true
                · obtain ⟨μ2, e2, d2, g2, o2⟩ := p1 w2
                  rw [e2, if_pos ⟨by omega, w2.1, w2.2⟩]
                  exact fin μ2 (N v) w2.1 d2 g2 _ o2
                · obtain ⟨μ2, e2, d2⟩ := p0 w2
                  rw [e2, if_neg (fun w => w2 w.2)]
                  exact ⟨0, μ2, rfl, dν.tr d2, fun _ => rfl, fun r hr => by cases hr⟩
          · rw [if_neg q3]
            have hno : fm = none ∨ nx = 4096 := by
              cases fm with
              | none => exact Or.inl rfl
              | some p => exact Or.inr (by
                  have : ¬ nx < 4096 := fun w => q3 ⟨rfl, w⟩
                  omega)
            have h29 : ν.1 y 29 = nI nx := fν.2.1
            have red : (if nI v = ν.1 y 29 then (if ν.1 y 30 < 0 then fX10_codes_L148 (fX10_codes_L54 fu K) fu y (nI e) (nI f) (nI (2 ^ e)) (nI (w * h)) (nI lim) (nI dn) (nI v) ν else (if (4096 : Int32) ≤ ν.1 y 29 then fX10_codes_L148 (fX10_codes_L54 fu K) fu y (nI e) (nI f) (nI (2 ^ e)) (nI (w * h)) (nI lim) (nI dn) (nI v) ν else fX10_codes_L149 (fX10_codes_L54 fu K) fu y (nI e) (nI f) (nI (2 ^ e)) (nI (w * h)) (nI lim) (nI dn) (nI v) 1 ν)) else fX10_codes_L148 (fX10_codes_L54 fu K) fu y (nI e) (nI f) (nI (2 ^ e)) (nI (w * h)) (nI lim) (nI dn) (nI v) ν) = fX10_codes_L149 (fX10_codes_L54 fu K) fu y (nI e) (nI f) (nI (2 ^ e)) (nI (w * h)) (nI lim) (nI dn) (nI v) 0 ν := by
              unfold fX10_codes_L148
              split
              · split
                · rfl
                · next w1 =>
                  rcases hno with w | w
                  · exact absurd (by rw [fν.2.2]; exact fm_neg w) w1
                  · rw [if_pos (show (4096 : Int32) ≤ ν.1 y 29 by rw [h29, w]; decide)]
              · rfl
            rw [red]
            by_cases w1 : v < nx
            · have hvk : DK (2 ^ e) nx v := by
                rcases hv2 with w | w
                · exact Or.inl w
                · exact Or.inr ⟨w, w1⟩
              obtain ⟨p0, p1⟩ := plain w1
              by_cases w2 : dn + N v ≤ w * h ∧ okc A T lim (N v) v = true
              · obtain ⟨μ2, e2, d2, g2, o2⟩ := p1 w2
                rw [e2, if_pos ⟨w1, w2.1, w2.2⟩, t268_n _ _ (fν.eqv (g2.2 _ (by omega))) hno]
                have d3 : DFr y s' f μ2 (si μ2 y 30 (nI v)) := DFr.wf (by omega)
                obtain ⟨b, μ', e', d4, r0, r1⟩ := ih K (bit + sz) sz nx (some v) (dn + N v) A F T N _ (si μ2 y 30 (nI v)) (by omega) (by omega) q hs w2.1 (hI.fm v hvk) (RTa.f (aν.eqv (by rw [g2.1]) (g2.2 _ (by omega)) (g2.2 _ (by omega)) (g2.2 _ (by omega)) (g2.2 _ (by omega)))) (RTf.bf (fν.eqv (g2.2 _ (by omega)))) ((Dν.dfr d2).dfr d3) ((iν.dfr d2).dfr d3) (o2.eqv (si_b (by omega))) (by rw [si_j (by decide), g2.2 y (by omega)]; exact bν)
                exact ⟨b, μ', e', ((dν.tr d2).tr d3).tr d4, r0, r1⟩
              · obtain ⟨μ2, e2, d2⟩ := p0 w2
                rw [e2, if_neg (fun w => w2 w.2)]
                exact ⟨0, μ2, rfl, dν.tr d2, fun _ => rfl, fun r hr => by cases hr⟩
            · unfold fX10_codes_L149
              rw [h29, if_neg (nI_nlt (by omega) (by omega)), if_pos rfl, if_neg (fun w => w1 w.1)]
              exact ⟨0, ν, rfl, dν, fun _ => rfl, fun r hr => by cases hr⟩
    · rw [bd_e (code_0 fu hD hf.1 h23 hs.2 hbc q), if_neg q, lt'_e]
      dsimp only
      rw [if_neg (show ¬ (0 : Int32) ≤ -1 by decide)]
      exact ⟨0, μ, rfl, DFr.rf, fun _ => rfl, fun r hr => by cases hr⟩
theorem dec_R {y s' f w h il e c lim : Nat} {D : Nf} {μ : Mm} (fu : Nat) (hfu : 100000 ≤ fu) (he : 2 ≤ e ∧ e ≤ 8) (hlim : lim ≤ 256) (hs' : s' < 2) (hf24 : f < 24) (hw : 1 ≤ w ∧ w ≤ 64) (hh : h ≤ 64) (hil : il ≤ 1) (hl : RTl y μ) (hD : RDt y μ c D) (hi : DRi y s' f w h il μ) (hco : fX10_colours y (nI s') (nI f) μ = some (nI lim)) : ∃ b μ', fX10_codes fu y (nI e) (nI f) μ = some (b, μ') ∧ DFr y s' f μ μ' ∧ (dA D c e (w * h) lim = none → b = 0) ∧ (∀ r, dA D c e (w * h) lim = some r → b = 1 ∧ DRo y s' f w h il μ' (w * h) r) := by
  have hc := hD.2.2.1
  have h2e := two_e he.2
  have bwh := Nat.mul_le_mul hw.2 hh
  have hpl : fX10_places y (nI s') (nI f) μ = some (nI (w * h)) := by
    unfold fX10_places
    rw [bd_e (show fX10_field y (nI s') (nI f) 2 μ = some (nI w) by rw [← hi.2.1]; exact field_at hi.1.1 hs' hf24 (by decide)), bd_e (show fX10_field y (nI s') (nI f) 3 μ = some (nI h) by rw [← hi.2.2.1]; exact field_at hi.1.1 hs' hf24 (by decide)), pk_mul]
  obtain ⟨μ1, e1, g1, x1⟩ := al_loop (y := y) (e := e) fu he.2 fu 0 μ (Nat.zero_le _) (by omega) hl (fun x hx => by omega)
  have al : fX10_alone fu y (nI e) μ = some μ1 := e1
  have ta : RTa y μ1 e (2 ^ e + 2) (fun _ => 0) (fun x => x) (fun x => x) (fun _ => 1) := by
    refine ⟨by unfold RTl; rw [g1.1]; exact hl, fun x hx => ?_, fun x hx => (x1 x hx).1, fun x q1 q2 => by omega⟩
    have hx2 : x < 2 ^ e := by rcases hx with q | q <;> omega
    exact ⟨(x1 x hx2).2.2.1, (x1 x hx2).2.1, (x1 x hx2).2.2.2⟩
  obtain ⟨f2, r2, g2⟩ := re_R (y := y) (e := e) (μ := μ1) he.2
  obtain ⟨ν, eν⟩ : ∃ ν, ν = si (fX10_restart y (nI e) μ1) y 23 (nI 0) := ⟨_, rfl⟩
  have dν : DFr y s' f μ ν := by rw [eν]; exact ((RTF.ag g1).dfr.tr r2.dfr).tr (DFr.wf (by omega))
  have aν : RTa y ν e (2 ^ e + 2) (fun _ => 0) (fun x => x) (fun x => x) (fun _ => 1) := by
    rw [eν]
    exact RTa.f (ta.eqv (by rw [g2.1]) (g2.2 _ (by omega)) (g2.2 _ (by omega)) (g2.2 _ (by omega)) (g2.2 _ (by omega)))
  have fν : RTf y ν (e + 1) (2 ^ e + 2) none := by rw [eν]; exact f2.f23
  have bν : ν.1 y 23 = nI 0 := by rw [eν, si_k]
  have Dν := hD.dfr dν
  have iν := hi.dfr dν
  unfold fX10_codes dA
  rw [shl1 e (by omega), hi.1.2.2, lt'_e, bd_e hpl, bd_e hco, bd_e al, lt'_e, lt'_e, show si (fX10_restart y (nI e) μ1) y 23 0 = ν from eν.symm]
  by_cases q : e + 1 ≤ 8 * c
  · rw [bd_e (code_1 fu (by omega) Dν fν.1 bν (by omega) (by omega : 0 + (e + 1) ≤ 8 * c))]
    dsimp only
    have lt9 : cdS D 0 (e + 1) < 2 ^ (e + 1) := cdS_lt D 0 _
    have h9 : 2 ^ (e + 1) ≤ 2 ^ 9 := Nat.pow_le_pow_right (by decide) (by omega)
    rw [Nat.zero_add]
    by_cases q1 : cdS D 0 (e + 1) = 2 ^ e
    · rw [if_pos (show nI (cdS D 0 (e + 1)) = nI (2 ^ e) by rw [q1]), if_pos ⟨q, q1⟩]
      have d3 : DFr y s' f ν (si ν y 23 (nI (e + 1))) := DFr.wf (by omega)
      obtain ⟨b, μ', e', d', r0, r1⟩ := dl_R fu (by omega) hlim hs' hf24 hw hh hil (8 * c + 1) fu (e + 1) (e + 1) (2 ^ e + 2) none 0 _ _ _ _ (fun _ => 0) (si ν y 23 (nI (e + 1))) (by omega) (by omega) q (by omega) (by omega) (DI0 he) aν.f fν.f23 (Dν.dfr d3) (iν.dfr d3) (fun k hk => by omega) si_k
      exact ⟨b, μ', e', (dν.tr d3).tr d', r0, r1⟩
    · rw [if_neg (show ¬ nI (cdS D 0 (e + 1)) = nI (2 ^ e) from fun w => q1 ((nI_eq (by omega) (by omega)).mp w)), if_neg (fun w => q1 w.2)]
      exact ⟨0, _, rfl, dν.tr (DFr.wf (by omega)), fun _ => rfl, fun r hr => by cases hr⟩
  · rw [bd_e (code_0 fu Dν fν.1 bν (by omega) (by omega) (by omega))]
    dsimp only
    rw [if_neg (fun w => nI_nm1 (by omega) w.symm), if_neg (fun w => q w.1)]
    exact ⟨0, _, rfl, dν, fun _ => rfl, fun r hr => by cases hr⟩
