/-! DECODING, as a function of numbers -/
abbrev Nf : Type := Nat → Nat
/-- one code, behind it the rest -/
def dB (c e pl lim : Nat) (rec : Nat → Nat → Nat → Option Nat → Nat → Nf → Nf → Nf → Nf → Nf → Option Nf) (v bit sz nx : Nat) (fm : Option Nat) (dn : Nat) (A F T N o : Nf) : Option Nf :=
  if v = 2 ^ e + 1 then (if dn = pl ∧ (bit + 7) / 8 = c then some o else none)
  else if v = 2 ^ e then rec bit (e + 1) (2 ^ e + 2) none dn A F T N o
  else if fm.isSome = true ∧ nx < 4096 then
    (if v ≤ nx ∧ dn + u1 N nx (N (fm.getD 0) + 1) v ≤ pl ∧ okc (u1 A nx (fm.getD 0)) (u1 T nx (tlF nx (fm.getD 0) v F)) lim (u1 N nx (N (fm.getD 0) + 1) v) v = true then
      rec bit (szT sz nx) (nx + 1) (some v) (dn + u1 N nx (N (fm.getD 0) + 1) v) (u1 A nx (fm.getD 0)) (u1 F nx (F (fm.getD 0))) (u1 T nx (tlF nx (fm.getD 0) v F)) (u1 N nx (N (fm.getD 0) + 1)) (wrt (u1 A nx (fm.getD 0)) (u1 T nx (tlF nx (fm.getD 0) v F)) dn (u1 N nx (N (fm.getD 0) + 1) v) v o)
    else none)
  else
    (if v < nx ∧ dn + N v ≤ pl ∧ okc A T lim (N v) v = true then rec bit sz nx (some v) (dn + N v) A F T N (wrt A T dn (N v) v o) else none)
def dM (D : Nf) (c e pl lim : Nat) : Nat → Nat → Nat → Nat → Option Nat → Nat → Nf → Nf → Nf → Nf → Nf → Option Nf
  | 0 => fun _ _ _ _ _ _ _ _ _ _ => none
  | f + 1 => fun bit sz nx fm dn A F T N o => if bit + sz ≤ 8 * c then dB c e pl lim (dM D c e pl lim f) (cdS D bit sz) (bit + sz) sz nx fm dn A F T N o else none
theorem szT_o {sz nx : Nat} (h : 1 ≤ sz ∧ sz ≤ 12) : 1 ≤ szT sz nx ∧ szT sz nx ≤ 12 := by
  unfold szT
  split <;> omega
theorem DK.up {cl a b x : Nat} (h : DK cl a x) (hb : a ≤ b) : DK cl b x := by
  rcases h with q | q
  · exact Or.inl q
  · exact Or.inr ⟨q.1, by omega⟩
theorem tlF_lt {e nx p v : Nat} {A F T N : Nat → Nat} (hI : DI e nx (some p) A F T N) (hv : v ≤ nx) (hv2 : v < 2 ^ e ∨ 2 ^ e + 2 ≤ v) : tlF nx p v F < 2 ^ e := by
  unfold tlF
  split
  · exact (hI.n p (hI.2.2.1 p rfl)).2.2.1
  · exact (hI.n v (by rcases hv2 with q | q; exact Or.inl q; exact Or.inr ⟨q, by omega⟩)).2.2.1
theorem wrt_lim {A T : Nf} {lim dn M : Nat} : ∀ r x o, okc A T lim r x = true → (∀ k, k < M → (k < dn ∨ dn + r ≤ k) → o k < lim) → ∀ k, k < M → wrt A T dn r x o k < lim := by
  intro r
  induction r with
  | zero => intro x o _ ho k hk; exact ho k hk (by omega)
  | succ r ih =>
    intro x o hc ho k hk
    have hc' : (decide (T x < lim) && okc A T lim r (A x)) = true := hc
    rw [Bool.and_eq_true, decide_eq_true_eq] at hc'
    refine ih (A x) (u1 o (dn + r) (T x)) hc'.2 (fun j hj hj2 => ?_) k hk
    by_cases q : j = dn + r
    · rw [q, u1_k]; exact hc'.1
    · rw [u1_j q]; exact ho j hj (by omega)
theorem dM_lim {D : Nf} {c e pl lim : Nat} : ∀ f bit sz nx fm dn A F T N o r, (∀ k, k < dn → o k < lim) → dM D c e pl lim f bit sz nx fm dn A F T N o = some r → ∀ k, k < pl → r k < lim := by
  intro f
  induction f with
  | zero => intro bit sz nx fm dn A F T N o r _ h; exact absurd h (by intro q; cases q)
  | succ f ih =>
    intro bit sz nx fm dn A F T N o r ho h k hk
    have h' : (if bit + sz ≤ 8 * c then dB c e pl lim (dM D c e pl lim f) (cdS D bit sz) (bit + sz) sz nx fm dn A F T N o else none) = some r := h
    by_cases q : bit + sz ≤ 8 * c
    · rw [if_pos q] at h'
      unfold dB at h'
      by_cases q1 : cdS D bit sz = 2 ^ e + 1
      · rw [if_pos q1] at h'
        by_cases q2 : dn = pl ∧ (bit + sz + 7) / 8 = c
        · rw [if_pos q2] at h'
          have : o = r := by injection h'
          rw [← this]; exact ho k (by omega)
        · rw [if_neg q2] at h'; cases h'
      · rw [if_neg q1] at h'
        by_cases q2 : cdS D bit sz = 2 ^ e
        · rw [if_pos q2] at h'
          exact ih _ _ _ _ _ _ _ _ _ _ _ ho h' k hk
        · rw [if_neg q2] at h'
          by_cases q3 : fm.isSome = true ∧ nx < 4096
          · rw [if_pos q3] at h'
            split at h'
            · next w => exact ih _ _ _ _ _ _ _ _ _ _ _ (fun j hj => wrt_lim _ _ _ w.2.2 (fun j' _ hj2 => ho j' (by omega)) j hj) h' k hk
            · cases h'
          · rw [if_neg q3] at h'
            split at h'
            · next w => exact ih _ _ _ _ _ _ _ _ _ _ _ (fun j hj => wrt_lim _ _ _ w.2.2 (fun j' _ hj2 => ho j' (by omega)) j hj) h' k hk
            · cases h'
    · rw [if_neg q] at h'; cases h'
/-- the class decodes so -/
theorem dl_C {n e c pl lim : Nat} {D : Nf} (fu : Nat) (hfu : 4200 ≤ fu) (hlim : lim ≤ 256) (hpl : pl ≤ 4096) : ∀ (f K i bit sz nx : Nat) (fm : Option Nat) (dn : Nat) (A F T N o : Nf) (μ : Mm), 8 * c - bit < f → f ≤ K → i < bit → bit ≤ 8 * c → (1 ≤ sz ∧ sz ≤ 12) → dn ≤ pl → DI e nx fm A F T N → DCa n μ e c D nx dn A F T N o → DCf n μ e bit sz nx fm dn → ∃ b μ', fX1_decode_L24 fu K (n + 4) (nI pl) (nI lim) (nI (2 ^ e)) (nI i) μ = some (b, μ') ∧ DFc n μ μ' ∧ (dM D c e pl lim f bit sz nx fm dn A F T N o = none → b = 0) ∧ (∀ r, dM D c e pl lim f bit sz nx fm dn A F T N o = some r → b = 1 ∧ ∀ k, k < pl → μ'.1 (n + 7) k = nI (r k)) := by
  intro f
  induction f with
  | zero => intro K i bit sz nx fm dn A F T N o μ h; omega
  | succ f ih =>
    intro K i bit sz nx fm dn A F T N o μ hf hK hi hbc hs hdn hI h hF
    obtain ⟨K, rfl⟩ : ∃ K', K = K' + 1 := ⟨K - 1, by omega⟩
    have hc := h.2.1.2.2.1
    have h2e := two_e hI.1.2
    have hnx := hI.2.1
    have he12 := hI.1
    have em : ∀ z, dM D c e pl lim (f + 1) bit sz nx fm dn A F T N o = z ↔ (if bit + sz ≤ 8 * c then dB c e pl lim (dM D c e pl lim f) (cdS D bit sz) (bit + sz) sz nx fm dn A F T N o else none) = z := fun z => Iff.rfl
    simp only [em]
    show ∃ b μ', fX1_decode_B24 (fX1_decode_L24 fu K) fu (n + 4) (nI pl) (nI lim) (nI (2 ^ e)) (nI i) μ = some (b, μ') ∧ _
    unfold fX1_decode_B24
    rw [h.1.1, h.2.1.2.1, show nI c * 8 = nI (8 * c) by rw [Nat.mul_comm]; exact pk_mul c 8, if_neg (nI_ge (by omega) (by omega))]
    by_cases q : bit + sz ≤ 8 * c
    · rw [bd_e (nc_1 h hF hs q), lt'_e, if_pos q]
      dsimp only
      obtain ⟨v, ev⟩ : ∃ v, v = cdS D bit sz := ⟨_, rfl⟩
      have hv : v < 4096 := by
        have := cdS_lt D bit sz
        have h12 : 2 ^ sz ≤ 2 ^ 12 := Nat.pow_le_pow_right (by decide) hs.2
        omega
      rw [← ev]
      obtain ⟨ν, eν⟩ : ∃ ν, ν = si μ (n + 4) 7 (nI (bit + sz)) := ⟨_, rfl⟩
      rw [← eν]
      have hν : DCa n ν e c D nx dn A F T N o := by rw [eν]; exact h.f
      have fν : DCf n ν e (bit + sz) sz nx fm dn := by rw [eν]; exact hF.bit
      have dν : DFc n μ ν := by rw [eν]; exact DFc.wi (by omega)
      unfold dB
      rw [nI_1]
      by_cases q1 : v = 2 ^ e + 1
      · rw [if_pos (show nI v = nI (2 ^ e + 1) by rw [q1]), if_pos q1, fν.2.2.2.2.2, fν.2.1, hν.1.1, hν.2.1.2.1]
        by_cases q2 : dn = pl
        · rw [if_pos (show nI dn = nI pl by rw [q2]), show nI (bit + sz) - 1 = nI (bit + sz - 1) from pk_sub (b := 1) (by omega), show nI c - 1 = nI (c - 1) from pk_sub (b := 1) (by omega), pk_shrN (by omega) _ 3 (by decide), show (2 : Nat) ^ 3 = 8 from rfl]
          by_cases q3 : (bit + sz + 7) / 8 = c
          · rw [if_pos (show nI ((bit + sz - 1) / 8) = nI (c - 1) by rw [show (bit + sz - 1) / 8 = c - 1 by omega]), if_pos ⟨q2, q3⟩]
            refine ⟨1, ν, rfl, dν, fun w => (by cases w), fun r hr => ⟨rfl, fun k hk => ?_⟩⟩
            have : o = r := by injection hr
            rw [← this]
            exact hν.2.2.2.2 k (by omega)
          · rw [if_neg (show ¬ nI ((bit + sz - 1) / 8) = nI (c - 1) from fun w => by
              have := (nI_eq (by omega) (by omega)).mp w
              omega), if_neg (fun w => q3 w.2)]
            exact ⟨0, ν, rfl, dν, fun _ => rfl, fun r hr => by cases hr⟩
        · rw [if_neg (show ¬ nI dn = nI pl from fun w => q2 ((nI_eq (by omega) (by omega)).mp w)), if_neg (fun w => q2 w.1)]
          exact ⟨0, ν, rfl, dν, fun _ => rfl, fun r hr => by cases hr⟩
      · rw [if_neg (show ¬ nI v = nI (2 ^ e + 1) from fun w => q1 ((nI_eq (by omega) (by omega)).mp w)), if_neg q1]
        by_cases q2 : v = 2 ^ e
        · rw [if_pos (show nI v = nI (2 ^ e) by rw [q2]), if_pos q2, lt'_e, lt'_e, nI_1]
          obtain ⟨a', f', d'⟩ := fo_C hν fν hI.1.2 hnx.1
          obtain ⟨b, μ', e', d2, r0, r1⟩ := ih K (i + 1) (bit + sz) (e + 1) (2 ^ e + 2) none dn A F T N o _ (by omega) (by omega) (by omega) q (by omega) hdn hI.re a' f'
          exact ⟨b, μ', e', (dν.tr d').tr d2, r0, r1⟩
        · rw [if_neg (show ¬ nI v = nI (2 ^ e) from fun w => q2 ((nI_eq (by omega) (by omega)).mp w)), if_neg q2]
          have hv2 : v < 2 ^ e ∨ 2 ^ e + 2 ≤ v := by omega
          by_cases q3 : fm.isSome = true ∧ nx < 4096
          · rw [if_pos q3]
            obtain ⟨p, ep⟩ : ∃ p, fm = some p := Option.isSome_iff_exists.mp q3.1
            subst ep
            show ∃ b μ', _ ∧ _ ∧ ((if v ≤ nx ∧ dn + u1 N nx (N p + 1) v ≤ pl ∧ okc (u1 A nx p) (u1 T nx (tlF nx p v F)) lim (u1 N nx (N p + 1) v) v = true then dM D c e pl lim f (bit + sz) (szT sz nx) (nx + 1) (some v) (dn + u1 N nx (N p + 1) v) (u1 A nx p) (u1 F nx (F p)) (u1 T nx (tlF nx p v F)) (u1 N nx (N p + 1)) (wrt (u1 A nx p) (u1 T nx (tlF nx p v F)) dn (u1 N nx (N p + 1) v) v o) else none) = none → _) ∧ ∀ r, (if v ≤ nx ∧ dn + u1 N nx (N p + 1) v ≤ pl ∧ okc (u1 A nx p) (u1 T nx (tlF nx p v F)) lim (u1 N nx (N p + 1) v) v = true then dM D c e pl lim f (bit + sz) (szT sz nx) (nx + 1) (some v) (dn + u1 N nx (N p + 1) v) (u1 A nx p) (u1 F nx (F p)) (u1 T nx (tlF nx p v F)) (u1 N nx (N p + 1)) (wrt (u1 A nx p) (u1 T nx (tlF nx p v F)) dn (u1 N nx (N p + 1) v) v o) else none) = some r → _
            rcases ik_t hI hν fν hs q3.2 hv hv2 with ⟨w1, w2⟩ | ⟨w1, μ1, w2, a1, f1, d1⟩
            · rw [bd_e w2]
              dsimp only
              rw [if_pos rfl, if_neg (fun w => absurd w.1 (by omega))]
              exact ⟨0, ν, rfl, dν, fun _ => rfl, fun r hr => by cases hr⟩
            · rw [bd_e w2]
              dsimp only
              rw [if_neg (show ¬ (1 : Int32) = 0 by decide)]
              have hvk : DK (2 ^ e) (nx + 1) v := by
                rcases hv2 with w | w
                · exact Or.inl w
                · exact Or.inr ⟨w, by omega⟩
              have hI' := hI.tell q3.2 (tlF_lt hI w1 hv2) v hvk
              obtain ⟨b, μ2, e2, d2, r0, r1⟩ := po_C fu hfu hI' hlim ⟨hdn, hpl⟩ hvk a1 f1
              rw [bd_e e2]
              dsimp only
              by_cases q4 : dn + u1 N nx (N p + 1) v ≤ pl ∧ okc (u1 A nx p) (u1 T nx (tlF nx p v F)) lim (u1 N nx (N p + 1) v) v = true
              · obtain ⟨b1, a2, f2⟩ := r1 q4
                rw [if_neg (show ¬ b = 0 by rw [b1]; decide), if_pos ⟨w1, q4.1, q4.2⟩, lt'_e, nI_1]
                obtain ⟨b', μ', e', d3, s0, s1⟩ := ih K (i + 1) (bit + sz) (szT sz nx) (nx + 1) (some v) _ _ _ _ _ _ μ2 (by omega) (by omega) (by omega) q (szT_o hs) q4.1 hI' a2 f2
                exact ⟨b', μ', e', ((dν.tr d1).tr d2).tr d3, s0, s1⟩
              · rw [if_pos (r0 q4), if_neg (fun w => q4 w.2)]
                exact ⟨0, μ2, rfl, (dν.tr d1).tr d2, fun _ => rfl, fun r hr => by cases hr⟩
          · rw [if_neg q3]
            have hno : fm = none ∨ nx = 4096 := by
              cases fm with
              | none => exact Or.inl rfl
              | some p => exact Or.inr (by
                  have : ¬ nx < 4096 := fun w => q3 ⟨rfl, w⟩
                  omega)
            rcases ik_n hI hν fν hno hv with ⟨w1, w2⟩ | ⟨w1, w2⟩
            · rw [bd_e w2]
              dsimp only
              rw [if_pos rfl, if_neg (fun w => absurd w.1 (by omega))]
              exact ⟨0, ν, rfl, dν, fun _ => rfl, fun r hr => by cases hr⟩
            · rw [bd_e w2]
              dsimp only
              rw [if_neg (show ¬ (1 : Int32) = 0 by decide)]
              have hvk : DK (2 ^ e) nx v := by
                rcases hv2 with w | w
                · exact Or.inl w
                · exact Or.inr ⟨w, w1⟩
              have hI' := hI.fm v hvk
              obtain ⟨b, μ2, e2, d2, r0, r1⟩ := po_C fu hfu hI' hlim ⟨hdn, hpl⟩ hvk (hν.f (k := 10) (v := nI v)) (fν.fm (p := v))
              rw [bd_e e2]
              dsimp only
              have d1 : DFc n ν (si ν (n + 4) 10 (nI v)) := DFc.wi (by omega)
              by_cases q4 : dn + N v ≤ pl ∧ okc A T lim (N v) v = true
              · obtain ⟨b1, a2, f2⟩ := r1 q4
                rw [if_neg (show ¬ b = 0 by rw [b1]; decide), if_pos ⟨w1, q4.1, q4.2⟩, lt'_e, nI_1]
                obtain ⟨b', μ', e', d3, s0, s1⟩ := ih K (i + 1) (bit + sz) sz nx (some v) _ _ _ _ _ _ μ2 (by omega) (by omega) (by omega) q hs q4.1 hI' a2 f2
                exact ⟨b', μ', e', ((dν.tr d1).tr d2).tr d3, s0, s1⟩
              · rw [if_pos (r0 q4), if_neg (fun w => q4 w.2)]
                exact ⟨0, μ2, rfl, (dν.tr d1).tr d2, fun _ => rfl, fun r hr => by cases hr⟩
    · rw [bd_e (nc_0 h hF hs hbc q), if_neg q, lt'_e]
      dsimp only
      have kn : fX1_isKnown (n + 4) (-1) μ = some (0, μ) := by
        have k : ∀ t, fX1_isKnown_L23 (n + 4) (-1) t μ = some (0, μ) := fun t => by
          unfold fX1_isKnown_L23
          rw [if_pos (show ((-1 : Int32) < 0) by decide)]
        unfold fX1_isKnown fX1_isKnown_L22
        split
        · exact k _
        · split
          · exact k _
          · exact k _
      rw [nI_1, if_neg (fun w => nI_nm1 (by omega) w.symm), if_neg (fun w => nI_nm1 (by omega) w.symm), bd_e kn]
      dsimp only
      rw [if_pos rfl]
      exact ⟨0, μ, rfl, DFc.rf, fun _ => rfl, fun r hr => by cases hr⟩
/-- all codes of an IMAGE: none, or the places in the order of the stream -/
def dA (D : Nf) (c e pl lim : Nat) : Option Nf := if e + 1 ≤ 8 * c ∧ cdS D 0 (e + 1) = 2 ^ e then dM D c e pl lim (8 * c + 1) (e + 1) (e + 1) (2 ^ e + 2) none 0 (fun _ => 0) (fun x => x) (fun x => x) (fun _ => 1) (fun _ => 0) else none
theorem dec_C {n e c pl lim : Nat} {D : Nf} {μ : Mm} (fu : Nat) (hfu : 100000 ≤ fu) (he : 2 ≤ e ∧ e ≤ 8) (hlim : lim ≤ 256) (hpl : pl ≤ 4096) (hl : μ.2 (n + 4) 0 = n + 5 ∧ μ.2 (n + 4) 1 = n + 7 ∧ μ.2 (n + 4) 2 = n + 8 ∧ μ.2 (n + 4) 3 = n + 9 ∧ μ.2 (n + 4) 4 = n + 10 ∧ μ.2 (n + 4) 5 = n + 11) (hb : BR μ (n + 5) D c 0) : ∃ b μ', fX1_decode fu (n + 4) (nI e) (nI pl) (nI lim) μ = some (b, μ') ∧ DFc n μ μ' ∧ (dA D c e pl lim = none → b = 0) ∧ (∀ r, dA D c e pl lim = some r → b = 1 ∧ ∀ k, k < pl → μ'.1 (n + 7) k = nI (r k)) := by
  have hc := hb.2.2.1
  have h2e := two_e he.2
  obtain ⟨μ1, e1, a1, f1, d1⟩ := st_CC fu (by omega) he hl hb
  unfold fX1_decode dA
  rw [shl1 e (by omega), lt'_e, bd_e e1]
  by_cases q : e + 1 ≤ 8 * c
  · have nc := nc_1 a1 f1 (by omega) (by omega : 0 + (e + 1) ≤ 8 * c)
    rw [bd_e nc]
    dsimp only
    have lt9 : cdS D 0 (e + 1) < 2 ^ (e + 1) := cdS_lt D 0 _
    have h9 : 2 ^ (e + 1) ≤ 2 ^ 9 := Nat.pow_le_pow_right (by decide) (by omega)
    rw [Nat.zero_add]
    by_cases q1 : cdS D 0 (e + 1) = 2 ^ e
    · rw [if_pos (show nI (cdS D 0 (e + 1)) = nI (2 ^ e) by rw [q1]), if_pos ⟨q, q1⟩]
      obtain ⟨b, μ', e', d', r0, r1⟩ := dl_C fu (by omega) hlim hpl (8 * c + 1) fu 0 (e + 1) (e + 1) (2 ^ e + 2) none 0 _ _ _ _ _ (si μ1 (n + 4) 7 (nI (e + 1))) (by omega) (by omega) (by omega) q (by omega) (by omega) (DI0 he) a1.f f1.bit
      exact ⟨b, μ', e', (d1.tr (DFc.wi (by omega))).tr d', r0, r1⟩
    · rw [if_neg (show ¬ nI (cdS D 0 (e + 1)) = nI (2 ^ e) from fun w => q1 ((nI_eq (by omega) (by omega)).mp w)), if_neg (fun w => q1 w.2)]
      exact ⟨0, _, rfl, d1.tr (DFc.wi (by omega)), fun _ => rfl, fun r hr => by cases hr⟩
  · rw [bd_e (nc_0 a1 f1 (by omega) (by omega) (by omega))]
    dsimp only
    rw [if_neg (fun w => nI_nm1 (by omega) w.symm), if_neg (fun w => q w.1)]
    exact ⟨0, _, rfl, d1, fun _ => rfl, fun r hr => by cases hr⟩
