section EC2
variable {n e pl : Nat} {o : Nf}
/-- a child is looked for -/
theorem co_l {v : Nat} {T : Nf} {μ : Mm} (fu : Nat) (hv : v < 256) (hl : WSl n μ) : ∀ (l : List Nat) (i K : Nat), lkd (μ.1 (n + 269)) l → (∀ y, y ∈ l → y < 4096 ∧ μ.1 (n + 270) y = nI (T y) ∧ T y < 256) → i + l.length ≤ 256 → l.length < K → fX2_childOf_L10 fu K (n + 264) (nI v) (hdI l) (nI i) μ = some (fmI (fnd T v l)) := by
  intro l
  induction l with
  | nil =>
    intro i K _ _ hi hK
    obtain ⟨K, rfl⟩ : ∃ K', K = K' + 1 := ⟨K - 1, by omega⟩
    show fX2_childOf_B10 (fX2_childOf_L10 fu K) fu (n + 264) (nI v) m1 (nI i) μ = _
    unfold fX2_childOf_B10
    split
    · rfl
    · rw [if_pos (show m1 = -1 from rfl)]; rfl
  | cons y ys ih =>
    intro i K hk hy hi hK
    obtain ⟨K, rfl⟩ : ∃ K', K = K' + 1 := ⟨K - 1, by omega⟩
    rw [List.length_cons] at hi hK
    obtain ⟨y1, y2, y3⟩ := hy y (by simp)
    show fX2_childOf_B10 (fX2_childOf_L10 fu K) fu (n + 264) (nI v) (nI y) (nI i) μ = some (fmI (if T y = v then some y else fnd T v ys))
    unfold fX2_childOf_B10
    rw [if_neg (show ¬ (256 : Int32) ≤ nI i from nI_ge (b := 256) (by omega) (by decide)), if_neg (nI_nm1 (by omega)), r_ib y1 (by decide), hl.2.2.2.2, nI_clamp (by omega), y2]
    by_cases q : T y = v
    · rw [if_pos (show nI (T y) = nI v by rw [q]), if_pos q]; rfl
    · rw [if_neg (fun w => q ((nI_eq (by omega) (by omega)).mp w)), if_neg q, r_ib y1 (by decide), hl.2.2.2.1, hk.1, lt'_e, lt'_e, nI_1]
      exact ih (i + 1) K hk.2 (fun z hz => hy z (by simp [hz])) (by omega) (by omega)
theorem DK4 {e nx x : Nat} (he : e ≤ 8) (hn : nx ≤ 4096) (h : DK (2 ^ e) nx x) : x < 4096 := by
  have := two_e he
  rcases h with q | q <;> omega
theorem co_C {c v nx : Nat} {fm : Option Nat} {ch : Nl} {A F T N : Nf} {μ : Mm} (fu : Nat) (hfu : 300 ≤ fu) (hD : DI e nx fm A F T N) (hT : TI e nx ch A F T) (hv : v < 256) (hl : WSl n μ) (hw : WTc n μ e nx ch T) (hc : DK (2 ^ e) nx c) : fX2_childOf fu (n + 264) (nI c) (nI v) μ = some (fmI (fnd T v (ch c))) := by
  have h2e := two_e hD.1.2
  have c4 := DK4 hD.1.2 hD.2.1.2 hc
  obtain ⟨w1, w2⟩ := hw.1 c hc
  have hy : ∀ y, y ∈ ch c → y < 4096 ∧ μ.1 (n + 270) y = nI (T y) ∧ T y < 2 ^ e := fun y hy => by
    obtain ⟨g1, g2, g3⟩ := (hT.1 c hc).1 y hy
    exact ⟨by have := hD.2.1.2; omega, hw.2 y g1 g2, (hD.2.2.2.2 y g1 g2).2.2.2⟩
  have hlen : (ch c).length ≤ 256 := nd_len 256 _ (hT.1 c hc).2 (fun y h => by have := (hy y h).2.2; omega)
  unfold fX2_childOf
  rw [r_ib c4 (by decide), hl.2.2.1, nI_clamp (by omega), w1, lt'_e]
  exact co_l fu hv hl (ch c) 0 fu w2 (fun y h => ⟨(hy y h).1, (hy y h).2.1, by have := (hy y h).2.2; omega⟩) (by omega) (by omega)
/-- the longest row that stands -/
theorem ln_l {nx nf sz : Nat} {fm fm' : Option Nat} {ch : Nl} {A F T N : Nf} {b : Bt} (fu : Nat) (hfu : 300 ≤ fu) (hD : DI e nx fm A F T N) (hT : TI e nx ch A F T) (hpl : pl ≤ 4096) (ho : ∀ k, k < pl → o k < 2 ^ e) : ∀ (f K c k : Nat) (μ : Mm), pl - k ≤ f → f < K → k ≤ pl → DK (2 ^ e) nx c → WSf n μ e pl o k nf sz fm' b → WTc n μ e nx ch T → ∃ μ', fX2_longest_L20 fu K (n + 264) (nI pl) (nI c) μ = some (nI (lg ch T o pl f c k).1, μ') ∧ WSf n μ' e pl o (lg ch T o pl f c k).2 nf sz fm' b ∧ WF3 n μ μ' := by
  have h2e := two_e hD.1.2
  intro f
  induction f with
  | zero =>
    intro K c k μ hf hK hk hc hS hW
    obtain ⟨K, rfl⟩ : ∃ K', K = K' + 1 := ⟨K - 1, by omega⟩
    refine ⟨μ, ?_, hS, WF3.rf⟩
    show fX2_longest_B20 (fX2_longest_L20 fu K) fu (n + 264) (nI pl) (nI c) μ = _
    unfold fX2_longest_B20
    rw [hS.2.2.2.2.2.2.2.1, if_pos (nI_le (by omega) (by omega))]
    rfl
  | succ f ih =>
    intro K c k μ hf hK hk hc hS hW
    obtain ⟨K, rfl⟩ : ∃ K', K = K' + 1 := ⟨K - 1, by omega⟩
    have er : lg ch T o pl (f + 1) c k = if k < pl then (match fnd T (o k) (ch c) with | some y => lg ch T o pl f y (k + 1) | none => (c, k)) else (c, k) := rfl
    rw [er]
    show ∃ μ', fX2_longest_B20 (fX2_longest_L20 fu K) fu (n + 264) (nI pl) (nI c) μ = some (_, μ') ∧ _
    unfold fX2_longest_B20
    have i9 := hS.2.2.2.2.2.2.2.1
    rw [i9]
    by_cases q : k < pl
    · have ok := ho k q
      rw [if_neg (nI_ge q (by omega)), if_pos q, r_ib (by omega) (by decide), hS.1.2.1, nI_clamp (by omega), hS.2.1 k q, bd_e (co_C fu hfu hD hT (by omega) hS.1 hW hc)]
      cases hq : fnd T (o k) (ch c) with
      | none =>
        rw [if_pos (show fmI none = -1 from rfl)]
        exact ⟨μ, rfl, hS, WF3.rf⟩
      | some y =>
        obtain ⟨y1, y2⟩ := fnd_s _ hq
        obtain ⟨z1, z2, z3⟩ := ch_N hD hT hc y1
        have y4 := DK4 hD.1.2 hD.2.1.2 z1
        rw [if_neg (show ¬ fmI (some y) = -1 from nI_nm1 (by omega)), nI_1, lt'_e]
        show ∃ μ', fX2_longest_L20 fu K (n + 264) (nI pl) (nI y) (si μ (n + 264) 9 (nI (k + 1))) = _ ∧ _
        have S' : WSf n (si μ (n + 264) 9 (nI (k + 1))) e pl o (k + 1) nf sz fm' b := by
          obtain ⟨i5, i6, i7, i8, i9, i10, i11⟩ := hS.2.2.2
          refine hS.si ⟨?_, ?_, ?_, ?_, si_k, ?_, ?_⟩ ⟨rfl, rfl⟩
          · rw [si_j (by decide)]; exact i5
          · rw [si_j (by decide)]; exact i6
          · rw [si_j (by decide)]; exact i7
          · rw [si_j (by decide)]; exact i8
          · rw [si_j (by decide)]; exact i10
          · rw [si_j (by decide)]; exact i11
        have w' : WF3 n μ (si μ (n + 264) 9 (nI (k + 1))) := (Ag.wi (lo := n + 264) (hi := n + 265) (by omega) (by omega)).w3 (by omega) (by omega)
        obtain ⟨μ', e', S2, w2⟩ := ih K y (k + 1) _ (by omega) (by omega) (by omega) z1 S' (hW.w3 w')
        exact ⟨μ', e', S2, w'.tr w2⟩
    · rw [if_pos (nI_le (by omega) (by omega)), if_neg q]
      exact ⟨μ, rfl, hS, WF3.rf⟩
/-- a row is told: the class -/
theorem wt_C {a nx sz p v : Nat} {ch : Nl} {A F T N : Nf} {b : Bt} {μ : Mm} (hD : DI e nx (some p) A F T N) (hT : TI e nx ch A F T) (h4 : nx < 4096) (h : WSf n μ e pl o a nx sz (some p) b) (hw : WTc n μ e nx ch T) : ∃ μ', fX2_tell (n + 264) (nI v) μ = some μ' ∧ WSf n μ' e pl o a nx sz (some p) b ∧ WTc n μ' e (nx + 1) (tch ch nx p) (u1 T nx v) ∧ WFr n μ μ' := by
  have hp := hD.2.2.1 p rfl
  have p4 := DK4 hD.1.2 hD.2.1.2 hp
  have hnx := hD.2.1.1
  have hpn : p ≠ nx := by rcases hp with q | q <;> omega
  obtain ⟨g1, g2, g3, gi⟩ := h
  obtain ⟨l0, l1, l2, l3, l4⟩ := g1
  have i7 := gi.2.2.1
  have i8 : μ.1 (n + 264) 8 = nI p := gi.2.2.2.1
  obtain ⟨μ1, x1⟩ : ∃ μ1, μ1 = si μ (n + 270) nx (nI v) := ⟨_, rfl⟩
  obtain ⟨μ2, x2⟩ : ∃ μ2, μ2 = si μ1 (n + 268) nx (-1) := ⟨_, rfl⟩
  obtain ⟨μ3, x3⟩ : ∃ μ3, μ3 = si μ2 (n + 269) nx (μ2.1 (n + 268) p) := ⟨_, rfl⟩
  obtain ⟨μ4, x4⟩ : ∃ μ4, μ4 = si μ3 (n + 268) p (nI nx) := ⟨_, rfl⟩
  have r1 : μ1.1 (n + 264) = μ.1 (n + 264) ∧ μ1.2 = μ.2 := by rw [x1]; exact ⟨si_b (by omega), rfl⟩
  have r2 : μ2.1 (n + 264) = μ.1 (n + 264) ∧ μ2.2 = μ.2 := by rw [x2]; exact ⟨by rw [si_b (by omega)]; exact r1.1, r1.2⟩
  have r3 : μ3.1 (n + 264) = μ.1 (n + 264) ∧ μ3.2 = μ.2 := by rw [x3]; exact ⟨by rw [si_b (by omega)]; exact r2.1, r2.2⟩
  have a4 : Ag μ μ4 (n + 268) (n + 271) := by
    rw [x4, x3, x2, x1]
    exact (((Ag.wi (by omega) (by omega)).nsi (by omega) (by omega)).nsi (by omega) (by omega)).nsi (by omega) (by omega)
  have c2 : μ2.1 (n + 268) p = μ.1 (n + 268) p := by rw [x2, si_j hpn, x1, si_b (by omega)]
  have w268 : μ4.1 (n + 268) = u1 (u1 (μ.1 (n + 268)) nx m1) p (nI nx) := by rw [x4, si_r, x3, si_b (by omega), x2, si_r, x1, si_b (by omega)]; rfl
  have w269 : μ4.1 (n + 269) = u1 (μ.1 (n + 269)) nx (μ.1 (n + 268) p) := by rw [x4, si_b (by omega), x3, si_r, c2, x2, si_b (by omega), x1, si_b (by omega)]
  have w270 : μ4.1 (n + 270) = u1 (μ.1 (n + 270)) nx (nI v) := by rw [x4, si_b (by omega), x3, si_b (by omega), x2, si_b (by omega), x1, si_r]
  refine ⟨μ4, ?_, ⟨by unfold WSl; rw [a4.1]; exact ⟨l0, l1, l2, l3, l4⟩, fun k hk => by rw [a4.2 _ (by omega)]; exact g2 k hk, g3.ag a4 (by omega), ?_⟩, ⟨?_, fun x h1 h2 => ?_⟩, ⟨a4.1, fun b hb => a4.2 b (by omega)⟩⟩
  · unfold fX2_tell
    rw [i7, r_ib h4 (by decide), l4, nI_clamp (by omega), lt'_e, ← x1, r1.1, r1.2, i7, r_ib h4 (by decide), l2, nI_clamp (by omega), lt'_e, ← x2, r2.1, r2.2, i8, i7, r_ib p4 (by decide), r_ib h4 (by decide), l3, l2, nI_clamp (by omega), nI_clamp (by omega), lt'_e, ← x3, r3.1, r3.2, i8, i7, r_ib p4 (by decide), l2, nI_clamp (by omega), lt'_e, ← x4]
  · unfold WSi
    rw [a4.2 (n + 264) (by omega)]
    exact gi
  · rw [w268, w269]
    exact hw.1.tell hD hT
  · rw [w270]
    by_cases q : x = nx
    · rw [q, u1_k, u1_k]
    · rw [u1_j q, u1_j q]; exact hw.2 x h1 (by omega)
/-- one code is put -/
theorem pl_C {a nx sz cl : Nat} {fm : Option Nat} {ch : Nl} {A F T N : Nf} {b : Bt} {μ : Mm} (fu : Nat) (hfu : 5000 ≤ fu) (hE : EI o pl e a nx sz cl fm ch A F T N b) (ha : a < pl) (h4 : nx < 4096) (h : WSf n μ e pl o a nx sz fm b) (hw : WTc n μ e nx ch T) : ∃ μ', fX2_putLongest fu (n + 264) (nI pl) μ = some μ' ∧ WFr n μ μ' ∧ (match fm with
    | none => WSf n μ' e pl o (lg ch T o pl pl (o a) (a + 1)).2 nx sz (some (lg ch T o pl pl (o a) (a + 1)).1) (pc b (lg ch T o pl pl (o a) (a + 1)).1 sz) ∧ WTc n μ' e nx ch T
    | some p => WSf n μ' e pl o (lg (tch ch nx p) (u1 T nx (o a)) o pl pl (o a) (a + 1)).2 (nx + 1) (szT sz nx) (some (lg (tch ch nx p) (u1 T nx (o a)) o pl pl (o a) (a + 1)).1) (pc b (lg (tch ch nx p) (u1 T nx (o a)) o pl pl (o a) (a + 1)).1 sz) ∧ WTc n μ' e (nx + 1) (tch ch nx p) (u1 T nx (o a))) := by
  have hpl := hE.2.2.2.2.1
  have hec := hE.ec
  have hsz := hE.2.2.1
  have ho := hE.2.2.2.2.2.2.1
  have hbt := hE.2.2.2.1
  have oa := ho a ha
  have h2e := two_e hE.1.1.2
  -- the search and the code, for any table
  have fin : ∀ (t0 : Int32) (nx' : Nat) (ch' : Nl) (A' F' T' N' : Nf) (fm' : Option Nat) (ν : Mm), DI e nx' fm' A' F' T' N' → TI e nx' ch' A' F' T' → (lg ch' T' o pl pl (o a) (a + 1)).1 < 2 ^ sz → WSf n ν e pl o a nx sz fm b → WTc n ν e nx' ch' T' → ∃ μ3, fX2_putLongest_L31 fu (n + 264) (nI pl) t0 ν = (if t0 = 0 then some μ3 else lt' (si μ3 (n + 264) 7 ((μ3.1 (n + 264) 7) + 1)) fun μ4 => if (μ4.1 (n + 264) 7) = (1 <<< ((μ4.1 (n + 264) 6) &&& 31)) then (if (12 : Int32) ≤ (μ4.1 (n + 264) 6) then some μ4 else lt' (si μ4 (n + 264) 6 ((μ4.1 (n + 264) 6) + 1)) fun μ5 => some μ5) else some μ4) ∧ WSf n μ3 e pl o (lg ch' T' o pl pl (o a) (a + 1)).2 nx sz (some (lg ch' T' o pl pl (o a) (a + 1)).1) (pc b (lg ch' T' o pl pl (o a) (a + 1)).1 sz) ∧ WTc n μ3 e nx' ch' T' ∧ WF3 n ν μ3 := by
    intro t0 nx' ch' A' F' T' N' fm' ν hD hT hlt hS hW
    unfold fX2_putLongest_L31 fX2_longest
    have i9 := hS.2.2.2.2.2.2.2.1
    rw [i9, r_ib (by omega) (by decide), hS.1.2.1, nI_clamp (by omega), hS.2.1 a ha, lt'_e, nI_1, lt'_e]
    have S1 : WSf n (si ν (n + 264) 9 (nI (a + 1))) e pl o (a + 1) nx sz fm b := by
      obtain ⟨i5, i6, i7, i8, i9, i10, i11⟩ := hS.2.2.2
      refine hS.si ⟨?_, ?_, ?_, ?_, si_k, ?_, ?_⟩ ⟨rfl, rfl⟩
      · rw [si_j (by decide)]; exact i5
      · rw [si_j (by decide)]; exact i6
      · rw [si_j (by decide)]; exact i7
      · rw [si_j (by decide)]; exact i8
      · rw [si_j (by decide)]; exact i10
      · rw [si_j (by decide)]; exact i11
    have w1 : WF3 n ν (si ν (n + 264) 9 (nI (a + 1))) := (Ag.wi (lo := n + 264) (hi := n + 265) (by omega) (by omega)).w3 (by omega) (by omega)
    obtain ⟨μ1, e1, S2, w2⟩ := ln_l fu (by omega) hD hT hpl.2 ho pl fu (o a) (a + 1) _ (by omega) (by omega) (by omega) (Or.inl oa) S1 (hW.w3 w1)
    generalize lg ch' T' o pl pl (o a) (a + 1) = r at *
    rw [bd_e e1]
    dsimp only
    rw [lt'_e]
    have S3 : WSf n (si μ1 (n + 264) 8 (nI r.1)) e pl o r.2 nx sz (some r.1) b := by
      obtain ⟨i5, i6, i7, i8, i9, i10, i11⟩ := S2.2.2.2
      refine S2.si ⟨?_, ?_, ?_, si_k, ?_, ?_, ?_⟩ ⟨rfl, rfl⟩
      · rw [si_j (by decide)]; exact i5
      · rw [si_j (by decide)]; exact i6
      · rw [si_j (by decide)]; exact i7
      · rw [si_j (by decide)]; exact i9
      · rw [si_j (by decide)]; exact i10
      · rw [si_j (by decide)]; exact i11
    have w3 : WF3 n μ1 (si μ1 (n + 264) 8 (nI r.1)) := (Ag.wi (lo := n + 264) (hi := n + 265) (by omega) (by omega)).w3 (by omega) (by omega)
    obtain ⟨μ3, e3, S4, w4⟩ := wc_C (c := r.1) (s2 := sz) fu (by omega) hbt hlt hsz.2.1 (by omega) S3
    have f8 : (si μ1 (n + 264) 8 (nI r.1)).1 (n + 264) 8 = nI r.1 := si_k
    have f6 : (si μ1 (n + 264) 8 (nI r.1)).1 (n + 264) 6 = nI sz := S3.2.2.2.2.1
    rw [f8, f6, bd_e e3]
    exact ⟨μ3, rfl, S4, hW.w3 (((w1.tr w2).tr w3).tr w4), ((w1.tr w2).tr w3).tr w4⟩
  unfold fX2_putLongest
  have i8 : μ.1 (n + 264) 8 = fmI fm := h.2.2.2.2.2.2.1
  rw [i8]
  cases fm with
  | none =>
    rw [if_pos (show fmI none = -1 from rfl)]
    unfold fX2_putLongest_L13
    rw [if_pos rfl]
    obtain ⟨⟨x1, x2, x3, x4⟩, x5⟩ := hE.nxt ha h4 hE.1 hE.2.1 (Or.inr rfl) sz ⟨Nat.le_refl _, hsz.2.1, hsz.2.2⟩
    obtain ⟨μ3, e3, S3, W3, w3⟩ := fin 0 nx ch A F T N none μ hE.1 hE.2.1 x1 h hw
    rw [e3, if_pos rfl]
    exact ⟨μ3, rfl, w3.r, S3, W3⟩
  | some p =>
    have hp := hE.1.2.2.1 p rfl
    have p4 := DK4 hE.1.1.2 hE.1.2.1.2 hp
    rw [if_neg (show ¬ fmI (some p) = -1 from nI_nm1 (by omega))]
    unfold fX2_putLongest_L13
    have i9 := h.2.2.2.2.2.2.2.1
    rw [if_neg (show ¬ (1 : Int32) = 0 by decide), i9, r_ib (by omega) (by decide), h.1.2.1, nI_clamp (by omega), h.2.1 a ha]
    obtain ⟨d1, d2, d3, d4, d5⟩ := hE.tl ha h4
    obtain ⟨μ1, e1, S1, W1, w1⟩ := wt_C (v := o a) hE.1 hE.2.1 h4 h hw
    rw [bd_e e1]
    obtain ⟨⟨x1, x2, x3, x4⟩, x5⟩ := hE.nxt ha h4 d1 d2 (Or.inl rfl) (szT sz nx) ⟨d3, d4, d5⟩
    obtain ⟨μ3, e3, S3, W3, w3⟩ := fin 1 (nx + 1) _ _ _ _ _ _ μ1 d1 d2 x1 S1 W1
    dsimp only
    generalize lg (tch ch nx p) (u1 T nx (o a)) o pl pl (o a) (a + 1) = r at *
    rw [e3, if_neg (show ¬ (1 : Int32) = 0 by decide)]
    obtain ⟨i5, i6, i7, i8, i9, i10, i11⟩ := S3.2.2.2
    rw [i7, nI_1, lt'_e, si_k, si_j (by decide), i6, shl1 sz (by omega), nI_1, lt'_e]
    have S4 : WSf n (si μ3 (n + 264) 7 (nI (nx + 1))) e pl o r.2 (nx + 1) sz (some r.1) (pc b r.1 sz) := by
      refine S3.si ⟨?_, ?_, si_k, ?_, ?_, ?_, ?_⟩ ⟨rfl, rfl⟩
      · rw [si_j (by decide)]; exact i5
      · rw [si_j (by decide)]; exact i6
      · rw [si_j (by decide)]; exact i8
      · rw [si_j (by decide)]; exact i9
      · rw [si_j (by decide)]; exact i10
      · rw [si_j (by decide)]; exact i11
    have w4 : WF3 n μ3 (si μ3 (n + 264) 7 (nI (nx + 1))) := (Ag.wi (lo := n + 264) (hi := n + 265) (by omega) (by omega)).w3 (by omega) (by omega)
    have h12 : 2 ^ sz ≤ 2 ^ 12 := Nat.pow_le_pow_right (by decide) hsz.2.1
    by_cases q1 : nx + 1 = 2 ^ sz
    · rw [if_pos (show nI (nx + 1) = nI (2 ^ sz) by rw [q1])]
      by_cases q2 : sz < 12
      · rw [if_neg (show ¬ (12 : Int32) ≤ nI sz from nI_ge (b := 12) q2 (by decide))]
        have es : szT sz nx = sz + 1 := by unfold szT; rw [if_pos ⟨q1, q2⟩]
        rw [es]
        have w5 : WF3 n (si μ3 (n + 264) 7 (nI (nx + 1))) (si (si μ3 (n + 264) 7 (nI (nx + 1))) (n + 264) 6 (nI (sz + 1))) := (Ag.wi (lo := n + 264) (hi := n + 265) (by omega) (by omega)).w3 (by omega) (by omega)
        refine ⟨_, rfl, w1.tr ((w3.tr w4).tr w5).r, ?_, W3.w3 (w4.tr w5)⟩
        obtain ⟨j5, j6, j7, j8, j9, j10, j11⟩ := S4.2.2.2
        refine S4.si ⟨?_, si_k, ?_, ?_, ?_, ?_, ?_⟩ ⟨rfl, rfl⟩
        · rw [si_j (by decide)]; exact j5
        · rw [si_j (by decide)]; exact j7
        · rw [si_j (by decide)]; exact j8
        · rw [si_j (by decide)]; exact j9
        · rw [si_j (by decide)]; exact j10
        · rw [si_j (by decide)]; exact j11
      · rw [if_pos (show (12 : Int32) ≤ nI sz from nI_le (a := 12) (by omega) (by omega))]
        have es : szT sz nx = sz := by unfold szT; rw [if_neg (by omega)]
        rw [es]
        exact ⟨_, rfl, w1.tr (w3.tr w4).r, S4, W3.w3 w4⟩
    · rw [if_neg (fun q => q1 ((nI_eq (by omega) (by omega)).mp q))]
      have es : szT sz nx = sz := by unfold szT; rw [if_neg (fun q => q1 q.1)]
      rw [es]
      exact ⟨_, rfl, w1.tr (w3.tr w4).r, S4, W3.w3 w4⟩
end EC2
