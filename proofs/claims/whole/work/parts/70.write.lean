/-! WRITE -/
def hdL (P : Pic) : List Int32 := [71, 73, 70, 56, 57, 97, nI (hd P 0), nI (hd P 0) >>> ((8 : Int32) &&& 31), nI (hd P 1), nI (hd P 1) >>> ((8 : Int32) &&& 31), nI (mkB (hd P 2) + 112), nI (hd P 3), nI (hd P 4)]
def eHd (P : Pic) : Ot := emT (gt P) (hd P 2) (emL (fun _ => 0, 0) (hdL P))
def eW (P : Pic) : Ot := emI (eFs P (hd P 5) 0 (eHd P)) 59
theorem eHd_2 {P : Pic} (hV : VP P) : (eHd P).2 ≤ 800 := by
  unfold eHd
  rw [emT_2, emL_2]
  have h1 := tsz_le hV.2.1
  have l : (hdL P).length = 13 := rfl
  have z : ((fun _ => 0, 0) : Ot).2 = 0 := rfl
  rw [l, z]
  omega
theorem eW_2 {P : Pic} (hV : VP P) : (eW P).2 ≤ 200000 := by
  have h1 := eHd_2 hV
  have h2 := (eFs_2 hV (hd P 5) 0 (eHd P) (by omega)).2
  have hc := hV.2.2.2.2.1
  show (eFs P (hd P 5) 0 (eHd P)).2 + 1 ≤ 200000
  omega
/-- the class's screen -/
theorem scr_C {n p w : Nat} {P : Pic} {μ : Mm} (fu : Nat) (hfu : 300 ≤ fu) (hV : VP P) (hp : p = n + 13 ∨ p = n + 139) (hwn : w = n + 137 ∨ w = n + 271) (hP : PC μ p P) (hw : μ.2 (n + 263) 1 = w) (hC : CO μ w (fun _ => 0, 0)) : ∃ μ', fX6_putScreen fu (n + 263) p μ = some μ' ∧ CO μ' w (eHd P) ∧ Ag μ μ' w (w + 2) := by
  have st : ∀ (K i : Nat) (v : Int32) (ν : Mm) (S : Ot), i < 6 → sT 0 i = v → ν.2 (n + 263) 1 = w → CO ν w S → ∃ ν', fX6_putScreen_L2 fu (K + 1) (n + 263) p (nI i) ν = fX6_putScreen_L2 fu K (n + 263) p (nI (i + 1)) ν' ∧ CO ν' w (emI S v) ∧ Ag ν ν' w (w + 2) := by
    intro K i v ν S hi hv hw' hc
    obtain ⟨ν', e, c, a⟩ := hc.add v
    refine ⟨ν', ?_, c, a⟩
    show fX6_putScreen_B2 (fX6_putScreen_L2 fu K) fu (n + 263) p (nI i) ν = _
    unfold fX6_putScreen_B2
    rw [if_neg (show ¬ (6 : Int32) ≤ nI i from nI_ge (b := 6) hi (by decide)), r_ib hi (by decide), hw', nI_clamp (by omega), hv, bd_e e, lt'_e, nI_1]
  obtain ⟨K, hK⟩ : ∃ K, fu = K + 7 := ⟨fu - 7, by omega⟩
  obtain ⟨μ1, e1, c1, a1⟩ := st (K + 6) 0 71 μ _ (by decide) (by decide) hw hC
  obtain ⟨μ2, e2, c2, a2⟩ := st (K + 5) 1 73 μ1 _ (by decide) (by decide) (by rw [a1.1]; exact hw) c1
  have b2 := a1.tr a2
  obtain ⟨μ3, e3, c3, a3⟩ := st (K + 4) 2 70 μ2 _ (by decide) (by decide) (by rw [b2.1]; exact hw) c2
  have b3 := b2.tr a3
  obtain ⟨μ4, e4, c4, a4⟩ := st (K + 3) 3 56 μ3 _ (by decide) (by decide) (by rw [b3.1]; exact hw) c3
  have b4 := b3.tr a4
  obtain ⟨μ5, e5, c5, a5⟩ := st (K + 2) 4 57 μ4 _ (by decide) (by decide) (by rw [b4.1]; exact hw) c4
  have b5 := b4.tr a5
  obtain ⟨μ6, e6, c6, a6⟩ := st (K + 1) 5 97 μ5 _ (by decide) (by decide) (by rw [b5.1]; exact hw) c5
  have b6 := b5.tr a6
  obtain ⟨μ7, e7, c7, a7⟩ := c6.add2 (nI (hd P 0))
  have b7 := b6.tr a7
  obtain ⟨μ8, e8, c8, a8⟩ := c7.add2 (nI (hd P 1))
  have b8 := b7.tr a8
  obtain ⟨μ9, e9, c9, a9⟩ := c8.add (nI (mkB (hd P 2) + 112))
  have b9 := b8.tr a9
  obtain ⟨μ10, e10, c10, a10⟩ := c9.add (nI (hd P 3))
  have b10 := b9.tr a10
  obtain ⟨μ11, e11, c11, a11⟩ := c10.add (nI (hd P 4))
  have b11 := b10.tr a11
  have c11' : CO μ11 w (emL (fun _ => 0, 0) (hdL P)) := c11
  have bo : ∀ {ν : Mm}, Ag μ ν w (w + 2) → ∀ b, p ≤ b → b < p + 124 → ν.1 b = μ.1 b := fun ha b g1 g2 => ha.2 b (by omega)
  obtain ⟨p0, p1, p2, p3, p4, p5, pt⟩ := hP.2.1
  obtain ⟨μ12, e12, c12, a12⟩ := put_T (x := n + 263) (T := p + 1) (w := w) (m := hd P 2) (g := gt P) (S0 := emL (fun _ => 0, 0) (hdL P)) fu (tsz_le hV.2.1) (by omega) (by omega) fu 0 μ11 (by omega) (by have := tsz_le hV.2.1; omega) (by rw [b11.1]; exact hw) (by rw [b11.1]; exact hP.1.2.2.1) (by rw [bo b11 _ (by omega) (by omega)]; exact p2) (fun k hk => by rw [bo b11 _ (by omega) (by omega)]; exact pt k hk) c11'
  have e12' : fX6_putTable fu (n + 263) (p + 1) μ11 = some μ12 := e12
  refine ⟨μ12, ?_, c12, b11.tr a12⟩
  have mk : fX7_mark (p + 1) μ8 = nI (mkB (hd P 2)) := mk_C hV.2.1 (by rw [bo b8 _ (by omega) (by omega)]; exact p2)
  have fin : fX6_putScreen_L2 fu (K + 1) (n + 263) p (nI 6) μ6 = some μ12 := by
    show fX6_putScreen_B2 (fX6_putScreen_L2 fu K) fu (n + 263) p (nI 6) μ6 = _
    unfold fX6_putScreen_B2
    rw [if_pos (show (6 : Int32) ≤ nI 6 by decide), b6.1, hw, bo b6 _ (by omega) (by omega), p0, bd_e e7, b7.1, hw, bo b7 p (by omega) (by omega), p1, bd_e e8, b8.1, hP.1.1, mk, lt'_e, hw, show nI (mkB (hd P 2)) + 112 = nI (mkB (hd P 2) + 112) from nI_add _ 112, bd_e e9, b9.1, hw, bo b9 p (by omega) (by omega), p3, bd_e e10, b10.1, hw, bo b10 p (by omega) (by omega), p4, bd_e e11, b11.1, hP.1.1, bd_e e12']
  unfold fX6_putScreen
  have z : fX6_putScreen_L2 fu fu (n + 263) p 0 μ = fX6_putScreen_L2 fu (K + 6 + 1) (n + 263) p (nI 0) μ := by rw [show K + 6 + 1 = fu by omega]; rfl
  rw [z, e1]
  show fX6_putScreen_L2 fu (K + 5 + 1) (n + 263) p (nI 1) μ1 = _
  rw [e2]
  show fX6_putScreen_L2 fu (K + 4 + 1) (n + 263) p (nI 2) μ2 = _
  rw [e3]
  show fX6_putScreen_L2 fu (K + 3 + 1) (n + 263) p (nI 3) μ3 = _
  rw [e4]
  show fX6_putScreen_L2 fu (K + 2 + 1) (n + 263) p (nI 4) μ4 = _
  rw [e5]
  show fX6_putScreen_L2 fu (K + 1 + 1) (n + 263) p (nI 5) μ5 = _
  rw [e6]
  exact fin
theorem LC.sm {μ μ' : Mm} {n p d m w : Nat} (h : LC n μ p d m w) (e : μ'.2 = u2 (u2 μ.2 (n + 263) 1 m) n 4 w) : LC n μ' p d w m := by
  have k : ∀ b, b ≠ n → b ≠ n + 263 → μ'.2 b = μ.2 b := fun b h1 h2 => by rw [e, u2_o h1, u2_o h2]
  have n1 : n ≠ n + 263 := by omega
  have n2 : n + 263 ≠ n := by omega
  have k0 : ∀ j, j ≠ 4 → μ'.2 n j = μ.2 n j := fun j hj => by rw [e, u2_jj hj, u2_o n1]
  have k04 : μ'.2 n 4 = w := by rw [e, u2_kk]
  have k30 : μ'.2 (n + 263) 0 = μ.2 (n + 263) 0 := by rw [e, u2_o n2, u2_jj (by decide)]
  have k31 : μ'.2 (n + 263) 1 = m := by rw [e, u2_o n2, u2_kk]
  have k4 := k (n + 1) (by omega) (by omega)
  have k5 := k (n + 4) (by omega) (by omega)
  have k6 := k (n + 264) (by omega) (by omega)
  unfold LC at h ⊢
  rw [k0 0 (by decide), k0 1 (by decide), k0 2 (by decide), k0 3 (by decide), k04, k30, k31, k4, k5, k6]
  exact ⟨⟨h.1.1, h.1.2.1, h.1.2.2.1, h.1.2.2.2.1, rfl⟩, h.2.1, h.2.2.1, ⟨h.2.2.2.1.1, rfl⟩, h.2.2.2.2.1, h.2.2.2.2.2.1, h.2.2.2.2.2.2.elim (fun q => Or.inr ⟨q.2, q.1⟩) (fun q => Or.inl ⟨q.2, q.1⟩)⟩
theorem write_C {μ : Mm} {n p d m w tn on : Nat} {t o : Nf} {fk fp : Int32} {P : Pic} (h : SC n μ p d m w tn on t o fk fp P) (hV : VP P) (fu : Nat) (hfu : 5000 ≤ fu) : ∃ μ', fX9_write fu n μ = some ((if (eW P).2 ≤ 12000 then nI (eW P).2 else -1), μ') ∧ SC n μ' p d (if (eW P).2 ≤ 12000 then w else m) (if (eW P).2 ≤ 12000 then m else w) tn (if (eW P).2 ≤ 12000 then (eW P).2 else on) t (if (eW P).2 ≤ 12000 then (eW P).1 else o) fk fp P ∧ ∀ b, n + 273 ≤ b → μ'.1 b = μ.1 b ∧ μ'.2 b = μ.2 b := by
  obtain ⟨h1, h2, h3, ⟨a4, b4, c4, h4⟩, ⟨a5, b5, c5, h5⟩, h6, h7, h8, h9⟩ := h
  have hpd := h1.2.2.2.2.2
  have hc := hV.2.2.2.2.1
  have hp : p = n + 13 ∨ p = n + 139 := by omega
  have hwn : w = n + 137 ∨ w = n + 271 := by omega
  have hw : μ.2 (n + 263) 1 = w := h1.2.2.2.1.2
  have hw0 : μ.2 (n + 263) 0 = n + 264 := h1.2.2.2.1.1
  have hl : WSl n μ := h1.2.2.2.2.1
  obtain ⟨bc, ac⟩ := h4.clear
  obtain ⟨μ1, x1⟩ : ∃ μ1, μ1 = fX0_clear w μ := ⟨_, rfl⟩
  rw [← x1] at bc ac
  have r1 := ac.1
  have C1 : CO μ1 w (fun _ => 0, 0) := by
    unfold CO
    have z : min ((fun _ => 0, 0) : Ot).2 12000 = 0 := rfl
    rw [z, if_pos (show ((fun _ => 0, 0) : Ot).2 ≤ 12000 from Nat.zero_le _)]
    exact bc.eqv (fun j hj => by omega)
  have P1 : PC μ1 p P := h8.lo hc r1 (fun b g1 g2 => ac.2 b (by omega))
  obtain ⟨μ2, e2, c2, a2⟩ := scr_C fu (by omega) hV hp hwn P1 (by rw [r1]; exact hw) C1
  have b2 := ac.tr a2
  have r2 := b2.1
  obtain ⟨a6, b6, c6, h6⟩ := h6
  obtain ⟨r, μ3, S', e3, k3, b3, c3, g1, g2⟩ := cm_l fu hfu hV hp hwn (hd P 5) fu 0 μ2 (eHd P) (by omega) (by omega) (h8.lo hc r2 (fun b g1 g2 => b2.2 b (by omega))) (by rw [r2]; exact hw) (by rw [r2]; exact hw0) (by unfold WSl; rw [r2]; exact hl) ⟨a6, b6, c6, h6.ag b2 (by omega)⟩ c2
  have e3' : fX6_compose fu (n + 263) p μ = some (r, μ3) := by
    unfold fX6_compose
    rw [hw, lt'_e, ← x1, bd_e e2]
    exact e3
  have k : KW n w μ μ3 := b2.kw.tr k3
  have r3 : μ3.2 = μ.2 := k.1
  have ro : ∀ b, (b < n + 264 ∨ n + 271 ≤ b) → b ≠ w → b ≠ w + 1 → μ3.1 b = μ.1 b := k.2
  have mkB' : ∀ {x j : Nat} {tt : Nf} {oo : Int32}, BR μ x tt j oo → (x + 1 < n + 264 ∨ n + 271 ≤ x) → x ≠ w → x + 1 ≠ w → x ≠ w + 1 → BR μ3 x tt j oo := fun hb g1 g2 g3 g4 => hb.eqc (by rw [r3]) (ro _ (by omega) (by omega) (by omega)) (ro _ (by omega) (by omega) (by omega))
  have T3 : BR μ3 (n + 2) t tn 0 := mkB' h2 (by omega) (by omega) (by omega) (by omega)
  have M3 : BR μ3 m o on 0 := mkB' h3 (by omega) (by omega) (by omega) (by omega)
  have B5 : BR μ3 (n + 5) a5 b5 c5 := mkB' h5 (by omega) (by omega) (by omega) (by omega)
  have P3 : PC μ3 p P := h8.lo hc r3 (fun b g1 g2 => ro b (by omega) (by omega) (by omega))
  have n3 : μ3.1 n = μ.1 n := ro n (by omega) (by omega) (by omega)
  have n31 : μ3.1 (n + 1) = μ.1 (n + 1) := ro (n + 1) (by omega) (by omega) (by omega)
  unfold fX9_write
  rw [h1.1.2.2.1, h1.1.2.2.2.1, bd_e e3']
  have g1' : (eW P).2 ≤ 12000 → r = 1 ∧ S' = eW P := g1
  have g2' : ¬ (eW P).2 ≤ 12000 → r = 0 := g2
  dsimp only
  generalize eW P = Z at *
  by_cases q : Z.2 ≤ 12000
  · obtain ⟨q1, q2⟩ := g1' q
    rw [if_neg (show ¬ r = 0 by rw [q1]; decide), if_pos q, if_pos q, if_pos q, if_pos q, if_pos q]
    unfold fX6_exchange
    rw [lt'_e, lt'_e, lt'_e, lt'_e, r3, h1.1.2.2.1, h1.1.2.2.2.2, hw]
    dsimp only
    obtain ⟨μ5, x5⟩ : ∃ μ5, μ5 = sr (sr μ3 (n + 263) 1 m) n 4 w := ⟨_, rfl⟩
    rw [← x5]
    have e51 : μ5.1 = μ3.1 := by rw [x5]; rfl
    have e52 : μ5.2 = u2 (u2 μ.2 (n + 263) 1 m) n 4 w := by rw [x5, ← r3]; rfl
    have e5n : μ5.2 n 4 = w := by rw [e52, u2_kk]
    have rr : ∀ b, b ≠ n → b ≠ n + 263 → μ5.2 b = μ.2 b := fun b g1 g2 => by rw [e52, u2_o g1, u2_o g2]
    have W3 : BR μ3 w Z.1 Z.2 0 := by
      rw [q2] at c3
      unfold CO at c3
      rw [Nat.min_eq_left q, if_pos q] at c3
      exact c3
    have mk : ∀ {x j : Nat} {tt : Nf} {oo : Int32}, x ≠ n → x ≠ n + 263 → BR μ3 x tt j oo → BR μ5 x tt j oo := fun g1 g2 hb => hb.eqc (by rw [rr _ g1 g2, r3]) (by rw [e51]) (by rw [e51])
    rw [e5n, e51, W3.2.1]
    obtain ⟨a7, b7, c7, h7'⟩ := b3
    refine ⟨μ5, rfl, ⟨h1.sm e52, mk (by omega) (by omega) T3, mk (by omega) (by omega) W3, ⟨_, _, _, mk (by omega) (by omega) M3⟩, ⟨_, _, _, mk (by omega) (by omega) B5⟩, ⟨_, _, _, mk (by omega) (by omega) h7'⟩, h7.eqr (fun b g1 g2 => rr b (by omega) (by omega)), P3.eqr hc (fun b g1 g2 => by rw [rr b (by omega) (by omega), r3]) (fun b _ _ => by rw [e51]), ?_⟩, fun b hb => ⟨by rw [e51]; exact ro b (by omega) (by omega) (by omega), rr b (by omega) (by omega)⟩⟩
    rw [e51, n3, n31]
    exact h9
  · rw [if_pos (g2' q), if_neg q, if_neg q, if_neg q, if_neg q, if_neg q]
    unfold CO at c3
    refine ⟨μ3, rfl, ⟨h1.fr (by rw [r3]) (by rw [r3]) (by rw [r3]) (by rw [r3]) (by rw [r3]), T3, M3, ⟨_, _, _, c3⟩, ⟨_, _, _, B5⟩, b3, h7.eq r3, P3, ?_⟩, fun b hb => ⟨ro b (by omega) (by omega) (by omega), by rw [r3]⟩⟩
    rw [n3, n31]
    exact h9
