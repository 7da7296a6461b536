theorem u2_kk {α : Type} {f : Nat → Nat → α} {a k : Nat} {v : α} : u2 f a k v a k = v := by simp [u2, u1]
theorem u2_jj {α : Type} {f : Nat → Nat → α} {a k j : Nat} {v : α} (h : j ≠ k) : u2 f a k v a j = f a j := by simp [u2, u1, h]
theorem LC.sw {μ μ' : Mm} {n p d m w : Nat} (h : LC n μ p d m w) (e : μ'.2 = u2 (u2 μ.2 (n + 1) 3 p) n 3 d) : LC n μ' d p m w := by
  have k : ∀ b, b ≠ n → b ≠ n + 1 → μ'.2 b = μ.2 b := fun b h1 h2 => by rw [e, u2_o h1, u2_o h2]
  have n1 : n ≠ n + 1 := by omega
  have n2 : n + 1 ≠ n := by omega
  have k0 : ∀ j, j ≠ 3 → μ'.2 n j = μ.2 n j := fun j hj => by rw [e, u2_jj hj, u2_o n1]
  have k1 : ∀ j, j ≠ 3 → μ'.2 (n + 1) j = μ.2 (n + 1) j := fun j hj => by rw [e, u2_o n2, u2_jj hj]
  have k03 : μ'.2 n 3 = d := by rw [e, u2_kk]
  have k13 : μ'.2 (n + 1) 3 = p := by rw [e, u2_o n2, u2_kk]
  have k4 := k (n + 4) (by omega) (by omega)
  have k5 := k (n + 263) (by omega) (by omega)
  have k6 := k (n + 264) (by omega) (by omega)
  unfold LC at h ⊢
  rw [k0 0 (by decide), k0 1 (by decide), k0 2 (by decide), k03, k0 4 (by decide), k1 0 (by decide), k1 1 (by decide), k1 2 (by decide), k13, k4, k5, k6]
  exact ⟨⟨h.1.1, h.1.2.1, h.1.2.2.1, rfl, h.1.2.2.2.2⟩, ⟨h.2.1.1, h.2.1.2.1, h.2.1.2.2.1, rfl⟩, h.2.2.1, h.2.2.2.1, h.2.2.2.2.1, h.2.2.2.2.2.1.elim (fun q => Or.inr ⟨q.2, q.1⟩) (fun q => Or.inl ⟨q.2, q.1⟩), h.2.2.2.2.2.2⟩
theorem LPi.eqr {μ μ' : Mm} {p : Nat} (h : LPi μ p) (e : ∀ b, p ≤ b → b < p + 124 → μ'.2 b = μ.2 b) : LPi μ' p := by
  obtain ⟨h1, h2, h3, h4⟩ := h
  refine ⟨by rw [e p (by omega) (by omega)]; exact h1, by rw [e p (by omega) (by omega)]; exact h2, by rw [e (p + 1) (by omega) (by omega)]; exact h3, fun f hf => ?_⟩
  rw [e (p + 3) (by omega) (by omega), e (p + 4 + 5 * f) (by omega) (by omega), e (p + 5 + 5 * f) (by omega) (by omega)]
  exact h4 f hf
theorem PC.eqr {p : Nat} {P : Pic} {μ μ' : Mm} (h : PC μ p P) (hc : hd P 5 ≤ 24) (hr : ∀ b, p ≤ b → b < p + 124 → μ'.2 b = μ.2 b) (hh : ∀ b, p ≤ b → b < p + 124 → μ'.1 b = μ.1 b) : PC μ' p P := by
  refine ⟨h.1.eqr hr, ?_, fun f hf => ?_⟩
  · unfold PCh
    rw [hh p (by omega) (by omega), hh (p + 1) (by omega) (by omega), hh (p + 2) (by omega) (by omega)]
    exact h.2.1
  · unfold PCf
    rw [hh _ (by omega) (by omega), hh _ (by omega) (by omega), hh _ (by omega) (by omega), hh _ (by omega) (by omega), hh _ (by omega) (by omega)]
    exact h.2.2 f hf
/-- the class reads -/
theorem read_C {μ : Mm} {n p d m w tn on L : Nat} {t o : Nf} {fk fp : Int32} {P : Pic} {z0 : Zt3} (hz0 : z0 = (0, 0, -1)) (h : SC n μ p d m w tn on t o fk fp P) (hV : VP P) (hL : L ≤ tn) (fu : Nat) (hfu : 100000 ≤ fu) : ∃ μ', fX9_read fu n (nI L) μ = some ((if (zRd t L z0).1.2.1 = 0 then nI (hd (zRd t L z0).2 5) else -1), μ') ∧ SC n μ' (if (zRd t L z0).1.2.1 = 0 then d else p) (if (zRd t L z0).1.2.1 = 0 then p else d) m w 0 on t o (nI (zRd t L z0).1.2.1) (zRd t L z0).1.2.2 (if (zRd t L z0).1.2.1 = 0 then (zRd t L z0).2 else P) ∧ ((zRd t L z0).1.2.1 = 0 → VP (zRd t L z0).2) ∧ ∀ b, n + 273 ≤ b → μ'.1 b = μ.1 b ∧ μ'.2 b = μ.2 b := by
  obtain ⟨h1, h2, h3, ⟨a4, b4, c4, h4⟩, h5, ⟨a6, b6, c6, h6⟩, h7, h8, h9⟩ := h
  have hpd := h1.2.2.2.2.2
  have htn := h2.2.2.1
  have hB : CB n d t L tn μ := ⟨⟨h1.2.1, h1.2.2.1⟩, h7, h2, hL, by omega⟩
  obtain ⟨μ1, e1, c1, P1⟩ := parse_C hz0 hB h5 fu hfu
  generalize zRd t L z0 = Z at *
  obtain ⟨⟨k1, k2, tw, kw, ow, k3⟩, ⟨k4, k5, k6, k7⟩, k8⟩ := c1
  obtain ⟨μ2, x2⟩ : ∃ μ2, μ2 = si μ1 n 5 1 := ⟨_, rfl⟩
  have bt : BR μ2 (n + 2) t tn 0 := by
    rw [x2]
    have : BR μ1 (n + 2) t tn 0 := h2.eqc (by rw [k1]) (k2 _ (by omega) (by omega) (by omega)) (k2 _ (by omega) (by omega) (by omega))
    exact this.ag (Ag.wi (lo := n) (hi := n + 1) (by omega) (by omega)) (by omega)
  obtain ⟨bc, ac⟩ := bt.clear
  obtain ⟨μ3, x3⟩ : ∃ μ3, μ3 = fX0_clear (n + 2) μ2 := ⟨_, rfl⟩
  rw [← x3] at bc ac
  have r2 : μ2.2 = μ.2 := by rw [x2]; exact k1
  have r3 : μ3.2 = μ.2 := by rw [ac.1]; exact r2
  have q3 : ∀ b, b ≠ n → b ≠ n + 2 → b ≠ n + 3 → μ3.1 b = μ1.1 b := fun b h1 h2 h3 => by rw [ac.2 b (by omega), x2, si_b h1]
  have n5 : μ3.1 n 5 = 1 := by rw [ac.2 n (by omega), x2, si_k]
  have qo : ∀ b, b ≠ n → b ≠ n + 1 → (b < n + 2 ∨ n + 13 ≤ b) → (b < d ∨ d + 124 ≤ b) → μ3.1 b = μ.1 b := fun b g1 g2 g3 g4 => by rw [q3 b g1 (by omega) (by omega)]; exact k2 b g2 (by omega) g4
  have run : fX9_read fu n (nI L) μ = (if μ3.1 (n + 1) 9 = 0 then lt' (fX5_exchange (n + 1) (μ3.2 n 3) μ3) fun q4 => lt' (sr q4.2 n 3 q4.1) fun μ5 => some (μ5.1 (μ5.2 n 3) 4, μ5) else some ((-1), μ3)) := by
    unfold fX9_read
    rw [if_neg (nI_pos (by omega)), h1.1.1, h2.2.1, if_pos (nI_le hL (by omega)), h1.1.2.1, bd_e e1, lt'_e, ← x2, r2, h1.1.1, lt'_e, ← x3, r3, h1.1.2.1]
  rw [run, q3 (n + 1) (by omega) (by omega) (by omega), k6]
  have bm : BR μ3 m o on 0 := h3.eqc (by rw [r3]) (qo _ (by omega) (by omega) (by omega) (by omega)) (qo _ (by omega) (by omega) (by omega) (by omega))
  have bw : BR μ3 w a4 b4 c4 := h4.eqc (by rw [r3]) (qo _ (by omega) (by omega) (by omega) (by omega)) (qo _ (by omega) (by omega) (by omega) (by omega))
  have b5 : BR μ3 (n + 5) tw kw ow := k3.eqc (by rw [r3, k1]) (q3 _ (by omega) (by omega) (by omega)) (q3 _ (by omega) (by omega) (by omega))
  have b6' : BR μ3 (n + 265) a6 b6 c6 := h6.eqc (by rw [r3]) (qo _ (by omega) (by omega) (by omega) (by omega)) (qo _ (by omega) (by omega) (by omega) (by omega))
  have ft : μ3.1 (n + 1) 9 = nI Z.1.2.1 ∧ μ3.1 (n + 1) 10 = Z.1.2.2 := by rw [q3 (n + 1) (by omega) (by omega) (by omega)]; exact ⟨k6, k7⟩
  by_cases q : Z.1.2.1 = 0
  · rw [if_pos (show nI Z.1.2.1 = 0 by rw [q]; rfl)]
    obtain ⟨PN, VN⟩ := P1 q
    unfold fX5_exchange
    rw [lt'_e, lt'_e, lt'_e, lt'_e, r3, h1.1.2.2.2.1, h1.2.1.2.2.2]
    dsimp only
    obtain ⟨μ5, x5⟩ : ∃ μ5, μ5 = sr (sr μ3 (n + 1) 3 p) n 3 d := ⟨_, rfl⟩
    rw [← x5]
    have e51 : μ5.1 = μ3.1 := by rw [x5]; rfl
    have e52 : μ5.2 = u2 (u2 μ.2 (n + 1) 3 p) n 3 d := by rw [x5, ← r3]; rfl
    have e5n : μ5.2 n 3 = d := by rw [e52, u2_kk]
    have ro : ∀ b, b ≠ n → b ≠ n + 1 → μ5.2 b = μ.2 b := fun b g1 g2 => by rw [e52, u2_o g1, u2_o g2]
    have PN5 : PC μ5 d Z.2 := PN.eqr VN.2.2.2.2.1 (fun b g1 g2 => by rw [ro b (by omega) (by omega), k1]) (fun b g1 g2 => by rw [e51]; exact q3 b (by omega) (by omega) (by omega))
    rw [e5n, PN5.2.1.2.2.2.2.2.1, if_pos q, if_pos q, if_pos q, if_pos q]
    have mk : ∀ {r k : Nat} {tt : Nf} {oo : Int32}, r ≠ n → r ≠ n + 1 → BR μ3 r tt k oo → BR μ5 r tt k oo := fun g1 g2 hb => hb.eqc (by rw [ro _ g1 g2, r3]) (by rw [e51]) (by rw [e51])
    refine ⟨μ5, rfl, ⟨h1.sw e52, (mk (by omega) (by omega) bc).eqv (fun j hj => by omega), mk (by omega) (by omega) bm, ⟨a4, b4, c4, mk (by omega) (by omega) bw⟩, ⟨tw, kw, ow, mk (by omega) (by omega) b5⟩, ⟨a6, b6, c6, mk (by omega) (by omega) b6'⟩, ?_, PN5, Or.inr ⟨by rw [e51]; exact n5, by rw [e51]; exact ft.1, by rw [e51]; exact ft.2⟩⟩, fun _ => VN, fun b hb => ⟨by rw [e51]; exact qo b (by omega) (by omega) (by omega) (by omega), ro b (by omega) (by omega)⟩⟩
    exact h8.1.eqr (fun b g1 g2 => ro b (by omega) (by omega))
  · rw [if_neg (nI_ne0 (by have := k8.2; omega) (by have := k8.2; omega)), if_neg q, if_neg q, if_neg q, if_neg q]
    refine ⟨μ3, rfl, ⟨h1.fr (by rw [r3]) (by rw [r3]) (by rw [r3]) (by rw [r3]) (by rw [r3]), bc.eqv (fun j hj => by omega), bm, ⟨a4, b4, c4, bw⟩, ⟨tw, kw, ow, b5⟩, ⟨a6, b6, c6, b6'⟩, h7.eq r3, h8.lo hV.2.2.2.2.1 r3 (fun b g1 g2 => qo b (by omega) (by omega) (by omega) (by omega)), Or.inr ⟨n5, ft.1, ft.2⟩⟩, fun w => absurd w q, fun b hb => ⟨qo b (by omega) (by omega) (by omega) (by omega), by rw [r3]⟩⟩
theorem SR.hi {μ μ' : Mm} {y s tn on : Nat} {t o : Nat → Nat} {fk fp : Int32} {P : Pic} (h : SR y μ s tn on t o fk fp P) (ha : ∀ b, y ≤ b → μ'.1 b = μ.1 b ∧ μ'.2 b = μ.2 b) : SR y μ' s tn on t o fk fp P := by
  obtain ⟨h1, h2, h3, h4, h5, h6, h7⟩ := h
  have e := ha y (by omega)
  refine ⟨?_, by rw [e.1]; exact h2, ⟨by rw [e.1]; exact h3.1, fun j hj => by rw [(ha (y + 1) (by omega)).1]; exact h3.2 j hj⟩, ⟨by rw [e.1]; exact h4.1, fun j hj => by rw [(ha (y + 2) (by omega)).1]; exact h4.2 j hj⟩, by rw [e.1]; exact h5, by rw [e.1]; exact h6, ?_⟩
  · unfold LR; rw [e.2]; exact h1
  · unfold PR PRh PRf
    rw [(ha (y + 3) (by omega)).1, (ha (y + 4) (by omega)).1, (ha (y + 5) (by omega)).1, (ha (y + 6) (by omega)).1, (ha (y + 7) (by omega)).1]
    exact h7
theorem read_ok {n : Nat} {μ : Mm} (fu : Nat) (hfu : 100000 ≤ fu) (h : STe n μ) (v : Int32) : ∃ r μ1 μ2, fX9_read fu n v μ = some (r, μ1) ∧ fX10_read fu (n + 273) v μ1 = some (r, μ2) ∧ STe n μ2 := by
  have h0 := h
  obtain ⟨p, d, m, w, s, tn, on, t, o, fk, fp, P, hC, hR, hV⟩ := h
  have htn := hC.2.1.2.2.1
  by_cases q1 : v < 0
  · refine ⟨-2, μ, μ, ?_, ?_, h0⟩
    · unfold fX9_read; rw [if_pos q1]
    · unfold fX10_read; rw [if_pos q1]
  obtain ⟨L, hL, rfl⟩ := nI_of q1
  by_cases q2 : L ≤ tn
  · obtain ⟨z0, hz0⟩ : ∃ z0 : Zt3, z0 = (0, 0, -1) := ⟨_, rfl⟩
    obtain ⟨μ1, e1, C1, V1, k1⟩ := read_C hz0 hC hV q2 fu hfu
    have R1 := hR.hi k1
    obtain ⟨μ2, e2, r2, k2, R2⟩ := read_R hz0 R1 hV htn q2 fu hfu
    generalize zRd t L z0 = Z at *
    refine ⟨_, μ1, μ2, e1, e2, ?_⟩
    have VN : VP (if Z.1.2.1 = 0 then Z.2 else P) := by
      split
      · next w => exact V1 w
      · exact hV
    have R3 := R2 (by
      by_cases w : Z.1.2.1 = 0
      · exact Or.inl (V1 w)
      · exact Or.inr w)
    exact ⟨_, _, m, w, _, 0, on, t, o, _, _, _, C1.lo VN.2.2.2.2.1 r2 k2, R3, VN⟩
  · refine ⟨-2, μ, μ, ?_, ?_, h0⟩
    · unfold fX9_read
      rw [if_neg q1, hC.1.1.1, hC.2.1.2.1, if_neg (nI_ge (by omega) hL)]
    · unfold fX10_read
      rw [if_neg q1, hR.2.2.1.1, if_neg (nI_ge (by omega) hL)]
