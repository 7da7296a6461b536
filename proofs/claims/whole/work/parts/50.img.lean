/-! AN IMAGE: what it makes of a picture -/
def inv (p : Nf) (i : Nat) : Nat → Nat
  | 0 => 0
  | n + 1 => if p n = i then n else inv p i n
theorem inv_e {p : Nf} {k : Nat} : ∀ m, (∀ a b, a < m → b < m → p a = p b → a = b) → k < m → inv p (p k) m = k := by
  intro m
  induction m with
  | zero => intro _ h; omega
  | succ m ih =>
    intro hi hk
    show (if p m = p k then m else inv p (p k) m) = k
    by_cases q : p m = p k
    · rw [if_pos q]; exact hi m k (by omega) hk q
    · rw [if_neg q]
      have : k ≠ m := fun e => q (by rw [e])
      exact ih (fun a b ha hb e => hi a b (by omega) (by omega) e) (by omega)
def pX (w h il : Nat) (r : Nf) : Nf := fun i => r (inv (plM w h il) i (w * h))
theorem pX_k {w h il k : Nat} {r : Nf} (hk : k < w * h) : pX w h il r (plM w h il k) = r k := by
  unfold pX
  rw [inv_e (w * h) (fun a b ha hb e => plM_inj ha hb e) hk]
theorem pX_lt {w h il lim i : Nat} {r : Nf} (hr : ∀ k, k < w * h → r k < lim) (hi : i < w * h) : pX w h il r i < lim := by
  obtain ⟨k, hk, e⟩ := plM_sur (il := il) hi
  rw [← e, pX_k hk]
  exact hr k hk
def pGf (P : Pic) (l t w h g i : Nat) (pd : Pd) (tb : Nat → Int32) (X : Nf) : Pic := (u1 P.1 5 (hd P 5 + 1), P.2.1, s2 P.2.2.1 (hd P 5) (fun j => match j with | 0 => l | 1 => t | 2 => w | 3 => h | 4 => g | 5 => i | 6 => pd.2.1 | 8 => pd.2.2.2.1 | 9 => pd.2.2.2.2 | _ => 0), s2 P.2.2.2.1 (hd P 5) pd.2.2.1, s2 P.2.2.2.2.1 (hd P 5) tb, s2 P.2.2.2.2.2 (hd P 5) X)
theorem pGf_c {P : Pic} {l t w h g i : Nat} {pd : Pd} {tb : Nat → Int32} {X : Nf} : hd (pGf P l t w h g i pd tb X) 5 = hd P 5 + 1 := by
  show u1 P.1 5 (hd P 5 + 1) 5 = hd P 5 + 1
  exact u1_k
theorem pGf_h {P : Pic} {l t w h g i k : Nat} {pd : Pd} {tb : Nat → Int32} {X : Nf} (hk : k ≠ 5) : hd (pGf P l t w h g i pd tb X) k = hd P k := by
  show u1 P.1 5 _ k = _
  rw [u1_j hk]
theorem pGf_o {P : Pic} {l t w h g i f : Nat} {pd : Pd} {tb : Nat → Int32} {X : Nf} (hf : f ≠ hd P 5) : fx (pGf P l t w h g i pd tb X) f = fx P f ∧ tr (pGf P l t w h g i pd tb X) f = tr P f ∧ lt (pGf P l t w h g i pd tb X) f = lt P f ∧ ix (pGf P l t w h g i pd tb X) f = ix P f := ⟨s2_o hf, s2_o hf, s2_o hf, s2_o hf⟩
theorem pGf_s {P : Pic} {l t w h g i : Nat} {pd : Pd} {tb : Nat → Int32} {X : Nf} : (fx (pGf P l t w h g i pd tb X) (hd P 5) 0 = l ∧ fx (pGf P l t w h g i pd tb X) (hd P 5) 1 = t ∧ fx (pGf P l t w h g i pd tb X) (hd P 5) 2 = w ∧ fx (pGf P l t w h g i pd tb X) (hd P 5) 3 = h ∧ fx (pGf P l t w h g i pd tb X) (hd P 5) 4 = g ∧ fx (pGf P l t w h g i pd tb X) (hd P 5) 5 = i ∧ fx (pGf P l t w h g i pd tb X) (hd P 5) 6 = pd.2.1 ∧ fx (pGf P l t w h g i pd tb X) (hd P 5) 8 = pd.2.2.2.1 ∧ fx (pGf P l t w h g i pd tb X) (hd P 5) 9 = pd.2.2.2.2) ∧ tr (pGf P l t w h g i pd tb X) (hd P 5) = pd.2.2.1 ∧ lt (pGf P l t w h g i pd tb X) (hd P 5) = tb ∧ ix (pGf P l t w h g i pd tb X) (hd P 5) = X := by
  have e : fx (pGf P l t w h g i pd tb X) (hd P 5) = fun j => match j with | 0 => l | 1 => t | 2 => w | 3 => h | 4 => g | 5 => i | 6 => pd.2.1 | 8 => pd.2.2.2.1 | 9 => pd.2.2.2.2 | _ => 0 := s2_s
  rw [e]
  exact ⟨⟨rfl, rfl, rfl, rfl, rfl, rfl, rfl, rfl, rfl⟩, s2_s, s2_s, s2_s⟩
theorem pGf_V {P : Pic} {l t w h g i : Nat} {pd : Pd} {tb : Nat → Int32} {X : Nf} (hV : VP P) (hc : hd P 5 < 24) (hw : 1 ≤ w) (hh : 1 ≤ h) (hl : l + w ≤ hd P 0) (ht : t + h ≤ hd P 1) (hg : tsz g) (hi : i ≤ 1) (hgt : ¬ (g = 0 ∧ hd P 2 = 0)) (hpd : PdO pd) (hX : ∀ k, k < w * h → X k < if g = 0 then hd P 2 else g) : VP (pGf P l t w h g i pd tb X) := by
  refine ⟨?_, ?_, ?_, ?_, ?_, fun f hf => ?_⟩
  · rw [pGf_h (by decide), pGf_h (by decide)]; exact hV.1
  · rw [pGf_h (by decide)]; exact hV.2.1
  · rw [pGf_h (by decide)]; exact hV.2.2.1
  · rw [pGf_h (by decide)]; exact hV.2.2.2.1
  · rw [pGf_c]; omega
  · unfold VF tbs
    rw [pGf_h (by decide), pGf_h (by decide), pGf_h (by decide)]
    by_cases hfc : f = hd P 5
    · subst hfc
      obtain ⟨⟨s0, s1, s2, s3, s4, s5, s6, s8, s9⟩, st, sl, sx⟩ := pGf_s (P := P) (l := l) (t := t) (w := w) (h := h) (g := g) (i := i) (pd := pd) (tb := tb) (X := X)
      rw [s0, s1, s2, s3, s4, s5, s6, s8, s9, st, sx]
      have : (if g = 0 then hd P 2 else g) ≠ 0 := by split <;> omega
      exact ⟨⟨hw, hh, hl, ht⟩, hg, ⟨hi, hpd.2.1, hpd.2.2.2.1, hpd.2.2.2.2⟩, hpd.2.2.1, this, hX⟩
    · obtain ⟨o1, o2, o3, o4⟩ := pGf_o (P := P) (l := l) (t := t) (w := w) (h := h) (g := g) (i := i) (pd := pd) (tb := tb) (X := X) hfc
      rw [o1, o2, o4]
      rw [pGf_c] at hf
      exact hV.2.2.2.2.2 f (by omega)
/-- from the FRAME that was added on, the class -/
theorem pGf_C {μ μ' : Mm} {p l t w h g i : Nat} {P : Pic} {pd : Pd} {tb : Nat → Int32} {X : Nf} (hP : PC μ p (pF P l t w h g i)) (e2 : μ'.2 = μ.2) (kl : ∀ b, p ≤ b → b < p + 124 → b ≠ p + 6 + 5 * hd P 5 → b ≠ p + 7 + 5 * hd P 5 → b ≠ p + 8 + 5 * hd P 5 → μ'.1 b = μ.1 b) (hc : hd P 5 < 24)
    (f2 : ∀ k, k < g → μ'.1 (p + 6 + 5 * hd P 5) k = tb k) (f3 : μ'.1 (p + 7 + 5 * hd P 5) 0 = nI pd.2.1 ∧ μ'.1 (p + 7 + 5 * hd P 5) 1 = pd.2.2.1 ∧ μ'.1 (p + 7 + 5 * hd P 5) 2 = nI pd.2.2.2.1 ∧ μ'.1 (p + 7 + 5 * hd P 5) 3 = nI pd.2.2.2.2) (f4 : ∀ k, k < w * h → μ'.1 (p + 8 + 5 * hd P 5) k = nI (X k)) : PC μ' p (pGf P l t w h g i pd tb X) := by
  obtain ⟨⟨s0, s1, s2, s3, s4, s5, s6, s8, s9⟩, st, sl, sx⟩ := pGf_s (P := P) (l := l) (t := t) (w := w) (h := h) (g := g) (i := i) (pd := pd) (tb := tb) (X := X)
  obtain ⟨⟨a0, a1, a2, a3, a4, a5, a6, a8, a9⟩, at', al, ax⟩ := pF_s (P := P) (l := l) (t := t) (w := w) (h := h) (g := g) (i := i)
  have hF := hP.2.2 (hd P 5) (by rw [pF_c]; omega)
  unfold PCf at hF
  rw [a0, a1, a2, a3, a4, a5, a6, a8, a9] at hF
  have hH := hP.2.1
  unfold PCh at hH
  rw [pF_h (by decide), pF_h (by decide), pF_h (by decide), pF_h (by decide), pF_h (by decide), pF_c] at hH
  refine ⟨hP.1.eq e2, ?_, fun f hf => ?_⟩
  · unfold PCh
    rw [pGf_h (by decide), pGf_h (by decide), pGf_h (by decide), pGf_h (by decide), pGf_h (by decide), pGf_c, kl p (by omega) (by omega) (by omega) (by omega) (by omega), kl (p + 1) (by omega) (by omega) (by omega) (by omega) (by omega), kl (p + 2) (by omega) (by omega) (by omega) (by omega) (by omega)]
    exact hH
  · by_cases hfc : f = hd P 5
    · subst hfc
      unfold PCf
      rw [s0, s1, s2, s3, s4, s5, s6, s8, s9, st, sl, sx, kl (p + 4 + 5 * hd P 5) (by omega) (by omega) (by omega) (by omega) (by omega), kl (p + 5 + 5 * hd P 5) (by omega) (by omega) (by omega) (by omega) (by omega)]
      exact ⟨hF.1, ⟨hF.2.1.1, f2⟩, f3, f4⟩
    · obtain ⟨o1, o2, o3, o4⟩ := pGf_o (P := P) (l := l) (t := t) (w := w) (h := h) (g := g) (i := i) (pd := pd) (tb := tb) (X := X) hfc
      obtain ⟨q1, q2, q3, q4⟩ := pF_o (P := P) (l := l) (t := t) (w := w) (h := h) (g := g) (i := i) hfc
      rw [pGf_c] at hf
      have hO := hP.2.2 f (by rw [pF_c]; omega)
      unfold PCf at hO ⊢
      rw [q1, q2, q3, q4] at hO
      rw [o1, o2, o3, o4, kl _ (by omega) (by omega) (by omega) (by omega) (by omega), kl _ (by omega) (by omega) (by omega) (by omega) (by omega), kl _ (by omega) (by omega) (by omega) (by omega) (by omega), kl _ (by omega) (by omega) (by omega) (by omega) (by omega), kl _ (by omega) (by omega) (by omega) (by omega) (by omega)]
      exact hO
/-- and the reference -/
theorem pGf_R {μ μ' : Mm} {y s l t w h g i : Nat} {P : Pic} {pd : Pd} {tb : Nat → Int32} {X : Nf} (hR : PR μ y s P) (hc : hd P 5 < 24) (hwh : w * h ≤ 4096) (hg : g ≤ 256) (hVz : ∀ f, f < hd P 5 → fx P f 4 ≤ 256 ∧ fx P f 2 * fx P f 3 ≤ 4096)
    (k3 : ∀ k, k ≠ 6 * s + 5 → μ'.1 (y + 3) k = μ.1 (y + 3) k) (k3' : μ'.1 (y + 3) (6 * s + 5) = nI (hd P 5 + 1)) (k4 : μ'.1 (y + 4) = μ.1 (y + 4))
    (k5 : ∀ k, k < 240 * s + 10 * hd P 5 ∨ 240 * s + 10 * hd P 5 + 10 ≤ k → μ'.1 (y + 5) k = μ.1 (y + 5) k)
    (f5 : μ'.1 (y + 5) (240 * s + 10 * hd P 5) = nI l ∧ μ'.1 (y + 5) (240 * s + 10 * hd P 5 + 1) = nI t ∧ μ'.1 (y + 5) (240 * s + 10 * hd P 5 + 2) = nI w ∧ μ'.1 (y + 5) (240 * s + 10 * hd P 5 + 3) = nI h ∧ μ'.1 (y + 5) (240 * s + 10 * hd P 5 + 4) = nI g ∧ μ'.1 (y + 5) (240 * s + 10 * hd P 5 + 5) = nI i ∧ μ'.1 (y + 5) (240 * s + 10 * hd P 5 + 6) = nI pd.2.1 ∧ μ'.1 (y + 5) (240 * s + 10 * hd P 5 + 7) = pd.2.2.1 ∧ μ'.1 (y + 5) (240 * s + 10 * hd P 5 + 8) = nI pd.2.2.2.1 ∧ μ'.1 (y + 5) (240 * s + 10 * hd P 5 + 9) = nI pd.2.2.2.2)
    (k6 : ∀ k, k < 6144 * s + 256 * hd P 5 ∨ 6144 * s + 256 * hd P 5 + 256 ≤ k → μ'.1 (y + 6) k = μ.1 (y + 6) k) (f6 : ∀ k, k < g → μ'.1 (y + 6) (6144 * s + 256 * hd P 5 + k) = tb k)
    (k7 : ∀ k, k < 98304 * s + 4096 * hd P 5 ∨ 98304 * s + 4096 * hd P 5 + 4096 ≤ k → μ'.1 (y + 7) k = μ.1 (y + 7) k) (f7 : ∀ k, k < w * h → μ'.1 (y + 7) (98304 * s + 4096 * hd P 5 + k) = nI (X k)) : PR μ' y s (pGf P l t w h g i pd tb X) := by
  obtain ⟨⟨s0, s1, s2, s3, s4, s5, s6, s8, s9⟩, st, sl, sx⟩ := pGf_s (P := P) (l := l) (t := t) (w := w) (h := h) (g := g) (i := i) (pd := pd) (tb := tb) (X := X)
  refine ⟨⟨fun k hk => ?_, fun k hk => ?_⟩, fun f hf => ?_⟩
  · by_cases h5 : k = 5
    · subst h5
      rw [pGf_c, k3']
    · rw [pGf_h h5, k3 _ (by omega)]; exact hR.1.1 k hk
  · rw [pGf_h (by decide)] at hk
    rw [k4]; exact hR.1.2 k hk
  · by_cases hfc : f = hd P 5
    · subst hfc
      refine ⟨fun j hj h7 => ?_, ?_, fun k hk => ?_, fun k hk => ?_⟩
      · rcases (show j = 0 ∨ j = 1 ∨ j = 2 ∨ j = 3 ∨ j = 4 ∨ j = 5 ∨ j = 6 ∨ j = 8 ∨ j = 9 by omega) with rfl | rfl | rfl | rfl | rfl | rfl | rfl | rfl | rfl
        · rw [s0]; exact f5.1
        · rw [s1]; exact f5.2.1
        · rw [s2]; exact f5.2.2.1
        · rw [s3]; exact f5.2.2.2.1
        · rw [s4]; exact f5.2.2.2.2.1
        · rw [s5]; exact f5.2.2.2.2.2.1
        · rw [s6]; exact f5.2.2.2.2.2.2.1
        · rw [s8]; exact f5.2.2.2.2.2.2.2.2.1
        · rw [s9]; exact f5.2.2.2.2.2.2.2.2.2
      · rw [st]; exact f5.2.2.2.2.2.2.2.1
      · rw [s4] at hk
        rw [sl]; exact f6 k hk
      · rw [s2, s3] at hk
        rw [sx]; exact f7 k hk
    · obtain ⟨o1, o2, o3, o4⟩ := pGf_o (P := P) (l := l) (t := t) (w := w) (h := h) (g := g) (i := i) (pd := pd) (tb := tb) (X := X) hfc
      rw [pGf_c] at hf
      obtain ⟨h1, h2, h3, h4⟩ := hR.2 f (by omega)
      have hz := hVz f (by omega)
      unfold PRf
      rw [o1, o2, o3, o4]
      refine ⟨fun j hj h7 => ?_, ?_, fun k hk => ?_, fun k hk => ?_⟩
      · rw [k5 _ (by omega)]; exact h1 j hj h7
      · rw [k5 _ (by omega)]; exact h2
      · rw [k6 _ (by omega)]; exact h3 k hk
      · rw [k7 _ (by omega)]; exact h4 k hk
/-! an IMAGE, read -/
def iA5 (pl : Int32) (P : Pic) (l tp w h : Nat) (z : Zt3) : Zt3 := if hd P 5 < 24 ∧ 1 ≤ w ∧ 1 ≤ h ∧ l + w ≤ hd P 0 ∧ tp + h ≤ hd P 1 then z else zW 6 pl z
def iA7 (pl : Int32) (P : Pic) (g : Nat) (z : Zt3) : Zt3 := if g = 0 ∧ hd P 2 = 0 then zW 7 pl z else z
def iB (t : Nf) (L : Nat) (z : Zt3) : Zt3 := if 2 ≤ (zB t L z).1 ∧ (zB t L z).1 ≤ 8 then (zB t L z).2 else zW 8 (nI z.1) (zB t L z).2
def iD (t : Nf) (L pl lim : Nat) (z : Zt3) : Option Nf := (gM t L (L + 1) (iB t L z).1 0 (fun _ => 0)).bind (fun q => dA q.2.2 q.2.1 (zB t L z).1 pl lim)
def iE (t : Nf) (L pl lim : Nat) (z : Zt3) : Zt3 := if (zG t L (iB t L z)).2.1 = 0 then (if (iD t L pl lim z).isSome = true then zG t L (iB t L z) else zW 9 (nI z.1) (zG t L (iB t L z))) else zG t L (iB t L z)
def tbl (P : Pic) (g : Nat) : Nat := if g = 0 then hd P 2 else g
/-- behind the mark -/
def zJ (t : Nf) (L : Nat) (P : Pic) (pd : Pd) (l tp w h m : Nat) (z : Zt3) : Zt3 × Pic := if z.2.1 = 0 then (iE t L (w * h) (tbl P (mkS m)) (zS t L (3 * mkS m) z), pGf P l tp w h (mkS m) (m / 64 % 2) pd (fun k => tbC t z.1 k) (pX w h (m / 64 % 2) ((iD t L (w * h) (tbl P (mkS m)) (zS t L (3 * mkS m) z)).getD (fun _ => 0)))) else (z, P)
/-- behind the four numbers -/
def zK (t : Nf) (L : Nat) (pl : Int32) (P : Pic) (pd : Pd) (l tp w h : Nat) (z : Zt3) : Zt3 × Pic := zJ t L P pd l tp w h (zB t L (iA5 pl P l tp w h z)).1 (iA7 pl P (mkS (zB t L (iA5 pl P l tp w h z)).1) (zB t L (iA5 pl P l tp w h z)).2)
def zIm (t : Nf) (L : Nat) (pl : Int32) (P : Pic) (pd : Pd) (z : Zt3) : Zt3 × Pic := zK t L pl P pd (zTw t L z).1 (zTw t L (zTw t L z).2).1 (zTw t L (zTw t L (zTw t L z).2).2).1 (zTw t L (zTw t L (zTw t L (zTw t L z).2).2).2).1 (zTw t L (zTw t L (zTw t L (zTw t L z).2).2).2).2
theorem bit6 : ∀ b, b < 256 → ((nI b &&& 64 = 0) ↔ b / 64 % 2 = 0) ∧ (nI b >>> ((6 : Int32) &&& 31)) &&& 1 = nI (b / 64 % 2) := by decide +kernel
theorem iA5_l {pl : Int32} {P : Pic} {l tp w h : Nat} {z : Zt3} (hz : (iA5 pl P l tp w h z).2.1 = 0) : hd P 5 < 24 ∧ 1 ≤ w ∧ 1 ≤ h ∧ l + w ≤ hd P 0 ∧ tp + h ≤ hd P 1 := by
  unfold iA5 at hz
  split at hz
  · assumption
  · exact absurd hz (zW_l (by decide))
theorem iA7_l {pl : Int32} {P : Pic} {g : Nat} {z : Zt3} (hz : (iA7 pl P g z).2.1 = 0) : ¬ (g = 0 ∧ hd P 2 = 0) ∧ z.2.1 = 0 ∧ iA7 pl P g z = z := by
  unfold iA7 at hz ⊢
  split at hz
  · exact absurd hz (zW_l (by decide))
  · next q => exact ⟨q, hz, if_neg q⟩
/-- what stands when the FRAME may be added -/
theorem zK_l {t : Nf} {L : Nat} {pl : Int32} {P : Pic} {l tp w h : Nat} {z : Zt3} (hz : (iA7 pl P (mkS (zB t L (iA5 pl P l tp w h z)).1) (zB t L (iA5 pl P l tp w h z)).2).2.1 = 0) : hd P 5 < 24 ∧ 1 ≤ w ∧ 1 ≤ h ∧ l + w ≤ hd P 0 ∧ tp + h ≤ hd P 1 ∧ ¬ (mkS (zB t L (iA5 pl P l tp w h z)).1 = 0 ∧ hd P 2 = 0) := by
  obtain ⟨q1, q2, q3⟩ := iA7_l hz
  obtain ⟨w1, w2⟩ := zB_l q2
  obtain ⟨a, b, c, d, e⟩ := iA5_l w1
  exact ⟨a, b, c, d, e, q1⟩
