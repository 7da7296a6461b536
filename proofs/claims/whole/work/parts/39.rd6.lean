/-! extensions: the reference -/
def RFx (y : Nat) (μ μ' : Mm) : Prop := μ'.2 = μ.2 ∧ (∀ b, b ≠ y → μ'.1 b = μ.1 b) ∧ ∀ k, k ≠ 4 → k ≠ 5 → k ≠ 12 → (k < 16 ∨ 20 < k) → μ'.1 y k = μ.1 y k
theorem RFr.x {y : Nat} {μ μ' : Mm} (h : RFr y μ μ') : RFx y μ μ' := ⟨h.1, h.2.1, fun k a b c _ => h.2.2 k a b c⟩
theorem RFx.tr {y : Nat} {μ μ1 μ2 : Mm} (h : RFx y μ μ1) (h1 : RFx y μ1 μ2) : RFx y μ μ2 := ⟨h1.1.trans h.1, fun b hb => (h1.2.1 b hb).trans (h.2.1 b hb), fun k a b c d => (h1.2.2 k a b c d).trans (h.2.2 k a b c d)⟩
theorem RFx.wi {y k : Nat} {v : Int32} {μ : Mm} (h : 16 ≤ k ∧ k ≤ 20) : RFx y μ (si μ y k v) := ⟨rfl, fun b hb => si_b hb, fun j _ _ _ hj => si_j (by omega)⟩
theorem PDR.r {y : Nat} {μ μ' : Mm} {p : Pd} (h : PDR y μ p) (hf : RFr y μ μ') : PDR y μ' p := by
  unfold PDR
  rw [hf.2.2 16 (by decide) (by decide) (by decide), hf.2.2 17 (by decide) (by decide) (by decide), hf.2.2 18 (by decide) (by decide) (by decide), hf.2.2 19 (by decide) (by decide) (by decide), hf.2.2 20 (by decide) (by decide) (by decide)]
  exact h
section ER
variable {y s L tn : Nat} {t : Nat → Nat} {μ0 : Mm}
theorem fg_R {μ : Mm} {z : Zt3} (h : RS y s L μ0 μ z) : RS y s L μ0 (fX10_forget y μ) z ∧ RFx y μ (fX10_forget y μ) ∧ PDR y (fX10_forget y μ) pd0 := by
  unfold fX10_forget
  simp only [lt'_e]
  refine ⟨((((h.wi (by omega)).wi (by omega)).wi (by omega)).wi (by omega)).wi (by omega), ((((RFx.wi (by omega)).tr (RFx.wi (by omega))).tr (RFx.wi (by omega))).tr (RFx.wi (by omega))).tr (RFx.wi (by omega)), ?_, ?_, ?_, ?_, ?_⟩
  · rw [si_j (by decide), si_j (by decide), si_j (by decide), si_j (by decide), si_k]; rfl
  · rw [si_j (by decide), si_j (by decide), si_j (by decide), si_k]; rfl
  · rw [si_j (by decide), si_j (by decide), si_k]; rfl
  · rw [si_j (by decide), si_k]; rfl
  · rw [si_k]; rfl
theorem skip_R {μ : Mm} {z : Zt3} (hB : RBs y s t L tn μ0) (fu : Nat) {m : Nat} {kk : Int32} (hkk : kk = nI m) (hm : m ≤ 255) (hfu : 300 ≤ fu) (h : RS y s L μ0 μ z) : ∃ μ', fX10_skip fu y kk μ = some μ' ∧ RS y s L μ0 μ' (zS t L m z) ∧ RFr y μ μ' := by
  subst hkk
  have := sk_R hB fu (m := m) hm fu 0 μ z (by omega) (by omega) h
  rw [Nat.sub_zero] at this
  exact this
theorem xt_R {μ : Mm} {z : Zt3} {p : Pd} (hB : RBs y s t L tn μ0) (fu : Nat) (hfu : 13000 ≤ fu) (h : RS y s L μ0 μ z) (hp : PDR y μ p) (hpo : PdO p) : ∃ μ', fX10_readMore fu y μ = some μ' ∧ RS y s L μ0 μ' (zX t L z p).1 ∧ RFx y μ μ' ∧ PDR y μ' (zX t L z p).2 := by
  obtain ⟨μ1, e1, c1, f1⟩ := on_R hB h
  obtain ⟨b, eb⟩ : ∃ b, b = (zB t L z).1 := ⟨_, rfl⟩
  have hb : b < 256 := by rw [eb]; exact zB_b hB.ht
  have p1 : PDR y μ1 p := hp.r f1
  have hp7 : μ1.1 y 16 = nI p.1 := p1.1
  have hpo1 := hpo.1
  have refu : ∃ μ', fX10_readMore_L179 fu y (nI z.1) μ1 = some μ' ∧ RS y s L μ0 μ' (zW 4 (nI z.1) (zB t L z).2) ∧ RFx y μ μ' ∧ PDR y μ' p := by
    obtain ⟨g1, g2⟩ := wr_R (k := 4) (kk := 4) (v := nI z.1) c1 rfl (by decide)
    exact ⟨_, rfl, g1, (f1.tr g2).x, p1.r g2⟩
  unfold fX10_readMore zX
  rw [← eb] at e1 ⊢
  rw [lt'_e, bd_e e1, lt'_e, h.2.1.1]
  dsimp only
  rw [hp7]
  by_cases q1 : b = 1
  · rw [if_neg (show ¬ nI b = 249 by rw [q1]; decide), if_pos q1]
    unfold fX10_readMore_L97
    rw [if_pos (show nI b = 1 by rw [q1]; rfl)]
    obtain ⟨μ2, e2, c2, f2⟩ := ln_R (k := 12) (kk := 12) hB c1 rfl (by decide)
    obtain ⟨μ3, e3, c3, f3⟩ := skip_R hB fu (m := 12) (kk := 12) rfl (by decide) (by omega) c2
    obtain ⟨μ4, e4, c4, f4⟩ := rw_R hB fu hfu c3
    obtain ⟨c5, f5, p5⟩ := fg_R c4
    rw [bd_e e2, bd_e e3, bd_e e4, lt'_e]
    dsimp only
    exact ⟨_, rfl, c5, (((f1.tr f2).tr f3).tr f4).x.tr f5, p5⟩
  rw [if_neg q1]
  by_cases q2 : b = 249
  · rw [if_pos (show nI b = 249 by rw [q2]; rfl)]
    by_cases qw : p.1 = 0
    · rw [if_pos (show nI p.1 = 0 by rw [qw]; rfl), if_pos ⟨q2, qw⟩]
      obtain ⟨μ2, e2, c2, f2⟩ := ln_R (k := 4) (kk := 4) hB c1 rfl (by decide)
      obtain ⟨μ3, e3, c3, f3⟩ := on_R hB c2
      obtain ⟨μ4, e4, c4, f4⟩ := tw_R hB c3
      have c4' := c4.wi (a := y) (k := 19) (v := nI (zTw t L (zB t L (zE t L 4 (zB t L z).2)).2).1) (by omega)
      obtain ⟨μ5, e5, c5, f5⟩ := on_R hB c4'
      obtain ⟨μ6, e6, c6, f6⟩ := ln_R (k := 0) (kk := 0) hB c5 rfl (by decide)
      obtain ⟨B, eB⟩ : ∃ B, B = ctB t L (zB t L z).2 := ⟨_, rfl⟩
      obtain ⟨T, eT⟩ : ∃ T, T = ctT t L (zB t L z).2 := ⟨_, rfl⟩
      obtain ⟨D, eD⟩ : ∃ D, D = ctD t L (zB t L z).2 := ⟨_, rfl⟩
      have hB8 : B < 256 := by rw [eB]; exact zB_b hB.ht
      have e3' : fX10_one y μ2 = some (nI B, μ3) := by rw [eB]; exact e3
      have e4' : fX10_two y μ3 = some (nI D, μ4) := by rw [eD]; exact e4
      have e5' : fX10_one y (si μ4 y 19 (nI D)) = some (nI T, μ5) := by rw [eD, eT]; exact e5
      obtain ⟨b1, b2, b3, b4⟩ := bits_dec _ hB8
      have cP : ctP t L (zB t L z).2 = (1, B / 4 % 8, (if B % 2 = 0 then -1 else nI T), D, B / 2 % 2) := by rw [eB, eT, eD]; rfl
      have cZ : ctZ5 t L (zB t L z).2 = zE t L 0 (zB t L (zTw t L (zB t L (zE t L 4 (zB t L z).2)).2).2).2 := rfl
      rw [cP]
      have c6' : RS y s L μ0 μ6 (ctZ5 t L (zB t L z).2) := by rw [cZ]; exact c6
      have h19 : μ6.1 y 19 = nI D := by rw [f6.2.2 19 (by decide) (by decide) (by decide), f5.2.2 19 (by decide) (by decide) (by decide), si_k, eD]; rfl
      have f06 : RFx y μ μ6 := ((((f1.tr f2).tr f3).tr f4).x.tr (RFx.wi (by omega))).tr (f5.tr f6).x
      rw [bd_e e2, bd_e e3']
      dsimp only
      rw [lt'_e, bd_e e4', lt'_e]
      dsimp only
      rw [bd_e e5', lt'_e]
      dsimp only
      rw [bd_e e6, b1, b2, b3, lt'_e, lt'_e, lt'_e]
      have fin : ∀ x : Int32, RS y s L μ0 (si (si (si (si μ6 y 16 1) y 17 (nI (B / 4 % 8))) y 20 (nI (B / 2 % 2))) y 18 x) (ctZ5 t L (zB t L z).2) ∧ RFx y μ (si (si (si (si μ6 y 16 1) y 17 (nI (B / 4 % 8))) y 20 (nI (B / 2 % 2))) y 18 x) ∧ PDR y (si (si (si (si μ6 y 16 1) y 17 (nI (B / 4 % 8))) y 20 (nI (B / 2 % 2))) y 18 x) (1, B / 4 % 8, x, D, B / 2 % 2) := by
        intro x
        refine ⟨(((c6'.wi (by omega)).wi (by omega)).wi (by omega)).wi (by omega), (((f06.tr (RFx.wi (by omega))).tr (RFx.wi (by omega))).tr (RFx.wi (by omega))).tr (RFx.wi (by omega)), ?_, ?_, si_k, ?_, ?_⟩
        · rw [si_j (by decide), si_j (by decide), si_j (by decide), si_k]; rfl
        · rw [si_j (by decide), si_j (by decide), si_k]
        · rw [si_j (by decide), si_j (by decide), si_j (by decide), si_j (by decide)]; exact h19
        · rw [si_j (by decide), si_k]
      by_cases q : B % 2 = 0
      · rw [if_neg (show ¬ nI (B % 2) = 1 by rw [q]; decide), if_pos q, lt'_e]
        obtain ⟨g1, g2, g3⟩ := fin (-1)
        exact ⟨_, rfl, g1, g2, g3⟩
      · have q' : B % 2 = 1 := by omega
        rw [if_pos (show nI (B % 2) = 1 by rw [q']; rfl), if_neg q, lt'_e]
        obtain ⟨g1, g2, g3⟩ := fin (nI T)
        exact ⟨_, rfl, g1, g2, g3⟩
    · rw [if_neg (show ¬ nI p.1 = 0 from nI_ne0 (by omega) (by omega)), if_neg (show ¬ (b = 249 ∧ p.1 = 0) from fun q => qw q.2), if_neg (show ¬ (b = 254 ∧ p.1 = 0) from fun q => qw q.2), if_neg (show ¬ (b = 255 ∧ p.1 = 0) from fun q => qw q.2)]
      unfold fX10_readMore_L97
      rw [if_neg (nI_nl (v := 1) rfl q1 (by omega) (by decide)), if_neg (show ¬ nI b = 254 by rw [q2]; decide), if_neg (show ¬ nI b = 255 by rw [q2]; decide)]
      dsimp only
      exact refu
  rw [if_neg (nI_nl (v := 249) rfl q2 (by omega) (by decide)), if_neg (show ¬ (b = 249 ∧ p.1 = 0) from fun q => q2 q.1)]
  unfold fX10_readMore_L97
  rw [if_neg (nI_nl (v := 1) rfl q1 (by omega) (by decide))]
  unfold fX10_readMore_L139
  rw [hp7]
  by_cases qw : p.1 = 0
  · rw [if_pos (show nI p.1 = 0 by rw [qw]; rfl)]
    by_cases q3 : b = 254
    · rw [if_pos (show nI b = 254 by rw [q3]; rfl), if_neg (show ¬ nI b = 255 by rw [q3]; decide), if_pos ⟨q3, qw⟩]
      unfold fX10_readMore_L159 fX10_readMore_L172
      rw [if_neg (show ¬ nI b = 255 by rw [q3]; decide)]
      obtain ⟨μ2, e2, c2, f2⟩ := rw_R hB fu hfu c1
      rw [bd_e e2]
      dsimp only
      exact ⟨μ2, rfl, c2, (f1.tr f2).x, p1.r f2⟩
    rw [if_neg (nI_nl (v := 254) rfl q3 (by omega) (by decide)), if_neg (show ¬ (b = 254 ∧ p.1 = 0) from fun q => q3 q.1)]
    by_cases q4 : b = 255
    · rw [if_pos (show nI b = 255 by rw [q4]; rfl), if_pos (show nI b = 255 by rw [q4]; rfl), if_pos ⟨q4, qw⟩]
      obtain ⟨μ2, e2, c2, f2⟩ := ln_R (k := 11) (kk := 11) hB c1 rfl (by decide)
      obtain ⟨μ3, e3, c3, f3⟩ := skip_R hB fu (m := 11) (kk := 11) rfl (by decide) (by omega) c2
      obtain ⟨μ4, e4, c4, f4⟩ := rw_R hB fu hfu c3
      unfold fX10_readMore_L159 fX10_readMore_L172
      rw [bd_e e2, if_pos (show nI b = 255 by rw [q4]; rfl), bd_e e3, bd_e e4]
      dsimp only
      exact ⟨μ4, rfl, c4, (((f1.tr f2).tr f3).tr f4).x, ((p1.r (f2.tr f3)).r f4)⟩
    rw [if_neg (nI_nl (v := 255) rfl q4 (by omega) (by decide)), if_neg (show ¬ (b = 255 ∧ p.1 = 0) from fun q => q4 q.1)]
    dsimp only
    exact refu
  · rw [if_neg (show ¬ nI p.1 = 0 from nI_ne0 (by omega) (by omega)), if_neg (show ¬ (b = 254 ∧ p.1 = 0) from fun q => qw q.2), if_neg (show ¬ (b = 255 ∧ p.1 = 0) from fun q => qw q.2)]
    have el2 : ∀ (c : Prop) [Decidable c] (z : Option Mm), (if c then z else z) = z := fun c _ z => by split <;> rfl
    rw [el2, el2]
    dsimp only
    exact refu
end ER
/-! the head: the stream's first bytes, the screen -/
def zMs (t : Nat → Nat) (L k : Nat) (z : Zt3) : Zt3 := if (zB t L z).1 = k then (zB t L z).2 else zW 1 0 (zB t L z).2
def zV (t : Nat → Nat) (L : Nat) (z : Zt3) : Zt3 := if (zB t L z).1 = 55 ∨ (zB t L z).1 = 57 then (zB t L z).2 else zW 1 0 (zB t L z).2
def zOld (t : Nat → Nat) (L : Nat) (z : Zt3) : Nat := if (zB t L z).1 = 55 then 1 else 0
def zQ4 (t : Nat → Nat) (L : Nat) (z : Zt3) : Zt3 := zMs t L 56 (zMs t L 70 (zMs t L 73 (zMs t L 71 z)))
def zQ6 (t : Nat → Nat) (L : Nat) (z : Zt3) : Zt3 := zMs t L 97 (zV t L (zQ4 t L z))
theorem zMs_o {t : Nat → Nat} {L k : Nat} {z : Zt3} (h : zO L z) : zO L (zMs t L k z) := by
  unfold zMs
  split
  · exact zB_o h
  · exact zW_o (zB_o h) (by decide)
theorem zMs_l {t : Nat → Nat} {L k : Nat} {z : Zt3} (h : (zMs t L k z).2.1 = 0) : z.2.1 = 0 ∧ (zMs t L k z).1 = z.1 + 1 ∧ (zMs t L k z).2.2 = z.2.2 := by
  unfold zMs at h ⊢
  by_cases c : (zB t L z).1 = k
  · rw [if_pos c] at h ⊢
    obtain ⟨h1, h2, h3, h4, h5⟩ := zB_l h
    exact ⟨h1, h3, h5⟩
  · rw [if_neg c] at h
    exact absurd h (zW_l (by decide))
theorem zV_l {t : Nat → Nat} {L : Nat} {z : Zt3} (h : (zV t L z).2.1 = 0) : z.2.1 = 0 ∧ (zV t L z).1 = z.1 + 1 ∧ (zV t L z).2.2 = z.2.2 := by
  unfold zV at h ⊢
  by_cases c : (zB t L z).1 = 55 ∨ (zB t L z).1 = 57
  · rw [if_pos c] at h ⊢
    obtain ⟨h1, h2, h3, h4, h5⟩ := zB_l h
    exact ⟨h1, h3, h5⟩
  · rw [if_neg c] at h
    exact absurd h (zW_l (by decide))
theorem zQ6_l {t : Nat → Nat} {L : Nat} {z : Zt3} (h : (zQ6 t L z).2.1 = 0) : z.2.1 = 0 ∧ (zQ6 t L z).1 = z.1 + 6 ∧ (zQ6 t L z).2.2 = z.2.2 := by
  unfold zQ6 zQ4 at h ⊢
  obtain ⟨a1, a2, a3⟩ := zMs_l h
  obtain ⟨b1, b2, b3⟩ := zV_l a1
  obtain ⟨c1, c2, c3⟩ := zMs_l b1
  obtain ⟨d1, d2, d3⟩ := zMs_l c1
  obtain ⟨e1, e2, e3⟩ := zMs_l d1
  obtain ⟨g1, g2, g3⟩ := zMs_l e1
  exact ⟨g1, by omega, by rw [a3, b3, c3, d3, e3, g3]⟩
/-- a side of the screen -/
def zSd (t : Nat → Nat) (L : Nat) (p : Int32) (z : Zt3) : Zt3 := if 1 ≤ (zTw t L z).1 ∧ (zTw t L z).1 ≤ 64 then (zTw t L z).2 else zW 3 p (zTw t L z).2
theorem zTw_l {t : Nat → Nat} {L : Nat} {z : Zt3} (h : (zTw t L z).2.2.1 = 0) : z.2.1 = 0 ∧ (zTw t L z).2.1 = z.1 + 2 ∧ (zTw t L z).2.2.2 = z.2.2 := by
  unfold zTw at h ⊢
  obtain ⟨a1, a2, a3, a4, a5⟩ := zB_l h
  obtain ⟨b1, b2, b3, b4, b5⟩ := zB_l a1
  refine ⟨b1, ?_, ?_⟩
  · show (zB t L (zB t L z).2).2.1 = _
    omega
  · show (zB t L (zB t L z).2).2.2.2 = _
    rw [a5, b5]
theorem zSd_l {t : Nat → Nat} {L : Nat} {p : Int32} {z : Zt3} (h : (zSd t L p z).2.1 = 0) : z.2.1 = 0 ∧ (zSd t L p z).1 = z.1 + 2 ∧ (zSd t L p z).2.2 = z.2.2 ∧ 1 ≤ (zTw t L z).1 ∧ (zTw t L z).1 ≤ 64 := by
  unfold zSd at h ⊢
  by_cases c : 1 ≤ (zTw t L z).1 ∧ (zTw t L z).1 ≤ 64
  · rw [if_pos c] at h ⊢
    obtain ⟨h1, h2, h3⟩ := zTw_l h
    exact ⟨h1, h2, h3, c.1, c.2⟩
  · rw [if_neg c] at h
    exact absurd h (zW_l (by decide))
theorem zSd_c {t : Nat → Nat} {L : Nat} {p q : Int32} {z : Zt3} (h : z.2.1 = 0 → p = q) : zSd t L p z = zSd t L q z := by
  unfold zSd
  by_cases c : 1 ≤ (zTw t L z).1 ∧ (zTw t L z).1 ≤ 64
  · rw [if_pos c, if_pos c]
  · rw [if_neg c, if_neg c]
    unfold zW
    by_cases c2 : (zTw t L z).2.2.1 = 0
    · rw [if_pos c2, if_pos c2, h (zTw_l c2).1]
    · rw [if_neg c2, if_neg c2]
def mkS (b : Nat) : Nat := if b < 128 then 0 else 2 ^ (b % 8 + 1)
theorem mk_dec : ∀ b, b < 256 → fX7_sizeByMark (nI b) = nI (mkS b) ∧ (b < 128 ∨ ((2 : Int32) <<< ((nI b &&& 7) &&& 31)) = nI (mkS b)) ∧ mkS b ≤ 256 ∧ (mkS b = 0 ∨ mkS b = 2 ∨ mkS b = 4 ∨ mkS b = 8 ∨ mkS b = 16 ∨ mkS b = 32 ∨ mkS b = 64 ∨ mkS b = 128 ∨ mkS b = 256) := by decide +kernel
/-- the head's numbers -/
def hW (t : Nat → Nat) (L : Nat) (z : Zt3) : Nat := (zTw t L (zQ6 t L z)).1
def zQ8 (t : Nat → Nat) (L : Nat) (z : Zt3) : Zt3 := zSd t L 6 (zQ6 t L z)
def hH (t : Nat → Nat) (L : Nat) (z : Zt3) : Nat := (zTw t L (zQ8 t L z)).1
def zQ10 (t : Nat → Nat) (L : Nat) (z : Zt3) : Zt3 := zSd t L 8 (zQ8 t L z)
def hM (t : Nat → Nat) (L : Nat) (z : Zt3) : Nat := (zB t L (zQ10 t L z)).1
def hB' (t : Nat → Nat) (L : Nat) (z : Zt3) : Nat := (zB t L (zB t L (zQ10 t L z)).2).1
def hA (t : Nat → Nat) (L : Nat) (z : Zt3) : Nat := (zB t L (zB t L (zB t L (zQ10 t L z)).2).2).1
def zQ13 (t : Nat → Nat) (L : Nat) (z : Zt3) : Zt3 := (zB t L (zB t L (zB t L (zQ10 t L z)).2).2).2
def zHd (t : Nat → Nat) (L : Nat) (z : Zt3) : Zt3 := zS t L (3 * mkS (hM t L z)) (zQ13 t L z)
def gP (W H G B As : Nat) (g : Nat → Int32) : Pic := (fun k => match k with | 0 => W | 1 => H | 2 => G | 3 => B | 4 => As | _ => 0, g, fun _ _ => 0, fun _ => 0, fun _ _ => 0, fun _ _ => 0)
theorem gP_C {μ' : Mm} {p W H G B As : Nat} {g : Nat → Int32} (hl : LPi μ' p) (h : μ'.1 p 0 = nI W ∧ μ'.1 p 1 = nI H ∧ μ'.1 (p + 1) 1 = nI G ∧ μ'.1 p 2 = nI B ∧ μ'.1 p 3 = nI As ∧ μ'.1 p 4 = nI 0) (hg : ∀ k, k < G → μ'.1 (p + 2) k = g k) : PC μ' p (gP W H G B As g) :=
  ⟨hl, ⟨h.1, h.2.1, h.2.2.1, h.2.2.2.1, h.2.2.2.2.1, h.2.2.2.2.2, hg⟩, fun f hf => absurd hf (Nat.not_lt_zero f)⟩
theorem gP_R {μ' : Mm} {y s W H G B As : Nat} {g : Nat → Int32} (h : μ'.1 (y + 3) (6 * s) = nI W ∧ μ'.1 (y + 3) (6 * s + 1) = nI H ∧ μ'.1 (y + 3) (6 * s + 2) = nI G ∧ μ'.1 (y + 3) (6 * s + 3) = nI B ∧ μ'.1 (y + 3) (6 * s + 4) = nI As ∧ μ'.1 (y + 3) (6 * s + 5) = nI 0) (hg : ∀ k, k < G → μ'.1 (y + 4) (256 * s + k) = g k) : PR μ' y s (gP W H G B As g) := by
  refine ⟨⟨fun k hk => ?_, hg⟩, fun f hf => absurd hf (Nat.not_lt_zero f)⟩
  rcases (show k = 0 ∨ k = 1 ∨ k = 2 ∨ k = 3 ∨ k = 4 ∨ k = 5 by omega) with rfl | rfl | rfl | rfl | rfl | rfl
  · exact h.1
  · exact h.2.1
  · exact h.2.2.1
  · exact h.2.2.2.1
  · exact h.2.2.2.2.1
  · exact h.2.2.2.2.2
theorem gP_V {W H G B As : Nat} {g : Nat → Int32} (hW : 1 ≤ W ∧ W ≤ 64) (hH : 1 ≤ H ∧ H ≤ 64) (hG : tsz G) (hB : B < 256) (hA : As < 256) : VP (gP W H G B As g) := ⟨⟨hW.1, hW.2, hH.1, hH.2⟩, hG, hB, hA, Nat.zero_le _, fun f hf => absurd hf (Nat.not_lt_zero f)⟩
/-- the picture that the head tells -/
def pHd (t : Nat → Nat) (L : Nat) (z : Zt3) : Pic := gP (hW t L z) (hH t L z) (mkS (hM t L z)) (hB' t L z) (hA t L z) (fun k => tbC t 13 k)
theorem zHd_l {t : Nat → Nat} {L : Nat} {z : Zt3} (hz : z.1 = 0) (ht : ∀ j, j < L → t j < 256) (h : (zHd t L z).2.1 = 0) : (zQ13 t L z).2.1 = 0 ∧ (zQ13 t L z).1 = 13 ∧ VP (pHd t L z) ∧ (zHd t L z).2.2 = z.2.2 ∧ (zQ10 t L z).2.1 = 0 := by
  unfold zHd at h ⊢
  obtain ⟨a1, a2, a3, a4⟩ := zS_l _ _ h
  have a1' := a1
  unfold zQ13 at a1'
  obtain ⟨b1, b2, b3, b4, b5⟩ := zB_l a1'
  obtain ⟨c1, c2, c3, c4, c5⟩ := zB_l b1
  obtain ⟨d1, d2, d3, d4, d5⟩ := zB_l c1
  have d1' := d1
  unfold zQ10 at d1'
  obtain ⟨e1, e2, e3, e4, e5⟩ := zSd_l d1'
  have e1' := e1
  unfold zQ8 at e1'
  obtain ⟨g1, g2, g3, g4, g5⟩ := zSd_l e1'
  obtain ⟨k1, k2, k3⟩ := zQ6_l g1
  have n8 : (zQ8 t L z).1 = (zQ6 t L z).1 + 2 := by unfold zQ8; exact g2
  have n10 : (zQ10 t L z).1 = (zQ8 t L z).1 + 2 := by unfold zQ10; exact e2
  have n13 : (zQ13 t L z).1 = 13 := by
    unfold zQ13
    omega
  refine ⟨a1, n13, gP_V ⟨g4, g5⟩ ⟨e4, e5⟩ (mk_dec _ (zB_b ht)).2.2.2 (zB_b ht) (zB_b ht), ?_, d1⟩
  have m10 : (zQ10 t L z).2.2 = (zQ8 t L z).2.2 := by unfold zQ10; exact e3
  have m8 : (zQ8 t L z).2.2 = (zQ6 t L z).2.2 := by unfold zQ8; exact g3
  rw [a4]
  unfold zQ13
  rw [b5, c5, d5, m10, m8, k3]
