/-! THE STATE: a picture as numbers, how the class holds it, how the reference does -/
abbrev Pic : Type := (Nat → Nat) × (Nat → Int32) × (Nat → Nat → Nat) × (Nat → Int32) × (Nat → Nat → Int32) × (Nat → Nat → Nat)
abbrev hd (P : Pic) : Nat → Nat := P.1
abbrev gt (P : Pic) : Nat → Int32 := P.2.1
abbrev fx (P : Pic) : Nat → Nat → Nat := P.2.2.1
abbrev tr (P : Pic) : Nat → Int32 := P.2.2.2.1
abbrev lt (P : Pic) : Nat → Nat → Int32 := P.2.2.2.2.1
abbrev ix (P : Pic) : Nat → Nat → Nat := P.2.2.2.2.2
/-- the memory is the same outside of the cells lo .. hi - 1, references too -/
def Fr (μ μ' : Mm) (lo hi : Nat) : Prop := ∀ b, b < lo ∨ hi ≤ b → μ'.1 b = μ.1 b ∧ μ'.2 b = μ.2 b
theorem Ag.fr {μ μ' : Mm} {lo hi lo' hi' : Nat} (h : Ag μ μ' lo hi) (h1 : lo' ≤ lo) (h2 : hi ≤ hi') : Fr μ μ' lo' hi' := fun b hb => ⟨h.2 b (by omega), by rw [h.1]⟩
theorem Fr.rf {μ : Mm} {lo hi : Nat} : Fr μ μ lo hi := fun _ _ => ⟨rfl, rfl⟩
theorem Fr.tr {μ μ1 μ2 : Mm} {lo hi : Nat} (h : Fr μ μ1 lo hi) (h1 : Fr μ1 μ2 lo hi) : Fr μ μ2 lo hi := fun b hb => ⟨(h1 b hb).1.trans (h b hb).1, (h1 b hb).2.trans (h b hb).2⟩
theorem Fr.up {μ μ1 : Mm} {lo hi lo' hi' : Nat} (h : Fr μ μ1 lo hi) (h1 : lo' ≤ lo) (h2 : hi ≤ hi') : Fr μ μ1 lo' hi' := fun b hb => h b (by omega)
theorem Fr.wr {μ : Mm} {a k v lo hi : Nat} (h1 : lo ≤ a) (h2 : a < hi) : Fr μ ((μ.1, u2 μ.2 a k v)) lo hi := fun b hb => ⟨rfl, u2_o (by omega)⟩
theorem BR.fr {μ μ' : Mm} {r k lo hi : Nat} {t : Nat → Nat} {o : Int32} (h : BR μ r t k o) (ha : Fr μ μ' lo hi) (hr : r + 2 ≤ lo ∨ hi ≤ r) : BR μ' r t k o := by
  obtain ⟨h1, h2, h3, h4, h5⟩ := h
  have e0 := ha r (by omega)
  have e1 := ha (r + 1) (by omega)
  exact ⟨by rw [e0.2]; exact h1, by rw [e0.1]; exact h2, h3, by rw [e0.1]; exact h4, fun j hj => by rw [e1.1]; exact h5 j hj⟩
theorem RB.fr {μ μ' : Mm} {a k lo hi : Nat} {t : Nat → Nat} (h : RB μ a t k) (ha : Fr μ μ' lo hi) (hr : a < lo ∨ hi ≤ a) : RB μ' a t k := fun j hj => by rw [(ha a hr).1]; exact h j hj
/-! the class's picture at p (123 cells) -/
def LPi (μ : Mm) (p : Nat) : Prop := μ.2 p 5 = p + 1 ∧ μ.2 p 6 = p + 3 ∧ μ.2 (p + 1) 0 = p + 2 ∧ ∀ f, f < 24 → μ.2 (p + 3) f = p + 4 + 5 * f ∧ μ.2 (p + 4 + 5 * f) 5 = p + 5 + 5 * f ∧ μ.2 (p + 4 + 5 * f) 6 = p + 7 + 5 * f ∧ μ.2 (p + 4 + 5 * f) 7 = p + 8 + 5 * f ∧ μ.2 (p + 5 + 5 * f) 0 = p + 6 + 5 * f
theorem LPi.fr {μ μ' : Mm} {p lo hi : Nat} (h : LPi μ p) (ha : Fr μ μ' lo hi) (hp : p + 124 ≤ lo ∨ hi ≤ p) : LPi μ' p := by
  obtain ⟨h1, h2, h3, h4⟩ := h
  refine ⟨by rw [(ha p (by omega)).2]; exact h1, by rw [(ha p (by omega)).2]; exact h2, by rw [(ha (p + 1) (by omega)).2]; exact h3, fun f hf => ?_⟩
  rw [(ha (p + 3) (by omega)).2, (ha (p + 4 + 5 * f) (by omega)).2, (ha (p + 5 + 5 * f) (by omega)).2]
  exact h4 f hf
theorem LPi.eq {μ μ' : Mm} {p : Nat} (h : LPi μ p) (e : μ'.2 = μ.2) : LPi μ' p := by unfold LPi; rw [e]; exact h
def PCh (μ : Mm) (p : Nat) (P : Pic) : Prop := μ.1 p 0 = nI (hd P 0) ∧ μ.1 p 1 = nI (hd P 1) ∧ μ.1 (p + 1) 1 = nI (hd P 2) ∧ μ.1 p 2 = nI (hd P 3) ∧ μ.1 p 3 = nI (hd P 4) ∧ μ.1 p 4 = nI (hd P 5) ∧ ∀ k, k < hd P 2 → μ.1 (p + 2) k = gt P k
def PCf (μ : Mm) (p : Nat) (P : Pic) (f : Nat) : Prop :=
  (μ.1 (p + 4 + 5 * f) 0 = nI (fx P f 0) ∧ μ.1 (p + 4 + 5 * f) 1 = nI (fx P f 1) ∧ μ.1 (p + 4 + 5 * f) 2 = nI (fx P f 2) ∧ μ.1 (p + 4 + 5 * f) 3 = nI (fx P f 3) ∧ μ.1 (p + 4 + 5 * f) 4 = nI (fx P f 5)) ∧
  (μ.1 (p + 5 + 5 * f) 1 = nI (fx P f 4) ∧ ∀ k, k < fx P f 4 → μ.1 (p + 6 + 5 * f) k = lt P f k) ∧
  (μ.1 (p + 7 + 5 * f) 0 = nI (fx P f 6) ∧ μ.1 (p + 7 + 5 * f) 1 = tr P f ∧ μ.1 (p + 7 + 5 * f) 2 = nI (fx P f 8) ∧ μ.1 (p + 7 + 5 * f) 3 = nI (fx P f 9)) ∧
  ∀ i, i < fx P f 2 * fx P f 3 → μ.1 (p + 8 + 5 * f) i = nI (ix P f i)
def PC (μ : Mm) (p : Nat) (P : Pic) : Prop := LPi μ p ∧ PCh μ p P ∧ ∀ f, f < hd P 5 → PCf μ p P f
theorem PCh.fr {μ μ' : Mm} {p lo hi : Nat} {P : Pic} (h : PCh μ p P) (ha : Fr μ μ' lo hi) (hp : p + 3 ≤ lo ∨ hi ≤ p) : PCh μ' p P := by
  unfold PCh
  rw [(ha p (by omega)).1, (ha (p + 1) (by omega)).1, (ha (p + 2) (by omega)).1]
  exact h
theorem PCf.fr {μ μ' : Mm} {p f lo hi : Nat} {P : Pic} (h : PCf μ p P f) (ha : Fr μ μ' lo hi) (hp : p + 9 + 5 * f ≤ lo ∨ hi ≤ p + 4 + 5 * f) : PCf μ' p P f := by
  unfold PCf
  rw [(ha (p + 4 + 5 * f) (by omega)).1, (ha (p + 5 + 5 * f) (by omega)).1, (ha (p + 6 + 5 * f) (by omega)).1, (ha (p + 7 + 5 * f) (by omega)).1, (ha (p + 8 + 5 * f) (by omega)).1]
  exact h
theorem PC.fr {μ μ' : Mm} {p lo hi : Nat} {P : Pic} (h : PC μ p P) (ha : Fr μ μ' lo hi) (hp : p + 124 ≤ lo ∨ hi ≤ p) (hc : hd P 5 ≤ 24) : PC μ' p P := ⟨h.1.fr ha hp, h.2.1.fr ha (by omega), fun f hf => (h.2.2 f hf).fr ha (by omega)⟩
/-! the reference's picture s, its object at y -/
def PRh (μ : Mm) (y s : Nat) (P : Pic) : Prop := (∀ k, k < 6 → μ.1 (y + 3) (6 * s + k) = nI (hd P k)) ∧ ∀ k, k < hd P 2 → μ.1 (y + 4) (256 * s + k) = gt P k
def PRf (μ : Mm) (y s : Nat) (P : Pic) (f : Nat) : Prop :=
  (∀ j, j < 10 → j ≠ 7 → μ.1 (y + 5) (240 * s + 10 * f + j) = nI (fx P f j)) ∧ μ.1 (y + 5) (240 * s + 10 * f + 7) = tr P f ∧
  (∀ k, k < fx P f 4 → μ.1 (y + 6) (6144 * s + 256 * f + k) = lt P f k) ∧ ∀ i, i < fx P f 2 * fx P f 3 → μ.1 (y + 7) (98304 * s + 4096 * f + i) = nI (ix P f i)
def PR (μ : Mm) (y s : Nat) (P : Pic) : Prop := PRh μ y s P ∧ ∀ f, f < hd P 5 → PRf μ y s P f
theorem PR.fr {μ μ' : Mm} {y s lo hi : Nat} {P : Pic} (h : PR μ y s P) (ha : Fr μ μ' lo hi) (hp : y + 8 ≤ lo ∨ hi ≤ y + 3) : PR μ' y s P := by
  unfold PR PRh PRf
  rw [(ha (y + 3) (by omega)).1, (ha (y + 4) (by omega)).1, (ha (y + 5) (by omega)).1, (ha (y + 6) (by omega)).1, (ha (y + 7) (by omega)).1]
  exact h
/-- a table's size: none, or a power of 2 from 2 to 256 -/
def tsz (k : Nat) : Prop := k = 0 ∨ k = 2 ∨ k = 4 ∨ k = 8 ∨ k = 16 ∨ k = 32 ∨ k = 64 ∨ k = 128 ∨ k = 256
theorem tsz_le {k : Nat} (h : tsz k) : k ≤ 256 := by unfold tsz at h; omega
/-- the size of a FRAME's TABLE -/
def tbs (P : Pic) (f : Nat) : Nat := if fx P f 4 = 0 then hd P 2 else fx P f 4
def VF (P : Pic) (f : Nat) : Prop := (1 ≤ fx P f 2 ∧ 1 ≤ fx P f 3 ∧ fx P f 0 + fx P f 2 ≤ hd P 0 ∧ fx P f 1 + fx P f 3 ≤ hd P 1) ∧ tsz (fx P f 4) ∧ (fx P f 5 ≤ 1 ∧ fx P f 6 < 8 ∧ fx P f 8 < 65536 ∧ fx P f 9 ≤ 1) ∧ (tr P f = -1 ∨ ∃ k, k < 256 ∧ tr P f = nI k) ∧ tbs P f ≠ 0 ∧ ∀ i, i < fx P f 2 * fx P f 3 → ix P f i < tbs P f
def VP (P : Pic) : Prop := (1 ≤ hd P 0 ∧ hd P 0 ≤ 64 ∧ 1 ≤ hd P 1 ∧ hd P 1 ≤ 64) ∧ tsz (hd P 2) ∧ hd P 3 < 256 ∧ hd P 4 < 256 ∧ hd P 5 ≤ 24 ∧ ∀ f, f < hd P 5 → VF P f
/-! all of the class, all of the reference -/
def LC (n : Nat) (μ : Mm) (p d m w : Nat) : Prop :=
  (μ.2 n 0 = n + 2 ∧ μ.2 n 1 = n + 1 ∧ μ.2 n 2 = n + 263 ∧ μ.2 n 3 = p ∧ μ.2 n 4 = m) ∧ (μ.2 (n + 1) 0 = n + 2 ∧ μ.2 (n + 1) 1 = n + 4 ∧ μ.2 (n + 1) 2 = n + 12 ∧ μ.2 (n + 1) 3 = d) ∧
  (μ.2 (n + 4) 0 = n + 5 ∧ μ.2 (n + 4) 1 = n + 7 ∧ μ.2 (n + 4) 2 = n + 8 ∧ μ.2 (n + 4) 3 = n + 9 ∧ μ.2 (n + 4) 4 = n + 10 ∧ μ.2 (n + 4) 5 = n + 11) ∧
  (μ.2 (n + 263) 0 = n + 264 ∧ μ.2 (n + 263) 1 = w) ∧ (μ.2 (n + 264) 0 = n + 265 ∧ μ.2 (n + 264) 1 = n + 267 ∧ μ.2 (n + 264) 2 = n + 268 ∧ μ.2 (n + 264) 3 = n + 269 ∧ μ.2 (n + 264) 4 = n + 270) ∧
  ((p = n + 13 ∧ d = n + 139) ∨ (p = n + 139 ∧ d = n + 13)) ∧ ((m = n + 137 ∧ w = n + 271) ∨ (m = n + 271 ∧ w = n + 137))
def SC (n : Nat) (μ : Mm) (p d m w tn on : Nat) (t o : Nat → Nat) (fk fp : Int32) (P : Pic) : Prop :=
  LC n μ p d m w ∧ BR μ (n + 2) t tn 0 ∧ BR μ m o on 0 ∧ (∃ tw kw ow, BR μ w tw kw ow) ∧ (∃ tw kw ow, BR μ (n + 5) tw kw ow) ∧ (∃ tw kw ow, BR μ (n + 265) tw kw ow) ∧ LPi μ d ∧ PC μ p P ∧
  ((μ.1 n 5 = 0 ∧ fk = -1 ∧ fp = -1) ∨ (μ.1 n 5 = 1 ∧ μ.1 (n + 1) 9 = fk ∧ μ.1 (n + 1) 10 = fp))
def LR (y : Nat) (μ : Mm) : Prop := μ.2 y 0 = y + 1 ∧ μ.2 y 1 = y + 2 ∧ μ.2 y 7 = y + 3 ∧ μ.2 y 8 = y + 4 ∧ μ.2 y 9 = y + 5 ∧ μ.2 y 10 = y + 6 ∧ μ.2 y 11 = y + 7 ∧ μ.2 y 21 = y + 8 ∧ μ.2 y 24 = y + 9 ∧ μ.2 y 25 = y + 10 ∧ μ.2 y 26 = y + 11 ∧ μ.2 y 27 = y + 12 ∧ μ.2 y 35 = y + 13 ∧ μ.2 y 36 = y + 14 ∧ μ.2 y 37 = y + 15
def SR (y : Nat) (μ : Mm) (s tn on : Nat) (t o : Nat → Nat) (fk fp : Int32) (P : Pic) : Prop :=
  LR y μ ∧ (s < 2 ∧ μ.1 y 6 = nI s) ∧ (μ.1 y 2 = nI tn ∧ RB μ (y + 1) t tn) ∧ (μ.1 y 3 = nI on ∧ RB μ (y + 2) o on) ∧ μ.1 y 4 = fk ∧ μ.1 y 5 = fp ∧ PR μ y s P
theorem SR.fr {μ μ' : Mm} {y s tn on lo hi : Nat} {t o : Nat → Nat} {fk fp : Int32} {P : Pic} (h : SR y μ s tn on t o fk fp P) (ha : Fr μ μ' lo hi) (hh : hi ≤ y) : SR y μ' s tn on t o fk fp P := by
  obtain ⟨h1, h2, h3, h4, h5, h6, h7⟩ := h
  have e := ha y (by omega)
  refine ⟨?_, by rw [e.1]; exact h2, ⟨by rw [e.1]; exact h3.1, h3.2.fr ha (by omega)⟩, ⟨by rw [e.1]; exact h4.1, h4.2.fr ha (by omega)⟩, by rw [e.1]; exact h5, by rw [e.1]; exact h6, h7.fr ha (by omega)⟩
  unfold LR
  rw [e.2]
  exact h1
theorem LC.fr {μ μ' : Mm} {n p d m w : Nat} (h : LC n μ p d m w) (e0 : μ'.2 n = μ.2 n) (e1 : μ'.2 (n + 1) = μ.2 (n + 1)) (e4 : μ'.2 (n + 4) = μ.2 (n + 4)) (e5 : μ'.2 (n + 263) = μ.2 (n + 263)) (e6 : μ'.2 (n + 264) = μ.2 (n + 264)) : LC n μ' p d m w := by
  unfold LC
  rw [e0, e1, e4, e5, e6]
  exact h
theorem SC.hi {μ μ' : Mm} {n p d m w tn on lo hi : Nat} {t o : Nat → Nat} {fk fp : Int32} {P : Pic} (h : SC n μ p d m w tn on t o fk fp P) (hv : hd P 5 ≤ 24) (ha : Fr μ μ' lo hi) (hh : n + 273 ≤ lo) : SC n μ' p d m w tn on t o fk fp P := by
  obtain ⟨h1, h2, h3, ⟨a4, b4, c4, h4⟩, ⟨a5, b5, c5, h5⟩, ⟨a6, b6, c6, h6⟩, h7, h8, h9⟩ := h
  have hpd := h1.2.2.2.2.2
  refine ⟨h1.fr (ha _ (by omega)).2 (ha _ (by omega)).2 (ha _ (by omega)).2 (ha _ (by omega)).2 (ha _ (by omega)).2, h2.fr ha (by omega), h3.fr ha (by omega), ⟨a4, b4, c4, h4.fr ha (by omega)⟩, ⟨a5, b5, c5, h5.fr ha (by omega)⟩, ⟨a6, b6, c6, h6.fr ha (by omega)⟩, h7.fr ha (by omega), h8.fr ha (by omega) hv, ?_⟩
  rw [(ha n (by omega)).1, (ha (n + 1) (by omega)).1]
  exact h9
