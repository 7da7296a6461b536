theorem ST0 (n : Nat) : STe n (Zfin n).2 := by
  show STe n (fX10_init (n + 273) (n + 274) (zN (fX9_init n (n + 1) (zN Z00 n 9)) (n + 273) 10)).2
  obtain ⟨X, x⟩ : ∃ X, X = fX9_init n (n + 1) (zN Z00 n 9) := ⟨_, rfl⟩
  have h9 := i9 (n := n) (Z := Z00)
  rw [← x] at h9 ⊢
  obtain ⟨hR, hb⟩ := i10 (y := n + 273) (Z := X)
  have e : n + 273 + 1 = n + 274 := by omega
  rw [e] at hR hb
  obtain ⟨Y, eY⟩ : ∃ Y, Y = fX10_init (n + 273) (n + 274) (zN X (n + 273) 10) := ⟨_, rfl⟩
  rw [← eY] at hR hb ⊢
  obtain ⟨h1, h2, h3, ⟨a4, b4, c4, h4⟩, ⟨a5, b5, c5, h5⟩, ⟨a6, b6, c6, h6⟩, h7, h8, h9'⟩ := h9
  refine ⟨n + 139, n + 13, n + 137, n + 271, 0, 0, 0, (fun _ => 0), (fun _ => 0), -1, -1, P0, ⟨h1.fr (hb _ (by omega)).2 (hb _ (by omega)).2 (hb _ (by omega)).2 (hb _ (by omega)).2 (hb _ (by omega)).2, h2.eqc (hb _ (by omega)).2 (hb _ (by omega)).1 (hb _ (by omega)).1, h3.eqc (hb _ (by omega)).2 (hb _ (by omega)).1 (hb _ (by omega)).1, ⟨a4, b4, c4, h4.eqc (hb _ (by omega)).2 (hb _ (by omega)).1 (hb _ (by omega)).1⟩, ⟨a5, b5, c5, h5.eqc (hb _ (by omega)).2 (hb _ (by omega)).1 (hb _ (by omega)).1⟩, ⟨a6, b6, c6, h6.eqc (hb _ (by omega)).2 (hb _ (by omega)).1 (hb _ (by omega)).1⟩, h7.eqr (fun b g1 g2 => (hb b (by omega)).2), h8.eqr (Nat.zero_le _) (fun b g1 g2 => (hb b (by omega)).2) (fun b g1 g2 => (hb b (by omega)).1), ?_⟩, hR, P0_V⟩
  rw [(hb n (by omega)).1, (hb (n + 1) (by omega)).1]
  exact h9'
