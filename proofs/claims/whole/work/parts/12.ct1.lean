/-! Picture(): a table, a row of FRAMES, 24 FRAMES in a loop -/
def lpX4 (n : Nat) (Z : Zt) : Nat → Zt
  | 0 => Z
  | f + 1 => zF (fX3_init (n + (3 + 5 * f)) (n + (3 + 5 * f) + 1) (zN (lpX4 n Z f) (n + (3 + 5 * f)) 3)) (n + 2) f (n + (3 + 5 * f))
def rsX4 (Z : Zt) (a0 : Nat) : Mm := si (si (si (si (si (si Z.2 a0 0 1) a0 1 1) a0 2 0) a0 3 0) a0 4 0) (Z.2.2 a0 5) 1 0
theorem eX4_reset (a0 : Nat) (Z : Zt) : fX4_reset 1 a0 1 1 0 0 0 Z.2 = some (rsX4 Z a0) := rfl
def fX4_init (a0 n : Nat) (Z : Zt) : Zt :=
  lt' (zN Z (n + 0) 7) fun Z1 =>
  lt' (fX7_init (n + 0) (n + 1) Z1) fun Z2 =>
  lt' (zR Z2 a0 4 32 5 (n + 0)) fun Z3 =>
  lt' (zA Z3 (n + 2) 15 0) fun Z4 =>
  lt' (zR Z4 a0 4 96 6 (n + 2)) fun Z5 =>
  lt' (lpX4 n Z5 24) fun Z6 =>
  lt' (zD Z6 (n + 2) 14 24) fun Z7 =>
  lt' (zD Z7 a0 4 0) fun Z8 =>
  lt' (zM Z8 (rsX4 Z8 a0)) fun Z9 =>
  Z9
def INV4 (Z Zf : Zt) (a0 n f : Nat) : Prop := Ev Z Zf a0 n (3 + 5 * f) ∧ PO Zf a0 4 96 (n + (3 + 5 * f)) [(5, n + 0, (7, 0))] ∧ Zf.2.2 a0 6 = n + 2 ∧ Zf.1 (n + 2) = some (15, f) ∧ ∀ j, j < f → Zf.2.2 (n + 2) j = n + (3 + 5 * j) ∧ Zf.1 (n + (3 + 5 * j)) = some (3, 0)
theorem zF_po {Z : Zt} {a0 t mk n a j v : Nat} {l : List (Nat × Nat × (Nat × Nat))} (h : PO Z a0 t mk n l) (ha : a ≠ a0) (hl : ∀ e ∈ l, e.2.1 ≠ a) : PO (zF Z a j v) a0 t mk n l := by
  obtain ⟨h1, h2, h3⟩ := h
  refine ⟨by simp only [zF]; rw [s2_o (Ne.symm ha)]; exact h1, h2, fun e he => ?_⟩
  obtain ⟨g1, g2, g3, g4⟩ := h3 e he
  exact ⟨by simp only [zF, sr]; rw [u2_o (Ne.symm ha)]; exact g1, by simp only [zF]; rw [s2_o (hl e he)]; exact g2, g3, g4⟩
set_option maxRecDepth 100000 in
theorem inv4_step {Z Zf : Zt} {a0 n f : Nat} (hlt : a0 < n) (h : INV4 Z Zf a0 n f) : INV4 Z (zF (fX3_init (n + (3 + 5 * f)) (n + (3 + 5 * f) + 1) (zN Zf (n + (3 + 5 * f)) 3)) (n + 2) f (n + (3 + 5 * f))) a0 n (f + 1) := by
  obtain ⟨hv, hp, h6, h15, hj⟩ := h
  obtain ⟨q, hq⟩ : ∃ q, q = n + (3 + 5 * f) := ⟨_, rfl⟩
  obtain ⟨Z1, e1⟩ : ∃ Z1, Z1 = zN Zf q 3 := ⟨_, rfl⟩
  obtain ⟨Z2, e2⟩ : ∃ Z2, Z2 = fX3_init q (q + 1) Z1 := ⟨_, rfl⟩
  rw [← hq, ← e1, ← e2]
  have hf1 : FrZ Zf Z1 q := by rw [e1]; exact FrZ.N (Nat.le_refl _)
  have s_q : Z1.1 q = some (20 + 3, 0) := by rw [e1]; exact s2_s
  have hv1 : Ev Z Z1 a0 n (3 + 5 * f + 1) := by rw [e1, hq]; exact hv.N (by omega)
  have hX := pX3_init s_q (show q < q + 1 by omega) e2.symm
  have hf2 : FrZ Zf Z2 q := hf1.tr hX.1.1
  have hv2 : Ev Z Z2 a0 n (3 + 5 * f + 1 + 4) := hv1.K (q := q) (by rw [show n + (3 + 5 * f + 1) = q + 1 by omega]; exact hX.1) (by omega)
  have hp2 : PO Z2 a0 4 96 (n + (3 + 5 * (f + 1))) [(5, n + 0, (7, 0))] := hp.fr (by rw [← hq]; exact hf2) (by omega)
  have g15 : Z2.1 (n + 2) = some (15, f) := by rw [(hf2 (n + 2) (by omega)).1]; exact h15
  have g6 : Z2.2.2 a0 6 = n + 2 := by rw [(hf2 a0 (by omega)).2.2]; exact h6
  refine ⟨(hv2.S (Z2 := zF Z2 (n + 2) f q) (a := n + 2) (x := (15, f + 1)) rfl (FrZ.F (by omega)) (dm_of g15)).c (by omega), zF_po hp2 (by omega) (fun e he => by simp only [List.mem_singleton] at he; rw [he]; simp), ?_, s2_s, fun j hjf => ?_⟩
  · simp only [zF, sr]; rw [u2_o (by omega)]; exact g6
  · simp only [zF, sr, u2_s, u1]
    by_cases hjj : j = f
    · subst hjj
      rw [if_pos rfl, s2_o (by omega)]
      exact ⟨hq, by rw [← hq]; exact hX.2.1⟩
    · rw [if_neg hjj, s2_o (by omega), (hf2 (n + 2) (by omega)).2.2, (hf2 (n + (3 + 5 * j)) (by omega)).1]
      exact hj j (by omega)
theorem inv4_all {Z Z5 : Zt} {a0 n : Nat} (hlt : a0 < n) (h : INV4 Z Z5 a0 n 0) : ∀ f, INV4 Z (lpX4 n Z5 f) a0 n f
  | 0 => h
  | f + 1 => inv4_step hlt (inv4_all hlt h f)
theorem FrZ.m6 {Z : Zt} {a0 q : Nat} (h : q ≤ a0) (h5 : q ≤ Z.2.2 a0 5) : FrZ Z (zM Z (rsX4 Z a0)) q := fun b hb => ⟨rfl, by simp only [zM, rsX4, si]; rw [u2_o (by omega), u2_o (by omega), u2_o (by omega), u2_o (by omega), u2_o (by omega), u2_o (by omega)], rfl⟩
set_option maxRecDepth 100000 in
theorem z4_first {a0 n : Nat} {Z Z1 Z2 Z3 Z4 Z5 : Zt} (s0 : Z.1 a0 = some (20 + 4, 0)) (hlt : a0 < n) (eZ1 : Z1 = zN Z (n + 0) 7) (eZ2 : Z2 = fX7_init (n + 0) (n + 1) Z1) (eZ3 : Z3 = zR Z2 a0 4 32 5 (n + 0)) (eZ4 : Z4 = zA Z3 (n + 2) 15 0) (eZ5 : Z5 = zR Z4 a0 4 96 6 (n + 2)) :
    Ev Z Z1 a0 n 1 ∧ Ev Z1 Z2 (n + 0) (n + 1) 1 ∧ Ev Z Z2 a0 n 2 ∧ Z2.1 (n + 0) = some (7, 0) ∧ Z2.1 a0 = some (20 + 4, 0) ∧ Ev Z Z3 a0 n 2 ∧ Ev Z Z4 a0 n 3 ∧ Z4.1 a0 = some (20 + 4, 32) ∧ INV4 Z Z5 a0 n 0 := by
  have hp : PO Z a0 4 0 (n + 0) [] := ⟨s0, by omega, fun _ h => by cases h⟩
  have hv : Ev Z Z a0 n 0 := Ev.rf
  have hf1 : FrZ Z Z1 (n + 0) := by rw [eZ1]; exact FrZ.N (Nat.le_refl _)
  have s_q : Z1.1 (n + 0) = some (20 + 7, 0) := by rw [eZ1]; exact s2_s
  have hv1 : Ev Z Z1 a0 n 1 := by rw [eZ1]; exact hv.N (by omega)
  have hX := pX7_init s_q (show n + 0 < n + 1 by omega) eZ2.symm
  have hp2 := hp.fr (Z' := Z2) (n' := n + 2) (hf1.tr hX.1.1) (by omega)
  have hv2 : Ev Z Z2 a0 n 2 := hv1.K hX.1 (by omega)
  have hv3 := hv2.S (Z2 := Z3) (a := a0) (x := (20 + 4, 32)) (by rw [eZ3]; rfl) (by rw [eZ3]; exact FrZ.R (Nat.le_refl _)) (dm_of hp2.1)
  have hp3 : PO Z3 a0 4 32 (n + 2) [(5, n + 0, (7, 0))] := by rw [eZ3]; exact hp2.r rfl hX.2.1 (by omega) (by omega)
  have hp4 := hp3.fr (Z' := Z4) (n' := n + 3) (by rw [eZ4]; exact FrZ.A (Nat.le_refl _)) (by omega)
  have hv4 : Ev Z Z4 a0 n 3 := by rw [eZ4]; exact hv3.A (by omega)
  have s_4 : Z4.1 (n + 2) = some (15, 0) := by rw [eZ4]; exact s2_s
  have hv5 := hv4.S (Z2 := Z5) (a := a0) (x := (20 + 4, 96)) (by rw [eZ5]; rfl) (by rw [eZ5]; exact FrZ.R (Nat.le_refl _)) (dm_of hp4.1)
  have hp5 : PO Z5 a0 4 96 (n + 3) [(6, n + 2, (15, 0)), (5, n + 0, (7, 0))] := by rw [eZ5]; exact hp4.r rfl s_4 (by omega) (by omega)
  exact ⟨hv1, hX.1, hv2, hX.2.1, hp2.1, hv3, hv4, hp4.1, hv5, ⟨hp5.1, hp5.2.1, fun e he => hp5.2.2 e (List.mem_cons_of_mem _ he)⟩, (hp5.2.2 (6, n + 2, (15, 0)) (by simp)).1, (hp5.2.2 (6, n + 2, (15, 0)) (by simp)).2.1, fun j hj => by omega⟩
set_option maxRecDepth 100000 in
theorem z4_last {a0 n : Nat} {Z Z6 Z7 Z8 Z9 : Zt} (hlt : a0 < n) (h : INV4 Z Z6 a0 n 24) (eZ7 : Z7 = zD Z6 (n + 2) 14 24) (eZ8 : Z8 = zD Z7 a0 4 0) (eZ9 : Z9 = zM Z8 (rsX4 Z8 a0)) :
    (∀ k, k < 24 → Z6.2.2 (n + 2) k ≠ n + 2 ∧ Z6.1 (Z6.2.2 (n + 2) k) = some (3, 0)) ∧ Z6.1 (n + 2) = some (15, 24) ∧ Ev Z Z7 a0 n 123 ∧ PO Z7 a0 4 96 (n + 123) [(6, n + 2, (14, 24)), (5, n + 0, (7, 0))] ∧ Ev Z Z8 a0 n 123 ∧ Z8.1 a0 = some (4, 0) ∧ Ev Z Z9 a0 n 123 ∧ Z9.1 a0 = some (4, 0) ∧ LK Z9 a0 [(6, n + 2, (14, 24)), (5, n + 0, (7, 0))] := by
  obtain ⟨hv, hp, h6, h15, hj⟩ := h
  have hr : ∀ k, k < 24 → Z6.2.2 (n + 2) k ≠ n + 2 ∧ Z6.1 (Z6.2.2 (n + 2) k) = some (3, 0) := fun k hk => by
    obtain ⟨g1, g2⟩ := hj k hk
    rw [g1]
    exact ⟨by omega, g2⟩
  have hv7 := hv.S (Z2 := Z7) (a := n + 2) (x := (14, 24)) (by rw [eZ7]; rfl) (by rw [eZ7]; exact FrZ.D (by omega)) (dm_of h15)
  have e5 := hp.2.2 (5, n + 0, (7, 0)) (by simp)
  have hp7 : PO Z7 a0 4 96 (n + 123) [(6, n + 2, (14, 24)), (5, n + 0, (7, 0))] := by
    refine ⟨by rw [eZ7]; simp only [zD]; rw [s2_o (by omega)]; exact hp.1, by omega, fun e he => ?_⟩
    simp only [List.mem_cons, List.not_mem_nil, or_false] at he
    rcases he with rfl | rfl
    · exact ⟨by rw [eZ7]; exact h6, by rw [eZ7]; exact s2_s, by show a0 < n + 2; omega, by show n + 2 < n + 123; omega⟩
    · exact ⟨by rw [eZ7]; exact e5.1, by rw [eZ7]; simp only [zD]; rw [s2_o (by omega)]; exact e5.2.1, e5.2.2.1, by show n + 0 < n + 123; omega⟩
  have hv8 := hv7.S (Z2 := Z8) (a := a0) (x := (4, 0)) (by rw [eZ8]; rfl) (by rw [eZ8]; exact FrZ.D (Nat.le_refl _)) (dm_of hp7.1)
  have s8 : Z8.1 a0 = some (4, 0) := by rw [eZ8]; exact s2_s
  have h5 : Z8.2.2 a0 5 = n + 0 := by rw [eZ8, eZ7]; exact e5.1
  have hv9 := hv8.M (Z2 := Z9) (by rw [eZ9]; rfl) (by rw [eZ9]; exact FrZ.m6 (Nat.le_refl _) (by omega))
  refine ⟨hr, h15, hv7, hp7, hv8, s8, hv9, by rw [eZ9]; exact s8, ?_⟩
  rw [eZ9]
  show LK Z8 a0 _
  rw [eZ8]
  exact hp7.lk
theorem pX4_init {a0 n : Nat} {Z Z' : Zt} (s0 : Z.1 a0 = some (20 + 4, 0)) (hlt : a0 < n) (h : fX4_init a0 n Z = Z') : Ev Z Z' a0 n 123 ∧ Z'.1 a0 = some (4, 0) ∧ LK Z' a0 [(6, n + 2, (14, 24)), (5, n + 0, (7, 0))] := by
  unfold fX4_init at h
  obtain ⟨Z1, eZ1, h⟩ := nm h
  obtain ⟨Z2, eZ2, h⟩ := nm h
  obtain ⟨Z3, eZ3, h⟩ := nm h
  obtain ⟨Z4, eZ4, h⟩ := nm h
  obtain ⟨Z5, eZ5, h⟩ := nm h
  obtain ⟨Z6, eZ6, h⟩ := nm h
  obtain ⟨Z7, eZ7, h⟩ := nm h
  obtain ⟨Z8, eZ8, h⟩ := nm h
  obtain ⟨Z9, eZ9, h⟩ := nm h
  subst h
  have h5 := (z4_first s0 hlt eZ1 eZ2 eZ3 eZ4 eZ5).2.2.2.2.2.2.2.2
  have h6 : INV4 Z Z6 a0 n 24 := by rw [eZ6]; exact inv4_all hlt h5 24
  have h9 := z4_last hlt h6 eZ7 eZ8 eZ9
  exact ⟨h9.2.2.2.2.2.2.1, h9.2.2.2.2.2.2.2⟩
set_option maxRecDepth 100000 in
set_option maxHeartbeats 4000000 in
theorem kX4_init {l : Launch} {D : va_G} {cA : Nat → ClassId} {tS : Nat → Nat} {A : Nat → Prop} {a0 n : Nat} {Z Z' : Zt} (hA : ∀ q, dm Z.1 q → A q) (hAn : ∀ q, n ≤ q → A q) (s0 : Z.1 a0 = some (20 + 4, 0)) (hlt : a0 < n) (h : fX4_init a0 n Z = Z') : Kt l D cA tS A yX4_init cX4_init 2 4 84 123 105066 n [.ref a0] Z Z' := by
  refine Kt.of (by decide) rfl (Nat.le_of_ble_eq_true rfl) hA (fun p e s m args below meth c hsz hin hAO C => ?_)
  unfold fX4_init at h
  obtain ⟨Z1, eZ1, h⟩ := nm h
  obtain ⟨Z2, eZ2, h⟩ := nm h
  obtain ⟨Z3, eZ3, h⟩ := nm h
  obtain ⟨Z4, eZ4, h⟩ := nm h
  obtain ⟨Z5, eZ5, h⟩ := nm h
  obtain ⟨Z6, eZ6, h⟩ := nm h
  obtain ⟨Z7, eZ7, h⟩ := nm h
  obtain ⟨Z8, eZ8, h⟩ := nm h
  obtain ⟨Z9, eZ9, h⟩ := nm h
  obtain ⟨hv1, hk2, hv2, s_r, s_2, hv3, hv4, s_4, hI5⟩ := z4_first s0 hlt eZ1 eZ2 eZ3 eZ4 eZ5
  have hI6 : INV4 Z Z6 a0 n 24 := by rw [eZ6]; exact inv4_all hlt hI5 24
  obtain ⟨hr, h15, hv7, hp7, hv8, s_8, hv9, s_9, hlk9⟩ := z4_last hlt hI6 eZ7 eZ8 eZ9
  have s_q : Z1.1 (n + 0) = some (20 + 7, 0) := by rw [eZ1]; exact s2_s
  refine g_aload_n C dX4_init_0 0 rfl ?_
  refine g_objInit C lmX4_3 ⟨by decide, by decide⟩ ⟨by decide, by decide⟩ dX4_init_1 ?_
  refine g_aload_n C dX4_init_4 0 rfl ?_
  refine g_new (t := 7) C (n + 0) (by omega) (by decide) rfl uwX7 tyX7_ok lcX4_9 wnX7 wiX7 (fun rr j hj => by rcases (show j = 0 ∨ j = 1 by omega) with rfl | rfl <;> rfl) ⟨by decide, by decide⟩ dX4_init_5 ?_
  refine g_z eZ1 ?_
  have C := C.up (hv1.A' hA hAn)
  refine g_dup C dX4_init_8 rfl ?_
  refine g_callK C hAO (by omega) (kX7_init (hv1.A' hA hAn) (fun _ _ => hAn _ (by omega)) s_q (by omega) eZ2.symm) wcX7_init wmX7_init wiX7 rfl (by decide +kernel) lmX4_11 (Nat.le_of_ble_eq_true rfl) dX4_init_9 ⟨by decide, by decide⟩ ⟨by decide, by decide⟩ ?_ ?_
  · have hd9 : dm Z2.1 (s.heap.size + 1 + 1 - 1) := hk2.2.1 _ (by omega) (by omega)
    cases hh : Z2.1 (s.heap.size + 1 + 1 - 1) with
    | none => exact absurd hh hd9
    | some x => exact ⟨x, rfl⟩
  have C := C.up (hv2.A' hA hAn)
  refine g_pRr (j := 5) (mk' := 32) C s_2 (by decide) rfl uwX4 tyX4_ok nmX4 (by decide) rfl hin rfl lfX4_12 rfl rfl rfl (fun _ _ => rfl) (fun _ _ => Nat.le_of_ble_eq_true rfl) dX4_init_12 ?_
  refine g_z eZ3 ?_
  have C := C.up (hv3.A' hA hAn)
  refine g_aload_n C dX4_init_15 0 rfl ?_
  refine g_bipush (v := 24) C dX4_init_16 (by decide) ?_
  refine g_anew C (n + 2) (by omega) lcX4_18 hAO rfl ⟨by decide, by decide⟩ dX4_init_18 ?_
  refine g_z eZ4 ?_
  have C := C.up (hv4.A' hA hAn)
  refine g_pRr (j := 6) (mk' := 96) C s_4 (by decide) rfl uwX4 tyX4_ok nmX4 (by decide) rfl hin rfl lfX4_20 rfl rfl rfl (fun _ _ => rfl) (fun _ _ => Nat.le_of_ble_eq_true rfl) dX4_init_21 ?_
  refine g_z eZ5 ?_
  have C := C.up (hI5.1.A' hA hAn)
  refine g_iconst (v := 0) C dX4_init_24 (by decide) ?_
  refine g_istore_n (lv' := [(1, .int 0), (0, .ref a0)]) C dX4_init_25 (by decide) rfl ?_
  have loop : ∀ (k f : Nat) (x : Int32), f + k = 24 → x = nI f → GG p l e { frames := 4, cells := 123, slots := 105066, locals := 84 } s m args below meth c (3 + 5 * f) (282 + 4366 * f) A D cA (lpX4 n Z5 f).1 2 (MQ below (KtQ D cA A Z') args s 123 105066 A) 26 [(1, .int x), (0, .ref a0)] [] (lpX4 n Z5 f).2 := by
    intro k
    induction k with
    | zero =>
      intro f x hf hx
      obtain rfl : f = 24 := by omega
      have C := C.up ((inv4_all hlt hI5 24).1.A' hA hAn)
      refine g_iload_n C dX4_init_26 0 rfl ?_
      refine g_bipush (v := 24) C dX4_init_27 (by decide) ?_
      refine g_icmp_ge C 51 dX4_init_29 rfl (fun q => ?_) (fun q => absurd (by rw [hx]; decide) q)
      refine g_z (Z := lpX4 n Z5 24) eZ6 ?_
      have C := C.up (hI6.1.A' hA hAn)
      refine g_doneA h15 hr (fun _ _ => trivial) ?_
      refine g_z eZ7 ?_
      have C := C.up (hv7.A' hA hAn)
      refine g_aload_n C dX4_init_51 1 rfl ?_
      refine g_iconst (v := 1) C dX4_init_52 (by decide) ?_
      refine g_iconst (v := 1) C dX4_init_53 (by decide) ?_
      refine g_iconst (v := 0) C dX4_init_54 (by decide) ?_
      refine g_iconst (v := 0) C dX4_init_55 (by decide) ?_
      refine g_iconst (v := 0) C dX4_init_56 (by decide) ?_
      refine g_done hp7.1 (by decide) (fun _ _ => rfl) (hp7.done (fun q hq => by simp only [exl, List.mem_cons, List.not_mem_nil, or_false] at hq; rcases hq with rfl | rfl; exact ⟨n + 0, by simp⟩; exact ⟨n + 2, by simp⟩)) ?_
      refine g_z eZ8 ?_
      have C := C.up (hv8.A' hA hAn)
      refine g_callVV C (kX4_reset s_8 (eX4_reset a0 Z8)) miX4_reset lmX4_25 s_8 (by decide) rfl rfl rfl (Nat.le_of_ble_eq_true rfl) dX4_init_57 ⟨by decide, by decide⟩ ⟨by decide, by decide⟩ ?_
      refine g_z (Z := zM Z8 (rsX4 Z8 a0)) eZ9 ?_
      have C := C.up (hv9.A' hA hAn)
      subst h
      exact g_kret C ⟨rfl, rfl⟩ dX4_init_60
    | succ k ih =>
      intro f x hf hx
      have hI := inv4_all hlt hI5 f
      have hI1 := inv4_all hlt hI5 (f + 1)
      obtain ⟨Zf, eZf⟩ : ∃ Zf, Zf = lpX4 n Z5 f := ⟨_, rfl⟩
      rw [← eZf] at hI ⊢
      have hstep : lpX4 n Z5 (f + 1) = zF (fX3_init (n + (3 + 5 * f)) (n + (3 + 5 * f) + 1) (zN Zf (n + (3 + 5 * f)) 3)) (n + 2) f (n + (3 + 5 * f)) := by rw [eZf]; rfl
      obtain ⟨hvf, hpf, h6, h15f, hjf⟩ := hI
      have C := C.up (hvf.A' hA hAn)
      refine g_iload_n C dX4_init_26 0 rfl ?_
      refine g_bipush (v := 24) C dX4_init_27 (by decide) ?_
      refine g_icmp_ge C 51 dX4_init_29 rfl (fun q => absurd q (by rw [hx]; exact nI_ge (a := f) (b := 24) (by omega) (by decide))) (fun q => ?_)
      refine g_aload_n C dX4_init_32 1 rfl ?_
      refine g_gRr (j := 6) C hpf.1 (by decide) rfl uwX4 (by decide) rfl lfX4_20 (fun _ _ => rfl) dX4_init_33 ?_
      refine g_topr h6.symm ?_
      refine g_iload_n C dX4_init_36 0 rfl ?_
      refine g_new (t := 3) C (n + (3 + 5 * f)) (by omega) (by decide) rfl uwX3 tyX3_ok lcX4_18 wnX3 wiX3 (fun rr j hj => by rcases (show j = 0 ∨ j = 1 ∨ j = 2 ∨ j = 3 ∨ j = 4 ∨ j = 5 ∨ j = 6 ∨ j = 7 by omega) with rfl | rfl | rfl | rfl | rfl | rfl | rfl | rfl <;> rfl) ⟨by show 3 + 5 * f + 1 ≤ 123; omega, by show 282 + 4366 * f + 8 ≤ 105066; omega⟩ dX4_init_37 ?_
      obtain ⟨Y1, eY1⟩ : ∃ Y1, Y1 = zN Zf (n + (3 + 5 * f)) 3 := ⟨_, rfl⟩
      refine g_z eY1 ?_
      have hy1 : Ev Z Y1 a0 n (3 + 5 * f + 1) := by rw [eY1]; exact hvf.N (by omega)
      have s_y : Y1.1 (n + (3 + 5 * f)) = some (20 + 3, 0) := by rw [eY1]; exact s2_s
      have C := C.up (hy1.A' hA hAn)
      refine g_dup C dX4_init_40 rfl ?_
      obtain ⟨Y2, eY2⟩ : ∃ Y2, Y2 = fX3_init (n + (3 + 5 * f)) (n + (3 + 5 * f) + 1) Y1 := ⟨_, rfl⟩
      have hX := pX3_init s_y (show n + (3 + 5 * f) < n + (3 + 5 * f) + 1 by omega) eY2.symm
      refine g_callK C hAO (by omega) (kX3_init (hy1.A' hA hAn) (fun _ _ => hAn _ (by omega)) s_y (by omega) eY2.symm) wcX3_init wmX3_init wiX3 rfl (by decide +kernel) lmX4_24 (Nat.le_of_ble_eq_true rfl) dX4_init_41 ⟨by decide, by decide⟩ ⟨by show 3 + 5 * f + 1 + 4 ≤ 123; omega, by show 282 + 4366 * f + 8 + 4358 ≤ 105066; omega⟩ ?_ ?_
      · have hd9 : dm Y2.1 (s.heap.size + (3 + 5 * f + 1) + 4 - 1) := hX.1.2.1 _ (by omega) (by omega)
        cases hh : Y2.1 (s.heap.size + (3 + 5 * f + 1) + 4 - 1) with
        | none => exact absurd hh hd9
        | some x => exact ⟨x, rfl⟩
      have hy2 : Ev Z Y2 a0 n (3 + 5 * f + 1 + 4) := hy1.K (q := n + (3 + 5 * f)) (by rw [show n + (3 + 5 * f + 1) = n + (3 + 5 * f) + 1 by omega]; exact hX.1) (by omega)
      have C := C.up (hy2.A' hA hAn)
      have g15 : Y2.1 (n + 2) = some (15, f) := by
        have hf1 : FrZ Zf Y1 (n + (3 + 5 * f)) := by rw [eY1]; exact FrZ.N (Nat.le_refl _)
        rw [((hf1.tr hX.1.1) (n + 2) (by omega)).1]; exact h15f
      refine g_aast C g15 (by omega) hx hX.2.1 dX4_init_44 ?_
      have eY3 : lpX4 n Z5 (f + 1) = zF Y2 (n + 2) f (n + (3 + 5 * f)) := by rw [hstep, ← eY1, ← eY2]
      refine g_z eY3 ?_
      have C := C.up (hI1.1.A' hA hAn)
      obtain ⟨x1, ex1⟩ : ∃ x1, x1 = x + 1 := ⟨_, rfl⟩
      refine g_iinc (v := x1) (lv' := [(1, .int x1), (0, .ref a0)]) C dX4_init_45 (by decide) 0 rfl 1 (by decide) ex1.symm rfl ?_
      refine g_goto C 26 dX4_init_48 rfl ?_
      have := ih (f + 1) x1 (by omega) (by rw [ex1, hx]; exact nI_1 f)
      rw [show 3 + 5 * (f + 1) = 3 + 5 * f + 1 + 4 by omega, show 282 + 4366 * (f + 1) = 282 + 4366 * f + 8 + 4358 by omega] at this
      exact this
  exact loop 24 0 0 (by omega) nI_0.symm

def fX5_init (a0 n : Nat) (Z : Zt) : Zt :=
  lt' (zN Z (n + 0) 0) fun Z1 =>
  lt' (fX0_init (n + 0) (n + 1) Z1) fun Z2 =>
  lt' (zR Z2 a0 5 1 0 (n + 0)) fun Z3 =>
  lt' (zN Z3 (n + 2) 1) fun Z4 =>
  lt' (fX1_init (n + 2) (n + 3) Z4) fun Z5 =>
  lt' (zR Z5 a0 5 3 1 (n + 2)) fun Z6 =>
  lt' (zN Z6 (n + 10) 8) fun Z7 =>
  lt' (fX8_init (n + 10) (n + 11) Z7) fun Z8 =>
  lt' (zR Z8 a0 5 7 2 (n + 10)) fun Z9 =>
  lt' (zN Z9 (n + 11) 4) fun Z10 =>
  lt' (fX4_init (n + 11) (n + 12) Z10) fun Z11 =>
  lt' (zR Z11 a0 5 15 3 (n + 11)) fun Z12 =>
  lt' (zI Z12 a0 9 0) fun Z13 =>
  lt' (zI Z13 a0 10 (-1)) fun Z14 =>
  lt' (zD Z14 a0 5 0) fun Z15 =>
  Z15
set_option maxRecDepth 100000 in
set_option maxHeartbeats 4000000 in
theorem pX5_init {a0 n : Nat} {Z Z' : Zt} (s0 : Z.1 a0 = some (20 + 5, 0)) (hlt : a0 < n) (h : fX5_init a0 n Z = Z') : Ev Z Z' a0 n 135 ∧ Z'.1 a0 = some (5, 0) ∧ LK Z' a0 [(3, (n + 11), (4, 0)), (2, (n + 10), (8, 0)), (1, (n + 2), (1, 0)), (0, (n + 0), (0, 0))] := by
  have hp : PO Z a0 5 0 (n + 0) [] := ⟨s0, by omega, fun _ h => by cases h⟩
  have hv : Ev Z Z a0 n 0 := Ev.rf
  unfold fX5_init at h
  obtain ⟨Z1, eZ1, h⟩ := nm h
  have hf1 : FrZ Z Z1 (n + 0) := by rw [eZ1]; exact FrZ.N (Nat.le_refl _)
  have s_q : Z1.1 (n + 0) = some (20 + 0, 0) := by rw [eZ1]; exact s2_s
  have hv : Ev Z Z1 a0 n 1 := by rw [eZ1]; exact hv.N (by omega)
  obtain ⟨Z2, eZ2, h⟩ := nm h
  have hX := pX0_init s_q (show (n + 0) < n + 1 by omega) eZ2.symm
  have hp := hp.fr (Z' := Z2) (n' := n + 2) (hf1.tr (hX.1.1)) (by omega)
  have s_r : Z2.1 (n + 0) = some (0, 0) := hX.2.1
  have hlr := hX.2.2
  have hv : Ev Z Z2 a0 n 2 := hv.K hX.1 (by omega)
  obtain ⟨Z3, eZ3, h⟩ := nm h
  have hv := hv.S (Z2 := Z3) (a := a0) (x := (20 + 5, 1)) (by rw [eZ3]; rfl) (by rw [eZ3]; exact FrZ.R (Nat.le_refl _)) (dm_of hp.1)
  have hp : PO Z3 a0 5 1 (n + 2) ((0, (n + 0), (0, 0)) :: []) := by rw [eZ3]; exact hp.r rfl s_r (by omega) (by omega)
  obtain ⟨Z4, eZ4, h⟩ := nm h
  have hf1 : FrZ Z3 Z4 (n + 2) := by rw [eZ4]; exact FrZ.N (Nat.le_refl _)
  have s_q : Z4.1 (n + 2) = some (20 + 1, 0) := by rw [eZ4]; exact s2_s
  have hv : Ev Z Z4 a0 n 3 := by rw [eZ4]; exact hv.N (by omega)
  obtain ⟨Z5, eZ5, h⟩ := nm h
  have hX := pX1_init s_q (show (n + 2) < n + 3 by omega) eZ5.symm
  have hp := hp.fr (Z' := Z5) (n' := n + 10) (hf1.tr (hX.1.1)) (by omega)
  have s_r : Z5.1 (n + 2) = some (1, 0) := hX.2.1
  have hlr := hX.2.2
  have hv : Ev Z Z5 a0 n 10 := hv.K hX.1 (by omega)
  obtain ⟨Z6, eZ6, h⟩ := nm h
  have hv := hv.S (Z2 := Z6) (a := a0) (x := (20 + 5, 3)) (by rw [eZ6]; rfl) (by rw [eZ6]; exact FrZ.R (Nat.le_refl _)) (dm_of hp.1)
  have hp : PO Z6 a0 5 3 (n + 10) ((1, (n + 2), (1, 0)) :: [(0, (n + 0), (0, 0))]) := by rw [eZ6]; exact hp.r rfl s_r (by omega) (by omega)
  obtain ⟨Z7, eZ7, h⟩ := nm h
  have hf1 : FrZ Z6 Z7 (n + 10) := by rw [eZ7]; exact FrZ.N (Nat.le_refl _)
  have s_q : Z7.1 (n + 10) = some (20 + 8, 0) := by rw [eZ7]; exact s2_s
  have hv : Ev Z Z7 a0 n 11 := by rw [eZ7]; exact hv.N (by omega)
  obtain ⟨Z8, eZ8, h⟩ := nm h
  have hX := pX8_init s_q (show (n + 10) < n + 11 by omega) eZ8.symm
  have hp := hp.fr (Z' := Z8) (n' := n + 11) (hf1.tr (hX.1.1)) (by omega)
  have s_r : Z8.1 (n + 10) = some (8, 0) := hX.2.1
  have hlr := hX.2.2
  have hv : Ev Z Z8 a0 n 11 := hv.K hX.1 (by omega)
  obtain ⟨Z9, eZ9, h⟩ := nm h
  have hv := hv.S (Z2 := Z9) (a := a0) (x := (20 + 5, 7)) (by rw [eZ9]; rfl) (by rw [eZ9]; exact FrZ.R (Nat.le_refl _)) (dm_of hp.1)
  have hp : PO Z9 a0 5 7 (n + 11) ((2, (n + 10), (8, 0)) :: [(1, (n + 2), (1, 0)), (0, (n + 0), (0, 0))]) := by rw [eZ9]; exact hp.r rfl s_r (by omega) (by omega)
  obtain ⟨Z10, eZ10, h⟩ := nm h
  have hf1 : FrZ Z9 Z10 (n + 11) := by rw [eZ10]; exact FrZ.N (Nat.le_refl _)
  have s_q : Z10.1 (n + 11) = some (20 + 4, 0) := by rw [eZ10]; exact s2_s
  have hv : Ev Z Z10 a0 n 12 := by rw [eZ10]; exact hv.N (by omega)
  obtain ⟨Z11, eZ11, h⟩ := nm h
  have hX := pX4_init s_q (show (n + 11) < n + 12 by omega) eZ11.symm
  have hp := hp.fr (Z' := Z11) (n' := n + 135) (hf1.tr (hX.1.1)) (by omega)
  have s_r : Z11.1 (n + 11) = some (4, 0) := hX.2.1
  have hlr := hX.2.2
  have hv : Ev Z Z11 a0 n 135 := hv.K hX.1 (by omega)
  obtain ⟨Z12, eZ12, h⟩ := nm h
  have hv := hv.S (Z2 := Z12) (a := a0) (x := (20 + 5, 15)) (by rw [eZ12]; rfl) (by rw [eZ12]; exact FrZ.R (Nat.le_refl _)) (dm_of hp.1)
  have hp : PO Z12 a0 5 15 (n + 135) ((3, (n + 11), (4, 0)) :: [(2, (n + 10), (8, 0)), (1, (n + 2), (1, 0)), (0, (n + 0), (0, 0))]) := by rw [eZ12]; exact hp.r rfl s_r (by omega) (by omega)
  obtain ⟨Z13, eZ13, h⟩ := nm h
  have hv := hv.M (Z2 := Z13) (by rw [eZ13]; rfl) (by rw [eZ13]; exact FrZ.I (Nat.le_refl _))
  have hp : PO Z13 a0 5 15 (n + 135) [(3, (n + 11), (4, 0)), (2, (n + 10), (8, 0)), (1, (n + 2), (1, 0)), (0, (n + 0), (0, 0))] := by rw [eZ13]; exact hp.i
  obtain ⟨Z14, eZ14, h⟩ := nm h
  have hv := hv.M (Z2 := Z14) (by rw [eZ14]; rfl) (by rw [eZ14]; exact FrZ.I (Nat.le_refl _))
  have hp : PO Z14 a0 5 15 (n + 135) [(3, (n + 11), (4, 0)), (2, (n + 10), (8, 0)), (1, (n + 2), (1, 0)), (0, (n + 0), (0, 0))] := by rw [eZ14]; exact hp.i
  obtain ⟨Z15, eZ15, h⟩ := nm h
  have hv := hv.S (Z2 := Z15) (a := a0) (x := (5, 0)) (by rw [eZ15]; rfl) (by rw [eZ15]; exact FrZ.D (Nat.le_refl _)) (dm_of hp.1)
  have s_a0 : Z15.1 a0 = some (5, 0) := by rw [eZ15]; exact s2_s
  have hlk : LK Z15 a0 [(3, (n + 11), (4, 0)), (2, (n + 10), (8, 0)), (1, (n + 2), (1, 0)), (0, (n + 0), (0, 0))] := by rw [eZ15]; exact hp.lk
  subst h
  exact ⟨hv, s_a0, hlk⟩
set_option maxRecDepth 100000 in
set_option maxHeartbeats 4000000 in
theorem kX5_init {l : Launch} {D : va_G} {cA : Nat → ClassId} {tS : Nat → Nat} {A : Nat → Prop} {a0 n : Nat} {Z Z' : Zt} (hA : ∀ q, dm Z.1 q → A q) (hAn : ∀ q, n ≤ q → A q) (s0 : Z.1 a0 = some (20 + 5, 0)) (hlt : a0 < n) (h : fX5_init a0 n Z = Z') : Kt l D cA tS A yX5_init cX5_init 1 5 105 135 149575 n [.ref a0] Z Z' := by
  refine Kt.of (by decide) rfl (Nat.le_of_ble_eq_true rfl) hA (fun p e s m args below meth c hsz hin hAO C => ?_)
  have hp : PO Z a0 5 0 (n + 0) [] := ⟨s0, by omega, fun _ h => by cases h⟩
  have hv : Ev Z Z a0 n 0 := Ev.rf
  unfold fX5_init at h
  refine g_aload_n C dX5_init_0 0 rfl ?_
  refine g_objInit C lmX5_3 ⟨by decide, by decide⟩ ⟨by decide, by decide⟩ dX5_init_1 ?_
  refine g_aload_n C dX5_init_4 0 rfl ?_
  refine g_new (t := 0) C (n + 0) (by omega) (by decide) rfl uwX0 tyX0_ok lcX5_9 wnX0 wiX0 (fun rr j hj => by rcases (show j = 0 ∨ j = 1 ∨ j = 2 by omega) with rfl | rfl | rfl <;> rfl) ⟨by decide, by decide⟩ dX5_init_5 ?_
  obtain ⟨Z1, eZ1, h⟩ := nm h
  refine g_z eZ1 ?_
  have hf1 : FrZ Z Z1 (n + 0) := by rw [eZ1]; exact FrZ.N (Nat.le_refl _)
  have s_q : Z1.1 (n + 0) = some (20 + 0, 0) := by rw [eZ1]; exact s2_s
  have hv : Ev Z Z1 a0 n 1 := by rw [eZ1]; exact hv.N (by omega)
  have C := C.up (hv.A' hA hAn)
  refine g_dup C dX5_init_8 rfl ?_
  obtain ⟨Z2, eZ2, h⟩ := nm h
  have hX := pX0_init s_q (show (n + 0) < n + 1 by omega) eZ2.symm
  refine g_callK C hAO (by omega) (kX0_init (hv.A' hA hAn) (fun _ _ => hAn _ (by omega)) s_q (by omega) eZ2.symm) wcX0_init wmX0_init wiX0 rfl (by decide +kernel) lmX5_11 (Nat.le_of_ble_eq_true rfl) dX5_init_9 ⟨by decide, by decide⟩ ⟨by decide, by decide⟩ ?_ ?_
  · have hd9 : dm Z2.1 (s.heap.size + 1 + 1 - 1) := hX.1.2.1 _ (by omega) (by omega)
    cases hh : Z2.1 (s.heap.size + 1 + 1 - 1) with
    | none => exact absurd hh hd9
    | some x => exact ⟨x, rfl⟩
  have hp := hp.fr (Z' := Z2) (n' := n + 2) (hf1.tr (hX.1.1)) (by omega)
  have s_r : Z2.1 (n + 0) = some (0, 0) := hX.2.1
  have hlr := hX.2.2
  have hv : Ev Z Z2 a0 n 2 := hv.K hX.1 (by omega)
  have C := C.up (hv.A' hA hAn)
  refine g_pRr (j := 0) (mk' := 1) C hp.1 (by decide) rfl uwX5 tyX5_ok nmX5 (by decide) rfl hin rfl lfX5_12 rfl rfl rfl (fun _ _ => rfl) (fun _ _ => Nat.le_of_ble_eq_true rfl) dX5_init_12 ?_
  obtain ⟨Z3, eZ3, h⟩ := nm h
  refine g_z eZ3 ?_
  have hv := hv.S (Z2 := Z3) (a := a0) (x := (20 + 5, 1)) (by rw [eZ3]; rfl) (by rw [eZ3]; exact FrZ.R (Nat.le_refl _)) (dm_of hp.1)
  have hp : PO Z3 a0 5 1 (n + 2) ((0, (n + 0), (0, 0)) :: []) := by rw [eZ3]; exact hp.r rfl s_r (by omega) (by omega)
  have C := C.up (hv.A' hA hAn)
  refine g_aload_n C dX5_init_15 0 rfl ?_
  refine g_new (t := 1) C (n + 2) (by omega) (by decide) rfl uwX1 tyX1_ok lcX5_18 wnX1 wiX1 (fun rr j hj => by rcases (show j = 0 ∨ j = 1 ∨ j = 2 ∨ j = 3 ∨ j = 4 ∨ j = 5 ∨ j = 6 ∨ j = 7 ∨ j = 8 ∨ j = 9 ∨ j = 10 ∨ j = 11 by omega) with rfl | rfl | rfl | rfl | rfl | rfl | rfl | rfl | rfl | rfl | rfl | rfl <;> rfl) ⟨by decide, by decide⟩ dX5_init_16 ?_
  obtain ⟨Z4, eZ4, h⟩ := nm h
  refine g_z eZ4 ?_
  have hf1 : FrZ Z3 Z4 (n + 2) := by rw [eZ4]; exact FrZ.N (Nat.le_refl _)
  have s_q : Z4.1 (n + 2) = some (20 + 1, 0) := by rw [eZ4]; exact s2_s
  have hv : Ev Z Z4 a0 n 3 := by rw [eZ4]; exact hv.N (by omega)
  have C := C.up (hv.A' hA hAn)
  refine g_dup C dX5_init_19 rfl ?_
  obtain ⟨Z5, eZ5, h⟩ := nm h
  have hX := pX1_init s_q (show (n + 2) < n + 3 by omega) eZ5.symm
  refine g_callK C hAO (by omega) (kX1_init (hv.A' hA hAn) (fun _ _ => hAn _ (by omega)) s_q (by omega) eZ5.symm) wcX1_init wmX1_init wiX1 rfl (by decide +kernel) lmX5_20 (Nat.le_of_ble_eq_true rfl) dX5_init_20 ⟨by decide, by decide⟩ ⟨by decide, by decide⟩ ?_ ?_
  · have hd9 : dm Z5.1 (s.heap.size + 3 + 7 - 1) := hX.1.2.1 _ (by omega) (by omega)
    cases hh : Z5.1 (s.heap.size + 3 + 7 - 1) with
    | none => exact absurd hh hd9
    | some x => exact ⟨x, rfl⟩
  have hp := hp.fr (Z' := Z5) (n' := n + 10) (hf1.tr (hX.1.1)) (by omega)
  have s_r : Z5.1 (n + 2) = some (1, 0) := hX.2.1
  have hlr := hX.2.2
  have hv : Ev Z Z5 a0 n 10 := hv.K hX.1 (by omega)
  have C := C.up (hv.A' hA hAn)
  refine g_pRr (j := 1) (mk' := 3) C hp.1 (by decide) rfl uwX5 tyX5_ok nmX5 (by decide) rfl hin rfl lfX5_21 rfl rfl rfl (fun _ _ => rfl) (fun _ _ => Nat.le_of_ble_eq_true rfl) dX5_init_23 ?_
  obtain ⟨Z6, eZ6, h⟩ := nm h
  refine g_z eZ6 ?_
  have hv := hv.S (Z2 := Z6) (a := a0) (x := (20 + 5, 3)) (by rw [eZ6]; rfl) (by rw [eZ6]; exact FrZ.R (Nat.le_refl _)) (dm_of hp.1)
  have hp : PO Z6 a0 5 3 (n + 10) ((1, (n + 2), (1, 0)) :: [(0, (n + 0), (0, 0))]) := by rw [eZ6]; exact hp.r rfl s_r (by omega) (by omega)
  have C := C.up (hv.A' hA hAn)
  refine g_aload_n C dX5_init_26 0 rfl ?_
  refine g_new (t := 8) C (n + 10) (by omega) (by decide) rfl uwX8 tyX8_ok lcX5_25 wnX8 wiX8 (fun rr j hj => by rcases (show j = 0 ∨ j = 1 ∨ j = 2 ∨ j = 3 by omega) with rfl | rfl | rfl | rfl <;> rfl) ⟨by decide, by decide⟩ dX5_init_27 ?_
  obtain ⟨Z7, eZ7, h⟩ := nm h
  refine g_z eZ7 ?_
  have hf1 : FrZ Z6 Z7 (n + 10) := by rw [eZ7]; exact FrZ.N (Nat.le_refl _)
  have s_q : Z7.1 (n + 10) = some (20 + 8, 0) := by rw [eZ7]; exact s2_s
  have hv : Ev Z Z7 a0 n 11 := by rw [eZ7]; exact hv.N (by omega)
  have C := C.up (hv.A' hA hAn)
  refine g_dup C dX5_init_30 rfl ?_
  obtain ⟨Z8, eZ8, h⟩ := nm h
  have hX := pX8_init s_q (show (n + 10) < n + 11 by omega) eZ8.symm
  refine g_callK C hAO (by omega) (kX8_init (hv.A' hA hAn) (fun _ _ => hAn _ (by omega)) s_q (by omega) eZ8.symm) wcX8_init wmX8_init wiX8 rfl (by decide +kernel) lmX5_27 (Nat.le_of_ble_eq_true rfl) dX5_init_31 ⟨by decide, by decide⟩ ⟨by decide, by decide⟩ ?_ ?_
  · have hd9 : dm Z8.1 (s.heap.size + 11 + 0 - 1) := (hX.1.2.2.2 _ (hv.2.1 _ (by omega) (by omega)))
    cases hh : Z8.1 (s.heap.size + 11 + 0 - 1) with
    | none => exact absurd hh hd9
    | some x => exact ⟨x, rfl⟩
  have hp := hp.fr (Z' := Z8) (n' := n + 11) (hf1.tr (hX.1.1)) (by omega)
  have s_r : Z8.1 (n + 10) = some (8, 0) := hX.2.1
  have hlr := hX.2.2
  have hv : Ev Z Z8 a0 n 11 := hv.K hX.1 (by omega)
  have C := C.up (hv.A' hA hAn)
  refine g_pRr (j := 2) (mk' := 7) C hp.1 (by decide) rfl uwX5 tyX5_ok nmX5 (by decide) rfl hin rfl lfX5_28 rfl rfl rfl (fun _ _ => rfl) (fun _ _ => Nat.le_of_ble_eq_true rfl) dX5_init_34 ?_
  obtain ⟨Z9, eZ9, h⟩ := nm h
  refine g_z eZ9 ?_
  have hv := hv.S (Z2 := Z9) (a := a0) (x := (20 + 5, 7)) (by rw [eZ9]; rfl) (by rw [eZ9]; exact FrZ.R (Nat.le_refl _)) (dm_of hp.1)
  have hp : PO Z9 a0 5 7 (n + 11) ((2, (n + 10), (8, 0)) :: [(1, (n + 2), (1, 0)), (0, (n + 0), (0, 0))]) := by rw [eZ9]; exact hp.r rfl s_r (by omega) (by omega)
  have C := C.up (hv.A' hA hAn)
  refine g_aload_n C dX5_init_37 0 rfl ?_
  refine g_new (t := 4) C (n + 11) (by omega) (by decide) rfl uwX4 tyX4_ok lcX5_32 wnX4 wiX4 (fun rr j hj => by rcases (show j = 0 ∨ j = 1 ∨ j = 2 ∨ j = 3 ∨ j = 4 ∨ j = 5 ∨ j = 6 by omega) with rfl | rfl | rfl | rfl | rfl | rfl | rfl <;> rfl) ⟨by decide, by decide⟩ dX5_init_38 ?_
  obtain ⟨Z10, eZ10, h⟩ := nm h
  refine g_z eZ10 ?_
  have hf1 : FrZ Z9 Z10 (n + 11) := by rw [eZ10]; exact FrZ.N (Nat.le_refl _)
  have s_q : Z10.1 (n + 11) = some (20 + 4, 0) := by rw [eZ10]; exact s2_s
  have hv : Ev Z Z10 a0 n 12 := by rw [eZ10]; exact hv.N (by omega)
  have C := C.up (hv.A' hA hAn)
  refine g_dup C dX5_init_41 rfl ?_
  obtain ⟨Z11, eZ11, h⟩ := nm h
  have hX := pX4_init s_q (show (n + 11) < n + 12 by omega) eZ11.symm
  refine g_callK C hAO (by omega) (kX4_init (hv.A' hA hAn) (fun _ _ => hAn _ (by omega)) s_q (by omega) eZ11.symm) wcX4_init wmX4_init wiX4 rfl (by decide +kernel) lmX5_34 (Nat.le_of_ble_eq_true rfl) dX5_init_42 ⟨by decide, by decide⟩ ⟨by decide, by decide⟩ ?_ ?_
  · have hd9 : dm Z11.1 (s.heap.size + 12 + 123 - 1) := hX.1.2.1 _ (by omega) (by omega)
    cases hh : Z11.1 (s.heap.size + 12 + 123 - 1) with
    | none => exact absurd hh hd9
    | some x => exact ⟨x, rfl⟩
  have hp := hp.fr (Z' := Z11) (n' := n + 135) (hf1.tr (hX.1.1)) (by omega)
  have s_r : Z11.1 (n + 11) = some (4, 0) := hX.2.1
  have hlr := hX.2.2
  have hv : Ev Z Z11 a0 n 135 := hv.K hX.1 (by omega)
  have C := C.up (hv.A' hA hAn)
  refine g_pRn (j := 3) (mk' := 15) C hp.1 (by decide) rfl uwX5 tyX5_ok nmX5 (by decide) rfl lfX5_35 rfl rfl rfl (fun _ _ => rfl) (fun _ _ => Nat.le_of_ble_eq_true rfl) dX5_init_45 ?_
  obtain ⟨Z12, eZ12, h⟩ := nm h
  refine g_z eZ12 ?_
  have hv := hv.S (Z2 := Z12) (a := a0) (x := (20 + 5, 15)) (by rw [eZ12]; rfl) (by rw [eZ12]; exact FrZ.R (Nat.le_refl _)) (dm_of hp.1)
  have hp : PO Z12 a0 5 15 (n + 135) ((3, (n + 11), (4, 0)) :: [(2, (n + 10), (8, 0)), (1, (n + 2), (1, 0)), (0, (n + 0), (0, 0))]) := by rw [eZ12]; exact hp.r rfl s_r (by omega) (by omega)
  have C := C.up (hv.A' hA hAn)
  refine g_aload_n C dX5_init_48 0 rfl ?_
  refine g_iconst (v := 0) C dX5_init_49 (by decide) ?_
  refine g_pIi (j := 9) C hp.1 (by decide) rfl uwX5 tyX5_ok nmX5 (by decide) rfl lfX5_39 rfl rfl rfl (fun _ _ => rfl) (fun _ _ => Nat.le_of_ble_eq_true rfl) dX5_init_50 ?_
  obtain ⟨Z13, eZ13, h⟩ := nm h
  refine g_z eZ13 ?_
  have hv := hv.M (Z2 := Z13) (by rw [eZ13]; rfl) (by rw [eZ13]; exact FrZ.I (Nat.le_refl _))
  have hp : PO Z13 a0 5 15 (n + 135) [(3, (n + 11), (4, 0)), (2, (n + 10), (8, 0)), (1, (n + 2), (1, 0)), (0, (n + 0), (0, 0))] := by rw [eZ13]; exact hp.i
  have C := C.up (hv.A' hA hAn)
  refine g_aload_n C dX5_init_53 0 rfl ?_
  refine g_iconst (v := -1) C dX5_init_54 (by decide) ?_
  refine g_pIi (j := 10) C hp.1 (by decide) rfl uwX5 tyX5_ok nmX5 (by decide) rfl lfX5_43 rfl rfl rfl (fun _ _ => rfl) (fun _ _ => Nat.le_of_ble_eq_true rfl) dX5_init_55 ?_
  obtain ⟨Z14, eZ14, h⟩ := nm h
  refine g_z eZ14 ?_
  have hv := hv.M (Z2 := Z14) (by rw [eZ14]; rfl) (by rw [eZ14]; exact FrZ.I (Nat.le_refl _))
  have hp : PO Z14 a0 5 15 (n + 135) [(3, (n + 11), (4, 0)), (2, (n + 10), (8, 0)), (1, (n + 2), (1, 0)), (0, (n + 0), (0, 0))] := by rw [eZ14]; exact hp.i
  have C := C.up (hv.A' hA hAn)
  refine g_done hp.1 (by decide) (fun _ _ => rfl) (hp.done (fun q hq => by simp only [exl, List.mem_cons, List.not_mem_nil, or_false] at hq; rcases hq with rfl | rfl | rfl | rfl; exact ⟨(n + 0), by simp⟩; exact ⟨(n + 2), by simp⟩; exact ⟨(n + 10), by simp⟩; exact ⟨(n + 11), by simp⟩)) ?_
  obtain ⟨Z15, eZ15, h⟩ := nm h
  refine g_z eZ15 ?_
  have hv := hv.S (Z2 := Z15) (a := a0) (x := (5, 0)) (by rw [eZ15]; rfl) (by rw [eZ15]; exact FrZ.D (Nat.le_refl _)) (dm_of hp.1)
  have s_a0 : Z15.1 a0 = some (5, 0) := by rw [eZ15]; exact s2_s
  have hlk : LK Z15 a0 [(3, (n + 11), (4, 0)), (2, (n + 10), (8, 0)), (1, (n + 2), (1, 0)), (0, (n + 0), (0, 0))] := by rw [eZ15]; exact hp.lk
  have C := C.up (hv.A' hA hAn)
  subst h
  exact g_kret C ⟨rfl, rfl⟩ dX5_init_58
def fX9_init (a0 n : Nat) (Z : Zt) : Zt :=
  lt' (zN Z (n + 0) 5) fun Z1 =>
  lt' (fX5_init (n + 0) (n + 1) Z1) fun Z2 =>
  lt' (zR Z2 a0 9 2 1 (n + 0)) fun Z3 =>
  lt' (zR Z3 a0 9 3 0 (n + 1)) fun Z4 =>
  lt' (zN Z4 (n + 136) 0) fun Z5 =>
  lt' (fX0_init (n + 136) (n + 137) Z5) fun Z6 =>
  lt' (zR Z6 a0 9 19 4 (n + 136)) fun Z7 =>
  lt' (zN Z7 (n + 138) 4) fun Z8 =>
  lt' (fX4_init (n + 138) (n + 139) Z8) fun Z9 =>
  lt' (zR Z9 a0 9 27 3 (n + 138)) fun Z10 =>
  lt' (zN Z10 (n + 262) 6) fun Z11 =>
  lt' (fX6_init (n + 262) (n + 263) Z11) fun Z12 =>
  lt' (zR Z12 a0 9 31 2 (n + 262)) fun Z13 =>
  lt' (zI Z13 a0 5 0) fun Z14 =>
  lt' (zD Z14 a0 9 0) fun Z15 =>
  Z15
set_option maxRecDepth 100000 in
set_option maxHeartbeats 4000000 in
theorem pX9_init {a0 n : Nat} {Z Z' : Zt} (s0 : Z.1 a0 = some (20 + 9, 0)) (hlt : a0 < n) (h : fX9_init a0 n Z = Z') : Ev Z Z' a0 n 272 ∧ Z'.1 a0 = some (9, 0) ∧ LK Z' a0 [(2, (n + 262), (6, 0)), (3, (n + 138), (4, 0)), (4, (n + 136), (0, 0)), (0, (n + 1), (0, 0)), (1, (n + 0), (5, 0))] := by
  have hp : PO Z a0 9 0 (n + 0) [] := ⟨s0, by omega, fun _ h => by cases h⟩
  have hv : Ev Z Z a0 n 0 := Ev.rf
  unfold fX9_init at h
  obtain ⟨Z1, eZ1, h⟩ := nm h
  have hf1 : FrZ Z Z1 (n + 0) := by rw [eZ1]; exact FrZ.N (Nat.le_refl _)
  have s_q : Z1.1 (n + 0) = some (20 + 5, 0) := by rw [eZ1]; exact s2_s
  have hv : Ev Z Z1 a0 n 1 := by rw [eZ1]; exact hv.N (by omega)
  obtain ⟨Z2, eZ2, h⟩ := nm h
  have hX := pX5_init s_q (show (n + 0) < n + 1 by omega) eZ2.symm
  have hp := hp.fr (Z' := Z2) (n' := n + 136) (hf1.tr (hX.1.1)) (by omega)
  have s_r : Z2.1 (n + 0) = some (5, 0) := hX.2.1
  have hlr := hX.2.2
  have hv : Ev Z Z2 a0 n 136 := hv.K hX.1 (by omega)
  obtain ⟨Z3, eZ3, h⟩ := nm h
  have hv := hv.S (Z2 := Z3) (a := a0) (x := (20 + 9, 2)) (by rw [eZ3]; rfl) (by rw [eZ3]; exact FrZ.R (Nat.le_refl _)) (dm_of hp.1)
  have hp : PO Z3 a0 9 2 (n + 136) ((1, (n + 0), (5, 0)) :: []) := by rw [eZ3]; exact hp.r rfl s_r (by omega) (by omega)
  have e9 : (n + 1) = Z3.2.2 (Z3.2.2 a0 1) 0 := by rw [(hp.2.2 (1, (n + 0), (5, 0)) (by simp)).1, eZ3, zR_o (show (n + 0) ≠ a0 by omega)]; exact (hlr _ (List.mem_of_getElem? (i := 3) rfl)).1.symm
  have s_9 : Z3.1 (n + 1) = some (0, 0) := by rw [eZ3]; simp only [zR]; rw [s2_o (show (n + 1) ≠ a0 by omega)]; exact (hlr _ (List.mem_of_getElem? (i := 3) rfl)).2
  obtain ⟨Z4, eZ4, h⟩ := nm h
  have hv := hv.S (Z2 := Z4) (a := a0) (x := (20 + 9, 3)) (by rw [eZ4]; rfl) (by rw [eZ4]; exact FrZ.R (Nat.le_refl _)) (dm_of hp.1)
  have hp : PO Z4 a0 9 3 (n + 136) ((0, (n + 1), (0, 0)) :: [(1, (n + 0), (5, 0))]) := by rw [eZ4]; exact hp.r rfl s_9 (by omega) (by omega)
  obtain ⟨Z5, eZ5, h⟩ := nm h
  have hf1 : FrZ Z4 Z5 (n + 136) := by rw [eZ5]; exact FrZ.N (Nat.le_refl _)
  have s_q : Z5.1 (n + 136) = some (20 + 0, 0) := by rw [eZ5]; exact s2_s
  have hv : Ev Z Z5 a0 n 137 := by rw [eZ5]; exact hv.N (by omega)
  obtain ⟨Z6, eZ6, h⟩ := nm h
  have hX := pX0_init s_q (show (n + 136) < n + 137 by omega) eZ6.symm
  have hp := hp.fr (Z' := Z6) (n' := n + 138) (hf1.tr (hX.1.1)) (by omega)
  have s_r : Z6.1 (n + 136) = some (0, 0) := hX.2.1
  have hlr := hX.2.2
  have hv : Ev Z Z6 a0 n 138 := hv.K hX.1 (by omega)
  obtain ⟨Z7, eZ7, h⟩ := nm h
  have hv := hv.S (Z2 := Z7) (a := a0) (x := (20 + 9, 19)) (by rw [eZ7]; rfl) (by rw [eZ7]; exact FrZ.R (Nat.le_refl _)) (dm_of hp.1)
  have hp : PO Z7 a0 9 19 (n + 138) ((4, (n + 136), (0, 0)) :: [(0, (n + 1), (0, 0)), (1, (n + 0), (5, 0))]) := by rw [eZ7]; exact hp.r rfl s_r (by omega) (by omega)
  obtain ⟨Z8, eZ8, h⟩ := nm h
  have hf1 : FrZ Z7 Z8 (n + 138) := by rw [eZ8]; exact FrZ.N (Nat.le_refl _)
  have s_q : Z8.1 (n + 138) = some (20 + 4, 0) := by rw [eZ8]; exact s2_s
  have hv : Ev Z Z8 a0 n 139 := by rw [eZ8]; exact hv.N (by omega)
  obtain ⟨Z9, eZ9, h⟩ := nm h
  have hX := pX4_init s_q (show (n + 138) < n + 139 by omega) eZ9.symm
  have hp := hp.fr (Z' := Z9) (n' := n + 262) (hf1.tr (hX.1.1)) (by omega)
  have s_r : Z9.1 (n + 138) = some (4, 0) := hX.2.1
  have hlr := hX.2.2
  have hv : Ev Z Z9 a0 n 262 := hv.K hX.1 (by omega)
  obtain ⟨Z10, eZ10, h⟩ := nm h
  have hv := hv.S (Z2 := Z10) (a := a0) (x := (20 + 9, 27)) (by rw [eZ10]; rfl) (by rw [eZ10]; exact FrZ.R (Nat.le_refl _)) (dm_of hp.1)
  have hp : PO Z10 a0 9 27 (n + 262) ((3, (n + 138), (4, 0)) :: [(4, (n + 136), (0, 0)), (0, (n + 1), (0, 0)), (1, (n + 0), (5, 0))]) := by rw [eZ10]; exact hp.r rfl s_r (by omega) (by omega)
  obtain ⟨Z11, eZ11, h⟩ := nm h
  have hf1 : FrZ Z10 Z11 (n + 262) := by rw [eZ11]; exact FrZ.N (Nat.le_refl _)
  have s_q : Z11.1 (n + 262) = some (20 + 6, 0) := by rw [eZ11]; exact s2_s
  have hv : Ev Z Z11 a0 n 263 := by rw [eZ11]; exact hv.N (by omega)
  obtain ⟨Z12, eZ12, h⟩ := nm h
  have hX := pX6_init s_q (show (n + 262) < n + 263 by omega) eZ12.symm
  have hp := hp.fr (Z' := Z12) (n' := n + 272) (hf1.tr (hX.1.1)) (by omega)
  have s_r : Z12.1 (n + 262) = some (6, 0) := hX.2.1
  have hlr := hX.2.2
  have hv : Ev Z Z12 a0 n 272 := hv.K hX.1 (by omega)
  obtain ⟨Z13, eZ13, h⟩ := nm h
  have hv := hv.S (Z2 := Z13) (a := a0) (x := (20 + 9, 31)) (by rw [eZ13]; rfl) (by rw [eZ13]; exact FrZ.R (Nat.le_refl _)) (dm_of hp.1)
  have hp : PO Z13 a0 9 31 (n + 272) ((2, (n + 262), (6, 0)) :: [(3, (n + 138), (4, 0)), (4, (n + 136), (0, 0)), (0, (n + 1), (0, 0)), (1, (n + 0), (5, 0))]) := by rw [eZ13]; exact hp.r rfl s_r (by omega) (by omega)
  obtain ⟨Z14, eZ14, h⟩ := nm h
  have hv := hv.M (Z2 := Z14) (by rw [eZ14]; rfl) (by rw [eZ14]; exact FrZ.I (Nat.le_refl _))
  have hp : PO Z14 a0 9 31 (n + 272) [(2, (n + 262), (6, 0)), (3, (n + 138), (4, 0)), (4, (n + 136), (0, 0)), (0, (n + 1), (0, 0)), (1, (n + 0), (5, 0))] := by rw [eZ14]; exact hp.i
  obtain ⟨Z15, eZ15, h⟩ := nm h
  have hv := hv.S (Z2 := Z15) (a := a0) (x := (9, 0)) (by rw [eZ15]; rfl) (by rw [eZ15]; exact FrZ.D (Nat.le_refl _)) (dm_of hp.1)
  have s_a0 : Z15.1 a0 = some (9, 0) := by rw [eZ15]; exact s2_s
  have hlk : LK Z15 a0 [(2, (n + 262), (6, 0)), (3, (n + 138), (4, 0)), (4, (n + 136), (0, 0)), (0, (n + 1), (0, 0)), (1, (n + 0), (5, 0))] := by rw [eZ15]; exact hp.lk
  subst h
  exact ⟨hv, s_a0, hlk⟩
set_option maxRecDepth 100000 in
set_option maxHeartbeats 4000000 in
theorem kX9_init {l : Launch} {D : va_G} {cA : Nat → ClassId} {tS : Nat → Nat} {A : Nat → Prop} {a0 n : Nat} {Z Z' : Zt} (hA : ∀ q, dm Z.1 q → A q) (hAn : ∀ q, n ≤ q → A q) (s0 : Z.1 a0 = some (20 + 9, 0)) (hlt : a0 < n) (h : fX9_init a0 n Z = Z') : Kt l D cA tS A yX9_init cX9_init 1 6 125 272 307066 n [.ref a0] Z Z' := by
  refine Kt.of (by decide) rfl (Nat.le_of_ble_eq_true rfl) hA (fun p e s m args below meth c hsz hin hAO C => ?_)
  have hp : PO Z a0 9 0 (n + 0) [] := ⟨s0, by omega, fun _ h => by cases h⟩
  have hv : Ev Z Z a0 n 0 := Ev.rf
  unfold fX9_init at h
  refine g_aload_n C dX9_init_0 0 rfl ?_
  refine g_objInit C lmX9_3 ⟨by decide, by decide⟩ ⟨by decide, by decide⟩ dX9_init_1 ?_
  refine g_aload_n C dX9_init_4 0 rfl ?_
  refine g_new (t := 5) C (n + 0) (by omega) (by decide) rfl uwX5 tyX5_ok lcX9_9 wnX5 wiX5 (fun rr j hj => by rcases (show j = 0 ∨ j = 1 ∨ j = 2 ∨ j = 3 ∨ j = 4 ∨ j = 5 ∨ j = 6 ∨ j = 7 ∨ j = 8 ∨ j = 9 ∨ j = 10 by omega) with rfl | rfl | rfl | rfl | rfl | rfl | rfl | rfl | rfl | rfl | rfl <;> rfl) ⟨by decide, by decide⟩ dX9_init_5 ?_
  obtain ⟨Z1, eZ1, h⟩ := nm h
  refine g_z eZ1 ?_
  have hf1 : FrZ Z Z1 (n + 0) := by rw [eZ1]; exact FrZ.N (Nat.le_refl _)
  have s_q : Z1.1 (n + 0) = some (20 + 5, 0) := by rw [eZ1]; exact s2_s
  have hv : Ev Z Z1 a0 n 1 := by rw [eZ1]; exact hv.N (by omega)
  have C := C.up (hv.A' hA hAn)
  refine g_dup C dX9_init_8 rfl ?_
  obtain ⟨Z2, eZ2, h⟩ := nm h
  have hX := pX5_init s_q (show (n + 0) < n + 1 by omega) eZ2.symm
  refine g_callK C hAO (by omega) (kX5_init (hv.A' hA hAn) (fun _ _ => hAn _ (by omega)) s_q (by omega) eZ2.symm) wcX5_init wmX5_init wiX5 rfl (by decide +kernel) lmX9_11 (Nat.le_of_ble_eq_true rfl) dX9_init_9 ⟨by decide, by decide⟩ ⟨by decide, by decide⟩ ?_ ?_
  · have hd9 : dm Z2.1 (s.heap.size + 1 + 135 - 1) := hX.1.2.1 _ (by omega) (by omega)
    cases hh : Z2.1 (s.heap.size + 1 + 135 - 1) with
    | none => exact absurd hh hd9
    | some x => exact ⟨x, rfl⟩
  have hp := hp.fr (Z' := Z2) (n' := n + 136) (hf1.tr (hX.1.1)) (by omega)
  have s_r : Z2.1 (n + 0) = some (5, 0) := hX.2.1
  have hlr := hX.2.2
  have hv : Ev Z Z2 a0 n 136 := hv.K hX.1 (by omega)
  have C := C.up (hv.A' hA hAn)
  refine g_pRr (j := 1) (mk' := 2) C hp.1 (by decide) rfl uwX9 tyX9_ok nmX9 (by decide) rfl hin rfl lfX9_12 rfl rfl rfl (fun _ _ => rfl) (fun _ _ => Nat.le_of_ble_eq_true rfl) dX9_init_12 ?_
  obtain ⟨Z3, eZ3, h⟩ := nm h
  refine g_z eZ3 ?_
  have hv := hv.S (Z2 := Z3) (a := a0) (x := (20 + 9, 2)) (by rw [eZ3]; rfl) (by rw [eZ3]; exact FrZ.R (Nat.le_refl _)) (dm_of hp.1)
  have hp : PO Z3 a0 9 2 (n + 136) ((1, (n + 0), (5, 0)) :: []) := by rw [eZ3]; exact hp.r rfl s_r (by omega) (by omega)
  have C := C.up (hv.A' hA hAn)
  refine g_aload_n C dX9_init_15 0 rfl ?_
  refine g_aload_n C dX9_init_16 0 rfl ?_
  refine g_gRr (j := 1) C hp.1 (by decide) rfl uwX9 (by decide) rfl lfX9_12 (fun _ _ => rfl) dX9_init_17 ?_
  refine g_wt (fun hT => ?_)
  refine g_getr (j := 0) C (hp.sh (1, (n + 0), (5, 0)) (by simp)).2 (by decide) rfl uwX5 (by decide) rfl lfX9_16 rfl dX9_init_20 ?_
  have e9 : (n + 1) = Z3.2.2 (Z3.2.2 a0 1) 0 := by rw [(hp.2.2 (1, (n + 0), (5, 0)) (by simp)).1, eZ3, zR_o (show (n + 0) ≠ a0 by omega)]; exact (hlr _ (List.mem_of_getElem? (i := 3) rfl)).1.symm
  refine g_topr e9 ?_
  have s_9 : Z3.1 (n + 1) = some (0, 0) := by rw [e9]; exact hT.1 _ _ 0 _ (hp.sh (1, (n + 0), (5, 0)) (by simp)).2 rfl
  refine g_pRr (j := 0) (mk' := 3) C hp.1 (by decide) rfl uwX9 tyX9_ok nmX9 (by decide) rfl hin rfl lfX9_20 rfl rfl rfl (fun _ _ => rfl) (fun _ _ => Nat.le_of_ble_eq_true rfl) dX9_init_23 ?_
  obtain ⟨Z4, eZ4, h⟩ := nm h
  refine g_z eZ4 ?_
  have hv := hv.S (Z2 := Z4) (a := a0) (x := (20 + 9, 3)) (by rw [eZ4]; rfl) (by rw [eZ4]; exact FrZ.R (Nat.le_refl _)) (dm_of hp.1)
  have hp : PO Z4 a0 9 3 (n + 136) ((0, (n + 1), (0, 0)) :: [(1, (n + 0), (5, 0))]) := by rw [eZ4]; exact hp.r rfl s_9 (by omega) (by omega)
  have C := C.up (hv.A' hA hAn)
  refine g_aload_n C dX9_init_26 0 rfl ?_
  refine g_new (t := 0) C (n + 136) (by omega) (by decide) rfl uwX0 tyX0_ok lcX9_23 wnX0 wiX0 (fun rr j hj => by rcases (show j = 0 ∨ j = 1 ∨ j = 2 by omega) with rfl | rfl | rfl <;> rfl) ⟨by decide, by decide⟩ dX9_init_27 ?_
  obtain ⟨Z5, eZ5, h⟩ := nm h
  refine g_z eZ5 ?_
  have hf1 : FrZ Z4 Z5 (n + 136) := by rw [eZ5]; exact FrZ.N (Nat.le_refl _)
  have s_q : Z5.1 (n + 136) = some (20 + 0, 0) := by rw [eZ5]; exact s2_s
  have hv : Ev Z Z5 a0 n 137 := by rw [eZ5]; exact hv.N (by omega)
  have C := C.up (hv.A' hA hAn)
  refine g_dup C dX9_init_30 rfl ?_
  obtain ⟨Z6, eZ6, h⟩ := nm h
  have hX := pX0_init s_q (show (n + 136) < n + 137 by omega) eZ6.symm
  refine g_callK C hAO (by omega) (kX0_init (hv.A' hA hAn) (fun _ _ => hAn _ (by omega)) s_q (by omega) eZ6.symm) wcX0_init wmX0_init wiX0 rfl (by decide +kernel) lmX9_25 (Nat.le_of_ble_eq_true rfl) dX9_init_31 ⟨by decide, by decide⟩ ⟨by decide, by decide⟩ ?_ ?_
  · have hd9 : dm Z6.1 (s.heap.size + 137 + 1 - 1) := hX.1.2.1 _ (by omega) (by omega)
    cases hh : Z6.1 (s.heap.size + 137 + 1 - 1) with
    | none => exact absurd hh hd9
    | some x => exact ⟨x, rfl⟩
  have hp := hp.fr (Z' := Z6) (n' := n + 138) (hf1.tr (hX.1.1)) (by omega)
  have s_r : Z6.1 (n + 136) = some (0, 0) := hX.2.1
  have hlr := hX.2.2
  have hv : Ev Z Z6 a0 n 138 := hv.K hX.1 (by omega)
  have C := C.up (hv.A' hA hAn)
  refine g_pRn (j := 4) (mk' := 19) C hp.1 (by decide) rfl uwX9 tyX9_ok nmX9 (by decide) rfl lfX9_26 rfl rfl rfl (fun _ _ => rfl) (fun _ _ => Nat.le_of_ble_eq_true rfl) dX9_init_34 ?_
  obtain ⟨Z7, eZ7, h⟩ := nm h
  refine g_z eZ7 ?_
  have hv := hv.S (Z2 := Z7) (a := a0) (x := (20 + 9, 19)) (by rw [eZ7]; rfl) (by rw [eZ7]; exact FrZ.R (Nat.le_refl _)) (dm_of hp.1)
  have hp : PO Z7 a0 9 19 (n + 138) ((4, (n + 136), (0, 0)) :: [(0, (n + 1), (0, 0)), (1, (n + 0), (5, 0))]) := by rw [eZ7]; exact hp.r rfl s_r (by omega) (by omega)
  have C := C.up (hv.A' hA hAn)
  refine g_aload_n C dX9_init_37 0 rfl ?_
  refine g_new (t := 4) C (n + 138) (by omega) (by decide) rfl uwX4 tyX4_ok lcX9_29 wnX4 wiX4 (fun rr j hj => by rcases (show j = 0 ∨ j = 1 ∨ j = 2 ∨ j = 3 ∨ j = 4 ∨ j = 5 ∨ j = 6 by omega) with rfl | rfl | rfl | rfl | rfl | rfl | rfl <;> rfl) ⟨by decide, by decide⟩ dX9_init_38 ?_
  obtain ⟨Z8, eZ8, h⟩ := nm h
  refine g_z eZ8 ?_
  have hf1 : FrZ Z7 Z8 (n + 138) := by rw [eZ8]; exact FrZ.N (Nat.le_refl _)
  have s_q : Z8.1 (n + 138) = some (20 + 4, 0) := by rw [eZ8]; exact s2_s
  have hv : Ev Z Z8 a0 n 139 := by rw [eZ8]; exact hv.N (by omega)
  have C := C.up (hv.A' hA hAn)
  refine g_dup C dX9_init_41 rfl ?_
  obtain ⟨Z9, eZ9, h⟩ := nm h
  have hX := pX4_init s_q (show (n + 138) < n + 139 by omega) eZ9.symm
  refine g_callK C hAO (by omega) (kX4_init (hv.A' hA hAn) (fun _ _ => hAn _ (by omega)) s_q (by omega) eZ9.symm) wcX4_init wmX4_init wiX4 rfl (by decide +kernel) lmX9_31 (Nat.le_of_ble_eq_true rfl) dX9_init_42 ⟨by decide, by decide⟩ ⟨by decide, by decide⟩ ?_ ?_
  · have hd9 : dm Z9.1 (s.heap.size + 139 + 123 - 1) := hX.1.2.1 _ (by omega) (by omega)
    cases hh : Z9.1 (s.heap.size + 139 + 123 - 1) with
    | none => exact absurd hh hd9
    | some x => exact ⟨x, rfl⟩
  have hp := hp.fr (Z' := Z9) (n' := n + 262) (hf1.tr (hX.1.1)) (by omega)
  have s_r : Z9.1 (n + 138) = some (4, 0) := hX.2.1
  have hlr := hX.2.2
  have hv : Ev Z Z9 a0 n 262 := hv.K hX.1 (by omega)
  have C := C.up (hv.A' hA hAn)
  refine g_pRn (j := 3) (mk' := 27) C hp.1 (by decide) rfl uwX9 tyX9_ok nmX9 (by decide) rfl lfX9_32 rfl rfl rfl (fun _ _ => rfl) (fun _ _ => Nat.le_of_ble_eq_true rfl) dX9_init_45 ?_
  obtain ⟨Z10, eZ10, h⟩ := nm h
  refine g_z eZ10 ?_
  have hv := hv.S (Z2 := Z10) (a := a0) (x := (20 + 9, 27)) (by rw [eZ10]; rfl) (by rw [eZ10]; exact FrZ.R (Nat.le_refl _)) (dm_of hp.1)
  have hp : PO Z10 a0 9 27 (n + 262) ((3, (n + 138), (4, 0)) :: [(4, (n + 136), (0, 0)), (0, (n + 1), (0, 0)), (1, (n + 0), (5, 0))]) := by rw [eZ10]; exact hp.r rfl s_r (by omega) (by omega)
  have C := C.up (hv.A' hA hAn)
  refine g_aload_n C dX9_init_48 0 rfl ?_
  refine g_new (t := 6) C (n + 262) (by omega) (by decide) rfl uwX6 tyX6_ok lcX9_36 wnX6 wiX6 (fun rr j hj => by rcases (show j = 0 ∨ j = 1 by omega) with rfl | rfl <;> rfl) ⟨by decide, by decide⟩ dX9_init_49 ?_
  obtain ⟨Z11, eZ11, h⟩ := nm h
  refine g_z eZ11 ?_
  have hf1 : FrZ Z10 Z11 (n + 262) := by rw [eZ11]; exact FrZ.N (Nat.le_refl _)
  have s_q : Z11.1 (n + 262) = some (20 + 6, 0) := by rw [eZ11]; exact s2_s
  have hv : Ev Z Z11 a0 n 263 := by rw [eZ11]; exact hv.N (by omega)
  have C := C.up (hv.A' hA hAn)
  refine g_dup C dX9_init_52 rfl ?_
  obtain ⟨Z12, eZ12, h⟩ := nm h
  have hX := pX6_init s_q (show (n + 262) < n + 263 by omega) eZ12.symm
  refine g_callK C hAO (by omega) (kX6_init (hv.A' hA hAn) (fun _ _ => hAn _ (by omega)) s_q (by omega) eZ12.symm) wcX6_init wmX6_init wiX6 rfl (by decide +kernel) lmX9_38 (Nat.le_of_ble_eq_true rfl) dX9_init_53 ⟨by decide, by decide⟩ ⟨by decide, by decide⟩ ?_ ?_
  · have hd9 : dm Z12.1 (s.heap.size + 263 + 9 - 1) := hX.1.2.1 _ (by omega) (by omega)
    cases hh : Z12.1 (s.heap.size + 263 + 9 - 1) with
    | none => exact absurd hh hd9
    | some x => exact ⟨x, rfl⟩
  have hp := hp.fr (Z' := Z12) (n' := n + 272) (hf1.tr (hX.1.1)) (by omega)
  have s_r : Z12.1 (n + 262) = some (6, 0) := hX.2.1
  have hlr := hX.2.2
  have hv : Ev Z Z12 a0 n 272 := hv.K hX.1 (by omega)
  have C := C.up (hv.A' hA hAn)
  refine g_pRr (j := 2) (mk' := 31) C hp.1 (by decide) rfl uwX9 tyX9_ok nmX9 (by decide) rfl hin rfl lfX9_39 rfl rfl rfl (fun _ _ => rfl) (fun _ _ => Nat.le_of_ble_eq_true rfl) dX9_init_56 ?_
  obtain ⟨Z13, eZ13, h⟩ := nm h
  refine g_z eZ13 ?_
  have hv := hv.S (Z2 := Z13) (a := a0) (x := (20 + 9, 31)) (by rw [eZ13]; rfl) (by rw [eZ13]; exact FrZ.R (Nat.le_refl _)) (dm_of hp.1)
  have hp : PO Z13 a0 9 31 (n + 272) ((2, (n + 262), (6, 0)) :: [(3, (n + 138), (4, 0)), (4, (n + 136), (0, 0)), (0, (n + 1), (0, 0)), (1, (n + 0), (5, 0))]) := by rw [eZ13]; exact hp.r rfl s_r (by omega) (by omega)
  have C := C.up (hv.A' hA hAn)
  refine g_aload_n C dX9_init_59 0 rfl ?_
  refine g_iconst (v := 0) C dX9_init_60 (by decide) ?_
  refine g_pIi (j := 5) C hp.1 (by decide) rfl uwX9 tyX9_ok nmX9 (by decide) rfl lfX9_43 rfl rfl rfl (fun _ _ => rfl) (fun _ _ => Nat.le_of_ble_eq_true rfl) dX9_init_61 ?_
  obtain ⟨Z14, eZ14, h⟩ := nm h
  refine g_z eZ14 ?_
  have hv := hv.M (Z2 := Z14) (by rw [eZ14]; rfl) (by rw [eZ14]; exact FrZ.I (Nat.le_refl _))
  have hp : PO Z14 a0 9 31 (n + 272) [(2, (n + 262), (6, 0)), (3, (n + 138), (4, 0)), (4, (n + 136), (0, 0)), (0, (n + 1), (0, 0)), (1, (n + 0), (5, 0))] := by rw [eZ14]; exact hp.i
  have C := C.up (hv.A' hA hAn)
  refine g_done hp.1 (by decide) (fun _ _ => rfl) (hp.done (fun q hq => by simp only [exl, List.mem_cons, List.not_mem_nil, or_false] at hq; rcases hq with rfl | rfl | rfl | rfl | rfl; exact ⟨(n + 1), by simp⟩; exact ⟨(n + 0), by simp⟩; exact ⟨(n + 262), by simp⟩; exact ⟨(n + 138), by simp⟩; exact ⟨(n + 136), by simp⟩)) ?_
  obtain ⟨Z15, eZ15, h⟩ := nm h
  refine g_z eZ15 ?_
  have hv := hv.S (Z2 := Z15) (a := a0) (x := (9, 0)) (by rw [eZ15]; rfl) (by rw [eZ15]; exact FrZ.D (Nat.le_refl _)) (dm_of hp.1)
  have s_a0 : Z15.1 a0 = some (9, 0) := by rw [eZ15]; exact s2_s
  have hlk : LK Z15 a0 [(2, (n + 262), (6, 0)), (3, (n + 138), (4, 0)), (4, (n + 136), (0, 0)), (0, (n + 1), (0, 0)), (1, (n + 0), (5, 0))] := by rw [eZ15]; exact hp.lk
  have C := C.up (hv.A' hA hAn)
  subst h
  exact g_kret C ⟨rfl, rfl⟩ dX9_init_64
