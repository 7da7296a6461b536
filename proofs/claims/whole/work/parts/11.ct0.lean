def fX0_init (a0 n : Nat) (Z : Zt) : Zt :=
  lt' (zA Z (n + 0) 11 12000) fun Z1 =>
  lt' (zR Z1 a0 0 1 0 (n + 0)) fun Z2 =>
  lt' (zI Z2 a0 1 0) fun Z3 =>
  lt' (zI Z3 a0 2 0) fun Z4 =>
  lt' (zD Z4 a0 0 0) fun Z5 =>
  Z5
set_option maxRecDepth 100000 in
set_option maxHeartbeats 4000000 in
theorem pX0_init {a0 n : Nat} {Z Z' : Zt} (s0 : Z.1 a0 = some (20 + 0, 0)) (hlt : a0 < n) (h : fX0_init a0 n Z = Z') : Ev Z Z' a0 n 1 ∧ Z'.1 a0 = some (0, 0) := by
  have hp : PO Z a0 0 0 (n + 0) [] := ⟨s0, by omega, fun _ h => by cases h⟩
  have hv : Ev Z Z a0 n 0 := Ev.rf
  unfold fX0_init at h
  obtain ⟨Z1, eZ1, h⟩ := nm h
  have hp := hp.fr (Z' := Z1) (n' := n + 1) (by rw [eZ1]; exact FrZ.A (Nat.le_refl _)) (by omega)
  have s_r : Z1.1 (n + 0) = some (11, 12000) := by rw [eZ1]; exact s2_s
  have hv : Ev Z Z1 a0 n 1 := by rw [eZ1]; exact hv.A (by omega)
  obtain ⟨Z2, eZ2, h⟩ := nm h
  have hv := hv.S (Z2 := Z2) (a := a0) (x := (20 + 0, 1)) (by rw [eZ2]; rfl) (by rw [eZ2]; exact FrZ.R (Nat.le_refl _)) (dm_of hp.1)
  have hp : PO Z2 a0 0 1 (n + 1) ((0, (n + 0), (11, 12000)) :: []) := by rw [eZ2]; exact hp.r rfl s_r (by omega) (by omega)
  obtain ⟨Z3, eZ3, h⟩ := nm h
  have hv := hv.M (Z2 := Z3) (by rw [eZ3]; rfl) (by rw [eZ3]; exact FrZ.I (Nat.le_refl _))
  have hp : PO Z3 a0 0 1 (n + 1) [(0, (n + 0), (11, 12000))] := by rw [eZ3]; exact hp.i
  obtain ⟨Z4, eZ4, h⟩ := nm h
  have hv := hv.M (Z2 := Z4) (by rw [eZ4]; rfl) (by rw [eZ4]; exact FrZ.I (Nat.le_refl _))
  have hp : PO Z4 a0 0 1 (n + 1) [(0, (n + 0), (11, 12000))] := by rw [eZ4]; exact hp.i
  obtain ⟨Z5, eZ5, h⟩ := nm h
  have hv := hv.S (Z2 := Z5) (a := a0) (x := (0, 0)) (by rw [eZ5]; rfl) (by rw [eZ5]; exact FrZ.D (Nat.le_refl _)) (dm_of hp.1)
  have s_a0 : Z5.1 a0 = some (0, 0) := by rw [eZ5]; exact s2_s
  subst h
  exact ⟨hv, s_a0⟩
set_option maxRecDepth 100000 in
set_option maxHeartbeats 4000000 in
theorem kX0_init {l : Launch} {D : va_G} {cA : Nat → ClassId} {tS : Nat → Nat} {A : Nat → Prop} {a0 n : Nat} {Z Z' : Zt} (hA : ∀ q, dm Z.1 q → A q) (hAn : ∀ q, n ≤ q → A q) (s0 : Z.1 a0 = some (20 + 0, 0)) (hlt : a0 < n) (h : fX0_init a0 n Z = Z') : Kt l D cA tS A yX0_init cX0_init 1 1 20 1 12000 n [.ref a0] Z Z' := by
  refine Kt.of (by decide) rfl (Nat.le_of_ble_eq_true rfl) hA (fun p e s m args below meth c hsz hin hAO C => ?_)
  have hp : PO Z a0 0 0 (n + 0) [] := ⟨s0, by omega, fun _ h => by cases h⟩
  have hv : Ev Z Z a0 n 0 := Ev.rf
  unfold fX0_init at h
  refine g_aload_n C dX0_init_0 0 rfl ?_
  refine g_objInit C lmX0_3 ⟨by decide, by decide⟩ ⟨by decide, by decide⟩ dX0_init_1 ?_
  refine g_aload_n C dX0_init_4 0 rfl ?_
  refine g_sipush (v := 12000) C dX0_init_5 (by decide) ?_
  refine g_newa (at0 := .int) (t := 11) (N := 12000) (k0 := 0) (ty := .int) C (n + 0) (by omega) (by decide) rfl rfl (fun _ => rfl) rfl wa_int (by decide) (by decide) (by decide) ⟨by decide, by decide⟩ dX0_init_8 ?_
  obtain ⟨Z1, eZ1, h⟩ := nm h
  refine g_z eZ1 ?_
  have hp := hp.fr (Z' := Z1) (n' := n + 1) (by rw [eZ1]; exact FrZ.A (Nat.le_refl _)) (by omega)
  have s_r : Z1.1 (n + 0) = some (11, 12000) := by rw [eZ1]; exact s2_s
  have hv : Ev Z Z1 a0 n 1 := by rw [eZ1]; exact hv.A (by omega)
  have C := C.up (hv.A' hA hAn)
  refine g_pRr (j := 0) (mk' := 1) C hp.1 (by decide) rfl uwX0 tyX0_ok nmX0 (by decide) rfl hin rfl lfX0_9 rfl rfl rfl (fun _ _ => rfl) (fun _ _ => Nat.le_of_ble_eq_true rfl) dX0_init_10 ?_
  obtain ⟨Z2, eZ2, h⟩ := nm h
  refine g_z eZ2 ?_
  have hv := hv.S (Z2 := Z2) (a := a0) (x := (20 + 0, 1)) (by rw [eZ2]; rfl) (by rw [eZ2]; exact FrZ.R (Nat.le_refl _)) (dm_of hp.1)
  have hp : PO Z2 a0 0 1 (n + 1) ((0, (n + 0), (11, 12000)) :: []) := by rw [eZ2]; exact hp.r rfl s_r (by omega) (by omega)
  have C := C.up (hv.A' hA hAn)
  refine g_aload_n C dX0_init_13 0 rfl ?_
  refine g_iconst (v := 0) C dX0_init_14 (by decide) ?_
  refine g_pIi (j := 1) C hp.1 (by decide) rfl uwX0 tyX0_ok nmX0 (by decide) rfl lfX0_15 rfl rfl rfl (fun _ _ => rfl) (fun _ _ => Nat.le_of_ble_eq_true rfl) dX0_init_15 ?_
  obtain ⟨Z3, eZ3, h⟩ := nm h
  refine g_z eZ3 ?_
  have hv := hv.M (Z2 := Z3) (by rw [eZ3]; rfl) (by rw [eZ3]; exact FrZ.I (Nat.le_refl _))
  have hp : PO Z3 a0 0 1 (n + 1) [(0, (n + 0), (11, 12000))] := by rw [eZ3]; exact hp.i
  have C := C.up (hv.A' hA hAn)
  refine g_aload_n C dX0_init_18 0 rfl ?_
  refine g_iconst (v := 0) C dX0_init_19 (by decide) ?_
  refine g_pIi (j := 2) C hp.1 (by decide) rfl uwX0 tyX0_ok nmX0 (by decide) rfl lfX0_19 rfl rfl rfl (fun _ _ => rfl) (fun _ _ => Nat.le_of_ble_eq_true rfl) dX0_init_20 ?_
  obtain ⟨Z4, eZ4, h⟩ := nm h
  refine g_z eZ4 ?_
  have hv := hv.M (Z2 := Z4) (by rw [eZ4]; rfl) (by rw [eZ4]; exact FrZ.I (Nat.le_refl _))
  have hp : PO Z4 a0 0 1 (n + 1) [(0, (n + 0), (11, 12000))] := by rw [eZ4]; exact hp.i
  have C := C.up (hv.A' hA hAn)
  refine g_done hp.1 (by decide) (fun _ _ => rfl) (hp.done (fun q hq => by simp only [exl, List.mem_cons, List.not_mem_nil, or_false] at hq; subst hq; exact ⟨(n + 0), by simp⟩)) ?_
  obtain ⟨Z5, eZ5, h⟩ := nm h
  refine g_z eZ5 ?_
  have hv := hv.S (Z2 := Z5) (a := a0) (x := (0, 0)) (by rw [eZ5]; rfl) (by rw [eZ5]; exact FrZ.D (Nat.le_refl _)) (dm_of hp.1)
  have s_a0 : Z5.1 a0 = some (0, 0) := by rw [eZ5]; exact s2_s
  have C := C.up (hv.A' hA hAn)
  subst h
  exact g_kret C ⟨rfl, rfl⟩ dX0_init_23
def fX7_init (a0 n : Nat) (Z : Zt) : Zt :=
  lt' (zA Z (n + 0) 11 256) fun Z1 =>
  lt' (zR Z1 a0 7 1 0 (n + 0)) fun Z2 =>
  lt' (zI Z2 a0 1 0) fun Z3 =>
  lt' (zD Z3 a0 7 0) fun Z4 =>
  Z4
set_option maxRecDepth 100000 in
set_option maxHeartbeats 4000000 in
theorem pX7_init {a0 n : Nat} {Z Z' : Zt} (s0 : Z.1 a0 = some (20 + 7, 0)) (hlt : a0 < n) (h : fX7_init a0 n Z = Z') : Ev Z Z' a0 n 1 ∧ Z'.1 a0 = some (7, 0) := by
  have hp : PO Z a0 7 0 (n + 0) [] := ⟨s0, by omega, fun _ h => by cases h⟩
  have hv : Ev Z Z a0 n 0 := Ev.rf
  unfold fX7_init at h
  obtain ⟨Z1, eZ1, h⟩ := nm h
  have hp := hp.fr (Z' := Z1) (n' := n + 1) (by rw [eZ1]; exact FrZ.A (Nat.le_refl _)) (by omega)
  have s_r : Z1.1 (n + 0) = some (11, 256) := by rw [eZ1]; exact s2_s
  have hv : Ev Z Z1 a0 n 1 := by rw [eZ1]; exact hv.A (by omega)
  obtain ⟨Z2, eZ2, h⟩ := nm h
  have hv := hv.S (Z2 := Z2) (a := a0) (x := (20 + 7, 1)) (by rw [eZ2]; rfl) (by rw [eZ2]; exact FrZ.R (Nat.le_refl _)) (dm_of hp.1)
  have hp : PO Z2 a0 7 1 (n + 1) ((0, (n + 0), (11, 256)) :: []) := by rw [eZ2]; exact hp.r rfl s_r (by omega) (by omega)
  obtain ⟨Z3, eZ3, h⟩ := nm h
  have hv := hv.M (Z2 := Z3) (by rw [eZ3]; rfl) (by rw [eZ3]; exact FrZ.I (Nat.le_refl _))
  have hp : PO Z3 a0 7 1 (n + 1) [(0, (n + 0), (11, 256))] := by rw [eZ3]; exact hp.i
  obtain ⟨Z4, eZ4, h⟩ := nm h
  have hv := hv.S (Z2 := Z4) (a := a0) (x := (7, 0)) (by rw [eZ4]; rfl) (by rw [eZ4]; exact FrZ.D (Nat.le_refl _)) (dm_of hp.1)
  have s_a0 : Z4.1 a0 = some (7, 0) := by rw [eZ4]; exact s2_s
  subst h
  exact ⟨hv, s_a0⟩
set_option maxRecDepth 100000 in
set_option maxHeartbeats 4000000 in
theorem kX7_init {l : Launch} {D : va_G} {cA : Nat → ClassId} {tS : Nat → Nat} {A : Nat → Prop} {a0 n : Nat} {Z Z' : Zt} (hA : ∀ q, dm Z.1 q → A q) (hAn : ∀ q, n ≤ q → A q) (s0 : Z.1 a0 = some (20 + 7, 0)) (hlt : a0 < n) (h : fX7_init a0 n Z = Z') : Kt l D cA tS A yX7_init cX7_init 1 1 20 1 256 n [.ref a0] Z Z' := by
  refine Kt.of (by decide) rfl (Nat.le_of_ble_eq_true rfl) hA (fun p e s m args below meth c hsz hin hAO C => ?_)
  have hp : PO Z a0 7 0 (n + 0) [] := ⟨s0, by omega, fun _ h => by cases h⟩
  have hv : Ev Z Z a0 n 0 := Ev.rf
  unfold fX7_init at h
  refine g_aload_n C dX7_init_0 0 rfl ?_
  refine g_objInit C lmX7_3 ⟨by decide, by decide⟩ ⟨by decide, by decide⟩ dX7_init_1 ?_
  refine g_aload_n C dX7_init_4 0 rfl ?_
  refine g_sipush (v := 256) C dX7_init_5 (by decide) ?_
  refine g_newa (at0 := .int) (t := 11) (N := 256) (k0 := 0) (ty := .int) C (n + 0) (by omega) (by decide) rfl rfl (fun _ => rfl) rfl wa_int (by decide) (by decide) (by decide) ⟨by decide, by decide⟩ dX7_init_8 ?_
  obtain ⟨Z1, eZ1, h⟩ := nm h
  refine g_z eZ1 ?_
  have hp := hp.fr (Z' := Z1) (n' := n + 1) (by rw [eZ1]; exact FrZ.A (Nat.le_refl _)) (by omega)
  have s_r : Z1.1 (n + 0) = some (11, 256) := by rw [eZ1]; exact s2_s
  have hv : Ev Z Z1 a0 n 1 := by rw [eZ1]; exact hv.A (by omega)
  have C := C.up (hv.A' hA hAn)
  refine g_pRr (j := 0) (mk' := 1) C hp.1 (by decide) rfl uwX7 tyX7_ok nmX7 (by decide) rfl hin rfl lfX7_9 rfl rfl rfl (fun _ _ => rfl) (fun _ _ => Nat.le_of_ble_eq_true rfl) dX7_init_10 ?_
  obtain ⟨Z2, eZ2, h⟩ := nm h
  refine g_z eZ2 ?_
  have hv := hv.S (Z2 := Z2) (a := a0) (x := (20 + 7, 1)) (by rw [eZ2]; rfl) (by rw [eZ2]; exact FrZ.R (Nat.le_refl _)) (dm_of hp.1)
  have hp : PO Z2 a0 7 1 (n + 1) ((0, (n + 0), (11, 256)) :: []) := by rw [eZ2]; exact hp.r rfl s_r (by omega) (by omega)
  have C := C.up (hv.A' hA hAn)
  refine g_aload_n C dX7_init_13 0 rfl ?_
  refine g_iconst (v := 0) C dX7_init_14 (by decide) ?_
  refine g_pIi (j := 1) C hp.1 (by decide) rfl uwX7 tyX7_ok nmX7 (by decide) rfl lfX7_15 rfl rfl rfl (fun _ _ => rfl) (fun _ _ => Nat.le_of_ble_eq_true rfl) dX7_init_15 ?_
  obtain ⟨Z3, eZ3, h⟩ := nm h
  refine g_z eZ3 ?_
  have hv := hv.M (Z2 := Z3) (by rw [eZ3]; rfl) (by rw [eZ3]; exact FrZ.I (Nat.le_refl _))
  have hp : PO Z3 a0 7 1 (n + 1) [(0, (n + 0), (11, 256))] := by rw [eZ3]; exact hp.i
  have C := C.up (hv.A' hA hAn)
  refine g_done hp.1 (by decide) (fun _ _ => rfl) (hp.done (fun q hq => by simp only [exl, List.mem_cons, List.not_mem_nil, or_false] at hq; subst hq; exact ⟨(n + 0), by simp⟩)) ?_
  obtain ⟨Z4, eZ4, h⟩ := nm h
  refine g_z eZ4 ?_
  have hv := hv.S (Z2 := Z4) (a := a0) (x := (7, 0)) (by rw [eZ4]; rfl) (by rw [eZ4]; exact FrZ.D (Nat.le_refl _)) (dm_of hp.1)
  have s_a0 : Z4.1 a0 = some (7, 0) := by rw [eZ4]; exact s2_s
  have C := C.up (hv.A' hA hAn)
  subst h
  exact g_kret C ⟨rfl, rfl⟩ dX7_init_18

def fX8_init (a0 _n : Nat) (Z : Zt) : Zt :=
  lt' (zD Z a0 8 0) fun Z1 =>
  lt' (zM Z1 (si (si (si (si Z1.2 a0 0 0) a0 1 (-1)) a0 2 0) a0 3 0)) fun Z2 =>
  Z2
theorem eX8_reset (a0 : Nat) (μ : Mm) : fX8_reset a0 μ = some (si (si (si (si μ a0 0 0) a0 1 (-1)) a0 2 0) a0 3 0) := rfl
theorem FrZ.m4 {Z : Zt} {a0 q : Nat} (h : q ≤ a0) (v0 v1 v2 v3 : Int32) (k0 k1 k2 k3 : Nat) : FrZ Z (zM Z (si (si (si (si Z.2 a0 k0 v0) a0 k1 v1) a0 k2 v2) a0 k3 v3)) q := fun b hb => ⟨rfl, by simp only [zM, si]; rw [u2_o (by omega), u2_o (by omega), u2_o (by omega), u2_o (by omega)], rfl⟩
set_option maxRecDepth 100000 in
theorem pX8_init {a0 n : Nat} {Z Z' : Zt} (s0 : Z.1 a0 = some (20 + 8, 0)) (hlt : a0 < n) (h : fX8_init a0 n Z = Z') : Ev Z Z' a0 n 0 ∧ Z'.1 a0 = some (8, 0) := by
  unfold fX8_init at h
  obtain ⟨Z1, eZ1, h⟩ := nm h
  obtain ⟨Z2, eZ2, h⟩ := nm h
  have hv : Ev Z Z a0 n 0 := Ev.rf
  have hv := hv.S (Z2 := Z1) (a := a0) (x := (8, 0)) (by rw [eZ1]; rfl) (by rw [eZ1]; exact FrZ.D (Nat.le_refl _)) (dm_of s0)
  have hv := hv.M (Z2 := Z2) (by rw [eZ2]; rfl) (by rw [eZ2]; exact FrZ.m4 (Nat.le_refl _) _ _ _ _ _ _ _ _)
  subst h
  exact ⟨hv, by rw [eZ2]; show Z1.1 a0 = _; rw [eZ1]; exact s2_s⟩
set_option maxRecDepth 100000 in
set_option maxHeartbeats 4000000 in
theorem kX8_init {l : Launch} {D : va_G} {cA : Nat → ClassId} {tS : Nat → Nat} {A : Nat → Prop} {a0 n : Nat} {Z Z' : Zt} (hA : ∀ q, dm Z.1 q → A q) (hAn : ∀ q, n ≤ q → A q) (s0 : Z.1 a0 = some (20 + 8, 0)) (hlt : a0 < n) (h : fX8_init a0 n Z = Z') : Kt l D cA tS A yX8_init cX8_init 1 2 44 0 0 n [.ref a0] Z Z' := by
  refine Kt.of (by decide) rfl (Nat.le_of_ble_eq_true rfl) hA (fun p e s m args below meth c hsz hin hAO C => ?_)
  unfold fX8_init at h
  refine g_aload_n C dX8_init_0 0 rfl ?_
  refine g_objInit C lmX8_3 ⟨by decide, by decide⟩ ⟨by decide, by decide⟩ dX8_init_1 ?_
  refine g_aload_n C dX8_init_4 0 rfl ?_
  refine g_done s0 (by decide) (fun _ _ => rfl) (fun k sh hx => by have := ex_mem hx; cases this) ?_
  obtain ⟨Z1, eZ1, h⟩ := nm h
  refine g_z eZ1 ?_
  have hv : Ev Z Z a0 n 0 := Ev.rf
  have hv := hv.S (Z2 := Z1) (a := a0) (x := (8, 0)) (by rw [eZ1]; rfl) (by rw [eZ1]; exact FrZ.D (Nat.le_refl _)) (dm_of s0)
  have C := C.up (hv.A' hA hAn)
  have s_a0 : Z1.1 a0 = some (8, 0) := by rw [eZ1]; exact s2_s
  obtain ⟨Z2, eZ2, h⟩ := nm h
  refine g_callVV C (kX8_reset s_a0 (eX8_reset a0 Z1.2)) miX8_reset lmX8_9 s_a0 (by decide) rfl rfl rfl (Nat.le_of_ble_eq_true rfl) dX8_init_5 ⟨by decide, by decide⟩ ⟨by decide, by decide⟩ ?_
  refine g_z (Z := zM Z1 (si (si (si (si Z1.2 a0 0 0) a0 1 (-1)) a0 2 0) a0 3 0)) eZ2 ?_
  have hv := hv.M (Z2 := Z2) (by rw [eZ2]; rfl) (by rw [eZ2]; exact FrZ.m4 (Nat.le_refl _) _ _ _ _ _ _ _ _)
  have C := C.up (hv.A' hA hAn)
  subst h
  exact g_kret C ⟨rfl, rfl⟩ dX8_init_8

def fX1_init (a0 n : Nat) (Z : Zt) : Zt :=
  lt' (zN Z (n + 0) 0) fun Z1 =>
  lt' (fX0_init (n + 0) (n + 1) Z1) fun Z2 =>
  lt' (zR Z2 a0 1 1 0 (n + 0)) fun Z3 =>
  lt' (zA Z3 (n + 2) 11 4096) fun Z4 =>
  lt' (zR Z4 a0 1 3 1 (n + 2)) fun Z5 =>
  lt' (zA Z5 (n + 3) 11 4096) fun Z6 =>
  lt' (zR Z6 a0 1 7 2 (n + 3)) fun Z7 =>
  lt' (zA Z7 (n + 4) 11 4096) fun Z8 =>
  lt' (zR Z8 a0 1 15 3 (n + 4)) fun Z9 =>
  lt' (zA Z9 (n + 5) 11 4096) fun Z10 =>
  lt' (zR Z10 a0 1 31 4 (n + 5)) fun Z11 =>
  lt' (zA Z11 (n + 6) 11 4096) fun Z12 =>
  lt' (zR Z12 a0 1 63 5 (n + 6)) fun Z13 =>
  lt' (zD Z13 a0 1 0) fun Z14 =>
  Z14
set_option maxRecDepth 100000 in
set_option maxHeartbeats 4000000 in
theorem pX1_init {a0 n : Nat} {Z Z' : Zt} (s0 : Z.1 a0 = some (20 + 1, 0)) (hlt : a0 < n) (h : fX1_init a0 n Z = Z') : Ev Z Z' a0 n 7 ∧ Z'.1 a0 = some (1, 0) := by
  have hp : PO Z a0 1 0 (n + 0) [] := ⟨s0, by omega, fun _ h => by cases h⟩
  have hv : Ev Z Z a0 n 0 := Ev.rf
  unfold fX1_init at h
  obtain ⟨Z1, eZ1, h⟩ := nm h
  have hf1 : FrZ Z Z1 (n + 0) := by rw [eZ1]; exact FrZ.N (Nat.le_refl _)
  have s_q : Z1.1 (n + 0) = some (20 + 0, 0) := by rw [eZ1]; exact s2_s
  have hv : Ev Z Z1 a0 n 1 := by rw [eZ1]; exact hv.N (by omega)
  obtain ⟨Z2, eZ2, h⟩ := nm h
  have hX := pX0_init s_q (show (n + 0) < n + 1 by omega) eZ2.symm
  have hp := hp.fr (Z' := Z2) (n' := n + 2) (hf1.tr (hX.1.1)) (by omega)
  have s_r : Z2.1 (n + 0) = some (0, 0) := hX.2
  have hv : Ev Z Z2 a0 n 2 := hv.K hX.1 (by omega)
  obtain ⟨Z3, eZ3, h⟩ := nm h
  have hv := hv.S (Z2 := Z3) (a := a0) (x := (20 + 1, 1)) (by rw [eZ3]; rfl) (by rw [eZ3]; exact FrZ.R (Nat.le_refl _)) (dm_of hp.1)
  have hp : PO Z3 a0 1 1 (n + 2) ((0, (n + 0), (0, 0)) :: []) := by rw [eZ3]; exact hp.r rfl s_r (by omega) (by omega)
  obtain ⟨Z4, eZ4, h⟩ := nm h
  have hp := hp.fr (Z' := Z4) (n' := n + 3) (by rw [eZ4]; exact FrZ.A (Nat.le_refl _)) (by omega)
  have s_r : Z4.1 (n + 2) = some (11, 4096) := by rw [eZ4]; exact s2_s
  have hv : Ev Z Z4 a0 n 3 := by rw [eZ4]; exact hv.A (by omega)
  obtain ⟨Z5, eZ5, h⟩ := nm h
  have hv := hv.S (Z2 := Z5) (a := a0) (x := (20 + 1, 3)) (by rw [eZ5]; rfl) (by rw [eZ5]; exact FrZ.R (Nat.le_refl _)) (dm_of hp.1)
  have hp : PO Z5 a0 1 3 (n + 3) ((1, (n + 2), (11, 4096)) :: [(0, (n + 0), (0, 0))]) := by rw [eZ5]; exact hp.r rfl s_r (by omega) (by omega)
  obtain ⟨Z6, eZ6, h⟩ := nm h
  have hp := hp.fr (Z' := Z6) (n' := n + 4) (by rw [eZ6]; exact FrZ.A (Nat.le_refl _)) (by omega)
  have s_r : Z6.1 (n + 3) = some (11, 4096) := by rw [eZ6]; exact s2_s
  have hv : Ev Z Z6 a0 n 4 := by rw [eZ6]; exact hv.A (by omega)
  obtain ⟨Z7, eZ7, h⟩ := nm h
  have hv := hv.S (Z2 := Z7) (a := a0) (x := (20 + 1, 7)) (by rw [eZ7]; rfl) (by rw [eZ7]; exact FrZ.R (Nat.le_refl _)) (dm_of hp.1)
  have hp : PO Z7 a0 1 7 (n + 4) ((2, (n + 3), (11, 4096)) :: [(1, (n + 2), (11, 4096)), (0, (n + 0), (0, 0))]) := by rw [eZ7]; exact hp.r rfl s_r (by omega) (by omega)
  obtain ⟨Z8, eZ8, h⟩ := nm h
  have hp := hp.fr (Z' := Z8) (n' := n + 5) (by rw [eZ8]; exact FrZ.A (Nat.le_refl _)) (by omega)
  have s_r : Z8.1 (n + 4) = some (11, 4096) := by rw [eZ8]; exact s2_s
  have hv : Ev Z Z8 a0 n 5 := by rw [eZ8]; exact hv.A (by omega)
  obtain ⟨Z9, eZ9, h⟩ := nm h
  have hv := hv.S (Z2 := Z9) (a := a0) (x := (20 + 1, 15)) (by rw [eZ9]; rfl) (by rw [eZ9]; exact FrZ.R (Nat.le_refl _)) (dm_of hp.1)
  have hp : PO Z9 a0 1 15 (n + 5) ((3, (n + 4), (11, 4096)) :: [(2, (n + 3), (11, 4096)), (1, (n + 2), (11, 4096)), (0, (n + 0), (0, 0))]) := by rw [eZ9]; exact hp.r rfl s_r (by omega) (by omega)
  obtain ⟨Z10, eZ10, h⟩ := nm h
  have hp := hp.fr (Z' := Z10) (n' := n + 6) (by rw [eZ10]; exact FrZ.A (Nat.le_refl _)) (by omega)
  have s_r : Z10.1 (n + 5) = some (11, 4096) := by rw [eZ10]; exact s2_s
  have hv : Ev Z Z10 a0 n 6 := by rw [eZ10]; exact hv.A (by omega)
  obtain ⟨Z11, eZ11, h⟩ := nm h
  have hv := hv.S (Z2 := Z11) (a := a0) (x := (20 + 1, 31)) (by rw [eZ11]; rfl) (by rw [eZ11]; exact FrZ.R (Nat.le_refl _)) (dm_of hp.1)
  have hp : PO Z11 a0 1 31 (n + 6) ((4, (n + 5), (11, 4096)) :: [(3, (n + 4), (11, 4096)), (2, (n + 3), (11, 4096)), (1, (n + 2), (11, 4096)), (0, (n + 0), (0, 0))]) := by rw [eZ11]; exact hp.r rfl s_r (by omega) (by omega)
  obtain ⟨Z12, eZ12, h⟩ := nm h
  have hp := hp.fr (Z' := Z12) (n' := n + 7) (by rw [eZ12]; exact FrZ.A (Nat.le_refl _)) (by omega)
  have s_r : Z12.1 (n + 6) = some (11, 4096) := by rw [eZ12]; exact s2_s
  have hv : Ev Z Z12 a0 n 7 := by rw [eZ12]; exact hv.A (by omega)
  obtain ⟨Z13, eZ13, h⟩ := nm h
  have hv := hv.S (Z2 := Z13) (a := a0) (x := (20 + 1, 63)) (by rw [eZ13]; rfl) (by rw [eZ13]; exact FrZ.R (Nat.le_refl _)) (dm_of hp.1)
  have hp : PO Z13 a0 1 63 (n + 7) ((5, (n + 6), (11, 4096)) :: [(4, (n + 5), (11, 4096)), (3, (n + 4), (11, 4096)), (2, (n + 3), (11, 4096)), (1, (n + 2), (11, 4096)), (0, (n + 0), (0, 0))]) := by rw [eZ13]; exact hp.r rfl s_r (by omega) (by omega)
  obtain ⟨Z14, eZ14, h⟩ := nm h
  have hv := hv.S (Z2 := Z14) (a := a0) (x := (1, 0)) (by rw [eZ14]; rfl) (by rw [eZ14]; exact FrZ.D (Nat.le_refl _)) (dm_of hp.1)
  have s_a0 : Z14.1 a0 = some (1, 0) := by rw [eZ14]; exact s2_s
  subst h
  exact ⟨hv, s_a0⟩
set_option maxRecDepth 100000 in
set_option maxHeartbeats 4000000 in
theorem kX1_init {l : Launch} {D : va_G} {cA : Nat → ClassId} {tS : Nat → Nat} {A : Nat → Prop} {a0 n : Nat} {Z Z' : Zt} (hA : ∀ q, dm Z.1 q → A q) (hAn : ∀ q, n ≤ q → A q) (s0 : Z.1 a0 = some (20 + 1, 0)) (hlt : a0 < n) (h : fX1_init a0 n Z = Z') : Kt l D cA tS A yX1_init cX1_init 1 2 40 7 32483 n [.ref a0] Z Z' := by
  refine Kt.of (by decide) rfl (Nat.le_of_ble_eq_true rfl) hA (fun p e s m args below meth c hsz hin hAO C => ?_)
  have hp : PO Z a0 1 0 (n + 0) [] := ⟨s0, by omega, fun _ h => by cases h⟩
  have hv : Ev Z Z a0 n 0 := Ev.rf
  unfold fX1_init at h
  refine g_aload_n C dX1_init_0 0 rfl ?_
  refine g_objInit C lmX1_3 ⟨by decide, by decide⟩ ⟨by decide, by decide⟩ dX1_init_1 ?_
  refine g_aload_n C dX1_init_4 0 rfl ?_
  refine g_new (t := 0) C (n + 0) (by omega) (by decide) rfl uwX0 tyX0_ok lcX1_9 wnX0 wiX0 (fun rr j hj => by rcases (show j = 0 ∨ j = 1 ∨ j = 2 by omega) with rfl | rfl | rfl <;> rfl) ⟨by decide, by decide⟩ dX1_init_5 ?_
  obtain ⟨Z1, eZ1, h⟩ := nm h
  refine g_z eZ1 ?_
  have hf1 : FrZ Z Z1 (n + 0) := by rw [eZ1]; exact FrZ.N (Nat.le_refl _)
  have s_q : Z1.1 (n + 0) = some (20 + 0, 0) := by rw [eZ1]; exact s2_s
  have hv : Ev Z Z1 a0 n 1 := by rw [eZ1]; exact hv.N (by omega)
  have C := C.up (hv.A' hA hAn)
  refine g_dup C dX1_init_8 rfl ?_
  obtain ⟨Z2, eZ2, h⟩ := nm h
  have hX := pX0_init s_q (show (n + 0) < n + 1 by omega) eZ2.symm
  refine g_callK C hAO (by omega) (kX0_init (hv.A' hA hAn) (fun _ _ => hAn _ (by omega)) s_q (by omega) eZ2.symm) wcX0_init wmX0_init wiX0 rfl (by decide +kernel) lmX1_11 (Nat.le_of_ble_eq_true rfl) dX1_init_9 ⟨by decide, by decide⟩ ⟨by decide, by decide⟩ ?_ ?_
  · have hd9 : dm Z2.1 (s.heap.size + 1 + 1 - 1) := hX.1.2.1 _ (by omega) (by omega)
    cases hh : Z2.1 (s.heap.size + 1 + 1 - 1) with
    | none => exact absurd hh hd9
    | some x => exact ⟨x, rfl⟩
  have hp := hp.fr (Z' := Z2) (n' := n + 2) (hf1.tr (hX.1.1)) (by omega)
  have s_r : Z2.1 (n + 0) = some (0, 0) := hX.2
  have hv : Ev Z Z2 a0 n 2 := hv.K hX.1 (by omega)
  have C := C.up (hv.A' hA hAn)
  refine g_pRr (j := 0) (mk' := 1) C hp.1 (by decide) rfl uwX1 tyX1_ok nmX1 (by decide) rfl hin rfl lfX1_12 rfl rfl rfl (fun _ _ => rfl) (fun _ _ => Nat.le_of_ble_eq_true rfl) dX1_init_12 ?_
  obtain ⟨Z3, eZ3, h⟩ := nm h
  refine g_z eZ3 ?_
  have hv := hv.S (Z2 := Z3) (a := a0) (x := (20 + 1, 1)) (by rw [eZ3]; rfl) (by rw [eZ3]; exact FrZ.R (Nat.le_refl _)) (dm_of hp.1)
  have hp : PO Z3 a0 1 1 (n + 2) ((0, (n + 0), (0, 0)) :: []) := by rw [eZ3]; exact hp.r rfl s_r (by omega) (by omega)
  have C := C.up (hv.A' hA hAn)
  refine g_aload_n C dX1_init_15 0 rfl ?_
  refine g_sipush (v := 4096) C dX1_init_16 (by decide) ?_
  refine g_newa (at0 := .int) (t := 11) (N := 4096) (k0 := 0) (ty := .int) C (n + 2) (by omega) (by decide) rfl rfl (fun _ => rfl) rfl wa_int (by decide) (by decide) (by decide) ⟨by decide, by decide⟩ dX1_init_19 ?_
  obtain ⟨Z4, eZ4, h⟩ := nm h
  refine g_z eZ4 ?_
  have hp := hp.fr (Z' := Z4) (n' := n + 3) (by rw [eZ4]; exact FrZ.A (Nat.le_refl _)) (by omega)
  have s_r : Z4.1 (n + 2) = some (11, 4096) := by rw [eZ4]; exact s2_s
  have hv : Ev Z Z4 a0 n 3 := by rw [eZ4]; exact hv.A (by omega)
  have C := C.up (hv.A' hA hAn)
  refine g_pRr (j := 1) (mk' := 3) C hp.1 (by decide) rfl uwX1 tyX1_ok nmX1 (by decide) rfl hin rfl lfX1_18 rfl rfl rfl (fun _ _ => rfl) (fun _ _ => Nat.le_of_ble_eq_true rfl) dX1_init_21 ?_
  obtain ⟨Z5, eZ5, h⟩ := nm h
  refine g_z eZ5 ?_
  have hv := hv.S (Z2 := Z5) (a := a0) (x := (20 + 1, 3)) (by rw [eZ5]; rfl) (by rw [eZ5]; exact FrZ.R (Nat.le_refl _)) (dm_of hp.1)
  have hp : PO Z5 a0 1 3 (n + 3) ((1, (n + 2), (11, 4096)) :: [(0, (n + 0), (0, 0))]) := by rw [eZ5]; exact hp.r rfl s_r (by omega) (by omega)
  have C := C.up (hv.A' hA hAn)
  refine g_aload_n C dX1_init_24 0 rfl ?_
  refine g_sipush (v := 4096) C dX1_init_25 (by decide) ?_
  refine g_newa (at0 := .int) (t := 11) (N := 4096) (k0 := 0) (ty := .int) C (n + 3) (by omega) (by decide) rfl rfl (fun _ => rfl) rfl wa_int (by decide) (by decide) (by decide) ⟨by decide, by decide⟩ dX1_init_28 ?_
  obtain ⟨Z6, eZ6, h⟩ := nm h
  refine g_z eZ6 ?_
  have hp := hp.fr (Z' := Z6) (n' := n + 4) (by rw [eZ6]; exact FrZ.A (Nat.le_refl _)) (by omega)
  have s_r : Z6.1 (n + 3) = some (11, 4096) := by rw [eZ6]; exact s2_s
  have hv : Ev Z Z6 a0 n 4 := by rw [eZ6]; exact hv.A (by omega)
  have C := C.up (hv.A' hA hAn)
  refine g_pRr (j := 2) (mk' := 7) C hp.1 (by decide) rfl uwX1 tyX1_ok nmX1 (by decide) rfl hin rfl lfX1_22 rfl rfl rfl (fun _ _ => rfl) (fun _ _ => Nat.le_of_ble_eq_true rfl) dX1_init_30 ?_
  obtain ⟨Z7, eZ7, h⟩ := nm h
  refine g_z eZ7 ?_
  have hv := hv.S (Z2 := Z7) (a := a0) (x := (20 + 1, 7)) (by rw [eZ7]; rfl) (by rw [eZ7]; exact FrZ.R (Nat.le_refl _)) (dm_of hp.1)
  have hp : PO Z7 a0 1 7 (n + 4) ((2, (n + 3), (11, 4096)) :: [(1, (n + 2), (11, 4096)), (0, (n + 0), (0, 0))]) := by rw [eZ7]; exact hp.r rfl s_r (by omega) (by omega)
  have C := C.up (hv.A' hA hAn)
  refine g_aload_n C dX1_init_33 0 rfl ?_
  refine g_sipush (v := 4096) C dX1_init_34 (by decide) ?_
  refine g_newa (at0 := .int) (t := 11) (N := 4096) (k0 := 0) (ty := .int) C (n + 4) (by omega) (by decide) rfl rfl (fun _ => rfl) rfl wa_int (by decide) (by decide) (by decide) ⟨by decide, by decide⟩ dX1_init_37 ?_
  obtain ⟨Z8, eZ8, h⟩ := nm h
  refine g_z eZ8 ?_
  have hp := hp.fr (Z' := Z8) (n' := n + 5) (by rw [eZ8]; exact FrZ.A (Nat.le_refl _)) (by omega)
  have s_r : Z8.1 (n + 4) = some (11, 4096) := by rw [eZ8]; exact s2_s
  have hv : Ev Z Z8 a0 n 5 := by rw [eZ8]; exact hv.A (by omega)
  have C := C.up (hv.A' hA hAn)
  refine g_pRr (j := 3) (mk' := 15) C hp.1 (by decide) rfl uwX1 tyX1_ok nmX1 (by decide) rfl hin rfl lfX1_25 rfl rfl rfl (fun _ _ => rfl) (fun _ _ => Nat.le_of_ble_eq_true rfl) dX1_init_39 ?_
  obtain ⟨Z9, eZ9, h⟩ := nm h
  refine g_z eZ9 ?_
  have hv := hv.S (Z2 := Z9) (a := a0) (x := (20 + 1, 15)) (by rw [eZ9]; rfl) (by rw [eZ9]; exact FrZ.R (Nat.le_refl _)) (dm_of hp.1)
  have hp : PO Z9 a0 1 15 (n + 5) ((3, (n + 4), (11, 4096)) :: [(2, (n + 3), (11, 4096)), (1, (n + 2), (11, 4096)), (0, (n + 0), (0, 0))]) := by rw [eZ9]; exact hp.r rfl s_r (by omega) (by omega)
  have C := C.up (hv.A' hA hAn)
  refine g_aload_n C dX1_init_42 0 rfl ?_
  refine g_sipush (v := 4096) C dX1_init_43 (by decide) ?_
  refine g_newa (at0 := .int) (t := 11) (N := 4096) (k0 := 0) (ty := .int) C (n + 5) (by omega) (by decide) rfl rfl (fun _ => rfl) rfl wa_int (by decide) (by decide) (by decide) ⟨by decide, by decide⟩ dX1_init_46 ?_
  obtain ⟨Z10, eZ10, h⟩ := nm h
  refine g_z eZ10 ?_
  have hp := hp.fr (Z' := Z10) (n' := n + 6) (by rw [eZ10]; exact FrZ.A (Nat.le_refl _)) (by omega)
  have s_r : Z10.1 (n + 5) = some (11, 4096) := by rw [eZ10]; exact s2_s
  have hv : Ev Z Z10 a0 n 6 := by rw [eZ10]; exact hv.A (by omega)
  have C := C.up (hv.A' hA hAn)
  refine g_pRr (j := 4) (mk' := 31) C hp.1 (by decide) rfl uwX1 tyX1_ok nmX1 (by decide) rfl hin rfl lfX1_28 rfl rfl rfl (fun _ _ => rfl) (fun _ _ => Nat.le_of_ble_eq_true rfl) dX1_init_48 ?_
  obtain ⟨Z11, eZ11, h⟩ := nm h
  refine g_z eZ11 ?_
  have hv := hv.S (Z2 := Z11) (a := a0) (x := (20 + 1, 31)) (by rw [eZ11]; rfl) (by rw [eZ11]; exact FrZ.R (Nat.le_refl _)) (dm_of hp.1)
  have hp : PO Z11 a0 1 31 (n + 6) ((4, (n + 5), (11, 4096)) :: [(3, (n + 4), (11, 4096)), (2, (n + 3), (11, 4096)), (1, (n + 2), (11, 4096)), (0, (n + 0), (0, 0))]) := by rw [eZ11]; exact hp.r rfl s_r (by omega) (by omega)
  have C := C.up (hv.A' hA hAn)
  refine g_aload_n C dX1_init_51 0 rfl ?_
  refine g_sipush (v := 4096) C dX1_init_52 (by decide) ?_
  refine g_newa (at0 := .int) (t := 11) (N := 4096) (k0 := 0) (ty := .int) C (n + 6) (by omega) (by decide) rfl rfl (fun _ => rfl) rfl wa_int (by decide) (by decide) (by decide) ⟨by decide, by decide⟩ dX1_init_55 ?_
  obtain ⟨Z12, eZ12, h⟩ := nm h
  refine g_z eZ12 ?_
  have hp := hp.fr (Z' := Z12) (n' := n + 7) (by rw [eZ12]; exact FrZ.A (Nat.le_refl _)) (by omega)
  have s_r : Z12.1 (n + 6) = some (11, 4096) := by rw [eZ12]; exact s2_s
  have hv : Ev Z Z12 a0 n 7 := by rw [eZ12]; exact hv.A (by omega)
  have C := C.up (hv.A' hA hAn)
  refine g_pRr (j := 5) (mk' := 63) C hp.1 (by decide) rfl uwX1 tyX1_ok nmX1 (by decide) rfl hin rfl lfX1_31 rfl rfl rfl (fun _ _ => rfl) (fun _ _ => Nat.le_of_ble_eq_true rfl) dX1_init_57 ?_
  obtain ⟨Z13, eZ13, h⟩ := nm h
  refine g_z eZ13 ?_
  have hv := hv.S (Z2 := Z13) (a := a0) (x := (20 + 1, 63)) (by rw [eZ13]; rfl) (by rw [eZ13]; exact FrZ.R (Nat.le_refl _)) (dm_of hp.1)
  have hp : PO Z13 a0 1 63 (n + 7) ((5, (n + 6), (11, 4096)) :: [(4, (n + 5), (11, 4096)), (3, (n + 4), (11, 4096)), (2, (n + 3), (11, 4096)), (1, (n + 2), (11, 4096)), (0, (n + 0), (0, 0))]) := by rw [eZ13]; exact hp.r rfl s_r (by omega) (by omega)
  have C := C.up (hv.A' hA hAn)
  refine g_done hp.1 (by decide) (fun _ _ => rfl) (hp.done (fun q hq => by simp only [exl, List.mem_cons, List.not_mem_nil, or_false] at hq; rcases hq with rfl | rfl | rfl | rfl | rfl | rfl; exact ⟨(n + 0), by simp⟩; exact ⟨(n + 2), by simp⟩; exact ⟨(n + 3), by simp⟩; exact ⟨(n + 4), by simp⟩; exact ⟨(n + 5), by simp⟩; exact ⟨(n + 6), by simp⟩)) ?_
  obtain ⟨Z14, eZ14, h⟩ := nm h
  refine g_z eZ14 ?_
  have hv := hv.S (Z2 := Z14) (a := a0) (x := (1, 0)) (by rw [eZ14]; rfl) (by rw [eZ14]; exact FrZ.D (Nat.le_refl _)) (dm_of hp.1)
  have s_a0 : Z14.1 a0 = some (1, 0) := by rw [eZ14]; exact s2_s
  have C := C.up (hv.A' hA hAn)
  subst h
  exact g_kret C ⟨rfl, rfl⟩ dX1_init_60
def fX2_init (a0 n : Nat) (Z : Zt) : Zt :=
  lt' (zN Z (n + 0) 0) fun Z1 =>
  lt' (fX0_init (n + 0) (n + 1) Z1) fun Z2 =>
  lt' (zR Z2 a0 2 1 0 (n + 0)) fun Z3 =>
  lt' (zA Z3 (n + 2) 11 4096) fun Z4 =>
  lt' (zR Z4 a0 2 3 1 (n + 2)) fun Z5 =>
  lt' (zA Z5 (n + 3) 11 4096) fun Z6 =>
  lt' (zR Z6 a0 2 7 2 (n + 3)) fun Z7 =>
  lt' (zA Z7 (n + 4) 11 4096) fun Z8 =>
  lt' (zR Z8 a0 2 15 3 (n + 4)) fun Z9 =>
  lt' (zA Z9 (n + 5) 11 4096) fun Z10 =>
  lt' (zR Z10 a0 2 31 4 (n + 5)) fun Z11 =>
  lt' (zD Z11 a0 2 0) fun Z12 =>
  Z12
set_option maxRecDepth 100000 in
set_option maxHeartbeats 4000000 in
theorem pX2_init {a0 n : Nat} {Z Z' : Zt} (s0 : Z.1 a0 = some (20 + 2, 0)) (hlt : a0 < n) (h : fX2_init a0 n Z = Z') : Ev Z Z' a0 n 6 ∧ Z'.1 a0 = some (2, 0) := by
  have hp : PO Z a0 2 0 (n + 0) [] := ⟨s0, by omega, fun _ h => by cases h⟩
  have hv : Ev Z Z a0 n 0 := Ev.rf
  unfold fX2_init at h
  obtain ⟨Z1, eZ1, h⟩ := nm h
  have hf1 : FrZ Z Z1 (n + 0) := by rw [eZ1]; exact FrZ.N (Nat.le_refl _)
  have s_q : Z1.1 (n + 0) = some (20 + 0, 0) := by rw [eZ1]; exact s2_s
  have hv : Ev Z Z1 a0 n 1 := by rw [eZ1]; exact hv.N (by omega)
  obtain ⟨Z2, eZ2, h⟩ := nm h
  have hX := pX0_init s_q (show (n + 0) < n + 1 by omega) eZ2.symm
  have hp := hp.fr (Z' := Z2) (n' := n + 2) (hf1.tr (hX.1.1)) (by omega)
  have s_r : Z2.1 (n + 0) = some (0, 0) := hX.2
  have hv : Ev Z Z2 a0 n 2 := hv.K hX.1 (by omega)
  obtain ⟨Z3, eZ3, h⟩ := nm h
  have hv := hv.S (Z2 := Z3) (a := a0) (x := (20 + 2, 1)) (by rw [eZ3]; rfl) (by rw [eZ3]; exact FrZ.R (Nat.le_refl _)) (dm_of hp.1)
  have hp : PO Z3 a0 2 1 (n + 2) ((0, (n + 0), (0, 0)) :: []) := by rw [eZ3]; exact hp.r rfl s_r (by omega) (by omega)
  obtain ⟨Z4, eZ4, h⟩ := nm h
  have hp := hp.fr (Z' := Z4) (n' := n + 3) (by rw [eZ4]; exact FrZ.A (Nat.le_refl _)) (by omega)
  have s_r : Z4.1 (n + 2) = some (11, 4096) := by rw [eZ4]; exact s2_s
  have hv : Ev Z Z4 a0 n 3 := by rw [eZ4]; exact hv.A (by omega)
  obtain ⟨Z5, eZ5, h⟩ := nm h
  have hv := hv.S (Z2 := Z5) (a := a0) (x := (20 + 2, 3)) (by rw [eZ5]; rfl) (by rw [eZ5]; exact FrZ.R (Nat.le_refl _)) (dm_of hp.1)
  have hp : PO Z5 a0 2 3 (n + 3) ((1, (n + 2), (11, 4096)) :: [(0, (n + 0), (0, 0))]) := by rw [eZ5]; exact hp.r rfl s_r (by omega) (by omega)
  obtain ⟨Z6, eZ6, h⟩ := nm h
  have hp := hp.fr (Z' := Z6) (n' := n + 4) (by rw [eZ6]; exact FrZ.A (Nat.le_refl _)) (by omega)
  have s_r : Z6.1 (n + 3) = some (11, 4096) := by rw [eZ6]; exact s2_s
  have hv : Ev Z Z6 a0 n 4 := by rw [eZ6]; exact hv.A (by omega)
  obtain ⟨Z7, eZ7, h⟩ := nm h
  have hv := hv.S (Z2 := Z7) (a := a0) (x := (20 + 2, 7)) (by rw [eZ7]; rfl) (by rw [eZ7]; exact FrZ.R (Nat.le_refl _)) (dm_of hp.1)
  have hp : PO Z7 a0 2 7 (n + 4) ((2, (n + 3), (11, 4096)) :: [(1, (n + 2), (11, 4096)), (0, (n + 0), (0, 0))]) := by rw [eZ7]; exact hp.r rfl s_r (by omega) (by omega)
  obtain ⟨Z8, eZ8, h⟩ := nm h
  have hp := hp.fr (Z' := Z8) (n' := n + 5) (by rw [eZ8]; exact FrZ.A (Nat.le_refl _)) (by omega)
  have s_r : Z8.1 (n + 4) = some (11, 4096) := by rw [eZ8]; exact s2_s
  have hv : Ev Z Z8 a0 n 5 := by rw [eZ8]; exact hv.A (by omega)
  obtain ⟨Z9, eZ9, h⟩ := nm h
  have hv := hv.S (Z2 := Z9) (a := a0) (x := (20 + 2, 15)) (by rw [eZ9]; rfl) (by rw [eZ9]; exact FrZ.R (Nat.le_refl _)) (dm_of hp.1)
  have hp : PO Z9 a0 2 15 (n + 5) ((3, (n + 4), (11, 4096)) :: [(2, (n + 3), (11, 4096)), (1, (n + 2), (11, 4096)), (0, (n + 0), (0, 0))]) := by rw [eZ9]; exact hp.r rfl s_r (by omega) (by omega)
  obtain ⟨Z10, eZ10, h⟩ := nm h
  have hp := hp.fr (Z' := Z10) (n' := n + 6) (by rw [eZ10]; exact FrZ.A (Nat.le_refl _)) (by omega)
  have s_r : Z10.1 (n + 5) = some (11, 4096) := by rw [eZ10]; exact s2_s
  have hv : Ev Z Z10 a0 n 6 := by rw [eZ10]; exact hv.A (by omega)
  obtain ⟨Z11, eZ11, h⟩ := nm h
  have hv := hv.S (Z2 := Z11) (a := a0) (x := (20 + 2, 31)) (by rw [eZ11]; rfl) (by rw [eZ11]; exact FrZ.R (Nat.le_refl _)) (dm_of hp.1)
  have hp : PO Z11 a0 2 31 (n + 6) ((4, (n + 5), (11, 4096)) :: [(3, (n + 4), (11, 4096)), (2, (n + 3), (11, 4096)), (1, (n + 2), (11, 4096)), (0, (n + 0), (0, 0))]) := by rw [eZ11]; exact hp.r rfl s_r (by omega) (by omega)
  obtain ⟨Z12, eZ12, h⟩ := nm h
  have hv := hv.S (Z2 := Z12) (a := a0) (x := (2, 0)) (by rw [eZ12]; rfl) (by rw [eZ12]; exact FrZ.D (Nat.le_refl _)) (dm_of hp.1)
  have s_a0 : Z12.1 a0 = some (2, 0) := by rw [eZ12]; exact s2_s
  subst h
  exact ⟨hv, s_a0⟩
set_option maxRecDepth 100000 in
set_option maxHeartbeats 4000000 in
theorem kX2_init {l : Launch} {D : va_G} {cA : Nat → ClassId} {tS : Nat → Nat} {A : Nat → Prop} {a0 n : Nat} {Z Z' : Zt} (hA : ∀ q, dm Z.1 q → A q) (hAn : ∀ q, n ≤ q → A q) (s0 : Z.1 a0 = some (20 + 2, 0)) (hlt : a0 < n) (h : fX2_init a0 n Z = Z') : Kt l D cA tS A yX2_init cX2_init 1 2 40 6 28387 n [.ref a0] Z Z' := by
  refine Kt.of (by decide) rfl (Nat.le_of_ble_eq_true rfl) hA (fun p e s m args below meth c hsz hin hAO C => ?_)
  have hp : PO Z a0 2 0 (n + 0) [] := ⟨s0, by omega, fun _ h => by cases h⟩
  have hv : Ev Z Z a0 n 0 := Ev.rf
  unfold fX2_init at h
  refine g_aload_n C dX2_init_0 0 rfl ?_
  refine g_objInit C lmX2_3 ⟨by decide, by decide⟩ ⟨by decide, by decide⟩ dX2_init_1 ?_
  refine g_aload_n C dX2_init_4 0 rfl ?_
  refine g_new (t := 0) C (n + 0) (by omega) (by decide) rfl uwX0 tyX0_ok lcX2_9 wnX0 wiX0 (fun rr j hj => by rcases (show j = 0 ∨ j = 1 ∨ j = 2 by omega) with rfl | rfl | rfl <;> rfl) ⟨by decide, by decide⟩ dX2_init_5 ?_
  obtain ⟨Z1, eZ1, h⟩ := nm h
  refine g_z eZ1 ?_
  have hf1 : FrZ Z Z1 (n + 0) := by rw [eZ1]; exact FrZ.N (Nat.le_refl _)
  have s_q : Z1.1 (n + 0) = some (20 + 0, 0) := by rw [eZ1]; exact s2_s
  have hv : Ev Z Z1 a0 n 1 := by rw [eZ1]; exact hv.N (by omega)
  have C := C.up (hv.A' hA hAn)
  refine g_dup C dX2_init_8 rfl ?_
  obtain ⟨Z2, eZ2, h⟩ := nm h
  have hX := pX0_init s_q (show (n + 0) < n + 1 by omega) eZ2.symm
  refine g_callK C hAO (by omega) (kX0_init (hv.A' hA hAn) (fun _ _ => hAn _ (by omega)) s_q (by omega) eZ2.symm) wcX0_init wmX0_init wiX0 rfl (by decide +kernel) lmX2_11 (Nat.le_of_ble_eq_true rfl) dX2_init_9 ⟨by decide, by decide⟩ ⟨by decide, by decide⟩ ?_ ?_
  · have hd9 : dm Z2.1 (s.heap.size + 1 + 1 - 1) := hX.1.2.1 _ (by omega) (by omega)
    cases hh : Z2.1 (s.heap.size + 1 + 1 - 1) with
    | none => exact absurd hh hd9
    | some x => exact ⟨x, rfl⟩
  have hp := hp.fr (Z' := Z2) (n' := n + 2) (hf1.tr (hX.1.1)) (by omega)
  have s_r : Z2.1 (n + 0) = some (0, 0) := hX.2
  have hv : Ev Z Z2 a0 n 2 := hv.K hX.1 (by omega)
  have C := C.up (hv.A' hA hAn)
  refine g_pRr (j := 0) (mk' := 1) C hp.1 (by decide) rfl uwX2 tyX2_ok nmX2 (by decide) rfl hin rfl lfX2_12 rfl rfl rfl (fun _ _ => rfl) (fun _ _ => Nat.le_of_ble_eq_true rfl) dX2_init_12 ?_
  obtain ⟨Z3, eZ3, h⟩ := nm h
  refine g_z eZ3 ?_
  have hv := hv.S (Z2 := Z3) (a := a0) (x := (20 + 2, 1)) (by rw [eZ3]; rfl) (by rw [eZ3]; exact FrZ.R (Nat.le_refl _)) (dm_of hp.1)
  have hp : PO Z3 a0 2 1 (n + 2) ((0, (n + 0), (0, 0)) :: []) := by rw [eZ3]; exact hp.r rfl s_r (by omega) (by omega)
  have C := C.up (hv.A' hA hAn)
  refine g_aload_n C dX2_init_15 0 rfl ?_
  refine g_sipush (v := 4096) C dX2_init_16 (by decide) ?_
  refine g_newa (at0 := .int) (t := 11) (N := 4096) (k0 := 0) (ty := .int) C (n + 2) (by omega) (by decide) rfl rfl (fun _ => rfl) rfl wa_int (by decide) (by decide) (by decide) ⟨by decide, by decide⟩ dX2_init_19 ?_
  obtain ⟨Z4, eZ4, h⟩ := nm h
  refine g_z eZ4 ?_
  have hp := hp.fr (Z' := Z4) (n' := n + 3) (by rw [eZ4]; exact FrZ.A (Nat.le_refl _)) (by omega)
  have s_r : Z4.1 (n + 2) = some (11, 4096) := by rw [eZ4]; exact s2_s
  have hv : Ev Z Z4 a0 n 3 := by rw [eZ4]; exact hv.A (by omega)
  have C := C.up (hv.A' hA hAn)
  refine g_pRr (j := 1) (mk' := 3) C hp.1 (by decide) rfl uwX2 tyX2_ok nmX2 (by decide) rfl hin rfl lfX2_18 rfl rfl rfl (fun _ _ => rfl) (fun _ _ => Nat.le_of_ble_eq_true rfl) dX2_init_21 ?_
  obtain ⟨Z5, eZ5, h⟩ := nm h
  refine g_z eZ5 ?_
  have hv := hv.S (Z2 := Z5) (a := a0) (x := (20 + 2, 3)) (by rw [eZ5]; rfl) (by rw [eZ5]; exact FrZ.R (Nat.le_refl _)) (dm_of hp.1)
  have hp : PO Z5 a0 2 3 (n + 3) ((1, (n + 2), (11, 4096)) :: [(0, (n + 0), (0, 0))]) := by rw [eZ5]; exact hp.r rfl s_r (by omega) (by omega)
  have C := C.up (hv.A' hA hAn)
  refine g_aload_n C dX2_init_24 0 rfl ?_
  refine g_sipush (v := 4096) C dX2_init_25 (by decide) ?_
  refine g_newa (at0 := .int) (t := 11) (N := 4096) (k0 := 0) (ty := .int) C (n + 3) (by omega) (by decide) rfl rfl (fun _ => rfl) rfl wa_int (by decide) (by decide) (by decide) ⟨by decide, by decide⟩ dX2_init_28 ?_
  obtain ⟨Z6, eZ6, h⟩ := nm h
  refine g_z eZ6 ?_
  have hp := hp.fr (Z' := Z6) (n' := n + 4) (by rw [eZ6]; exact FrZ.A (Nat.le_refl _)) (by omega)
  have s_r : Z6.1 (n + 3) = some (11, 4096) := by rw [eZ6]; exact s2_s
  have hv : Ev Z Z6 a0 n 4 := by rw [eZ6]; exact hv.A (by omega)
  have C := C.up (hv.A' hA hAn)
  refine g_pRr (j := 2) (mk' := 7) C hp.1 (by decide) rfl uwX2 tyX2_ok nmX2 (by decide) rfl hin rfl lfX2_22 rfl rfl rfl (fun _ _ => rfl) (fun _ _ => Nat.le_of_ble_eq_true rfl) dX2_init_30 ?_
  obtain ⟨Z7, eZ7, h⟩ := nm h
  refine g_z eZ7 ?_
  have hv := hv.S (Z2 := Z7) (a := a0) (x := (20 + 2, 7)) (by rw [eZ7]; rfl) (by rw [eZ7]; exact FrZ.R (Nat.le_refl _)) (dm_of hp.1)
  have hp : PO Z7 a0 2 7 (n + 4) ((2, (n + 3), (11, 4096)) :: [(1, (n + 2), (11, 4096)), (0, (n + 0), (0, 0))]) := by rw [eZ7]; exact hp.r rfl s_r (by omega) (by omega)
  have C := C.up (hv.A' hA hAn)
  refine g_aload_n C dX2_init_33 0 rfl ?_
  refine g_sipush (v := 4096) C dX2_init_34 (by decide) ?_
  refine g_newa (at0 := .int) (t := 11) (N := 4096) (k0 := 0) (ty := .int) C (n + 4) (by omega) (by decide) rfl rfl (fun _ => rfl) rfl wa_int (by decide) (by decide) (by decide) ⟨by decide, by decide⟩ dX2_init_37 ?_
  obtain ⟨Z8, eZ8, h⟩ := nm h
  refine g_z eZ8 ?_
  have hp := hp.fr (Z' := Z8) (n' := n + 5) (by rw [eZ8]; exact FrZ.A (Nat.le_refl _)) (by omega)
  have s_r : Z8.1 (n + 4) = some (11, 4096) := by rw [eZ8]; exact s2_s
  have hv : Ev Z Z8 a0 n 5 := by rw [eZ8]; exact hv.A (by omega)
  have C := C.up (hv.A' hA hAn)
  refine g_pRr (j := 3) (mk' := 15) C hp.1 (by decide) rfl uwX2 tyX2_ok nmX2 (by decide) rfl hin rfl lfX2_25 rfl rfl rfl (fun _ _ => rfl) (fun _ _ => Nat.le_of_ble_eq_true rfl) dX2_init_39 ?_
  obtain ⟨Z9, eZ9, h⟩ := nm h
  refine g_z eZ9 ?_
  have hv := hv.S (Z2 := Z9) (a := a0) (x := (20 + 2, 15)) (by rw [eZ9]; rfl) (by rw [eZ9]; exact FrZ.R (Nat.le_refl _)) (dm_of hp.1)
  have hp : PO Z9 a0 2 15 (n + 5) ((3, (n + 4), (11, 4096)) :: [(2, (n + 3), (11, 4096)), (1, (n + 2), (11, 4096)), (0, (n + 0), (0, 0))]) := by rw [eZ9]; exact hp.r rfl s_r (by omega) (by omega)
  have C := C.up (hv.A' hA hAn)
  refine g_aload_n C dX2_init_42 0 rfl ?_
  refine g_sipush (v := 4096) C dX2_init_43 (by decide) ?_
  refine g_newa (at0 := .int) (t := 11) (N := 4096) (k0 := 0) (ty := .int) C (n + 5) (by omega) (by decide) rfl rfl (fun _ => rfl) rfl wa_int (by decide) (by decide) (by decide) ⟨by decide, by decide⟩ dX2_init_46 ?_
  obtain ⟨Z10, eZ10, h⟩ := nm h
  refine g_z eZ10 ?_
  have hp := hp.fr (Z' := Z10) (n' := n + 6) (by rw [eZ10]; exact FrZ.A (Nat.le_refl _)) (by omega)
  have s_r : Z10.1 (n + 5) = some (11, 4096) := by rw [eZ10]; exact s2_s
  have hv : Ev Z Z10 a0 n 6 := by rw [eZ10]; exact hv.A (by omega)
  have C := C.up (hv.A' hA hAn)
  refine g_pRr (j := 4) (mk' := 31) C hp.1 (by decide) rfl uwX2 tyX2_ok nmX2 (by decide) rfl hin rfl lfX2_28 rfl rfl rfl (fun _ _ => rfl) (fun _ _ => Nat.le_of_ble_eq_true rfl) dX2_init_48 ?_
  obtain ⟨Z11, eZ11, h⟩ := nm h
  refine g_z eZ11 ?_
  have hv := hv.S (Z2 := Z11) (a := a0) (x := (20 + 2, 31)) (by rw [eZ11]; rfl) (by rw [eZ11]; exact FrZ.R (Nat.le_refl _)) (dm_of hp.1)
  have hp : PO Z11 a0 2 31 (n + 6) ((4, (n + 5), (11, 4096)) :: [(3, (n + 4), (11, 4096)), (2, (n + 3), (11, 4096)), (1, (n + 2), (11, 4096)), (0, (n + 0), (0, 0))]) := by rw [eZ11]; exact hp.r rfl s_r (by omega) (by omega)
  have C := C.up (hv.A' hA hAn)
  refine g_done hp.1 (by decide) (fun _ _ => rfl) (hp.done (fun q hq => by simp only [exl, List.mem_cons, List.not_mem_nil, or_false] at hq; rcases hq with rfl | rfl | rfl | rfl | rfl; exact ⟨(n + 0), by simp⟩; exact ⟨(n + 2), by simp⟩; exact ⟨(n + 3), by simp⟩; exact ⟨(n + 4), by simp⟩; exact ⟨(n + 5), by simp⟩)) ?_
  obtain ⟨Z12, eZ12, h⟩ := nm h
  refine g_z eZ12 ?_
  have hv := hv.S (Z2 := Z12) (a := a0) (x := (2, 0)) (by rw [eZ12]; rfl) (by rw [eZ12]; exact FrZ.D (Nat.le_refl _)) (dm_of hp.1)
  have s_a0 : Z12.1 a0 = some (2, 0) := by rw [eZ12]; exact s2_s
  have C := C.up (hv.A' hA hAn)
  subst h
  exact g_kret C ⟨rfl, rfl⟩ dX2_init_51
def fX3_init (a0 n : Nat) (Z : Zt) : Zt :=
  lt' (zI Z a0 0 0) fun Z1 =>
  lt' (zI Z1 a0 1 0) fun Z2 =>
  lt' (zI Z2 a0 2 1) fun Z3 =>
  lt' (zI Z3 a0 3 1) fun Z4 =>
  lt' (zI Z4 a0 4 0) fun Z5 =>
  lt' (zN Z5 (n + 0) 7) fun Z6 =>
  lt' (fX7_init (n + 0) (n + 1) Z6) fun Z7 =>
  lt' (zR Z7 a0 3 32 5 (n + 0)) fun Z8 =>
  lt' (zN Z8 (n + 2) 8) fun Z9 =>
  lt' (fX8_init (n + 2) (n + 3) Z9) fun Z10 =>
  lt' (zR Z10 a0 3 96 6 (n + 2)) fun Z11 =>
  lt' (zA Z11 (n + 3) 11 4096) fun Z12 =>
  lt' (zR Z12 a0 3 224 7 (n + 3)) fun Z13 =>
  lt' (zD Z13 a0 3 0) fun Z14 =>
  Z14
set_option maxRecDepth 100000 in
set_option maxHeartbeats 4000000 in
theorem pX3_init {a0 n : Nat} {Z Z' : Zt} (s0 : Z.1 a0 = some (20 + 3, 0)) (hlt : a0 < n) (h : fX3_init a0 n Z = Z') : Ev Z Z' a0 n 4 ∧ Z'.1 a0 = some (3, 0) := by
  have hp : PO Z a0 3 0 (n + 0) [] := ⟨s0, by omega, fun _ h => by cases h⟩
  have hv : Ev Z Z a0 n 0 := Ev.rf
  unfold fX3_init at h
  obtain ⟨Z1, eZ1, h⟩ := nm h
  have hv := hv.M (Z2 := Z1) (by rw [eZ1]; rfl) (by rw [eZ1]; exact FrZ.I (Nat.le_refl _))
  have hp : PO Z1 a0 3 0 (n + 0) [] := by rw [eZ1]; exact hp.i
  obtain ⟨Z2, eZ2, h⟩ := nm h
  have hv := hv.M (Z2 := Z2) (by rw [eZ2]; rfl) (by rw [eZ2]; exact FrZ.I (Nat.le_refl _))
  have hp : PO Z2 a0 3 0 (n + 0) [] := by rw [eZ2]; exact hp.i
  obtain ⟨Z3, eZ3, h⟩ := nm h
  have hv := hv.M (Z2 := Z3) (by rw [eZ3]; rfl) (by rw [eZ3]; exact FrZ.I (Nat.le_refl _))
  have hp : PO Z3 a0 3 0 (n + 0) [] := by rw [eZ3]; exact hp.i
  obtain ⟨Z4, eZ4, h⟩ := nm h
  have hv := hv.M (Z2 := Z4) (by rw [eZ4]; rfl) (by rw [eZ4]; exact FrZ.I (Nat.le_refl _))
  have hp : PO Z4 a0 3 0 (n + 0) [] := by rw [eZ4]; exact hp.i
  obtain ⟨Z5, eZ5, h⟩ := nm h
  have hv := hv.M (Z2 := Z5) (by rw [eZ5]; rfl) (by rw [eZ5]; exact FrZ.I (Nat.le_refl _))
  have hp : PO Z5 a0 3 0 (n + 0) [] := by rw [eZ5]; exact hp.i
  obtain ⟨Z6, eZ6, h⟩ := nm h
  have hf1 : FrZ Z5 Z6 (n + 0) := by rw [eZ6]; exact FrZ.N (Nat.le_refl _)
  have s_q : Z6.1 (n + 0) = some (20 + 7, 0) := by rw [eZ6]; exact s2_s
  have hv : Ev Z Z6 a0 n 1 := by rw [eZ6]; exact hv.N (by omega)
  obtain ⟨Z7, eZ7, h⟩ := nm h
  have hX := pX7_init s_q (show (n + 0) < n + 1 by omega) eZ7.symm
  have hp := hp.fr (Z' := Z7) (n' := n + 2) (hf1.tr (hX.1.1)) (by omega)
  have s_r : Z7.1 (n + 0) = some (7, 0) := hX.2
  have hv : Ev Z Z7 a0 n 2 := hv.K hX.1 (by omega)
  obtain ⟨Z8, eZ8, h⟩ := nm h
  have hv := hv.S (Z2 := Z8) (a := a0) (x := (20 + 3, 32)) (by rw [eZ8]; rfl) (by rw [eZ8]; exact FrZ.R (Nat.le_refl _)) (dm_of hp.1)
  have hp : PO Z8 a0 3 32 (n + 2) ((5, (n + 0), (7, 0)) :: []) := by rw [eZ8]; exact hp.r rfl s_r (by omega) (by omega)
  obtain ⟨Z9, eZ9, h⟩ := nm h
  have hf1 : FrZ Z8 Z9 (n + 2) := by rw [eZ9]; exact FrZ.N (Nat.le_refl _)
  have s_q : Z9.1 (n + 2) = some (20 + 8, 0) := by rw [eZ9]; exact s2_s
  have hv : Ev Z Z9 a0 n 3 := by rw [eZ9]; exact hv.N (by omega)
  obtain ⟨Z10, eZ10, h⟩ := nm h
  have hX := pX8_init s_q (show (n + 2) < n + 3 by omega) eZ10.symm
  have hp := hp.fr (Z' := Z10) (n' := n + 3) (hf1.tr (hX.1.1)) (by omega)
  have s_r : Z10.1 (n + 2) = some (8, 0) := hX.2
  have hv : Ev Z Z10 a0 n 3 := hv.K hX.1 (by omega)
  obtain ⟨Z11, eZ11, h⟩ := nm h
  have hv := hv.S (Z2 := Z11) (a := a0) (x := (20 + 3, 96)) (by rw [eZ11]; rfl) (by rw [eZ11]; exact FrZ.R (Nat.le_refl _)) (dm_of hp.1)
  have hp : PO Z11 a0 3 96 (n + 3) ((6, (n + 2), (8, 0)) :: [(5, (n + 0), (7, 0))]) := by rw [eZ11]; exact hp.r rfl s_r (by omega) (by omega)
  obtain ⟨Z12, eZ12, h⟩ := nm h
  have hp := hp.fr (Z' := Z12) (n' := n + 4) (by rw [eZ12]; exact FrZ.A (Nat.le_refl _)) (by omega)
  have s_r : Z12.1 (n + 3) = some (11, 4096) := by rw [eZ12]; exact s2_s
  have hv : Ev Z Z12 a0 n 4 := by rw [eZ12]; exact hv.A (by omega)
  obtain ⟨Z13, eZ13, h⟩ := nm h
  have hv := hv.S (Z2 := Z13) (a := a0) (x := (20 + 3, 224)) (by rw [eZ13]; rfl) (by rw [eZ13]; exact FrZ.R (Nat.le_refl _)) (dm_of hp.1)
  have hp : PO Z13 a0 3 224 (n + 4) ((7, (n + 3), (11, 4096)) :: [(6, (n + 2), (8, 0)), (5, (n + 0), (7, 0))]) := by rw [eZ13]; exact hp.r rfl s_r (by omega) (by omega)
  obtain ⟨Z14, eZ14, h⟩ := nm h
  have hv := hv.S (Z2 := Z14) (a := a0) (x := (3, 0)) (by rw [eZ14]; rfl) (by rw [eZ14]; exact FrZ.D (Nat.le_refl _)) (dm_of hp.1)
  have s_a0 : Z14.1 a0 = some (3, 0) := by rw [eZ14]; exact s2_s
  subst h
  exact ⟨hv, s_a0⟩
set_option maxRecDepth 100000 in
set_option maxHeartbeats 4000000 in
theorem kX3_init {l : Launch} {D : va_G} {cA : Nat → ClassId} {tS : Nat → Nat} {A : Nat → Prop} {a0 n : Nat} {Z Z' : Zt} (hA : ∀ q, dm Z.1 q → A q) (hAn : ∀ q, n ≤ q → A q) (s0 : Z.1 a0 = some (20 + 3, 0)) (hlt : a0 < n) (h : fX3_init a0 n Z = Z') : Kt l D cA tS A yX3_init cX3_init 1 3 64 4 4358 n [.ref a0] Z Z' := by
  refine Kt.of (by decide) rfl (Nat.le_of_ble_eq_true rfl) hA (fun p e s m args below meth c hsz hin hAO C => ?_)
  have hp : PO Z a0 3 0 (n + 0) [] := ⟨s0, by omega, fun _ h => by cases h⟩
  have hv : Ev Z Z a0 n 0 := Ev.rf
  unfold fX3_init at h
  refine g_aload_n C dX3_init_0 0 rfl ?_
  refine g_objInit C lmX3_3 ⟨by decide, by decide⟩ ⟨by decide, by decide⟩ dX3_init_1 ?_
  refine g_aload_n C dX3_init_4 0 rfl ?_
  refine g_iconst (v := 0) C dX3_init_5 (by decide) ?_
  refine g_pIi (j := 0) C hp.1 (by decide) rfl uwX3 tyX3_ok nmX3 (by decide) rfl lfX3_9 rfl rfl rfl (fun _ _ => rfl) (fun _ _ => Nat.le_of_ble_eq_true rfl) dX3_init_6 ?_
  obtain ⟨Z1, eZ1, h⟩ := nm h
  refine g_z eZ1 ?_
  have hv := hv.M (Z2 := Z1) (by rw [eZ1]; rfl) (by rw [eZ1]; exact FrZ.I (Nat.le_refl _))
  have hp : PO Z1 a0 3 0 (n + 0) [] := by rw [eZ1]; exact hp.i
  have C := C.up (hv.A' hA hAn)
  refine g_aload_n C dX3_init_9 0 rfl ?_
  refine g_iconst (v := 0) C dX3_init_10 (by decide) ?_
  refine g_pIi (j := 1) C hp.1 (by decide) rfl uwX3 tyX3_ok nmX3 (by decide) rfl lfX3_15 rfl rfl rfl (fun _ _ => rfl) (fun _ _ => Nat.le_of_ble_eq_true rfl) dX3_init_11 ?_
  obtain ⟨Z2, eZ2, h⟩ := nm h
  refine g_z eZ2 ?_
  have hv := hv.M (Z2 := Z2) (by rw [eZ2]; rfl) (by rw [eZ2]; exact FrZ.I (Nat.le_refl _))
  have hp : PO Z2 a0 3 0 (n + 0) [] := by rw [eZ2]; exact hp.i
  have C := C.up (hv.A' hA hAn)
  refine g_aload_n C dX3_init_14 0 rfl ?_
  refine g_iconst (v := 1) C dX3_init_15 (by decide) ?_
  refine g_pIi (j := 2) C hp.1 (by decide) rfl uwX3 tyX3_ok nmX3 (by decide) rfl lfX3_18 rfl rfl rfl (fun _ _ => rfl) (fun _ _ => Nat.le_of_ble_eq_true rfl) dX3_init_16 ?_
  obtain ⟨Z3, eZ3, h⟩ := nm h
  refine g_z eZ3 ?_
  have hv := hv.M (Z2 := Z3) (by rw [eZ3]; rfl) (by rw [eZ3]; exact FrZ.I (Nat.le_refl _))
  have hp : PO Z3 a0 3 0 (n + 0) [] := by rw [eZ3]; exact hp.i
  have C := C.up (hv.A' hA hAn)
  refine g_aload_n C dX3_init_19 0 rfl ?_
  refine g_iconst (v := 1) C dX3_init_20 (by decide) ?_
  refine g_pIi (j := 3) C hp.1 (by decide) rfl uwX3 tyX3_ok nmX3 (by decide) rfl lfX3_21 rfl rfl rfl (fun _ _ => rfl) (fun _ _ => Nat.le_of_ble_eq_true rfl) dX3_init_21 ?_
  obtain ⟨Z4, eZ4, h⟩ := nm h
  refine g_z eZ4 ?_
  have hv := hv.M (Z2 := Z4) (by rw [eZ4]; rfl) (by rw [eZ4]; exact FrZ.I (Nat.le_refl _))
  have hp : PO Z4 a0 3 0 (n + 0) [] := by rw [eZ4]; exact hp.i
  have C := C.up (hv.A' hA hAn)
  refine g_aload_n C dX3_init_24 0 rfl ?_
  refine g_iconst (v := 0) C dX3_init_25 (by decide) ?_
  refine g_pIi (j := 4) C hp.1 (by decide) rfl uwX3 tyX3_ok nmX3 (by decide) rfl lfX3_24 rfl rfl rfl (fun _ _ => rfl) (fun _ _ => Nat.le_of_ble_eq_true rfl) dX3_init_26 ?_
  obtain ⟨Z5, eZ5, h⟩ := nm h
  refine g_z eZ5 ?_
  have hv := hv.M (Z2 := Z5) (by rw [eZ5]; rfl) (by rw [eZ5]; exact FrZ.I (Nat.le_refl _))
  have hp : PO Z5 a0 3 0 (n + 0) [] := by rw [eZ5]; exact hp.i
  have C := C.up (hv.A' hA hAn)
  refine g_aload_n C dX3_init_29 0 rfl ?_
  refine g_new (t := 7) C (n + 0) (by omega) (by decide) rfl uwX7 tyX7_ok lcX3_28 wnX7 wiX7 (fun rr j hj => by rcases (show j = 0 ∨ j = 1 by omega) with rfl | rfl <;> rfl) ⟨by decide, by decide⟩ dX3_init_30 ?_
  obtain ⟨Z6, eZ6, h⟩ := nm h
  refine g_z eZ6 ?_
  have hf1 : FrZ Z5 Z6 (n + 0) := by rw [eZ6]; exact FrZ.N (Nat.le_refl _)
  have s_q : Z6.1 (n + 0) = some (20 + 7, 0) := by rw [eZ6]; exact s2_s
  have hv : Ev Z Z6 a0 n 1 := by rw [eZ6]; exact hv.N (by omega)
  have C := C.up (hv.A' hA hAn)
  refine g_dup C dX3_init_33 rfl ?_
  obtain ⟨Z7, eZ7, h⟩ := nm h
  have hX := pX7_init s_q (show (n + 0) < n + 1 by omega) eZ7.symm
  refine g_callK C hAO (by omega) (kX7_init (hv.A' hA hAn) (fun _ _ => hAn _ (by omega)) s_q (by omega) eZ7.symm) wcX7_init wmX7_init wiX7 rfl (by decide +kernel) lmX3_30 (Nat.le_of_ble_eq_true rfl) dX3_init_34 ⟨by decide, by decide⟩ ⟨by decide, by decide⟩ ?_ ?_
  · have hd9 : dm Z7.1 (s.heap.size + 1 + 1 - 1) := hX.1.2.1 _ (by omega) (by omega)
    cases hh : Z7.1 (s.heap.size + 1 + 1 - 1) with
    | none => exact absurd hh hd9
    | some x => exact ⟨x, rfl⟩
  have hp := hp.fr (Z' := Z7) (n' := n + 2) (hf1.tr (hX.1.1)) (by omega)
  have s_r : Z7.1 (n + 0) = some (7, 0) := hX.2
  have hv : Ev Z Z7 a0 n 2 := hv.K hX.1 (by omega)
  have C := C.up (hv.A' hA hAn)
  refine g_pRr (j := 5) (mk' := 32) C hp.1 (by decide) rfl uwX3 tyX3_ok nmX3 (by decide) rfl hin rfl lfX3_31 rfl rfl rfl (fun _ _ => rfl) (fun _ _ => Nat.le_of_ble_eq_true rfl) dX3_init_37 ?_
  obtain ⟨Z8, eZ8, h⟩ := nm h
  refine g_z eZ8 ?_
  have hv := hv.S (Z2 := Z8) (a := a0) (x := (20 + 3, 32)) (by rw [eZ8]; rfl) (by rw [eZ8]; exact FrZ.R (Nat.le_refl _)) (dm_of hp.1)
  have hp : PO Z8 a0 3 32 (n + 2) ((5, (n + 0), (7, 0)) :: []) := by rw [eZ8]; exact hp.r rfl s_r (by omega) (by omega)
  have C := C.up (hv.A' hA hAn)
  refine g_aload_n C dX3_init_40 0 rfl ?_
  refine g_new (t := 8) C (n + 2) (by omega) (by decide) rfl uwX8 tyX8_ok lcX3_35 wnX8 wiX8 (fun rr j hj => by rcases (show j = 0 ∨ j = 1 ∨ j = 2 ∨ j = 3 by omega) with rfl | rfl | rfl | rfl <;> rfl) ⟨by decide, by decide⟩ dX3_init_41 ?_
  obtain ⟨Z9, eZ9, h⟩ := nm h
  refine g_z eZ9 ?_
  have hf1 : FrZ Z8 Z9 (n + 2) := by rw [eZ9]; exact FrZ.N (Nat.le_refl _)
  have s_q : Z9.1 (n + 2) = some (20 + 8, 0) := by rw [eZ9]; exact s2_s
  have hv : Ev Z Z9 a0 n 3 := by rw [eZ9]; exact hv.N (by omega)
  have C := C.up (hv.A' hA hAn)
  refine g_dup C dX3_init_44 rfl ?_
  obtain ⟨Z10, eZ10, h⟩ := nm h
  have hX := pX8_init s_q (show (n + 2) < n + 3 by omega) eZ10.symm
  refine g_callK C hAO (by omega) (kX8_init (hv.A' hA hAn) (fun _ _ => hAn _ (by omega)) s_q (by omega) eZ10.symm) wcX8_init wmX8_init wiX8 rfl (by decide +kernel) lmX3_37 (Nat.le_of_ble_eq_true rfl) dX3_init_45 ⟨by decide, by decide⟩ ⟨by decide, by decide⟩ ?_ ?_
  · have hd9 : dm Z10.1 (s.heap.size + 3 + 0 - 1) := (hX.1.2.2.2 _ (hv.2.1 _ (by omega) (by omega)))
    cases hh : Z10.1 (s.heap.size + 3 + 0 - 1) with
    | none => exact absurd hh hd9
    | some x => exact ⟨x, rfl⟩
  have hp := hp.fr (Z' := Z10) (n' := n + 3) (hf1.tr (hX.1.1)) (by omega)
  have s_r : Z10.1 (n + 2) = some (8, 0) := hX.2
  have hv : Ev Z Z10 a0 n 3 := hv.K hX.1 (by omega)
  have C := C.up (hv.A' hA hAn)
  refine g_pRr (j := 6) (mk' := 96) C hp.1 (by decide) rfl uwX3 tyX3_ok nmX3 (by decide) rfl hin rfl lfX3_38 rfl rfl rfl (fun _ _ => rfl) (fun _ _ => Nat.le_of_ble_eq_true rfl) dX3_init_48 ?_
  obtain ⟨Z11, eZ11, h⟩ := nm h
  refine g_z eZ11 ?_
  have hv := hv.S (Z2 := Z11) (a := a0) (x := (20 + 3, 96)) (by rw [eZ11]; rfl) (by rw [eZ11]; exact FrZ.R (Nat.le_refl _)) (dm_of hp.1)
  have hp : PO Z11 a0 3 96 (n + 3) ((6, (n + 2), (8, 0)) :: [(5, (n + 0), (7, 0))]) := by rw [eZ11]; exact hp.r rfl s_r (by omega) (by omega)
  have C := C.up (hv.A' hA hAn)
  refine g_aload_n C dX3_init_51 0 rfl ?_
  refine g_sipush (v := 4096) C dX3_init_52 (by decide) ?_
  refine g_newa (at0 := .int) (t := 11) (N := 4096) (k0 := 0) (ty := .int) C (n + 3) (by omega) (by decide) rfl rfl (fun _ => rfl) rfl wa_int (by decide) (by decide) (by decide) ⟨by decide, by decide⟩ dX3_init_55 ?_
  obtain ⟨Z12, eZ12, h⟩ := nm h
  refine g_z eZ12 ?_
  have hp := hp.fr (Z' := Z12) (n' := n + 4) (by rw [eZ12]; exact FrZ.A (Nat.le_refl _)) (by omega)
  have s_r : Z12.1 (n + 3) = some (11, 4096) := by rw [eZ12]; exact s2_s
  have hv : Ev Z Z12 a0 n 4 := by rw [eZ12]; exact hv.A (by omega)
  have C := C.up (hv.A' hA hAn)
  refine g_pRr (j := 7) (mk' := 224) C hp.1 (by decide) rfl uwX3 tyX3_ok nmX3 (by decide) rfl hin rfl lfX3_42 rfl rfl rfl (fun _ _ => rfl) (fun _ _ => Nat.le_of_ble_eq_true rfl) dX3_init_57 ?_
  obtain ⟨Z13, eZ13, h⟩ := nm h
  refine g_z eZ13 ?_
  have hv := hv.S (Z2 := Z13) (a := a0) (x := (20 + 3, 224)) (by rw [eZ13]; rfl) (by rw [eZ13]; exact FrZ.R (Nat.le_refl _)) (dm_of hp.1)
  have hp : PO Z13 a0 3 224 (n + 4) ((7, (n + 3), (11, 4096)) :: [(6, (n + 2), (8, 0)), (5, (n + 0), (7, 0))]) := by rw [eZ13]; exact hp.r rfl s_r (by omega) (by omega)
  have C := C.up (hv.A' hA hAn)
  refine g_done hp.1 (by decide) (fun _ _ => rfl) (hp.done (fun q hq => by simp only [exl, List.mem_cons, List.not_mem_nil, or_false] at hq; rcases hq with rfl | rfl | rfl; exact ⟨(n + 0), by simp⟩; exact ⟨(n + 2), by simp⟩; exact ⟨(n + 3), by simp⟩)) ?_
  obtain ⟨Z14, eZ14, h⟩ := nm h
  refine g_z eZ14 ?_
  have hv := hv.S (Z2 := Z14) (a := a0) (x := (3, 0)) (by rw [eZ14]; rfl) (by rw [eZ14]; exact FrZ.D (Nat.le_refl _)) (dm_of hp.1)
  have s_a0 : Z14.1 a0 = some (3, 0) := by rw [eZ14]; exact s2_s
  have C := C.up (hv.A' hA hAn)
  subst h
  exact g_kret C ⟨rfl, rfl⟩ dX3_init_60
