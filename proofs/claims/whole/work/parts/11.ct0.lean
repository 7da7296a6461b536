def fX0_init (a0 n : Nat) (Z : Zt) : Zt :=
  lt' (zA Z (n + 0) 11 12000) fun Z1 =>
  lt' (zR Z1 a0 0 1 0 (n + 0)) fun Z2 =>
  lt' (zI Z2 a0 1 0) fun Z3 =>
  lt' (zI Z3 a0 2 0) fun Z4 =>
  lt' (zD Z4 a0 0 0) fun Z5 =>
  Z5
set_option maxRecDepth 100000 in
set_option maxHeartbeats 4000000 in
theorem pX0_init {a0 n : Nat} {Z Z' : Zt} (s0 : Z.1 a0 = some (20 + 0, 0)) (hlt : a0 < n) (h : fX0_init a0 n Z = Z') : Ev Z Z' a0 n 1 ∧ Z'.1 a0 = some (0, 0) ∧ LK Z' a0 [(0, (n + 0), (11, 12000))] := by
  have hp : PO Z a0 0 0 (n + 0) [] := ⟨s0, by omega, fun _ h => by cases h⟩
  have hv : Ev Z Z a0 n 0 := Ev.rf
  unfold fX0_init at h
  obtain ⟨Z1, eZ1, h⟩ := nm h
  have hp := hp.fr (Z' := Z1) (n' := n + 1) (by rw [eZ1]; exact FrZ.A (Nat.le_refl _)) (by omega)
  have s_r : Z1.1 (n + 0) = some (11, 12000) := by rw [eZ1]; exact s2_s
  have hv : Ev Z Z1 a0 n 1 := by rw [eZ1]; exact hv.A (by omega)
  obtain ⟨Z2, eZ2, h⟩ := nm h
  have hv := hv.S (Z2 := Z2) (a := a0) (x := (20 + 0, 1)) (by rw [eZ2]; rfl) (by rw [eZ2]; exact FrZ.R (Nat.le_refl _)) (dm_of hp.1)
  have hp : PO Z2 a0 0 1 (n + 1) ((0, (n + 0), (11, 12000)) :: []) := by rw [eZ2]; exact hp.r rfl s_r (by omega) (by omega)
  obtain ⟨Z3, eZ3, h⟩ := nm h
  have hv := hv.M (Z2 := Z3) (by rw [eZ3]; rfl) (by rw [eZ3]; exact FrZ.I (Nat.le_refl _))
  have hp : PO Z3 a0 0 1 (n + 1) [(0, (n + 0), (11, 12000))] := by rw [eZ3]; exact hp.i
  obtain ⟨Z4, eZ4, h⟩ := nm h
  have hv := hv.M (Z2 := Z4) (by rw [eZ4]; rfl) (by rw [eZ4]; exact FrZ.I (Nat.le_refl _))
  have hp : PO Z4 a0 0 1 (n + 1) [(0, (n + 0), (11, 12000))] := by rw [eZ4]; exact hp.i
  obtain ⟨Z5, eZ5, h⟩ := nm h
  have hv := hv.S (Z2 := Z5) (a := a0) (x := (0, 0)) (by rw [eZ5]; rfl) (by rw [eZ5]; exact FrZ.D (Nat.le_refl _)) (dm_of hp.1)
  have s_a0 : Z5.1 a0 = some (0, 0) := by rw [eZ5]; exact s2_s
  have hlk : LK Z5 a0 [(0, (n + 0), (11, 12000))] := by rw [eZ5]; exact hp.lk
  subst h
  exact ⟨hv, s_a0, hlk⟩
set_option maxRecDepth 100000 in
set_option maxHeartbeats 4000000 in
theorem kX0_init {l : Launch} {D : va_G} {cA : Nat → ClassId} {tS : Nat → Nat} {A : Nat → Prop} {a0 n : Nat} {Z Z' : Zt} (hA : ∀ q, dm Z.1 q → A q) (hAn : ∀ q, n ≤ q → A q) (s0 : Z.1 a0 = some (20 + 0, 0)) (hlt : a0 < n) (h : fX0_init a0 n Z = Z') : Kt l D cA tS A yX0_init cX0_init 1 1 20 1 12000 n [.ref a0] Z Z' := by
  refine Kt.of (by decide) rfl (Nat.le_of_ble_eq_true rfl) hA (fun p e s m args below meth c hsz hin hAO C => ?_)
  have hp : PO Z a0 0 0 (n + 0) [] := ⟨s0, by omega, fun _ h => by cases h⟩
  have hv : Ev Z Z a0 n 0 := Ev.rf
  unfold fX0_init at h
  refine g_aload_n C dX0_init_0 0 rfl ?_
  refine g_objInit C lmX0_3 ⟨by decide, by decide⟩ ⟨by decide, by decide⟩ dX0_init_1 ?_
  refine g_aload_n C dX0_init_4 0 rfl ?_
  refine g_sipush (v := 12000) C dX0_init_5 (by decide) ?_
  refine g_newa (at0 := .int) (t := 11) (N := 12000) (k0 := 0) (ty := .int) C (n + 0) (by omega) (by decide) rfl rfl (fun _ => rfl) rfl wa_int (by decide) (by decide) (by decide) ⟨by decide, by decide⟩ dX0_init_8 ?_
  obtain ⟨Z1, eZ1, h⟩ := nm h
  refine g_z eZ1 ?_
  have hp := hp.fr (Z' := Z1) (n' := n + 1) (by rw [eZ1]; exact FrZ.A (Nat.le_refl _)) (by omega)
  have s_r : Z1.1 (n + 0) = some (11, 12000) := by rw [eZ1]; exact s2_s
  have hv : Ev Z Z1 a0 n 1 := by rw [eZ1]; exact hv.A (by omega)
  have C := C.up (hv.A' hA hAn)
  refine g_pRr (j := 0) (mk' := 1) C hp.1 (by decide) rfl uwX0 tyX0_ok nmX0 (by decide) rfl hin rfl lfX0_9 rfl rfl rfl (fun _ _ => rfl) (fun _ _ => Nat.le_of_ble_eq_true rfl) dX0_init_10 ?_
  obtain ⟨Z2, eZ2, h⟩ := nm h
  refine g_z eZ2 ?_
  have hv := hv.S (Z2 := Z2) (a := a0) (x := (20 + 0, 1)) (by rw [eZ2]; rfl) (by rw [eZ2]; exact FrZ.R (Nat.le_refl _)) (dm_of hp.1)
  have hp : PO Z2 a0 0 1 (n + 1) ((0, (n + 0), (11, 12000)) :: []) := by rw [eZ2]; exact hp.r rfl s_r (by omega) (by omega)
  have C := C.up (hv.A' hA hAn)
  refine g_aload_n C dX0_init_13 0 rfl ?_
  refine g_iconst (v := 0) C dX0_init_14 (by decide) ?_
  refine g_pIi (j := 1) C hp.1 (by decide) rfl uwX0 tyX0_ok nmX0 (by decide) rfl lfX0_15 rfl rfl rfl (fun _ _ => rfl) (fun _ _ => Nat.le_of_ble_eq_true rfl) dX0_init_15 ?_
  obtain ⟨Z3, eZ3, h⟩ := nm h
  refine g_z eZ3 ?_
  have hv := hv.M (Z2 := Z3) (by rw [eZ3]; rfl) (by rw [eZ3]; exact FrZ.I (Nat.le_refl _))
  have hp : PO Z3 a0 0 1 (n + 1) [(0, (n + 0), (11, 12000))] := by rw [eZ3]; exact hp.i
  have C := C.up (hv.A' hA hAn)
  refine g_aload_n C dX0_init_18 0 rfl ?_
  refine g_iconst (v := 0) C dX0_init_19 (by decide) ?_
  refine g_pIi (j := 2) C hp.1 (by decide) rfl uwX0 tyX0_ok nmX0 (by decide) rfl lfX0_19 rfl rfl rfl (fun _ _ => rfl) (fun _ _ => Nat.le_of_ble_eq_true rfl) dX0_init_20 ?_
  obtain ⟨Z4, eZ4, h⟩ := nm h
  refine g_z eZ4 ?_
  have hv := hv.M (Z2 := Z4) (by rw [eZ4]; rfl) (by rw [eZ4]; exact FrZ.I (Nat.le_refl _))
  have hp : PO Z4 a0 0 1 (n + 1) [(0, (n + 0), (11, 12000))] := by rw [eZ4]; exact hp.i
  have C := C.up (hv.A' hA hAn)
  refine g_done hp.1 (by decide) (fun _ _ => rfl) (hp.done (fun q hq => by simp only [exl, List.mem_cons, List.not_mem_nil, or_false] at hq; subst hq; exact ⟨(n + 0), by simp⟩)) ?_
  obtain ⟨Z5, eZ5, h⟩ := nm h
  refine g_z eZ5 ?_
  have hv := hv.S (Z2 := Z5) (a := a0) (x := (0, 0)) (by rw [eZ5]; rfl) (by rw [eZ5]; exact FrZ.D (Nat.le_refl _)) (dm_of hp.1)
  have s_a0 : Z5.1 a0 = some (0, 0) := by rw [eZ5]; exact s2_s
  have hlk : LK Z5 a0 [(0, (n + 0), (11, 12000))] := by rw [eZ5]; exact hp.lk
  have C := C.up (hv.A' hA hAn)
  subst h
  exact g_kret C ⟨rfl, rfl⟩ dX0_init_23
def fX7_init (a0 n : Nat) (Z : Zt) : Zt :=
  lt' (zA Z (n + 0) 11 256) fun Z1 =>
  lt' (zR Z1 a0 7 1 0 (n + 0)) fun Z2 =>
  lt' (zI Z2 a0 1 0) fun Z3 =>
  lt' (zD Z3 a0 7 0) fun Z4 =>
  Z4
set_option maxRecDepth 100000 in
set_option maxHeartbeats 4000000 in
theorem pX7_init {a0 n : Nat} {Z Z' : Zt} (s0 : Z.1 a0 = some (20 + 7, 0)) (hlt : a0 < n) (h : fX7_init a0 n Z = Z') : Ev Z Z' a0 n 1 ∧ Z'.1 a0 = some (7, 0) ∧ LK Z' a0 [(0, (n + 0), (11, 256))] := by
  have hp : PO Z a0 7 0 (n + 0) [] := ⟨s0, by omega, fun _ h => by cases h⟩
  have hv : Ev Z Z a0 n 0 := Ev.rf
  unfold fX7_init at h
  obtain ⟨Z1, eZ1, h⟩ := nm h
  have hp := hp.fr (Z' := Z1) (n' := n + 1) (by rw [eZ1]; exact FrZ.A (Nat.le_refl _)) (by omega)
  have s_r : Z1.1 (n + 0) = some (11, 256) := by rw [eZ1]; exact s2_s
  have hv : Ev Z Z1 a0 n 1 := by rw [eZ1]; exact hv.A (by omega)
  obtain ⟨Z2, eZ2, h⟩ := nm h
  have hv := hv.S (Z2 := Z2) (a := a0) (x := (20 + 7, 1)) (by rw [eZ2]; rfl) (by rw [eZ2]; exact FrZ.R (Nat.le_refl _)) (dm_of hp.1)
  have hp : PO Z2 a0 7 1 (n + 1) ((0, (n + 0), (11, 256)) :: []) := by rw [eZ2]; exact hp.r rfl s_r (by omega) (by omega)
  obtain ⟨Z3, eZ3, h⟩ := nm h
  have hv := hv.M (Z2 := Z3) (by rw [eZ3]; rfl) (by rw [eZ3]; exact FrZ.I (Nat.le_refl _))
  have hp : PO Z3 a0 7 1 (n + 1) [(0, (n + 0), (11, 256))] := by rw [eZ3]; exact hp.i
  obtain ⟨Z4, eZ4, h⟩ := nm h
  have hv := hv.S (Z2 := Z4) (a := a0) (x := (7, 0)) (by rw [eZ4]; rfl) (by rw [eZ4]; exact FrZ.D (Nat.le_refl _)) (dm_of hp.1)
  have s_a0 : Z4.1 a0 = some (7, 0) := by rw [eZ4]; exact s2_s
  have hlk : LK Z4 a0 [(0, (n + 0), (11, 256))] := by rw [eZ4]; exact hp.lk
  subst h
  exact ⟨hv, s_a0, hlk⟩
set_option maxRecDepth 100000 in
set_option maxHeartbeats 4000000 in
theorem kX7_init {l : Launch} {D : va_G} {cA : Nat → ClassId} {tS : Nat → Nat} {A : Nat → Prop} {a0 n : Nat} {Z Z' : Zt} (hA : ∀ q, dm Z.1 q → A q) (hAn : ∀ q, n ≤ q → A q) (s0 : Z.1 a0 = some (20 + 7, 0)) (hlt : a0 < n) (h : fX7_init a0 n Z = Z') : Kt l D cA tS A yX7_init cX7_init 1 1 20 1 256 n [.ref a0] Z Z' := by
  refine Kt.of (by decide) rfl (Nat.le_of_ble_eq_true rfl) hA (fun p e s m args below meth c hsz hin hAO C => ?_)
  have hp : PO Z a0 7 0 (n + 0) [] := ⟨s0, by omega, fun _ h => by cases h⟩
  have hv : Ev Z Z a0 n 0 := Ev.rf
  unfold fX7_init at h
  refine g_aload_n C dX7_init_0 0 rfl ?_
  refine g_objInit C lmX7_3 ⟨by decide, by decide⟩ ⟨by decide, by decide⟩ dX7_init_1 ?_
  refine g_aload_n C dX7_init_4 0 rfl ?_
  refine g_sipush (v := 256) C dX7_init_5 (by decide) ?_
  refine g_newa (at0 := .int) (t := 11) (N := 256) (k0 := 0) (ty := .int) C (n + 0) (by omega) (by decide) rfl rfl (fun _ => rfl) rfl wa_int (by decide) (by decide) (by decide) ⟨by decide, by decide⟩ dX7_init_8 ?_
  obtain ⟨Z1, eZ1, h⟩ := nm h
  refine g_z eZ1 ?_
  have hp := hp.fr (Z' := Z1) (n' := n + 1) (by rw [eZ1]; exact FrZ.A (Nat.le_refl _)) (by omega)
  have s_r : Z1.1 (n + 0) = some (11, 256) := by rw [eZ1]; exact s2_s
  have hv : Ev Z Z1 a0 n 1 := by rw [eZ1]; exact hv.A (by omega)
  have C := C.up (hv.A' hA hAn)
  refine g_pRr (j := 0) (mk' := 1) C hp.1 (by decide) rfl uwX7 tyX7_ok nmX7 (by decide) rfl hin rfl lfX7_9 rfl rfl rfl (fun _ _ => rfl) (fun _ _ => Nat.le_of_ble_eq_true rfl) dX7_init_10 ?_
  obtain ⟨Z2, eZ2, h⟩ := nm h
  refine g_z eZ2 ?_
  have hv := hv.S (Z2 := Z2) (a := a0) (x := (20 + 7, 1)) (by rw [eZ2]; rfl) (by rw [eZ2]; exact FrZ.R (Nat.le_refl _)) (dm_of hp.1)
  have hp : PO Z2 a0 7 1 (n + 1) ((0, (n + 0), (11, 256)) :: []) := by rw [eZ2]; exact hp.r rfl s_r (by omega) (by omega)
  have C := C.up (hv.A' hA hAn)
  refine g_aload_n C dX7_init_13 0 rfl ?_
  refine g_iconst (v := 0) C dX7_init_14 (by decide) ?_
  refine g_pIi (j := 1) C hp.1 (by decide) rfl uwX7 tyX7_ok nmX7 (by decide) rfl lfX7_15 rfl rfl rfl (fun _ _ => rfl) (fun _ _ => Nat.le_of_ble_eq_true rfl) dX7_init_15 ?_
  obtain ⟨Z3, eZ3, h⟩ := nm h
  refine g_z eZ3 ?_
  have hv := hv.M (Z2 := Z3) (by rw [eZ3]; rfl) (by rw [eZ3]; exact FrZ.I (Nat.le_refl _))
  have hp : PO Z3 a0 7 1 (n + 1) [(0, (n + 0), (11, 256))] := by rw [eZ3]; exact hp.i
  have C := C.up (hv.A' hA hAn)
  refine g_done hp.1 (by decide) (fun _ _ => rfl) (hp.done (fun q hq => by simp only [exl, List.mem_cons, List.not_mem_nil, or_false] at hq; subst hq; exact ⟨(n + 0), by simp⟩)) ?_
  obtain ⟨Z4, eZ4, h⟩ := nm h
  refine g_z eZ4 ?_
  have hv := hv.S (Z2 := Z4) (a := a0) (x := (7, 0)) (by rw [eZ4]; rfl) (by rw [eZ4]; exact FrZ.D (Nat.le_refl _)) (dm_of hp.1)
  have s_a0 : Z4.1 a0 = some (7, 0) := by rw [eZ4]; exact s2_s
  have hlk : LK Z4 a0 [(0, (n + 0), (11, 256))] := by rw [eZ4]; exact hp.lk
  have C := C.up (hv.A' hA hAn)
  subst h
  exact g_kret C ⟨rfl, rfl⟩ dX7_init_18

def fX8_init (a0 _n : Nat) (Z : Zt) : Zt :=
  lt' (zD Z a0 8 0) fun Z1 =>
  lt' (zM Z1 (si (si (si (si Z1.2 a0 0 0) a0 1 (-1)) a0 2 0) a0 3 0)) fun Z2 =>
  Z2
theorem eX8_reset (a0 : Nat) (μ : Mm) : fX8_reset a0 μ = some (si (si (si (si μ a0 0 0) a0 1 (-1)) a0 2 0) a0 3 0) := rfl
theorem FrZ.m4 {Z : Zt} {a0 q : Nat} (h : q ≤ a0) (v0 v1 v2 v3 : Int32) (k0 k1 k2 k3 : Nat) : FrZ Z (zM Z (si (si (si (si Z.2 a0 k0 v0) a0 k1 v1) a0 k2 v2) a0 k3 v3)) q := fun b hb => ⟨rfl, by simp only [zM, si]; rw [u2_o (by omega), u2_o (by omega), u2_o (by omega), u2_o (by omega)], rfl⟩
set_option maxRecDepth 100000 in
theorem pX8_init {a0 n : Nat} {Z Z' : Zt} (s0 : Z.1 a0 = some (20 + 8, 0)) (hlt : a0 < n) (h : fX8_init a0 n Z = Z') : Ev Z Z' a0 n 0 ∧ Z'.1 a0 = some (8, 0) ∧ LK Z' a0 [] := by
  unfold fX8_init at h
  obtain ⟨Z1, eZ1, h⟩ := nm h
  obtain ⟨Z2, eZ2, h⟩ := nm h
  have hv : Ev Z Z a0 n 0 := Ev.rf
  have hv := hv.S (Z2 := Z1) (a := a0) (x := (8, 0)) (by rw [eZ1]; rfl) (by rw [eZ1]; exact FrZ.D (Nat.le_refl _)) (dm_of s0)
  have hv := hv.M (Z2 := Z2) (by rw [eZ2]; rfl) (by rw [eZ2]; exact FrZ.m4 (Nat.le_refl _) _ _ _ _ _ _ _ _)
  subst h
  exact ⟨hv, by rw [eZ2]; show Z1.1 a0 = _; rw [eZ1]; exact s2_s, fun _ h => by cases h⟩
set_option maxRecDepth 100000 in
set_option maxHeartbeats 4000000 in
theorem kX8_init {l : Launch} {D : va_G} {cA : Nat → ClassId} {tS : Nat → Nat} {A : Nat → Prop} {a0 n : Nat} {Z Z' : Zt} (hA : ∀ q, dm Z.1 q → A q) (hAn : ∀ q, n ≤ q → A q) (s0 : Z.1 a0 = some (20 + 8, 0)) (hlt : a0 < n) (h : fX8_init a0 n Z = Z') : Kt l D cA tS A yX8_init cX8_init 1 2 44 0 0 n [.ref a0] Z Z' := by
  refine Kt.of (by decide) rfl (Nat.le_of_ble_eq_true rfl) hA (fun p e s m args below meth c hsz hin hAO C => ?_)
  unfold fX8_init at h
  refine g_aload_n C dX8_init_0 0 rfl ?_
  refine g_objInit C lmX8_3 ⟨by decide, by decide⟩ ⟨by decide, by decide⟩ dX8_init_1 ?_
  refine g_aload_n C dX8_init_4 0 rfl ?_
  refine g_done s0 (by decide) (fun _ _ => rfl) (fun k sh hx => by have := ex_mem hx; cases this) ?_
  obtain ⟨Z1, eZ1, h⟩ := nm h
  refine g_z eZ1 ?_
  have hv : Ev Z Z a0 n 0 := Ev.rf
  have hv := hv.S (Z2 := Z1) (a := a0) (x := (8, 0)) (by rw [eZ1]; rfl) (by rw [eZ1]; exact FrZ.D (Nat.le_refl _)) (dm_of s0)
  have C := C.up (hv.A' hA hAn)
  have s_a0 : Z1.1 a0 = some (8, 0) := by rw [eZ1]; exact s2_s
  obtain ⟨Z2, eZ2, h⟩ := nm h
  refine g_callVV C (kX8_reset s_a0 (eX8_reset a0 Z1.2)) miX8_reset lmX8_9 s_a0 (by decide) rfl rfl rfl (Nat.le_of_ble_eq_true rfl) dX8_init_5 ⟨by decide, by decide⟩ ⟨by decide, by decide⟩ ?_
  refine g_z (Z := zM Z1 (si (si (si (si Z1.2 a0 0 0) a0 1 (-1)) a0 2 0) a0 3 0)) eZ2 ?_
  have hv := hv.M (Z2 := Z2) (by rw [eZ2]; rfl) (by rw [eZ2]; exact FrZ.m4 (Nat.le_refl _) _ _ _ _ _ _ _ _)
  have C := C.up (hv.A' hA hAn)
  subst h
  exact g_kret C ⟨rfl, rfl⟩ dX8_init_8

def fX1_init (a0 n : Nat) (Z : Zt) : Zt :=
  lt' (zN Z (n + 0) 0) fun Z1 =>
  lt' (fX0_init (n + 0) (n + 1) Z1) fun Z2 =>
  lt' (zR Z2 a0 1 1 0 (n + 0)) fun Z3 =>
  lt' (zA Z3 (n + 2) 11 4096) fun Z4 =>
  lt' (zR Z4 a0 1 3 1 (n + 2)) fun Z5 =>
  lt' (zA Z5 (n + 3) 11 4096) fun Z6 =>
  lt' (zR Z6 a0 1 7 2 (n + 3)) fun Z7 =>
  lt' (zA Z7 (n + 4) 11 4096) fun Z8 =>
  lt' (zR Z8 a0 1 15 3 (n + 4)) fun Z9 =>
  lt' (zA Z9 (n + 5) 11 4096) fun Z10 =>
  lt' (zR Z10 a0 1 31 4 (n + 5)) fun Z11 =>
  lt' (zA Z11 (n + 6) 11 4096) fun Z12 =>
  lt' (zR Z12 a0 1 63 5 (n + 6)) fun Z13 =>
  lt' (zD Z13 a0 1 0) fun Z14 =>
  Z14
set_option maxRecDepth 100000 in
set_option maxHeartbeats 4000000 in
theorem pX1_init {a0 n : Nat} {Z Z' : Zt} (s0 : Z.1 a0 = some (20 + 1, 0)) (hlt : a0 < n) (h : fX1_init a0 n Z = Z') : Ev Z Z' a0 n 7 ∧ Z'.1 a0 = some (1, 0) ∧ LK Z' a0 [(5, (n + 6), (11, 4096)), (4, (n + 5), (11, 4096)), (3, (n + 4), (11, 4096)), (2, (n + 3), (11, 4096)), (1, (n + 2), (11, 4096)), (0, (n + 0), (0, 0))] := by
  have hp : PO Z a0 1 0 (n + 0) [] := ⟨s0, by omega, fun _ h => by cases h⟩
  have hv : Ev Z Z a0 n 0 := Ev.rf
  unfold fX1_init at h
  obtain ⟨Z1, eZ1, h⟩ := nm h
  have hf1 : FrZ Z Z1 (n + 0) := by rw [eZ1]; exact FrZ.N (Nat.le_refl _)
  have s_q : Z1.1 (n + 0) = some (20 + 0, 0) := by rw [eZ1]; exact s2_s
  have hv : Ev Z Z1 a0 n 1 := by rw [eZ1]; exact hv.N (by omega)
  obtain ⟨Z2, eZ2, h⟩ := nm h
  have hX := pX0_init s_q (show (n + 0) < n + 1 by omega) eZ2.symm
  have hp := hp.fr (Z' := Z2) (n' := n + 2) (hf1.tr (hX.1.1)) (by omega)
  have s_r : Z2.1 (n + 0) = some (0, 0) := hX.2.1
  have hlr := hX.2.2
  have hv : Ev Z Z2 a0 n 2 := hv.K hX.1 (by omega)
  obtain ⟨Z3, eZ3, h⟩ := nm h
  have hv := hv.S (Z2 := Z3) (a := a0) (x := (20 + 1, 1)) (by rw [eZ3]; rfl) (by rw [eZ3]; exact FrZ.R (Nat.le_refl _)) (dm_of hp.1)
  have hp : PO Z3 a0 1 1 (n + 2) ((0, (n + 0), (0, 0)) :: []) := by rw [eZ3]; exact hp.r rfl s_r (by omega) (by omega)
  obtain ⟨Z4, eZ4, h⟩ := nm h
  have hp := hp.fr (Z' := Z4) (n' := n + 3) (by rw [eZ4]; exact FrZ.A (Nat.le_refl _)) (by omega)
  have s_r : Z4.1 (n + 2) = some (11, 4096) := by rw [eZ4]; exact s2_s
  have hv : Ev Z Z4 a0 n 3 := by rw [eZ4]; exact hv.A (by omega)
  obtain ⟨Z5, eZ5, h⟩ := nm h
  have hv := hv.S (Z2 := Z5) (a := a0) (x := (20 + 1, 3)) (by rw [eZ5]; rfl) (by rw [eZ5]; exact FrZ.R (Nat.le_refl _)) (dm_of hp.1)
  have hp : PO Z5 a0 1 3 (n + 3) ((1, (n + 2), (11, 4096)) :: [(0, (n + 0), (0, 0))]) := by rw [eZ5]; exact hp.r rfl s_r (by omega) (by omega)
  obtain ⟨Z6, eZ6, h⟩ := nm h
  have hp := hp.fr (Z' := Z6) (n' := n + 4) (by rw [eZ6]; exact FrZ.A (Nat.le_refl _)) (by omega)
  have s_r : Z6.1 (n + 3) = some (11, 4096) := by rw [eZ6]; exact s2_s
  have hv : Ev Z Z6 a0 n 4 := by rw [eZ6]; exact hv.A (by omega)
  obtain ⟨Z7, eZ7, h⟩ := nm h
  have hv := hv.S (Z2 := Z7) (a := a0) (x := (20 + 1, 7)) (by rw [eZ7]; rfl) (by rw [eZ7]; exact FrZ.R (Nat.le_refl _)) (dm_of hp.1)
  have hp : PO Z7 a0 1 7 (n + 4) ((2, (n + 3), (11, 4096)) :: [(1, (n + 2), (11, 4096)), (0, (n + 0), (0, 0))]) := by rw [eZ7]; exact hp.r rfl s_r (by omega) (by omega)
  obtain ⟨Z8, eZ8, h⟩ := nm h
  have hp := hp.fr (Z' := Z8) (n' := n + 5) (by rw [eZ8]; exact FrZ.A (Nat.le_refl _)) (by omega)
  have s_r : Z8.1 (n + 4) = some (11, 4096) := by rw [eZ8]; exact s2_s
  have hv : Ev Z Z8 a0 n 5 := by rw [eZ8]; exact hv.A (by omega)
  obtain ⟨Z9, eZ9, h⟩ := nm h
  have hv := hv.S (Z2 := Z9) (a := a0) (x := (20 + 1, 15)) (by rw [eZ9]; rfl) (by rw [eZ9]; exact FrZ.R (Nat.le_refl _)) (dm_of hp.1)
  have hp : PO Z9 a0 1 15 (n + 5) ((3, (n + 4), (11, 4096)) :: [(2, (n + 3), (11, 4096)), (1, (n + 2), (11, 4096)), (0, (n + 0), (0, 0))]) := by rw [eZ9]; exact hp.r rfl s_r (by omega) (by omega)
  obtain ⟨Z10, eZ10, h⟩ := nm h
  have hp := hp.fr (Z' := Z10) (n' := n + 6) (by rw [eZ10]; exact FrZ.A (Nat.le_refl _)) (by omega)
  have s_r : Z10.1 (n + 5) = some (11, 4096) := by rw [eZ10]; exact s2_s
  have hv : Ev Z Z10 a0 n 6 := by rw [eZ10]; exact hv.A (by omega)
  obtain ⟨Z11, eZ11, h⟩ := nm h
  have hv := hv.S (Z2 := Z11) (a := a0) (x := (20 + 1, 31)) (by rw [eZ11]; rfl) (by rw [eZ11]; exact FrZ.R (Nat.le_refl _)) (dm_of hp.1)
  have hp : PO Z11 a0 1 31 (n + 6) ((4, (n + 5), (11, 4096)) :: [(3, (n + 4), (11, 4096)), (2, (n + 3), (11, 4096)), (1, (n + 2), (11, 4096)), (0, (n + 0), (0, 0))]) := by rw [eZ11]; exact hp.r rfl s_r (by omega) (by omega)
  obtain ⟨Z12, eZ12, h⟩ := nm h
  have hp := hp.fr (Z' := Z12) (n' := n + 7) (by rw [eZ12]; exact FrZ.A (Nat.le_refl _)) (by omega)
  have s_r : Z12.1 (n + 6) = some (11, 4096) := by rw [eZ12]; exact s2_s
  have hv : Ev Z Z12 a0 n 7 := by rw [eZ12]; exact hv.A (by omega)
  obtain ⟨Z13, eZ13, h⟩ := nm h
  have hv := hv.S (Z2 := Z13) (a := a0) (x := (20 + 1, 63)) (by rw [eZ13]; rfl) (by rw [eZ13]; exact FrZ.R (Nat.le_refl _)) (dm_of hp.1)
  have hp : PO Z13 a0 1 63 (n + 7) ((5, (n + 6), (11, 4096)) :: [(4, (n + 5), (11, 4096)), (3, (n + 4), (11, 4096)), (2, (n + 3), (11, 4096)), (1, (n + 2), (11, 4096)), (0, (n + 0), (0, 0))]) := by rw [eZ13]; exact hp.r rfl s_r (by omega) (by omega)
  obtain ⟨Z14, eZ14, h⟩ := nm h
  have hv := hv.S (Z2 := Z14) (a := a0) (x := (1, 0)) (by rw [eZ14]; rfl) (by rw [eZ14]; exact FrZ.D (Nat.le_refl _)) (dm_of hp.1)
  have s_a0 : Z14.1 a0 = some (1, 0) := by rw [eZ14]; exact s2_s
  have hlk : LK Z14 a0 [(5, (n + 6), (11, 4096)), (4, (n + 5), (11, 4096)), (3, (n + 4), (11, 4096)), (2, (n + 3), (11, 4096)), (1, (n + 2), (11, 4096)), (0, (n + 0), (0, 0))] := by rw [eZ14]; exact hp.lk
  subst h
  exact ⟨hv, s_a0, hlk⟩
set_option maxRecDepth 100000 in
set_option maxHeartbeats 4000000 in
theorem kX1_init {l : Launch} {D : va_G} {cA : Nat → ClassId} {tS : Nat → Nat} {A : Nat → Prop} {a0 n : Nat} {Z Z' : Zt} (hA : ∀ q, dm Z.1 q → A q) (hAn : ∀ q, n ≤ q → A q) (s0 : Z.1 a0 = some (20 + 1, 0)) (hlt : a0 < n) (h : fX1_init a0 n Z = Z') : Kt l D cA tS A yX1_init cX1_init 1 2 40 7 32483 n [.ref a0] Z Z' := by
  refine Kt.of (by decide) rfl (Nat.le_of_ble_eq_true rfl) hA (fun p e s m args below meth c hsz hin hAO C => ?_)
  have hp : PO Z a0 1 0 (n + 0) [] := ⟨s0, by omega, fun _ h => by cases h⟩
  have hv : Ev Z Z a0 n 0 := Ev.rf
  unfold fX1_init at h
  refine g_aload_n C dX1_init_0 0 rfl ?_
  refine g_objInit C lmX1_3 ⟨by decide, by decide⟩ ⟨by decide, by decide⟩ dX1_init_1 ?_
  refine g_aload_n C dX1_init_4 0 rfl ?_
  refine g_new (t := 0) C (n + 0) (by omega) (by decide) rfl uwX0 tyX0_ok lcX1_9 wnX0 wiX0 (fun rr j hj => by rcases (show j = 0 ∨ j = 1 ∨ j = 2 by omega) with rfl | rfl | rfl <;> rfl) ⟨by decide, by decide⟩ dX1_init_5 ?_
  obtain ⟨Z1, eZ1, h⟩ := nm h
  refine g_z eZ1 ?_
  have hf1 : FrZ Z Z1 (n + 0) := by rw [eZ1]; exact FrZ.N (Nat.le_refl _)
  have s_q : Z1.1 (n + 0) = some (20 + 0, 0) := by rw [eZ1]; exact s2_s
  have hv : Ev Z Z1 a0 n 1 := by rw [eZ1]; exact hv.N (by omega)
  have C := C.up (hv.A' hA hAn)
  refine g_dup C dX1_init_8 rfl ?_
  obtain ⟨Z2, eZ2, h⟩ := nm h
  have hX := pX0_init s_q (show (n + 0) < n + 1 by omega) eZ2.symm
  refine g_callK C hAO (by omega) (kX0_init (hv.A' hA hAn) (fun _ _ => hAn _ (by omega)) s_q (by omega) eZ2.symm) wcX0_init wmX0_init wiX0 rfl (by decide +kernel) lmX1_11 (Nat.le_of_ble_eq_true rfl) dX1_init_9 ⟨by decide, by decide⟩ ⟨by decide, by decide⟩ ?_ ?_
  · have hd9 : dm Z2.1 (s.heap.size + 1 + 1 - 1) := hX.1.2.1 _ (by omega) (by omega)
    cases hh : Z2.1 (s.heap.size + 1 + 1 - 1) with
    | none => exact absurd hh hd9
    | some x => exact ⟨x, rfl⟩
  have hp := hp.fr (Z' := Z2) (n' := n + 2) (hf1.tr (hX.1.1)) (by omega)
  have s_r : Z2.1 (n + 0) = some (0, 0) := hX.2.1
  have hlr := hX.2.2
  have hv : Ev Z Z2 a0 n 2 := hv.K hX.1 (by omega)
  have C := C.up (hv.A' hA hAn)
  refine g_pRr (j := 0) (mk' := 1) C hp.1 (by decide) rfl uwX1 tyX1_ok nmX1 (by decide) rfl hin rfl lfX1_12 rfl rfl rfl (fun _ _ => rfl) (fun _ _ => Nat.le_of_ble_eq_true rfl) dX1_init_12 ?_
  obtain ⟨Z3, eZ3, h⟩ := nm h
  refine g_z eZ3 ?_
  have hv := hv.S (Z2 := Z3) (a := a0) (x := (20 + 1, 1)) (by rw [eZ3]; rfl) (by rw [eZ3]; exact FrZ.R (Nat.le_refl _)) (dm_of hp.1)
  have hp : PO Z3 a0 1 1 (n + 2) ((0, (n + 0), (0, 0)) :: []) := by rw [eZ3]; exact hp.r rfl s_r (by omega) (by omega)
  have C := C.up (hv.A' hA hAn)
  refine g_aload_n C dX1_init_15 0 rfl ?_
  refine g_sipush (v := 4096) C dX1_init_16 (by decide) ?_
  refine g_newa (at0 := .int) (t := 11) (N := 4096) (k0 := 0) (ty := .int) C (n + 2) (by omega) (by decide) rfl rfl (fun _ => rfl) rfl wa_int (by decide) (by decide) (by decide) ⟨by decide, by decide⟩ dX1_init_19 ?_
  obtain ⟨Z4, eZ4, h⟩ := nm h
  refine g_z eZ4 ?_
  have hp := hp.fr (Z' := Z4) (n' := n + 3) (by rw [eZ4]; exact FrZ.A (Nat.le_refl _)) (by omega)
  have s_r : Z4.1 (n + 2) = some (11, 4096) := by rw [eZ4]; exact s2_s
  have hv : Ev Z Z4 a0 n 3 := by rw [eZ4]; exact hv.A (by omega)
  have C := C.up (hv.A' hA hAn)
  refine g_pRr (j := 1) (mk' := 3) C hp.1 (by decide) rfl uwX1 tyX1_ok nmX1 (by decide) rfl hin rfl lfX1_18 rfl rfl rfl (fun _ _ => rfl) (fun _ _ => Nat.le_of_ble_eq_true rfl) dX1_init_21 ?_
  obtain ⟨Z5, eZ5, h⟩ := nm h
  refine g_z eZ5 ?_
  have hv := hv.S (Z2 := Z5) (a := a0) (x := (20 + 1, 3)) (by rw [eZ5]; rfl) (by rw [eZ5]; exact FrZ.R (Nat.le_refl _)) (dm_of hp.1)
  have hp : PO Z5 a0 1 3 (n + 3) ((1, (n + 2), (11, 4096)) :: [(0, (n + 0), (0, 0))]) := by rw [eZ5]; exact hp.r rfl s_r (by omega) (by omega)
  have C := C.up (hv.A' hA hAn)
  refine g_aload_n C dX1_init_24 0 rfl ?_
  refine g_sipush (v := 4096) C dX1_init_25 (by decide) ?_
  refine g_newa (at0 := .int) (t := 11) (N := 4096) (k0 := 0) (ty := .int) C (n + 3) (by omega) (by decide) rfl rfl (fun _ => rfl) rfl wa_int (by decide) (by decide) (by decide) ⟨by decide, by decide⟩ dX1_init_28 ?_
  obtain ⟨Z6, eZ6, h⟩ := nm h
  refine g_z eZ6 ?_
  have hp := hp.fr (Z' := Z6) (n' := n + 4) (by rw [eZ6]; exact FrZ.A (Nat.le_refl _)) (by omega)
  have s_r : Z6.1 (n + 3) = some (11, 4096) := by rw [eZ6]; exact s2_s
  have hv : Ev Z Z6 a0 n 4 := by rw [eZ6]; exact hv.A (by omega)
  have C := C.up (hv.A' hA hAn)
  refine g_pRr (j := 2) (mk' := 7) C hp.1 (by decide) rfl uwX1 tyX1_ok nmX1 (by decide) rfl hin rfl lfX1_22 rfl rfl rfl (fun _ _ => rfl) (fun _ _ => Nat.le_of_ble_eq_true rfl) dX1_init_30 ?_
  obtain ⟨Z7, eZ7, h⟩ := nm h
  refine g_z eZ7 ?_
  have hv := hv.S (Z2 := Z7) (a := a0) (x := (20 + 1, 7)) (by rw [eZ7]; rfl) (by rw [eZ7]; exact FrZ.R (Nat.le_refl _)) (dm_of hp.1)
  have hp : PO Z7 a0 1 7 (n + 4) ((2, (n + 3), (11, 4096)) :: [(1, (n + 2), (11, 4096)), (0, (n + 0), (0, 0))]) := by rw [eZ7]; exact hp.r rfl s_r (by omega) (by omega)
  have C := C.up (hv.A' hA hAn)
  refine g_aload_n C dX1_init_33 0 rfl ?_
  refine g_sipush (v := 4096) C dX1_init_34 (by decide) ?_
  refine g_newa (at0 := .int) (t := 11) (N := 4096) (k0 := 0) (ty := .int) C (n + 4) (by omega) (by decide) rfl rfl (fun _ => rfl) rfl wa_int (by decide) (by decide) (by decide) ⟨by decide, by decide⟩ dX1_init_37 ?_
  obtain ⟨Z8, eZ8, h⟩ := nm h
  refine g_z eZ8 ?_
  have hp := hp.fr (Z' := Z8) (n' := n + 5) (by rw [eZ8]; exact FrZ.A (Nat.le_refl _)) (by omega)
  have s_r : Z8.1 (n + 4) = some (11, 4096) := by rw [eZ8]; exact s2_s
  have hv : Ev Z Z8 a0 n 5 := by rw [eZ8]; exact hv.A (by omega)
  have C := C.up (hv.A' hA hAn)
  refine g_pRr (j := 3) (mk' := 15) C hp.1 (by decide) rfl uwX1 tyX1_ok nmX1 (by decide) rfl hin rfl lfX1_25 rfl rfl rfl (fun _ _ => rfl) (fun _ _ => Nat.le_of_ble_eq_true rfl) dX1_init_39 ?_
  obtain ⟨Z9, eZ9, h⟩ := nm h
  refine g_z eZ9 ?_
  have hv := hv.S (Z2 := Z9) (a := a0) (x := (20 + 1, 15)) (by rw [eZ9]; rfl) (by rw [eZ9]; exact FrZ.R (Nat.le_refl _)) (dm_of hp.1)
  have hp : PO Z9 a0 1 15 (n + 5) ((3, (n + 4), (11, 4096)) :: [(2, (n + 3), (11, 4096)), (1, (n + 2), (11, 4096)), (0, (n + 0), (0, 0))]) := by rw [eZ9]; exact hp.r rfl s_r (by omega) (by omega)
  have C := C.up (hv.A' hA hAn)
  refine g_aload_n C dX1_init_42 0 rfl ?_
  refine g_sipush (v := 4096) C dX1_init_43 (by decide) ?_
  refine g_newa (at0 := .int) (t := 11) (N := 4096) (k0 := 0) (ty := .int) C (n + 5) (by omega) (by decide) rfl rfl (fun _ => rfl) rfl wa_int (by decide) (by decide) (by decide) ⟨by decide, by decide⟩ dX1_init_46 ?_
  obtain ⟨Z10, eZ10, h⟩ := nm h
  refine g_z eZ10 ?_
  have hp := hp.fr (Z' := Z10) (n' := n + 6) (by rw [eZ10]; exact FrZ.A (Nat.le_refl _)) (by omega)
  have s_r : Z10.1 (n + 5) = some (11, 4096) := by rw [eZ10]; exact s2_s
  have hv : Ev Z Z10 a0 n 6 := by rw [eZ10]; exact hv.A (by omega)
  have C := C.up (hv.A' hA hAn)
  refine g_pRr (j := 4) (mk' := 31) C hp.1 (by decide) rfl uwX1 tyX1_ok nmX1 (by decide) rfl hin rfl lfX1_28 rfl rfl rfl (fun _ _ => rfl) (fun _ _ => Nat.le_of_ble_eq_true rfl) dX1_init_48 ?_
  obtain ⟨Z11, eZ11, h⟩ := nm h
  refine g_z eZ11 ?_
  have hv := hv.S (Z2 := Z11) (a := a0) (x := (20 + 1, 31)) (by rw [eZ11]; rfl) (by rw [eZ11]; exact FrZ.R (Nat.le_refl _)) (dm_of hp.1)
  have hp : PO Z11 a0 1 31 (n + 6) ((4, (n + 5), (11, 4096)) :: [(3, (n + 4), (11, 4096)), (2, (n + 3), (11, 4096)), (1, (n + 2), (11, 4096)), (0, (n + 0), (0, 0))]) := by rw [eZ11]; exact hp.r rfl s_r (by omega) (by omega)
  have C := C.up (hv.A' hA hAn)
  refine g_aload_n C dX1_init_51 0 rfl ?_
  refine g_sipush (v := 4096) C dX1_init_52 (by decide) ?_
  refine g_newa (at0 := .int) (t := 11) (N := 4096) (k0 := 0) (ty := .int) C (n + 6) (by omega) (by decide) rfl rfl (fun _ => rfl) rfl wa_int (by decide) (by decide) (by decide) ⟨by decide, by decide⟩ dX1_init_55 ?_
  obtain ⟨Z12, eZ12, h⟩ := nm h
  refine g_z eZ12 ?_
  have hp := hp.fr (Z' := Z12) (n' := n + 7) (by rw [eZ12]; exact FrZ.A (Nat.le_refl _)) (by omega)
  have s_r : Z12.1 (n + 6) = some (11, 4096) := by rw [eZ12]; exact s2_s
  have hv : Ev Z Z12 a0 n 7 := by rw [eZ12]; exact hv.A (by omega)
  have C := C.up (hv.A' hA hAn)
  refine g_pRr (j := 5) (mk' := 63) C hp.1 (by decide) rfl uwX1 tyX1_ok nmX1 (by decide) rfl hin rfl lfX1_31 rfl rfl rfl (fun _ _ => rfl) (fun _ _ => Nat.le_of_ble_eq_true rfl) dX1_init_57 ?_
  obtain ⟨Z13, eZ13, h⟩ := nm h
  refine g_z eZ13 ?_
  have hv := hv.S (Z2 := Z13) (a := a0) (x := (20 + 1, 63)) (by rw [eZ13]; rfl) (by rw [eZ13]; exact FrZ.R (Nat.le_refl _)) (dm_of hp.1)
  have hp : PO Z13 a0 1 63 (n + 7) ((5, (n + 6), (11, 4096)) :: [(4, (n + 5), (11, 4096)), (3, (n + 4), (11, 4096)), (2, (n + 3), (11, 4096)), (1, (n + 2), (11, 4096)), (0, (n + 0), (0, 0))]) := by rw [eZ13]; exact hp.r rfl s_r (by omega) (by omega)
  have C := C.up (hv.A' hA hAn)
  refine g_done hp.1 (by decide) (fun _ _ => rfl) (hp.done (fun q hq => by simp only [exl, List.mem_cons, List.not_mem_nil, or_false] at hq; rcases hq with rfl | rfl | rfl | rfl | rfl | rfl; exact ⟨(n + 0), by simp⟩; exact ⟨(n + 2), by simp⟩; exact ⟨(n + 3), by simp⟩; exact ⟨(n + 4), by simp⟩; exact ⟨(n + 5), by simp⟩; exact ⟨(n + 6), by simp⟩)) ?_
  obtain ⟨Z14, eZ14, h⟩ := nm h
  refine g_z eZ14 ?_
  have hv := hv.S (Z2 := Z14) (a := a0) (x := (1, 0)) (by rw [eZ14]; rfl) (by rw [eZ14]; exact FrZ.D (Nat.le_refl _)) (dm_of hp.1)
  have s_a0 : Z14.1 a0 = some (1, 0) := by rw [eZ14]; exact s2_s
  have hlk : LK Z14 a0 [(5, (n + 6), (11, 4096)), (4, (n + 5), (11, 4096)), (3, (n + 4), (11, 4096)), (2, (n + 3), (11, 4096)), (1, (n + 2), (11, 4096)), (0, (n + 0), (0, 0))] := by rw [eZ14]; exact hp.lk
  have C := C.up (hv.A' hA hAn)
  subst h
  exact g_kret C ⟨rfl, rfl⟩ dX1_init_60
def fX2_init (a0 n : Nat) (Z : Zt) : Zt :=
  lt' (zN Z (n + 0) 0) fun Z1 =>
  lt' (fX0_init (n + 0) (n + 1) Z1) fun Z2 =>
  lt' (zR Z2 a0 2 1 0 (n + 0)) fun Z3 =>
  lt' (zA Z3 (n + 2) 11 4096) fun Z4 =>
  lt' (zR Z4 a0 2 3 1 (n + 2)) fun Z5 =>
  lt' (zA Z5 (n + 3) 11 4096) fun Z6 =>
  lt' (zR Z6 a0 2 7 2 (n + 3)) fun Z7 =>
  lt' (zA Z7 (n + 4) 11 4096) fun Z8 =>
  lt' (zR Z8 a0 2 15 3 (n + 4)) fun Z9 =>
  lt' (zA Z9 (n + 5) 11 4096) fun Z10 =>
  lt' (zR Z10 a0 2 31 4 (n + 5)) fun Z11 =>
  lt' (zD Z11 a0 2 0) fun Z12 =>
  Z12
set_option maxRecDepth 100000 in
set_option maxHeartbeats 4000000 in
theorem pX2_init {a0 n : Nat} {Z Z' : Zt} (s0 : Z.1 a0 = some (20 + 2, 0)) (hlt : a0 < n) (h : fX2_init a0 n Z = Z') : Ev Z Z' a0 n 6 ∧ Z'.1 a0 = some (2, 0) ∧ LK Z' a0 [(4, (n + 5), (11, 4096)), (3, (n + 4), (11, 4096)), (2, (n + 3), (11, 4096)), (1, (n + 2), (11, 4096)), (0, (n + 0), (0, 0))] := by
  have hp : PO Z a0 2 0 (n + 0) [] := ⟨s0, by omega, fun _ h => by cases h⟩
  have hv : Ev Z Z a0 n 0 := Ev.rf
  unfold fX2_init at h
  obtain ⟨Z1, eZ1, h⟩ := nm h
  have hf1 : FrZ Z Z1 (n + 0) := by rw [eZ1]; exact FrZ.N (Nat.le_refl _)
  have s_q : Z1.1 (n + 0) = some (20 + 0, 0) := by rw [eZ1]; exact s2_s
  have hv : Ev Z Z1 a0 n 1 := by rw [eZ1]; exact hv.N (by omega)
  obtain ⟨Z2, eZ2, h⟩ := nm h
  have hX := pX0_init s_q (show (n + 0) < n + 1 by omega) eZ2.symm
  have hp := hp.fr (Z' := Z2) (n' := n + 2) (hf1.tr (hX.1.1)) (by omega)
  have s_r : Z2.1 (n + 0) = some (0, 0) := hX.2.1
  have hlr := hX.2.2
  have hv : Ev Z Z2 a0 n 2 := hv.K hX.1 (by omega)
  obtain ⟨Z3, eZ3, h⟩ := nm h
  have hv := hv.S (Z2 := Z3) (a := a0) (x := (20 + 2, 1)) (by rw [eZ3]; rfl) (by rw [eZ3]; exact FrZ.R (Nat.le_refl _)) (dm_of hp.1)
  have hp : PO Z3 a0 2 1 (n + 2) ((0, (n + 0), (0, 0)) :: []) := by rw [eZ3]; exact hp.r rfl s_r (by omega) (by omega)
  obtain ⟨Z4, eZ4, h⟩ := nm h
  have hp := hp.fr (Z' := Z4) (n' := n + 3) (by rw [eZ4]; exact FrZ.A (Nat.le_refl _)) (by omega)
  have s_r : Z4.1 (n + 2) = some (11, 4096) := by rw [eZ4]; exact s2_s
  have hv : Ev Z Z4 a0 n 3 := by rw [eZ4]; exact hv.A (by omega)
  obtain ⟨Z5, eZ5, h⟩ := nm h
  have hv := hv.S (Z2 := Z5) (a := a0) (x := (20 + 2, 3)) (by rw [eZ5]; rfl) (by rw [eZ5]; exact FrZ.R (Nat.le_refl _)) (dm_of hp.1)
  have hp : PO Z5 a0 2 3 (n + 3) ((1, (n + 2), (11, 4096)) :: [(0, (n + 0), (0, 0))]) := by rw [eZ5]; exact hp.r rfl s_r (by omega) (by omega)
  obtain ⟨Z6, eZ6, h⟩ := nm h
  have hp := hp.fr (Z' := Z6) (n' := n + 4) (by rw [eZ6]; exact FrZ.A (Nat.le_refl _)) (by omega)
  have s_r : Z6.1 (n + 3) = some (11, 4096) := by rw [eZ6]; exact s2_s
  have hv : Ev Z Z6 a0 n 4 := by rw [eZ6]; exact hv.A (by omega)
  obtain ⟨Z7, eZ7, h⟩ := nm h
  have hv := hv.S (Z2 := Z7) (a := a0) (x := (20 + 2, 7)) (by rw [eZ7]; rfl) (by rw [eZ7]; exact FrZ.R (Nat.le_refl _)) (dm_of hp.1)
  have hp : PO Z7 a0 2 7 (n + 4) ((2, (n + 3), (11, 4096)) :: [(1, (n + 2), (11, 4096)), (0, (n + 0), (0, 0))]) := by rw [eZ7]; exact hp.r rfl s_r (by omega) (by omega)
  obtain ⟨Z8, eZ8, h⟩ := nm h
  have hp := hp.fr (Z' := Z8) (n' := n + 5) (by rw [eZ8]; exact FrZ.A (Nat.le_refl _)) (by omega)
  have s_r : Z8.1 (n + 4) = some (11, 4096) := by rw [eZ8]; exact s2_s
  have hv : Ev Z Z8 a0 n 5 := by rw [eZ8]; exact hv.A (by omega)
  obtain ⟨Z9, eZ9, h⟩ := nm h
  have hv := hv.S (Z2 := Z9) (a := a0) (x := (20 + 2, 15)) (by rw [eZ9]; rfl) (by rw [eZ9]; exact FrZ.R (Nat.le_refl _)) (dm_of hp.1)
  have hp : PO Z9 a0 2 15 (n + 5) ((3, (n + 4), (11, 4096)) :: [(2, (n + 3), (11, 4096)), (1, (n + 2), (11, 4096)), (0, (n + 0), (0, 0))]) := by rw [eZ9]; exact hp.r rfl s_r (by omega) (by omega)
  obtain ⟨Z10, eZ10, h⟩ := nm h
  have hp := hp.fr (Z' := Z10) (n' := n + 6) (by rw [eZ10]; exact FrZ.A (Nat.le_refl _)) (by omega)
  have s_r : Z10.1 (n + 5) = some (11, 4096) := by rw [eZ10]; exact s2_s
  have hv : Ev Z Z10 a0 n 6 := by rw [eZ10]; exact hv.A (by omega)
  obtain ⟨Z11, eZ11, h⟩ := nm h
  have hv := hv.S (Z2 := Z11) (a := a0) (x := (20 + 2, 31)) (by rw [eZ11]; rfl) (by rw [eZ11]; exact FrZ.R (Nat.le_refl _)) (dm_of hp.1)
  have hp : PO Z11 a0 2 31 (n + 6) ((4, (n + 5), (11, 4096)) :: [(3, (n + 4), (11, 4096)), (2, (n + 3), (11, 4096)), (1, (n + 2), (11, 4096)), (0, (n + 0), (0, 0))]) := by rw [eZ11]; exact hp.r rfl s_r (by omega) (by omega)
  obtain ⟨Z12, eZ12, h⟩ := nm h
  have hv := hv.S (Z2 := Z12) (a := a0) (x := (2, 0)) (by rw [eZ12]; rfl) (by rw [eZ12]; exact FrZ.D (Nat.le_refl _)) (dm_of hp.1)
  have s_a0 : Z12.1 a0 = some (2, 0) := by rw [eZ12]; exact s2_s
  have hlk : LK Z12 a0 [(4, (n + 5), (11, 4096)), (3, (n + 4), (11, 4096)), (2, (n + 3), (11, 4096)), (1, (n + 2), (11, 4096)), (0, (n + 0), (0, 0))] := by rw [eZ12]; exact hp.lk
  subst h
  exact ⟨hv, s_a0, hlk⟩
set_option maxRecDepth 100000 in
set_option maxHeartbeats 4000000 in
theorem kX2_init {l : Launch} {D : va_G} {cA : Nat → ClassId} {tS : Nat → Nat} {A : Nat → Prop} {a0 n : Nat} {Z Z' : Zt} (hA : ∀ q, dm Z.1 q → A q) (hAn : ∀ q, n ≤ q → A q) (s0 : Z.1 a0 = some (20 + 2, 0)) (hlt : a0 < n) (h : fX2_init a0 n Z = Z') : Kt l D cA tS A yX2_init cX2_init 1 2 40 6 28387 n [.ref a0] Z Z' := by
  refine Kt.of (by decide) rfl (Nat.le_of_ble_eq_true rfl) hA (fun p e s m args below meth c hsz hin hAO C => ?_)
  have hp : PO Z a0 2 0 (n + 0) [] := ⟨s0, by omega, fun _ h => by cases h⟩
  have hv : Ev Z Z a0 n 0 := Ev.rf
  unfold fX2_init at h
  refine g_aload_n C dX2_init_0 0 rfl ?_
  refine g_objInit C lmX2_3 ⟨by decide, by decide⟩ ⟨by decide, by decide⟩ dX2_init_1 ?_
  refine g_aload_n C dX2_init_4 0 rfl ?_
  refine g_new (t := 0) C (n + 0) (by omega) (by decide) rfl uwX0 tyX0_ok lcX2_9 wnX0 wiX0 (fun rr j hj => by rcases (show j = 0 ∨ j = 1 ∨ j = 2 by omega) with rfl | rfl | rfl <;> rfl) ⟨by decide, by decide⟩ dX2_init_5 ?_
  obtain ⟨Z1, eZ1, h⟩ := nm h
  refine g_z eZ1 ?_
  have hf1 : FrZ Z Z1 (n + 0) := by rw [eZ1]; exact FrZ.N (Nat.le_refl _)
  have s_q : Z1.1 (n + 0) = some (20 + 0, 0) := by rw [eZ1]; exact s2_s
  have hv : Ev Z Z1 a0 n 1 := by rw [eZ1]; exact hv.N (by omega)
  have C := C.up (hv.A' hA hAn)
  refine g_dup C dX2_init_8 rfl ?_
  obtain ⟨Z2, eZ2, h⟩ := nm h
  have hX := pX0_init s_q (show (n + 0) < n + 1 by omega) eZ2.symm
  refine g_callK C hAO (by omega) (kX0_init (hv.A' hA hAn) (fun _ _ => hAn _ (by omega)) s_q (by omega) eZ2.symm) wcX0_init wmX0_init wiX0 rfl (by decide +kernel) lmX2_11 (Nat.le_of_ble_eq_true rfl) dX2_init_9 ⟨by decide, by decide⟩ ⟨by decide, by decide⟩ ?_ ?_
  · have hd9 : dm Z2.1 (s.heap.size + 1 + 1 - 1) := hX.1.2.1 _ (by omega) (by omega)
    cases hh : Z2.1 (s.heap.size + 1 + 1 - 1) with
    | none => exact absurd hh hd9
    | some x => exact ⟨x, rfl⟩
  have hp := hp.fr (Z' := Z2) (n' := n + 2) (hf1.tr (hX.1.1)) (by omega)
  have s_r : Z2.1 (n + 0) = some (0, 0) := hX.2.1
  have hlr := hX.2.2
  have hv : Ev Z Z2 a0 n 2 := hv.K hX.1 (by omega)
  have C := C.up (hv.A' hA hAn)
  refine g_pRr (j := 0) (mk' := 1) C hp.1 (by decide) rfl uwX2 tyX2_ok nmX2 (by decide) rfl hin rfl lfX2_12 rfl rfl rfl (fun _ _ => rfl) (fun _ _ => Nat.le_of_ble_eq_true rfl) dX2_init_12 ?_
  obtain ⟨Z3, eZ3, h⟩ := nm h
  refine g_z eZ3 ?_
  have hv := hv.S (Z2 := Z3) (a := a0) (x := (20 + 2, 1)) (by rw [eZ3]; rfl) (by rw [eZ3]; exact FrZ.R (Nat.le_refl _)) (dm_of hp.1)
  have hp : PO Z3 a0 2 1 (n + 2) ((0, (n + 0), (0, 0)) :: []) := by rw [eZ3]; exact hp.r rfl s_r (by omega) (by omega)
  have C := C.up (hv.A' hA hAn)
  refine g_aload_n C dX2_init_15 0 rfl ?_
  refine g_sipush (v := 4096) C dX2_init_16 (by decide) ?_
  refine g_newa (at0 := .int) (t := 11) (N := 4096) (k0 := 0) (ty := .int) C (n + 2) (by omega) (by decide) rfl rfl (fun _ => rfl) rfl wa_int (by decide) (by decide) (by decide) ⟨by decide, by decide⟩ dX2_init_19 ?_
  obtain ⟨Z4, eZ4, h⟩ := nm h
  refine g_z eZ4 ?_
  have hp := hp.fr (Z' := Z4) (n' := n + 3) (by rw [eZ4]; exact FrZ.A (Nat.le_refl _)) (by omega)
  have s_r : Z4.1 (n + 2) = some (11, 4096) := by rw [eZ4]; exact s2_s
  have hv : Ev Z Z4 a0 n 3 := by rw [eZ4]; exact hv.A (by omega)
  have C := C.up (hv.A' hA hAn)
  refine g_pRr (j := 1) (mk' := 3) C hp.1 (by decide) rfl uwX2 tyX2_ok nmX2 (by decide) rfl hin rfl lfX2_18 rfl rfl rfl (fun _ _ => rfl) (fun _ _ => Nat.le_of_ble_eq_true rfl) dX2_init_21 ?_
  obtain ⟨Z5, eZ5, h⟩ := nm h
  refine g_z eZ5 ?_
  have hv := hv.S (Z2 := Z5) (a := a0) (x := (20 + 2, 3)) (by rw [eZ5]; rfl) (by rw [eZ5]; exact FrZ.R (Nat.le_refl _)) (dm_of hp.1)
  have hp : PO Z5 a0 2 3 (n + 3) ((1, (n + 2), (11, 4096)) :: [(0, (n + 0), (0, 0))]) := by rw [eZ5]; exact hp.r rfl s_r (by omega) (by omega)
  have C := C.up (hv.A' hA hAn)
  refine g_aload_n C dX2_init_24 0 rfl ?_
  refine g_sipush (v := 4096) C dX2_init_25 (by decide) ?_
  refine g_newa (at0 := .int) (t := 11) (N := 4096) (k0 := 0) (ty := .int) C (n + 3) (by omega) (by decide) rfl rfl (fun _ => rfl) rfl wa_int (by decide) (by decide) (by decide) ⟨by decide, by decide⟩ dX2_init_28 ?_
  obtain ⟨Z6, eZ6, h⟩ := nm h
  refine g_z eZ6 ?_
  have hp := hp.fr (Z' := Z6) (n' := n + 4) (by rw [eZ6]; exact FrZ.A (Nat.le_refl _)) (by omega)
  have s_r : Z6.1 (n + 3) = some (11, 4096) := by rw [eZ6]; exact s2_s
  have hv : Ev Z Z6 a0 n 4 := by rw [eZ6]; exact hv.A (by omega)
  have C := C.up (hv.A' hA hAn)
  refine g_pRr (j := 2) (mk' := 7) C hp.1 (by decide) rfl uwX2 tyX2_ok nmX2 (by decide) rfl hin rfl lfX2_22 rfl rfl rfl (fun _ _ => rfl) (fun _ _ => Nat.le_of_ble_eq_true rfl) dX2_init_30 ?_
  obtain ⟨Z7, eZ7, h⟩ := nm h
  refine g_z eZ7 ?_
  have hv := hv.S (Z2 := Z7) (a := a0) (x := (20 + 2, 7)) (by rw [eZ7]; rfl) (by rw [eZ7]; exact FrZ.R (Nat.le_refl _)) (dm_of hp.1)
  have hp : PO Z7 a0 2 7 (n + 4) ((2, (n + 3), (11, 4096)) :: [(1, (n + 2), (11, 4096)), (0, (n + 0), (0, 0))]) := by rw [eZ7]; exact hp.r rfl s_r (by omega) (by omega)
  have C := C.up (hv.A' hA hAn)
  refine g_aload_n C dX2_init_33 0 rfl ?_
  refine g_sipush (v := 4096) C dX2_init_34 (by decide) ?_
  refine g_newa (at0 := .int) (t := 11) (N := 4096) (k0 := 0) (ty := .int) C (n + 4) (by omega) (by decide) rfl rfl (fun _ => rfl) rfl wa_int (by decide) (by decide) (by decide) ⟨by decide, by decide⟩ dX2_init_37 ?_
  obtain ⟨Z8, eZ8, h⟩ := nm h
  refine g_z eZ8 ?_
  have hp := hp.fr (Z' := Z8) (n' := n + 5) (by rw [eZ8]; exact FrZ.A (Nat.le_refl _)) (by omega)
  have s_r : Z8.1 (n + 4) = some (11, 4096) := by rw [eZ8]; exact s2_s
  have hv : Ev Z Z8 a0 n 5 := by rw [eZ8]; exact hv.A (by omega)
  have C := C.up (hv.A' hA hAn)
  refine g_pRr (j := 3) (mk' := 15) C hp.1 (by decide) rfl uwX2 tyX2_ok nmX2 (by decide) rfl hin rfl lfX2_25 rfl rfl rfl (fun _ _ => rfl) (fun _ _ => Nat.le_of_ble_eq_true rfl) dX2_init_39 ?_
  obtain ⟨Z9, eZ9, h⟩ := nm h
  refine g_z eZ9 ?_
  have hv := hv.S (Z2 := Z9) (a := a0) (x := (20 + 2, 15)) (by rw [eZ9]; rfl) (by rw [eZ9]; exact FrZ.R (Nat.le_refl _)) (dm_of hp.1)
  have hp : PO Z9 a0 2 15 (n + 5) ((3, (n + 4), (11, 4096)) :: [(2, (n + 3), (11, 4096)), (1, (n + 2), (11, 4096)), (0, (n + 0), (0, 0))]) := by rw [eZ9]; exact hp.r rfl s_r (by omega) (by omega)
  have C := C.up (hv.A' hA hAn)
  refine g_aload_n C dX2_init_42 0 rfl ?_
  refine g_sipush (v := 4096) C dX2_init_43 (by decide) ?_
  refine g_newa (at0 := .int) (t := 11) (N := 4096) (k0 := 0) (ty := .int) C (n + 5) (by omega) (by decide) rfl rfl (fun _ => rfl) rfl wa_int (by decide) (by decide) (by decide) ⟨by decide, by decide⟩ dX2_init_46 ?_
  obtain ⟨Z10, eZ10, h⟩ := nm h
  refine g_z eZ10 ?_
  have hp := hp.fr (Z' := Z10) (n' := n + 6) (by rw [eZ10]; exact FrZ.A (Nat.le_refl _)) (by omega)
  have s_r : Z10.1 (n + 5) = some (11, 4096) := by rw [eZ10]; exact s2_s
  have hv : Ev Z Z10 a0 n 6 := by rw [eZ10]; exact hv.A (by omega)
  have C := C.up (hv.A' hA hAn)
  refine g_pRr (j := 4) (mk' := 31) C hp.1 (by decide) rfl uwX2 tyX2_ok nmX2 (by decide) rfl hin rfl lfX2_28 rfl rfl rfl (fun _ _ => rfl) (fun _ _ => Nat.le_of_ble_eq_true rfl) dX2_init_48 ?_
  obtain ⟨Z11, eZ11, h⟩ := nm h
  refine g_z eZ11 ?_
  have hv := hv.S (Z2 := Z11) (a := a0) (x := (20 + 2, 31)) (by rw [eZ11]; rfl) (by rw [eZ11]; exact FrZ.R (Nat.le_refl _)) (dm_of hp.1)
  have hp : PO Z11 a0 2 31 (n + 6) ((4, (n + 5), (11, 4096)) :: [(3, (n + 4), (11, 4096)), (2, (n + 3), (11, 4096)), (1, (n + 2), (11, 4096)), (0, (n + 0), (0, 0))]) := by rw [eZ11]; exact hp.r rfl s_r (by omega) (by omega)
  have C := C.up (hv.A' hA hAn)
  refine g_done hp.1 (by decide) (fun _ _ => rfl) (hp.done (fun q hq => by simp only [exl, List.mem_cons, List.not_mem_nil, or_false] at hq; rcases hq with rfl | rfl | rfl | rfl | rfl; exact ⟨(n + 0), by simp⟩; exact ⟨(n + 2), by simp⟩; exact ⟨(n + 3), by simp⟩; exact ⟨(n + 4), by simp⟩; exact ⟨(n + 5), by simp⟩)) ?_
  obtain ⟨Z12, eZ12, h⟩ := nm h
  refine g_z eZ12 ?_
  have hv := hv.S (Z2 := Z12) (a := a0) (x := (2, 0)) (by rw [eZ12]; rfl) (by rw [eZ12]; exact FrZ.D (Nat.le_refl _)) (dm_of hp.1)
  have s_a0 : Z12.1 a0 = some (2, 0) := by rw [eZ12]; exact s2_s
  have hlk : LK Z12 a0 [(4, (n + 5), (11, 4096)), (3, (n + 4), (11, 4096)), (2, (n + 3), (11, 4096)), (1, (n + 2), (11, 4096)), (0, (n + 0), (0, 0))] := by rw [eZ12]; exact hp.lk
  have C := C.up (hv.A' hA hAn)
  subst h
  exact g_kret C ⟨rfl, rfl⟩ dX2_init_51
def fX3_init (a0 n : Nat) (Z : Zt) : Zt :=
  lt' (zI Z a0 0 0) fun Z1 =>
  lt' (zI Z1 a0 1 0) fun Z2 =>
  lt' (zI Z2 a0 2 1) fun Z3 =>
  lt' (zI Z3 a0 3 1) fun Z4 =>
  lt' (zI Z4 a0 4 0) fun Z5 =>
  lt' (zN Z5 (n + 0) 7) fun Z6 =>
  lt' (fX7_init (n + 0) (n + 1) Z6) fun Z7 =>
  lt' (zR Z7 a0 3 32 5 (n + 0)) fun Z8 =>
  lt' (zN Z8 (n + 2) 8) fun Z9 =>
  lt' (fX8_init (n + 2) (n + 3) Z9) fun Z10 =>
  lt' (zR Z10 a0 3 96 6 (n + 2)) fun Z11 =>
  lt' (zA Z11 (n + 3) 11 4096) fun Z12 =>
  lt' (zR Z12 a0 3 224 7 (n + 3)) fun Z13 =>
  lt' (zD Z13 a0 3 0) fun Z14 =>
  Z14
set_option maxRecDepth 100000 in
set_option maxHeartbeats 4000000 in
theorem pX3_init {a0 n : Nat} {Z Z' : Zt} (s0 : Z.1 a0 = some (20 + 3, 0)) (hlt : a0 < n) (h : fX3_init a0 n Z = Z') : Ev Z Z' a0 n 4 ∧ Z'.1 a0 = some (3, 0) ∧ LK Z' a0 [(7, (n + 3), (11, 4096)), (6, (n + 2), (8, 0)), (5, (n + 0), (7, 0))] := by
  have hp : PO Z a0 3 0 (n + 0) [] := ⟨s0, by omega, fun _ h => by cases h⟩
  have hv : Ev Z Z a0 n 0 := Ev.rf
  unfold fX3_init at h
  obtain ⟨Z1, eZ1, h⟩ := nm h
  have hv := hv.M (Z2 := Z1) (by rw [eZ1]; rfl) (by rw [eZ1]; exact FrZ.I (Nat.le_refl _))
  have hp : PO Z1 a0 3 0 (n + 0) [] := by rw [eZ1]; exact hp.i
  obtain ⟨Z2, eZ2, h⟩ := nm h
  have hv := hv.M (Z2 := Z2) (by rw [eZ2]; rfl) (by rw [eZ2]; exact FrZ.I (Nat.le_refl _))
  have hp : PO Z2 a0 3 0 (n + 0) [] := by rw [eZ2]; exact hp.i
  obtain ⟨Z3, eZ3, h⟩ := nm h
  have hv := hv.M (Z2 := Z3) (by rw [eZ3]; rfl) (by rw [eZ3]; exact FrZ.I (Nat.le_refl _))
  have hp : PO Z3 a0 3 0 (n + 0) [] := by rw [eZ3]; exact hp.i
  obtain ⟨Z4, eZ4, h⟩ := nm h
  have hv := hv.M (Z2 := Z4) (by rw [eZ4]; rfl) (by rw [eZ4]; exact FrZ.I (Nat.le_refl _))
  have hp : PO Z4 a0 3 0 (n + 0) [] := by rw [eZ4]; exact hp.i
  obtain ⟨Z5, eZ5, h⟩ := nm h
  have hv := hv.M (Z2 := Z5) (by rw [eZ5]; rfl) (by rw [eZ5]; exact FrZ.I (Nat.le_refl _))
  have hp : PO Z5 a0 3 0 (n + 0) [] := by rw [eZ5]; exact hp.i
  obtain ⟨Z6, eZ6, h⟩ := nm h
  have hf1 : FrZ Z5 Z6 (n + 0) := by rw [eZ6]; exact FrZ.N (Nat.le_refl _)
  have s_q : Z6.1 (n + 0) = some (20 + 7, 0) := by rw [eZ6]; exact s2_s
  have hv : Ev Z Z6 a0 n 1 := by rw [eZ6]; exact hv.N (by omega)
  obtain ⟨Z7, eZ7, h⟩ := nm h
  have hX := pX7_init s_q (show (n + 0) < n + 1 by omega) eZ7.symm
  have hp := hp.fr (Z' := Z7) (n' := n + 2) (hf1.tr (hX.1.1)) (by omega)
  have s_r : Z7.1 (n + 0) = some (7, 0) := hX.2.1
  have hlr := hX.2.2
  have hv : Ev Z Z7 a0 n 2 := hv.K hX.1 (by omega)
  obtain ⟨Z8, eZ8, h⟩ := nm h
  have hv := hv.S (Z2 := Z8) (a := a0) (x := (20 + 3, 32)) (by rw [eZ8]; rfl) (by rw [eZ8]; exact FrZ.R (Nat.le_refl _)) (dm_of hp.1)
  have hp : PO Z8 a0 3 32 (n + 2) ((5, (n + 0), (7, 0)) :: []) := by rw [eZ8]; exact hp.r rfl s_r (by omega) (by omega)
  obtain ⟨Z9, eZ9, h⟩ := nm h
  have hf1 : FrZ Z8 Z9 (n + 2) := by rw [eZ9]; exact FrZ.N (Nat.le_refl _)
  have s_q : Z9.1 (n + 2) = some (20 + 8, 0) := by rw [eZ9]; exact s2_s
  have hv : Ev Z Z9 a0 n 3 := by rw [eZ9]; exact hv.N (by omega)
  obtain ⟨Z10, eZ10, h⟩ := nm h
  have hX := pX8_init s_q (show (n + 2) < n + 3 by omega) eZ10.symm
  have hp := hp.fr (Z' := Z10) (n' := n + 3) (hf1.tr (hX.1.1)) (by omega)
  have s_r : Z10.1 (n + 2) = some (8, 0) := hX.2.1
  have hlr := hX.2.2
  have hv : Ev Z Z10 a0 n 3 := hv.K hX.1 (by omega)
  obtain ⟨Z11, eZ11, h⟩ := nm h
  have hv := hv.S (Z2 := Z11) (a := a0) (x := (20 + 3, 96)) (by rw [eZ11]; rfl) (by rw [eZ11]; exact FrZ.R (Nat.le_refl _)) (dm_of hp.1)
  have hp : PO Z11 a0 3 96 (n + 3) ((6, (n + 2), (8, 0)) :: [(5, (n + 0), (7, 0))]) := by rw [eZ11]; exact hp.r rfl s_r (by omega) (by omega)
  obtain ⟨Z12, eZ12, h⟩ := nm h
  have hp := hp.fr (Z' := Z12) (n' := n + 4) (by rw [eZ12]; exact FrZ.A (Nat.le_refl _)) (by omega)
  have s_r : Z12.1 (n + 3) = some (11, 4096) := by rw [eZ12]; exact s2_s
  have hv : Ev Z Z12 a0 n 4 := by rw [eZ12]; exact hv.A (by omega)
  obtain ⟨Z13, eZ13, h⟩ := nm h
  have hv := hv.S (Z2 := Z13) (a := a0) (x := (20 + 3, 224)) (by rw [eZ13]; rfl) (by rw [eZ13]; exact FrZ.R (Nat.le_refl _)) (dm_of hp.1)
  have hp : PO Z13 a0 3 224 (n + 4) ((7, (n + 3), (11, 4096)) :: [(6, (n + 2), (8, 0)), (5, (n + 0), (7, 0))]) := by rw [eZ13]; exact hp.r rfl s_r (by omega) (by omega)
  obtain ⟨Z14, eZ14, h⟩ := nm h
  have hv := hv.S (Z2 := Z14) (a := a0) (x := (3, 0)) (by rw [eZ14]; rfl) (by rw [eZ14]; exact FrZ.D (Nat.le_refl _)) (dm_of hp.1)
  have s_a0 : Z14.1 a0 = some (3, 0) := by rw [eZ14]; exact s2_s
  have hlk : LK Z14 a0 [(7, (n + 3), (11, 4096)), (6, (n + 2), (8, 0)), (5, (n + 0), (7, 0))] := by rw [eZ14]; exact hp.lk
  subst h
  exact ⟨hv, s_a0, hlk⟩
set_option maxRecDepth 100000 in
set_option maxHeartbeats 4000000 in
theorem kX3_init {l : Launch} {D : va_G} {cA : Nat → ClassId} {tS : Nat → Nat} {A : Nat → Prop} {a0 n : Nat} {Z Z' : Zt} (hA : ∀ q, dm Z.1 q → A q) (hAn : ∀ q, n ≤ q → A q) (s0 : Z.1 a0 = some (20 + 3, 0)) (hlt : a0 < n) (h : fX3_init a0 n Z = Z') : Kt l D cA tS A yX3_init cX3_init 1 3 64 4 4358 n [.ref a0] Z Z' := by
  refine Kt.of (by decide) rfl (Nat.le_of_ble_eq_true rfl) hA (fun p e s m args below meth c hsz hin hAO C => ?_)
  have hp : PO Z a0 3 0 (n + 0) [] := ⟨s0, by omega, fun _ h => by cases h⟩
  have hv : Ev Z Z a0 n 0 := Ev.rf
  unfold fX3_init at h
  refine g_aload_n C dX3_init_0 0 rfl ?_
  refine g_objInit C lmX3_3 ⟨by decide, by decide⟩ ⟨by decide, by decide⟩ dX3_init_1 ?_
  refine g_aload_n C dX3_init_4 0 rfl ?_
  refine g_iconst (v := 0) C dX3_init_5 (by decide) ?_
  refine g_pIi (j := 0) C hp.1 (by decide) rfl uwX3 tyX3_ok nmX3 (by decide) rfl lfX3_9 rfl rfl rfl (fun _ _ => rfl) (fun _ _ => Nat.le_of_ble_eq_true rfl) dX3_init_6 ?_
  obtain ⟨Z1, eZ1, h⟩ := nm h
  refine g_z eZ1 ?_
  have hv := hv.M (Z2 := Z1) (by rw [eZ1]; rfl) (by rw [eZ1]; exact FrZ.I (Nat.le_refl _))
  have hp : PO Z1 a0 3 0 (n + 0) [] := by rw [eZ1]; exact hp.i
  have C := C.up (hv.A' hA hAn)
  refine g_aload_n C dX3_init_9 0 rfl ?_
  refine g_iconst (v := 0) C dX3_init_10 (by decide) ?_
  refine g_pIi (j := 1) C hp.1 (by decide) rfl uwX3 tyX3_ok nmX3 (by decide) rfl lfX3_15 rfl rfl rfl (fun _ _ => rfl) (fun _ _ => Nat.le_of_ble_eq_true rfl) dX3_init_11 ?_
  obtain ⟨Z2, eZ2, h⟩ := nm h
  refine g_z eZ2 ?_
  have hv := hv.M (Z2 := Z2) (by rw [eZ2]; rfl) (by rw [eZ2]; exact FrZ.I (Nat.le_refl _))
  have hp : PO Z2 a0 3 0 (n + 0) [] := by rw [eZ2]; exact hp.i
  have C := C.up (hv.A' hA hAn)
  refine g_aload_n C dX3_init_14 0 rfl ?_
  refine g_iconst (v := 1) C dX3_init_15 (by decide) ?_
  refine g_pIi (j := 2) C hp.1 (by decide) rfl uwX3 tyX3_ok nmX3 (by decide) rfl lfX3_18 rfl rfl rfl (fun _ _ => rfl) (fun _ _ => Nat.le_of_ble_eq_true rfl) dX3_init_16 ?_
  obtain ⟨Z3, eZ3, h⟩ := nm h
  refine g_z eZ3 ?_
  have hv := hv.M (Z2 := Z3) (by rw [eZ3]; rfl) (by rw [eZ3]; exact FrZ.I (Nat.le_refl _))
  have hp : PO Z3 a0 3 0 (n + 0) [] := by rw [eZ3]; exact hp.i
  have C := C.up (hv.A' hA hAn)
  refine g_aload_n C dX3_init_19 0 rfl ?_
  refine g_iconst (v := 1) C dX3_init_20 (by decide) ?_
  refine g_pIi (j := 3) C hp.1 (by decide) rfl uwX3 tyX3_ok nmX3 (by decide) rfl lfX3_21 rfl rfl rfl (fun _ _ => rfl) (fun _ _ => Nat.le_of_ble_eq_true rfl) dX3_init_21 ?_
  obtain ⟨Z4, eZ4, h⟩ := nm h
  refine g_z eZ4 ?_
  have hv := hv.M (Z2 := Z4) (by rw [eZ4]; rfl) (by rw [eZ4]; exact FrZ.I (Nat.le_refl _))
  have hp : PO Z4 a0 3 0 (n + 0) [] := by rw [eZ4]; exact hp.i
  have C := C.up (hv.A' hA hAn)
  refine g_aload_n C dX3_init_24 0 rfl ?_
  refine g_iconst (v := 0) C dX3_init_25 (by decide) ?_
  refine g_pIi (j := 4) C hp.1 (by decide) rfl uwX3 tyX3_ok nmX3 (by decide) rfl lfX3_24 rfl rfl rfl (fun _ _ => rfl) (fun _ _ => Nat.le_of_ble_eq_true rfl) dX3_init_26 ?_
  obtain ⟨Z5, eZ5, h⟩ := nm h
  refine g_z eZ5 ?_
  have hv := hv.M (Z2 := Z5) (by rw [eZ5]; rfl) (by rw [eZ5]; exact FrZ.I (Nat.le_refl _))
  have hp : PO Z5 a0 3 0 (n + 0) [] := by rw [eZ5]; exact hp.i
  have C := C.up (hv.A' hA hAn)
  refine g_aload_n C dX3_init_29 0 rfl ?_
  refine g_new (t := 7) C (n + 0) (by omega) (by decide) rfl uwX7 tyX7_ok lcX3_28 wnX7 wiX7 (fun rr j hj => by rcases (show j = 0 ∨ j = 1 by omega) with rfl | rfl <;> rfl) ⟨by decide, by decide⟩ dX3_init_30 ?_
  obtain ⟨Z6, eZ6, h⟩ := nm h
  refine g_z eZ6 ?_
  have hf1 : FrZ Z5 Z6 (n + 0) := by rw [eZ6]; exact FrZ.N (Nat.le_refl _)
  have s_q : Z6.1 (n + 0) = some (20 + 7, 0) := by rw [eZ6]; exact s2_s
  have hv : Ev Z Z6 a0 n 1 := by rw [eZ6]; exact hv.N (by omega)
  have C := C.up (hv.A' hA hAn)
  refine g_dup C dX3_init_33 rfl ?_
  obtain ⟨Z7, eZ7, h⟩ := nm h
  have hX := pX7_init s_q (show (n + 0) < n + 1 by omega) eZ7.symm
  refine g_callK C hAO (by omega) (kX7_init (hv.A' hA hAn) (fun _ _ => hAn _ (by omega)) s_q (by omega) eZ7.symm) wcX7_init wmX7_init wiX7 rfl (by decide +kernel) lmX3_30 (Nat.le_of_ble_eq_true rfl) dX3_init_34 ⟨by decide, by decide⟩ ⟨by decide, by decide⟩ ?_ ?_
  · have hd9 : dm Z7.1 (s.heap.size + 1 + 1 - 1) := hX.1.2.1 _ (by omega) (by omega)
    cases hh : Z7.1 (s.heap.size + 1 + 1 - 1) with
    | none => exact absurd hh hd9
    | some x => exact ⟨x, rfl⟩
  have hp := hp.fr (Z' := Z7) (n' := n + 2) (hf1.tr (hX.1.1)) (by omega)
  have s_r : Z7.1 (n + 0) = some (7, 0) := hX.2.1
  have hlr := hX.2.2
  have hv : Ev Z Z7 a0 n 2 := hv.K hX.1 (by omega)
  have C := C.up (hv.A' hA hAn)
  refine g_pRr (j := 5) (mk' := 32) C hp.1 (by decide) rfl uwX3 tyX3_ok nmX3 (by decide) rfl hin rfl lfX3_31 rfl rfl rfl (fun _ _ => rfl) (fun _ _ => Nat.le_of_ble_eq_true rfl) dX3_init_37 ?_
  obtain ⟨Z8, eZ8, h⟩ := nm h
  refine g_z eZ8 ?_
  have hv := hv.S (Z2 := Z8) (a := a0) (x := (20 + 3, 32)) (by rw [eZ8]; rfl) (by rw [eZ8]; exact FrZ.R (Nat.le_refl _)) (dm_of hp.1)
  have hp : PO Z8 a0 3 32 (n + 2) ((5, (n + 0), (7, 0)) :: []) := by rw [eZ8]; exact hp.r rfl s_r (by omega) (by omega)
  have C := C.up (hv.A' hA hAn)
  refine g_aload_n C dX3_init_40 0 rfl ?_
  refine g_new (t := 8) C (n + 2) (by omega) (by decide) rfl uwX8 tyX8_ok lcX3_35 wnX8 wiX8 (fun rr j hj => by rcases (show j = 0 ∨ j = 1 ∨ j = 2 ∨ j = 3 by omega) with rfl | rfl | rfl | rfl <;> rfl) ⟨by decide, by decide⟩ dX3_init_41 ?_
  obtain ⟨Z9, eZ9, h⟩ := nm h
  refine g_z eZ9 ?_
  have hf1 : FrZ Z8 Z9 (n + 2) := by rw [eZ9]; exact FrZ.N (Nat.le_refl _)
  have s_q : Z9.1 (n + 2) = some (20 + 8, 0) := by rw [eZ9]; exact s2_s
  have hv : Ev Z Z9 a0 n 3 := by rw [eZ9]; exact hv.N (by omega)
  have C := C.up (hv.A' hA hAn)
  refine g_dup C dX3_init_44 rfl ?_
  obtain ⟨Z10, eZ10, h⟩ := nm h
  have hX := pX8_init s_q (show (n + 2) < n + 3 by omega) eZ10.symm
  refine g_callK C hAO (by omega) (kX8_init (hv.A' hA hAn) (fun _ _ => hAn _ (by omega)) s_q (by omega) eZ10.symm) wcX8_init wmX8_init wiX8 rfl (by decide +kernel) lmX3_37 (Nat.le_of_ble_eq_true rfl) dX3_init_45 ⟨by decide, by decide⟩ ⟨by decide, by decide⟩ ?_ ?_
  · have hd9 : dm Z10.1 (s.heap.size + 3 + 0 - 1) := (hX.1.2.2.2 _ (hv.2.1 _ (by omega) (by omega)))
    cases hh : Z10.1 (s.heap.size + 3 + 0 - 1) with
    | none => exact absurd hh hd9
    | some x => exact ⟨x, rfl⟩
  have hp := hp.fr (Z' := Z10) (n' := n + 3) (hf1.tr (hX.1.1)) (by omega)
  have s_r : Z10.1 (n + 2) = some (8, 0) := hX.2.1
  have hlr := hX.2.2
  have hv : Ev Z Z10 a0 n 3 := hv.K hX.1 (by omega)
  have C := C.up (hv.A' hA hAn)
  refine g_pRr (j := 6) (mk' := 96) C hp.1 (by decide) rfl uwX3 tyX3_ok nmX3 (by decide) rfl hin rfl lfX3_38 rfl rfl rfl (fun _ _ => rfl) (fun _ _ => Nat.le_of_ble_eq_true rfl) dX3_init_48 ?_
  obtain ⟨Z11, eZ11, h⟩ := nm h
  refine g_z eZ11 ?_
  have hv := hv.S (Z2 := Z11) (a := a0) (x := (20 + 3, 96)) (by rw [eZ11]; rfl) (by rw [eZ11]; exact FrZ.R (Nat.le_refl _)) (dm_of hp.1)
  have hp : PO Z11 a0 3 96 (n + 3) ((6, (n + 2), (8, 0)) :: [(5, (n + 0), (7, 0))]) := by rw [eZ11]; exact hp.r rfl s_r (by omega) (by omega)
  have C := C.up (hv.A' hA hAn)
  refine g_aload_n C dX3_init_51 0 rfl ?_
  refine g_sipush (v := 4096) C dX3_init_52 (by decide) ?_
  refine g_newa (at0 := .int) (t := 11) (N := 4096) (k0 := 0) (ty := .int) C (n + 3) (by omega) (by decide) rfl rfl (fun _ => rfl) rfl wa_int (by decide) (by decide) (by decide) ⟨by decide, by decide⟩ dX3_init_55 ?_
  obtain ⟨Z12, eZ12, h⟩ := nm h
  refine g_z eZ12 ?_
  have hp := hp.fr (Z' := Z12) (n' := n + 4) (by rw [eZ12]; exact FrZ.A (Nat.le_refl _)) (by omega)
  have s_r : Z12.1 (n + 3) = some (11, 4096) := by rw [eZ12]; exact s2_s
  have hv : Ev Z Z12 a0 n 4 := by rw [eZ12]; exact hv.A (by omega)
  have C := C.up (hv.A' hA hAn)
  refine g_pRr (j := 7) (mk' := 224) C hp.1 (by decide) rfl uwX3 tyX3_ok nmX3 (by decide) rfl hin rfl lfX3_42 rfl rfl rfl (fun _ _ => rfl) (fun _ _ => Nat.le_of_ble_eq_true rfl) dX3_init_57 ?_
  obtain ⟨Z13, eZ13, h⟩ := nm h
  refine g_z eZ13 ?_
  have hv := hv.S (Z2 := Z13) (a := a0) (x := (20 + 3, 224)) (by rw [eZ13]; rfl) (by rw [eZ13]; exact FrZ.R (Nat.le_refl _)) (dm_of hp.1)
  have hp : PO Z13 a0 3 224 (n + 4) ((7, (n + 3), (11, 4096)) :: [(6, (n + 2), (8, 0)), (5, (n + 0), (7, 0))]) := by rw [eZ13]; exact hp.r rfl s_r (by omega) (by omega)
  have C := C.up (hv.A' hA hAn)
  refine g_done hp.1 (by decide) (fun _ _ => rfl) (hp.done (fun q hq => by simp only [exl, List.mem_cons, List.not_mem_nil, or_false] at hq; rcases hq with rfl | rfl | rfl; exact ⟨(n + 0), by simp⟩; exact ⟨(n + 2), by simp⟩; exact ⟨(n + 3), by simp⟩)) ?_
  obtain ⟨Z14, eZ14, h⟩ := nm h
  refine g_z eZ14 ?_
  have hv := hv.S (Z2 := Z14) (a := a0) (x := (3, 0)) (by rw [eZ14]; rfl) (by rw [eZ14]; exact FrZ.D (Nat.le_refl _)) (dm_of hp.1)
  have s_a0 : Z14.1 a0 = some (3, 0) := by rw [eZ14]; exact s2_s
  have hlk : LK Z14 a0 [(7, (n + 3), (11, 4096)), (6, (n + 2), (8, 0)), (5, (n + 0), (7, 0))] := by rw [eZ14]; exact hp.lk
  have C := C.up (hv.A' hA hAn)
  subst h
  exact g_kret C ⟨rfl, rfl⟩ dX3_init_60
def fX6_init (a0 n : Nat) (Z : Zt) : Zt :=
  lt' (zN Z (n + 0) 2) fun Z1 =>
  lt' (fX2_init (n + 0) (n + 1) Z1) fun Z2 =>
  lt' (zR Z2 a0 6 1 0 (n + 0)) fun Z3 =>
  lt' (zN Z3 (n + 7) 0) fun Z4 =>
  lt' (fX0_init (n + 7) (n + 8) Z4) fun Z5 =>
  lt' (zR Z5 a0 6 3 1 (n + 7)) fun Z6 =>
  lt' (zD Z6 a0 6 0) fun Z7 =>
  Z7
set_option maxRecDepth 100000 in
set_option maxHeartbeats 4000000 in
theorem pX6_init {a0 n : Nat} {Z Z' : Zt} (s0 : Z.1 a0 = some (20 + 6, 0)) (hlt : a0 < n) (h : fX6_init a0 n Z = Z') : Ev Z Z' a0 n 9 ∧ Z'.1 a0 = some (6, 0) ∧ LK Z' a0 [(1, (n + 7), (0, 0)), (0, (n + 0), (2, 0))] := by
  have hp : PO Z a0 6 0 (n + 0) [] := ⟨s0, by omega, fun _ h => by cases h⟩
  have hv : Ev Z Z a0 n 0 := Ev.rf
  unfold fX6_init at h
  obtain ⟨Z1, eZ1, h⟩ := nm h
  have hf1 : FrZ Z Z1 (n + 0) := by rw [eZ1]; exact FrZ.N (Nat.le_refl _)
  have s_q : Z1.1 (n + 0) = some (20 + 2, 0) := by rw [eZ1]; exact s2_s
  have hv : Ev Z Z1 a0 n 1 := by rw [eZ1]; exact hv.N (by omega)
  obtain ⟨Z2, eZ2, h⟩ := nm h
  have hX := pX2_init s_q (show (n + 0) < n + 1 by omega) eZ2.symm
  have hp := hp.fr (Z' := Z2) (n' := n + 7) (hf1.tr (hX.1.1)) (by omega)
  have s_r : Z2.1 (n + 0) = some (2, 0) := hX.2.1
  have hlr := hX.2.2
  have hv : Ev Z Z2 a0 n 7 := hv.K hX.1 (by omega)
  obtain ⟨Z3, eZ3, h⟩ := nm h
  have hv := hv.S (Z2 := Z3) (a := a0) (x := (20 + 6, 1)) (by rw [eZ3]; rfl) (by rw [eZ3]; exact FrZ.R (Nat.le_refl _)) (dm_of hp.1)
  have hp : PO Z3 a0 6 1 (n + 7) ((0, (n + 0), (2, 0)) :: []) := by rw [eZ3]; exact hp.r rfl s_r (by omega) (by omega)
  obtain ⟨Z4, eZ4, h⟩ := nm h
  have hf1 : FrZ Z3 Z4 (n + 7) := by rw [eZ4]; exact FrZ.N (Nat.le_refl _)
  have s_q : Z4.1 (n + 7) = some (20 + 0, 0) := by rw [eZ4]; exact s2_s
  have hv : Ev Z Z4 a0 n 8 := by rw [eZ4]; exact hv.N (by omega)
  obtain ⟨Z5, eZ5, h⟩ := nm h
  have hX := pX0_init s_q (show (n + 7) < n + 8 by omega) eZ5.symm
  have hp := hp.fr (Z' := Z5) (n' := n + 9) (hf1.tr (hX.1.1)) (by omega)
  have s_r : Z5.1 (n + 7) = some (0, 0) := hX.2.1
  have hlr := hX.2.2
  have hv : Ev Z Z5 a0 n 9 := hv.K hX.1 (by omega)
  obtain ⟨Z6, eZ6, h⟩ := nm h
  have hv := hv.S (Z2 := Z6) (a := a0) (x := (20 + 6, 3)) (by rw [eZ6]; rfl) (by rw [eZ6]; exact FrZ.R (Nat.le_refl _)) (dm_of hp.1)
  have hp : PO Z6 a0 6 3 (n + 9) ((1, (n + 7), (0, 0)) :: [(0, (n + 0), (2, 0))]) := by rw [eZ6]; exact hp.r rfl s_r (by omega) (by omega)
  obtain ⟨Z7, eZ7, h⟩ := nm h
  have hv := hv.S (Z2 := Z7) (a := a0) (x := (6, 0)) (by rw [eZ7]; rfl) (by rw [eZ7]; exact FrZ.D (Nat.le_refl _)) (dm_of hp.1)
  have s_a0 : Z7.1 a0 = some (6, 0) := by rw [eZ7]; exact s2_s
  have hlk : LK Z7 a0 [(1, (n + 7), (0, 0)), (0, (n + 0), (2, 0))] := by rw [eZ7]; exact hp.lk
  subst h
  exact ⟨hv, s_a0, hlk⟩
set_option maxRecDepth 100000 in
set_option maxHeartbeats 4000000 in
theorem kX6_init {l : Launch} {D : va_G} {cA : Nat → ClassId} {tS : Nat → Nat} {A : Nat → Prop} {a0 n : Nat} {Z Z' : Zt} (hA : ∀ q, dm Z.1 q → A q) (hAn : ∀ q, n ≤ q → A q) (s0 : Z.1 a0 = some (20 + 6, 0)) (hlt : a0 < n) (h : fX6_init a0 n Z = Z') : Kt l D cA tS A yX6_init cX6_init 1 3 60 9 40402 n [.ref a0] Z Z' := by
  refine Kt.of (by decide) rfl (Nat.le_of_ble_eq_true rfl) hA (fun p e s m args below meth c hsz hin hAO C => ?_)
  have hp : PO Z a0 6 0 (n + 0) [] := ⟨s0, by omega, fun _ h => by cases h⟩
  have hv : Ev Z Z a0 n 0 := Ev.rf
  unfold fX6_init at h
  refine g_aload_n C dX6_init_0 0 rfl ?_
  refine g_objInit C lmX6_3 ⟨by decide, by decide⟩ ⟨by decide, by decide⟩ dX6_init_1 ?_
  refine g_aload_n C dX6_init_4 0 rfl ?_
  refine g_new (t := 2) C (n + 0) (by omega) (by decide) rfl uwX2 tyX2_ok lcX6_9 wnX2 wiX2 (fun rr j hj => by rcases (show j = 0 ∨ j = 1 ∨ j = 2 ∨ j = 3 ∨ j = 4 ∨ j = 5 ∨ j = 6 ∨ j = 7 ∨ j = 8 ∨ j = 9 ∨ j = 10 ∨ j = 11 by omega) with rfl | rfl | rfl | rfl | rfl | rfl | rfl | rfl | rfl | rfl | rfl | rfl <;> rfl) ⟨by decide, by decide⟩ dX6_init_5 ?_
  obtain ⟨Z1, eZ1, h⟩ := nm h
  refine g_z eZ1 ?_
  have hf1 : FrZ Z Z1 (n + 0) := by rw [eZ1]; exact FrZ.N (Nat.le_refl _)
  have s_q : Z1.1 (n + 0) = some (20 + 2, 0) := by rw [eZ1]; exact s2_s
  have hv : Ev Z Z1 a0 n 1 := by rw [eZ1]; exact hv.N (by omega)
  have C := C.up (hv.A' hA hAn)
  refine g_dup C dX6_init_8 rfl ?_
  obtain ⟨Z2, eZ2, h⟩ := nm h
  have hX := pX2_init s_q (show (n + 0) < n + 1 by omega) eZ2.symm
  refine g_callK C hAO (by omega) (kX2_init (hv.A' hA hAn) (fun _ _ => hAn _ (by omega)) s_q (by omega) eZ2.symm) wcX2_init wmX2_init wiX2 rfl (by decide +kernel) lmX6_11 (Nat.le_of_ble_eq_true rfl) dX6_init_9 ⟨by decide, by decide⟩ ⟨by decide, by decide⟩ ?_ ?_
  · have hd9 : dm Z2.1 (s.heap.size + 1 + 6 - 1) := hX.1.2.1 _ (by omega) (by omega)
    cases hh : Z2.1 (s.heap.size + 1 + 6 - 1) with
    | none => exact absurd hh hd9
    | some x => exact ⟨x, rfl⟩
  have hp := hp.fr (Z' := Z2) (n' := n + 7) (hf1.tr (hX.1.1)) (by omega)
  have s_r : Z2.1 (n + 0) = some (2, 0) := hX.2.1
  have hlr := hX.2.2
  have hv : Ev Z Z2 a0 n 7 := hv.K hX.1 (by omega)
  have C := C.up (hv.A' hA hAn)
  refine g_pRr (j := 0) (mk' := 1) C hp.1 (by decide) rfl uwX6 tyX6_ok nmX6 (by decide) rfl hin rfl lfX6_12 rfl rfl rfl (fun _ _ => rfl) (fun _ _ => Nat.le_of_ble_eq_true rfl) dX6_init_12 ?_
  obtain ⟨Z3, eZ3, h⟩ := nm h
  refine g_z eZ3 ?_
  have hv := hv.S (Z2 := Z3) (a := a0) (x := (20 + 6, 1)) (by rw [eZ3]; rfl) (by rw [eZ3]; exact FrZ.R (Nat.le_refl _)) (dm_of hp.1)
  have hp : PO Z3 a0 6 1 (n + 7) ((0, (n + 0), (2, 0)) :: []) := by rw [eZ3]; exact hp.r rfl s_r (by omega) (by omega)
  have C := C.up (hv.A' hA hAn)
  refine g_aload_n C dX6_init_15 0 rfl ?_
  refine g_new (t := 0) C (n + 7) (by omega) (by decide) rfl uwX0 tyX0_ok lcX6_18 wnX0 wiX0 (fun rr j hj => by rcases (show j = 0 ∨ j = 1 ∨ j = 2 by omega) with rfl | rfl | rfl <;> rfl) ⟨by decide, by decide⟩ dX6_init_16 ?_
  obtain ⟨Z4, eZ4, h⟩ := nm h
  refine g_z eZ4 ?_
  have hf1 : FrZ Z3 Z4 (n + 7) := by rw [eZ4]; exact FrZ.N (Nat.le_refl _)
  have s_q : Z4.1 (n + 7) = some (20 + 0, 0) := by rw [eZ4]; exact s2_s
  have hv : Ev Z Z4 a0 n 8 := by rw [eZ4]; exact hv.N (by omega)
  have C := C.up (hv.A' hA hAn)
  refine g_dup C dX6_init_19 rfl ?_
  obtain ⟨Z5, eZ5, h⟩ := nm h
  have hX := pX0_init s_q (show (n + 7) < n + 8 by omega) eZ5.symm
  refine g_callK C hAO (by omega) (kX0_init (hv.A' hA hAn) (fun _ _ => hAn _ (by omega)) s_q (by omega) eZ5.symm) wcX0_init wmX0_init wiX0 rfl (by decide +kernel) lmX6_20 (Nat.le_of_ble_eq_true rfl) dX6_init_20 ⟨by decide, by decide⟩ ⟨by decide, by decide⟩ ?_ ?_
  · have hd9 : dm Z5.1 (s.heap.size + 8 + 1 - 1) := hX.1.2.1 _ (by omega) (by omega)
    cases hh : Z5.1 (s.heap.size + 8 + 1 - 1) with
    | none => exact absurd hh hd9
    | some x => exact ⟨x, rfl⟩
  have hp := hp.fr (Z' := Z5) (n' := n + 9) (hf1.tr (hX.1.1)) (by omega)
  have s_r : Z5.1 (n + 7) = some (0, 0) := hX.2.1
  have hlr := hX.2.2
  have hv : Ev Z Z5 a0 n 9 := hv.K hX.1 (by omega)
  have C := C.up (hv.A' hA hAn)
  refine g_pRn (j := 1) (mk' := 3) C hp.1 (by decide) rfl uwX6 tyX6_ok nmX6 (by decide) rfl lfX6_21 rfl rfl rfl (fun _ _ => rfl) (fun _ _ => Nat.le_of_ble_eq_true rfl) dX6_init_23 ?_
  obtain ⟨Z6, eZ6, h⟩ := nm h
  refine g_z eZ6 ?_
  have hv := hv.S (Z2 := Z6) (a := a0) (x := (20 + 6, 3)) (by rw [eZ6]; rfl) (by rw [eZ6]; exact FrZ.R (Nat.le_refl _)) (dm_of hp.1)
  have hp : PO Z6 a0 6 3 (n + 9) ((1, (n + 7), (0, 0)) :: [(0, (n + 0), (2, 0))]) := by rw [eZ6]; exact hp.r rfl s_r (by omega) (by omega)
  have C := C.up (hv.A' hA hAn)
  refine g_done hp.1 (by decide) (fun _ _ => rfl) (hp.done (fun q hq => by simp only [exl, List.mem_cons, List.not_mem_nil, or_false] at hq; rcases hq with rfl | rfl; exact ⟨(n + 0), by simp⟩; exact ⟨(n + 7), by simp⟩)) ?_
  obtain ⟨Z7, eZ7, h⟩ := nm h
  refine g_z eZ7 ?_
  have hv := hv.S (Z2 := Z7) (a := a0) (x := (6, 0)) (by rw [eZ7]; rfl) (by rw [eZ7]; exact FrZ.D (Nat.le_refl _)) (dm_of hp.1)
  have s_a0 : Z7.1 a0 = some (6, 0) := by rw [eZ7]; exact s2_s
  have hlk : LK Z7 a0 [(1, (n + 7), (0, 0)), (0, (n + 0), (2, 0))] := by rw [eZ7]; exact hp.lk
  have C := C.up (hv.A' hA hAn)
  subst h
  exact g_kret C ⟨rfl, rfl⟩ dX6_init_26
def fX10_init (a0 n : Nat) (Z : Zt) : Zt :=
  lt' (zA Z (n + 0) 12 12020) fun Z1 =>
  lt' (zR Z1 a0 10 1 0 (n + 0)) fun Z2 =>
  lt' (zA Z2 (n + 1) 12 12020) fun Z3 =>
  lt' (zR Z3 a0 10 3 1 (n + 1)) fun Z4 =>
  lt' (zI Z4 a0 4 (-1)) fun Z5 =>
  lt' (zI Z5 a0 5 (-1)) fun Z6 =>
  lt' (zA Z6 (n + 2) 11 12) fun Z7 =>
  lt' (zR Z7 a0 10 131 7 (n + 2)) fun Z8 =>
  lt' (zA Z8 (n + 3) 11 512) fun Z9 =>
  lt' (zR Z9 a0 10 387 8 (n + 3)) fun Z10 =>
  lt' (zA Z10 (n + 4) 11 480) fun Z11 =>
  lt' (zR Z11 a0 10 899 9 (n + 4)) fun Z12 =>
  lt' (zA Z12 (n + 5) 11 12288) fun Z13 =>
  lt' (zR Z13 a0 10 1923 10 (n + 5)) fun Z14 =>
  lt' (zA Z14 (n + 6) 13 196608) fun Z15 =>
  lt' (zR Z15 a0 10 3971 11 (n + 6)) fun Z16 =>
  lt' (zA Z16 (n + 7) 12 12020) fun Z17 =>
  lt' (zR Z17 a0 10 2101123 21 (n + 7)) fun Z18 =>
  lt' (zA Z18 (n + 8) 13 4096) fun Z19 =>
  lt' (zR Z19 a0 10 18878339 24 (n + 8)) fun Z20 =>
  lt' (zA Z20 (n + 9) 13 4096) fun Z21 =>
  lt' (zR Z21 a0 10 52432771 25 (n + 9)) fun Z22 =>
  lt' (zA Z22 (n + 10) 13 4096) fun Z23 =>
  lt' (zR Z23 a0 10 119541635 26 (n + 10)) fun Z24 =>
  lt' (zA Z24 (n + 11) 13 4096) fun Z25 =>
  lt' (zR Z25 a0 10 253759363 27 (n + 11)) fun Z26 =>
  lt' (zA Z26 (n + 12) 12 256) fun Z27 =>
  lt' (zR Z27 a0 10 34613497731 35 (n + 12)) fun Z28 =>
  lt' (zA Z28 (n + 13) 13 4096) fun Z29 =>
  lt' (zR Z29 a0 10 103332974467 36 (n + 13)) fun Z30 =>
  lt' (zA Z30 (n + 14) 13 4096) fun Z31 =>
  lt' (zR Z31 a0 10 240771927939 37 (n + 14)) fun Z32 =>
  lt' (zD Z32 a0 10 0) fun Z33 =>
  lt' (zI Z33 (Z33.2.2 a0 7) (0 : Int32).toNatClampNeg 1) fun Z34 =>
  lt' (zI Z34 (Z34.2.2 a0 7) (1 : Int32).toNatClampNeg 1) fun Z35 =>
  Z35
set_option maxRecDepth 100000 in
set_option maxHeartbeats 4000000 in
theorem pX10_init {a0 n : Nat} {Z Z' : Zt} (s0 : Z.1 a0 = some (20 + 10, 0)) (hlt : a0 < n) (h : fX10_init a0 n Z = Z') : Ev Z Z' a0 n 15 ∧ Z'.1 a0 = some (10, 0) ∧ LK Z' a0 [(37, (n + 14), (13, 4096)), (36, (n + 13), (13, 4096)), (35, (n + 12), (12, 256)), (27, (n + 11), (13, 4096)), (26, (n + 10), (13, 4096)), (25, (n + 9), (13, 4096)), (24, (n + 8), (13, 4096)), (21, (n + 7), (12, 12020)), (11, (n + 6), (13, 196608)), (10, (n + 5), (11, 12288)), (9, (n + 4), (11, 480)), (8, (n + 3), (11, 512)), (7, (n + 2), (11, 12)), (1, (n + 1), (12, 12020)), (0, (n + 0), (12, 12020))] := by
  have hp : PO Z a0 10 0 (n + 0) [] := ⟨s0, by omega, fun _ h => by cases h⟩
  have hv : Ev Z Z a0 n 0 := Ev.rf
  unfold fX10_init at h
  obtain ⟨Z1, eZ1, h⟩ := nm h
  have hp := hp.fr (Z' := Z1) (n' := n + 1) (by rw [eZ1]; exact FrZ.A (Nat.le_refl _)) (by omega)
  have s_r : Z1.1 (n + 0) = some (12, 12020) := by rw [eZ1]; exact s2_s
  have hv : Ev Z Z1 a0 n 1 := by rw [eZ1]; exact hv.A (by omega)
  obtain ⟨Z2, eZ2, h⟩ := nm h
  have hv := hv.S (Z2 := Z2) (a := a0) (x := (20 + 10, 1)) (by rw [eZ2]; rfl) (by rw [eZ2]; exact FrZ.R (Nat.le_refl _)) (dm_of hp.1)
  have hp : PO Z2 a0 10 1 (n + 1) ((0, (n + 0), (12, 12020)) :: []) := by rw [eZ2]; exact hp.r rfl s_r (by omega) (by omega)
  obtain ⟨Z3, eZ3, h⟩ := nm h
  have hp := hp.fr (Z' := Z3) (n' := n + 2) (by rw [eZ3]; exact FrZ.A (Nat.le_refl _)) (by omega)
  have s_r : Z3.1 (n + 1) = some (12, 12020) := by rw [eZ3]; exact s2_s
  have hv : Ev Z Z3 a0 n 2 := by rw [eZ3]; exact hv.A (by omega)
  obtain ⟨Z4, eZ4, h⟩ := nm h
  have hv := hv.S (Z2 := Z4) (a := a0) (x := (20 + 10, 3)) (by rw [eZ4]; rfl) (by rw [eZ4]; exact FrZ.R (Nat.le_refl _)) (dm_of hp.1)
  have hp : PO Z4 a0 10 3 (n + 2) ((1, (n + 1), (12, 12020)) :: [(0, (n + 0), (12, 12020))]) := by rw [eZ4]; exact hp.r rfl s_r (by omega) (by omega)
  obtain ⟨Z5, eZ5, h⟩ := nm h
  have hv := hv.M (Z2 := Z5) (by rw [eZ5]; rfl) (by rw [eZ5]; exact FrZ.I (Nat.le_refl _))
  have hp : PO Z5 a0 10 3 (n + 2) [(1, (n + 1), (12, 12020)), (0, (n + 0), (12, 12020))] := by rw [eZ5]; exact hp.i
  obtain ⟨Z6, eZ6, h⟩ := nm h
  have hv := hv.M (Z2 := Z6) (by rw [eZ6]; rfl) (by rw [eZ6]; exact FrZ.I (Nat.le_refl _))
  have hp : PO Z6 a0 10 3 (n + 2) [(1, (n + 1), (12, 12020)), (0, (n + 0), (12, 12020))] := by rw [eZ6]; exact hp.i
  obtain ⟨Z7, eZ7, h⟩ := nm h
  have hp := hp.fr (Z' := Z7) (n' := n + 3) (by rw [eZ7]; exact FrZ.A (Nat.le_refl _)) (by omega)
  have s_r : Z7.1 (n + 2) = some (11, 12) := by rw [eZ7]; exact s2_s
  have hv : Ev Z Z7 a0 n 3 := by rw [eZ7]; exact hv.A (by omega)
  obtain ⟨Z8, eZ8, h⟩ := nm h
  have hv := hv.S (Z2 := Z8) (a := a0) (x := (20 + 10, 131)) (by rw [eZ8]; rfl) (by rw [eZ8]; exact FrZ.R (Nat.le_refl _)) (dm_of hp.1)
  have hp : PO Z8 a0 10 131 (n + 3) ((7, (n + 2), (11, 12)) :: [(1, (n + 1), (12, 12020)), (0, (n + 0), (12, 12020))]) := by rw [eZ8]; exact hp.r rfl s_r (by omega) (by omega)
  obtain ⟨Z9, eZ9, h⟩ := nm h
  have hp := hp.fr (Z' := Z9) (n' := n + 4) (by rw [eZ9]; exact FrZ.A (Nat.le_refl _)) (by omega)
  have s_r : Z9.1 (n + 3) = some (11, 512) := by rw [eZ9]; exact s2_s
  have hv : Ev Z Z9 a0 n 4 := by rw [eZ9]; exact hv.A (by omega)
  obtain ⟨Z10, eZ10, h⟩ := nm h
  have hv := hv.S (Z2 := Z10) (a := a0) (x := (20 + 10, 387)) (by rw [eZ10]; rfl) (by rw [eZ10]; exact FrZ.R (Nat.le_refl _)) (dm_of hp.1)
  have hp : PO Z10 a0 10 387 (n + 4) ((8, (n + 3), (11, 512)) :: [(7, (n + 2), (11, 12)), (1, (n + 1), (12, 12020)), (0, (n + 0), (12, 12020))]) := by rw [eZ10]; exact hp.r rfl s_r (by omega) (by omega)
  obtain ⟨Z11, eZ11, h⟩ := nm h
  have hp := hp.fr (Z' := Z11) (n' := n + 5) (by rw [eZ11]; exact FrZ.A (Nat.le_refl _)) (by omega)
  have s_r : Z11.1 (n + 4) = some (11, 480) := by rw [eZ11]; exact s2_s
  have hv : Ev Z Z11 a0 n 5 := by rw [eZ11]; exact hv.A (by omega)
  obtain ⟨Z12, eZ12, h⟩ := nm h
  have hv := hv.S (Z2 := Z12) (a := a0) (x := (20 + 10, 899)) (by rw [eZ12]; rfl) (by rw [eZ12]; exact FrZ.R (Nat.le_refl _)) (dm_of hp.1)
  have hp : PO Z12 a0 10 899 (n + 5) ((9, (n + 4), (11, 480)) :: [(8, (n + 3), (11, 512)), (7, (n + 2), (11, 12)), (1, (n + 1), (12, 12020)), (0, (n + 0), (12, 12020))]) := by rw [eZ12]; exact hp.r rfl s_r (by omega) (by omega)
  obtain ⟨Z13, eZ13, h⟩ := nm h
  have hp := hp.fr (Z' := Z13) (n' := n + 6) (by rw [eZ13]; exact FrZ.A (Nat.le_refl _)) (by omega)
  have s_r : Z13.1 (n + 5) = some (11, 12288) := by rw [eZ13]; exact s2_s
  have hv : Ev Z Z13 a0 n 6 := by rw [eZ13]; exact hv.A (by omega)
  obtain ⟨Z14, eZ14, h⟩ := nm h
  have hv := hv.S (Z2 := Z14) (a := a0) (x := (20 + 10, 1923)) (by rw [eZ14]; rfl) (by rw [eZ14]; exact FrZ.R (Nat.le_refl _)) (dm_of hp.1)
  have hp : PO Z14 a0 10 1923 (n + 6) ((10, (n + 5), (11, 12288)) :: [(9, (n + 4), (11, 480)), (8, (n + 3), (11, 512)), (7, (n + 2), (11, 12)), (1, (n + 1), (12, 12020)), (0, (n + 0), (12, 12020))]) := by rw [eZ14]; exact hp.r rfl s_r (by omega) (by omega)
  obtain ⟨Z15, eZ15, h⟩ := nm h
  have hp := hp.fr (Z' := Z15) (n' := n + 7) (by rw [eZ15]; exact FrZ.A (Nat.le_refl _)) (by omega)
  have s_r : Z15.1 (n + 6) = some (13, 196608) := by rw [eZ15]; exact s2_s
  have hv : Ev Z Z15 a0 n 7 := by rw [eZ15]; exact hv.A (by omega)
  obtain ⟨Z16, eZ16, h⟩ := nm h
  have hv := hv.S (Z2 := Z16) (a := a0) (x := (20 + 10, 3971)) (by rw [eZ16]; rfl) (by rw [eZ16]; exact FrZ.R (Nat.le_refl _)) (dm_of hp.1)
  have hp : PO Z16 a0 10 3971 (n + 7) ((11, (n + 6), (13, 196608)) :: [(10, (n + 5), (11, 12288)), (9, (n + 4), (11, 480)), (8, (n + 3), (11, 512)), (7, (n + 2), (11, 12)), (1, (n + 1), (12, 12020)), (0, (n + 0), (12, 12020))]) := by rw [eZ16]; exact hp.r rfl s_r (by omega) (by omega)
  obtain ⟨Z17, eZ17, h⟩ := nm h
  have hp := hp.fr (Z' := Z17) (n' := n + 8) (by rw [eZ17]; exact FrZ.A (Nat.le_refl _)) (by omega)
  have s_r : Z17.1 (n + 7) = some (12, 12020) := by rw [eZ17]; exact s2_s
  have hv : Ev Z Z17 a0 n 8 := by rw [eZ17]; exact hv.A (by omega)
  obtain ⟨Z18, eZ18, h⟩ := nm h
  have hv := hv.S (Z2 := Z18) (a := a0) (x := (20 + 10, 2101123)) (by rw [eZ18]; rfl) (by rw [eZ18]; exact FrZ.R (Nat.le_refl _)) (dm_of hp.1)
  have hp : PO Z18 a0 10 2101123 (n + 8) ((21, (n + 7), (12, 12020)) :: [(11, (n + 6), (13, 196608)), (10, (n + 5), (11, 12288)), (9, (n + 4), (11, 480)), (8, (n + 3), (11, 512)), (7, (n + 2), (11, 12)), (1, (n + 1), (12, 12020)), (0, (n + 0), (12, 12020))]) := by rw [eZ18]; exact hp.r rfl s_r (by omega) (by omega)
  obtain ⟨Z19, eZ19, h⟩ := nm h
  have hp := hp.fr (Z' := Z19) (n' := n + 9) (by rw [eZ19]; exact FrZ.A (Nat.le_refl _)) (by omega)
  have s_r : Z19.1 (n + 8) = some (13, 4096) := by rw [eZ19]; exact s2_s
  have hv : Ev Z Z19 a0 n 9 := by rw [eZ19]; exact hv.A (by omega)
  obtain ⟨Z20, eZ20, h⟩ := nm h
  have hv := hv.S (Z2 := Z20) (a := a0) (x := (20 + 10, 18878339)) (by rw [eZ20]; rfl) (by rw [eZ20]; exact FrZ.R (Nat.le_refl _)) (dm_of hp.1)
  have hp : PO Z20 a0 10 18878339 (n + 9) ((24, (n + 8), (13, 4096)) :: [(21, (n + 7), (12, 12020)), (11, (n + 6), (13, 196608)), (10, (n + 5), (11, 12288)), (9, (n + 4), (11, 480)), (8, (n + 3), (11, 512)), (7, (n + 2), (11, 12)), (1, (n + 1), (12, 12020)), (0, (n + 0), (12, 12020))]) := by rw [eZ20]; exact hp.r rfl s_r (by omega) (by omega)
  obtain ⟨Z21, eZ21, h⟩ := nm h
  have hp := hp.fr (Z' := Z21) (n' := n + 10) (by rw [eZ21]; exact FrZ.A (Nat.le_refl _)) (by omega)
  have s_r : Z21.1 (n + 9) = some (13, 4096) := by rw [eZ21]; exact s2_s
  have hv : Ev Z Z21 a0 n 10 := by rw [eZ21]; exact hv.A (by omega)
  obtain ⟨Z22, eZ22, h⟩ := nm h
  have hv := hv.S (Z2 := Z22) (a := a0) (x := (20 + 10, 52432771)) (by rw [eZ22]; rfl) (by rw [eZ22]; exact FrZ.R (Nat.le_refl _)) (dm_of hp.1)
  have hp : PO Z22 a0 10 52432771 (n + 10) ((25, (n + 9), (13, 4096)) :: [(24, (n + 8), (13, 4096)), (21, (n + 7), (12, 12020)), (11, (n + 6), (13, 196608)), (10, (n + 5), (11, 12288)), (9, (n + 4), (11, 480)), (8, (n + 3), (11, 512)), (7, (n + 2), (11, 12)), (1, (n + 1), (12, 12020)), (0, (n + 0), (12, 12020))]) := by rw [eZ22]; exact hp.r rfl s_r (by omega) (by omega)
  obtain ⟨Z23, eZ23, h⟩ := nm h
  have hp := hp.fr (Z' := Z23) (n' := n + 11) (by rw [eZ23]; exact FrZ.A (Nat.le_refl _)) (by omega)
  have s_r : Z23.1 (n + 10) = some (13, 4096) := by rw [eZ23]; exact s2_s
  have hv : Ev Z Z23 a0 n 11 := by rw [eZ23]; exact hv.A (by omega)
  obtain ⟨Z24, eZ24, h⟩ := nm h
  have hv := hv.S (Z2 := Z24) (a := a0) (x := (20 + 10, 119541635)) (by rw [eZ24]; rfl) (by rw [eZ24]; exact FrZ.R (Nat.le_refl _)) (dm_of hp.1)
  have hp : PO Z24 a0 10 119541635 (n + 11) ((26, (n + 10), (13, 4096)) :: [(25, (n + 9), (13, 4096)), (24, (n + 8), (13, 4096)), (21, (n + 7), (12, 12020)), (11, (n + 6), (13, 196608)), (10, (n + 5), (11, 12288)), (9, (n + 4), (11, 480)), (8, (n + 3), (11, 512)), (7, (n + 2), (11, 12)), (1, (n + 1), (12, 12020)), (0, (n + 0), (12, 12020))]) := by rw [eZ24]; exact hp.r rfl s_r (by omega) (by omega)
  obtain ⟨Z25, eZ25, h⟩ := nm h
  have hp := hp.fr (Z' := Z25) (n' := n + 12) (by rw [eZ25]; exact FrZ.A (Nat.le_refl _)) (by omega)
  have s_r : Z25.1 (n + 11) = some (13, 4096) := by rw [eZ25]; exact s2_s
  have hv : Ev Z Z25 a0 n 12 := by rw [eZ25]; exact hv.A (by omega)
  obtain ⟨Z26, eZ26, h⟩ := nm h
  have hv := hv.S (Z2 := Z26) (a := a0) (x := (20 + 10, 253759363)) (by rw [eZ26]; rfl) (by rw [eZ26]; exact FrZ.R (Nat.le_refl _)) (dm_of hp.1)
  have hp : PO Z26 a0 10 253759363 (n + 12) ((27, (n + 11), (13, 4096)) :: [(26, (n + 10), (13, 4096)), (25, (n + 9), (13, 4096)), (24, (n + 8), (13, 4096)), (21, (n + 7), (12, 12020)), (11, (n + 6), (13, 196608)), (10, (n + 5), (11, 12288)), (9, (n + 4), (11, 480)), (8, (n + 3), (11, 512)), (7, (n + 2), (11, 12)), (1, (n + 1), (12, 12020)), (0, (n + 0), (12, 12020))]) := by rw [eZ26]; exact hp.r rfl s_r (by omega) (by omega)
  obtain ⟨Z27, eZ27, h⟩ := nm h
  have hp := hp.fr (Z' := Z27) (n' := n + 13) (by rw [eZ27]; exact FrZ.A (Nat.le_refl _)) (by omega)
  have s_r : Z27.1 (n + 12) = some (12, 256) := by rw [eZ27]; exact s2_s
  have hv : Ev Z Z27 a0 n 13 := by rw [eZ27]; exact hv.A (by omega)
  obtain ⟨Z28, eZ28, h⟩ := nm h
  have hv := hv.S (Z2 := Z28) (a := a0) (x := (20 + 10, 34613497731)) (by rw [eZ28]; rfl) (by rw [eZ28]; exact FrZ.R (Nat.le_refl _)) (dm_of hp.1)
  have hp : PO Z28 a0 10 34613497731 (n + 13) ((35, (n + 12), (12, 256)) :: [(27, (n + 11), (13, 4096)), (26, (n + 10), (13, 4096)), (25, (n + 9), (13, 4096)), (24, (n + 8), (13, 4096)), (21, (n + 7), (12, 12020)), (11, (n + 6), (13, 196608)), (10, (n + 5), (11, 12288)), (9, (n + 4), (11, 480)), (8, (n + 3), (11, 512)), (7, (n + 2), (11, 12)), (1, (n + 1), (12, 12020)), (0, (n + 0), (12, 12020))]) := by rw [eZ28]; exact hp.r rfl s_r (by omega) (by omega)
  obtain ⟨Z29, eZ29, h⟩ := nm h
  have hp := hp.fr (Z' := Z29) (n' := n + 14) (by rw [eZ29]; exact FrZ.A (Nat.le_refl _)) (by omega)
  have s_r : Z29.1 (n + 13) = some (13, 4096) := by rw [eZ29]; exact s2_s
  have hv : Ev Z Z29 a0 n 14 := by rw [eZ29]; exact hv.A (by omega)
  obtain ⟨Z30, eZ30, h⟩ := nm h
  have hv := hv.S (Z2 := Z30) (a := a0) (x := (20 + 10, 103332974467)) (by rw [eZ30]; rfl) (by rw [eZ30]; exact FrZ.R (Nat.le_refl _)) (dm_of hp.1)
  have hp : PO Z30 a0 10 103332974467 (n + 14) ((36, (n + 13), (13, 4096)) :: [(35, (n + 12), (12, 256)), (27, (n + 11), (13, 4096)), (26, (n + 10), (13, 4096)), (25, (n + 9), (13, 4096)), (24, (n + 8), (13, 4096)), (21, (n + 7), (12, 12020)), (11, (n + 6), (13, 196608)), (10, (n + 5), (11, 12288)), (9, (n + 4), (11, 480)), (8, (n + 3), (11, 512)), (7, (n + 2), (11, 12)), (1, (n + 1), (12, 12020)), (0, (n + 0), (12, 12020))]) := by rw [eZ30]; exact hp.r rfl s_r (by omega) (by omega)
  obtain ⟨Z31, eZ31, h⟩ := nm h
  have hp := hp.fr (Z' := Z31) (n' := n + 15) (by rw [eZ31]; exact FrZ.A (Nat.le_refl _)) (by omega)
  have s_r : Z31.1 (n + 14) = some (13, 4096) := by rw [eZ31]; exact s2_s
  have hv : Ev Z Z31 a0 n 15 := by rw [eZ31]; exact hv.A (by omega)
  obtain ⟨Z32, eZ32, h⟩ := nm h
  have hv := hv.S (Z2 := Z32) (a := a0) (x := (20 + 10, 240771927939)) (by rw [eZ32]; rfl) (by rw [eZ32]; exact FrZ.R (Nat.le_refl _)) (dm_of hp.1)
  have hp : PO Z32 a0 10 240771927939 (n + 15) ((37, (n + 14), (13, 4096)) :: [(36, (n + 13), (13, 4096)), (35, (n + 12), (12, 256)), (27, (n + 11), (13, 4096)), (26, (n + 10), (13, 4096)), (25, (n + 9), (13, 4096)), (24, (n + 8), (13, 4096)), (21, (n + 7), (12, 12020)), (11, (n + 6), (13, 196608)), (10, (n + 5), (11, 12288)), (9, (n + 4), (11, 480)), (8, (n + 3), (11, 512)), (7, (n + 2), (11, 12)), (1, (n + 1), (12, 12020)), (0, (n + 0), (12, 12020))]) := by rw [eZ32]; exact hp.r rfl s_r (by omega) (by omega)
  obtain ⟨Z33, eZ33, h⟩ := nm h
  have hv := hv.S (Z2 := Z33) (a := a0) (x := (10, 0)) (by rw [eZ33]; rfl) (by rw [eZ33]; exact FrZ.D (Nat.le_refl _)) (dm_of hp.1)
  have s_a0 : Z33.1 a0 = some (10, 0) := by rw [eZ33]; exact s2_s
  have hlk : LK Z33 a0 [(37, (n + 14), (13, 4096)), (36, (n + 13), (13, 4096)), (35, (n + 12), (12, 256)), (27, (n + 11), (13, 4096)), (26, (n + 10), (13, 4096)), (25, (n + 9), (13, 4096)), (24, (n + 8), (13, 4096)), (21, (n + 7), (12, 12020)), (11, (n + 6), (13, 196608)), (10, (n + 5), (11, 12288)), (9, (n + 4), (11, 480)), (8, (n + 3), (11, 512)), (7, (n + 2), (11, 12)), (1, (n + 1), (12, 12020)), (0, (n + 0), (12, 12020))] := by rw [eZ33]; exact hp.lk
  obtain ⟨Z34, eZ34, h⟩ := nm h
  have e8 : Z33.2.2 a0 7 = (n + 2) := (hlk _ (List.mem_of_getElem? (i := 12) rfl)).1
  have hge : a0 ≤ Z33.2.2 a0 7 := by omega
  have hv := hv.M (Z2 := Z34) (by rw [eZ34]; rfl) (by rw [eZ34]; exact FrZ.I hge)
  have s_a0 : Z34.1 a0 = some (10, 0) := by rw [eZ34]; exact s_a0
  have hlk : LK Z34 a0 [(37, (n + 14), (13, 4096)), (36, (n + 13), (13, 4096)), (35, (n + 12), (12, 256)), (27, (n + 11), (13, 4096)), (26, (n + 10), (13, 4096)), (25, (n + 9), (13, 4096)), (24, (n + 8), (13, 4096)), (21, (n + 7), (12, 12020)), (11, (n + 6), (13, 196608)), (10, (n + 5), (11, 12288)), (9, (n + 4), (11, 480)), (8, (n + 3), (11, 512)), (7, (n + 2), (11, 12)), (1, (n + 1), (12, 12020)), (0, (n + 0), (12, 12020))] := by rw [eZ34]; exact hlk
  obtain ⟨Z35, eZ35, h⟩ := nm h
  have e8 : Z34.2.2 a0 7 = (n + 2) := (hlk _ (List.mem_of_getElem? (i := 12) rfl)).1
  have hge : a0 ≤ Z34.2.2 a0 7 := by omega
  have hv := hv.M (Z2 := Z35) (by rw [eZ35]; rfl) (by rw [eZ35]; exact FrZ.I hge)
  have s_a0 : Z35.1 a0 = some (10, 0) := by rw [eZ35]; exact s_a0
  have hlk : LK Z35 a0 [(37, (n + 14), (13, 4096)), (36, (n + 13), (13, 4096)), (35, (n + 12), (12, 256)), (27, (n + 11), (13, 4096)), (26, (n + 10), (13, 4096)), (25, (n + 9), (13, 4096)), (24, (n + 8), (13, 4096)), (21, (n + 7), (12, 12020)), (11, (n + 6), (13, 196608)), (10, (n + 5), (11, 12288)), (9, (n + 4), (11, 480)), (8, (n + 3), (11, 512)), (7, (n + 2), (11, 12)), (1, (n + 1), (12, 12020)), (0, (n + 0), (12, 12020))] := by rw [eZ35]; exact hlk
  subst h
  exact ⟨hv, s_a0, hlk⟩
set_option maxRecDepth 100000 in
set_option maxHeartbeats 4000000 in
theorem kX10_init {l : Launch} {D : va_G} {cA : Nat → ClassId} {tS : Nat → Nat} {A : Nat → Prop} {a0 n : Nat} {Z Z' : Zt} (hA : ∀ q, dm Z.1 q → A q) (hAn : ∀ q, n ≤ q → A q) (s0 : Z.1 a0 = some (20 + 10, 0)) (hlt : a0 < n) (h : fX10_init a0 n Z = Z') : Kt l D cA tS A yX10_init cX10_init 1 1 20 15 270792 n [.ref a0] Z Z' := by
  refine Kt.of (by decide) rfl (Nat.le_of_ble_eq_true rfl) hA (fun p e s m args below meth c hsz hin hAO C => ?_)
  have hp : PO Z a0 10 0 (n + 0) [] := ⟨s0, by omega, fun _ h => by cases h⟩
  have hv : Ev Z Z a0 n 0 := Ev.rf
  unfold fX10_init at h
  refine g_aload_n C dX10_init_0 0 rfl ?_
  refine g_objInit C lmX10_1 ⟨by decide, by decide⟩ ⟨by decide, by decide⟩ dX10_init_1 ?_
  refine g_aload_n C dX10_init_4 0 rfl ?_
  refine g_sipush (v := 12020) C dX10_init_5 (by decide) ?_
  refine g_newa (at0 := .byte) (t := 12) (N := 12020) (k0 := 1) (ty := .byte) C (n + 0) (by omega) (by decide) rfl rfl (fun _ => rfl) rfl wa_byte (by decide) (by decide) (by decide) ⟨by decide, by decide⟩ dX10_init_8 ?_
  obtain ⟨Z1, eZ1, h⟩ := nm h
  refine g_z eZ1 ?_
  have hp := hp.fr (Z' := Z1) (n' := n + 1) (by rw [eZ1]; exact FrZ.A (Nat.le_refl _)) (by omega)
  have s_r : Z1.1 (n + 0) = some (12, 12020) := by rw [eZ1]; exact s2_s
  have hv : Ev Z Z1 a0 n 1 := by rw [eZ1]; exact hv.A (by omega)
  have C := C.up (hv.A' hA hAn)
  refine g_pRr (j := 0) (mk' := 1) C hp.1 (by decide) rfl uwX10 tyX10_ok nmX10 (by decide) rfl hin rfl lfX10_7 rfl rfl rfl (fun _ _ => rfl) (fun _ _ => Nat.le_of_ble_eq_true rfl) dX10_init_10 ?_
  obtain ⟨Z2, eZ2, h⟩ := nm h
  refine g_z eZ2 ?_
  have hv := hv.S (Z2 := Z2) (a := a0) (x := (20 + 10, 1)) (by rw [eZ2]; rfl) (by rw [eZ2]; exact FrZ.R (Nat.le_refl _)) (dm_of hp.1)
  have hp : PO Z2 a0 10 1 (n + 1) ((0, (n + 0), (12, 12020)) :: []) := by rw [eZ2]; exact hp.r rfl s_r (by omega) (by omega)
  have C := C.up (hv.A' hA hAn)
  refine g_aload_n C dX10_init_13 0 rfl ?_
  refine g_sipush (v := 12020) C dX10_init_14 (by decide) ?_
  refine g_newa (at0 := .byte) (t := 12) (N := 12020) (k0 := 1) (ty := .byte) C (n + 1) (by omega) (by decide) rfl rfl (fun _ => rfl) rfl wa_byte (by decide) (by decide) (by decide) ⟨by decide, by decide⟩ dX10_init_17 ?_
  obtain ⟨Z3, eZ3, h⟩ := nm h
  refine g_z eZ3 ?_
  have hp := hp.fr (Z' := Z3) (n' := n + 2) (by rw [eZ3]; exact FrZ.A (Nat.le_refl _)) (by omega)
  have s_r : Z3.1 (n + 1) = some (12, 12020) := by rw [eZ3]; exact s2_s
  have hv : Ev Z Z3 a0 n 2 := by rw [eZ3]; exact hv.A (by omega)
  have C := C.up (hv.A' hA hAn)
  refine g_pRr (j := 1) (mk' := 3) C hp.1 (by decide) rfl uwX10 tyX10_ok nmX10 (by decide) rfl hin rfl lfX10_13 rfl rfl rfl (fun _ _ => rfl) (fun _ _ => Nat.le_of_ble_eq_true rfl) dX10_init_19 ?_
  obtain ⟨Z4, eZ4, h⟩ := nm h
  refine g_z eZ4 ?_
  have hv := hv.S (Z2 := Z4) (a := a0) (x := (20 + 10, 3)) (by rw [eZ4]; rfl) (by rw [eZ4]; exact FrZ.R (Nat.le_refl _)) (dm_of hp.1)
  have hp : PO Z4 a0 10 3 (n + 2) ((1, (n + 1), (12, 12020)) :: [(0, (n + 0), (12, 12020))]) := by rw [eZ4]; exact hp.r rfl s_r (by omega) (by omega)
  have C := C.up (hv.A' hA hAn)
  refine g_aload_n C dX10_init_22 0 rfl ?_
  refine g_iconst (v := -1) C dX10_init_23 (by decide) ?_
  refine g_pIi (j := 4) C hp.1 (by decide) rfl uwX10 tyX10_ok nmX10 (by decide) rfl lfX10_16 rfl rfl rfl (fun _ _ => rfl) (fun _ _ => Nat.le_of_ble_eq_true rfl) dX10_init_24 ?_
  obtain ⟨Z5, eZ5, h⟩ := nm h
  refine g_z eZ5 ?_
  have hv := hv.M (Z2 := Z5) (by rw [eZ5]; rfl) (by rw [eZ5]; exact FrZ.I (Nat.le_refl _))
  have hp : PO Z5 a0 10 3 (n + 2) [(1, (n + 1), (12, 12020)), (0, (n + 0), (12, 12020))] := by rw [eZ5]; exact hp.i
  have C := C.up (hv.A' hA hAn)
  refine g_aload_n C dX10_init_27 0 rfl ?_
  refine g_iconst (v := -1) C dX10_init_28 (by decide) ?_
  refine g_pIi (j := 5) C hp.1 (by decide) rfl uwX10 tyX10_ok nmX10 (by decide) rfl lfX10_20 rfl rfl rfl (fun _ _ => rfl) (fun _ _ => Nat.le_of_ble_eq_true rfl) dX10_init_29 ?_
  obtain ⟨Z6, eZ6, h⟩ := nm h
  refine g_z eZ6 ?_
  have hv := hv.M (Z2 := Z6) (by rw [eZ6]; rfl) (by rw [eZ6]; exact FrZ.I (Nat.le_refl _))
  have hp : PO Z6 a0 10 3 (n + 2) [(1, (n + 1), (12, 12020)), (0, (n + 0), (12, 12020))] := by rw [eZ6]; exact hp.i
  have C := C.up (hv.A' hA hAn)
  refine g_aload_n C dX10_init_32 0 rfl ?_
  refine g_bipush (v := 12) C dX10_init_33 (by decide) ?_
  refine g_newa (at0 := .int) (t := 11) (N := 12) (k0 := 0) (ty := .int) C (n + 2) (by omega) (by decide) rfl rfl (fun _ => rfl) rfl wa_int (by decide) (by decide) (by decide) ⟨by decide, by decide⟩ dX10_init_35 ?_
  obtain ⟨Z7, eZ7, h⟩ := nm h
  refine g_z eZ7 ?_
  have hp := hp.fr (Z' := Z7) (n' := n + 3) (by rw [eZ7]; exact FrZ.A (Nat.le_refl _)) (by omega)
  have s_r : Z7.1 (n + 2) = some (11, 12) := by rw [eZ7]; exact s2_s
  have hv : Ev Z Z7 a0 n 3 := by rw [eZ7]; exact hv.A (by omega)
  have C := C.up (hv.A' hA hAn)
  refine g_pRr (j := 7) (mk' := 131) C hp.1 (by decide) rfl uwX10 tyX10_ok nmX10 (by decide) rfl hin rfl lfX10_23 rfl rfl rfl (fun _ _ => rfl) (fun _ _ => Nat.le_of_ble_eq_true rfl) dX10_init_37 ?_
  obtain ⟨Z8, eZ8, h⟩ := nm h
  refine g_z eZ8 ?_
  have hv := hv.S (Z2 := Z8) (a := a0) (x := (20 + 10, 131)) (by rw [eZ8]; rfl) (by rw [eZ8]; exact FrZ.R (Nat.le_refl _)) (dm_of hp.1)
  have hp : PO Z8 a0 10 131 (n + 3) ((7, (n + 2), (11, 12)) :: [(1, (n + 1), (12, 12020)), (0, (n + 0), (12, 12020))]) := by rw [eZ8]; exact hp.r rfl s_r (by omega) (by omega)
  have C := C.up (hv.A' hA hAn)
  refine g_aload_n C dX10_init_40 0 rfl ?_
  refine g_sipush (v := 512) C dX10_init_41 (by decide) ?_
  refine g_newa (at0 := .int) (t := 11) (N := 512) (k0 := 0) (ty := .int) C (n + 3) (by omega) (by decide) rfl rfl (fun _ => rfl) rfl wa_int (by decide) (by decide) (by decide) ⟨by decide, by decide⟩ dX10_init_44 ?_
  obtain ⟨Z9, eZ9, h⟩ := nm h
  refine g_z eZ9 ?_
  have hp := hp.fr (Z' := Z9) (n' := n + 4) (by rw [eZ9]; exact FrZ.A (Nat.le_refl _)) (by omega)
  have s_r : Z9.1 (n + 3) = some (11, 512) := by rw [eZ9]; exact s2_s
  have hv : Ev Z Z9 a0 n 4 := by rw [eZ9]; exact hv.A (by omega)
  have C := C.up (hv.A' hA hAn)
  refine g_pRr (j := 8) (mk' := 387) C hp.1 (by decide) rfl uwX10 tyX10_ok nmX10 (by decide) rfl hin rfl lfX10_27 rfl rfl rfl (fun _ _ => rfl) (fun _ _ => Nat.le_of_ble_eq_true rfl) dX10_init_46 ?_
  obtain ⟨Z10, eZ10, h⟩ := nm h
  refine g_z eZ10 ?_
  have hv := hv.S (Z2 := Z10) (a := a0) (x := (20 + 10, 387)) (by rw [eZ10]; rfl) (by rw [eZ10]; exact FrZ.R (Nat.le_refl _)) (dm_of hp.1)
  have hp : PO Z10 a0 10 387 (n + 4) ((8, (n + 3), (11, 512)) :: [(7, (n + 2), (11, 12)), (1, (n + 1), (12, 12020)), (0, (n + 0), (12, 12020))]) := by rw [eZ10]; exact hp.r rfl s_r (by omega) (by omega)
  have C := C.up (hv.A' hA hAn)
  refine g_aload_n C dX10_init_49 0 rfl ?_
  refine g_sipush (v := 480) C dX10_init_50 (by decide) ?_
  refine g_newa (at0 := .int) (t := 11) (N := 480) (k0 := 0) (ty := .int) C (n + 4) (by omega) (by decide) rfl rfl (fun _ => rfl) rfl wa_int (by decide) (by decide) (by decide) ⟨by decide, by decide⟩ dX10_init_53 ?_
  obtain ⟨Z11, eZ11, h⟩ := nm h
  refine g_z eZ11 ?_
  have hp := hp.fr (Z' := Z11) (n' := n + 5) (by rw [eZ11]; exact FrZ.A (Nat.le_refl _)) (by omega)
  have s_r : Z11.1 (n + 4) = some (11, 480) := by rw [eZ11]; exact s2_s
  have hv : Ev Z Z11 a0 n 5 := by rw [eZ11]; exact hv.A (by omega)
  have C := C.up (hv.A' hA hAn)
  refine g_pRr (j := 9) (mk' := 899) C hp.1 (by decide) rfl uwX10 tyX10_ok nmX10 (by decide) rfl hin rfl lfX10_30 rfl rfl rfl (fun _ _ => rfl) (fun _ _ => Nat.le_of_ble_eq_true rfl) dX10_init_55 ?_
  obtain ⟨Z12, eZ12, h⟩ := nm h
  refine g_z eZ12 ?_
  have hv := hv.S (Z2 := Z12) (a := a0) (x := (20 + 10, 899)) (by rw [eZ12]; rfl) (by rw [eZ12]; exact FrZ.R (Nat.le_refl _)) (dm_of hp.1)
  have hp : PO Z12 a0 10 899 (n + 5) ((9, (n + 4), (11, 480)) :: [(8, (n + 3), (11, 512)), (7, (n + 2), (11, 12)), (1, (n + 1), (12, 12020)), (0, (n + 0), (12, 12020))]) := by rw [eZ12]; exact hp.r rfl s_r (by omega) (by omega)
  have C := C.up (hv.A' hA hAn)
  refine g_aload_n C dX10_init_58 0 rfl ?_
  refine g_sipush (v := 12288) C dX10_init_59 (by decide) ?_
  refine g_newa (at0 := .int) (t := 11) (N := 12288) (k0 := 0) (ty := .int) C (n + 5) (by omega) (by decide) rfl rfl (fun _ => rfl) rfl wa_int (by decide) (by decide) (by decide) ⟨by decide, by decide⟩ dX10_init_62 ?_
  obtain ⟨Z13, eZ13, h⟩ := nm h
  refine g_z eZ13 ?_
  have hp := hp.fr (Z' := Z13) (n' := n + 6) (by rw [eZ13]; exact FrZ.A (Nat.le_refl _)) (by omega)
  have s_r : Z13.1 (n + 5) = some (11, 12288) := by rw [eZ13]; exact s2_s
  have hv : Ev Z Z13 a0 n 6 := by rw [eZ13]; exact hv.A (by omega)
  have C := C.up (hv.A' hA hAn)
  refine g_pRr (j := 10) (mk' := 1923) C hp.1 (by decide) rfl uwX10 tyX10_ok nmX10 (by decide) rfl hin rfl lfX10_33 rfl rfl rfl (fun _ _ => rfl) (fun _ _ => Nat.le_of_ble_eq_true rfl) dX10_init_64 ?_
  obtain ⟨Z14, eZ14, h⟩ := nm h
  refine g_z eZ14 ?_
  have hv := hv.S (Z2 := Z14) (a := a0) (x := (20 + 10, 1923)) (by rw [eZ14]; rfl) (by rw [eZ14]; exact FrZ.R (Nat.le_refl _)) (dm_of hp.1)
  have hp : PO Z14 a0 10 1923 (n + 6) ((10, (n + 5), (11, 12288)) :: [(9, (n + 4), (11, 480)), (8, (n + 3), (11, 512)), (7, (n + 2), (11, 12)), (1, (n + 1), (12, 12020)), (0, (n + 0), (12, 12020))]) := by rw [eZ14]; exact hp.r rfl s_r (by omega) (by omega)
  have C := C.up (hv.A' hA hAn)
  refine g_aload_n C dX10_init_67 0 rfl ?_
  refine g_ldc C dX10_init_68 lkX10_36 ?_
  refine g_newa (at0 := .short) (t := 13) (N := 196608) (k0 := 2) (ty := .short) C (n + 6) (by omega) (by decide) rfl rfl (fun _ => rfl) rfl wa_short (by decide) (by decide) (by decide) ⟨by decide, by decide⟩ dX10_init_70 ?_
  obtain ⟨Z15, eZ15, h⟩ := nm h
  refine g_z eZ15 ?_
  have hp := hp.fr (Z' := Z15) (n' := n + 7) (by rw [eZ15]; exact FrZ.A (Nat.le_refl _)) (by omega)
  have s_r : Z15.1 (n + 6) = some (13, 196608) := by rw [eZ15]; exact s2_s
  have hv : Ev Z Z15 a0 n 7 := by rw [eZ15]; exact hv.A (by omega)
  have C := C.up (hv.A' hA hAn)
  refine g_pRr (j := 11) (mk' := 3971) C hp.1 (by decide) rfl uwX10 tyX10_ok nmX10 (by decide) rfl hin rfl lfX10_37 rfl rfl rfl (fun _ _ => rfl) (fun _ _ => Nat.le_of_ble_eq_true rfl) dX10_init_72 ?_
  obtain ⟨Z16, eZ16, h⟩ := nm h
  refine g_z eZ16 ?_
  have hv := hv.S (Z2 := Z16) (a := a0) (x := (20 + 10, 3971)) (by rw [eZ16]; rfl) (by rw [eZ16]; exact FrZ.R (Nat.le_refl _)) (dm_of hp.1)
  have hp : PO Z16 a0 10 3971 (n + 7) ((11, (n + 6), (13, 196608)) :: [(10, (n + 5), (11, 12288)), (9, (n + 4), (11, 480)), (8, (n + 3), (11, 512)), (7, (n + 2), (11, 12)), (1, (n + 1), (12, 12020)), (0, (n + 0), (12, 12020))]) := by rw [eZ16]; exact hp.r rfl s_r (by omega) (by omega)
  have C := C.up (hv.A' hA hAn)
  refine g_aload_n C dX10_init_75 0 rfl ?_
  refine g_sipush (v := 12020) C dX10_init_76 (by decide) ?_
  refine g_newa (at0 := .byte) (t := 12) (N := 12020) (k0 := 1) (ty := .byte) C (n + 7) (by omega) (by decide) rfl rfl (fun _ => rfl) rfl wa_byte (by decide) (by decide) (by decide) ⟨by decide, by decide⟩ dX10_init_79 ?_
  obtain ⟨Z17, eZ17, h⟩ := nm h
  refine g_z eZ17 ?_
  have hp := hp.fr (Z' := Z17) (n' := n + 8) (by rw [eZ17]; exact FrZ.A (Nat.le_refl _)) (by omega)
  have s_r : Z17.1 (n + 7) = some (12, 12020) := by rw [eZ17]; exact s2_s
  have hv : Ev Z Z17 a0 n 8 := by rw [eZ17]; exact hv.A (by omega)
  have C := C.up (hv.A' hA hAn)
  refine g_pRr (j := 21) (mk' := 2101123) C hp.1 (by decide) rfl uwX10 tyX10_ok nmX10 (by decide) rfl hin rfl lfX10_41 rfl rfl rfl (fun _ _ => rfl) (fun _ _ => Nat.le_of_ble_eq_true rfl) dX10_init_81 ?_
  obtain ⟨Z18, eZ18, h⟩ := nm h
  refine g_z eZ18 ?_
  have hv := hv.S (Z2 := Z18) (a := a0) (x := (20 + 10, 2101123)) (by rw [eZ18]; rfl) (by rw [eZ18]; exact FrZ.R (Nat.le_refl _)) (dm_of hp.1)
  have hp : PO Z18 a0 10 2101123 (n + 8) ((21, (n + 7), (12, 12020)) :: [(11, (n + 6), (13, 196608)), (10, (n + 5), (11, 12288)), (9, (n + 4), (11, 480)), (8, (n + 3), (11, 512)), (7, (n + 2), (11, 12)), (1, (n + 1), (12, 12020)), (0, (n + 0), (12, 12020))]) := by rw [eZ18]; exact hp.r rfl s_r (by omega) (by omega)
  have C := C.up (hv.A' hA hAn)
  refine g_aload_n C dX10_init_84 0 rfl ?_
  refine g_sipush (v := 4096) C dX10_init_85 (by decide) ?_
  refine g_newa (at0 := .short) (t := 13) (N := 4096) (k0 := 2) (ty := .short) C (n + 8) (by omega) (by decide) rfl rfl (fun _ => rfl) rfl wa_short (by decide) (by decide) (by decide) ⟨by decide, by decide⟩ dX10_init_88 ?_
  obtain ⟨Z19, eZ19, h⟩ := nm h
  refine g_z eZ19 ?_
  have hp := hp.fr (Z' := Z19) (n' := n + 9) (by rw [eZ19]; exact FrZ.A (Nat.le_refl _)) (by omega)
  have s_r : Z19.1 (n + 8) = some (13, 4096) := by rw [eZ19]; exact s2_s
  have hv : Ev Z Z19 a0 n 9 := by rw [eZ19]; exact hv.A (by omega)
  have C := C.up (hv.A' hA hAn)
  refine g_pRr (j := 24) (mk' := 18878339) C hp.1 (by decide) rfl uwX10 tyX10_ok nmX10 (by decide) rfl hin rfl lfX10_44 rfl rfl rfl (fun _ _ => rfl) (fun _ _ => Nat.le_of_ble_eq_true rfl) dX10_init_90 ?_
  obtain ⟨Z20, eZ20, h⟩ := nm h
  refine g_z eZ20 ?_
  have hv := hv.S (Z2 := Z20) (a := a0) (x := (20 + 10, 18878339)) (by rw [eZ20]; rfl) (by rw [eZ20]; exact FrZ.R (Nat.le_refl _)) (dm_of hp.1)
  have hp : PO Z20 a0 10 18878339 (n + 9) ((24, (n + 8), (13, 4096)) :: [(21, (n + 7), (12, 12020)), (11, (n + 6), (13, 196608)), (10, (n + 5), (11, 12288)), (9, (n + 4), (11, 480)), (8, (n + 3), (11, 512)), (7, (n + 2), (11, 12)), (1, (n + 1), (12, 12020)), (0, (n + 0), (12, 12020))]) := by rw [eZ20]; exact hp.r rfl s_r (by omega) (by omega)
  have C := C.up (hv.A' hA hAn)
  refine g_aload_n C dX10_init_93 0 rfl ?_
  refine g_sipush (v := 4096) C dX10_init_94 (by decide) ?_
  refine g_newa (at0 := .short) (t := 13) (N := 4096) (k0 := 2) (ty := .short) C (n + 9) (by omega) (by decide) rfl rfl (fun _ => rfl) rfl wa_short (by decide) (by decide) (by decide) ⟨by decide, by decide⟩ dX10_init_97 ?_
  obtain ⟨Z21, eZ21, h⟩ := nm h
  refine g_z eZ21 ?_
  have hp := hp.fr (Z' := Z21) (n' := n + 10) (by rw [eZ21]; exact FrZ.A (Nat.le_refl _)) (by omega)
  have s_r : Z21.1 (n + 9) = some (13, 4096) := by rw [eZ21]; exact s2_s
  have hv : Ev Z Z21 a0 n 10 := by rw [eZ21]; exact hv.A (by omega)
  have C := C.up (hv.A' hA hAn)
  refine g_pRr (j := 25) (mk' := 52432771) C hp.1 (by decide) rfl uwX10 tyX10_ok nmX10 (by decide) rfl hin rfl lfX10_47 rfl rfl rfl (fun _ _ => rfl) (fun _ _ => Nat.le_of_ble_eq_true rfl) dX10_init_99 ?_
  obtain ⟨Z22, eZ22, h⟩ := nm h
  refine g_z eZ22 ?_
  have hv := hv.S (Z2 := Z22) (a := a0) (x := (20 + 10, 52432771)) (by rw [eZ22]; rfl) (by rw [eZ22]; exact FrZ.R (Nat.le_refl _)) (dm_of hp.1)
  have hp : PO Z22 a0 10 52432771 (n + 10) ((25, (n + 9), (13, 4096)) :: [(24, (n + 8), (13, 4096)), (21, (n + 7), (12, 12020)), (11, (n + 6), (13, 196608)), (10, (n + 5), (11, 12288)), (9, (n + 4), (11, 480)), (8, (n + 3), (11, 512)), (7, (n + 2), (11, 12)), (1, (n + 1), (12, 12020)), (0, (n + 0), (12, 12020))]) := by rw [eZ22]; exact hp.r rfl s_r (by omega) (by omega)
  have C := C.up (hv.A' hA hAn)
  refine g_aload_n C dX10_init_102 0 rfl ?_
  refine g_sipush (v := 4096) C dX10_init_103 (by decide) ?_
  refine g_newa (at0 := .short) (t := 13) (N := 4096) (k0 := 2) (ty := .short) C (n + 10) (by omega) (by decide) rfl rfl (fun _ => rfl) rfl wa_short (by decide) (by decide) (by decide) ⟨by decide, by decide⟩ dX10_init_106 ?_
  obtain ⟨Z23, eZ23, h⟩ := nm h
  refine g_z eZ23 ?_
  have hp := hp.fr (Z' := Z23) (n' := n + 11) (by rw [eZ23]; exact FrZ.A (Nat.le_refl _)) (by omega)
  have s_r : Z23.1 (n + 10) = some (13, 4096) := by rw [eZ23]; exact s2_s
  have hv : Ev Z Z23 a0 n 11 := by rw [eZ23]; exact hv.A (by omega)
  have C := C.up (hv.A' hA hAn)
  refine g_pRr (j := 26) (mk' := 119541635) C hp.1 (by decide) rfl uwX10 tyX10_ok nmX10 (by decide) rfl hin rfl lfX10_50 rfl rfl rfl (fun _ _ => rfl) (fun _ _ => Nat.le_of_ble_eq_true rfl) dX10_init_108 ?_
  obtain ⟨Z24, eZ24, h⟩ := nm h
  refine g_z eZ24 ?_
  have hv := hv.S (Z2 := Z24) (a := a0) (x := (20 + 10, 119541635)) (by rw [eZ24]; rfl) (by rw [eZ24]; exact FrZ.R (Nat.le_refl _)) (dm_of hp.1)
  have hp : PO Z24 a0 10 119541635 (n + 11) ((26, (n + 10), (13, 4096)) :: [(25, (n + 9), (13, 4096)), (24, (n + 8), (13, 4096)), (21, (n + 7), (12, 12020)), (11, (n + 6), (13, 196608)), (10, (n + 5), (11, 12288)), (9, (n + 4), (11, 480)), (8, (n + 3), (11, 512)), (7, (n + 2), (11, 12)), (1, (n + 1), (12, 12020)), (0, (n + 0), (12, 12020))]) := by rw [eZ24]; exact hp.r rfl s_r (by omega) (by omega)
  have C := C.up (hv.A' hA hAn)
  refine g_aload_n C dX10_init_111 0 rfl ?_
  refine g_sipush (v := 4096) C dX10_init_112 (by decide) ?_
  refine g_newa (at0 := .short) (t := 13) (N := 4096) (k0 := 2) (ty := .short) C (n + 11) (by omega) (by decide) rfl rfl (fun _ => rfl) rfl wa_short (by decide) (by decide) (by decide) ⟨by decide, by decide⟩ dX10_init_115 ?_
  obtain ⟨Z25, eZ25, h⟩ := nm h
  refine g_z eZ25 ?_
  have hp := hp.fr (Z' := Z25) (n' := n + 12) (by rw [eZ25]; exact FrZ.A (Nat.le_refl _)) (by omega)
  have s_r : Z25.1 (n + 11) = some (13, 4096) := by rw [eZ25]; exact s2_s
  have hv : Ev Z Z25 a0 n 12 := by rw [eZ25]; exact hv.A (by omega)
  have C := C.up (hv.A' hA hAn)
  refine g_pRr (j := 27) (mk' := 253759363) C hp.1 (by decide) rfl uwX10 tyX10_ok nmX10 (by decide) rfl hin rfl lfX10_53 rfl rfl rfl (fun _ _ => rfl) (fun _ _ => Nat.le_of_ble_eq_true rfl) dX10_init_117 ?_
  obtain ⟨Z26, eZ26, h⟩ := nm h
  refine g_z eZ26 ?_
  have hv := hv.S (Z2 := Z26) (a := a0) (x := (20 + 10, 253759363)) (by rw [eZ26]; rfl) (by rw [eZ26]; exact FrZ.R (Nat.le_refl _)) (dm_of hp.1)
  have hp : PO Z26 a0 10 253759363 (n + 12) ((27, (n + 11), (13, 4096)) :: [(26, (n + 10), (13, 4096)), (25, (n + 9), (13, 4096)), (24, (n + 8), (13, 4096)), (21, (n + 7), (12, 12020)), (11, (n + 6), (13, 196608)), (10, (n + 5), (11, 12288)), (9, (n + 4), (11, 480)), (8, (n + 3), (11, 512)), (7, (n + 2), (11, 12)), (1, (n + 1), (12, 12020)), (0, (n + 0), (12, 12020))]) := by rw [eZ26]; exact hp.r rfl s_r (by omega) (by omega)
  have C := C.up (hv.A' hA hAn)
  refine g_aload_n C dX10_init_120 0 rfl ?_
  refine g_sipush (v := 256) C dX10_init_121 (by decide) ?_
  refine g_newa (at0 := .byte) (t := 12) (N := 256) (k0 := 1) (ty := .byte) C (n + 12) (by omega) (by decide) rfl rfl (fun _ => rfl) rfl wa_byte (by decide) (by decide) (by decide) ⟨by decide, by decide⟩ dX10_init_124 ?_
  obtain ⟨Z27, eZ27, h⟩ := nm h
  refine g_z eZ27 ?_
  have hp := hp.fr (Z' := Z27) (n' := n + 13) (by rw [eZ27]; exact FrZ.A (Nat.le_refl _)) (by omega)
  have s_r : Z27.1 (n + 12) = some (12, 256) := by rw [eZ27]; exact s2_s
  have hv : Ev Z Z27 a0 n 13 := by rw [eZ27]; exact hv.A (by omega)
  have C := C.up (hv.A' hA hAn)
  refine g_pRr (j := 35) (mk' := 34613497731) C hp.1 (by decide) rfl uwX10 tyX10_ok nmX10 (by decide) rfl hin rfl lfX10_56 rfl rfl rfl (fun _ _ => rfl) (fun _ _ => Nat.le_of_ble_eq_true rfl) dX10_init_126 ?_
  obtain ⟨Z28, eZ28, h⟩ := nm h
  refine g_z eZ28 ?_
  have hv := hv.S (Z2 := Z28) (a := a0) (x := (20 + 10, 34613497731)) (by rw [eZ28]; rfl) (by rw [eZ28]; exact FrZ.R (Nat.le_refl _)) (dm_of hp.1)
  have hp : PO Z28 a0 10 34613497731 (n + 13) ((35, (n + 12), (12, 256)) :: [(27, (n + 11), (13, 4096)), (26, (n + 10), (13, 4096)), (25, (n + 9), (13, 4096)), (24, (n + 8), (13, 4096)), (21, (n + 7), (12, 12020)), (11, (n + 6), (13, 196608)), (10, (n + 5), (11, 12288)), (9, (n + 4), (11, 480)), (8, (n + 3), (11, 512)), (7, (n + 2), (11, 12)), (1, (n + 1), (12, 12020)), (0, (n + 0), (12, 12020))]) := by rw [eZ28]; exact hp.r rfl s_r (by omega) (by omega)
  have C := C.up (hv.A' hA hAn)
  refine g_aload_n C dX10_init_129 0 rfl ?_
  refine g_sipush (v := 4096) C dX10_init_130 (by decide) ?_
  refine g_newa (at0 := .short) (t := 13) (N := 4096) (k0 := 2) (ty := .short) C (n + 13) (by omega) (by decide) rfl rfl (fun _ => rfl) rfl wa_short (by decide) (by decide) (by decide) ⟨by decide, by decide⟩ dX10_init_133 ?_
  obtain ⟨Z29, eZ29, h⟩ := nm h
  refine g_z eZ29 ?_
  have hp := hp.fr (Z' := Z29) (n' := n + 14) (by rw [eZ29]; exact FrZ.A (Nat.le_refl _)) (by omega)
  have s_r : Z29.1 (n + 13) = some (13, 4096) := by rw [eZ29]; exact s2_s
  have hv : Ev Z Z29 a0 n 14 := by rw [eZ29]; exact hv.A (by omega)
  have C := C.up (hv.A' hA hAn)
  refine g_pRr (j := 36) (mk' := 103332974467) C hp.1 (by decide) rfl uwX10 tyX10_ok nmX10 (by decide) rfl hin rfl lfX10_59 rfl rfl rfl (fun _ _ => rfl) (fun _ _ => Nat.le_of_ble_eq_true rfl) dX10_init_135 ?_
  obtain ⟨Z30, eZ30, h⟩ := nm h
  refine g_z eZ30 ?_
  have hv := hv.S (Z2 := Z30) (a := a0) (x := (20 + 10, 103332974467)) (by rw [eZ30]; rfl) (by rw [eZ30]; exact FrZ.R (Nat.le_refl _)) (dm_of hp.1)
  have hp : PO Z30 a0 10 103332974467 (n + 14) ((36, (n + 13), (13, 4096)) :: [(35, (n + 12), (12, 256)), (27, (n + 11), (13, 4096)), (26, (n + 10), (13, 4096)), (25, (n + 9), (13, 4096)), (24, (n + 8), (13, 4096)), (21, (n + 7), (12, 12020)), (11, (n + 6), (13, 196608)), (10, (n + 5), (11, 12288)), (9, (n + 4), (11, 480)), (8, (n + 3), (11, 512)), (7, (n + 2), (11, 12)), (1, (n + 1), (12, 12020)), (0, (n + 0), (12, 12020))]) := by rw [eZ30]; exact hp.r rfl s_r (by omega) (by omega)
  have C := C.up (hv.A' hA hAn)
  refine g_aload_n C dX10_init_138 0 rfl ?_
  refine g_sipush (v := 4096) C dX10_init_139 (by decide) ?_
  refine g_newa (at0 := .short) (t := 13) (N := 4096) (k0 := 2) (ty := .short) C (n + 14) (by omega) (by decide) rfl rfl (fun _ => rfl) rfl wa_short (by decide) (by decide) (by decide) ⟨by decide, by decide⟩ dX10_init_142 ?_
  obtain ⟨Z31, eZ31, h⟩ := nm h
  refine g_z eZ31 ?_
  have hp := hp.fr (Z' := Z31) (n' := n + 15) (by rw [eZ31]; exact FrZ.A (Nat.le_refl _)) (by omega)
  have s_r : Z31.1 (n + 14) = some (13, 4096) := by rw [eZ31]; exact s2_s
  have hv : Ev Z Z31 a0 n 15 := by rw [eZ31]; exact hv.A (by omega)
  have C := C.up (hv.A' hA hAn)
  refine g_pRr (j := 37) (mk' := 240771927939) C hp.1 (by decide) rfl uwX10 tyX10_ok nmX10 (by decide) rfl hin rfl lfX10_62 rfl rfl rfl (fun _ _ => rfl) (fun _ _ => Nat.le_of_ble_eq_true rfl) dX10_init_144 ?_
  obtain ⟨Z32, eZ32, h⟩ := nm h
  refine g_z eZ32 ?_
  have hv := hv.S (Z2 := Z32) (a := a0) (x := (20 + 10, 240771927939)) (by rw [eZ32]; rfl) (by rw [eZ32]; exact FrZ.R (Nat.le_refl _)) (dm_of hp.1)
  have hp : PO Z32 a0 10 240771927939 (n + 15) ((37, (n + 14), (13, 4096)) :: [(36, (n + 13), (13, 4096)), (35, (n + 12), (12, 256)), (27, (n + 11), (13, 4096)), (26, (n + 10), (13, 4096)), (25, (n + 9), (13, 4096)), (24, (n + 8), (13, 4096)), (21, (n + 7), (12, 12020)), (11, (n + 6), (13, 196608)), (10, (n + 5), (11, 12288)), (9, (n + 4), (11, 480)), (8, (n + 3), (11, 512)), (7, (n + 2), (11, 12)), (1, (n + 1), (12, 12020)), (0, (n + 0), (12, 12020))]) := by rw [eZ32]; exact hp.r rfl s_r (by omega) (by omega)
  have C := C.up (hv.A' hA hAn)
  refine g_aload_n C dX10_init_147 0 rfl ?_
  refine g_done hp.1 (by decide) (fun _ _ => rfl) (hp.done (fun q hq => by simp only [exl, List.mem_cons, List.not_mem_nil, or_false] at hq; rcases hq with rfl | rfl | rfl | rfl | rfl | rfl | rfl | rfl | rfl | rfl | rfl | rfl | rfl | rfl | rfl; exact ⟨(n + 0), by simp⟩; exact ⟨(n + 1), by simp⟩; exact ⟨(n + 2), by simp⟩; exact ⟨(n + 3), by simp⟩; exact ⟨(n + 4), by simp⟩; exact ⟨(n + 5), by simp⟩; exact ⟨(n + 6), by simp⟩; exact ⟨(n + 7), by simp⟩; exact ⟨(n + 8), by simp⟩; exact ⟨(n + 9), by simp⟩; exact ⟨(n + 10), by simp⟩; exact ⟨(n + 11), by simp⟩; exact ⟨(n + 12), by simp⟩; exact ⟨(n + 13), by simp⟩; exact ⟨(n + 14), by simp⟩)) ?_
  obtain ⟨Z33, eZ33, h⟩ := nm h
  refine g_z eZ33 ?_
  have hv := hv.S (Z2 := Z33) (a := a0) (x := (10, 0)) (by rw [eZ33]; rfl) (by rw [eZ33]; exact FrZ.D (Nat.le_refl _)) (dm_of hp.1)
  have s_a0 : Z33.1 a0 = some (10, 0) := by rw [eZ33]; exact s2_s
  have hlk : LK Z33 a0 [(37, (n + 14), (13, 4096)), (36, (n + 13), (13, 4096)), (35, (n + 12), (12, 256)), (27, (n + 11), (13, 4096)), (26, (n + 10), (13, 4096)), (25, (n + 9), (13, 4096)), (24, (n + 8), (13, 4096)), (21, (n + 7), (12, 12020)), (11, (n + 6), (13, 196608)), (10, (n + 5), (11, 12288)), (9, (n + 4), (11, 480)), (8, (n + 3), (11, 512)), (7, (n + 2), (11, 12)), (1, (n + 1), (12, 12020)), (0, (n + 0), (12, 12020))] := by rw [eZ33]; exact hp.lk
  have C := C.up (hv.A' hA hAn)
  refine g_wt (fun hT => ?_)
  refine g_getr (j := 7) C s_a0 (by decide) rfl uwX10 (by decide) rfl lfX10_23 rfl dX10_init_148 ?_
  refine g_iconst (v := 0) C dX10_init_151 (by decide) ?_
  refine g_iconst (v := 1) C dX10_init_152 (by decide) ?_
  refine g_iast C (hT.1 _ _ 7 _ s_a0 rfl) (ib_in rfl) dX10_init_153 ?_
  obtain ⟨Z34, eZ34, h⟩ := nm h
  refine g_z eZ34 ?_
  have e8 : Z33.2.2 a0 7 = (n + 2) := (hlk _ (List.mem_of_getElem? (i := 12) rfl)).1
  have hge : a0 ≤ Z33.2.2 a0 7 := by omega
  have hv := hv.M (Z2 := Z34) (by rw [eZ34]; rfl) (by rw [eZ34]; exact FrZ.I hge)
  have s_a0 : Z34.1 a0 = some (10, 0) := by rw [eZ34]; exact s_a0
  have hlk : LK Z34 a0 [(37, (n + 14), (13, 4096)), (36, (n + 13), (13, 4096)), (35, (n + 12), (12, 256)), (27, (n + 11), (13, 4096)), (26, (n + 10), (13, 4096)), (25, (n + 9), (13, 4096)), (24, (n + 8), (13, 4096)), (21, (n + 7), (12, 12020)), (11, (n + 6), (13, 196608)), (10, (n + 5), (11, 12288)), (9, (n + 4), (11, 480)), (8, (n + 3), (11, 512)), (7, (n + 2), (11, 12)), (1, (n + 1), (12, 12020)), (0, (n + 0), (12, 12020))] := by rw [eZ34]; exact hlk
  have C := C.up (hv.A' hA hAn)
  refine g_aload_n C dX10_init_154 0 rfl ?_
  refine g_wt (fun hT => ?_)
  refine g_getr (j := 7) C s_a0 (by decide) rfl uwX10 (by decide) rfl lfX10_23 rfl dX10_init_155 ?_
  refine g_iconst (v := 1) C dX10_init_158 (by decide) ?_
  refine g_iconst (v := 1) C dX10_init_159 (by decide) ?_
  refine g_iast C (hT.1 _ _ 7 _ s_a0 rfl) (ib_in rfl) dX10_init_160 ?_
  obtain ⟨Z35, eZ35, h⟩ := nm h
  refine g_z eZ35 ?_
  have e8 : Z34.2.2 a0 7 = (n + 2) := (hlk _ (List.mem_of_getElem? (i := 12) rfl)).1
  have hge : a0 ≤ Z34.2.2 a0 7 := by omega
  have hv := hv.M (Z2 := Z35) (by rw [eZ35]; rfl) (by rw [eZ35]; exact FrZ.I hge)
  have s_a0 : Z35.1 a0 = some (10, 0) := by rw [eZ35]; exact s_a0
  have hlk : LK Z35 a0 [(37, (n + 14), (13, 4096)), (36, (n + 13), (13, 4096)), (35, (n + 12), (12, 256)), (27, (n + 11), (13, 4096)), (26, (n + 10), (13, 4096)), (25, (n + 9), (13, 4096)), (24, (n + 8), (13, 4096)), (21, (n + 7), (12, 12020)), (11, (n + 6), (13, 196608)), (10, (n + 5), (11, 12288)), (9, (n + 4), (11, 480)), (8, (n + 3), (11, 512)), (7, (n + 2), (11, 12)), (1, (n + 1), (12, 12020)), (0, (n + 0), (12, 12020))] := by rw [eZ35]; exact hlk
  have C := C.up (hv.A' hA hAn)
  subst h
  exact g_kret C ⟨rfl, rfl⟩ dX10_init_161
