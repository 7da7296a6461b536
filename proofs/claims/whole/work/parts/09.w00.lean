set_option maxRecDepth 100000 in
set_option maxHeartbeats 4000000 in
theorem wX0_clear {p : Program} {l : Launch} {e : Env} {s : State} {m : MethodId} {args : Array Value} {below : List Frame} {meth : Method} {c : Code} {D : va_G} {cA : Nat → ClassId} {tS : Nat → Nat} {σ : Sg} {q : Mm} (C : Cx p s m args meth c (dm σ) D cA tS σ cX0_clear none 1 RX0) (a0 : Nat) (μ : Mm) (s_a0 : σ a0 = some (0, 0)) (h : fX0_clear a0 μ = q) : GG p l e (rmO 0 0) s m args below meth c 0 0 (dm σ) D cA σ 1 (MQ below (QV D cA σ q) args s 0 0 (dm σ)) 0 [(0, .ref a0)] [] μ := by
  unfold fX0_clear at h
  refine g_aload_n C dX0_clear_0 0 rfl ?_
  refine g_iconst (v := 0) C dX0_clear_1 (by decide) ?_
  refine g_puti (j := 1) C s_a0 (by decide) rfl uwX0 tyX0_ok nmX0 (by decide) rfl lfX0_15 rfl rfl rfl (fun _ _ => rfl) (fun _ _ => Nat.le_of_ble_eq_true rfl) dX0_clear_2 ?_
  obtain ⟨μ1, e_μ1, h⟩ := nm h
  refine g_mu e_μ1 ?_
  refine g_aload_n C dX0_clear_5 0 rfl ?_
  refine g_iconst (v := 0) C dX0_clear_6 (by decide) ?_
  refine g_puti (j := 2) C s_a0 (by decide) rfl uwX0 tyX0_ok nmX0 (by decide) rfl lfX0_19 rfl rfl rfl (fun _ _ => rfl) (fun _ _ => Nat.le_of_ble_eq_true rfl) dX0_clear_7 ?_
  obtain ⟨μ2, e_μ2, h⟩ := nm h
  refine g_mu e_μ2 ?_
  subst h
  exact g_return C dX0_clear_10
theorem miX0_clear : MI yX0_clear cX0_clear 1 none RX0 0 := ⟨wcX0_clear, wmX0_clear, wsX0_clear, wiX0, by decide +kernel⟩
theorem kX0_clear {l : Launch} {D : va_G} {cA : Nat → ClassId} {tS : Nat → Nat} {σ : Sg} {a0 : Nat} {μ : Mm} {q : Mm} (s_a0 : σ a0 = some (0, 0)) (h : fX0_clear a0 μ = q) : Ct l D cA tS σ yX0_clear cX0_clear 1 none (rmO 0 0) [.ref a0] μ (QV D cA σ q) :=
  Ct.of (by decide) (Nat.le_of_ble_eq_true rfl) (fun _ _ _ _ _ _ _ _ C => wX0_clear C _ _ s_a0 h)
set_option maxRecDepth 100000 in
set_option maxHeartbeats 4000000 in
theorem wX0_add {p : Program} {l : Launch} {e : Env} {s : State} {m : MethodId} {args : Array Value} {below : List Frame} {meth : Method} {c : Code} {D : va_G} {cA : Nat → ClassId} {tS : Nat → Nat} {σ : Sg} {q : Mm} (C : Cx p s m args meth c (dm σ) D cA tS σ cX0_add none 2 RX0) (a0 : Nat) (v1 : Int32) (μ : Mm) (s_a0 : σ a0 = some (0, 0)) (h : fX0_add a0 v1 μ = some q) : GG p l e (rmO 0 0) s m args below meth c 0 0 (dm σ) D cA σ 2 (MQ below (QV D cA σ q) args s 0 0 (dm σ)) 0 [(0, .ref a0), (1, .int v1)] [] μ := by
  unfold fX0_add at h
  refine g_aload_n C dX0_add_0 0 rfl ?_
  refine g_geti (j := 1) C s_a0 (by decide) rfl uwX0 (by decide) rfl lfX0_15 rfl dX0_add_1 ?_
  refine g_sipush (v := 12000) C dX0_add_4 (by decide) ?_
  refine g_icmp_lt C 16 dX0_add_7 rfl (fun q => ?_) (fun q => ?_)
  · replace h := ip q h
    refine g_aload_n C dX0_add_16 0 rfl ?_
    refine g_wt (fun hT_μ => ?_)
    refine g_getr (j := 0) C s_a0 (by decide) rfl uwX0 (by decide) rfl lfX0_9 rfl dX0_add_17 ?_
    refine g_aload_n C dX0_add_20 0 rfl ?_
    refine g_geti (j := 1) C s_a0 (by decide) rfl uwX0 (by decide) rfl lfX0_15 rfl dX0_add_21 ?_
    refine g_iload_n C dX0_add_24 1 rfl ?_
    refine g_sipush (v := 255) C dX0_add_25 (by decide) ?_
    refine g_iand C dX0_add_28 ?_
    obtain ⟨hg, h⟩ := gs h
    refine g_iast C (hT_μ.1 _ _ 0 _ s_a0 rfl) (ib_in hg) dX0_add_29 ?_
    obtain ⟨μ1, e_μ1, h⟩ := nm h
    refine g_mu e_μ1 ?_
    refine g_aload_n C dX0_add_30 0 rfl ?_
    refine g_dup C dX0_add_31 rfl ?_
    refine g_geti (j := 1) C s_a0 (by decide) rfl uwX0 (by decide) rfl lfX0_15 rfl dX0_add_32 ?_
    refine g_iconst (v := 1) C dX0_add_35 (by decide) ?_
    refine g_iadd C dX0_add_36 ?_
    refine g_puti (j := 1) C s_a0 (by decide) rfl uwX0 tyX0_ok nmX0 (by decide) rfl lfX0_15 rfl rfl rfl (fun _ _ => rfl) (fun _ _ => Nat.le_of_ble_eq_true rfl) dX0_add_37 ?_
    obtain ⟨μ2, e_μ2, h⟩ := nm h
    refine g_mu e_μ2 ?_
    cases h
    exact g_return C dX0_add_40
  · replace h := iq q h
    refine g_aload_n C dX0_add_10 0 rfl ?_
    refine g_iconst (v := 1) C dX0_add_11 (by decide) ?_
    refine g_puti (j := 2) C s_a0 (by decide) rfl uwX0 tyX0_ok nmX0 (by decide) rfl lfX0_19 rfl rfl rfl (fun _ _ => rfl) (fun _ _ => Nat.le_of_ble_eq_true rfl) dX0_add_12 ?_
    obtain ⟨μ3, e_μ3, h⟩ := nm h
    refine g_mu e_μ3 ?_
    cases h
    exact g_return C dX0_add_15
theorem miX0_add : MI yX0_add cX0_add 2 none RX0 1 := ⟨wcX0_add, wmX0_add, wsX0_add, wiX0, by decide +kernel⟩
theorem kX0_add {l : Launch} {D : va_G} {cA : Nat → ClassId} {tS : Nat → Nat} {σ : Sg} {a0 : Nat} {v1 : Int32} {μ : Mm} {q : Mm} (s_a0 : σ a0 = some (0, 0)) (h : fX0_add a0 v1 μ = some q) : Ct l D cA tS σ yX0_add cX0_add 2 none (rmO 0 0) [.ref a0, .int v1] μ (QV D cA σ q) :=
  Ct.of (by decide) (Nat.le_of_ble_eq_true rfl) (fun _ _ _ _ _ _ _ _ C => wX0_add C _ _ _ s_a0 h)
set_option maxRecDepth 100000 in
set_option maxHeartbeats 4000000 in
theorem wX0_addTwo {p : Program} {l : Launch} {e : Env} {s : State} {m : MethodId} {args : Array Value} {below : List Frame} {meth : Method} {c : Code} {D : va_G} {cA : Nat → ClassId} {tS : Nat → Nat} {σ : Sg} {q : Mm} (C : Cx p s m args meth c (dm σ) D cA tS σ cX0_addTwo none 2 RX0) (a0 : Nat) (v1 : Int32) (μ : Mm) (s_a0 : σ a0 = some (0, 0)) (h : fX0_addTwo a0 v1 μ = some q) : GG p l e (rmO 1 21) s m args below meth c 0 0 (dm σ) D cA σ 2 (MQ below (QV D cA σ q) args s 0 0 (dm σ)) 0 [(0, .ref a0), (1, .int v1)] [] μ := by
  unfold fX0_addTwo at h
  refine g_aload_n C dX0_addTwo_0 0 rfl ?_
  refine g_iload_n C dX0_addTwo_1 1 rfl ?_
  obtain ⟨μ1, e_μ1, h⟩ := bs h
  refine g_callVV C (kX0_add s_a0 e_μ1) miX0_add lmX0_23 s_a0 (by decide) rfl rfl rfl (Nat.le_of_ble_eq_true rfl) dX0_addTwo_2 ⟨by decide, by decide⟩ ⟨Nat.zero_le _, Nat.zero_le _⟩ ?_
  refine g_aload_n C dX0_addTwo_5 0 rfl ?_
  refine g_iload_n C dX0_addTwo_6 1 rfl ?_
  refine g_bipush (v := 8) C dX0_addTwo_7 (by decide) ?_
  refine g_ishr C dX0_addTwo_9 ?_
  obtain ⟨μ2, e_μ2, h⟩ := bs h
  refine g_callVV C (kX0_add s_a0 e_μ2) miX0_add lmX0_23 s_a0 (by decide) rfl rfl rfl (Nat.le_of_ble_eq_true rfl) dX0_addTwo_10 ⟨by decide, by decide⟩ ⟨Nat.zero_le _, Nat.zero_le _⟩ ?_
  cases h
  exact g_return C dX0_addTwo_13
theorem miX0_addTwo : MI yX0_addTwo cX0_addTwo 2 none RX0 1 := ⟨wcX0_addTwo, wmX0_addTwo, wsX0_addTwo, wiX0, by decide +kernel⟩
theorem kX0_addTwo {l : Launch} {D : va_G} {cA : Nat → ClassId} {tS : Nat → Nat} {σ : Sg} {a0 : Nat} {v1 : Int32} {μ : Mm} {q : Mm} (s_a0 : σ a0 = some (0, 0)) (h : fX0_addTwo a0 v1 μ = some q) : Ct l D cA tS σ yX0_addTwo cX0_addTwo 2 none (rmO 1 21) [.ref a0, .int v1] μ (QV D cA σ q) :=
  Ct.of (by decide) (Nat.le_of_ble_eq_true rfl) (fun _ _ _ _ _ _ _ _ C => wX0_addTwo C _ _ _ s_a0 h)
set_option maxRecDepth 100000 in
set_option maxHeartbeats 4000000 in
theorem wX0_addFour {p : Program} {l : Launch} {e : Env} {s : State} {m : MethodId} {args : Array Value} {below : List Frame} {meth : Method} {c : Code} {D : va_G} {cA : Nat → ClassId} {tS : Nat → Nat} {σ : Sg} {q : Mm} (C : Cx p s m args meth c (dm σ) D cA tS σ cX0_addFour none 2 RX0) (a0 : Nat) (v1 : Int32) (μ : Mm) (s_a0 : σ a0 = some (0, 0)) (h : fX0_addFour a0 v1 μ = some q) : GG p l e (rmO 1 21) s m args below meth c 0 0 (dm σ) D cA σ 2 (MQ below (QV D cA σ q) args s 0 0 (dm σ)) 0 [(0, .ref a0), (1, .int v1)] [] μ := by
  unfold fX0_addFour at h
  refine g_aload_n C dX0_addFour_0 0 rfl ?_
  refine g_iload_n C dX0_addFour_1 1 rfl ?_
  refine g_bipush (v := 24) C dX0_addFour_2 (by decide) ?_
  refine g_ishr C dX0_addFour_4 ?_
  obtain ⟨μ1, e_μ1, h⟩ := bs h
  refine g_callVV C (kX0_add s_a0 e_μ1) miX0_add lmX0_23 s_a0 (by decide) rfl rfl rfl (Nat.le_of_ble_eq_true rfl) dX0_addFour_5 ⟨by decide, by decide⟩ ⟨Nat.zero_le _, Nat.zero_le _⟩ ?_
  refine g_aload_n C dX0_addFour_8 0 rfl ?_
  refine g_iload_n C dX0_addFour_9 1 rfl ?_
  refine g_bipush (v := 16) C dX0_addFour_10 (by decide) ?_
  refine g_ishr C dX0_addFour_12 ?_
  obtain ⟨μ2, e_μ2, h⟩ := bs h
  refine g_callVV C (kX0_add s_a0 e_μ2) miX0_add lmX0_23 s_a0 (by decide) rfl rfl rfl (Nat.le_of_ble_eq_true rfl) dX0_addFour_13 ⟨by decide, by decide⟩ ⟨Nat.zero_le _, Nat.zero_le _⟩ ?_
  refine g_aload_n C dX0_addFour_16 0 rfl ?_
  refine g_iload_n C dX0_addFour_17 1 rfl ?_
  refine g_bipush (v := 8) C dX0_addFour_18 (by decide) ?_
  refine g_ishr C dX0_addFour_20 ?_
  obtain ⟨μ3, e_μ3, h⟩ := bs h
  refine g_callVV C (kX0_add s_a0 e_μ3) miX0_add lmX0_23 s_a0 (by decide) rfl rfl rfl (Nat.le_of_ble_eq_true rfl) dX0_addFour_21 ⟨by decide, by decide⟩ ⟨Nat.zero_le _, Nat.zero_le _⟩ ?_
  refine g_aload_n C dX0_addFour_24 0 rfl ?_
  refine g_iload_n C dX0_addFour_25 1 rfl ?_
  obtain ⟨μ4, e_μ4, h⟩ := bs h
  refine g_callVV C (kX0_add s_a0 e_μ4) miX0_add lmX0_23 s_a0 (by decide) rfl rfl rfl (Nat.le_of_ble_eq_true rfl) dX0_addFour_26 ⟨by decide, by decide⟩ ⟨Nat.zero_le _, Nat.zero_le _⟩ ?_
  cases h
  exact g_return C dX0_addFour_29
theorem miX0_addFour : MI yX0_addFour cX0_addFour 2 none RX0 1 := ⟨wcX0_addFour, wmX0_addFour, wsX0_addFour, wiX0, by decide +kernel⟩
theorem kX0_addFour {l : Launch} {D : va_G} {cA : Nat → ClassId} {tS : Nat → Nat} {σ : Sg} {a0 : Nat} {v1 : Int32} {μ : Mm} {q : Mm} (s_a0 : σ a0 = some (0, 0)) (h : fX0_addFour a0 v1 μ = some q) : Ct l D cA tS σ yX0_addFour cX0_addFour 2 none (rmO 1 21) [.ref a0, .int v1] μ (QV D cA σ q) :=
  Ct.of (by decide) (Nat.le_of_ble_eq_true rfl) (fun _ _ _ _ _ _ _ _ C => wX0_addFour C _ _ _ s_a0 h)
set_option maxRecDepth 100000 in
set_option maxHeartbeats 4000000 in
theorem wX0_at {p : Program} {l : Launch} {e : Env} {s : State} {m : MethodId} {args : Array Value} {below : List Frame} {meth : Method} {c : Code} {D : va_G} {cA : Nat → ClassId} {tS : Nat → Nat} {σ : Sg} {q : Int32} (C : Cx p s m args meth c (dm σ) D cA tS σ cX0_at (some .int) 2 RX0) (a0 : Nat) (v1 : Int32) (μ : Mm) (s_a0 : σ a0 = some (0, 0)) (h : fX0_at a0 v1 μ = some q) : GG p l e (rmO 0 0) s m args below meth c 0 0 (dm σ) D cA σ 2 (MQ below (QI D cA σ q μ) args s 0 0 (dm σ)) 0 [(0, .ref a0), (1, .int v1)] [] μ := by
  unfold fX0_at at h
  refine g_iload_n C dX0_at_0 1 rfl ?_
  refine g_if_lt C 21 dX0_at_1 rfl (fun q => ?_) (fun q => ?_)
  · replace h := ip q h
    refine g_iconst (v := -1) C dX0_at_21 (by decide) ?_
    cases h
    exact g_ireturn C rfl dX0_at_22
  · replace h := iq q h
    refine g_iload_n C dX0_at_4 1 rfl ?_
    refine g_aload_n C dX0_at_5 0 rfl ?_
    refine g_geti (j := 1) C s_a0 (by decide) rfl uwX0 (by decide) rfl lfX0_15 rfl dX0_at_6 ?_
    refine g_icmp_ge C 21 dX0_at_9 rfl (fun q => ?_) (fun q => ?_)
    · replace h := ip q h
      refine g_iconst (v := -1) C dX0_at_21 (by decide) ?_
      cases h
      exact g_ireturn C rfl dX0_at_22
    · replace h := iq q h
      refine g_aload_n C dX0_at_12 0 rfl ?_
      refine g_wt (fun hT_μ => ?_)
      refine g_getr (j := 0) C s_a0 (by decide) rfl uwX0 (by decide) rfl lfX0_9 rfl dX0_at_13 ?_
      refine g_iload_n C dX0_at_16 1 rfl ?_
      obtain ⟨hg1, h⟩ := gs h
      refine g_iald C (hT_μ.1 _ _ 0 _ s_a0 rfl) (ib_in hg1) dX0_at_17 ?_
      refine g_goto C 22 dX0_at_18 rfl ?_
      cases h
      exact g_ireturn C rfl dX0_at_22
theorem miX0_at : MI yX0_at cX0_at 2 (some .int) RX0 1 := ⟨wcX0_at, wmX0_at, wsX0_at, wiX0, by decide +kernel⟩
theorem kX0_at {l : Launch} {D : va_G} {cA : Nat → ClassId} {tS : Nat → Nat} {σ : Sg} {a0 : Nat} {v1 : Int32} {μ : Mm} {q : Int32} (s_a0 : σ a0 = some (0, 0)) (h : fX0_at a0 v1 μ = some q) : Ct l D cA tS σ yX0_at cX0_at 2 (some .int) (rmO 0 0) [.ref a0, .int v1] μ (QI D cA σ q μ) :=
  Ct.of (by decide) (Nat.le_of_ble_eq_true rfl) (fun _ _ _ _ _ _ _ _ C => wX0_at C _ _ _ s_a0 h)
set_option maxRecDepth 100000 in
set_option maxHeartbeats 4000000 in
theorem wX0_copyFrom {p : Program} {l : Launch} {e : Env} {s : State} {m : MethodId} {args : Array Value} {below : List Frame} {meth : Method} {c : Code} {D : va_G} {cA : Nat → ClassId} {tS : Nat → Nat} {σ : Sg} {q : Mm} (C : Cx p s m args meth c (dm σ) D cA tS σ cX0_copyFrom none 2 RX0) (a0 : Nat) (a1 : Nat) (μ : Mm) (s_a0 : σ a0 = some (0, 0)) (s_a1 : σ a1 = some (0, 0)) (h : fX0_copyFrom a0 a1 μ = some q) : GG p l e (rmO 1 40) s m args below meth c 0 0 (dm σ) D cA σ 2 (MQ below (QV D cA σ q) args s 0 0 (dm σ)) 0 [(0, .ref a0), (1, .ref a1)] [] μ := by
  unfold fX0_copyFrom at h
  refine g_aload_n C dX0_copyFrom_0 1 rfl ?_
  refine g_wt (fun hT_μ => ?_)
  refine g_getr (j := 0) C s_a1 (by decide) rfl uwX0 (by decide) rfl lfX0_9 rfl dX0_copyFrom_1 ?_
  refine g_iconst (v := 0) C dX0_copyFrom_4 (by decide) ?_
  refine g_aload_n C dX0_copyFrom_5 0 rfl ?_
  refine g_getr (j := 0) C s_a0 (by decide) rfl uwX0 (by decide) rfl lfX0_9 rfl dX0_copyFrom_6 ?_
  refine g_iconst (v := 0) C dX0_copyFrom_9 (by decide) ?_
  refine g_aload_n C dX0_copyFrom_10 1 rfl ?_
  refine g_geti (j := 1) C s_a1 (by decide) rfl uwX0 (by decide) rfl lfX0_15 rfl dX0_copyFrom_11 ?_
  obtain ⟨hg, h⟩ := gs h
  refine g_copy C (hT_μ.1 _ _ 0 _ s_a1 rfl) (hT_μ.1 _ _ 0 _ s_a0 rfl) hg lmX0_27 wiJ10 ⟨by decide, Nat.le_of_ble_eq_true rfl⟩ dX0_copyFrom_14 ?_
  obtain ⟨μ1, e_μ1, h⟩ := nm h
  refine g_mu e_μ1 ?_
  refine g_aload_n C dX0_copyFrom_17 0 rfl ?_
  refine g_aload_n C dX0_copyFrom_18 1 rfl ?_
  refine g_geti (j := 1) C s_a1 (by decide) rfl uwX0 (by decide) rfl lfX0_15 rfl dX0_copyFrom_19 ?_
  refine g_puti (j := 1) C s_a0 (by decide) rfl uwX0 tyX0_ok nmX0 (by decide) rfl lfX0_15 rfl rfl rfl (fun _ _ => rfl) (fun _ _ => Nat.le_of_ble_eq_true rfl) dX0_copyFrom_22 ?_
  obtain ⟨μ2, e_μ2, h⟩ := nm h
  refine g_mu e_μ2 ?_
  refine g_aload_n C dX0_copyFrom_25 0 rfl ?_
  refine g_aload_n C dX0_copyFrom_26 1 rfl ?_
  refine g_geti (j := 2) C s_a1 (by decide) rfl uwX0 (by decide) rfl lfX0_19 rfl dX0_copyFrom_27 ?_
  obtain ⟨hg, h⟩ := gs h
  refine g_puti (j := 2) C s_a0 (by decide) rfl uwX0 tyX0_ok nmX0 (by decide) rfl lfX0_19 rfl (b01_n hg).1 (b01_n hg).2 (fun _ _ => rfl) (fun _ _ => Nat.le_of_ble_eq_true rfl) dX0_copyFrom_30 ?_
  obtain ⟨μ3, e_μ3, h⟩ := nm h
  refine g_mu e_μ3 ?_
  cases h
  exact g_return C dX0_copyFrom_33
theorem miX0_copyFrom : MI yX0_copyFrom cX0_copyFrom 2 none RX0 1 := ⟨wcX0_copyFrom, wmX0_copyFrom, wsX0_copyFrom, wiX0, by decide +kernel⟩
theorem kX0_copyFrom {l : Launch} {D : va_G} {cA : Nat → ClassId} {tS : Nat → Nat} {σ : Sg} {a0 : Nat} {a1 : Nat} {μ : Mm} {q : Mm} (s_a0 : σ a0 = some (0, 0)) (s_a1 : σ a1 = some (0, 0)) (h : fX0_copyFrom a0 a1 μ = some q) : Ct l D cA tS σ yX0_copyFrom cX0_copyFrom 2 none (rmO 1 40) [.ref a0, .ref a1] μ (QV D cA σ q) :=
  Ct.of (by decide) (Nat.le_of_ble_eq_true rfl) (fun _ _ _ _ _ _ _ _ C => wX0_copyFrom C _ _ _ s_a0 s_a1 h)
set_option maxRecDepth 100000 in
set_option maxHeartbeats 4000000 in
theorem wX1_forget {p : Program} {l : Launch} {e : Env} {s : State} {m : MethodId} {args : Array Value} {below : List Frame} {meth : Method} {c : Code} {D : va_G} {cA : Nat → ClassId} {tS : Nat → Nat} {σ : Sg} {q : Mm} (C : Cx p s m args meth c (dm σ) D cA tS σ cX1_forget none 1 RX1) (a0 : Nat) (μ : Mm) (s_a0 : σ a0 = some (1, 0)) (h : fX1_forget a0 μ = q) : GG p l e (rmO 0 0) s m args below meth c 0 0 (dm σ) D cA σ 1 (MQ below (QV D cA σ q) args s 0 0 (dm σ)) 0 [(0, .ref a0)] [] μ := by
  unfold fX1_forget at h
  refine g_aload_n C dX1_forget_0 0 rfl ?_
  refine g_aload_n C dX1_forget_1 0 rfl ?_
  refine g_geti (j := 6) C s_a0 (by decide) rfl uwX1 (by decide) rfl lfX1_63 rfl dX1_forget_2 ?_
  refine g_iconst (v := 1) C dX1_forget_5 (by decide) ?_
  refine g_iadd C dX1_forget_6 ?_
  refine g_puti (j := 8) C s_a0 (by decide) rfl uwX1 tyX1_ok nmX1 (by decide) rfl lfX1_66 rfl rfl rfl (fun _ _ => rfl) (fun _ _ => Nat.le_of_ble_eq_true rfl) dX1_forget_7 ?_
  obtain ⟨μ1, e_μ1, h⟩ := nm h
  refine g_mu e_μ1 ?_
  refine g_aload_n C dX1_forget_10 0 rfl ?_
  refine g_iconst (v := 1) C dX1_forget_11 (by decide) ?_
  refine g_aload_n C dX1_forget_12 0 rfl ?_
  refine g_geti (j := 6) C s_a0 (by decide) rfl uwX1 (by decide) rfl lfX1_63 rfl dX1_forget_13 ?_
  refine g_ishl C dX1_forget_16 ?_
  refine g_iconst (v := 2) C dX1_forget_17 (by decide) ?_
  refine g_iadd C dX1_forget_18 ?_
  refine g_puti (j := 9) C s_a0 (by decide) rfl uwX1 tyX1_ok nmX1 (by decide) rfl lfX1_69 rfl rfl rfl (fun _ _ => rfl) (fun _ _ => Nat.le_of_ble_eq_true rfl) dX1_forget_19 ?_
  obtain ⟨μ2, e_μ2, h⟩ := nm h
  refine g_mu e_μ2 ?_
  refine g_aload_n C dX1_forget_22 0 rfl ?_
  refine g_iconst (v := -1) C dX1_forget_23 (by decide) ?_
  refine g_puti (j := 10) C s_a0 (by decide) rfl uwX1 tyX1_ok nmX1 (by decide) rfl lfX1_72 rfl rfl rfl (fun _ _ => rfl) (fun _ _ => Nat.le_of_ble_eq_true rfl) dX1_forget_24 ?_
  obtain ⟨μ3, e_μ3, h⟩ := nm h
  refine g_mu e_μ3 ?_
  subst h
  exact g_return C dX1_forget_27
theorem miX1_forget : MI yX1_forget cX1_forget 1 none RX1 0 := ⟨wcX1_forget, wmX1_forget, wsX1_forget, wiX1, by decide +kernel⟩
theorem kX1_forget {l : Launch} {D : va_G} {cA : Nat → ClassId} {tS : Nat → Nat} {σ : Sg} {a0 : Nat} {μ : Mm} {q : Mm} (s_a0 : σ a0 = some (1, 0)) (h : fX1_forget a0 μ = q) : Ct l D cA tS σ yX1_forget cX1_forget 1 none (rmO 0 0) [.ref a0] μ (QV D cA σ q) :=
  Ct.of (by decide) (Nat.le_of_ble_eq_true rfl) (fun _ _ _ _ _ _ _ _ C => wX1_forget C _ _ s_a0 h)
set_option maxRecDepth 100000 in
set_option maxHeartbeats 4000000 in
theorem wX1_tell {p : Program} {l : Launch} {e : Env} {s : State} {m : MethodId} {args : Array Value} {below : List Frame} {meth : Method} {c : Code} {D : va_G} {cA : Nat → ClassId} {tS : Nat → Nat} {σ : Sg} {q : Mm} (C : Cx p s m args meth c (dm σ) D cA tS σ cX1_tell none 2 RX1) (a0 : Nat) (v1 : Int32) (μ : Mm) (s_a0 : σ a0 = some (1, 0)) (h : fX1_tell a0 v1 μ = some q) : GG p l e (rmO 0 0) s m args below meth c 0 0 (dm σ) D cA σ 2 (MQ below (QV D cA σ q) args s 0 0 (dm σ)) 0 [(0, .ref a0), (1, .int v1)] [] μ := by
  unfold fX1_tell at h
  refine g_aload_n C dX1_tell_0 0 rfl ?_
  refine g_wt (fun hT_μ => ?_)
  refine g_getr (j := 2) C s_a0 (by decide) rfl uwX1 (by decide) rfl lfX1_22 rfl dX1_tell_1 ?_
  refine g_aload_n C dX1_tell_4 0 rfl ?_
  refine g_geti (j := 9) C s_a0 (by decide) rfl uwX1 (by decide) rfl lfX1_69 rfl dX1_tell_5 ?_
  refine g_aload_n C dX1_tell_8 0 rfl ?_
  refine g_geti (j := 10) C s_a0 (by decide) rfl uwX1 (by decide) rfl lfX1_72 rfl dX1_tell_9 ?_
  obtain ⟨hg, h⟩ := gs h
  refine g_iast C (hT_μ.1 _ _ 2 _ s_a0 rfl) (ib_in hg) dX1_tell_12 ?_
  obtain ⟨μ1, e_μ1, h⟩ := nm h
  refine g_mu e_μ1 ?_
  refine g_aload_n C dX1_tell_13 0 rfl ?_
  refine g_wt (fun hT_μ1 => ?_)
  refine g_getr (j := 3) C s_a0 (by decide) rfl uwX1 (by decide) rfl lfX1_25 rfl dX1_tell_14 ?_
  refine g_aload_n C dX1_tell_17 0 rfl ?_
  refine g_geti (j := 9) C s_a0 (by decide) rfl uwX1 (by decide) rfl lfX1_69 rfl dX1_tell_18 ?_
  refine g_aload_n C dX1_tell_21 0 rfl ?_
  refine g_getr (j := 3) C s_a0 (by decide) rfl uwX1 (by decide) rfl lfX1_25 rfl dX1_tell_22 ?_
  refine g_aload_n C dX1_tell_25 0 rfl ?_
  refine g_geti (j := 10) C s_a0 (by decide) rfl uwX1 (by decide) rfl lfX1_72 rfl dX1_tell_26 ?_
  obtain ⟨hg2, h⟩ := gs h
  refine g_iald C (hT_μ1.1 _ _ 3 _ s_a0 rfl) (ib_in hg2) dX1_tell_29 ?_
  obtain ⟨hg, h⟩ := gs h
  refine g_iast C (hT_μ1.1 _ _ 3 _ s_a0 rfl) (ib_in hg) dX1_tell_30 ?_
  obtain ⟨μ3, e_μ3, h⟩ := nm h
  refine g_mu e_μ3 ?_
  refine g_aload_n C dX1_tell_31 0 rfl ?_
  refine g_wt (fun hT_μ3 => ?_)
  refine g_getr (j := 4) C s_a0 (by decide) rfl uwX1 (by decide) rfl lfX1_28 rfl dX1_tell_32 ?_
  refine g_aload_n C dX1_tell_35 0 rfl ?_
  refine g_geti (j := 9) C s_a0 (by decide) rfl uwX1 (by decide) rfl lfX1_69 rfl dX1_tell_36 ?_
  refine g_iload_n C dX1_tell_39 1 rfl ?_
  obtain ⟨hg, h⟩ := gs h
  refine g_iast C (hT_μ3.1 _ _ 4 _ s_a0 rfl) (ib_in hg) dX1_tell_40 ?_
  obtain ⟨μ4, e_μ4, h⟩ := nm h
  refine g_mu e_μ4 ?_
  refine g_aload_n C dX1_tell_41 0 rfl ?_
  refine g_wt (fun hT_μ4 => ?_)
  refine g_getr (j := 5) C s_a0 (by decide) rfl uwX1 (by decide) rfl lfX1_31 rfl dX1_tell_42 ?_
  refine g_aload_n C dX1_tell_45 0 rfl ?_
  refine g_geti (j := 9) C s_a0 (by decide) rfl uwX1 (by decide) rfl lfX1_69 rfl dX1_tell_46 ?_
  refine g_aload_n C dX1_tell_49 0 rfl ?_
  refine g_getr (j := 5) C s_a0 (by decide) rfl uwX1 (by decide) rfl lfX1_31 rfl dX1_tell_50 ?_
  refine g_aload_n C dX1_tell_53 0 rfl ?_
  refine g_geti (j := 10) C s_a0 (by decide) rfl uwX1 (by decide) rfl lfX1_72 rfl dX1_tell_54 ?_
  obtain ⟨hg5, h⟩ := gs h
  refine g_iald C (hT_μ4.1 _ _ 5 _ s_a0 rfl) (ib_in hg5) dX1_tell_57 ?_
  refine g_iconst (v := 1) C dX1_tell_58 (by decide) ?_
  refine g_iadd C dX1_tell_59 ?_
  obtain ⟨hg, h⟩ := gs h
  refine g_iast C (hT_μ4.1 _ _ 5 _ s_a0 rfl) (ib_in hg) dX1_tell_60 ?_
  obtain ⟨μ6, e_μ6, h⟩ := nm h
  refine g_mu e_μ6 ?_
  refine g_aload_n C dX1_tell_61 0 rfl ?_
  refine g_dup C dX1_tell_62 rfl ?_
  refine g_geti (j := 9) C s_a0 (by decide) rfl uwX1 (by decide) rfl lfX1_69 rfl dX1_tell_63 ?_
  refine g_iconst (v := 1) C dX1_tell_66 (by decide) ?_
  refine g_iadd C dX1_tell_67 ?_
  refine g_puti (j := 9) C s_a0 (by decide) rfl uwX1 tyX1_ok nmX1 (by decide) rfl lfX1_69 rfl rfl rfl (fun _ _ => rfl) (fun _ _ => Nat.le_of_ble_eq_true rfl) dX1_tell_68 ?_
  obtain ⟨μ7, e_μ7, h⟩ := nm h
  refine g_mu e_μ7 ?_
  refine g_aload_n C dX1_tell_71 0 rfl ?_
  refine g_geti (j := 9) C s_a0 (by decide) rfl uwX1 (by decide) rfl lfX1_69 rfl dX1_tell_72 ?_
  refine g_iconst (v := 1) C dX1_tell_75 (by decide) ?_
  refine g_aload_n C dX1_tell_76 0 rfl ?_
  refine g_geti (j := 8) C s_a0 (by decide) rfl uwX1 (by decide) rfl lfX1_66 rfl dX1_tell_77 ?_
  refine g_ishl C dX1_tell_80 ?_
  refine g_icmp_ne C 103 dX1_tell_81 rfl (fun q => ?_) (fun q => ?_)
  · replace h := iq q h
    cases h
    exact g_return C dX1_tell_103
  · replace h := ip q h
    refine g_aload_n C dX1_tell_84 0 rfl ?_
    refine g_geti (j := 8) C s_a0 (by decide) rfl uwX1 (by decide) rfl lfX1_66 rfl dX1_tell_85 ?_
    refine g_bipush (v := 12) C dX1_tell_88 (by decide) ?_
    refine g_icmp_ge C 103 dX1_tell_90 rfl (fun q => ?_) (fun q => ?_)
    · replace h := ip q h
      cases h
      exact g_return C dX1_tell_103
    · replace h := iq q h
      refine g_aload_n C dX1_tell_93 0 rfl ?_
      refine g_dup C dX1_tell_94 rfl ?_
      refine g_geti (j := 8) C s_a0 (by decide) rfl uwX1 (by decide) rfl lfX1_66 rfl dX1_tell_95 ?_
      refine g_iconst (v := 1) C dX1_tell_98 (by decide) ?_
      refine g_iadd C dX1_tell_99 ?_
      refine g_puti (j := 8) C s_a0 (by decide) rfl uwX1 tyX1_ok nmX1 (by decide) rfl lfX1_66 rfl rfl rfl (fun _ _ => rfl) (fun _ _ => Nat.le_of_ble_eq_true rfl) dX1_tell_100 ?_
      obtain ⟨μ8, e_μ8, h⟩ := nm h
      refine g_mu e_μ8 ?_
      cases h
      exact g_return C dX1_tell_103
theorem miX1_tell : MI yX1_tell cX1_tell 2 none RX1 1 := ⟨wcX1_tell, wmX1_tell, wsX1_tell, wiX1, by decide +kernel⟩
theorem kX1_tell {l : Launch} {D : va_G} {cA : Nat → ClassId} {tS : Nat → Nat} {σ : Sg} {a0 : Nat} {v1 : Int32} {μ : Mm} {q : Mm} (s_a0 : σ a0 = some (1, 0)) (h : fX1_tell a0 v1 μ = some q) : Ct l D cA tS σ yX1_tell cX1_tell 2 none (rmO 0 0) [.ref a0, .int v1] μ (QV D cA σ q) :=
  Ct.of (by decide) (Nat.le_of_ble_eq_true rfl) (fun _ _ _ _ _ _ _ _ C => wX1_tell C _ _ _ s_a0 h)
set_option maxRecDepth 100000 in
set_option maxHeartbeats 4000000 in
theorem wX1_isKnown_L75 {p : Program} {l : Launch} {e : Env} {s : State} {m : MethodId} {args : Array Value} {below : List Frame} {meth : Method} {c : Code} {D : va_G} {cA : Nat → ClassId} {tS : Nat → Nat} {σ : Sg} {q : Int32 × Mm} (C : Cx p s m args meth c (dm σ) D cA tS σ cX1_isKnown (some .boolean) 3 RX1) (a0 : Nat) (v1 : Int32) (o0 : Nat) (o1 : Nat) (t2 : Int32) (μ : Mm) (s_a0 : σ a0 = some (1, 0)) (s_o0 : σ o0 = some (1, 0)) (s_o1 : σ o1 = some (11, 4096)) (h : fX1_isKnown_L75 a0 v1 o0 o1 t2 μ = some q) : GG p l e (rmO 1 21) s m args below meth c 0 0 (dm σ) D cA σ 3 (MQ below (QI D cA σ q.1 q.2) args s 0 0 (dm σ)) 75 [(0, .ref a0), (1, .int v1)] [.int t2, .ref o1, .ref o0] μ := by
  unfold fX1_isKnown_L75 at h
  obtain ⟨hg1, h⟩ := gs h
  refine g_iald C s_o1 (ib_in hg1) dX1_isKnown_75 ?_
  obtain ⟨μ2, e_μ2, h⟩ := bs h
  refine g_callVV C (kX1_tell s_o0 e_μ2) miX1_tell lmX1_85 s_o0 (by decide) rfl rfl rfl (Nat.le_of_ble_eq_true rfl) dX1_isKnown_76 ⟨by decide, by decide⟩ ⟨Nat.zero_le _, Nat.zero_le _⟩ ?_
  refine g_aload_n C dX1_isKnown_79 0 rfl ?_
  refine g_iload_n C dX1_isKnown_80 1 rfl ?_
  refine g_puti (j := 10) C s_a0 (by decide) rfl uwX1 tyX1_ok nmX1 (by decide) rfl lfX1_72 rfl rfl rfl (fun _ _ => rfl) (fun _ _ => Nat.le_of_ble_eq_true rfl) dX1_isKnown_81 ?_
  obtain ⟨μ3, e_μ3, h⟩ := nm h
  refine g_mu e_μ3 ?_
  refine g_iconst (v := 1) C dX1_isKnown_84 (by decide) ?_
  cases h
  exact g_zreturn (r := 1) C rfl dX1_isKnown_85
set_option maxRecDepth 100000 in
set_option maxHeartbeats 4000000 in
theorem wX1_isKnown_L50 {p : Program} {l : Launch} {e : Env} {s : State} {m : MethodId} {args : Array Value} {below : List Frame} {meth : Method} {c : Code} {D : va_G} {cA : Nat → ClassId} {tS : Nat → Nat} {σ : Sg} {q : Int32 × Mm} (C : Cx p s m args meth c (dm σ) D cA tS σ cX1_isKnown (some .boolean) 3 RX1) (a0 : Nat) (v1 : Int32) (v2 : Int32) (μ : Mm) (s_a0 : σ a0 = some (1, 0)) (h : fX1_isKnown_L50 a0 v1 v2 μ = some q) : GG p l e (rmO 1 21) s m args below meth c 0 0 (dm σ) D cA σ 3 (MQ below (QI D cA σ q.1 q.2) args s 0 0 (dm σ)) 50 [(0, .ref a0), (1, .int v1), (2, .int v2)] [] μ := by
  unfold fX1_isKnown_L50 at h
  refine g_iload_n C dX1_isKnown_50 2 rfl ?_
  refine g_if_eq C 79 dX1_isKnown_51 rfl (fun q => ?_) (fun q => ?_)
  · replace h := ip q h
    refine g_aload_n C dX1_isKnown_79 0 rfl ?_
    refine g_iload_n C dX1_isKnown_80 1 rfl ?_
    refine g_puti (j := 10) C s_a0 (by decide) rfl uwX1 tyX1_ok nmX1 (by decide) rfl lfX1_72 rfl rfl rfl (fun _ _ => rfl) (fun _ _ => Nat.le_of_ble_eq_true rfl) dX1_isKnown_81 ?_
    obtain ⟨μ1, e_μ1, h⟩ := nm h
    refine g_mu e_μ1 ?_
    refine g_iconst (v := 1) C dX1_isKnown_84 (by decide) ?_
    cases h
    exact g_zreturn (r := 1) C rfl dX1_isKnown_85
  · replace h := iq q h
    refine g_aload_n C dX1_isKnown_54 0 rfl ?_
    refine g_aload_n C dX1_isKnown_55 0 rfl ?_
    refine g_wt (fun hT_μ => ?_)
    refine g_getr (j := 3) C s_a0 (by decide) rfl uwX1 (by decide) rfl lfX1_25 rfl dX1_isKnown_56 ?_
    refine g_iload_n C dX1_isKnown_59 1 rfl ?_
    refine g_aload_n C dX1_isKnown_60 0 rfl ?_
    refine g_geti (j := 9) C s_a0 (by decide) rfl uwX1 (by decide) rfl lfX1_69 rfl dX1_isKnown_61 ?_
    refine g_icmp_ne C 74 dX1_isKnown_64 rfl (fun q => ?_) (fun q => ?_)
    · replace h := iq q h
      refine g_iload_n C dX1_isKnown_74 1 rfl ?_
      exact g_lv [0, 1] rfl (wX1_isKnown_L75 C _ _ _ _ _ _ s_a0 s_a0 (hT_μ.1 _ _ 3 _ s_a0 rfl) h)
    · replace h := ip q h
      refine g_aload_n C dX1_isKnown_67 0 rfl ?_
      refine g_geti (j := 10) C s_a0 (by decide) rfl uwX1 (by decide) rfl lfX1_72 rfl dX1_isKnown_68 ?_
      refine g_goto C 75 dX1_isKnown_71 rfl ?_
      exact g_lv [0, 1] rfl (wX1_isKnown_L75 C _ _ _ _ _ _ s_a0 s_a0 (hT_μ.1 _ _ 3 _ s_a0 rfl) h)
set_option maxRecDepth 100000 in
set_option maxHeartbeats 4000000 in
theorem wX1_isKnown_L23 {p : Program} {l : Launch} {e : Env} {s : State} {m : MethodId} {args : Array Value} {below : List Frame} {meth : Method} {c : Code} {D : va_G} {cA : Nat → ClassId} {tS : Nat → Nat} {σ : Sg} {q : Int32 × Mm} (C : Cx p s m args meth c (dm σ) D cA tS σ cX1_isKnown (some .boolean) 3 RX1) (a0 : Nat) (v1 : Int32) (t0 : Int32) (μ : Mm) (s_a0 : σ a0 = some (1, 0)) (h : fX1_isKnown_L23 a0 v1 t0 μ = some q) : GG p l e (rmO 1 21) s m args below meth c 0 0 (dm σ) D cA σ 3 (MQ below (QI D cA σ q.1 q.2) args s 0 0 (dm σ)) 23 [(0, .ref a0), (1, .int v1)] [.int t0] μ := by
  unfold fX1_isKnown_L23 at h
  refine g_istore_n (lv' := [(2, .int t0), (0, .ref a0), (1, .int v1)]) C dX1_isKnown_23 (by decide) rfl ?_
  refine g_iload_n C dX1_isKnown_24 2 rfl ?_
  refine g_if_lt C 48 dX1_isKnown_25 rfl (fun q => ?_) (fun q => ?_)
  · replace h := ip q h
    refine g_iconst (v := 0) C dX1_isKnown_48 (by decide) ?_
    cases h
    exact g_zreturn (r := 0) C rfl dX1_isKnown_49
  · replace h := iq q h
    refine g_iload_n C dX1_isKnown_28 2 rfl ?_
    refine g_aload_n C dX1_isKnown_29 1 rfl ?_
    refine g_geti (j := 9) C s_a0 (by decide) rfl uwX1 (by decide) rfl lfX1_69 rfl dX1_isKnown_30 ?_
    refine g_icmp_gt C 48 dX1_isKnown_33 rfl (fun q => ?_) (fun q => ?_)
    · replace h := ip q h
      refine g_iconst (v := 0) C dX1_isKnown_48 (by decide) ?_
      cases h
      exact g_zreturn (r := 0) C rfl dX1_isKnown_49
    · replace h := iq q h
      refine g_iload_n C dX1_isKnown_36 2 rfl ?_
      refine g_aload_n C dX1_isKnown_37 1 rfl ?_
      refine g_geti (j := 9) C s_a0 (by decide) rfl uwX1 (by decide) rfl lfX1_69 rfl dX1_isKnown_38 ?_
      refine g_icmp_ne C 50 dX1_isKnown_41 rfl (fun q => ?_) (fun q => ?_)
      · replace h := iq q h
        exact g_lv [1, 2, 0] rfl (wX1_isKnown_L50 C _ _ _ _ s_a0 h)
      · replace h := ip q h
        refine g_iload_n C dX1_isKnown_44 0 rfl ?_
        refine g_if_ne C 50 dX1_isKnown_45 rfl (fun q => ?_) (fun q => ?_)
        · replace h := iq q h
          exact g_lv [1, 2, 0] rfl (wX1_isKnown_L50 C _ _ _ _ s_a0 h)
        · replace h := ip q h
          refine g_iconst (v := 0) C dX1_isKnown_48 (by decide) ?_
          cases h
          exact g_zreturn (r := 0) C rfl dX1_isKnown_49
set_option maxRecDepth 100000 in
set_option maxHeartbeats 4000000 in
theorem wX1_isKnown_L22 {p : Program} {l : Launch} {e : Env} {s : State} {m : MethodId} {args : Array Value} {below : List Frame} {meth : Method} {c : Code} {D : va_G} {cA : Nat → ClassId} {tS : Nat → Nat} {σ : Sg} {q : Int32 × Mm} (C : Cx p s m args meth c (dm σ) D cA tS σ cX1_isKnown (some .boolean) 3 RX1) (a0 : Nat) (v1 : Int32) (μ : Mm) (s_a0 : σ a0 = some (1, 0)) (h : fX1_isKnown_L22 a0 v1 μ = some q) : GG p l e (rmO 1 21) s m args below meth c 0 0 (dm σ) D cA σ 3 (MQ below (QI D cA σ q.1 q.2) args s 0 0 (dm σ)) 22 [(0, .ref a0), (1, .int v1)] [] μ := by
  unfold fX1_isKnown_L22 at h
  refine g_iconst (v := 0) C dX1_isKnown_22 (by decide) ?_
  exact g_lv [0, 1] rfl (wX1_isKnown_L23 C _ _ _ _ s_a0 h)
set_option maxRecDepth 100000 in
set_option maxHeartbeats 4000000 in
theorem wX1_isKnown {p : Program} {l : Launch} {e : Env} {s : State} {m : MethodId} {args : Array Value} {below : List Frame} {meth : Method} {c : Code} {D : va_G} {cA : Nat → ClassId} {tS : Nat → Nat} {σ : Sg} {q : Int32 × Mm} (C : Cx p s m args meth c (dm σ) D cA tS σ cX1_isKnown (some .boolean) 3 RX1) (a0 : Nat) (v1 : Int32) (μ : Mm) (s_a0 : σ a0 = some (1, 0)) (h : fX1_isKnown a0 v1 μ = some q) : GG p l e (rmO 1 21) s m args below meth c 0 0 (dm σ) D cA σ 3 (MQ below (QI D cA σ q.1 q.2) args s 0 0 (dm σ)) 0 [(0, .ref a0), (1, .int v1)] [] μ := by
  unfold fX1_isKnown at h
  refine g_aload_n C dX1_isKnown_0 0 rfl ?_
  refine g_geti (j := 10) C s_a0 (by decide) rfl uwX1 (by decide) rfl lfX1_72 rfl dX1_isKnown_1 ?_
  refine g_iconst (v := -1) C dX1_isKnown_4 (by decide) ?_
  refine g_icmp_eq C 22 dX1_isKnown_5 rfl (fun q => ?_) (fun q => ?_)
  · replace h := ip q h
    exact g_lv [0, 1] rfl (wX1_isKnown_L22 C _ _ _ s_a0 h)
  · replace h := iq q h
    refine g_aload_n C dX1_isKnown_8 0 rfl ?_
    refine g_geti (j := 9) C s_a0 (by decide) rfl uwX1 (by decide) rfl lfX1_69 rfl dX1_isKnown_9 ?_
    refine g_sipush (v := 4096) C dX1_isKnown_12 (by decide) ?_
    refine g_icmp_ge C 22 dX1_isKnown_15 rfl (fun q => ?_) (fun q => ?_)
    · replace h := ip q h
      exact g_lv [0, 1] rfl (wX1_isKnown_L22 C _ _ _ s_a0 h)
    · replace h := iq q h
      refine g_iconst (v := 1) C dX1_isKnown_18 (by decide) ?_
      refine g_goto C 23 dX1_isKnown_19 rfl ?_
      exact g_lv [0, 1] rfl (wX1_isKnown_L23 C _ _ _ _ s_a0 h)
theorem miX1_isKnown : MI yX1_isKnown cX1_isKnown 3 (some .boolean) RX1 1 := ⟨wcX1_isKnown, wmX1_isKnown, wsX1_isKnown, wiX1, by decide +kernel⟩
theorem kX1_isKnown {l : Launch} {D : va_G} {cA : Nat → ClassId} {tS : Nat → Nat} {σ : Sg} {a0 : Nat} {v1 : Int32} {μ : Mm} {q : Int32 × Mm} (s_a0 : σ a0 = some (1, 0)) (h : fX1_isKnown a0 v1 μ = some q) : Ct l D cA tS σ yX1_isKnown cX1_isKnown 3 (some .boolean) (rmO 1 21) [.ref a0, .int v1] μ (QI D cA σ q.1 q.2) :=
  Ct.of (by decide) (Nat.le_of_ble_eq_true rfl) (fun _ _ _ _ _ _ _ _ C => wX1_isKnown C _ _ _ s_a0 h)
set_option maxRecDepth 100000 in
set_option maxHeartbeats 4000000 in
theorem wX1_nextCode {p : Program} {l : Launch} {e : Env} {s : State} {m : MethodId} {args : Array Value} {below : List Frame} {meth : Method} {c : Code} {D : va_G} {cA : Nat → ClassId} {tS : Nat → Nat} {σ : Sg} {q : Int32 × Mm} (C : Cx p s m args meth c (dm σ) D cA tS σ cX1_nextCode (some .int) 4 RX1) (a0 : Nat) (μ : Mm) (s_a0 : σ a0 = some (1, 0)) (h : fX1_nextCode a0 μ = some q) : GG p l e (rmO 1 21) s m args below meth c 0 0 (dm σ) D cA σ 4 (MQ below (QI D cA σ q.1 q.2) args s 0 0 (dm σ)) 0 [(0, .ref a0)] [] μ := by
  unfold fX1_nextCode at h
  refine g_aload_n C dX1_nextCode_0 0 rfl ?_
  refine g_geti (j := 7) C s_a0 (by decide) rfl uwX1 (by decide) rfl lfX1_49 rfl dX1_nextCode_1 ?_
  refine g_aload_n C dX1_nextCode_4 0 rfl ?_
  refine g_geti (j := 8) C s_a0 (by decide) rfl uwX1 (by decide) rfl lfX1_66 rfl dX1_nextCode_5 ?_
  refine g_iadd C dX1_nextCode_8 ?_
  refine g_aload_n C dX1_nextCode_9 0 rfl ?_
  refine g_wt (fun hT_μ => ?_)
  refine g_getr (j := 0) C s_a0 (by decide) rfl uwX1 (by decide) rfl lfX1_12 rfl dX1_nextCode_10 ?_
  refine g_geti (j := 1) C (hT_μ.1 _ _ 0 _ s_a0 rfl) (by decide) rfl uwX0 (by decide) rfl lfX1_42 rfl dX1_nextCode_13 ?_
  refine g_bipush (v := 8) C dX1_nextCode_16 (by decide) ?_
  refine g_imul C dX1_nextCode_18 ?_
  refine g_icmp_le C 24 dX1_nextCode_19 rfl (fun q => ?_) (fun q => ?_)
  · replace h := ip q h
    refine g_aload_n C dX1_nextCode_24 0 rfl ?_
    refine g_geti (j := 7) C s_a0 (by decide) rfl uwX1 (by decide) rfl lfX1_49 rfl dX1_nextCode_25 ?_
    refine g_iconst (v := 3) C dX1_nextCode_28 (by decide) ?_
    refine g_ishr C dX1_nextCode_29 ?_
    obtain ⟨x1, e_x1, h⟩ := nm h
    refine g_topi e_x1 ?_
    refine g_istore_n (lv' := [(1, .int x1), (0, .ref a0)]) C dX1_nextCode_30 (by decide) rfl ?_
    refine g_aload_n C dX1_nextCode_31 1 rfl ?_
    refine g_getr (j := 0) C s_a0 (by decide) rfl uwX1 (by decide) rfl lfX1_12 rfl dX1_nextCode_32 ?_
    refine g_iload_n C dX1_nextCode_35 0 rfl ?_
    obtain ⟨x2, e_x2, h⟩ := bs h
    refine g_callVI C (kX0_at (hT_μ.1 _ _ 0 _ s_a0 rfl) e_x2) miX0_at lmX1_75 (hT_μ.1 _ _ 0 _ s_a0 rfl) (by decide) rfl rfl rfl (Nat.le_of_ble_eq_true rfl) dX1_nextCode_36 ⟨by decide, by decide⟩ ⟨Nat.zero_le _, Nat.zero_le _⟩ ?_
    refine g_aload_n C dX1_nextCode_39 1 rfl ?_
    refine g_getr (j := 0) C s_a0 (by decide) rfl uwX1 (by decide) rfl lfX1_12 rfl dX1_nextCode_40 ?_
    refine g_iload_n C dX1_nextCode_43 0 rfl ?_
    refine g_iconst (v := 1) C dX1_nextCode_44 (by decide) ?_
    refine g_iadd C dX1_nextCode_45 ?_
    obtain ⟨x3, e_x3, h⟩ := bs h
    refine g_callVI C (kX0_at (hT_μ.1 _ _ 0 _ s_a0 rfl) e_x3) miX0_at lmX1_75 (hT_μ.1 _ _ 0 _ s_a0 rfl) (by decide) rfl rfl rfl (Nat.le_of_ble_eq_true rfl) dX1_nextCode_46 ⟨by decide, by decide⟩ ⟨Nat.zero_le _, Nat.zero_le _⟩ ?_
    refine g_iconst (v := 0) C dX1_nextCode_49 (by decide) ?_
    refine g_mmax C lmX1_79 wcJ9_max_7cf53 wtJ9_max_7cf53 wiJ9 ⟨by decide, Nat.le_of_ble_eq_true rfl, Nat.zero_le _, Nat.zero_le _⟩ dX1_nextCode_50 ?_
    refine g_bipush (v := 8) C dX1_nextCode_53 (by decide) ?_
    refine g_ishl C dX1_nextCode_55 ?_
    refine g_ior C dX1_nextCode_56 ?_
    refine g_aload_n C dX1_nextCode_57 1 rfl ?_
    refine g_getr (j := 0) C s_a0 (by decide) rfl uwX1 (by decide) rfl lfX1_12 rfl dX1_nextCode_58 ?_
    refine g_iload_n C dX1_nextCode_61 0 rfl ?_
    refine g_iconst (v := 2) C dX1_nextCode_62 (by decide) ?_
    refine g_iadd C dX1_nextCode_63 ?_
    obtain ⟨x4, e_x4, h⟩ := bs h
    refine g_callVI C (kX0_at (hT_μ.1 _ _ 0 _ s_a0 rfl) e_x4) miX0_at lmX1_75 (hT_μ.1 _ _ 0 _ s_a0 rfl) (by decide) rfl rfl rfl (Nat.le_of_ble_eq_true rfl) dX1_nextCode_64 ⟨by decide, by decide⟩ ⟨Nat.zero_le _, Nat.zero_le _⟩ ?_
    refine g_iconst (v := 0) C dX1_nextCode_67 (by decide) ?_
    refine g_mmax C lmX1_79 wcJ9_max_7cf53 wtJ9_max_7cf53 wiJ9 ⟨by decide, Nat.le_of_ble_eq_true rfl, Nat.zero_le _, Nat.zero_le _⟩ dX1_nextCode_68 ?_
    refine g_bipush (v := 16) C dX1_nextCode_71 (by decide) ?_
    refine g_ishl C dX1_nextCode_73 ?_
    refine g_ior C dX1_nextCode_74 ?_
    obtain ⟨x5, e_x5, h⟩ := nm h
    refine g_topi e_x5 ?_
    refine g_istore_n (lv' := [(2, .int x5), (1, .int x1), (0, .ref a0)]) C dX1_nextCode_75 (by decide) rfl ?_
    refine g_iload_n C dX1_nextCode_76 0 rfl ?_
    refine g_aload_n C dX1_nextCode_77 2 rfl ?_
    refine g_geti (j := 7) C s_a0 (by decide) rfl uwX1 (by decide) rfl lfX1_49 rfl dX1_nextCode_78 ?_
    refine g_bipush (v := 7) C dX1_nextCode_81 (by decide) ?_
    refine g_iand C dX1_nextCode_83 ?_
    refine g_ishr C dX1_nextCode_84 ?_
    refine g_iconst (v := 1) C dX1_nextCode_85 (by decide) ?_
    refine g_aload_n C dX1_nextCode_86 2 rfl ?_
    refine g_geti (j := 8) C s_a0 (by decide) rfl uwX1 (by decide) rfl lfX1_66 rfl dX1_nextCode_87 ?_
    refine g_ishl C dX1_nextCode_90 ?_
    refine g_iconst (v := 1) C dX1_nextCode_91 (by decide) ?_
    refine g_isub C dX1_nextCode_92 ?_
    refine g_iand C dX1_nextCode_93 ?_
    obtain ⟨x6, e_x6, h⟩ := nm h
    refine g_topi e_x6 ?_
    refine g_istore_n (lv' := [(3, .int x6), (2, .int x5), (1, .int x1), (0, .ref a0)]) C dX1_nextCode_94 (by decide) rfl ?_
    refine g_aload_n C dX1_nextCode_95 3 rfl ?_
    refine g_dup C dX1_nextCode_96 rfl ?_
    refine g_geti (j := 7) C s_a0 (by decide) rfl uwX1 (by decide) rfl lfX1_49 rfl dX1_nextCode_97 ?_
    refine g_aload_n C dX1_nextCode_100 3 rfl ?_
    refine g_geti (j := 8) C s_a0 (by decide) rfl uwX1 (by decide) rfl lfX1_66 rfl dX1_nextCode_101 ?_
    refine g_iadd C dX1_nextCode_104 ?_
    refine g_puti (j := 7) C s_a0 (by decide) rfl uwX1 tyX1_ok nmX1 (by decide) rfl lfX1_49 rfl rfl rfl (fun _ _ => rfl) (fun _ _ => Nat.le_of_ble_eq_true rfl) dX1_nextCode_105 ?_
    obtain ⟨μ7, e_μ7, h⟩ := nm h
    refine g_mu e_μ7 ?_
    refine g_iload_n C dX1_nextCode_108 0 rfl ?_
    cases h
    exact g_ireturn C rfl dX1_nextCode_109
  · replace h := iq q h
    refine g_iconst (v := -1) C dX1_nextCode_22 (by decide) ?_
    cases h
    exact g_ireturn C rfl dX1_nextCode_23
theorem miX1_nextCode : MI yX1_nextCode cX1_nextCode 4 (some .int) RX1 0 := ⟨wcX1_nextCode, wmX1_nextCode, wsX1_nextCode, wiX1, by decide +kernel⟩
theorem kX1_nextCode {l : Launch} {D : va_G} {cA : Nat → ClassId} {tS : Nat → Nat} {σ : Sg} {a0 : Nat} {μ : Mm} {q : Int32 × Mm} (s_a0 : σ a0 = some (1, 0)) (h : fX1_nextCode a0 μ = some q) : Ct l D cA tS σ yX1_nextCode cX1_nextCode 4 (some .int) (rmO 1 21) [.ref a0] μ (QI D cA σ q.1 q.2) :=
  Ct.of (by decide) (Nat.le_of_ble_eq_true rfl) (fun _ _ _ _ _ _ _ _ C => wX1_nextCode C _ _ s_a0 h)
set_option maxRecDepth 100000 in
set_option maxHeartbeats 4000000 in
theorem wX1_putOut_B30 {p : Program} {l : Launch} {e : Env} {s : State} {m : MethodId} {args : Array Value} {below : List Frame} {meth : Method} {c : Code} {D : va_G} {cA : Nat → ClassId} {tS : Nat → Nat} {σ : Sg} {rec30 : Nat → Int32 → Int32 → Int32 → Int32 → Mm → Option (Int32 × Mm)} {fu : Nat} {q : Int32 × Mm} (C : Cx p s m args meth c (dm σ) D cA tS σ cX1_putOut (some .boolean) 7 RX1) (hrec30 : ∀ (y0 : Nat) (y3 : Int32) (y4 : Int32) (y5 : Int32) (y6 : Int32) (μ : Mm), σ y0 = some (1, 0) → rec30 y0 y3 y4 y5 y6 μ = some q → GG p l e (rmO 0 0) s m args below meth c 0 0 (dm σ) D cA σ 7 (MQ below (QI D cA σ q.1 q.2) args s 0 0 (dm σ)) 30 [(0, .ref y0), (3, .int y3), (4, .int y4), (5, .int y5), (6, .int y6)] [] μ) (a0 : Nat) (v3 : Int32) (v4 : Int32) (v5 : Int32) (v6 : Int32) (μ : Mm) (s_a0 : σ a0 = some (1, 0)) (h : fX1_putOut_B30 rec30 fu a0 v3 v4 v5 v6 μ = some q) : GG p l e (rmO 0 0) s m args below meth c 0 0 (dm σ) D cA σ 7 (MQ below (QI D cA σ q.1 q.2) args s 0 0 (dm σ)) 30 [(0, .ref a0), (3, .int v3), (4, .int v4), (5, .int v5), (6, .int v6)] [] μ := by
  unfold fX1_putOut_B30 at h
  refine g_iload C dX1_putOut_30 4 rfl ?_
  refine g_if_lt C 92 dX1_putOut_32 rfl (fun q => ?_) (fun q => ?_)
  · replace h := ip q h
    refine g_aload_n C dX1_putOut_92 0 rfl ?_
    refine g_dup C dX1_putOut_93 rfl ?_
    refine g_geti (j := 11) C s_a0 (by decide) rfl uwX1 (by decide) rfl lfX1_46 rfl dX1_putOut_94 ?_
    refine g_iload C dX1_putOut_97 2 rfl ?_
    refine g_iadd C dX1_putOut_99 ?_
    refine g_puti (j := 11) C s_a0 (by decide) rfl uwX1 tyX1_ok nmX1 (by decide) rfl lfX1_46 rfl rfl rfl (fun _ _ => rfl) (fun _ _ => Nat.le_of_ble_eq_true rfl) dX1_putOut_100 ?_
    obtain ⟨μ1, e_μ1, h⟩ := nm h
    refine g_mu e_μ1 ?_
    refine g_iconst (v := 1) C dX1_putOut_103 (by decide) ?_
    cases h
    exact g_zreturn (r := 1) C rfl dX1_putOut_104
  · replace h := iq q h
    refine g_aload_n C dX1_putOut_35 0 rfl ?_
    refine g_wt (fun hT_μ => ?_)
    refine g_getr (j := 4) C s_a0 (by decide) rfl uwX1 (by decide) rfl lfX1_28 rfl dX1_putOut_36 ?_
    refine g_iload C dX1_putOut_39 3 rfl ?_
    obtain ⟨hg2, h⟩ := gs h
    refine g_iald C (hT_μ.1 _ _ 4 _ s_a0 rfl) (ib_in hg2) dX1_putOut_41 ?_
    refine g_iload_n C dX1_putOut_42 1 rfl ?_
    refine g_icmp_lt C 48 dX1_putOut_43 rfl (fun q => ?_) (fun q => ?_)
    · replace h := ip q h
      refine g_aload_n C dX1_putOut_48 0 rfl ?_
      refine g_getr (j := 1) C s_a0 (by decide) rfl uwX1 (by decide) rfl lfX1_18 rfl dX1_putOut_49 ?_
      refine g_aload_n C dX1_putOut_52 0 rfl ?_
      refine g_geti (j := 11) C s_a0 (by decide) rfl uwX1 (by decide) rfl lfX1_46 rfl dX1_putOut_53 ?_
      refine g_iload C dX1_putOut_56 4 rfl ?_
      refine g_iadd C dX1_putOut_58 ?_
      refine g_aload_n C dX1_putOut_59 0 rfl ?_
      refine g_getr (j := 4) C s_a0 (by decide) rfl uwX1 (by decide) rfl lfX1_28 rfl dX1_putOut_60 ?_
      refine g_iload C dX1_putOut_63 3 rfl ?_
      obtain ⟨hg3, h⟩ := gs h
      refine g_iald C (hT_μ.1 _ _ 4 _ s_a0 rfl) (ib_in hg3) dX1_putOut_65 ?_
      obtain ⟨hg, h⟩ := gs h
      refine g_iast C (hT_μ.1 _ _ 1 _ s_a0 rfl) (ib_in hg) dX1_putOut_66 ?_
      obtain ⟨μ4, e_μ4, h⟩ := nm h
      refine g_mu e_μ4 ?_
      refine g_iload C dX1_putOut_67 4 rfl ?_
      refine g_if_le C 82 dX1_putOut_69 rfl (fun q => ?_) (fun q => ?_)
      · replace h := ip q h
        refine g_iload C dX1_putOut_82 3 rfl ?_
        refine g_istore (lv' := [(5, .int v5), (0, .ref a0), (3, .int v3), (4, .int v4), (6, .int v6)]) C dX1_putOut_84 (by decide) rfl ?_
        obtain ⟨x5, e_x5, h⟩ := nm h
        refine g_iinc (v := x5) (lv' := [(6, .int x5), (5, .int v5), (0, .ref a0), (3, .int v3), (4, .int v4)]) C dX1_putOut_86 (by decide) 4 rfl (-1) (by decide) e_x5.symm rfl ?_
        refine g_goto C 30 dX1_putOut_89 rfl ?_
        exact g_lv [2, 3, 4, 1, 0] rfl (hrec30 _ _ _ _ _ _ s_a0 h)
      · replace h := iq q h
        refine g_aload_n C dX1_putOut_72 0 rfl ?_
        refine g_wt (fun hT_μ4 => ?_)
        refine g_getr (j := 2) C s_a0 (by decide) rfl uwX1 (by decide) rfl lfX1_22 rfl dX1_putOut_73 ?_
        refine g_iload C dX1_putOut_76 3 rfl ?_
        obtain ⟨hg6, h⟩ := gs h
        refine g_iald C (hT_μ4.1 _ _ 2 _ s_a0 rfl) (ib_in hg6) dX1_putOut_78 ?_
        refine g_goto C 84 dX1_putOut_79 rfl ?_
        obtain ⟨x7, e_x7, h⟩ := nm h
        refine g_topi e_x7 ?_
        refine g_istore (lv' := [(5, .int x7), (0, .ref a0), (3, .int v3), (4, .int v4), (6, .int v6)]) C dX1_putOut_84 (by decide) rfl ?_
        obtain ⟨x8, e_x8, h⟩ := nm h
        refine g_iinc (v := x8) (lv' := [(6, .int x8), (5, .int x7), (0, .ref a0), (3, .int v3), (4, .int v4)]) C dX1_putOut_86 (by decide) 4 rfl (-1) (by decide) e_x8.symm rfl ?_
        refine g_goto C 30 dX1_putOut_89 rfl ?_
        exact g_lv [2, 3, 4, 1, 0] rfl (hrec30 _ _ _ _ _ _ s_a0 h)
    · replace h := iq q h
      refine g_iconst (v := 0) C dX1_putOut_46 (by decide) ?_
      cases h
      exact g_zreturn (r := 0) C rfl dX1_putOut_47
theorem wX1_putOut_L30 {p : Program} {l : Launch} {e : Env} {s : State} {m : MethodId} {args : Array Value} {below : List Frame} {meth : Method} {c : Code} {D : va_G} {cA : Nat → ClassId} {tS : Nat → Nat} {σ : Sg} {fu : Nat} {q : Int32 × Mm} (C : Cx p s m args meth c (dm σ) D cA tS σ cX1_putOut (some .boolean) 7 RX1) : ∀ (n : Nat) (a0 : Nat) (v3 : Int32) (v4 : Int32) (v5 : Int32) (v6 : Int32) (μ : Mm), (σ a0 = some (1, 0)) → fX1_putOut_L30 fu n a0 v3 v4 v5 v6 μ = some q → GG p l e (rmO 0 0) s m args below meth c 0 0 (dm σ) D cA σ 7 (MQ below (QI D cA σ q.1 q.2) args s 0 0 (dm σ)) 30 [(0, .ref a0), (3, .int v3), (4, .int v4), (5, .int v5), (6, .int v6)] [] μ := by
  intro n
  induction n with
  | zero => intro a0 v3 v4 v5 v6 μ s_a0 h; cases h
  | succ n ih => intro a0 v3 v4 v5 v6 μ s_a0 h; exact wX1_putOut_B30 C (fun _ _ _ _ _ _ k0 h => ih _ _ _ _ _ _ k0 h) _ _ _ _ _ _ s_a0 h
set_option maxRecDepth 100000 in
set_option maxHeartbeats 4000000 in
theorem wX1_putOut {p : Program} {l : Launch} {e : Env} {s : State} {m : MethodId} {args : Array Value} {below : List Frame} {meth : Method} {c : Code} {D : va_G} {cA : Nat → ClassId} {tS : Nat → Nat} {σ : Sg} {fu : Nat} {q : Int32 × Mm} (C : Cx p s m args meth c (dm σ) D cA tS σ cX1_putOut (some .boolean) 7 RX1) (a0 : Nat) (v1 : Int32) (v2 : Int32) (v3 : Int32) (μ : Mm) (s_a0 : σ a0 = some (1, 0)) (h : fX1_putOut fu a0 v1 v2 v3 μ = some q) : GG p l e (rmO 0 0) s m args below meth c 0 0 (dm σ) D cA σ 7 (MQ below (QI D cA σ q.1 q.2) args s 0 0 (dm σ)) 0 [(0, .ref a0), (1, .int v1), (2, .int v2), (3, .int v3)] [] μ := by
  unfold fX1_putOut at h
  refine g_aload_n C dX1_putOut_0 0 rfl ?_
  refine g_wt (fun hT_μ => ?_)
  refine g_getr (j := 5) C s_a0 (by decide) rfl uwX1 (by decide) rfl lfX1_31 rfl dX1_putOut_1 ?_
  refine g_iload_n C dX1_putOut_4 1 rfl ?_
  obtain ⟨hg1, h⟩ := gs h
  refine g_iald C (hT_μ.1 _ _ 5 _ s_a0 rfl) (ib_in hg1) dX1_putOut_5 ?_
  obtain ⟨x2, e_x2, h⟩ := nm h
  refine g_topi e_x2 ?_
  refine g_istore (lv' := [(4, .int x2), (0, .ref a0), (1, .int v1), (2, .int v2), (3, .int v3)]) C dX1_putOut_6 (by decide) rfl ?_
  refine g_iload C dX1_putOut_8 0 rfl ?_
  refine g_iload_n C dX1_putOut_10 3 rfl ?_
  refine g_aload_n C dX1_putOut_11 1 rfl ?_
  refine g_geti (j := 11) C s_a0 (by decide) rfl uwX1 (by decide) rfl lfX1_46 rfl dX1_putOut_12 ?_
  refine g_isub C dX1_putOut_15 ?_
  refine g_icmp_le C 21 dX1_putOut_16 rfl (fun q => ?_) (fun q => ?_)
  · replace h := ip q h
    refine g_iload_n C dX1_putOut_21 2 rfl ?_
    refine g_istore (lv' := [(5, .int v1), (4, .int x2), (0, .ref a0), (1, .int v1), (2, .int v2), (3, .int v3)]) C dX1_putOut_22 (by decide) rfl ?_
    refine g_iload C dX1_putOut_24 1 rfl ?_
    refine g_iconst (v := 1) C dX1_putOut_26 (by decide) ?_
    refine g_isub C dX1_putOut_27 ?_
    obtain ⟨x3, e_x3, h⟩ := nm h
    refine g_topi e_x3 ?_
    refine g_istore (lv' := [(6, .int x3), (5, .int v1), (4, .int x2), (0, .ref a0), (1, .int v1), (2, .int v2), (3, .int v3)]) C dX1_putOut_28 (by decide) rfl ?_
    exact g_lv [3, 6, 2, 1, 0] rfl (wX1_putOut_L30 C fu _ _ _ _ _ _ s_a0 h)
  · replace h := iq q h
    refine g_iconst (v := 0) C dX1_putOut_19 (by decide) ?_
    cases h
    exact g_zreturn (r := 0) C rfl dX1_putOut_20
theorem miX1_putOut : MI yX1_putOut cX1_putOut 7 (some .boolean) RX1 3 := ⟨wcX1_putOut, wmX1_putOut, wsX1_putOut, wiX1, by decide +kernel⟩
theorem kX1_putOut {l : Launch} {D : va_G} {cA : Nat → ClassId} {tS : Nat → Nat} {σ : Sg} {a0 : Nat} {v1 : Int32} {v2 : Int32} {v3 : Int32} {μ : Mm} {fu : Nat} {q : Int32 × Mm} (s_a0 : σ a0 = some (1, 0)) (h : fX1_putOut fu a0 v1 v2 v3 μ = some q) : Ct l D cA tS σ yX1_putOut cX1_putOut 7 (some .boolean) (rmO 0 0) [.ref a0, .int v1, .int v2, .int v3] μ (QI D cA σ q.1 q.2) :=
  Ct.of (by decide) (Nat.le_of_ble_eq_true rfl) (fun _ _ _ _ _ _ _ _ C => wX1_putOut C _ _ _ _ _ s_a0 h)
set_option maxRecDepth 100000 in
set_option maxHeartbeats 4000000 in
theorem wX1_start_B17 {p : Program} {l : Launch} {e : Env} {s : State} {m : MethodId} {args : Array Value} {below : List Frame} {meth : Method} {c : Code} {D : va_G} {cA : Nat → ClassId} {tS : Nat → Nat} {σ : Sg} {rec17 : Nat → Int32 → Mm → Option (Mm)} {fu : Nat} {q : Mm} (C : Cx p s m args meth c (dm σ) D cA tS σ cX1_start none 3 RX1) (hrec17 : ∀ (y0 : Nat) (y2 : Int32) (μ : Mm), σ y0 = some (1, 0) → rec17 y0 y2 μ = some q → GG p l e (rmO 1 20) s m args below meth c 0 0 (dm σ) D cA σ 3 (MQ below (QV D cA σ q) args s 0 0 (dm σ)) 17 [(0, .ref y0), (2, .int y2)] [] μ) (a0 : Nat) (v2 : Int32) (μ : Mm) (s_a0 : σ a0 = some (1, 0)) (h : fX1_start_B17 rec17 fu a0 v2 μ = some q) : GG p l e (rmO 1 20) s m args below meth c 0 0 (dm σ) D cA σ 3 (MQ below (QV D cA σ q) args s 0 0 (dm σ)) 17 [(0, .ref a0), (2, .int v2)] [] μ := by
  unfold fX1_start_B17 at h
  refine g_iload_n C dX1_start_17 1 rfl ?_
  refine g_iconst (v := 1) C dX1_start_18 (by decide) ?_
  refine g_aload_n C dX1_start_19 0 rfl ?_
  refine g_geti (j := 6) C s_a0 (by decide) rfl uwX1 (by decide) rfl lfX1_63 rfl dX1_start_20 ?_
  refine g_ishl C dX1_start_23 ?_
  refine g_icmp_ge C 54 dX1_start_24 rfl (fun q => ?_) (fun q => ?_)
  · replace h := ip q h
    refine g_aload_n C dX1_start_54 0 rfl ?_
    obtain ⟨μ1, e_μ1, h⟩ := nm h
    refine g_callVV C (kX1_forget s_a0 e_μ1.symm) miX1_forget lmX1_52 s_a0 (by decide) rfl rfl rfl (Nat.le_of_ble_eq_true rfl) dX1_start_55 ⟨by decide, by decide⟩ ⟨Nat.zero_le _, Nat.zero_le _⟩ ?_
    cases h
    exact g_return C dX1_start_58
  · replace h := iq q h
    refine g_aload_n C dX1_start_27 0 rfl ?_
    refine g_wt (fun hT_μ => ?_)
    refine g_getr (j := 3) C s_a0 (by decide) rfl uwX1 (by decide) rfl lfX1_25 rfl dX1_start_28 ?_
    refine g_iload_n C dX1_start_31 1 rfl ?_
    refine g_iload_n C dX1_start_32 1 rfl ?_
    obtain ⟨hg, h⟩ := gs h
    refine g_iast C (hT_μ.1 _ _ 3 _ s_a0 rfl) (ib_in hg) dX1_start_33 ?_
    obtain ⟨μ2, e_μ2, h⟩ := nm h
    refine g_mu e_μ2 ?_
    refine g_aload_n C dX1_start_34 0 rfl ?_
    refine g_wt (fun hT_μ2 => ?_)
    refine g_getr (j := 4) C s_a0 (by decide) rfl uwX1 (by decide) rfl lfX1_28 rfl dX1_start_35 ?_
    refine g_iload_n C dX1_start_38 1 rfl ?_
    refine g_iload_n C dX1_start_39 1 rfl ?_
    obtain ⟨hg, h⟩ := gs h
    refine g_iast C (hT_μ2.1 _ _ 4 _ s_a0 rfl) (ib_in hg) dX1_start_40 ?_
    obtain ⟨μ3, e_μ3, h⟩ := nm h
    refine g_mu e_μ3 ?_
    refine g_aload_n C dX1_start_41 0 rfl ?_
    refine g_wt (fun hT_μ3 => ?_)
    refine g_getr (j := 5) C s_a0 (by decide) rfl uwX1 (by decide) rfl lfX1_31 rfl dX1_start_42 ?_
    refine g_iload_n C dX1_start_45 1 rfl ?_
    refine g_iconst (v := 1) C dX1_start_46 (by decide) ?_
    obtain ⟨hg, h⟩ := gs h
    refine g_iast C (hT_μ3.1 _ _ 5 _ s_a0 rfl) (ib_in hg) dX1_start_47 ?_
    obtain ⟨μ4, e_μ4, h⟩ := nm h
    refine g_mu e_μ4 ?_
    obtain ⟨x5, e_x5, h⟩ := nm h
    refine g_iinc (v := x5) (lv' := [(2, .int x5), (0, .ref a0)]) C dX1_start_48 (by decide) 1 rfl 1 (by decide) e_x5.symm rfl ?_
    refine g_goto C 17 dX1_start_51 rfl ?_
    exact g_lv [1, 0] rfl (hrec17 _ _ _ s_a0 h)
theorem wX1_start_L17 {p : Program} {l : Launch} {e : Env} {s : State} {m : MethodId} {args : Array Value} {below : List Frame} {meth : Method} {c : Code} {D : va_G} {cA : Nat → ClassId} {tS : Nat → Nat} {σ : Sg} {fu : Nat} {q : Mm} (C : Cx p s m args meth c (dm σ) D cA tS σ cX1_start none 3 RX1) : ∀ (n : Nat) (a0 : Nat) (v2 : Int32) (μ : Mm), (σ a0 = some (1, 0)) → fX1_start_L17 fu n a0 v2 μ = some q → GG p l e (rmO 1 20) s m args below meth c 0 0 (dm σ) D cA σ 3 (MQ below (QV D cA σ q) args s 0 0 (dm σ)) 17 [(0, .ref a0), (2, .int v2)] [] μ := by
  intro n
  induction n with
  | zero => intro a0 v2 μ s_a0 h; cases h
  | succ n ih => intro a0 v2 μ s_a0 h; exact wX1_start_B17 C (fun _ _ _ k0 h => ih _ _ _ k0 h) _ _ _ s_a0 h
set_option maxRecDepth 100000 in
set_option maxHeartbeats 4000000 in
theorem wX1_start {p : Program} {l : Launch} {e : Env} {s : State} {m : MethodId} {args : Array Value} {below : List Frame} {meth : Method} {c : Code} {D : va_G} {cA : Nat → ClassId} {tS : Nat → Nat} {σ : Sg} {fu : Nat} {q : Mm} (C : Cx p s m args meth c (dm σ) D cA tS σ cX1_start none 3 RX1) (a0 : Nat) (v1 : Int32) (μ : Mm) (s_a0 : σ a0 = some (1, 0)) (h : fX1_start fu a0 v1 μ = some q) : GG p l e (rmO 1 20) s m args below meth c 0 0 (dm σ) D cA σ 3 (MQ below (QV D cA σ q) args s 0 0 (dm σ)) 0 [(0, .ref a0), (1, .int v1)] [] μ := by
  unfold fX1_start at h
  refine g_aload_n C dX1_start_0 0 rfl ?_
  refine g_iload_n C dX1_start_1 1 rfl ?_
  refine g_puti (j := 6) C s_a0 (by decide) rfl uwX1 tyX1_ok nmX1 (by decide) rfl lfX1_63 rfl rfl rfl (fun _ _ => rfl) (fun _ _ => Nat.le_of_ble_eq_true rfl) dX1_start_2 ?_
  obtain ⟨μ1, e_μ1, h⟩ := nm h
  refine g_mu e_μ1 ?_
  refine g_aload_n C dX1_start_5 0 rfl ?_
  refine g_iconst (v := 0) C dX1_start_6 (by decide) ?_
  refine g_puti (j := 7) C s_a0 (by decide) rfl uwX1 tyX1_ok nmX1 (by decide) rfl lfX1_49 rfl rfl rfl (fun _ _ => rfl) (fun _ _ => Nat.le_of_ble_eq_true rfl) dX1_start_7 ?_
  obtain ⟨μ2, e_μ2, h⟩ := nm h
  refine g_mu e_μ2 ?_
  refine g_aload_n C dX1_start_10 0 rfl ?_
  refine g_iconst (v := 0) C dX1_start_11 (by decide) ?_
  refine g_puti (j := 11) C s_a0 (by decide) rfl uwX1 tyX1_ok nmX1 (by decide) rfl lfX1_46 rfl rfl rfl (fun _ _ => rfl) (fun _ _ => Nat.le_of_ble_eq_true rfl) dX1_start_12 ?_
  obtain ⟨μ3, e_μ3, h⟩ := nm h
  refine g_mu e_μ3 ?_
  refine g_iconst (v := 0) C dX1_start_15 (by decide) ?_
  refine g_istore_n (lv' := [(2, .int 0), (0, .ref a0), (1, .int v1)]) C dX1_start_16 (by decide) rfl ?_
  exact g_lv [1, 0] rfl (wX1_start_L17 C fu _ _ _ s_a0 h)
theorem miX1_start : MI yX1_start cX1_start 3 none RX1 1 := ⟨wcX1_start, wmX1_start, wsX1_start, wiX1, by decide +kernel⟩
theorem kX1_start {l : Launch} {D : va_G} {cA : Nat → ClassId} {tS : Nat → Nat} {σ : Sg} {a0 : Nat} {v1 : Int32} {μ : Mm} {fu : Nat} {q : Mm} (s_a0 : σ a0 = some (1, 0)) (h : fX1_start fu a0 v1 μ = some q) : Ct l D cA tS σ yX1_start cX1_start 3 none (rmO 1 20) [.ref a0, .int v1] μ (QV D cA σ q) :=
  Ct.of (by decide) (Nat.le_of_ble_eq_true rfl) (fun _ _ _ _ _ _ _ _ C => wX1_start C _ _ _ s_a0 h)
set_option maxRecDepth 100000 in
set_option maxHeartbeats 4000000 in
theorem wX1_decode_B24 {p : Program} {l : Launch} {e : Env} {s : State} {m : MethodId} {args : Array Value} {below : List Frame} {meth : Method} {c : Code} {D : va_G} {cA : Nat → ClassId} {tS : Nat → Nat} {σ : Sg} {rec24 : Nat → Int32 → Int32 → Int32 → Int32 → Mm → Option (Int32 × Mm)} {fu : Nat} {q : Int32 × Mm} (C : Cx p s m args meth c (dm σ) D cA tS σ cX1_decode (some .boolean) 7 RX1) (hrec24 : ∀ (y0 : Nat) (y2 : Int32) (y3 : Int32) (y4 : Int32) (y5 : Int32) (μ : Mm), σ y0 = some (1, 0) → rec24 y0 y2 y3 y4 y5 μ = some q → GG p l e (rmO 2 44) s m args below meth c 0 0 (dm σ) D cA σ 7 (MQ below (QI D cA σ q.1 q.2) args s 0 0 (dm σ)) 24 [(0, .ref y0), (2, .int y2), (3, .int y3), (4, .int y4), (5, .int y5)] [] μ) (a0 : Nat) (v2 : Int32) (v3 : Int32) (v4 : Int32) (v5 : Int32) (μ : Mm) (s_a0 : σ a0 = some (1, 0)) (h : fX1_decode_B24 rec24 fu a0 v2 v3 v4 v5 μ = some q) : GG p l e (rmO 2 44) s m args below meth c 0 0 (dm σ) D cA σ 7 (MQ below (QI D cA σ q.1 q.2) args s 0 0 (dm σ)) 24 [(0, .ref a0), (2, .int v2), (3, .int v3), (4, .int v4), (5, .int v5)] [] μ := by
  unfold fX1_decode_B24 at h
  refine g_iload C dX1_decode_24 4 rfl ?_
  refine g_aload_n C dX1_decode_26 0 rfl ?_
  refine g_wt (fun hT_μ => ?_)
  refine g_getr (j := 0) C s_a0 (by decide) rfl uwX1 (by decide) rfl lfX1_12 rfl dX1_decode_27 ?_
  refine g_geti (j := 1) C (hT_μ.1 _ _ 0 _ s_a0 rfl) (by decide) rfl uwX0 (by decide) rfl lfX1_42 rfl dX1_decode_30 ?_
  refine g_bipush (v := 8) C dX1_decode_33 (by decide) ?_
  refine g_imul C dX1_decode_35 ?_
  refine g_icmp_ge C 130 dX1_decode_36 rfl (fun q => ?_) (fun q => ?_)
  · replace h := ip q h
    refine g_iconst (v := 0) C dX1_decode_130 (by decide) ?_
    cases h
    exact g_zreturn (r := 0) C rfl dX1_decode_131
  · replace h := iq q h
    refine g_aload_n C dX1_decode_39 0 rfl ?_
    obtain ⟨q1, e_q1, h⟩ := bs h
    refine g_callVI C (kX1_nextCode s_a0 e_q1) miX1_nextCode lmX1_38 s_a0 (by decide) rfl rfl rfl (Nat.le_of_ble_eq_true rfl) dX1_decode_40 ⟨by decide, by decide⟩ ⟨Nat.zero_le _, Nat.zero_le _⟩ ?_
    obtain ⟨x2, e_x2, h⟩ := nm h
    refine g_topi e_x2 ?_
    refine g_istore (lv' := [(6, .int x2), (0, .ref a0), (2, .int v2), (3, .int v3), (4, .int v4), (5, .int v5)]) C dX1_decode_43 (by decide) rfl ?_
    refine g_iload C dX1_decode_45 0 rfl ?_
    refine g_iload C dX1_decode_47 4 rfl ?_
    refine g_iconst (v := 1) C dX1_decode_49 (by decide) ?_
    refine g_iadd C dX1_decode_50 ?_
    refine g_icmp_ne C 88 dX1_decode_51 rfl (fun q => ?_) (fun q => ?_)
    · replace h := iq q h
      refine g_iload C dX1_decode_88 0 rfl ?_
      refine g_iload C dX1_decode_90 4 rfl ?_
      refine g_icmp_ne C 102 dX1_decode_92 rfl (fun q => ?_) (fun q => ?_)
      · replace h := iq q h
        refine g_aload_n C dX1_decode_102 1 rfl ?_
        refine g_iload C dX1_decode_103 0 rfl ?_
        obtain ⟨q3, e_q3, h⟩ := bs h
        refine g_callVI C (kX1_isKnown s_a0 e_q3) miX1_isKnown lmX1_55 s_a0 (by decide) rfl rfl rfl (Nat.le_of_ble_eq_true rfl) dX1_decode_105 ⟨by decide, by decide⟩ ⟨Nat.zero_le _, Nat.zero_le _⟩ ?_
        refine g_if_eq C 122 dX1_decode_108 rfl (fun q => ?_) (fun q => ?_)
        · replace h := ip q h
          refine g_iconst (v := 0) C dX1_decode_122 (by decide) ?_
          cases h
          exact g_zreturn (r := 0) C rfl dX1_decode_123
        · replace h := iq q h
          refine g_aload_n C dX1_decode_111 1 rfl ?_
          refine g_iload C dX1_decode_112 0 rfl ?_
          refine g_iload_n C dX1_decode_114 2 rfl ?_
          refine g_iload_n C dX1_decode_115 3 rfl ?_
          obtain ⟨q4, e_q4, h⟩ := bs h
          refine g_callVI C (kX1_putOut s_a0 e_q4) miX1_putOut lmX1_59 s_a0 (by decide) rfl rfl rfl (Nat.le_of_ble_eq_true rfl) dX1_decode_116 ⟨by decide, by decide⟩ ⟨Nat.zero_le _, Nat.zero_le _⟩ ?_
          refine g_if_ne C 124 dX1_decode_119 rfl (fun q => ?_) (fun q => ?_)
          · replace h := iq q h
            obtain ⟨x5, e_x5, h⟩ := nm h
            refine g_iinc (v := x5) (lv' := [(5, .int x5), (6, .int x2), (0, .ref a0), (2, .int v2), (3, .int v3), (4, .int v4)]) C dX1_decode_124 (by decide) 5 rfl 1 (by decide) e_x5.symm rfl ?_
            refine g_goto C 24 dX1_decode_127 rfl ?_
            exact g_lv [2, 3, 4, 5, 0] rfl (hrec24 _ _ _ _ _ _ s_a0 h)
          · replace h := ip q h
            refine g_iconst (v := 0) C dX1_decode_122 (by decide) ?_
            cases h
            exact g_zreturn (r := 0) C rfl dX1_decode_123
      · replace h := ip q h
        refine g_aload_n C dX1_decode_95 1 rfl ?_
        obtain ⟨μ6, e_μ6, h⟩ := nm h
        refine g_callVV C (kX1_forget s_a0 e_μ6.symm) miX1_forget lmX1_52 s_a0 (by decide) rfl rfl rfl (Nat.le_of_ble_eq_true rfl) dX1_decode_96 ⟨by decide, by decide⟩ ⟨Nat.zero_le _, Nat.zero_le _⟩ ?_
        refine g_goto C 124 dX1_decode_99 rfl ?_
        obtain ⟨x7, e_x7, h⟩ := nm h
        refine g_iinc (v := x7) (lv' := [(5, .int x7), (6, .int x2), (0, .ref a0), (2, .int v2), (3, .int v3), (4, .int v4)]) C dX1_decode_124 (by decide) 5 rfl 1 (by decide) e_x7.symm rfl ?_
        refine g_goto C 24 dX1_decode_127 rfl ?_
        exact g_lv [2, 3, 4, 5, 0] rfl (hrec24 _ _ _ _ _ _ s_a0 h)
    · replace h := ip q h
      refine g_aload_n C dX1_decode_54 1 rfl ?_
      refine g_geti (j := 11) C s_a0 (by decide) rfl uwX1 (by decide) rfl lfX1_46 rfl dX1_decode_55 ?_
      refine g_iload_n C dX1_decode_58 2 rfl ?_
      refine g_icmp_ne C 86 dX1_decode_59 rfl (fun q => ?_) (fun q => ?_)
      · replace h := iq q h
        refine g_iconst (v := 0) C dX1_decode_86 (by decide) ?_
        cases h
        exact g_zreturn (r := 0) C rfl dX1_decode_87
      · replace h := ip q h
        refine g_aload_n C dX1_decode_62 1 rfl ?_
        refine g_geti (j := 7) C s_a0 (by decide) rfl uwX1 (by decide) rfl lfX1_49 rfl dX1_decode_63 ?_
        refine g_iconst (v := 1) C dX1_decode_66 (by decide) ?_
        refine g_isub C dX1_decode_67 ?_
        refine g_iconst (v := 3) C dX1_decode_68 (by decide) ?_
        refine g_ishr C dX1_decode_69 ?_
        refine g_aload_n C dX1_decode_70 1 rfl ?_
        refine g_wt (fun hT_q1_2 => ?_)
        refine g_getr (j := 0) C s_a0 (by decide) rfl uwX1 (by decide) rfl lfX1_12 rfl dX1_decode_71 ?_
        refine g_geti (j := 1) C (hT_q1_2.1 _ _ 0 _ s_a0 rfl) (by decide) rfl uwX0 (by decide) rfl lfX1_42 rfl dX1_decode_74 ?_
        refine g_iconst (v := 1) C dX1_decode_77 (by decide) ?_
        refine g_isub C dX1_decode_78 ?_
        refine g_icmp_ne C 86 dX1_decode_79 rfl (fun q => ?_) (fun q => ?_)
        · replace h := iq q h
          refine g_iconst (v := 0) C dX1_decode_86 (by decide) ?_
          cases h
          exact g_zreturn (r := 0) C rfl dX1_decode_87
        · replace h := ip q h
          refine g_iconst (v := 1) C dX1_decode_82 (by decide) ?_
          refine g_goto C 87 dX1_decode_83 rfl ?_
          cases h
          exact g_zreturn (r := 1) C rfl dX1_decode_87
theorem wX1_decode_L24 {p : Program} {l : Launch} {e : Env} {s : State} {m : MethodId} {args : Array Value} {below : List Frame} {meth : Method} {c : Code} {D : va_G} {cA : Nat → ClassId} {tS : Nat → Nat} {σ : Sg} {fu : Nat} {q : Int32 × Mm} (C : Cx p s m args meth c (dm σ) D cA tS σ cX1_decode (some .boolean) 7 RX1) : ∀ (n : Nat) (a0 : Nat) (v2 : Int32) (v3 : Int32) (v4 : Int32) (v5 : Int32) (μ : Mm), (σ a0 = some (1, 0)) → fX1_decode_L24 fu n a0 v2 v3 v4 v5 μ = some q → GG p l e (rmO 2 44) s m args below meth c 0 0 (dm σ) D cA σ 7 (MQ below (QI D cA σ q.1 q.2) args s 0 0 (dm σ)) 24 [(0, .ref a0), (2, .int v2), (3, .int v3), (4, .int v4), (5, .int v5)] [] μ := by
  intro n
  induction n with
  | zero => intro a0 v2 v3 v4 v5 μ s_a0 h; cases h
  | succ n ih => intro a0 v2 v3 v4 v5 μ s_a0 h; exact wX1_decode_B24 C (fun _ _ _ _ _ _ k0 h => ih _ _ _ _ _ _ k0 h) _ _ _ _ _ _ s_a0 h
set_option maxRecDepth 100000 in
set_option maxHeartbeats 4000000 in
theorem wX1_decode {p : Program} {l : Launch} {e : Env} {s : State} {m : MethodId} {args : Array Value} {below : List Frame} {meth : Method} {c : Code} {D : va_G} {cA : Nat → ClassId} {tS : Nat → Nat} {σ : Sg} {fu : Nat} {q : Int32 × Mm} (C : Cx p s m args meth c (dm σ) D cA tS σ cX1_decode (some .boolean) 7 RX1) (a0 : Nat) (v1 : Int32) (v2 : Int32) (v3 : Int32) (μ : Mm) (s_a0 : σ a0 = some (1, 0)) (h : fX1_decode fu a0 v1 v2 v3 μ = some q) : GG p l e (rmO 2 44) s m args below meth c 0 0 (dm σ) D cA σ 7 (MQ below (QI D cA σ q.1 q.2) args s 0 0 (dm σ)) 0 [(0, .ref a0), (1, .int v1), (2, .int v2), (3, .int v3)] [] μ := by
  unfold fX1_decode at h
  refine g_iconst (v := 1) C dX1_decode_0 (by decide) ?_
  refine g_iload_n C dX1_decode_1 1 rfl ?_
  refine g_ishl C dX1_decode_2 ?_
  obtain ⟨x1, e_x1, h⟩ := nm h
  refine g_topi e_x1 ?_
  refine g_istore (lv' := [(4, .int x1), (0, .ref a0), (1, .int v1), (2, .int v2), (3, .int v3)]) C dX1_decode_3 (by decide) rfl ?_
  refine g_aload_n C dX1_decode_5 1 rfl ?_
  refine g_iload_n C dX1_decode_6 2 rfl ?_
  obtain ⟨μ2, e_μ2, h⟩ := bs h
  refine g_callVV C (kX1_start s_a0 e_μ2) miX1_start lmX1_34 s_a0 (by decide) rfl rfl rfl (Nat.le_of_ble_eq_true rfl) dX1_decode_7 ⟨by decide, by decide⟩ ⟨Nat.zero_le _, Nat.zero_le _⟩ ?_
  refine g_aload_n C dX1_decode_10 1 rfl ?_
  obtain ⟨q3, e_q3, h⟩ := bs h
  refine g_callVI C (kX1_nextCode s_a0 e_q3) miX1_nextCode lmX1_38 s_a0 (by decide) rfl rfl rfl (Nat.le_of_ble_eq_true rfl) dX1_decode_11 ⟨by decide, by decide⟩ ⟨Nat.zero_le _, Nat.zero_le _⟩ ?_
  refine g_iload C dX1_decode_14 0 rfl ?_
  refine g_icmp_eq C 21 dX1_decode_16 rfl (fun q => ?_) (fun q => ?_)
  · replace h := ip q h
    refine g_iconst (v := 0) C dX1_decode_21 (by decide) ?_
    refine g_istore (lv' := [(5, .int 0), (4, .int x1), (0, .ref a0), (1, .int v1), (2, .int v2), (3, .int v3)]) C dX1_decode_22 (by decide) rfl ?_
    exact g_lv [2, 4, 5, 1, 0] rfl (wX1_decode_L24 C fu _ _ _ _ _ _ s_a0 h)
  · replace h := iq q h
    refine g_iconst (v := 0) C dX1_decode_19 (by decide) ?_
    cases h
    exact g_zreturn (r := 0) C rfl dX1_decode_20
theorem miX1_decode : MI yX1_decode cX1_decode 7 (some .boolean) RX1 3 := ⟨wcX1_decode, wmX1_decode, wsX1_decode, wiX1, by decide +kernel⟩
theorem kX1_decode {l : Launch} {D : va_G} {cA : Nat → ClassId} {tS : Nat → Nat} {σ : Sg} {a0 : Nat} {v1 : Int32} {v2 : Int32} {v3 : Int32} {μ : Mm} {fu : Nat} {q : Int32 × Mm} (s_a0 : σ a0 = some (1, 0)) (h : fX1_decode fu a0 v1 v2 v3 μ = some q) : Ct l D cA tS σ yX1_decode cX1_decode 7 (some .boolean) (rmO 2 44) [.ref a0, .int v1, .int v2, .int v3] μ (QI D cA σ q.1 q.2) :=
  Ct.of (by decide) (Nat.le_of_ble_eq_true rfl) (fun _ _ _ _ _ _ _ _ C => wX1_decode C _ _ _ _ _ s_a0 h)
set_option maxRecDepth 100000 in
set_option maxHeartbeats 4000000 in
theorem wX2_putCode_B25 {p : Program} {l : Launch} {e : Env} {s : State} {m : MethodId} {args : Array Value} {below : List Frame} {meth : Method} {c : Code} {D : va_G} {cA : Nat → ClassId} {tS : Nat → Nat} {σ : Sg} {rec25 : Nat → Mm → Option (Mm)} {fu : Nat} {q : Mm} (C : Cx p s m args meth c (dm σ) D cA tS σ cX2_putCode none 3 RX2) (hrec25 : ∀ (y0 : Nat) (μ : Mm), σ y0 = some (2, 0) → rec25 y0 μ = some q → GG p l e (rmO 1 21) s m args below meth c 0 0 (dm σ) D cA σ 3 (MQ below (QV D cA σ q) args s 0 0 (dm σ)) 25 [(0, .ref y0)] [] μ) (a0 : Nat) (μ : Mm) (s_a0 : σ a0 = some (2, 0)) (h : fX2_putCode_B25 rec25 fu a0 μ = some q) : GG p l e (rmO 1 21) s m args below meth c 0 0 (dm σ) D cA σ 3 (MQ below (QV D cA σ q) args s 0 0 (dm σ)) 25 [(0, .ref a0)] [] μ := by
  unfold fX2_putCode_B25 at h
  refine g_aload_n C dX2_putCode_25 0 rfl ?_
  refine g_geti (j := 11) C s_a0 (by decide) rfl uwX2 (by decide) rfl lfX2_41 rfl dX2_putCode_26 ?_
  refine g_bipush (v := 8) C dX2_putCode_29 (by decide) ?_
  refine g_icmp_lt C 70 dX2_putCode_31 rfl (fun q => ?_) (fun q => ?_)
  · replace h := ip q h
    cases h
    exact g_return C dX2_putCode_70
  · replace h := iq q h
    refine g_aload_n C dX2_putCode_34 0 rfl ?_
    refine g_wt (fun hT_μ => ?_)
    refine g_getr (j := 0) C s_a0 (by decide) rfl uwX2 (by decide) rfl lfX2_12 rfl dX2_putCode_35 ?_
    refine g_aload_n C dX2_putCode_38 0 rfl ?_
    refine g_geti (j := 10) C s_a0 (by decide) rfl uwX2 (by decide) rfl lfX2_38 rfl dX2_putCode_39 ?_
    obtain ⟨μ1, e_μ1, h⟩ := bs h
    refine g_callVV C (kX0_add (hT_μ.1 _ _ 0 _ s_a0 rfl) e_μ1) miX0_add lmX2_64 (hT_μ.1 _ _ 0 _ s_a0 rfl) (by decide) rfl rfl rfl (Nat.le_of_ble_eq_true rfl) dX2_putCode_42 ⟨by decide, by decide⟩ ⟨Nat.zero_le _, Nat.zero_le _⟩ ?_
    refine g_aload_n C dX2_putCode_45 0 rfl ?_
    refine g_dup C dX2_putCode_46 rfl ?_
    refine g_geti (j := 10) C s_a0 (by decide) rfl uwX2 (by decide) rfl lfX2_38 rfl dX2_putCode_47 ?_
    refine g_bipush (v := 8) C dX2_putCode_50 (by decide) ?_
    refine g_ishr C dX2_putCode_52 ?_
    refine g_puti (j := 10) C s_a0 (by decide) rfl uwX2 tyX2_ok nmX2 (by decide) rfl lfX2_38 rfl rfl rfl (fun _ _ => rfl) (fun _ _ => Nat.le_of_ble_eq_true rfl) dX2_putCode_53 ?_
    obtain ⟨μ2, e_μ2, h⟩ := nm h
    refine g_mu e_μ2 ?_
    refine g_aload_n C dX2_putCode_56 0 rfl ?_
    refine g_dup C dX2_putCode_57 rfl ?_
    refine g_geti (j := 11) C s_a0 (by decide) rfl uwX2 (by decide) rfl lfX2_41 rfl dX2_putCode_58 ?_
    refine g_bipush (v := 8) C dX2_putCode_61 (by decide) ?_
    refine g_isub C dX2_putCode_63 ?_
    refine g_puti (j := 11) C s_a0 (by decide) rfl uwX2 tyX2_ok nmX2 (by decide) rfl lfX2_41 rfl rfl rfl (fun _ _ => rfl) (fun _ _ => Nat.le_of_ble_eq_true rfl) dX2_putCode_64 ?_
    obtain ⟨μ3, e_μ3, h⟩ := nm h
    refine g_mu e_μ3 ?_
    refine g_goto C 25 dX2_putCode_67 rfl ?_
    exact g_lv [0] rfl (hrec25 _ _ s_a0 h)
theorem wX2_putCode_L25 {p : Program} {l : Launch} {e : Env} {s : State} {m : MethodId} {args : Array Value} {below : List Frame} {meth : Method} {c : Code} {D : va_G} {cA : Nat → ClassId} {tS : Nat → Nat} {σ : Sg} {fu : Nat} {q : Mm} (C : Cx p s m args meth c (dm σ) D cA tS σ cX2_putCode none 3 RX2) : ∀ (n : Nat) (a0 : Nat) (μ : Mm), (σ a0 = some (2, 0)) → fX2_putCode_L25 fu n a0 μ = some q → GG p l e (rmO 1 21) s m args below meth c 0 0 (dm σ) D cA σ 3 (MQ below (QV D cA σ q) args s 0 0 (dm σ)) 25 [(0, .ref a0)] [] μ := by
  intro n
  induction n with
  | zero => intro a0 μ s_a0 h; cases h
  | succ n ih => intro a0 μ s_a0 h; exact wX2_putCode_B25 C (fun _ _ k0 h => ih _ _ k0 h) _ _ s_a0 h
set_option maxRecDepth 100000 in
set_option maxHeartbeats 4000000 in
theorem wX2_putCode {p : Program} {l : Launch} {e : Env} {s : State} {m : MethodId} {args : Array Value} {below : List Frame} {meth : Method} {c : Code} {D : va_G} {cA : Nat → ClassId} {tS : Nat → Nat} {σ : Sg} {fu : Nat} {q : Mm} (C : Cx p s m args meth c (dm σ) D cA tS σ cX2_putCode none 3 RX2) (a0 : Nat) (v1 : Int32) (v2 : Int32) (μ : Mm) (s_a0 : σ a0 = some (2, 0)) (h : fX2_putCode fu a0 v1 v2 μ = some q) : GG p l e (rmO 1 21) s m args below meth c 0 0 (dm σ) D cA σ 3 (MQ below (QV D cA σ q) args s 0 0 (dm σ)) 0 [(0, .ref a0), (1, .int v1), (2, .int v2)] [] μ := by
  unfold fX2_putCode at h
  refine g_aload_n C dX2_putCode_0 0 rfl ?_
  refine g_dup C dX2_putCode_1 rfl ?_
  refine g_geti (j := 10) C s_a0 (by decide) rfl uwX2 (by decide) rfl lfX2_38 rfl dX2_putCode_2 ?_
  refine g_iload_n C dX2_putCode_5 1 rfl ?_
  refine g_aload_n C dX2_putCode_6 0 rfl ?_
  refine g_geti (j := 11) C s_a0 (by decide) rfl uwX2 (by decide) rfl lfX2_41 rfl dX2_putCode_7 ?_
  refine g_ishl C dX2_putCode_10 ?_
  refine g_ior C dX2_putCode_11 ?_
  refine g_puti (j := 10) C s_a0 (by decide) rfl uwX2 tyX2_ok nmX2 (by decide) rfl lfX2_38 rfl rfl rfl (fun _ _ => rfl) (fun _ _ => Nat.le_of_ble_eq_true rfl) dX2_putCode_12 ?_
  obtain ⟨μ1, e_μ1, h⟩ := nm h
  refine g_mu e_μ1 ?_
  refine g_aload_n C dX2_putCode_15 0 rfl ?_
  refine g_dup C dX2_putCode_16 rfl ?_
  refine g_geti (j := 11) C s_a0 (by decide) rfl uwX2 (by decide) rfl lfX2_41 rfl dX2_putCode_17 ?_
  refine g_iload_n C dX2_putCode_20 2 rfl ?_
  refine g_iadd C dX2_putCode_21 ?_
  refine g_puti (j := 11) C s_a0 (by decide) rfl uwX2 tyX2_ok nmX2 (by decide) rfl lfX2_41 rfl rfl rfl (fun _ _ => rfl) (fun _ _ => Nat.le_of_ble_eq_true rfl) dX2_putCode_22 ?_
  obtain ⟨μ2, e_μ2, h⟩ := nm h
  refine g_mu e_μ2 ?_
  exact g_lv [0] rfl (wX2_putCode_L25 C fu _ _ s_a0 h)
theorem miX2_putCode : MI yX2_putCode cX2_putCode 3 none RX2 2 := ⟨wcX2_putCode, wmX2_putCode, wsX2_putCode, wiX2, by decide +kernel⟩
theorem kX2_putCode {l : Launch} {D : va_G} {cA : Nat → ClassId} {tS : Nat → Nat} {σ : Sg} {a0 : Nat} {v1 : Int32} {v2 : Int32} {μ : Mm} {fu : Nat} {q : Mm} (s_a0 : σ a0 = some (2, 0)) (h : fX2_putCode fu a0 v1 v2 μ = some q) : Ct l D cA tS σ yX2_putCode cX2_putCode 3 none (rmO 1 21) [.ref a0, .int v1, .int v2] μ (QV D cA σ q) :=
  Ct.of (by decide) (Nat.le_of_ble_eq_true rfl) (fun _ _ _ _ _ _ _ _ C => wX2_putCode C _ _ _ _ s_a0 h)
set_option maxRecDepth 100000 in
set_option maxHeartbeats 4000000 in
theorem wX2_putClear_B15 {p : Program} {l : Launch} {e : Env} {s : State} {m : MethodId} {args : Array Value} {below : List Frame} {meth : Method} {c : Code} {D : va_G} {cA : Nat → ClassId} {tS : Nat → Nat} {σ : Sg} {rec15 : Nat → Int32 → Int32 → Mm → Option (Mm)} {fu : Nat} {q : Mm} (C : Cx p s m args meth c (dm σ) D cA tS σ cX2_putClear none 4 RX2) (hrec15 : ∀ (y0 : Nat) (y2 : Int32) (y3 : Int32) (μ : Mm), σ y0 = some (2, 0) → rec15 y0 y2 y3 μ = some q → GG p l e (rmO 2 43) s m args below meth c 0 0 (dm σ) D cA σ 4 (MQ below (QV D cA σ q) args s 0 0 (dm σ)) 15 [(0, .ref y0), (2, .int y2), (3, .int y3)] [] μ) (a0 : Nat) (v2 : Int32) (v3 : Int32) (μ : Mm) (s_a0 : σ a0 = some (2, 0)) (h : fX2_putClear_B15 rec15 fu a0 v2 v3 μ = some q) : GG p l e (rmO 2 43) s m args below meth c 0 0 (dm σ) D cA σ 4 (MQ below (QV D cA σ q) args s 0 0 (dm σ)) 15 [(0, .ref a0), (2, .int v2), (3, .int v3)] [] μ := by
  unfold fX2_putClear_B15 at h
  refine g_iload_n C dX2_putClear_15 2 rfl ?_
  refine g_iload_n C dX2_putClear_16 1 rfl ?_
  refine g_icmp_ge C 33 dX2_putClear_17 rfl (fun q => ?_) (fun q => ?_)
  · replace h := ip q h
    refine g_aload_n C dX2_putClear_33 0 rfl ?_
    refine g_aload_n C dX2_putClear_34 0 rfl ?_
    refine g_geti (j := 5) C s_a0 (by decide) rfl uwX2 (by decide) rfl lfX2_31 rfl dX2_putClear_35 ?_
    refine g_iconst (v := 1) C dX2_putClear_38 (by decide) ?_
    refine g_iadd C dX2_putClear_39 ?_
    refine g_puti (j := 6) C s_a0 (by decide) rfl uwX2 tyX2_ok nmX2 (by decide) rfl lfX2_54 rfl rfl rfl (fun _ _ => rfl) (fun _ _ => Nat.le_of_ble_eq_true rfl) dX2_putClear_40 ?_
    obtain ⟨μ1, e_μ1, h⟩ := nm h
    refine g_mu e_μ1 ?_
    refine g_aload_n C dX2_putClear_43 0 rfl ?_
    refine g_iload_n C dX2_putClear_44 1 rfl ?_
    refine g_iconst (v := 2) C dX2_putClear_45 (by decide) ?_
    refine g_iadd C dX2_putClear_46 ?_
    refine g_puti (j := 7) C s_a0 (by decide) rfl uwX2 tyX2_ok nmX2 (by decide) rfl lfX2_51 rfl rfl rfl (fun _ _ => rfl) (fun _ _ => Nat.le_of_ble_eq_true rfl) dX2_putClear_47 ?_
    obtain ⟨μ2, e_μ2, h⟩ := nm h
    refine g_mu e_μ2 ?_
    refine g_aload_n C dX2_putClear_50 0 rfl ?_
    refine g_iconst (v := -1) C dX2_putClear_51 (by decide) ?_
    refine g_puti (j := 8) C s_a0 (by decide) rfl uwX2 tyX2_ok nmX2 (by decide) rfl lfX2_67 rfl rfl rfl (fun _ _ => rfl) (fun _ _ => Nat.le_of_ble_eq_true rfl) dX2_putClear_52 ?_
    obtain ⟨μ3, e_μ3, h⟩ := nm h
    refine g_mu e_μ3 ?_
    cases h
    exact g_return C dX2_putClear_55
  · replace h := iq q h
    refine g_aload_n C dX2_putClear_20 0 rfl ?_
    refine g_wt (fun hT_μ => ?_)
    refine g_getr (j := 2) C s_a0 (by decide) rfl uwX2 (by decide) rfl lfX2_22 rfl dX2_putClear_21 ?_
    refine g_iload_n C dX2_putClear_24 2 rfl ?_
    refine g_iconst (v := -1) C dX2_putClear_25 (by decide) ?_
    obtain ⟨hg, h⟩ := gs h
    refine g_iast C (hT_μ.1 _ _ 2 _ s_a0 rfl) (ib_in hg) dX2_putClear_26 ?_
    obtain ⟨μ4, e_μ4, h⟩ := nm h
    refine g_mu e_μ4 ?_
    obtain ⟨x5, e_x5, h⟩ := nm h
    refine g_iinc (v := x5) (lv' := [(3, .int x5), (0, .ref a0), (2, .int v2)]) C dX2_putClear_27 (by decide) 2 rfl 1 (by decide) e_x5.symm rfl ?_
    refine g_goto C 15 dX2_putClear_30 rfl ?_
    exact g_lv [1, 2, 0] rfl (hrec15 _ _ _ _ s_a0 h)
theorem wX2_putClear_L15 {p : Program} {l : Launch} {e : Env} {s : State} {m : MethodId} {args : Array Value} {below : List Frame} {meth : Method} {c : Code} {D : va_G} {cA : Nat → ClassId} {tS : Nat → Nat} {σ : Sg} {fu : Nat} {q : Mm} (C : Cx p s m args meth c (dm σ) D cA tS σ cX2_putClear none 4 RX2) : ∀ (n : Nat) (a0 : Nat) (v2 : Int32) (v3 : Int32) (μ : Mm), (σ a0 = some (2, 0)) → fX2_putClear_L15 fu n a0 v2 v3 μ = some q → GG p l e (rmO 2 43) s m args below meth c 0 0 (dm σ) D cA σ 4 (MQ below (QV D cA σ q) args s 0 0 (dm σ)) 15 [(0, .ref a0), (2, .int v2), (3, .int v3)] [] μ := by
  intro n
  induction n with
  | zero => intro a0 v2 v3 μ s_a0 h; cases h
  | succ n ih => intro a0 v2 v3 μ s_a0 h; exact wX2_putClear_B15 C (fun _ _ _ _ k0 h => ih _ _ _ _ k0 h) _ _ _ _ s_a0 h
set_option maxRecDepth 100000 in
set_option maxHeartbeats 4000000 in
theorem wX2_putClear {p : Program} {l : Launch} {e : Env} {s : State} {m : MethodId} {args : Array Value} {below : List Frame} {meth : Method} {c : Code} {D : va_G} {cA : Nat → ClassId} {tS : Nat → Nat} {σ : Sg} {fu : Nat} {q : Mm} (C : Cx p s m args meth c (dm σ) D cA tS σ cX2_putClear none 4 RX2) (a0 : Nat) (v1 : Int32) (μ : Mm) (s_a0 : σ a0 = some (2, 0)) (h : fX2_putClear fu a0 v1 μ = some q) : GG p l e (rmO 2 43) s m args below meth c 0 0 (dm σ) D cA σ 4 (MQ below (QV D cA σ q) args s 0 0 (dm σ)) 0 [(0, .ref a0), (1, .int v1)] [] μ := by
  unfold fX2_putClear at h
  refine g_iconst (v := 1) C dX2_putClear_0 (by decide) ?_
  refine g_aload_n C dX2_putClear_1 0 rfl ?_
  refine g_geti (j := 5) C s_a0 (by decide) rfl uwX2 (by decide) rfl lfX2_31 rfl dX2_putClear_2 ?_
  refine g_ishl C dX2_putClear_5 ?_
  obtain ⟨x1, e_x1, h⟩ := nm h
  refine g_topi e_x1 ?_
  refine g_istore_n (lv' := [(2, .int x1), (0, .ref a0), (1, .int v1)]) C dX2_putClear_6 (by decide) rfl ?_
  refine g_aload_n C dX2_putClear_7 1 rfl ?_
  refine g_iload_n C dX2_putClear_8 0 rfl ?_
  refine g_iload_n C dX2_putClear_9 2 rfl ?_
  obtain ⟨μ2, e_μ2, h⟩ := bs h
  refine g_callVV C (kX2_putCode s_a0 e_μ2) miX2_putCode lmX2_60 s_a0 (by decide) rfl rfl rfl (Nat.le_of_ble_eq_true rfl) dX2_putClear_10 ⟨by decide, by decide⟩ ⟨Nat.zero_le _, Nat.zero_le _⟩ ?_
  refine g_iconst (v := 0) C dX2_putClear_13 (by decide) ?_
  refine g_istore_n (lv' := [(3, .int 0), (2, .int x1), (0, .ref a0), (1, .int v1)]) C dX2_putClear_14 (by decide) rfl ?_
  exact g_lv [2, 1, 0] rfl (wX2_putClear_L15 C fu _ _ _ _ s_a0 h)
theorem miX2_putClear : MI yX2_putClear cX2_putClear 4 none RX2 1 := ⟨wcX2_putClear, wmX2_putClear, wsX2_putClear, wiX2, by decide +kernel⟩
theorem kX2_putClear {l : Launch} {D : va_G} {cA : Nat → ClassId} {tS : Nat → Nat} {σ : Sg} {a0 : Nat} {v1 : Int32} {μ : Mm} {fu : Nat} {q : Mm} (s_a0 : σ a0 = some (2, 0)) (h : fX2_putClear fu a0 v1 μ = some q) : Ct l D cA tS σ yX2_putClear cX2_putClear 4 none (rmO 2 43) [.ref a0, .int v1] μ (QV D cA σ q) :=
  Ct.of (by decide) (Nat.le_of_ble_eq_true rfl) (fun _ _ _ _ _ _ _ _ C => wX2_putClear C _ _ _ s_a0 h)
set_option maxRecDepth 100000 in
set_option maxHeartbeats 4000000 in
theorem wX2_childOf_B10 {p : Program} {l : Launch} {e : Env} {s : State} {m : MethodId} {args : Array Value} {below : List Frame} {meth : Method} {c : Code} {D : va_G} {cA : Nat → ClassId} {tS : Nat → Nat} {σ : Sg} {rec10 : Nat → Int32 → Int32 → Int32 → Mm → Option (Int32)} {fu : Nat} {q : Int32} (C : Cx p s m args meth c (dm σ) D cA tS σ cX2_childOf (some .int) 5 RX2) (hrec10 : ∀ (y0 : Nat) (y2 : Int32) (y3 : Int32) (y4 : Int32) (μ : Mm), σ y0 = some (2, 0) → rec10 y0 y2 y3 y4 μ = some q → GG p l e (rmO 0 0) s m args below meth c 0 0 (dm σ) D cA σ 5 (MQ below (QI D cA σ q μ) args s 0 0 (dm σ)) 10 [(0, .ref y0), (2, .int y2), (3, .int y3), (4, .int y4)] [] μ) (a0 : Nat) (v2 : Int32) (v3 : Int32) (v4 : Int32) (μ : Mm) (s_a0 : σ a0 = some (2, 0)) (h : fX2_childOf_B10 rec10 fu a0 v2 v3 v4 μ = some q) : GG p l e (rmO 0 0) s m args below meth c 0 0 (dm σ) D cA σ 5 (MQ below (QI D cA σ q μ) args s 0 0 (dm σ)) 10 [(0, .ref a0), (2, .int v2), (3, .int v3), (4, .int v4)] [] μ := by
  unfold fX2_childOf_B10 at h
  refine g_iload C dX2_childOf_10 3 rfl ?_
  refine g_sipush (v := 256) C dX2_childOf_12 (by decide) ?_
  refine g_icmp_ge C 48 dX2_childOf_15 rfl (fun q => ?_) (fun q => ?_)
  · replace h := ip q h
    refine g_iconst (v := -1) C dX2_childOf_48 (by decide) ?_
    cases h
    exact g_ireturn C rfl dX2_childOf_49
  · replace h := iq q h
    refine g_iload_n C dX2_childOf_18 2 rfl ?_
    refine g_iconst (v := -1) C dX2_childOf_19 (by decide) ?_
    refine g_icmp_eq C 48 dX2_childOf_20 rfl (fun q => ?_) (fun q => ?_)
    · replace h := ip q h
      refine g_iconst (v := -1) C dX2_childOf_48 (by decide) ?_
      cases h
      exact g_ireturn C rfl dX2_childOf_49
    · replace h := iq q h
      refine g_aload_n C dX2_childOf_23 0 rfl ?_
      refine g_wt (fun hT_μ => ?_)
      refine g_getr (j := 4) C s_a0 (by decide) rfl uwX2 (by decide) rfl lfX2_28 rfl dX2_childOf_24 ?_
      refine g_iload_n C dX2_childOf_27 2 rfl ?_
      obtain ⟨hg1, h⟩ := gs h
      refine g_iald C (hT_μ.1 _ _ 4 _ s_a0 rfl) (ib_in hg1) dX2_childOf_28 ?_
      refine g_iload_n C dX2_childOf_29 1 rfl ?_
      refine g_icmp_ne C 35 dX2_childOf_30 rfl (fun q => ?_) (fun q => ?_)
      · replace h := iq q h
        refine g_aload_n C dX2_childOf_35 0 rfl ?_
        refine g_getr (j := 3) C s_a0 (by decide) rfl uwX2 (by decide) rfl lfX2_25 rfl dX2_childOf_36 ?_
        refine g_iload_n C dX2_childOf_39 2 rfl ?_
        obtain ⟨hg2, h⟩ := gs h
        refine g_iald C (hT_μ.1 _ _ 3 _ s_a0 rfl) (ib_in hg2) dX2_childOf_40 ?_
        obtain ⟨x3, e_x3, h⟩ := nm h
        refine g_topi e_x3 ?_
        refine g_istore_n (lv' := [(3, .int x3), (0, .ref a0), (2, .int v2), (4, .int v4)]) C dX2_childOf_41 (by decide) rfl ?_
        obtain ⟨x4, e_x4, h⟩ := nm h
        refine g_iinc (v := x4) (lv' := [(4, .int x4), (3, .int x3), (0, .ref a0), (2, .int v2)]) C dX2_childOf_42 (by decide) 3 rfl 1 (by decide) e_x4.symm rfl ?_
        refine g_goto C 10 dX2_childOf_45 rfl ?_
        exact g_lv [2, 3, 1, 0] rfl (hrec10 _ _ _ _ _ s_a0 h)
      · replace h := ip q h
        refine g_iload_n C dX2_childOf_33 2 rfl ?_
        cases h
        exact g_ireturn C rfl dX2_childOf_34
theorem wX2_childOf_L10 {p : Program} {l : Launch} {e : Env} {s : State} {m : MethodId} {args : Array Value} {below : List Frame} {meth : Method} {c : Code} {D : va_G} {cA : Nat → ClassId} {tS : Nat → Nat} {σ : Sg} {fu : Nat} {q : Int32} (C : Cx p s m args meth c (dm σ) D cA tS σ cX2_childOf (some .int) 5 RX2) : ∀ (n : Nat) (a0 : Nat) (v2 : Int32) (v3 : Int32) (v4 : Int32) (μ : Mm), (σ a0 = some (2, 0)) → fX2_childOf_L10 fu n a0 v2 v3 v4 μ = some q → GG p l e (rmO 0 0) s m args below meth c 0 0 (dm σ) D cA σ 5 (MQ below (QI D cA σ q μ) args s 0 0 (dm σ)) 10 [(0, .ref a0), (2, .int v2), (3, .int v3), (4, .int v4)] [] μ := by
  intro n
  induction n with
  | zero => intro a0 v2 v3 v4 μ s_a0 h; cases h
  | succ n ih => intro a0 v2 v3 v4 μ s_a0 h; exact wX2_childOf_B10 C (fun _ _ _ _ _ k0 h => ih _ _ _ _ _ k0 h) _ _ _ _ _ s_a0 h
set_option maxRecDepth 100000 in
set_option maxHeartbeats 4000000 in
theorem wX2_childOf {p : Program} {l : Launch} {e : Env} {s : State} {m : MethodId} {args : Array Value} {below : List Frame} {meth : Method} {c : Code} {D : va_G} {cA : Nat → ClassId} {tS : Nat → Nat} {σ : Sg} {fu : Nat} {q : Int32} (C : Cx p s m args meth c (dm σ) D cA tS σ cX2_childOf (some .int) 5 RX2) (a0 : Nat) (v1 : Int32) (v2 : Int32) (μ : Mm) (s_a0 : σ a0 = some (2, 0)) (h : fX2_childOf fu a0 v1 v2 μ = some q) : GG p l e (rmO 0 0) s m args below meth c 0 0 (dm σ) D cA σ 5 (MQ below (QI D cA σ q μ) args s 0 0 (dm σ)) 0 [(0, .ref a0), (1, .int v1), (2, .int v2)] [] μ := by
  unfold fX2_childOf at h
  refine g_aload_n C dX2_childOf_0 0 rfl ?_
  refine g_wt (fun hT_μ => ?_)
  refine g_getr (j := 2) C s_a0 (by decide) rfl uwX2 (by decide) rfl lfX2_22 rfl dX2_childOf_1 ?_
  refine g_iload_n C dX2_childOf_4 1 rfl ?_
  obtain ⟨hg1, h⟩ := gs h
  refine g_iald C (hT_μ.1 _ _ 2 _ s_a0 rfl) (ib_in hg1) dX2_childOf_5 ?_
  obtain ⟨x2, e_x2, h⟩ := nm h
  refine g_topi e_x2 ?_
  refine g_istore_n (lv' := [(3, .int x2), (0, .ref a0), (1, .int v1), (2, .int v2)]) C dX2_childOf_6 (by decide) rfl ?_
  refine g_iconst (v := 0) C dX2_childOf_7 (by decide) ?_
  refine g_istore (lv' := [(4, .int 0), (3, .int x2), (0, .ref a0), (1, .int v1), (2, .int v2)]) C dX2_childOf_8 (by decide) rfl ?_
  exact g_lv [2, 4, 1, 0] rfl (wX2_childOf_L10 C fu _ _ _ _ _ s_a0 h)
theorem miX2_childOf : MI yX2_childOf cX2_childOf 5 (some .int) RX2 2 := ⟨wcX2_childOf, wmX2_childOf, wsX2_childOf, wiX2, by decide +kernel⟩
theorem kX2_childOf {l : Launch} {D : va_G} {cA : Nat → ClassId} {tS : Nat → Nat} {σ : Sg} {a0 : Nat} {v1 : Int32} {v2 : Int32} {μ : Mm} {fu : Nat} {q : Int32} (s_a0 : σ a0 = some (2, 0)) (h : fX2_childOf fu a0 v1 v2 μ = some q) : Ct l D cA tS σ yX2_childOf cX2_childOf 5 (some .int) (rmO 0 0) [.ref a0, .int v1, .int v2] μ (QI D cA σ q μ) :=
  Ct.of (by decide) (Nat.le_of_ble_eq_true rfl) (fun _ _ _ _ _ _ _ _ C => wX2_childOf C _ _ _ _ s_a0 h)
set_option maxRecDepth 100000 in
set_option maxHeartbeats 4000000 in
theorem wX2_longest_B20 {p : Program} {l : Launch} {e : Env} {s : State} {m : MethodId} {args : Array Value} {below : List Frame} {meth : Method} {c : Code} {D : va_G} {cA : Nat → ClassId} {tS : Nat → Nat} {σ : Sg} {rec20 : Nat → Int32 → Int32 → Mm → Option (Int32 × Mm)} {fu : Nat} {q : Int32 × Mm} (C : Cx p s m args meth c (dm σ) D cA tS σ cX2_longest (some .int) 4 RX2) (hrec20 : ∀ (y0 : Nat) (y1 : Int32) (y2 : Int32) (μ : Mm), σ y0 = some (2, 0) → rec20 y0 y1 y2 μ = some q → GG p l e (rmO 1 24) s m args below meth c 0 0 (dm σ) D cA σ 4 (MQ below (QI D cA σ q.1 q.2) args s 0 0 (dm σ)) 20 [(0, .ref y0), (1, .int y1), (2, .int y2)] [] μ) (a0 : Nat) (v1 : Int32) (v2 : Int32) (μ : Mm) (s_a0 : σ a0 = some (2, 0)) (h : fX2_longest_B20 rec20 fu a0 v1 v2 μ = some q) : GG p l e (rmO 1 24) s m args below meth c 0 0 (dm σ) D cA σ 4 (MQ below (QI D cA σ q.1 q.2) args s 0 0 (dm σ)) 20 [(0, .ref a0), (1, .int v1), (2, .int v2)] [] μ := by
  unfold fX2_longest_B20 at h
  refine g_aload_n C dX2_longest_20 0 rfl ?_
  refine g_geti (j := 9) C s_a0 (by decide) rfl uwX2 (by decide) rfl lfX2_44 rfl dX2_longest_21 ?_
  refine g_iload_n C dX2_longest_24 1 rfl ?_
  refine g_icmp_ge C 65 dX2_longest_25 rfl (fun q => ?_) (fun q => ?_)
  · replace h := ip q h
    refine g_iload_n C dX2_longest_65 2 rfl ?_
    cases h
    exact g_ireturn C rfl dX2_longest_66
  · replace h := iq q h
    refine g_aload_n C dX2_longest_28 0 rfl ?_
    refine g_iload_n C dX2_longest_29 2 rfl ?_
    refine g_aload_n C dX2_longest_30 0 rfl ?_
    refine g_wt (fun hT_μ => ?_)
    refine g_getr (j := 1) C s_a0 (by decide) rfl uwX2 (by decide) rfl lfX2_18 rfl dX2_longest_31 ?_
    refine g_aload_n C dX2_longest_34 0 rfl ?_
    refine g_geti (j := 9) C s_a0 (by decide) rfl uwX2 (by decide) rfl lfX2_44 rfl dX2_longest_35 ?_
    obtain ⟨hg1, h⟩ := gs h
    refine g_iald C (hT_μ.1 _ _ 1 _ s_a0 rfl) (ib_in hg1) dX2_longest_38 ?_
    obtain ⟨x2, e_x2, h⟩ := bs h
    refine g_callVI C (kX2_childOf s_a0 e_x2) miX2_childOf lmX2_77 s_a0 (by decide) rfl rfl rfl (Nat.le_of_ble_eq_true rfl) dX2_longest_39 ⟨by decide, by decide⟩ ⟨Nat.zero_le _, Nat.zero_le _⟩ ?_
    refine g_istore_n (lv' := [(3, .int x2), (0, .ref a0), (1, .int v1), (2, .int v2)]) C dX2_longest_42 (by decide) rfl ?_
    refine g_iload_n C dX2_longest_43 0 rfl ?_
    refine g_iconst (v := -1) C dX2_longest_44 (by decide) ?_
    refine g_icmp_ne C 50 dX2_longest_45 rfl (fun q => ?_) (fun q => ?_)
    · replace h := iq q h
      refine g_iload_n C dX2_longest_50 0 rfl ?_
      refine g_istore_n (lv' := [(2, .int x2), (3, .int x2), (0, .ref a0), (1, .int v1)]) C dX2_longest_51 (by decide) rfl ?_
      refine g_aload_n C dX2_longest_52 2 rfl ?_
      refine g_dup C dX2_longest_53 rfl ?_
      refine g_geti (j := 9) C s_a0 (by decide) rfl uwX2 (by decide) rfl lfX2_44 rfl dX2_longest_54 ?_
      refine g_iconst (v := 1) C dX2_longest_57 (by decide) ?_
      refine g_iadd C dX2_longest_58 ?_
      refine g_puti (j := 9) C s_a0 (by decide) rfl uwX2 tyX2_ok nmX2 (by decide) rfl lfX2_44 rfl rfl rfl (fun _ _ => rfl) (fun _ _ => Nat.le_of_ble_eq_true rfl) dX2_longest_59 ?_
      obtain ⟨μ3, e_μ3, h⟩ := nm h
      refine g_mu e_μ3 ?_
      refine g_goto C 20 dX2_longest_62 rfl ?_
      exact g_lv [2, 3, 0] rfl (hrec20 _ _ _ _ s_a0 h)
    · replace h := ip q h
      refine g_iload_n C dX2_longest_48 3 rfl ?_
      cases h
      exact g_ireturn C rfl dX2_longest_49
theorem wX2_longest_L20 {p : Program} {l : Launch} {e : Env} {s : State} {m : MethodId} {args : Array Value} {below : List Frame} {meth : Method} {c : Code} {D : va_G} {cA : Nat → ClassId} {tS : Nat → Nat} {σ : Sg} {fu : Nat} {q : Int32 × Mm} (C : Cx p s m args meth c (dm σ) D cA tS σ cX2_longest (some .int) 4 RX2) : ∀ (n : Nat) (a0 : Nat) (v1 : Int32) (v2 : Int32) (μ : Mm), (σ a0 = some (2, 0)) → fX2_longest_L20 fu n a0 v1 v2 μ = some q → GG p l e (rmO 1 24) s m args below meth c 0 0 (dm σ) D cA σ 4 (MQ below (QI D cA σ q.1 q.2) args s 0 0 (dm σ)) 20 [(0, .ref a0), (1, .int v1), (2, .int v2)] [] μ := by
  intro n
  induction n with
  | zero => intro a0 v1 v2 μ s_a0 h; cases h
  | succ n ih => intro a0 v1 v2 μ s_a0 h; exact wX2_longest_B20 C (fun _ _ _ _ k0 h => ih _ _ _ _ k0 h) _ _ _ _ s_a0 h
set_option maxRecDepth 100000 in
set_option maxHeartbeats 4000000 in
theorem wX2_longest {p : Program} {l : Launch} {e : Env} {s : State} {m : MethodId} {args : Array Value} {below : List Frame} {meth : Method} {c : Code} {D : va_G} {cA : Nat → ClassId} {tS : Nat → Nat} {σ : Sg} {fu : Nat} {q : Int32 × Mm} (C : Cx p s m args meth c (dm σ) D cA tS σ cX2_longest (some .int) 4 RX2) (a0 : Nat) (v1 : Int32) (μ : Mm) (s_a0 : σ a0 = some (2, 0)) (h : fX2_longest fu a0 v1 μ = some q) : GG p l e (rmO 1 24) s m args below meth c 0 0 (dm σ) D cA σ 4 (MQ below (QI D cA σ q.1 q.2) args s 0 0 (dm σ)) 0 [(0, .ref a0), (1, .int v1)] [] μ := by
  unfold fX2_longest at h
  refine g_aload_n C dX2_longest_0 0 rfl ?_
  refine g_wt (fun hT_μ => ?_)
  refine g_getr (j := 1) C s_a0 (by decide) rfl uwX2 (by decide) rfl lfX2_18 rfl dX2_longest_1 ?_
  refine g_aload_n C dX2_longest_4 0 rfl ?_
  refine g_geti (j := 9) C s_a0 (by decide) rfl uwX2 (by decide) rfl lfX2_44 rfl dX2_longest_5 ?_
  obtain ⟨hg1, h⟩ := gs h
  refine g_iald C (hT_μ.1 _ _ 1 _ s_a0 rfl) (ib_in hg1) dX2_longest_8 ?_
  obtain ⟨x2, e_x2, h⟩ := nm h
  refine g_topi e_x2 ?_
  refine g_istore_n (lv' := [(2, .int x2), (0, .ref a0), (1, .int v1)]) C dX2_longest_9 (by decide) rfl ?_
  refine g_aload_n C dX2_longest_10 1 rfl ?_
  refine g_dup C dX2_longest_11 rfl ?_
  refine g_geti (j := 9) C s_a0 (by decide) rfl uwX2 (by decide) rfl lfX2_44 rfl dX2_longest_12 ?_
  refine g_iconst (v := 1) C dX2_longest_15 (by decide) ?_
  refine g_iadd C dX2_longest_16 ?_
  refine g_puti (j := 9) C s_a0 (by decide) rfl uwX2 tyX2_ok nmX2 (by decide) rfl lfX2_44 rfl rfl rfl (fun _ _ => rfl) (fun _ _ => Nat.le_of_ble_eq_true rfl) dX2_longest_17 ?_
  obtain ⟨μ3, e_μ3, h⟩ := nm h
  refine g_mu e_μ3 ?_
  exact g_lv [1, 2, 0] rfl (wX2_longest_L20 C fu _ _ _ _ s_a0 h)
theorem miX2_longest : MI yX2_longest cX2_longest 4 (some .int) RX2 1 := ⟨wcX2_longest, wmX2_longest, wsX2_longest, wiX2, by decide +kernel⟩
theorem kX2_longest {l : Launch} {D : va_G} {cA : Nat → ClassId} {tS : Nat → Nat} {σ : Sg} {a0 : Nat} {v1 : Int32} {μ : Mm} {fu : Nat} {q : Int32 × Mm} (s_a0 : σ a0 = some (2, 0)) (h : fX2_longest fu a0 v1 μ = some q) : Ct l D cA tS σ yX2_longest cX2_longest 4 (some .int) (rmO 1 24) [.ref a0, .int v1] μ (QI D cA σ q.1 q.2) :=
  Ct.of (by decide) (Nat.le_of_ble_eq_true rfl) (fun _ _ _ _ _ _ _ _ C => wX2_longest C _ _ _ s_a0 h)
set_option maxRecDepth 100000 in
set_option maxHeartbeats 4000000 in
theorem wX2_tell {p : Program} {l : Launch} {e : Env} {s : State} {m : MethodId} {args : Array Value} {below : List Frame} {meth : Method} {c : Code} {D : va_G} {cA : Nat → ClassId} {tS : Nat → Nat} {σ : Sg} {q : Mm} (C : Cx p s m args meth c (dm σ) D cA tS σ cX2_tell none 2 RX2) (a0 : Nat) (v1 : Int32) (μ : Mm) (s_a0 : σ a0 = some (2, 0)) (h : fX2_tell a0 v1 μ = some q) : GG p l e (rmO 0 0) s m args below meth c 0 0 (dm σ) D cA σ 2 (MQ below (QV D cA σ q) args s 0 0 (dm σ)) 0 [(0, .ref a0), (1, .int v1)] [] μ := by
  unfold fX2_tell at h
  refine g_aload_n C dX2_tell_0 0 rfl ?_
  refine g_wt (fun hT_μ => ?_)
  refine g_getr (j := 4) C s_a0 (by decide) rfl uwX2 (by decide) rfl lfX2_28 rfl dX2_tell_1 ?_
  refine g_aload_n C dX2_tell_4 0 rfl ?_
  refine g_geti (j := 7) C s_a0 (by decide) rfl uwX2 (by decide) rfl lfX2_51 rfl dX2_tell_5 ?_
  refine g_iload_n C dX2_tell_8 1 rfl ?_
  obtain ⟨hg, h⟩ := gs h
  refine g_iast C (hT_μ.1 _ _ 4 _ s_a0 rfl) (ib_in hg) dX2_tell_9 ?_
  obtain ⟨μ1, e_μ1, h⟩ := nm h
  refine g_mu e_μ1 ?_
  refine g_aload_n C dX2_tell_10 0 rfl ?_
  refine g_wt (fun hT_μ1 => ?_)
  refine g_getr (j := 2) C s_a0 (by decide) rfl uwX2 (by decide) rfl lfX2_22 rfl dX2_tell_11 ?_
  refine g_aload_n C dX2_tell_14 0 rfl ?_
  refine g_geti (j := 7) C s_a0 (by decide) rfl uwX2 (by decide) rfl lfX2_51 rfl dX2_tell_15 ?_
  refine g_iconst (v := -1) C dX2_tell_18 (by decide) ?_
  obtain ⟨hg, h⟩ := gs h
  refine g_iast C (hT_μ1.1 _ _ 2 _ s_a0 rfl) (ib_in hg) dX2_tell_19 ?_
  obtain ⟨μ2, e_μ2, h⟩ := nm h
  refine g_mu e_μ2 ?_
  refine g_aload_n C dX2_tell_20 0 rfl ?_
  refine g_wt (fun hT_μ2 => ?_)
  refine g_getr (j := 3) C s_a0 (by decide) rfl uwX2 (by decide) rfl lfX2_25 rfl dX2_tell_21 ?_
  refine g_aload_n C dX2_tell_24 0 rfl ?_
  refine g_geti (j := 7) C s_a0 (by decide) rfl uwX2 (by decide) rfl lfX2_51 rfl dX2_tell_25 ?_
  refine g_aload_n C dX2_tell_28 0 rfl ?_
  refine g_getr (j := 2) C s_a0 (by decide) rfl uwX2 (by decide) rfl lfX2_22 rfl dX2_tell_29 ?_
  refine g_aload_n C dX2_tell_32 0 rfl ?_
  refine g_geti (j := 8) C s_a0 (by decide) rfl uwX2 (by decide) rfl lfX2_67 rfl dX2_tell_33 ?_
  obtain ⟨hg3, h⟩ := gs h
  refine g_iald C (hT_μ2.1 _ _ 2 _ s_a0 rfl) (ib_in hg3) dX2_tell_36 ?_
  obtain ⟨hg, h⟩ := gs h
  refine g_iast C (hT_μ2.1 _ _ 3 _ s_a0 rfl) (ib_in hg) dX2_tell_37 ?_
  obtain ⟨μ4, e_μ4, h⟩ := nm h
  refine g_mu e_μ4 ?_
  refine g_aload_n C dX2_tell_38 0 rfl ?_
  refine g_wt (fun hT_μ4 => ?_)
  refine g_getr (j := 2) C s_a0 (by decide) rfl uwX2 (by decide) rfl lfX2_22 rfl dX2_tell_39 ?_
  refine g_aload_n C dX2_tell_42 0 rfl ?_
  refine g_geti (j := 8) C s_a0 (by decide) rfl uwX2 (by decide) rfl lfX2_67 rfl dX2_tell_43 ?_
  refine g_aload_n C dX2_tell_46 0 rfl ?_
  refine g_geti (j := 7) C s_a0 (by decide) rfl uwX2 (by decide) rfl lfX2_51 rfl dX2_tell_47 ?_
  obtain ⟨hg, h⟩ := gs h
  refine g_iast C (hT_μ4.1 _ _ 2 _ s_a0 rfl) (ib_in hg) dX2_tell_50 ?_
  obtain ⟨μ5, e_μ5, h⟩ := nm h
  refine g_mu e_μ5 ?_
  cases h
  exact g_return C dX2_tell_51
theorem miX2_tell : MI yX2_tell cX2_tell 2 none RX2 1 := ⟨wcX2_tell, wmX2_tell, wsX2_tell, wiX2, by decide +kernel⟩
theorem kX2_tell {l : Launch} {D : va_G} {cA : Nat → ClassId} {tS : Nat → Nat} {σ : Sg} {a0 : Nat} {v1 : Int32} {μ : Mm} {q : Mm} (s_a0 : σ a0 = some (2, 0)) (h : fX2_tell a0 v1 μ = some q) : Ct l D cA tS σ yX2_tell cX2_tell 2 none (rmO 0 0) [.ref a0, .int v1] μ (QV D cA σ q) :=
  Ct.of (by decide) (Nat.le_of_ble_eq_true rfl) (fun _ _ _ _ _ _ _ _ C => wX2_tell C _ _ _ s_a0 h)
set_option maxRecDepth 100000 in
set_option maxHeartbeats 4000000 in
theorem wX2_putLongest_L31 {p : Program} {l : Launch} {e : Env} {s : State} {m : MethodId} {args : Array Value} {below : List Frame} {meth : Method} {c : Code} {D : va_G} {cA : Nat → ClassId} {tS : Nat → Nat} {σ : Sg} {fu : Nat} {q : Mm} (C : Cx p s m args meth c (dm σ) D cA tS σ cX2_putLongest none 3 RX2) (a0 : Nat) (v1 : Int32) (v2 : Int32) (μ : Mm) (s_a0 : σ a0 = some (2, 0)) (h : fX2_putLongest_L31 fu a0 v1 v2 μ = some q) : GG p l e (rmO 2 47) s m args below meth c 0 0 (dm σ) D cA σ 3 (MQ below (QV D cA σ q) args s 0 0 (dm σ)) 31 [(0, .ref a0), (1, .int v1), (2, .int v2)] [] μ := by
  unfold fX2_putLongest_L31 at h
  refine g_aload_n C dX2_putLongest_31 0 rfl ?_
  refine g_aload_n C dX2_putLongest_32 0 rfl ?_
  refine g_iload_n C dX2_putLongest_33 1 rfl ?_
  obtain ⟨q1, e_q1, h⟩ := bs h
  refine g_callVI C (kX2_longest s_a0 e_q1) miX2_longest lmX2_73 s_a0 (by decide) rfl rfl rfl (Nat.le_of_ble_eq_true rfl) dX2_putLongest_34 ⟨by decide, by decide⟩ ⟨Nat.zero_le _, Nat.zero_le _⟩ ?_
  refine g_puti (j := 8) C s_a0 (by decide) rfl uwX2 tyX2_ok nmX2 (by decide) rfl lfX2_67 rfl rfl rfl (fun _ _ => rfl) (fun _ _ => Nat.le_of_ble_eq_true rfl) dX2_putLongest_37 ?_
  obtain ⟨μ2, e_μ2, h⟩ := nm h
  refine g_mu e_μ2 ?_
  refine g_aload_n C dX2_putLongest_40 0 rfl ?_
  refine g_aload_n C dX2_putLongest_41 0 rfl ?_
  refine g_geti (j := 8) C s_a0 (by decide) rfl uwX2 (by decide) rfl lfX2_67 rfl dX2_putLongest_42 ?_
  refine g_aload_n C dX2_putLongest_45 0 rfl ?_
  refine g_geti (j := 6) C s_a0 (by decide) rfl uwX2 (by decide) rfl lfX2_54 rfl dX2_putLongest_46 ?_
  obtain ⟨μ3, e_μ3, h⟩ := bs h
  refine g_callVV C (kX2_putCode s_a0 e_μ3) miX2_putCode lmX2_60 s_a0 (by decide) rfl rfl rfl (Nat.le_of_ble_eq_true rfl) dX2_putLongest_49 ⟨by decide, by decide⟩ ⟨Nat.zero_le _, Nat.zero_le _⟩ ?_
  refine g_iload_n C dX2_putLongest_52 2 rfl ?_
  refine g_if_eq C 98 dX2_putLongest_53 rfl (fun q => ?_) (fun q => ?_)
  · replace h := ip q h
    cases h
    exact g_return C dX2_putLongest_98
  · replace h := iq q h
    refine g_aload_n C dX2_putLongest_56 0 rfl ?_
    refine g_dup C dX2_putLongest_57 rfl ?_
    refine g_geti (j := 7) C s_a0 (by decide) rfl uwX2 (by decide) rfl lfX2_51 rfl dX2_putLongest_58 ?_
    refine g_iconst (v := 1) C dX2_putLongest_61 (by decide) ?_
    refine g_iadd C dX2_putLongest_62 ?_
    refine g_puti (j := 7) C s_a0 (by decide) rfl uwX2 tyX2_ok nmX2 (by decide) rfl lfX2_51 rfl rfl rfl (fun _ _ => rfl) (fun _ _ => Nat.le_of_ble_eq_true rfl) dX2_putLongest_63 ?_
    obtain ⟨μ4, e_μ4, h⟩ := nm h
    refine g_mu e_μ4 ?_
    refine g_aload_n C dX2_putLongest_66 0 rfl ?_
    refine g_geti (j := 7) C s_a0 (by decide) rfl uwX2 (by decide) rfl lfX2_51 rfl dX2_putLongest_67 ?_
    refine g_iconst (v := 1) C dX2_putLongest_70 (by decide) ?_
    refine g_aload_n C dX2_putLongest_71 0 rfl ?_
    refine g_geti (j := 6) C s_a0 (by decide) rfl uwX2 (by decide) rfl lfX2_54 rfl dX2_putLongest_72 ?_
    refine g_ishl C dX2_putLongest_75 ?_
    refine g_icmp_ne C 98 dX2_putLongest_76 rfl (fun q => ?_) (fun q => ?_)
    · replace h := iq q h
      cases h
      exact g_return C dX2_putLongest_98
    · replace h := ip q h
      refine g_aload_n C dX2_putLongest_79 0 rfl ?_
      refine g_geti (j := 6) C s_a0 (by decide) rfl uwX2 (by decide) rfl lfX2_54 rfl dX2_putLongest_80 ?_
      refine g_bipush (v := 12) C dX2_putLongest_83 (by decide) ?_
      refine g_icmp_ge C 98 dX2_putLongest_85 rfl (fun q => ?_) (fun q => ?_)
      · replace h := ip q h
        cases h
        exact g_return C dX2_putLongest_98
      · replace h := iq q h
        refine g_aload_n C dX2_putLongest_88 0 rfl ?_
        refine g_dup C dX2_putLongest_89 rfl ?_
        refine g_geti (j := 6) C s_a0 (by decide) rfl uwX2 (by decide) rfl lfX2_54 rfl dX2_putLongest_90 ?_
        refine g_iconst (v := 1) C dX2_putLongest_93 (by decide) ?_
        refine g_iadd C dX2_putLongest_94 ?_
        refine g_puti (j := 6) C s_a0 (by decide) rfl uwX2 tyX2_ok nmX2 (by decide) rfl lfX2_54 rfl rfl rfl (fun _ _ => rfl) (fun _ _ => Nat.le_of_ble_eq_true rfl) dX2_putLongest_95 ?_
        obtain ⟨μ5, e_μ5, h⟩ := nm h
        refine g_mu e_μ5 ?_
        cases h
        exact g_return C dX2_putLongest_98
set_option maxRecDepth 100000 in
set_option maxHeartbeats 4000000 in
theorem wX2_putLongest_L13 {p : Program} {l : Launch} {e : Env} {s : State} {m : MethodId} {args : Array Value} {below : List Frame} {meth : Method} {c : Code} {D : va_G} {cA : Nat → ClassId} {tS : Nat → Nat} {σ : Sg} {fu : Nat} {q : Mm} (C : Cx p s m args meth c (dm σ) D cA tS σ cX2_putLongest none 3 RX2) (a0 : Nat) (v1 : Int32) (t0 : Int32) (μ : Mm) (s_a0 : σ a0 = some (2, 0)) (h : fX2_putLongest_L13 fu a0 v1 t0 μ = some q) : GG p l e (rmO 2 47) s m args below meth c 0 0 (dm σ) D cA σ 3 (MQ below (QV D cA σ q) args s 0 0 (dm σ)) 13 [(0, .ref a0), (1, .int v1)] [.int t0] μ := by
  unfold fX2_putLongest_L13 at h
  refine g_istore_n (lv' := [(2, .int t0), (0, .ref a0), (1, .int v1)]) C dX2_putLongest_13 (by decide) rfl ?_
  refine g_iload_n C dX2_putLongest_14 0 rfl ?_
  refine g_if_eq C 31 dX2_putLongest_15 rfl (fun q => ?_) (fun q => ?_)
  · replace h := ip q h
    exact g_lv [1, 2, 0] rfl (wX2_putLongest_L31 C _ _ _ _ s_a0 h)
  · replace h := iq q h
    refine g_aload_n C dX2_putLongest_18 1 rfl ?_
    refine g_aload_n C dX2_putLongest_19 1 rfl ?_
    refine g_wt (fun hT_μ => ?_)
    refine g_getr (j := 1) C s_a0 (by decide) rfl uwX2 (by decide) rfl lfX2_18 rfl dX2_putLongest_20 ?_
    refine g_aload_n C dX2_putLongest_23 1 rfl ?_
    refine g_geti (j := 9) C s_a0 (by decide) rfl uwX2 (by decide) rfl lfX2_44 rfl dX2_putLongest_24 ?_
    obtain ⟨hg1, h⟩ := gs h
    refine g_iald C (hT_μ.1 _ _ 1 _ s_a0 rfl) (ib_in hg1) dX2_putLongest_27 ?_
    obtain ⟨μ2, e_μ2, h⟩ := bs h
    refine g_callVV C (kX2_tell s_a0 e_μ2) miX2_tell lmX2_70 s_a0 (by decide) rfl rfl rfl (Nat.le_of_ble_eq_true rfl) dX2_putLongest_28 ⟨by decide, by decide⟩ ⟨Nat.zero_le _, Nat.zero_le _⟩ ?_
    exact g_lv [1, 2, 0] rfl (wX2_putLongest_L31 C _ _ _ _ s_a0 h)
set_option maxRecDepth 100000 in
set_option maxHeartbeats 4000000 in
theorem wX2_putLongest {p : Program} {l : Launch} {e : Env} {s : State} {m : MethodId} {args : Array Value} {below : List Frame} {meth : Method} {c : Code} {D : va_G} {cA : Nat → ClassId} {tS : Nat → Nat} {σ : Sg} {fu : Nat} {q : Mm} (C : Cx p s m args meth c (dm σ) D cA tS σ cX2_putLongest none 3 RX2) (a0 : Nat) (v1 : Int32) (μ : Mm) (s_a0 : σ a0 = some (2, 0)) (h : fX2_putLongest fu a0 v1 μ = some q) : GG p l e (rmO 2 47) s m args below meth c 0 0 (dm σ) D cA σ 3 (MQ below (QV D cA σ q) args s 0 0 (dm σ)) 0 [(0, .ref a0), (1, .int v1)] [] μ := by
  unfold fX2_putLongest at h
  refine g_aload_n C dX2_putLongest_0 0 rfl ?_
  refine g_geti (j := 8) C s_a0 (by decide) rfl uwX2 (by decide) rfl lfX2_67 rfl dX2_putLongest_1 ?_
  refine g_iconst (v := -1) C dX2_putLongest_4 (by decide) ?_
  refine g_icmp_eq C 12 dX2_putLongest_5 rfl (fun q => ?_) (fun q => ?_)
  · replace h := ip q h
    refine g_iconst (v := 0) C dX2_putLongest_12 (by decide) ?_
    exact g_lv [0, 1] rfl (wX2_putLongest_L13 C _ _ _ _ s_a0 h)
  · replace h := iq q h
    refine g_iconst (v := 1) C dX2_putLongest_8 (by decide) ?_
    refine g_goto C 13 dX2_putLongest_9 rfl ?_
    exact g_lv [0, 1] rfl (wX2_putLongest_L13 C _ _ _ _ s_a0 h)
theorem miX2_putLongest : MI yX2_putLongest cX2_putLongest 3 none RX2 1 := ⟨wcX2_putLongest, wmX2_putLongest, wsX2_putLongest, wiX2, by decide +kernel⟩
theorem kX2_putLongest {l : Launch} {D : va_G} {cA : Nat → ClassId} {tS : Nat → Nat} {σ : Sg} {a0 : Nat} {v1 : Int32} {μ : Mm} {fu : Nat} {q : Mm} (s_a0 : σ a0 = some (2, 0)) (h : fX2_putLongest fu a0 v1 μ = some q) : Ct l D cA tS σ yX2_putLongest cX2_putLongest 3 none (rmO 2 47) [.ref a0, .int v1] μ (QV D cA σ q) :=
  Ct.of (by decide) (Nat.le_of_ble_eq_true rfl) (fun _ _ _ _ _ _ _ _ C => wX2_putLongest C _ _ _ s_a0 h)
set_option maxRecDepth 100000 in
set_option maxHeartbeats 4000000 in
theorem wX2_encode_L81 {p : Program} {l : Launch} {e : Env} {s : State} {m : MethodId} {args : Array Value} {below : List Frame} {meth : Method} {c : Code} {D : va_G} {cA : Nat → ClassId} {tS : Nat → Nat} {σ : Sg} {fu : Nat} {q : Mm} (C : Cx p s m args meth c (dm σ) D cA tS σ cX2_encode none 4 RX2) (a0 : Nat) (μ : Mm) (s_a0 : σ a0 = some (2, 0)) (h : fX2_encode_L81 fu a0 μ = some q) : GG p l e (rmO 3 69) s m args below meth c 0 0 (dm σ) D cA σ 4 (MQ below (QV D cA σ q) args s 0 0 (dm σ)) 81 [(0, .ref a0)] [] μ := by
  unfold fX2_encode_L81 at h
  refine g_aload_n C dX2_encode_81 0 rfl ?_
  refine g_iconst (v := 1) C dX2_encode_82 (by decide) ?_
  refine g_aload_n C dX2_encode_83 0 rfl ?_
  refine g_geti (j := 5) C s_a0 (by decide) rfl uwX2 (by decide) rfl lfX2_31 rfl dX2_encode_84 ?_
  refine g_ishl C dX2_encode_87 ?_
  refine g_iconst (v := 1) C dX2_encode_88 (by decide) ?_
  refine g_iadd C dX2_encode_89 ?_
  refine g_aload_n C dX2_encode_90 0 rfl ?_
  refine g_geti (j := 6) C s_a0 (by decide) rfl uwX2 (by decide) rfl lfX2_54 rfl dX2_encode_91 ?_
  obtain ⟨μ1, e_μ1, h⟩ := bs h
  refine g_callVV C (kX2_putCode s_a0 e_μ1) miX2_putCode lmX2_60 s_a0 (by decide) rfl rfl rfl (Nat.le_of_ble_eq_true rfl) dX2_encode_94 ⟨by decide, by decide⟩ ⟨Nat.zero_le _, Nat.zero_le _⟩ ?_
  refine g_aload_n C dX2_encode_97 0 rfl ?_
  refine g_geti (j := 11) C s_a0 (by decide) rfl uwX2 (by decide) rfl lfX2_41 rfl dX2_encode_98 ?_
  refine g_if_le C 115 dX2_encode_101 rfl (fun q => ?_) (fun q => ?_)
  · replace h := ip q h
    cases h
    exact g_return C dX2_encode_115
  · replace h := iq q h
    refine g_aload_n C dX2_encode_104 0 rfl ?_
    refine g_wt (fun hT_μ1 => ?_)
    refine g_getr (j := 0) C s_a0 (by decide) rfl uwX2 (by decide) rfl lfX2_12 rfl dX2_encode_105 ?_
    refine g_aload_n C dX2_encode_108 0 rfl ?_
    refine g_geti (j := 10) C s_a0 (by decide) rfl uwX2 (by decide) rfl lfX2_38 rfl dX2_encode_109 ?_
    obtain ⟨μ2, e_μ2, h⟩ := bs h
    refine g_callVV C (kX0_add (hT_μ1.1 _ _ 0 _ s_a0 rfl) e_μ2) miX0_add lmX2_64 (hT_μ1.1 _ _ 0 _ s_a0 rfl) (by decide) rfl rfl rfl (Nat.le_of_ble_eq_true rfl) dX2_encode_112 ⟨by decide, by decide⟩ ⟨Nat.zero_le _, Nat.zero_le _⟩ ?_
    cases h
    exact g_return C dX2_encode_115
set_option maxRecDepth 100000 in
set_option maxHeartbeats 4000000 in
theorem wX2_encode_L70 {p : Program} {l : Launch} {e : Env} {s : State} {m : MethodId} {args : Array Value} {below : List Frame} {meth : Method} {c : Code} {D : va_G} {cA : Nat → ClassId} {tS : Nat → Nat} {σ : Sg} {rec39 : Nat → Int32 → Int32 → Mm → Option (Mm)} {fu : Nat} {q : Mm} (C : Cx p s m args meth c (dm σ) D cA tS σ cX2_encode none 4 RX2) (hrec39 : ∀ (y0 : Nat) (y1 : Int32) (y3 : Int32) (μ : Mm), σ y0 = some (2, 0) → rec39 y0 y1 y3 μ = some q → GG p l e (rmO 3 69) s m args below meth c 0 0 (dm σ) D cA σ 4 (MQ below (QV D cA σ q) args s 0 0 (dm σ)) 39 [(0, .ref y0), (1, .int y1), (3, .int y3)] [] μ) (a0 : Nat) (v1 : Int32) (v3 : Int32) (μ : Mm) (s_a0 : σ a0 = some (2, 0)) (h : fX2_encode_L70 rec39 fu a0 v1 v3 μ = some q) : GG p l e (rmO 3 69) s m args below meth c 0 0 (dm σ) D cA σ 4 (MQ below (QV D cA σ q) args s 0 0 (dm σ)) 70 [(0, .ref a0), (1, .int v1), (3, .int v3)] [] μ := by
  unfold fX2_encode_L70 at h
  refine g_aload_n C dX2_encode_70 0 rfl ?_
  refine g_iload_n C dX2_encode_71 1 rfl ?_
  obtain ⟨μ1, e_μ1, h⟩ := bs h
  refine g_callVV C (kX2_putLongest s_a0 e_μ1) miX2_putLongest lmX2_57 s_a0 (by decide) rfl rfl rfl (Nat.le_of_ble_eq_true rfl) dX2_encode_72 ⟨by decide, by decide⟩ ⟨Nat.zero_le _, Nat.zero_le _⟩ ?_
  obtain ⟨x2, e_x2, h⟩ := nm h
  refine g_iinc (v := x2) (lv' := [(3, .int x2), (0, .ref a0), (1, .int v1)]) C dX2_encode_75 (by decide) 2 rfl 1 (by decide) e_x2.symm rfl ?_
  refine g_goto C 39 dX2_encode_78 rfl ?_
  exact g_lv [1, 2, 0] rfl (hrec39 _ _ _ _ s_a0 h)
set_option maxRecDepth 100000 in
set_option maxHeartbeats 4000000 in
theorem wX2_encode_B39 {p : Program} {l : Launch} {e : Env} {s : State} {m : MethodId} {args : Array Value} {below : List Frame} {meth : Method} {c : Code} {D : va_G} {cA : Nat → ClassId} {tS : Nat → Nat} {σ : Sg} {rec39 : Nat → Int32 → Int32 → Mm → Option (Mm)} {fu : Nat} {q : Mm} (C : Cx p s m args meth c (dm σ) D cA tS σ cX2_encode none 4 RX2) (hrec39 : ∀ (y0 : Nat) (y1 : Int32) (y3 : Int32) (μ : Mm), σ y0 = some (2, 0) → rec39 y0 y1 y3 μ = some q → GG p l e (rmO 3 69) s m args below meth c 0 0 (dm σ) D cA σ 4 (MQ below (QV D cA σ q) args s 0 0 (dm σ)) 39 [(0, .ref y0), (1, .int y1), (3, .int y3)] [] μ) (a0 : Nat) (v1 : Int32) (v3 : Int32) (μ : Mm) (s_a0 : σ a0 = some (2, 0)) (h : fX2_encode_B39 rec39 fu a0 v1 v3 μ = some q) : GG p l e (rmO 3 69) s m args below meth c 0 0 (dm σ) D cA σ 4 (MQ below (QV D cA σ q) args s 0 0 (dm σ)) 39 [(0, .ref a0), (1, .int v1), (3, .int v3)] [] μ := by
  unfold fX2_encode_B39 at h
  refine g_iload_n C dX2_encode_39 2 rfl ?_
  refine g_iload_n C dX2_encode_40 1 rfl ?_
  refine g_icmp_ge C 81 dX2_encode_41 rfl (fun q => ?_) (fun q => ?_)
  · replace h := ip q h
    exact g_lv [0] rfl (wX2_encode_L81 C _ _ s_a0 h)
  · replace h := iq q h
    refine g_aload_n C dX2_encode_44 0 rfl ?_
    refine g_geti (j := 9) C s_a0 (by decide) rfl uwX2 (by decide) rfl lfX2_44 rfl dX2_encode_45 ?_
    refine g_iload_n C dX2_encode_48 1 rfl ?_
    refine g_icmp_ge C 81 dX2_encode_49 rfl (fun q => ?_) (fun q => ?_)
    · replace h := ip q h
      exact g_lv [0] rfl (wX2_encode_L81 C _ _ s_a0 h)
    · replace h := iq q h
      refine g_aload_n C dX2_encode_52 0 rfl ?_
      refine g_geti (j := 7) C s_a0 (by decide) rfl uwX2 (by decide) rfl lfX2_51 rfl dX2_encode_53 ?_
      refine g_sipush (v := 4096) C dX2_encode_56 (by decide) ?_
      refine g_icmp_ne C 70 dX2_encode_59 rfl (fun q => ?_) (fun q => ?_)
      · replace h := iq q h
        exact g_lv [0, 1, 2] rfl (wX2_encode_L70 C hrec39 _ _ _ _ s_a0 h)
      · replace h := ip q h
        refine g_aload_n C dX2_encode_62 0 rfl ?_
        refine g_aload_n C dX2_encode_63 0 rfl ?_
        refine g_geti (j := 6) C s_a0 (by decide) rfl uwX2 (by decide) rfl lfX2_54 rfl dX2_encode_64 ?_
        obtain ⟨μ1, e_μ1, h⟩ := bs h
        refine g_callVV C (kX2_putClear s_a0 e_μ1) miX2_putClear lmX2_47 s_a0 (by decide) rfl rfl rfl (Nat.le_of_ble_eq_true rfl) dX2_encode_67 ⟨by decide, by decide⟩ ⟨Nat.zero_le _, Nat.zero_le _⟩ ?_
        exact g_lv [0, 1, 2] rfl (wX2_encode_L70 C hrec39 _ _ _ _ s_a0 h)
theorem wX2_encode_L39 {p : Program} {l : Launch} {e : Env} {s : State} {m : MethodId} {args : Array Value} {below : List Frame} {meth : Method} {c : Code} {D : va_G} {cA : Nat → ClassId} {tS : Nat → Nat} {σ : Sg} {fu : Nat} {q : Mm} (C : Cx p s m args meth c (dm σ) D cA tS σ cX2_encode none 4 RX2) : ∀ (n : Nat) (a0 : Nat) (v1 : Int32) (v3 : Int32) (μ : Mm), (σ a0 = some (2, 0)) → fX2_encode_L39 fu n a0 v1 v3 μ = some q → GG p l e (rmO 3 69) s m args below meth c 0 0 (dm σ) D cA σ 4 (MQ below (QV D cA σ q) args s 0 0 (dm σ)) 39 [(0, .ref a0), (1, .int v1), (3, .int v3)] [] μ := by
  intro n
  induction n with
  | zero => intro a0 v1 v3 μ s_a0 h; cases h
  | succ n ih => intro a0 v1 v3 μ s_a0 h; exact wX2_encode_B39 C (fun _ _ _ _ k0 h => ih _ _ _ _ k0 h) _ _ _ _ s_a0 h
set_option maxRecDepth 100000 in
set_option maxHeartbeats 4000000 in
theorem wX2_encode {p : Program} {l : Launch} {e : Env} {s : State} {m : MethodId} {args : Array Value} {below : List Frame} {meth : Method} {c : Code} {D : va_G} {cA : Nat → ClassId} {tS : Nat → Nat} {σ : Sg} {fu : Nat} {q : Mm} (C : Cx p s m args meth c (dm σ) D cA tS σ cX2_encode none 4 RX2) (a0 : Nat) (v1 : Int32) (v2 : Int32) (μ : Mm) (s_a0 : σ a0 = some (2, 0)) (h : fX2_encode fu a0 v1 v2 μ = some q) : GG p l e (rmO 3 69) s m args below meth c 0 0 (dm σ) D cA σ 4 (MQ below (QV D cA σ q) args s 0 0 (dm σ)) 0 [(0, .ref a0), (1, .int v1), (2, .int v2)] [] μ := by
  unfold fX2_encode at h
  refine g_aload_n C dX2_encode_0 0 rfl ?_
  refine g_iload_n C dX2_encode_1 2 rfl ?_
  refine g_puti (j := 5) C s_a0 (by decide) rfl uwX2 tyX2_ok nmX2 (by decide) rfl lfX2_31 rfl rfl rfl (fun _ _ => rfl) (fun _ _ => Nat.le_of_ble_eq_true rfl) dX2_encode_2 ?_
  obtain ⟨μ1, e_μ1, h⟩ := nm h
  refine g_mu e_μ1 ?_
  refine g_aload_n C dX2_encode_5 0 rfl ?_
  refine g_wt (fun hT_μ1 => ?_)
  refine g_getr (j := 0) C s_a0 (by decide) rfl uwX2 (by decide) rfl lfX2_12 rfl dX2_encode_6 ?_
  obtain ⟨μ2, e_μ2, h⟩ := nm h
  refine g_callVV C (kX0_clear (hT_μ1.1 _ _ 0 _ s_a0 rfl) e_μ2.symm) miX0_clear lmX2_35 (hT_μ1.1 _ _ 0 _ s_a0 rfl) (by decide) rfl rfl rfl (Nat.le_of_ble_eq_true rfl) dX2_encode_9 ⟨by decide, by decide⟩ ⟨Nat.zero_le _, Nat.zero_le _⟩ ?_
  refine g_aload_n C dX2_encode_12 0 rfl ?_
  refine g_iconst (v := 0) C dX2_encode_13 (by decide) ?_
  refine g_puti (j := 10) C s_a0 (by decide) rfl uwX2 tyX2_ok nmX2 (by decide) rfl lfX2_38 rfl rfl rfl (fun _ _ => rfl) (fun _ _ => Nat.le_of_ble_eq_true rfl) dX2_encode_14 ?_
  obtain ⟨μ3, e_μ3, h⟩ := nm h
  refine g_mu e_μ3 ?_
  refine g_aload_n C dX2_encode_17 0 rfl ?_
  refine g_iconst (v := 0) C dX2_encode_18 (by decide) ?_
  refine g_puti (j := 11) C s_a0 (by decide) rfl uwX2 tyX2_ok nmX2 (by decide) rfl lfX2_41 rfl rfl rfl (fun _ _ => rfl) (fun _ _ => Nat.le_of_ble_eq_true rfl) dX2_encode_19 ?_
  obtain ⟨μ4, e_μ4, h⟩ := nm h
  refine g_mu e_μ4 ?_
  refine g_aload_n C dX2_encode_22 0 rfl ?_
  refine g_iconst (v := 0) C dX2_encode_23 (by decide) ?_
  refine g_puti (j := 9) C s_a0 (by decide) rfl uwX2 tyX2_ok nmX2 (by decide) rfl lfX2_44 rfl rfl rfl (fun _ _ => rfl) (fun _ _ => Nat.le_of_ble_eq_true rfl) dX2_encode_24 ?_
  obtain ⟨μ5, e_μ5, h⟩ := nm h
  refine g_mu e_μ5 ?_
  refine g_aload_n C dX2_encode_27 0 rfl ?_
  refine g_aload_n C dX2_encode_28 0 rfl ?_
  refine g_geti (j := 5) C s_a0 (by decide) rfl uwX2 (by decide) rfl lfX2_31 rfl dX2_encode_29 ?_
  refine g_iconst (v := 1) C dX2_encode_32 (by decide) ?_
  refine g_iadd C dX2_encode_33 ?_
  obtain ⟨μ6, e_μ6, h⟩ := bs h
  refine g_callVV C (kX2_putClear s_a0 e_μ6) miX2_putClear lmX2_47 s_a0 (by decide) rfl rfl rfl (Nat.le_of_ble_eq_true rfl) dX2_encode_34 ⟨by decide, by decide⟩ ⟨Nat.zero_le _, Nat.zero_le _⟩ ?_
  refine g_iconst (v := 0) C dX2_encode_37 (by decide) ?_
  refine g_istore_n (lv' := [(3, .int 0), (0, .ref a0), (1, .int v1), (2, .int v2)]) C dX2_encode_38 (by decide) rfl ?_
  exact g_lv [1, 2, 0] rfl (wX2_encode_L39 C fu _ _ _ _ s_a0 h)
theorem miX2_encode : MI yX2_encode cX2_encode 4 none RX2 2 := ⟨wcX2_encode, wmX2_encode, wsX2_encode, wiX2, by decide +kernel⟩
theorem kX2_encode {l : Launch} {D : va_G} {cA : Nat → ClassId} {tS : Nat → Nat} {σ : Sg} {a0 : Nat} {v1 : Int32} {v2 : Int32} {μ : Mm} {fu : Nat} {q : Mm} (s_a0 : σ a0 = some (2, 0)) (h : fX2_encode fu a0 v1 v2 μ = some q) : Ct l D cA tS σ yX2_encode cX2_encode 4 none (rmO 3 69) [.ref a0, .int v1, .int v2] μ (QV D cA σ q) :=
  Ct.of (by decide) (Nat.le_of_ble_eq_true rfl) (fun _ _ _ _ _ _ _ _ C => wX2_encode C _ _ _ _ s_a0 h)
set_option maxRecDepth 100000 in
set_option maxHeartbeats 4000000 in
theorem wX3_fill_B3 {p : Program} {l : Launch} {e : Env} {s : State} {m : MethodId} {args : Array Value} {below : List Frame} {meth : Method} {c : Code} {D : va_G} {cA : Nat → ClassId} {tS : Nat → Nat} {σ : Sg} {rec3 : Nat → Int32 → Int32 → Int32 → Mm → Option (Mm)} {fu : Nat} {q : Mm} (C : Cx p s m args meth c (dm σ) D cA tS σ cX3_fill none 5 RX3) (hrec3 : ∀ (y0 : Nat) (y2 : Int32) (y3 : Int32) (y4 : Int32) (μ : Mm), σ y0 = some (3, 0) → rec3 y0 y2 y3 y4 μ = some q → GG p l e (rmO 0 0) s m args below meth c 0 0 (dm σ) D cA σ 5 (MQ below (QV D cA σ q) args s 0 0 (dm σ)) 3 [(0, .ref y0), (2, .int y2), (3, .int y3), (4, .int y4)] [] μ) (a0 : Nat) (v2 : Int32) (v3 : Int32) (v4 : Int32) (μ : Mm) (s_a0 : σ a0 = some (3, 0)) (h : fX3_fill_B3 rec3 fu a0 v2 v3 v4 μ = some q) : GG p l e (rmO 0 0) s m args below meth c 0 0 (dm σ) D cA σ 5 (MQ below (QV D cA σ q) args s 0 0 (dm σ)) 3 [(0, .ref a0), (2, .int v2), (3, .int v3), (4, .int v4)] [] μ := by
  unfold fX3_fill_B3 at h
  refine g_iload C dX3_fill_3 3 rfl ?_
  refine g_iload_n C dX3_fill_5 1 rfl ?_
  refine g_icmp_ge C 23 dX3_fill_6 rfl (fun q => ?_) (fun q => ?_)
  · replace h := ip q h
    cases h
    exact g_return C dX3_fill_23
  · replace h := iq q h
    refine g_aload_n C dX3_fill_9 0 rfl ?_
    refine g_wt (fun hT_μ => ?_)
    refine g_getr (j := 7) C s_a0 (by decide) rfl uwX3 (by decide) rfl lfX3_42 rfl dX3_fill_10 ?_
    refine g_iload C dX3_fill_13 3 rfl ?_
    refine g_iload_n C dX3_fill_15 2 rfl ?_
    obtain ⟨hg, h⟩ := gs h
    refine g_iast C (hT_μ.1 _ _ 7 _ s_a0 rfl) (ib_in hg) dX3_fill_16 ?_
    obtain ⟨μ1, e_μ1, h⟩ := nm h
    refine g_mu e_μ1 ?_
    obtain ⟨x2, e_x2, h⟩ := nm h
    refine g_iinc (v := x2) (lv' := [(4, .int x2), (0, .ref a0), (2, .int v2), (3, .int v3)]) C dX3_fill_17 (by decide) 3 rfl 1 (by decide) e_x2.symm rfl ?_
    refine g_goto C 3 dX3_fill_20 rfl ?_
    exact g_lv [1, 2, 3, 0] rfl (hrec3 _ _ _ _ _ s_a0 h)
theorem wX3_fill_L3 {p : Program} {l : Launch} {e : Env} {s : State} {m : MethodId} {args : Array Value} {below : List Frame} {meth : Method} {c : Code} {D : va_G} {cA : Nat → ClassId} {tS : Nat → Nat} {σ : Sg} {fu : Nat} {q : Mm} (C : Cx p s m args meth c (dm σ) D cA tS σ cX3_fill none 5 RX3) : ∀ (n : Nat) (a0 : Nat) (v2 : Int32) (v3 : Int32) (v4 : Int32) (μ : Mm), (σ a0 = some (3, 0)) → fX3_fill_L3 fu n a0 v2 v3 v4 μ = some q → GG p l e (rmO 0 0) s m args below meth c 0 0 (dm σ) D cA σ 5 (MQ below (QV D cA σ q) args s 0 0 (dm σ)) 3 [(0, .ref a0), (2, .int v2), (3, .int v3), (4, .int v4)] [] μ := by
  intro n
  induction n with
  | zero => intro a0 v2 v3 v4 μ s_a0 h; cases h
  | succ n ih => intro a0 v2 v3 v4 μ s_a0 h; exact wX3_fill_B3 C (fun _ _ _ _ _ k0 h => ih _ _ _ _ _ k0 h) _ _ _ _ _ s_a0 h
set_option maxRecDepth 100000 in
set_option maxHeartbeats 4000000 in
theorem wX3_fill {p : Program} {l : Launch} {e : Env} {s : State} {m : MethodId} {args : Array Value} {below : List Frame} {meth : Method} {c : Code} {D : va_G} {cA : Nat → ClassId} {tS : Nat → Nat} {σ : Sg} {fu : Nat} {q : Mm} (C : Cx p s m args meth c (dm σ) D cA tS σ cX3_fill none 5 RX3) (a0 : Nat) (v1 : Int32) (v2 : Int32) (v3 : Int32) (μ : Mm) (s_a0 : σ a0 = some (3, 0)) (h : fX3_fill fu a0 v1 v2 v3 μ = some q) : GG p l e (rmO 0 0) s m args below meth c 0 0 (dm σ) D cA σ 5 (MQ below (QV D cA σ q) args s 0 0 (dm σ)) 0 [(0, .ref a0), (1, .int v1), (2, .int v2), (3, .int v3)] [] μ := by
  unfold fX3_fill at h
  refine g_iload_n C dX3_fill_0 1 rfl ?_
  refine g_istore (lv' := [(4, .int v1), (0, .ref a0), (1, .int v1), (2, .int v2), (3, .int v3)]) C dX3_fill_1 (by decide) rfl ?_
  exact g_lv [1, 3, 4, 0] rfl (wX3_fill_L3 C fu _ _ _ _ _ s_a0 h)
theorem miX3_fill : MI yX3_fill cX3_fill 5 none RX3 3 := ⟨wcX3_fill, wmX3_fill, wsX3_fill, wiX3, by decide +kernel⟩
theorem kX3_fill {l : Launch} {D : va_G} {cA : Nat → ClassId} {tS : Nat → Nat} {σ : Sg} {a0 : Nat} {v1 : Int32} {v2 : Int32} {v3 : Int32} {μ : Mm} {fu : Nat} {q : Mm} (s_a0 : σ a0 = some (3, 0)) (h : fX3_fill fu a0 v1 v2 v3 μ = some q) : Ct l D cA tS σ yX3_fill cX3_fill 5 none (rmO 0 0) [.ref a0, .int v1, .int v2, .int v3] μ (QV D cA σ q) :=
  Ct.of (by decide) (Nat.le_of_ble_eq_true rfl) (fun _ _ _ _ _ _ _ _ C => wX3_fill C _ _ _ _ _ s_a0 h)
set_option maxRecDepth 100000 in
set_option maxHeartbeats 4000000 in
theorem wX3_size {p : Program} {l : Launch} {e : Env} {s : State} {m : MethodId} {args : Array Value} {below : List Frame} {meth : Method} {c : Code} {D : va_G} {cA : Nat → ClassId} {tS : Nat → Nat} {σ : Sg} {q : Int32} (C : Cx p s m args meth c (dm σ) D cA tS σ cX3_size (some .int) 1 RX3) (a0 : Nat) (μ : Mm) (s_a0 : σ a0 = some (3, 0)) (h : fX3_size a0 μ = q) : GG p l e (rmO 0 0) s m args below meth c 0 0 (dm σ) D cA σ 1 (MQ below (QI D cA σ q μ) args s 0 0 (dm σ)) 0 [(0, .ref a0)] [] μ := by
  unfold fX3_size at h
  refine g_aload_n C dX3_size_0 0 rfl ?_
  refine g_geti (j := 2) C s_a0 (by decide) rfl uwX3 (by decide) rfl lfX3_18 rfl dX3_size_1 ?_
  refine g_aload_n C dX3_size_4 0 rfl ?_
  refine g_geti (j := 3) C s_a0 (by decide) rfl uwX3 (by decide) rfl lfX3_21 rfl dX3_size_5 ?_
  refine g_imul C dX3_size_8 ?_
  subst h
  exact g_ireturn C rfl dX3_size_9
theorem miX3_size : MI yX3_size cX3_size 1 (some .int) RX3 0 := ⟨wcX3_size, wmX3_size, wsX3_size, wiX3, by decide +kernel⟩
theorem kX3_size {l : Launch} {D : va_G} {cA : Nat → ClassId} {tS : Nat → Nat} {σ : Sg} {a0 : Nat} {μ : Mm} {q : Int32} (s_a0 : σ a0 = some (3, 0)) (h : fX3_size a0 μ = q) : Ct l D cA tS σ yX3_size cX3_size 1 (some .int) (rmO 0 0) [.ref a0] μ (QI D cA σ q μ) :=
  Ct.of (by decide) (Nat.le_of_ble_eq_true rfl) (fun _ _ _ _ _ _ _ _ C => wX3_size C _ _ s_a0 h)
set_option maxRecDepth 100000 in
set_option maxHeartbeats 4000000 in
theorem wX8_become {p : Program} {l : Launch} {e : Env} {s : State} {m : MethodId} {args : Array Value} {below : List Frame} {meth : Method} {c : Code} {D : va_G} {cA : Nat → ClassId} {tS : Nat → Nat} {σ : Sg} {q : Mm} (C : Cx p s m args meth c (dm σ) D cA tS σ cX8_become none 5 RX8) (a0 : Nat) (v1 : Int32) (v2 : Int32) (v3 : Int32) (v4 : Int32) (μ : Mm) (s_a0 : σ a0 = some (8, 0)) (h : fX8_become a0 v1 v2 v3 v4 μ = some q) : GG p l e (rmO 0 0) s m args below meth c 0 0 (dm σ) D cA σ 5 (MQ below (QV D cA σ q) args s 0 0 (dm σ)) 0 [(0, .ref a0), (1, .int v1), (2, .int v2), (3, .int v3), (4, .int v4)] [] μ := by
  unfold fX8_become at h
  refine g_aload_n C dX8_become_0 0 rfl ?_
  refine g_iload_n C dX8_become_1 1 rfl ?_
  refine g_puti (j := 0) C s_a0 (by decide) rfl uwX8 tyX8_ok nmX8 (by decide) rfl lfX8_18 rfl rfl rfl (fun _ _ => rfl) (fun _ _ => Nat.le_of_ble_eq_true rfl) dX8_become_2 ?_
  obtain ⟨μ1, e_μ1, h⟩ := nm h
  refine g_mu e_μ1 ?_
  refine g_aload_n C dX8_become_5 0 rfl ?_
  refine g_iload_n C dX8_become_6 2 rfl ?_
  refine g_puti (j := 1) C s_a0 (by decide) rfl uwX8 tyX8_ok nmX8 (by decide) rfl lfX8_22 rfl rfl rfl (fun _ _ => rfl) (fun _ _ => Nat.le_of_ble_eq_true rfl) dX8_become_7 ?_
  obtain ⟨μ2, e_μ2, h⟩ := nm h
  refine g_mu e_μ2 ?_
  refine g_aload_n C dX8_become_10 0 rfl ?_
  refine g_iload_n C dX8_become_11 3 rfl ?_
  refine g_puti (j := 2) C s_a0 (by decide) rfl uwX8 tyX8_ok nmX8 (by decide) rfl lfX8_25 rfl rfl rfl (fun _ _ => rfl) (fun _ _ => Nat.le_of_ble_eq_true rfl) dX8_become_12 ?_
  obtain ⟨μ3, e_μ3, h⟩ := nm h
  refine g_mu e_μ3 ?_
  refine g_aload_n C dX8_become_15 0 rfl ?_
  refine g_iload C dX8_become_16 4 rfl ?_
  obtain ⟨hg, h⟩ := gs h
  refine g_puti (j := 3) C s_a0 (by decide) rfl uwX8 tyX8_ok nmX8 (by decide) rfl lfX8_28 rfl (b01_n hg).1 (b01_n hg).2 (fun _ _ => rfl) (fun _ _ => Nat.le_of_ble_eq_true rfl) dX8_become_18 ?_
  obtain ⟨μ4, e_μ4, h⟩ := nm h
  refine g_mu e_μ4 ?_
  cases h
  exact g_return C dX8_become_21
theorem miX8_become : MI yX8_become cX8_become 5 none RX8 4 := ⟨wcX8_become, wmX8_become, wsX8_become, wiX8, by decide +kernel⟩
theorem kX8_become {l : Launch} {D : va_G} {cA : Nat → ClassId} {tS : Nat → Nat} {σ : Sg} {a0 : Nat} {v1 : Int32} {v2 : Int32} {v3 : Int32} {v4 : Int32} {μ : Mm} {q : Mm} (s_a0 : σ a0 = some (8, 0)) (h : fX8_become a0 v1 v2 v3 v4 μ = some q) : Ct l D cA tS σ yX8_become cX8_become 5 none (rmO 0 0) [.ref a0, .int v1, .int v2, .int v3, .int v4] μ (QV D cA σ q) :=
  Ct.of (by decide) (Nat.le_of_ble_eq_true rfl) (fun _ _ _ _ _ _ _ _ C => wX8_become C _ _ _ _ _ _ s_a0 h)
