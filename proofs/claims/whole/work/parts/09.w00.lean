set_option maxRecDepth 100000 in
set_option maxHeartbeats 4000000 in
theorem wX0_clear {p : Program} {l : Launch} {e : Env} {s : State} {m : MethodId} {args : Array Value} {below : List Frame} {meth : Method} {c : Code} {D : va_G} {cA : Nat → ClassId} {tS : Nat → Nat} {σ : Sg} {q : Mm} (C : Cx p s m args meth c D cA tS σ cX0_clear none 1 RX0) (a0 : Nat) (μ : Mm) (s_a0 : σ a0 = some (0, 0)) (h : fX0_clear a0 μ = q) : GG p l e (rmO 0 0) s m args below meth c D cA σ 1 (MQ below (QV D cA σ q) args s 0 0 (dm σ)) 0 [(0, .ref a0)] [] μ := by
  unfold fX0_clear at h
  refine g_aload_n C dX0_clear_0 0 rfl ?_
  refine g_iconst (v := 0) C dX0_clear_1 (by decide) ?_
  refine g_puti (j := 1) C s_a0 (by decide) rfl uwX0 tyX0_ok nmX0 (by decide) rfl lfX0_15 rfl rfl rfl (fun _ _ => rfl) (fun _ _ => Nat.le_of_ble_eq_true rfl) dX0_clear_2 ?_
  obtain ⟨μ1, e_μ1, h⟩ := nm h
  refine g_mu e_μ1 ?_
  refine g_aload_n C dX0_clear_5 0 rfl ?_
  refine g_iconst (v := 0) C dX0_clear_6 (by decide) ?_
  refine g_puti (j := 2) C s_a0 (by decide) rfl uwX0 tyX0_ok nmX0 (by decide) rfl lfX0_19 rfl rfl rfl (fun _ _ => rfl) (fun _ _ => Nat.le_of_ble_eq_true rfl) dX0_clear_7 ?_
  obtain ⟨μ2, e_μ2, h⟩ := nm h
  refine g_mu e_μ2 ?_
  subst h
  exact g_return C dX0_clear_10
theorem miX0_clear : MI yX0_clear cX0_clear 1 none RX0 0 := ⟨wcX0_clear, wmX0_clear, wsX0_clear, wiX0, by decide +kernel⟩
theorem kX0_clear {l : Launch} {D : va_G} {cA : Nat → ClassId} {tS : Nat → Nat} {σ : Sg} {a0 : Nat} {μ : Mm} {q : Mm} (s_a0 : σ a0 = some (0, 0)) (h : fX0_clear a0 μ = q) : Ct l D cA tS σ yX0_clear cX0_clear 1 none (rmO 0 0) [.ref a0] μ (QV D cA σ q) :=
  Ct.of (by decide) (Nat.le_of_ble_eq_true rfl) (fun _ _ _ _ _ _ _ _ C => wX0_clear C _ _ s_a0 h)
set_option maxRecDepth 100000 in
set_option maxHeartbeats 4000000 in
theorem wX0_add {p : Program} {l : Launch} {e : Env} {s : State} {m : MethodId} {args : Array Value} {below : List Frame} {meth : Method} {c : Code} {D : va_G} {cA : Nat → ClassId} {tS : Nat → Nat} {σ : Sg} {q : Mm} (C : Cx p s m args meth c D cA tS σ cX0_add none 2 RX0) (a0 : Nat) (v1 : Int32) (μ : Mm) (s_a0 : σ a0 = some (0, 0)) (h : fX0_add a0 v1 μ = some q) : GG p l e (rmO 0 0) s m args below meth c D cA σ 2 (MQ below (QV D cA σ q) args s 0 0 (dm σ)) 0 [(0, .ref a0), (1, .int v1)] [] μ := by
  unfold fX0_add at h
  refine g_aload_n C dX0_add_0 0 rfl ?_
  refine g_geti (j := 1) C s_a0 (by decide) rfl uwX0 (by decide) rfl lfX0_15 rfl dX0_add_1 ?_
  refine g_sipush (v := 12000) C dX0_add_4 (by decide) ?_
  refine g_icmp_lt C 16 dX0_add_7 rfl (fun q => ?_) (fun q => ?_)
  · replace h := ip q h
    refine g_aload_n C dX0_add_16 0 rfl ?_
    refine g_wt (fun hT_μ => ?_)
    refine g_getr (j := 0) C s_a0 (by decide) rfl uwX0 (by decide) rfl lfX0_9 rfl dX0_add_17 ?_
    refine g_aload_n C dX0_add_20 0 rfl ?_
    refine g_geti (j := 1) C s_a0 (by decide) rfl uwX0 (by decide) rfl lfX0_15 rfl dX0_add_21 ?_
    refine g_iload_n C dX0_add_24 1 rfl ?_
    refine g_sipush (v := 255) C dX0_add_25 (by decide) ?_
    refine g_iand C dX0_add_28 ?_
    obtain ⟨hg, h⟩ := gs h
    refine g_iast C (hT_μ.1 _ _ 0 _ s_a0 rfl) (ib_in hg) dX0_add_29 ?_
    obtain ⟨μ1, e_μ1, h⟩ := nm h
    refine g_mu e_μ1 ?_
    refine g_aload_n C dX0_add_30 0 rfl ?_
    refine g_dup C dX0_add_31 rfl ?_
    refine g_geti (j := 1) C s_a0 (by decide) rfl uwX0 (by decide) rfl lfX0_15 rfl dX0_add_32 ?_
    refine g_iconst (v := 1) C dX0_add_35 (by decide) ?_
    refine g_iadd C dX0_add_36 ?_
    refine g_puti (j := 1) C s_a0 (by decide) rfl uwX0 tyX0_ok nmX0 (by decide) rfl lfX0_15 rfl rfl rfl (fun _ _ => rfl) (fun _ _ => Nat.le_of_ble_eq_true rfl) dX0_add_37 ?_
    obtain ⟨μ2, e_μ2, h⟩ := nm h
    refine g_mu e_μ2 ?_
    cases h
    exact g_return C dX0_add_40
  · replace h := iq q h
    refine g_aload_n C dX0_add_10 0 rfl ?_
    refine g_iconst (v := 1) C dX0_add_11 (by decide) ?_
    refine g_puti (j := 2) C s_a0 (by decide) rfl uwX0 tyX0_ok nmX0 (by decide) rfl lfX0_19 rfl rfl rfl (fun _ _ => rfl) (fun _ _ => Nat.le_of_ble_eq_true rfl) dX0_add_12 ?_
    obtain ⟨μ3, e_μ3, h⟩ := nm h
    refine g_mu e_μ3 ?_
    cases h
    exact g_return C dX0_add_15
theorem miX0_add : MI yX0_add cX0_add 2 none RX0 1 := ⟨wcX0_add, wmX0_add, wsX0_add, wiX0, by decide +kernel⟩
theorem kX0_add {l : Launch} {D : va_G} {cA : Nat → ClassId} {tS : Nat → Nat} {σ : Sg} {a0 : Nat} {v1 : Int32} {μ : Mm} {q : Mm} (s_a0 : σ a0 = some (0, 0)) (h : fX0_add a0 v1 μ = some q) : Ct l D cA tS σ yX0_add cX0_add 2 none (rmO 0 0) [.ref a0, .int v1] μ (QV D cA σ q) :=
  Ct.of (by decide) (Nat.le_of_ble_eq_true rfl) (fun _ _ _ _ _ _ _ _ C => wX0_add C _ _ _ s_a0 h)
set_option maxRecDepth 100000 in
set_option maxHeartbeats 4000000 in
theorem wX0_addTwo {p : Program} {l : Launch} {e : Env} {s : State} {m : MethodId} {args : Array Value} {below : List Frame} {meth : Method} {c : Code} {D : va_G} {cA : Nat → ClassId} {tS : Nat → Nat} {σ : Sg} {q : Mm} (C : Cx p s m args meth c D cA tS σ cX0_addTwo none 2 RX0) (a0 : Nat) (v1 : Int32) (μ : Mm) (s_a0 : σ a0 = some (0, 0)) (h : fX0_addTwo a0 v1 μ = some q) : GG p l e (rmO 1 21) s m args below meth c D cA σ 2 (MQ below (QV D cA σ q) args s 0 0 (dm σ)) 0 [(0, .ref a0), (1, .int v1)] [] μ := by
  unfold fX0_addTwo at h
  refine g_aload_n C dX0_addTwo_0 0 rfl ?_
  refine g_iload_n C dX0_addTwo_1 1 rfl ?_
  obtain ⟨μ1, e_μ1, h⟩ := bs h
  refine g_callVV C (kX0_add s_a0 e_μ1) miX0_add lmX0_23 s_a0 (by decide) rfl rfl rfl (by decide) dX0_addTwo_2 ⟨by decide, by decide⟩ ?_
  refine g_aload_n C dX0_addTwo_5 0 rfl ?_
  refine g_iload_n C dX0_addTwo_6 1 rfl ?_
  refine g_bipush (v := 8) C dX0_addTwo_7 (by decide) ?_
  refine g_ishr C dX0_addTwo_9 ?_
  obtain ⟨μ2, e_μ2, h⟩ := bs h
  refine g_callVV C (kX0_add s_a0 e_μ2) miX0_add lmX0_23 s_a0 (by decide) rfl rfl rfl (by decide) dX0_addTwo_10 ⟨by decide, by decide⟩ ?_
  cases h
  exact g_return C dX0_addTwo_13
theorem miX0_addTwo : MI yX0_addTwo cX0_addTwo 2 none RX0 1 := ⟨wcX0_addTwo, wmX0_addTwo, wsX0_addTwo, wiX0, by decide +kernel⟩
theorem kX0_addTwo {l : Launch} {D : va_G} {cA : Nat → ClassId} {tS : Nat → Nat} {σ : Sg} {a0 : Nat} {v1 : Int32} {μ : Mm} {q : Mm} (s_a0 : σ a0 = some (0, 0)) (h : fX0_addTwo a0 v1 μ = some q) : Ct l D cA tS σ yX0_addTwo cX0_addTwo 2 none (rmO 1 21) [.ref a0, .int v1] μ (QV D cA σ q) :=
  Ct.of (by decide) (Nat.le_of_ble_eq_true rfl) (fun _ _ _ _ _ _ _ _ C => wX0_addTwo C _ _ _ s_a0 h)
set_option maxRecDepth 100000 in
set_option maxHeartbeats 4000000 in
theorem wX0_addFour {p : Program} {l : Launch} {e : Env} {s : State} {m : MethodId} {args : Array Value} {below : List Frame} {meth : Method} {c : Code} {D : va_G} {cA : Nat → ClassId} {tS : Nat → Nat} {σ : Sg} {q : Mm} (C : Cx p s m args meth c D cA tS σ cX0_addFour none 2 RX0) (a0 : Nat) (v1 : Int32) (μ : Mm) (s_a0 : σ a0 = some (0, 0)) (h : fX0_addFour a0 v1 μ = some q) : GG p l e (rmO 1 21) s m args below meth c D cA σ 2 (MQ below (QV D cA σ q) args s 0 0 (dm σ)) 0 [(0, .ref a0), (1, .int v1)] [] μ := by
  unfold fX0_addFour at h
  refine g_aload_n C dX0_addFour_0 0 rfl ?_
  refine g_iload_n C dX0_addFour_1 1 rfl ?_
  refine g_bipush (v := 24) C dX0_addFour_2 (by decide) ?_
  refine g_ishr C dX0_addFour_4 ?_
  obtain ⟨μ1, e_μ1, h⟩ := bs h
  refine g_callVV C (kX0_add s_a0 e_μ1) miX0_add lmX0_23 s_a0 (by decide) rfl rfl rfl (by decide) dX0_addFour_5 ⟨by decide, by decide⟩ ?_
  refine g_aload_n C dX0_addFour_8 0 rfl ?_
  refine g_iload_n C dX0_addFour_9 1 rfl ?_
  refine g_bipush (v := 16) C dX0_addFour_10 (by decide) ?_
  refine g_ishr C dX0_addFour_12 ?_
  obtain ⟨μ2, e_μ2, h⟩ := bs h
  refine g_callVV C (kX0_add s_a0 e_μ2) miX0_add lmX0_23 s_a0 (by decide) rfl rfl rfl (by decide) dX0_addFour_13 ⟨by decide, by decide⟩ ?_
  refine g_aload_n C dX0_addFour_16 0 rfl ?_
  refine g_iload_n C dX0_addFour_17 1 rfl ?_
  refine g_bipush (v := 8) C dX0_addFour_18 (by decide) ?_
  refine g_ishr C dX0_addFour_20 ?_
  obtain ⟨μ3, e_μ3, h⟩ := bs h
  refine g_callVV C (kX0_add s_a0 e_μ3) miX0_add lmX0_23 s_a0 (by decide) rfl rfl rfl (by decide) dX0_addFour_21 ⟨by decide, by decide⟩ ?_
  refine g_aload_n C dX0_addFour_24 0 rfl ?_
  refine g_iload_n C dX0_addFour_25 1 rfl ?_
  obtain ⟨μ4, e_μ4, h⟩ := bs h
  refine g_callVV C (kX0_add s_a0 e_μ4) miX0_add lmX0_23 s_a0 (by decide) rfl rfl rfl (by decide) dX0_addFour_26 ⟨by decide, by decide⟩ ?_
  cases h
  exact g_return C dX0_addFour_29
theorem miX0_addFour : MI yX0_addFour cX0_addFour 2 none RX0 1 := ⟨wcX0_addFour, wmX0_addFour, wsX0_addFour, wiX0, by decide +kernel⟩
theorem kX0_addFour {l : Launch} {D : va_G} {cA : Nat → ClassId} {tS : Nat → Nat} {σ : Sg} {a0 : Nat} {v1 : Int32} {μ : Mm} {q : Mm} (s_a0 : σ a0 = some (0, 0)) (h : fX0_addFour a0 v1 μ = some q) : Ct l D cA tS σ yX0_addFour cX0_addFour 2 none (rmO 1 21) [.ref a0, .int v1] μ (QV D cA σ q) :=
  Ct.of (by decide) (Nat.le_of_ble_eq_true rfl) (fun _ _ _ _ _ _ _ _ C => wX0_addFour C _ _ _ s_a0 h)
set_option maxRecDepth 100000 in
set_option maxHeartbeats 4000000 in
theorem wX0_at {p : Program} {l : Launch} {e : Env} {s : State} {m : MethodId} {args : Array Value} {below : List Frame} {meth : Method} {c : Code} {D : va_G} {cA : Nat → ClassId} {tS : Nat → Nat} {σ : Sg} {q : Int32} (C : Cx p s m args meth c D cA tS σ cX0_at (some .int) 2 RX0) (a0 : Nat) (v1 : Int32) (μ : Mm) (s_a0 : σ a0 = some (0, 0)) (h : fX0_at a0 v1 μ = some q) : GG p l e (rmO 0 0) s m args below meth c D cA σ 2 (MQ below (QI D cA σ q μ) args s 0 0 (dm σ)) 0 [(0, .ref a0), (1, .int v1)] [] μ := by
  unfold fX0_at at h
  refine g_iload_n C dX0_at_0 1 rfl ?_
  refine g_if_lt C 21 dX0_at_1 rfl (fun q => ?_) (fun q => ?_)
  · replace h := ip q h
    refine g_iconst (v := -1) C dX0_at_21 (by decide) ?_
    cases h
    exact g_ireturn C rfl dX0_at_22
  · replace h := iq q h
    refine g_iload_n C dX0_at_4 1 rfl ?_
    refine g_aload_n C dX0_at_5 0 rfl ?_
    refine g_geti (j := 1) C s_a0 (by decide) rfl uwX0 (by decide) rfl lfX0_15 rfl dX0_at_6 ?_
    refine g_icmp_ge C 21 dX0_at_9 rfl (fun q => ?_) (fun q => ?_)
    · replace h := ip q h
      refine g_iconst (v := -1) C dX0_at_21 (by decide) ?_
      cases h
      exact g_ireturn C rfl dX0_at_22
    · replace h := iq q h
      refine g_aload_n C dX0_at_12 0 rfl ?_
      refine g_wt (fun hT_μ => ?_)
      refine g_getr (j := 0) C s_a0 (by decide) rfl uwX0 (by decide) rfl lfX0_9 rfl dX0_at_13 ?_
      refine g_iload_n C dX0_at_16 1 rfl ?_
      obtain ⟨hg1, h⟩ := gs h
      refine g_iald C (hT_μ.1 _ _ 0 _ s_a0 rfl) (ib_in hg1) dX0_at_17 ?_
      refine g_goto C 22 dX0_at_18 rfl ?_
      cases h
      exact g_ireturn C rfl dX0_at_22
theorem miX0_at : MI yX0_at cX0_at 2 (some .int) RX0 1 := ⟨wcX0_at, wmX0_at, wsX0_at, wiX0, by decide +kernel⟩
theorem kX0_at {l : Launch} {D : va_G} {cA : Nat → ClassId} {tS : Nat → Nat} {σ : Sg} {a0 : Nat} {v1 : Int32} {μ : Mm} {q : Int32} (s_a0 : σ a0 = some (0, 0)) (h : fX0_at a0 v1 μ = some q) : Ct l D cA tS σ yX0_at cX0_at 2 (some .int) (rmO 0 0) [.ref a0, .int v1] μ (QI D cA σ q μ) :=
  Ct.of (by decide) (Nat.le_of_ble_eq_true rfl) (fun _ _ _ _ _ _ _ _ C => wX0_at C _ _ _ s_a0 h)
set_option maxRecDepth 100000 in
set_option maxHeartbeats 4000000 in
theorem wX0_copyFrom {p : Program} {l : Launch} {e : Env} {s : State} {m : MethodId} {args : Array Value} {below : List Frame} {meth : Method} {c : Code} {D : va_G} {cA : Nat → ClassId} {tS : Nat → Nat} {σ : Sg} {q : Mm} (C : Cx p s m args meth c D cA tS σ cX0_copyFrom none 2 RX0) (a0 : Nat) (a1 : Nat) (μ : Mm) (s_a0 : σ a0 = some (0, 0)) (s_a1 : σ a1 = some (0, 0)) (h : fX0_copyFrom a0 a1 μ = some q) : GG p l e (rmO 1 40) s m args below meth c D cA σ 2 (MQ below (QV D cA σ q) args s 0 0 (dm σ)) 0 [(0, .ref a0), (1, .ref a1)] [] μ := by
  unfold fX0_copyFrom at h
  refine g_aload_n C dX0_copyFrom_0 1 rfl ?_
  refine g_wt (fun hT_μ => ?_)
  refine g_getr (j := 0) C s_a1 (by decide) rfl uwX0 (by decide) rfl lfX0_9 rfl dX0_copyFrom_1 ?_
  refine g_iconst (v := 0) C dX0_copyFrom_4 (by decide) ?_
  refine g_aload_n C dX0_copyFrom_5 0 rfl ?_
  refine g_getr (j := 0) C s_a0 (by decide) rfl uwX0 (by decide) rfl lfX0_9 rfl dX0_copyFrom_6 ?_
  refine g_iconst (v := 0) C dX0_copyFrom_9 (by decide) ?_
  refine g_aload_n C dX0_copyFrom_10 1 rfl ?_
  refine g_geti (j := 1) C s_a1 (by decide) rfl uwX0 (by decide) rfl lfX0_15 rfl dX0_copyFrom_11 ?_
  obtain ⟨hg, h⟩ := gs h
  refine g_copy C (hT_μ.1 _ _ 0 _ s_a1 rfl) (hT_μ.1 _ _ 0 _ s_a0 rfl) hg lmX0_27 wiJ10 ⟨by decide, by decide⟩ dX0_copyFrom_14 ?_
  obtain ⟨μ1, e_μ1, h⟩ := nm h
  refine g_mu e_μ1 ?_
  refine g_aload_n C dX0_copyFrom_17 0 rfl ?_
  refine g_aload_n C dX0_copyFrom_18 1 rfl ?_
  refine g_geti (j := 1) C s_a1 (by decide) rfl uwX0 (by decide) rfl lfX0_15 rfl dX0_copyFrom_19 ?_
  refine g_puti (j := 1) C s_a0 (by decide) rfl uwX0 tyX0_ok nmX0 (by decide) rfl lfX0_15 rfl rfl rfl (fun _ _ => rfl) (fun _ _ => Nat.le_of_ble_eq_true rfl) dX0_copyFrom_22 ?_
  obtain ⟨μ2, e_μ2, h⟩ := nm h
  refine g_mu e_μ2 ?_
  refine g_aload_n C dX0_copyFrom_25 0 rfl ?_
  refine g_aload_n C dX0_copyFrom_26 1 rfl ?_
  refine g_geti (j := 2) C s_a1 (by decide) rfl uwX0 (by decide) rfl lfX0_19 rfl dX0_copyFrom_27 ?_
  obtain ⟨hg, h⟩ := gs h
  refine g_puti (j := 2) C s_a0 (by decide) rfl uwX0 tyX0_ok nmX0 (by decide) rfl lfX0_19 rfl (b01_n hg).1 (b01_n hg).2 (fun _ _ => rfl) (fun _ _ => Nat.le_of_ble_eq_true rfl) dX0_copyFrom_30 ?_
  obtain ⟨μ3, e_μ3, h⟩ := nm h
  refine g_mu e_μ3 ?_
  cases h
  exact g_return C dX0_copyFrom_33
theorem miX0_copyFrom : MI yX0_copyFrom cX0_copyFrom 2 none RX0 1 := ⟨wcX0_copyFrom, wmX0_copyFrom, wsX0_copyFrom, wiX0, by decide +kernel⟩
theorem kX0_copyFrom {l : Launch} {D : va_G} {cA : Nat → ClassId} {tS : Nat → Nat} {σ : Sg} {a0 : Nat} {a1 : Nat} {μ : Mm} {q : Mm} (s_a0 : σ a0 = some (0, 0)) (s_a1 : σ a1 = some (0, 0)) (h : fX0_copyFrom a0 a1 μ = some q) : Ct l D cA tS σ yX0_copyFrom cX0_copyFrom 2 none (rmO 1 40) [.ref a0, .ref a1] μ (QV D cA σ q) :=
  Ct.of (by decide) (Nat.le_of_ble_eq_true rfl) (fun _ _ _ _ _ _ _ _ C => wX0_copyFrom C _ _ _ s_a0 s_a1 h)
