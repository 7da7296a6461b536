set_option maxRecDepth 100000 in
set_option maxHeartbeats 4000000 in
theorem wX8_reset {p : Program} {l : Launch} {e : Env} {s : State} {m : MethodId} {args : Array Value} {below : List Frame} {meth : Method} {c : Code} {D : va_G} {cA : Nat → ClassId} {tS : Nat → Nat} {σ : Sg} {q : Mm} (C : Cx p s m args meth c (dm σ) D cA tS σ cX8_reset none 1 RX8) (a0 : Nat) (μ : Mm) (s_a0 : σ a0 = some (8, 0)) (h : fX8_reset a0 μ = some q) : GG p l e (rmO 1 24) s m args below meth c 0 0 (dm σ) D cA σ 1 (MQ below (QV D cA σ q) args s 0 0 (dm σ)) 0 [(0, .ref a0)] [] μ := by
  unfold fX8_reset at h
  refine g_aload_n C dX8_reset_0 0 rfl ?_
  refine g_iconst (v := 0) C dX8_reset_1 (by decide) ?_
  refine g_iconst (v := -1) C dX8_reset_2 (by decide) ?_
  refine g_iconst (v := 0) C dX8_reset_3 (by decide) ?_
  refine g_iconst (v := 0) C dX8_reset_4 (by decide) ?_
  obtain ⟨μ1, e_μ1, h⟩ := bs h
  refine g_callVV C (kX8_become s_a0 e_μ1) miX8_become lmX8_14 s_a0 (by decide) rfl rfl rfl (Nat.le_of_ble_eq_true rfl) dX8_reset_5 ⟨by decide, by decide⟩ ⟨Nat.zero_le _, Nat.zero_le _⟩ ?_
  cases h
  exact g_return C dX8_reset_8
theorem miX8_reset : MI yX8_reset cX8_reset 1 none RX8 0 := ⟨wcX8_reset, wmX8_reset, wsX8_reset, wiX8, by decide +kernel⟩
theorem kX8_reset {l : Launch} {D : va_G} {cA : Nat → ClassId} {tS : Nat → Nat} {σ : Sg} {a0 : Nat} {μ : Mm} {q : Mm} (s_a0 : σ a0 = some (8, 0)) (h : fX8_reset a0 μ = some q) : Ct l D cA tS σ yX8_reset cX8_reset 1 none (rmO 1 24) [.ref a0] μ (QV D cA σ q) :=
  Ct.of (by decide) (Nat.le_of_ble_eq_true rfl) (fun _ _ _ _ _ _ _ _ C => wX8_reset C _ _ s_a0 h)
set_option maxRecDepth 100000 in
set_option maxHeartbeats 4000000 in
theorem wX3_reset {p : Program} {l : Launch} {e : Env} {s : State} {m : MethodId} {args : Array Value} {below : List Frame} {meth : Method} {c : Code} {D : va_G} {cA : Nat → ClassId} {tS : Nat → Nat} {σ : Sg} {fu : Nat} {q : Mm} (C : Cx p s m args meth c (dm σ) D cA tS σ cX3_reset none 5 RX3) (a0 : Nat) (v1 : Int32) (v2 : Int32) (v3 : Int32) (v4 : Int32) (μ : Mm) (s_a0 : σ a0 = some (3, 0)) (h : fX3_reset fu a0 v1 v2 v3 v4 μ = some q) : GG p l e (rmO 2 44) s m args below meth c 0 0 (dm σ) D cA σ 5 (MQ below (QV D cA σ q) args s 0 0 (dm σ)) 0 [(0, .ref a0), (1, .int v1), (2, .int v2), (3, .int v3), (4, .int v4)] [] μ := by
  unfold fX3_reset at h
  refine g_aload_n C dX3_reset_0 0 rfl ?_
  refine g_iload_n C dX3_reset_1 1 rfl ?_
  refine g_puti (j := 0) C s_a0 (by decide) rfl uwX3 tyX3_ok nmX3 (by decide) rfl lfX3_9 rfl rfl rfl (fun _ _ => rfl) (fun _ _ => Nat.le_of_ble_eq_true rfl) dX3_reset_2 ?_
  obtain ⟨μ1, e_μ1, h⟩ := nm h
  refine g_mu e_μ1 ?_
  refine g_aload_n C dX3_reset_5 0 rfl ?_
  refine g_iload_n C dX3_reset_6 2 rfl ?_
  refine g_puti (j := 1) C s_a0 (by decide) rfl uwX3 tyX3_ok nmX3 (by decide) rfl lfX3_15 rfl rfl rfl (fun _ _ => rfl) (fun _ _ => Nat.le_of_ble_eq_true rfl) dX3_reset_7 ?_
  obtain ⟨μ2, e_μ2, h⟩ := nm h
  refine g_mu e_μ2 ?_
  refine g_aload_n C dX3_reset_10 0 rfl ?_
  refine g_iload_n C dX3_reset_11 3 rfl ?_
  refine g_puti (j := 2) C s_a0 (by decide) rfl uwX3 tyX3_ok nmX3 (by decide) rfl lfX3_18 rfl rfl rfl (fun _ _ => rfl) (fun _ _ => Nat.le_of_ble_eq_true rfl) dX3_reset_12 ?_
  obtain ⟨μ3, e_μ3, h⟩ := nm h
  refine g_mu e_μ3 ?_
  refine g_aload_n C dX3_reset_15 0 rfl ?_
  refine g_iload C dX3_reset_16 4 rfl ?_
  refine g_puti (j := 3) C s_a0 (by decide) rfl uwX3 tyX3_ok nmX3 (by decide) rfl lfX3_21 rfl rfl rfl (fun _ _ => rfl) (fun _ _ => Nat.le_of_ble_eq_true rfl) dX3_reset_18 ?_
  obtain ⟨μ4, e_μ4, h⟩ := nm h
  refine g_mu e_μ4 ?_
  refine g_aload_n C dX3_reset_21 0 rfl ?_
  refine g_wt (fun hT_μ4 => ?_)
  refine g_getr (j := 6) C s_a0 (by decide) rfl uwX3 (by decide) rfl lfX3_38 rfl dX3_reset_22 ?_
  obtain ⟨μ5, e_μ5, h⟩ := bs h
  refine g_callVV C (kX8_reset (hT_μ4.1 _ _ 6 _ s_a0 rfl) e_μ5) miX8_reset lmX3_46 (hT_μ4.1 _ _ 6 _ s_a0 rfl) (by decide) rfl rfl rfl (Nat.le_of_ble_eq_true rfl) dX3_reset_25 ⟨by decide, by decide⟩ ⟨Nat.zero_le _, Nat.zero_le _⟩ ?_
  refine g_aload_n C dX3_reset_28 0 rfl ?_
  refine g_iconst (v := 0) C dX3_reset_29 (by decide) ?_
  refine g_aload_n C dX3_reset_30 0 rfl ?_
  obtain ⟨x6, e_x6, h⟩ := nm h
  refine g_callVI C (kX3_size s_a0 e_x6.symm) miX3_size lmX3_49 s_a0 (by decide) rfl rfl rfl (Nat.le_of_ble_eq_true rfl) dX3_reset_31 ⟨by decide, by decide⟩ ⟨Nat.zero_le _, Nat.zero_le _⟩ ?_
  refine g_iconst (v := 0) C dX3_reset_34 (by decide) ?_
  obtain ⟨μ7, e_μ7, h⟩ := bs h
  refine g_callVV C (kX3_fill s_a0 e_μ7) miX3_fill lmX3_53 s_a0 (by decide) rfl rfl rfl (Nat.le_of_ble_eq_true rfl) dX3_reset_35 ⟨by decide, by decide⟩ ⟨Nat.zero_le _, Nat.zero_le _⟩ ?_
  cases h
  exact g_return C dX3_reset_38
theorem miX3_reset : MI yX3_reset cX3_reset 5 none RX3 4 := ⟨wcX3_reset, wmX3_reset, wsX3_reset, wiX3, by decide +kernel⟩
theorem kX3_reset {l : Launch} {D : va_G} {cA : Nat → ClassId} {tS : Nat → Nat} {σ : Sg} {a0 : Nat} {v1 : Int32} {v2 : Int32} {v3 : Int32} {v4 : Int32} {μ : Mm} {fu : Nat} {q : Mm} (s_a0 : σ a0 = some (3, 0)) (h : fX3_reset fu a0 v1 v2 v3 v4 μ = some q) : Ct l D cA tS σ yX3_reset cX3_reset 5 none (rmO 2 44) [.ref a0, .int v1, .int v2, .int v3, .int v4] μ (QV D cA σ q) :=
  Ct.of (by decide) (Nat.le_of_ble_eq_true rfl) (fun _ _ _ _ _ _ _ _ C => wX3_reset C _ _ _ _ _ _ s_a0 h)
set_option maxRecDepth 100000 in
set_option maxHeartbeats 4000000 in
theorem wX3_covers {p : Program} {l : Launch} {e : Env} {s : State} {m : MethodId} {args : Array Value} {below : List Frame} {meth : Method} {c : Code} {D : va_G} {cA : Nat → ClassId} {tS : Nat → Nat} {σ : Sg} {q : Int32} (C : Cx p s m args meth c (dm σ) D cA tS σ cX3_covers (some .boolean) 3 RX3) (a0 : Nat) (v1 : Int32) (v2 : Int32) (μ : Mm) (s_a0 : σ a0 = some (3, 0)) (h : fX3_covers a0 v1 v2 μ = q) : GG p l e (rmO 0 0) s m args below meth c 0 0 (dm σ) D cA σ 3 (MQ below (QI D cA σ q μ) args s 0 0 (dm σ)) 0 [(0, .ref a0), (1, .int v1), (2, .int v2)] [] μ := by
  unfold fX3_covers at h
  refine g_iload_n C dX3_covers_0 1 rfl ?_
  refine g_aload_n C dX3_covers_1 0 rfl ?_
  refine g_geti (j := 0) C s_a0 (by decide) rfl uwX3 (by decide) rfl lfX3_9 rfl dX3_covers_2 ?_
  refine g_icmp_lt C 46 dX3_covers_5 rfl (fun q => ?_) (fun q => ?_)
  · replace h := ip q h
    refine g_iconst (v := 0) C dX3_covers_46 (by decide) ?_
    subst h
    exact g_zreturn (r := 0) C rfl dX3_covers_47
  · replace h := iq q h
    refine g_iload_n C dX3_covers_8 1 rfl ?_
    refine g_aload_n C dX3_covers_9 0 rfl ?_
    refine g_geti (j := 0) C s_a0 (by decide) rfl uwX3 (by decide) rfl lfX3_9 rfl dX3_covers_10 ?_
    refine g_aload_n C dX3_covers_13 0 rfl ?_
    refine g_geti (j := 2) C s_a0 (by decide) rfl uwX3 (by decide) rfl lfX3_18 rfl dX3_covers_14 ?_
    refine g_iadd C dX3_covers_17 ?_
    refine g_icmp_ge C 46 dX3_covers_18 rfl (fun q => ?_) (fun q => ?_)
    · replace h := ip q h
      refine g_iconst (v := 0) C dX3_covers_46 (by decide) ?_
      subst h
      exact g_zreturn (r := 0) C rfl dX3_covers_47
    · replace h := iq q h
      refine g_iload_n C dX3_covers_21 2 rfl ?_
      refine g_aload_n C dX3_covers_22 0 rfl ?_
      refine g_geti (j := 1) C s_a0 (by decide) rfl uwX3 (by decide) rfl lfX3_15 rfl dX3_covers_23 ?_
      refine g_icmp_lt C 46 dX3_covers_26 rfl (fun q => ?_) (fun q => ?_)
      · replace h := ip q h
        refine g_iconst (v := 0) C dX3_covers_46 (by decide) ?_
        subst h
        exact g_zreturn (r := 0) C rfl dX3_covers_47
      · replace h := iq q h
        refine g_iload_n C dX3_covers_29 2 rfl ?_
        refine g_aload_n C dX3_covers_30 0 rfl ?_
        refine g_geti (j := 1) C s_a0 (by decide) rfl uwX3 (by decide) rfl lfX3_15 rfl dX3_covers_31 ?_
        refine g_aload_n C dX3_covers_34 0 rfl ?_
        refine g_geti (j := 3) C s_a0 (by decide) rfl uwX3 (by decide) rfl lfX3_21 rfl dX3_covers_35 ?_
        refine g_iadd C dX3_covers_38 ?_
        refine g_icmp_ge C 46 dX3_covers_39 rfl (fun q => ?_) (fun q => ?_)
        · replace h := ip q h
          refine g_iconst (v := 0) C dX3_covers_46 (by decide) ?_
          subst h
          exact g_zreturn (r := 0) C rfl dX3_covers_47
        · replace h := iq q h
          refine g_iconst (v := 1) C dX3_covers_42 (by decide) ?_
          refine g_goto C 47 dX3_covers_43 rfl ?_
          subst h
          exact g_zreturn (r := 1) C rfl dX3_covers_47
theorem miX3_covers : MI yX3_covers cX3_covers 3 (some .boolean) RX3 2 := ⟨wcX3_covers, wmX3_covers, wsX3_covers, wiX3, by decide +kernel⟩
theorem kX3_covers {l : Launch} {D : va_G} {cA : Nat → ClassId} {tS : Nat → Nat} {σ : Sg} {a0 : Nat} {v1 : Int32} {v2 : Int32} {μ : Mm} {q : Int32} (s_a0 : σ a0 = some (3, 0)) (h : fX3_covers a0 v1 v2 μ = q) : Ct l D cA tS σ yX3_covers cX3_covers 3 (some .boolean) (rmO 0 0) [.ref a0, .int v1, .int v2] μ (QI D cA σ q μ) :=
  Ct.of (by decide) (Nat.le_of_ble_eq_true rfl) (fun _ _ _ _ _ _ _ _ C => wX3_covers C _ _ _ _ s_a0 h)
set_option maxRecDepth 100000 in
set_option maxHeartbeats 4000000 in
theorem wX3_indexAt {p : Program} {l : Launch} {e : Env} {s : State} {m : MethodId} {args : Array Value} {below : List Frame} {meth : Method} {c : Code} {D : va_G} {cA : Nat → ClassId} {tS : Nat → Nat} {σ : Sg} {q : Int32} (C : Cx p s m args meth c (dm σ) D cA tS σ cX3_indexAt (some .int) 3 RX3) (a0 : Nat) (v1 : Int32) (v2 : Int32) (μ : Mm) (s_a0 : σ a0 = some (3, 0)) (h : fX3_indexAt a0 v1 v2 μ = some q) : GG p l e (rmO 0 0) s m args below meth c 0 0 (dm σ) D cA σ 3 (MQ below (QI D cA σ q μ) args s 0 0 (dm σ)) 0 [(0, .ref a0), (1, .int v1), (2, .int v2)] [] μ := by
  unfold fX3_indexAt at h
  refine g_aload_n C dX3_indexAt_0 0 rfl ?_
  refine g_wt (fun hT_μ => ?_)
  refine g_getr (j := 7) C s_a0 (by decide) rfl uwX3 (by decide) rfl lfX3_42 rfl dX3_indexAt_1 ?_
  refine g_iload_n C dX3_indexAt_4 2 rfl ?_
  refine g_aload_n C dX3_indexAt_5 0 rfl ?_
  refine g_geti (j := 1) C s_a0 (by decide) rfl uwX3 (by decide) rfl lfX3_15 rfl dX3_indexAt_6 ?_
  refine g_isub C dX3_indexAt_9 ?_
  refine g_aload_n C dX3_indexAt_10 0 rfl ?_
  refine g_geti (j := 2) C s_a0 (by decide) rfl uwX3 (by decide) rfl lfX3_18 rfl dX3_indexAt_11 ?_
  refine g_imul C dX3_indexAt_14 ?_
  refine g_iload_n C dX3_indexAt_15 1 rfl ?_
  refine g_iadd C dX3_indexAt_16 ?_
  refine g_aload_n C dX3_indexAt_17 0 rfl ?_
  refine g_geti (j := 0) C s_a0 (by decide) rfl uwX3 (by decide) rfl lfX3_9 rfl dX3_indexAt_18 ?_
  refine g_isub C dX3_indexAt_21 ?_
  obtain ⟨hg1, h⟩ := gs h
  refine g_iald C (hT_μ.1 _ _ 7 _ s_a0 rfl) (ib_in hg1) dX3_indexAt_22 ?_
  cases h
  exact g_ireturn C rfl dX3_indexAt_23
theorem miX3_indexAt : MI yX3_indexAt cX3_indexAt 3 (some .int) RX3 2 := ⟨wcX3_indexAt, wmX3_indexAt, wsX3_indexAt, wiX3, by decide +kernel⟩
theorem kX3_indexAt {l : Launch} {D : va_G} {cA : Nat → ClassId} {tS : Nat → Nat} {σ : Sg} {a0 : Nat} {v1 : Int32} {v2 : Int32} {μ : Mm} {q : Int32} (s_a0 : σ a0 = some (3, 0)) (h : fX3_indexAt a0 v1 v2 μ = some q) : Ct l D cA tS σ yX3_indexAt cX3_indexAt 3 (some .int) (rmO 0 0) [.ref a0, .int v1, .int v2] μ (QI D cA σ q μ) :=
  Ct.of (by decide) (Nat.le_of_ble_eq_true rfl) (fun _ _ _ _ _ _ _ _ C => wX3_indexAt C _ _ _ _ s_a0 h)
set_option maxRecDepth 100000 in
set_option maxHeartbeats 4000000 in
theorem wX3_lineOf_B13 {p : Program} {l : Launch} {e : Env} {s : State} {m : MethodId} {args : Array Value} {below : List Frame} {meth : Method} {c : Code} {D : va_G} {cA : Nat → ClassId} {tS : Nat → Nat} {σ : Sg} {rec13 : Nat → Int32 → Int32 → Int32 → Mm → Option (Int32)} {fu : Nat} {q : Int32} (C : Cx p s m args meth c (dm σ) D cA tS σ cX3_lineOf (some .int) 7 RX3) (hrec13 : ∀ (y0 : Nat) (y1 : Int32) (y2 : Int32) (y3 : Int32) (μ : Mm), σ y0 = some (3, 0) → rec13 y0 y1 y2 y3 μ = some q → GG p l e (rmO 0 0) s m args below meth c 0 0 (dm σ) D cA σ 7 (MQ below (QI D cA σ q μ) args s 0 0 (dm σ)) 13 [(0, .ref y0), (1, .int y1), (2, .int y2), (3, .int y3)] [] μ) (a0 : Nat) (v1 : Int32) (v2 : Int32) (v3 : Int32) (μ : Mm) (s_a0 : σ a0 = some (3, 0)) (h : fX3_lineOf_B13 rec13 fu a0 v1 v2 v3 μ = some q) : GG p l e (rmO 0 0) s m args below meth c 0 0 (dm σ) D cA σ 7 (MQ below (QI D cA σ q μ) args s 0 0 (dm σ)) 13 [(0, .ref a0), (1, .int v1), (2, .int v2), (3, .int v3)] [] μ := by
  unfold fX3_lineOf_B13 at h
  refine g_iload_n C dX3_lineOf_13 3 rfl ?_
  refine g_gets (x := 1) C (fun k => k.2.2.2.2.1.1) lfX3_67 dX3_lineOf_14 ?_
  refine g_slen (x := 1) (v := 4) C (fun k => k.2.2.2.2.1.2) (by decide) dX3_lineOf_17 ?_
  refine g_icmp_ge C 79 dX3_lineOf_18 rfl (fun q => ?_) (fun q => ?_)
  · replace h := ip q h
    refine g_iload_n C dX3_lineOf_79 1 rfl ?_
    cases h
    exact g_ireturn C rfl dX3_lineOf_80
  · replace h := iq q h
    refine g_gets (x := 1) C (fun k => k.2.2.2.2.1.1) lfX3_67 dX3_lineOf_21 ?_
    refine g_iload_n C dX3_lineOf_24 3 rfl ?_
    obtain ⟨hg, h⟩ := gs h
    refine g_sald (x := 1) C (fun k => k.2.2.2.2.1.2) (ib_in hg) dX3_lineOf_25 ?_
    obtain ⟨x1, e_x1, h⟩ := nm h
    refine g_topi e_x1 ?_
    refine g_istore (lv' := [(4, .int x1), (0, .ref a0), (1, .int v1), (2, .int v2), (3, .int v3)]) C dX3_lineOf_26 (by decide) rfl ?_
    refine g_gets (x := 2) C (fun k => k.2.2.2.2.2.1) lfX3_70 dX3_lineOf_28 ?_
    refine g_iload_n C dX3_lineOf_31 4 rfl ?_
    obtain ⟨hg, h⟩ := gs h
    refine g_sald (x := 2) C (fun k => k.2.2.2.2.2.2) (ib_in hg) dX3_lineOf_32 ?_
    obtain ⟨x2, e_x2, h⟩ := nm h
    refine g_topi e_x2 ?_
    refine g_istore (lv' := [(5, .int x2), (4, .int x1), (0, .ref a0), (1, .int v1), (2, .int v2), (3, .int v3)]) C dX3_lineOf_33 (by decide) rfl ?_
    refine g_aload_n C dX3_lineOf_35 2 rfl ?_
    refine g_geti (j := 3) C s_a0 (by decide) rfl uwX3 (by decide) rfl lfX3_21 rfl dX3_lineOf_36 ?_
    refine g_iload C dX3_lineOf_39 1 rfl ?_
    refine g_isub C dX3_lineOf_41 ?_
    refine g_iconst (v := 1) C dX3_lineOf_42 (by decide) ?_
    refine g_iload C dX3_lineOf_43 0 rfl ?_
    refine g_ishl C dX3_lineOf_45 ?_
    refine g_iadd C dX3_lineOf_46 ?_
    refine g_iconst (v := 1) C dX3_lineOf_47 (by decide) ?_
    refine g_isub C dX3_lineOf_48 ?_
    refine g_iload C dX3_lineOf_49 0 rfl ?_
    refine g_ishr C dX3_lineOf_51 ?_
    obtain ⟨x3, e_x3, h⟩ := nm h
    refine g_topi e_x3 ?_
    refine g_istore (lv' := [(6, .int x3), (5, .int x2), (4, .int x1), (0, .ref a0), (1, .int v1), (2, .int v2), (3, .int v3)]) C dX3_lineOf_52 (by decide) rfl ?_
    refine g_iload_n C dX3_lineOf_54 5 rfl ?_
    refine g_iload C dX3_lineOf_55 0 rfl ?_
    refine g_icmp_ge C 68 dX3_lineOf_57 rfl (fun q => ?_) (fun q => ?_)
    · replace h := ip q h
      refine g_iload_n C dX3_lineOf_68 5 rfl ?_
      refine g_iload C dX3_lineOf_69 0 rfl ?_
      refine g_isub C dX3_lineOf_71 ?_
      obtain ⟨x4, e_x4, h⟩ := nm h
      refine g_topi e_x4 ?_
      refine g_istore_n (lv' := [(2, .int x4), (6, .int x3), (5, .int x2), (4, .int x1), (0, .ref a0), (1, .int v1), (3, .int v3)]) C dX3_lineOf_72 (by decide) rfl ?_
      obtain ⟨x5, e_x5, h⟩ := nm h
      refine g_iinc (v := x5) (lv' := [(3, .int x5), (2, .int x4), (6, .int x3), (5, .int x2), (4, .int x1), (0, .ref a0), (1, .int v1)]) C dX3_lineOf_73 (by decide) 6 rfl 1 (by decide) e_x5.symm rfl ?_
      refine g_goto C 13 dX3_lineOf_76 rfl ?_
      exact g_lv [5, 6, 1, 0] rfl (hrec13 _ _ _ _ _ s_a0 h)
    · replace h := iq q h
      refine g_iload C dX3_lineOf_60 2 rfl ?_
      refine g_iload_n C dX3_lineOf_62 5 rfl ?_
      refine g_iload C dX3_lineOf_63 1 rfl ?_
      refine g_ishl C dX3_lineOf_65 ?_
      refine g_iadd C dX3_lineOf_66 ?_
      cases h
      exact g_ireturn C rfl dX3_lineOf_67
theorem wX3_lineOf_L13 {p : Program} {l : Launch} {e : Env} {s : State} {m : MethodId} {args : Array Value} {below : List Frame} {meth : Method} {c : Code} {D : va_G} {cA : Nat → ClassId} {tS : Nat → Nat} {σ : Sg} {fu : Nat} {q : Int32} (C : Cx p s m args meth c (dm σ) D cA tS σ cX3_lineOf (some .int) 7 RX3) : ∀ (n : Nat) (a0 : Nat) (v1 : Int32) (v2 : Int32) (v3 : Int32) (μ : Mm), (σ a0 = some (3, 0)) → fX3_lineOf_L13 fu n a0 v1 v2 v3 μ = some q → GG p l e (rmO 0 0) s m args below meth c 0 0 (dm σ) D cA σ 7 (MQ below (QI D cA σ q μ) args s 0 0 (dm σ)) 13 [(0, .ref a0), (1, .int v1), (2, .int v2), (3, .int v3)] [] μ := by
  intro n
  induction n with
  | zero => intro a0 v1 v2 v3 μ s_a0 h; cases h
  | succ n ih => intro a0 v1 v2 v3 μ s_a0 h; exact wX3_lineOf_B13 C (fun _ _ _ _ _ k0 h => ih _ _ _ _ _ k0 h) _ _ _ _ _ s_a0 h
set_option maxRecDepth 100000 in
set_option maxHeartbeats 4000000 in
theorem wX3_lineOf {p : Program} {l : Launch} {e : Env} {s : State} {m : MethodId} {args : Array Value} {below : List Frame} {meth : Method} {c : Code} {D : va_G} {cA : Nat → ClassId} {tS : Nat → Nat} {σ : Sg} {fu : Nat} {q : Int32} (C : Cx p s m args meth c (dm σ) D cA tS σ cX3_lineOf (some .int) 7 RX3) (a0 : Nat) (v1 : Int32) (μ : Mm) (s_a0 : σ a0 = some (3, 0)) (h : fX3_lineOf fu a0 v1 μ = some q) : GG p l e (rmO 0 0) s m args below meth c 0 0 (dm σ) D cA σ 7 (MQ below (QI D cA σ q μ) args s 0 0 (dm σ)) 0 [(0, .ref a0), (1, .int v1)] [] μ := by
  unfold fX3_lineOf at h
  refine g_aload_n C dX3_lineOf_0 0 rfl ?_
  refine g_geti (j := 4) C s_a0 (by decide) rfl uwX3 (by decide) rfl lfX3_24 rfl dX3_lineOf_1 ?_
  refine g_if_ne C 9 dX3_lineOf_4 rfl (fun q => ?_) (fun q => ?_)
  · replace h := iq q h
    refine g_iload_n C dX3_lineOf_9 1 rfl ?_
    refine g_istore_n (lv' := [(2, .int v1), (0, .ref a0), (1, .int v1)]) C dX3_lineOf_10 (by decide) rfl ?_
    refine g_iconst (v := 0) C dX3_lineOf_11 (by decide) ?_
    refine g_istore_n (lv' := [(3, .int 0), (2, .int v1), (0, .ref a0), (1, .int v1)]) C dX3_lineOf_12 (by decide) rfl ?_
    exact g_lv [2, 3, 1, 0] rfl (wX3_lineOf_L13 C fu _ _ _ _ _ s_a0 h)
  · replace h := ip q h
    refine g_iload_n C dX3_lineOf_7 1 rfl ?_
    cases h
    exact g_ireturn C rfl dX3_lineOf_8
theorem miX3_lineOf : MI yX3_lineOf cX3_lineOf 7 (some .int) RX3 1 := ⟨wcX3_lineOf, wmX3_lineOf, wsX3_lineOf, wiX3, by decide +kernel⟩
theorem kX3_lineOf {l : Launch} {D : va_G} {cA : Nat → ClassId} {tS : Nat → Nat} {σ : Sg} {a0 : Nat} {v1 : Int32} {μ : Mm} {fu : Nat} {q : Int32} (s_a0 : σ a0 = some (3, 0)) (h : fX3_lineOf fu a0 v1 μ = some q) : Ct l D cA tS σ yX3_lineOf cX3_lineOf 7 (some .int) (rmO 0 0) [.ref a0, .int v1] μ (QI D cA σ q μ) :=
  Ct.of (by decide) (Nat.le_of_ble_eq_true rfl) (fun _ _ _ _ _ _ _ _ C => wX3_lineOf C _ _ _ s_a0 h)
set_option maxRecDepth 100000 in
set_option maxHeartbeats 4000000 in
theorem wX3_fromStreamOrder_B2 {p : Program} {l : Launch} {e : Env} {s : State} {m : MethodId} {args : Array Value} {below : List Frame} {meth : Method} {c : Code} {D : va_G} {cA : Nat → ClassId} {tS : Nat → Nat} {σ : Sg} {rec2 : Nat → Nat → Int32 → Mm → Option (Mm)} {fu : Nat} {q : Mm} (C : Cx p s m args meth c (dm σ) D cA tS σ cX3_fromStreamOrder none 3 RX3) (hrec2 : ∀ (y0 : Nat) (y1 : Nat) (y2 : Int32) (μ : Mm), σ y0 = some (3, 0) → σ y1 = some (11, 4096) → rec2 y0 y1 y2 μ = some q → GG p l e (rmO 1 40) s m args below meth c 0 0 (dm σ) D cA σ 3 (MQ below (QV D cA σ q) args s 0 0 (dm σ)) 2 [(0, .ref y0), (1, .ref y1), (2, .int y2)] [] μ) (a0 : Nat) (a1 : Nat) (v2 : Int32) (μ : Mm) (s_a0 : σ a0 = some (3, 0)) (s_a1 : σ a1 = some (11, 4096)) (h : fX3_fromStreamOrder_B2 rec2 fu a0 a1 v2 μ = some q) : GG p l e (rmO 1 40) s m args below meth c 0 0 (dm σ) D cA σ 3 (MQ below (QV D cA σ q) args s 0 0 (dm σ)) 2 [(0, .ref a0), (1, .ref a1), (2, .int v2)] [] μ := by
  unfold fX3_fromStreamOrder_B2 at h
  refine g_iload_n C dX3_fromStreamOrder_2 2 rfl ?_
  refine g_aload_n C dX3_fromStreamOrder_3 0 rfl ?_
  refine g_geti (j := 3) C s_a0 (by decide) rfl uwX3 (by decide) rfl lfX3_21 rfl dX3_fromStreamOrder_4 ?_
  refine g_icmp_ge C 44 dX3_fromStreamOrder_7 rfl (fun q => ?_) (fun q => ?_)
  · replace h := ip q h
    cases h
    exact g_return C dX3_fromStreamOrder_44
  · replace h := iq q h
    refine g_aload_n C dX3_fromStreamOrder_10 1 rfl ?_
    refine g_iload_n C dX3_fromStreamOrder_11 2 rfl ?_
    refine g_aload_n C dX3_fromStreamOrder_12 0 rfl ?_
    refine g_geti (j := 2) C s_a0 (by decide) rfl uwX3 (by decide) rfl lfX3_18 rfl dX3_fromStreamOrder_13 ?_
    refine g_imul C dX3_fromStreamOrder_16 ?_
    refine g_aload_n C dX3_fromStreamOrder_17 0 rfl ?_
    refine g_wt (fun hT_μ => ?_)
    refine g_getr (j := 7) C s_a0 (by decide) rfl uwX3 (by decide) rfl lfX3_42 rfl dX3_fromStreamOrder_18 ?_
    refine g_aload_n C dX3_fromStreamOrder_21 0 rfl ?_
    refine g_iload_n C dX3_fromStreamOrder_22 2 rfl ?_
    obtain ⟨x1, e_x1, h⟩ := bs h
    refine g_callVI C (kX3_lineOf s_a0 e_x1) miX3_lineOf lmX3_57 s_a0 (by decide) rfl rfl rfl (Nat.le_of_ble_eq_true rfl) dX3_fromStreamOrder_23 ⟨by decide, by decide⟩ ⟨Nat.zero_le _, Nat.zero_le _⟩ ?_
    refine g_aload_n C dX3_fromStreamOrder_26 0 rfl ?_
    refine g_geti (j := 2) C s_a0 (by decide) rfl uwX3 (by decide) rfl lfX3_18 rfl dX3_fromStreamOrder_27 ?_
    refine g_imul C dX3_fromStreamOrder_30 ?_
    refine g_aload_n C dX3_fromStreamOrder_31 0 rfl ?_
    refine g_geti (j := 2) C s_a0 (by decide) rfl uwX3 (by decide) rfl lfX3_18 rfl dX3_fromStreamOrder_32 ?_
    obtain ⟨hg, h⟩ := gs h
    refine g_copy C s_a1 (hT_μ.1 _ _ 7 _ s_a0 rfl) hg lmX3_61 wiJ10 ⟨by decide, Nat.le_of_ble_eq_true rfl⟩ dX3_fromStreamOrder_35 ?_
    obtain ⟨μ2, e_μ2, h⟩ := nm h
    refine g_mu e_μ2 ?_
    obtain ⟨x3, e_x3, h⟩ := nm h
    refine g_iinc (v := x3) (lv' := [(2, .int x3), (0, .ref a0), (1, .ref a1)]) C dX3_fromStreamOrder_38 (by decide) 2 rfl 1 (by decide) e_x3.symm rfl ?_
    refine g_goto C 2 dX3_fromStreamOrder_41 rfl ?_
    exact g_lv [1, 2, 0] rfl (hrec2 _ _ _ _ s_a0 s_a1 h)
theorem wX3_fromStreamOrder_L2 {p : Program} {l : Launch} {e : Env} {s : State} {m : MethodId} {args : Array Value} {below : List Frame} {meth : Method} {c : Code} {D : va_G} {cA : Nat → ClassId} {tS : Nat → Nat} {σ : Sg} {fu : Nat} {q : Mm} (C : Cx p s m args meth c (dm σ) D cA tS σ cX3_fromStreamOrder none 3 RX3) : ∀ (n : Nat) (a0 : Nat) (a1 : Nat) (v2 : Int32) (μ : Mm), (σ a0 = some (3, 0)) → (σ a1 = some (11, 4096)) → fX3_fromStreamOrder_L2 fu n a0 a1 v2 μ = some q → GG p l e (rmO 1 40) s m args below meth c 0 0 (dm σ) D cA σ 3 (MQ below (QV D cA σ q) args s 0 0 (dm σ)) 2 [(0, .ref a0), (1, .ref a1), (2, .int v2)] [] μ := by
  intro n
  induction n with
  | zero => intro a0 a1 v2 μ s_a0 s_a1 h; cases h
  | succ n ih => intro a0 a1 v2 μ s_a0 s_a1 h; exact wX3_fromStreamOrder_B2 C (fun _ _ _ _ k0 k1 h => ih _ _ _ _ k0 k1 h) _ _ _ _ s_a0 s_a1 h
set_option maxRecDepth 100000 in
set_option maxHeartbeats 4000000 in
theorem wX3_fromStreamOrder {p : Program} {l : Launch} {e : Env} {s : State} {m : MethodId} {args : Array Value} {below : List Frame} {meth : Method} {c : Code} {D : va_G} {cA : Nat → ClassId} {tS : Nat → Nat} {σ : Sg} {fu : Nat} {q : Mm} (C : Cx p s m args meth c (dm σ) D cA tS σ cX3_fromStreamOrder none 3 RX3) (a0 : Nat) (a1 : Nat) (μ : Mm) (s_a0 : σ a0 = some (3, 0)) (s_a1 : σ a1 = some (11, 4096)) (h : fX3_fromStreamOrder fu a0 a1 μ = some q) : GG p l e (rmO 1 40) s m args below meth c 0 0 (dm σ) D cA σ 3 (MQ below (QV D cA σ q) args s 0 0 (dm σ)) 0 [(0, .ref a0), (1, .ref a1)] [] μ := by
  unfold fX3_fromStreamOrder at h
  refine g_iconst (v := 0) C dX3_fromStreamOrder_0 (by decide) ?_
  refine g_istore_n (lv' := [(2, .int 0), (0, .ref a0), (1, .ref a1)]) C dX3_fromStreamOrder_1 (by decide) rfl ?_
  exact g_lv [1, 2, 0] rfl (wX3_fromStreamOrder_L2 C fu _ _ _ _ s_a0 s_a1 h)
theorem miX3_fromStreamOrder : MI yX3_fromStreamOrder cX3_fromStreamOrder 3 none RX3 1 := ⟨wcX3_fromStreamOrder, wmX3_fromStreamOrder, wsX3_fromStreamOrder, wiX3, by decide +kernel⟩
theorem kX3_fromStreamOrder {l : Launch} {D : va_G} {cA : Nat → ClassId} {tS : Nat → Nat} {σ : Sg} {a0 : Nat} {a1 : Nat} {μ : Mm} {fu : Nat} {q : Mm} (s_a0 : σ a0 = some (3, 0)) (s_a1 : σ a1 = some (11, 4096)) (h : fX3_fromStreamOrder fu a0 a1 μ = some q) : Ct l D cA tS σ yX3_fromStreamOrder cX3_fromStreamOrder 3 none (rmO 1 40) [.ref a0, .ref a1] μ (QV D cA σ q) :=
  Ct.of (by decide) (Nat.le_of_ble_eq_true rfl) (fun _ _ _ _ _ _ _ _ C => wX3_fromStreamOrder C _ _ _ s_a0 s_a1 h)
set_option maxRecDepth 100000 in
set_option maxHeartbeats 4000000 in
theorem wX3_toStreamOrder_B2 {p : Program} {l : Launch} {e : Env} {s : State} {m : MethodId} {args : Array Value} {below : List Frame} {meth : Method} {c : Code} {D : va_G} {cA : Nat → ClassId} {tS : Nat → Nat} {σ : Sg} {rec2 : Nat → Nat → Int32 → Mm → Option (Mm)} {fu : Nat} {q : Mm} (C : Cx p s m args meth c (dm σ) D cA tS σ cX3_toStreamOrder none 3 RX3) (hrec2 : ∀ (y0 : Nat) (y1 : Nat) (y2 : Int32) (μ : Mm), σ y0 = some (3, 0) → σ y1 = some (11, 4096) → rec2 y0 y1 y2 μ = some q → GG p l e (rmO 1 40) s m args below meth c 0 0 (dm σ) D cA σ 3 (MQ below (QV D cA σ q) args s 0 0 (dm σ)) 2 [(0, .ref y0), (1, .ref y1), (2, .int y2)] [] μ) (a0 : Nat) (a1 : Nat) (v2 : Int32) (μ : Mm) (s_a0 : σ a0 = some (3, 0)) (s_a1 : σ a1 = some (11, 4096)) (h : fX3_toStreamOrder_B2 rec2 fu a0 a1 v2 μ = some q) : GG p l e (rmO 1 40) s m args below meth c 0 0 (dm σ) D cA σ 3 (MQ below (QV D cA σ q) args s 0 0 (dm σ)) 2 [(0, .ref a0), (1, .ref a1), (2, .int v2)] [] μ := by
  unfold fX3_toStreamOrder_B2 at h
  refine g_iload_n C dX3_toStreamOrder_2 2 rfl ?_
  refine g_aload_n C dX3_toStreamOrder_3 0 rfl ?_
  refine g_geti (j := 3) C s_a0 (by decide) rfl uwX3 (by decide) rfl lfX3_21 rfl dX3_toStreamOrder_4 ?_
  refine g_icmp_ge C 44 dX3_toStreamOrder_7 rfl (fun q => ?_) (fun q => ?_)
  · replace h := ip q h
    cases h
    exact g_return C dX3_toStreamOrder_44
  · replace h := iq q h
    refine g_aload_n C dX3_toStreamOrder_10 0 rfl ?_
    refine g_wt (fun hT_μ => ?_)
    refine g_getr (j := 7) C s_a0 (by decide) rfl uwX3 (by decide) rfl lfX3_42 rfl dX3_toStreamOrder_11 ?_
    refine g_aload_n C dX3_toStreamOrder_14 0 rfl ?_
    refine g_iload_n C dX3_toStreamOrder_15 2 rfl ?_
    obtain ⟨x1, e_x1, h⟩ := bs h
    refine g_callVI C (kX3_lineOf s_a0 e_x1) miX3_lineOf lmX3_57 s_a0 (by decide) rfl rfl rfl (Nat.le_of_ble_eq_true rfl) dX3_toStreamOrder_16 ⟨by decide, by decide⟩ ⟨Nat.zero_le _, Nat.zero_le _⟩ ?_
    refine g_aload_n C dX3_toStreamOrder_19 0 rfl ?_
    refine g_geti (j := 2) C s_a0 (by decide) rfl uwX3 (by decide) rfl lfX3_18 rfl dX3_toStreamOrder_20 ?_
    refine g_imul C dX3_toStreamOrder_23 ?_
    refine g_aload_n C dX3_toStreamOrder_24 1 rfl ?_
    refine g_iload_n C dX3_toStreamOrder_25 2 rfl ?_
    refine g_aload_n C dX3_toStreamOrder_26 0 rfl ?_
    refine g_geti (j := 2) C s_a0 (by decide) rfl uwX3 (by decide) rfl lfX3_18 rfl dX3_toStreamOrder_27 ?_
    refine g_imul C dX3_toStreamOrder_30 ?_
    refine g_aload_n C dX3_toStreamOrder_31 0 rfl ?_
    refine g_geti (j := 2) C s_a0 (by decide) rfl uwX3 (by decide) rfl lfX3_18 rfl dX3_toStreamOrder_32 ?_
    obtain ⟨hg, h⟩ := gs h
    refine g_copy C (hT_μ.1 _ _ 7 _ s_a0 rfl) s_a1 hg lmX3_61 wiJ10 ⟨by decide, Nat.le_of_ble_eq_true rfl⟩ dX3_toStreamOrder_35 ?_
    obtain ⟨μ2, e_μ2, h⟩ := nm h
    refine g_mu e_μ2 ?_
    obtain ⟨x3, e_x3, h⟩ := nm h
    refine g_iinc (v := x3) (lv' := [(2, .int x3), (0, .ref a0), (1, .ref a1)]) C dX3_toStreamOrder_38 (by decide) 2 rfl 1 (by decide) e_x3.symm rfl ?_
    refine g_goto C 2 dX3_toStreamOrder_41 rfl ?_
    exact g_lv [1, 2, 0] rfl (hrec2 _ _ _ _ s_a0 s_a1 h)
theorem wX3_toStreamOrder_L2 {p : Program} {l : Launch} {e : Env} {s : State} {m : MethodId} {args : Array Value} {below : List Frame} {meth : Method} {c : Code} {D : va_G} {cA : Nat → ClassId} {tS : Nat → Nat} {σ : Sg} {fu : Nat} {q : Mm} (C : Cx p s m args meth c (dm σ) D cA tS σ cX3_toStreamOrder none 3 RX3) : ∀ (n : Nat) (a0 : Nat) (a1 : Nat) (v2 : Int32) (μ : Mm), (σ a0 = some (3, 0)) → (σ a1 = some (11, 4096)) → fX3_toStreamOrder_L2 fu n a0 a1 v2 μ = some q → GG p l e (rmO 1 40) s m args below meth c 0 0 (dm σ) D cA σ 3 (MQ below (QV D cA σ q) args s 0 0 (dm σ)) 2 [(0, .ref a0), (1, .ref a1), (2, .int v2)] [] μ := by
  intro n
  induction n with
  | zero => intro a0 a1 v2 μ s_a0 s_a1 h; cases h
  | succ n ih => intro a0 a1 v2 μ s_a0 s_a1 h; exact wX3_toStreamOrder_B2 C (fun _ _ _ _ k0 k1 h => ih _ _ _ _ k0 k1 h) _ _ _ _ s_a0 s_a1 h
set_option maxRecDepth 100000 in
set_option maxHeartbeats 4000000 in
theorem wX3_toStreamOrder {p : Program} {l : Launch} {e : Env} {s : State} {m : MethodId} {args : Array Value} {below : List Frame} {meth : Method} {c : Code} {D : va_G} {cA : Nat → ClassId} {tS : Nat → Nat} {σ : Sg} {fu : Nat} {q : Mm} (C : Cx p s m args meth c (dm σ) D cA tS σ cX3_toStreamOrder none 3 RX3) (a0 : Nat) (a1 : Nat) (μ : Mm) (s_a0 : σ a0 = some (3, 0)) (s_a1 : σ a1 = some (11, 4096)) (h : fX3_toStreamOrder fu a0 a1 μ = some q) : GG p l e (rmO 1 40) s m args below meth c 0 0 (dm σ) D cA σ 3 (MQ below (QV D cA σ q) args s 0 0 (dm σ)) 0 [(0, .ref a0), (1, .ref a1)] [] μ := by
  unfold fX3_toStreamOrder at h
  refine g_iconst (v := 0) C dX3_toStreamOrder_0 (by decide) ?_
  refine g_istore_n (lv' := [(2, .int 0), (0, .ref a0), (1, .ref a1)]) C dX3_toStreamOrder_1 (by decide) rfl ?_
  exact g_lv [1, 2, 0] rfl (wX3_toStreamOrder_L2 C fu _ _ _ _ s_a0 s_a1 h)
theorem miX3_toStreamOrder : MI yX3_toStreamOrder cX3_toStreamOrder 3 none RX3 1 := ⟨wcX3_toStreamOrder, wmX3_toStreamOrder, wsX3_toStreamOrder, wiX3, by decide +kernel⟩
theorem kX3_toStreamOrder {l : Launch} {D : va_G} {cA : Nat → ClassId} {tS : Nat → Nat} {σ : Sg} {a0 : Nat} {a1 : Nat} {μ : Mm} {fu : Nat} {q : Mm} (s_a0 : σ a0 = some (3, 0)) (s_a1 : σ a1 = some (11, 4096)) (h : fX3_toStreamOrder fu a0 a1 μ = some q) : Ct l D cA tS σ yX3_toStreamOrder cX3_toStreamOrder 3 none (rmO 1 40) [.ref a0, .ref a1] μ (QV D cA σ q) :=
  Ct.of (by decide) (Nat.le_of_ble_eq_true rfl) (fun _ _ _ _ _ _ _ _ C => wX3_toStreamOrder C _ _ _ s_a0 s_a1 h)
set_option maxRecDepth 100000 in
set_option maxHeartbeats 4000000 in
theorem wX7_reset_B7 {p : Program} {l : Launch} {e : Env} {s : State} {m : MethodId} {args : Array Value} {below : List Frame} {meth : Method} {c : Code} {D : va_G} {cA : Nat → ClassId} {tS : Nat → Nat} {σ : Sg} {rec7 : Nat → Int32 → Int32 → Mm → Option (Mm)} {fu : Nat} {q : Mm} (C : Cx p s m args meth c (dm σ) D cA tS σ cX7_reset none 3 RX7) (hrec7 : ∀ (y0 : Nat) (y1 : Int32) (y2 : Int32) (μ : Mm), σ y0 = some (7, 0) → rec7 y0 y1 y2 μ = some q → GG p l e (rmO 0 0) s m args below meth c 0 0 (dm σ) D cA σ 3 (MQ below (QV D cA σ q) args s 0 0 (dm σ)) 7 [(0, .ref y0), (1, .int y1), (2, .int y2)] [] μ) (a0 : Nat) (v1 : Int32) (v2 : Int32) (μ : Mm) (s_a0 : σ a0 = some (7, 0)) (h : fX7_reset_B7 rec7 fu a0 v1 v2 μ = some q) : GG p l e (rmO 0 0) s m args below meth c 0 0 (dm σ) D cA σ 3 (MQ below (QV D cA σ q) args s 0 0 (dm σ)) 7 [(0, .ref a0), (1, .int v1), (2, .int v2)] [] μ := by
  unfold fX7_reset_B7 at h
  refine g_iload_n C dX7_reset_7 2 rfl ?_
  refine g_iload_n C dX7_reset_8 1 rfl ?_
  refine g_icmp_ge C 25 dX7_reset_9 rfl (fun q => ?_) (fun q => ?_)
  · replace h := ip q h
    cases h
    exact g_return C dX7_reset_25
  · replace h := iq q h
    refine g_aload_n C dX7_reset_12 0 rfl ?_
    refine g_wt (fun hT_μ => ?_)
    refine g_getr (j := 0) C s_a0 (by decide) rfl uwX7 (by decide) rfl lfX7_9 rfl dX7_reset_13 ?_
    refine g_iload_n C dX7_reset_16 2 rfl ?_
    refine g_iconst (v := 0) C dX7_reset_17 (by decide) ?_
    obtain ⟨hg, h⟩ := gs h
    refine g_iast C (hT_μ.1 _ _ 0 _ s_a0 rfl) (ib_in hg) dX7_reset_18 ?_
    obtain ⟨μ1, e_μ1, h⟩ := nm h
    refine g_mu e_μ1 ?_
    obtain ⟨x2, e_x2, h⟩ := nm h
    refine g_iinc (v := x2) (lv' := [(2, .int x2), (0, .ref a0), (1, .int v1)]) C dX7_reset_19 (by decide) 2 rfl 1 (by decide) e_x2.symm rfl ?_
    refine g_goto C 7 dX7_reset_22 rfl ?_
    exact g_lv [1, 2, 0] rfl (hrec7 _ _ _ _ s_a0 h)
theorem wX7_reset_L7 {p : Program} {l : Launch} {e : Env} {s : State} {m : MethodId} {args : Array Value} {below : List Frame} {meth : Method} {c : Code} {D : va_G} {cA : Nat → ClassId} {tS : Nat → Nat} {σ : Sg} {fu : Nat} {q : Mm} (C : Cx p s m args meth c (dm σ) D cA tS σ cX7_reset none 3 RX7) : ∀ (n : Nat) (a0 : Nat) (v1 : Int32) (v2 : Int32) (μ : Mm), (σ a0 = some (7, 0)) → fX7_reset_L7 fu n a0 v1 v2 μ = some q → GG p l e (rmO 0 0) s m args below meth c 0 0 (dm σ) D cA σ 3 (MQ below (QV D cA σ q) args s 0 0 (dm σ)) 7 [(0, .ref a0), (1, .int v1), (2, .int v2)] [] μ := by
  intro n
  induction n with
  | zero => intro a0 v1 v2 μ s_a0 h; cases h
  | succ n ih => intro a0 v1 v2 μ s_a0 h; exact wX7_reset_B7 C (fun _ _ _ _ k0 h => ih _ _ _ _ k0 h) _ _ _ _ s_a0 h
set_option maxRecDepth 100000 in
set_option maxHeartbeats 4000000 in
theorem wX7_reset {p : Program} {l : Launch} {e : Env} {s : State} {m : MethodId} {args : Array Value} {below : List Frame} {meth : Method} {c : Code} {D : va_G} {cA : Nat → ClassId} {tS : Nat → Nat} {σ : Sg} {fu : Nat} {q : Mm} (C : Cx p s m args meth c (dm σ) D cA tS σ cX7_reset none 3 RX7) (a0 : Nat) (v1 : Int32) (μ : Mm) (s_a0 : σ a0 = some (7, 0)) (h : fX7_reset fu a0 v1 μ = some q) : GG p l e (rmO 0 0) s m args below meth c 0 0 (dm σ) D cA σ 3 (MQ below (QV D cA σ q) args s 0 0 (dm σ)) 0 [(0, .ref a0), (1, .int v1)] [] μ := by
  unfold fX7_reset at h
  refine g_aload_n C dX7_reset_0 0 rfl ?_
  refine g_iload_n C dX7_reset_1 1 rfl ?_
  refine g_puti (j := 1) C s_a0 (by decide) rfl uwX7 tyX7_ok nmX7 (by decide) rfl lfX7_15 rfl rfl rfl (fun _ _ => rfl) (fun _ _ => Nat.le_of_ble_eq_true rfl) dX7_reset_2 ?_
  obtain ⟨μ1, e_μ1, h⟩ := nm h
  refine g_mu e_μ1 ?_
  refine g_iconst (v := 0) C dX7_reset_5 (by decide) ?_
  refine g_istore_n (lv' := [(2, .int 0), (0, .ref a0), (1, .int v1)]) C dX7_reset_6 (by decide) rfl ?_
  exact g_lv [1, 2, 0] rfl (wX7_reset_L7 C fu _ _ _ _ s_a0 h)
theorem miX7_reset : MI yX7_reset cX7_reset 3 none RX7 1 := ⟨wcX7_reset, wmX7_reset, wsX7_reset, wiX7, by decide +kernel⟩
theorem kX7_reset {l : Launch} {D : va_G} {cA : Nat → ClassId} {tS : Nat → Nat} {σ : Sg} {a0 : Nat} {v1 : Int32} {μ : Mm} {fu : Nat} {q : Mm} (s_a0 : σ a0 = some (7, 0)) (h : fX7_reset fu a0 v1 μ = some q) : Ct l D cA tS σ yX7_reset cX7_reset 3 none (rmO 0 0) [.ref a0, .int v1] μ (QV D cA σ q) :=
  Ct.of (by decide) (Nat.le_of_ble_eq_true rfl) (fun _ _ _ _ _ _ _ _ C => wX7_reset C _ _ _ s_a0 h)
set_option maxRecDepth 100000 in
set_option maxHeartbeats 4000000 in
theorem wX4_reset {p : Program} {l : Launch} {e : Env} {s : State} {m : MethodId} {args : Array Value} {below : List Frame} {meth : Method} {c : Code} {D : va_G} {cA : Nat → ClassId} {tS : Nat → Nat} {σ : Sg} {fu : Nat} {q : Mm} (C : Cx p s m args meth c (dm σ) D cA tS σ cX4_reset none 6 RX4) (a0 : Nat) (v1 : Int32) (v2 : Int32) (v3 : Int32) (v4 : Int32) (v5 : Int32) (μ : Mm) (s_a0 : σ a0 = some (4, 0)) (h : fX4_reset fu a0 v1 v2 v3 v4 v5 μ = some q) : GG p l e (rmO 1 22) s m args below meth c 0 0 (dm σ) D cA σ 6 (MQ below (QV D cA σ q) args s 0 0 (dm σ)) 0 [(0, .ref a0), (1, .int v1), (2, .int v2), (3, .int v3), (4, .int v4), (5, .int v5)] [] μ := by
  unfold fX4_reset at h
  refine g_aload_n C dX4_reset_0 0 rfl ?_
  refine g_iload_n C dX4_reset_1 1 rfl ?_
  refine g_puti (j := 0) C s_a0 (by decide) rfl uwX4 tyX4_ok nmX4 (by decide) rfl lfX4_29 rfl rfl rfl (fun _ _ => rfl) (fun _ _ => Nat.le_of_ble_eq_true rfl) dX4_reset_2 ?_
  obtain ⟨μ1, e_μ1, h⟩ := nm h
  refine g_mu e_μ1 ?_
  refine g_aload_n C dX4_reset_5 0 rfl ?_
  refine g_iload_n C dX4_reset_6 2 rfl ?_
  refine g_puti (j := 1) C s_a0 (by decide) rfl uwX4 tyX4_ok nmX4 (by decide) rfl lfX4_33 rfl rfl rfl (fun _ _ => rfl) (fun _ _ => Nat.le_of_ble_eq_true rfl) dX4_reset_7 ?_
  obtain ⟨μ2, e_μ2, h⟩ := nm h
  refine g_mu e_μ2 ?_
  refine g_aload_n C dX4_reset_10 0 rfl ?_
  refine g_iload C dX4_reset_11 4 rfl ?_
  refine g_puti (j := 2) C s_a0 (by decide) rfl uwX4 tyX4_ok nmX4 (by decide) rfl lfX4_36 rfl rfl rfl (fun _ _ => rfl) (fun _ _ => Nat.le_of_ble_eq_true rfl) dX4_reset_13 ?_
  obtain ⟨μ3, e_μ3, h⟩ := nm h
  refine g_mu e_μ3 ?_
  refine g_aload_n C dX4_reset_16 0 rfl ?_
  refine g_iload C dX4_reset_17 5 rfl ?_
  refine g_puti (j := 3) C s_a0 (by decide) rfl uwX4 tyX4_ok nmX4 (by decide) rfl lfX4_39 rfl rfl rfl (fun _ _ => rfl) (fun _ _ => Nat.le_of_ble_eq_true rfl) dX4_reset_19 ?_
  obtain ⟨μ4, e_μ4, h⟩ := nm h
  refine g_mu e_μ4 ?_
  refine g_aload_n C dX4_reset_22 0 rfl ?_
  refine g_iconst (v := 0) C dX4_reset_23 (by decide) ?_
  refine g_puti (j := 4) C s_a0 (by decide) rfl uwX4 tyX4_ok nmX4 (by decide) rfl lfX4_42 rfl rfl rfl (fun _ _ => rfl) (fun _ _ => Nat.le_of_ble_eq_true rfl) dX4_reset_24 ?_
  obtain ⟨μ5, e_μ5, h⟩ := nm h
  refine g_mu e_μ5 ?_
  refine g_aload_n C dX4_reset_27 0 rfl ?_
  refine g_wt (fun hT_μ5 => ?_)
  refine g_getr (j := 5) C s_a0 (by decide) rfl uwX4 (by decide) rfl lfX4_12 rfl dX4_reset_28 ?_
  refine g_iload_n C dX4_reset_31 3 rfl ?_
  obtain ⟨μ6, e_μ6, h⟩ := bs h
  refine g_callVV C (kX7_reset (hT_μ5.1 _ _ 5 _ s_a0 rfl) e_μ6) miX7_reset lmX4_45 (hT_μ5.1 _ _ 5 _ s_a0 rfl) (by decide) rfl rfl rfl (Nat.le_of_ble_eq_true rfl) dX4_reset_32 ⟨by decide, by decide⟩ ⟨Nat.zero_le _, Nat.zero_le _⟩ ?_
  cases h
  exact g_return C dX4_reset_35
theorem miX4_reset : MI yX4_reset cX4_reset 6 none RX4 5 := ⟨wcX4_reset, wmX4_reset, wsX4_reset, wiX4, by decide +kernel⟩
theorem kX4_reset {l : Launch} {D : va_G} {cA : Nat → ClassId} {tS : Nat → Nat} {σ : Sg} {a0 : Nat} {v1 : Int32} {v2 : Int32} {v3 : Int32} {v4 : Int32} {v5 : Int32} {μ : Mm} {fu : Nat} {q : Mm} (s_a0 : σ a0 = some (4, 0)) (h : fX4_reset fu a0 v1 v2 v3 v4 v5 μ = some q) : Ct l D cA tS σ yX4_reset cX4_reset 6 none (rmO 1 22) [.ref a0, .int v1, .int v2, .int v3, .int v4, .int v5] μ (QV D cA σ q) :=
  Ct.of (by decide) (Nat.le_of_ble_eq_true rfl) (fun _ _ _ _ _ _ _ _ C => wX4_reset C _ _ _ _ _ _ _ s_a0 h)
set_option maxRecDepth 100000 in
set_option maxHeartbeats 4000000 in
theorem wX4_hasRoom {p : Program} {l : Launch} {e : Env} {s : State} {m : MethodId} {args : Array Value} {below : List Frame} {meth : Method} {c : Code} {D : va_G} {cA : Nat → ClassId} {tS : Nat → Nat} {σ : Sg} {q : Int32} (C : Cx p s m args meth c (dm σ) D cA tS σ cX4_hasRoom (some .boolean) 1 RX4) (a0 : Nat) (μ : Mm) (s_a0 : σ a0 = some (4, 0)) (h : fX4_hasRoom a0 μ = q) : GG p l e (rmO 0 0) s m args below meth c 0 0 (dm σ) D cA σ 1 (MQ below (QI D cA σ q μ) args s 0 0 (dm σ)) 0 [(0, .ref a0)] [] μ := by
  unfold fX4_hasRoom at h
  refine g_aload_n C dX4_hasRoom_0 0 rfl ?_
  refine g_geti (j := 4) C s_a0 (by decide) rfl uwX4 (by decide) rfl lfX4_42 rfl dX4_hasRoom_1 ?_
  refine g_bipush (v := 24) C dX4_hasRoom_4 (by decide) ?_
  refine g_icmp_ge C 13 dX4_hasRoom_6 rfl (fun q => ?_) (fun q => ?_)
  · replace h := ip q h
    refine g_iconst (v := 0) C dX4_hasRoom_13 (by decide) ?_
    subst h
    exact g_zreturn (r := 0) C rfl dX4_hasRoom_14
  · replace h := iq q h
    refine g_iconst (v := 1) C dX4_hasRoom_9 (by decide) ?_
    refine g_goto C 14 dX4_hasRoom_10 rfl ?_
    subst h
    exact g_zreturn (r := 1) C rfl dX4_hasRoom_14
theorem miX4_hasRoom : MI yX4_hasRoom cX4_hasRoom 1 (some .boolean) RX4 0 := ⟨wcX4_hasRoom, wmX4_hasRoom, wsX4_hasRoom, wiX4, by decide +kernel⟩
theorem kX4_hasRoom {l : Launch} {D : va_G} {cA : Nat → ClassId} {tS : Nat → Nat} {σ : Sg} {a0 : Nat} {μ : Mm} {q : Int32} (s_a0 : σ a0 = some (4, 0)) (h : fX4_hasRoom a0 μ = q) : Ct l D cA tS σ yX4_hasRoom cX4_hasRoom 1 (some .boolean) (rmO 0 0) [.ref a0] μ (QI D cA σ q μ) :=
  Ct.of (by decide) (Nat.le_of_ble_eq_true rfl) (fun _ _ _ _ _ _ _ _ C => wX4_hasRoom C _ _ s_a0 h)
set_option maxRecDepth 100000 in
set_option maxHeartbeats 4000000 in
theorem wX4_holds {p : Program} {l : Launch} {e : Env} {s : State} {m : MethodId} {args : Array Value} {below : List Frame} {meth : Method} {c : Code} {D : va_G} {cA : Nat → ClassId} {tS : Nat → Nat} {σ : Sg} {q : Int32} (C : Cx p s m args meth c (dm σ) D cA tS σ cX4_holds (some .boolean) 5 RX4) (a0 : Nat) (v1 : Int32) (v2 : Int32) (v3 : Int32) (v4 : Int32) (μ : Mm) (s_a0 : σ a0 = some (4, 0)) (h : fX4_holds a0 v1 v2 v3 v4 μ = q) : GG p l e (rmO 0 0) s m args below meth c 0 0 (dm σ) D cA σ 5 (MQ below (QI D cA σ q μ) args s 0 0 (dm σ)) 0 [(0, .ref a0), (1, .int v1), (2, .int v2), (3, .int v3), (4, .int v4)] [] μ := by
  unfold fX4_holds at h
  refine g_iload_n C dX4_holds_0 3 rfl ?_
  refine g_iconst (v := 1) C dX4_holds_1 (by decide) ?_
  refine g_icmp_lt C 61 dX4_holds_2 rfl (fun q => ?_) (fun q => ?_)
  · replace h := ip q h
    refine g_iconst (v := 0) C dX4_holds_61 (by decide) ?_
    subst h
    exact g_zreturn (r := 0) C rfl dX4_holds_62
  · replace h := iq q h
    refine g_iload_n C dX4_holds_5 3 rfl ?_
    refine g_aload_n C dX4_holds_6 0 rfl ?_
    refine g_geti (j := 0) C s_a0 (by decide) rfl uwX4 (by decide) rfl lfX4_29 rfl dX4_holds_7 ?_
    refine g_icmp_gt C 61 dX4_holds_10 rfl (fun q => ?_) (fun q => ?_)
    · replace h := ip q h
      refine g_iconst (v := 0) C dX4_holds_61 (by decide) ?_
      subst h
      exact g_zreturn (r := 0) C rfl dX4_holds_62
    · replace h := iq q h
      refine g_iload_n C dX4_holds_13 1 rfl ?_
      refine g_if_lt C 61 dX4_holds_14 rfl (fun q => ?_) (fun q => ?_)
      · replace h := ip q h
        refine g_iconst (v := 0) C dX4_holds_61 (by decide) ?_
        subst h
        exact g_zreturn (r := 0) C rfl dX4_holds_62
      · replace h := iq q h
        refine g_iload_n C dX4_holds_17 1 rfl ?_
        refine g_aload_n C dX4_holds_18 0 rfl ?_
        refine g_geti (j := 0) C s_a0 (by decide) rfl uwX4 (by decide) rfl lfX4_29 rfl dX4_holds_19 ?_
        refine g_iload_n C dX4_holds_22 3 rfl ?_
        refine g_isub C dX4_holds_23 ?_
        refine g_icmp_gt C 61 dX4_holds_24 rfl (fun q => ?_) (fun q => ?_)
        · replace h := ip q h
          refine g_iconst (v := 0) C dX4_holds_61 (by decide) ?_
          subst h
          exact g_zreturn (r := 0) C rfl dX4_holds_62
        · replace h := iq q h
          refine g_iload C dX4_holds_27 4 rfl ?_
          refine g_iconst (v := 1) C dX4_holds_29 (by decide) ?_
          refine g_icmp_lt C 61 dX4_holds_30 rfl (fun q => ?_) (fun q => ?_)
          · replace h := ip q h
            refine g_iconst (v := 0) C dX4_holds_61 (by decide) ?_
            subst h
            exact g_zreturn (r := 0) C rfl dX4_holds_62
          · replace h := iq q h
            refine g_iload C dX4_holds_33 4 rfl ?_
            refine g_aload_n C dX4_holds_35 0 rfl ?_
            refine g_geti (j := 1) C s_a0 (by decide) rfl uwX4 (by decide) rfl lfX4_33 rfl dX4_holds_36 ?_
            refine g_icmp_gt C 61 dX4_holds_39 rfl (fun q => ?_) (fun q => ?_)
            · replace h := ip q h
              refine g_iconst (v := 0) C dX4_holds_61 (by decide) ?_
              subst h
              exact g_zreturn (r := 0) C rfl dX4_holds_62
            · replace h := iq q h
              refine g_iload_n C dX4_holds_42 2 rfl ?_
              refine g_if_lt C 61 dX4_holds_43 rfl (fun q => ?_) (fun q => ?_)
              · replace h := ip q h
                refine g_iconst (v := 0) C dX4_holds_61 (by decide) ?_
                subst h
                exact g_zreturn (r := 0) C rfl dX4_holds_62
              · replace h := iq q h
                refine g_iload_n C dX4_holds_46 2 rfl ?_
                refine g_aload_n C dX4_holds_47 0 rfl ?_
                refine g_geti (j := 1) C s_a0 (by decide) rfl uwX4 (by decide) rfl lfX4_33 rfl dX4_holds_48 ?_
                refine g_iload C dX4_holds_51 4 rfl ?_
                refine g_isub C dX4_holds_53 ?_
                refine g_icmp_gt C 61 dX4_holds_54 rfl (fun q => ?_) (fun q => ?_)
                · replace h := ip q h
                  refine g_iconst (v := 0) C dX4_holds_61 (by decide) ?_
                  subst h
                  exact g_zreturn (r := 0) C rfl dX4_holds_62
                · replace h := iq q h
                  refine g_iconst (v := 1) C dX4_holds_57 (by decide) ?_
                  refine g_goto C 62 dX4_holds_58 rfl ?_
                  subst h
                  exact g_zreturn (r := 1) C rfl dX4_holds_62
theorem miX4_holds : MI yX4_holds cX4_holds 5 (some .boolean) RX4 4 := ⟨wcX4_holds, wmX4_holds, wsX4_holds, wiX4, by decide +kernel⟩
theorem kX4_holds {l : Launch} {D : va_G} {cA : Nat → ClassId} {tS : Nat → Nat} {σ : Sg} {a0 : Nat} {v1 : Int32} {v2 : Int32} {v3 : Int32} {v4 : Int32} {μ : Mm} {q : Int32} (s_a0 : σ a0 = some (4, 0)) (h : fX4_holds a0 v1 v2 v3 v4 μ = q) : Ct l D cA tS σ yX4_holds cX4_holds 5 (some .boolean) (rmO 0 0) [.ref a0, .int v1, .int v2, .int v3, .int v4] μ (QI D cA σ q μ) :=
  Ct.of (by decide) (Nat.le_of_ble_eq_true rfl) (fun _ _ _ _ _ _ _ _ C => wX4_holds C _ _ _ _ _ _ s_a0 h)
set_option maxRecDepth 100000 in
set_option maxHeartbeats 4000000 in
theorem wX4_givesTable {p : Program} {l : Launch} {e : Env} {s : State} {m : MethodId} {args : Array Value} {below : List Frame} {meth : Method} {c : Code} {D : va_G} {cA : Nat → ClassId} {tS : Nat → Nat} {σ : Sg} {q : Int32} (C : Cx p s m args meth c (dm σ) D cA tS σ cX4_givesTable (some .boolean) 2 RX4) (a0 : Nat) (v1 : Int32) (μ : Mm) (s_a0 : σ a0 = some (4, 0)) (h : fX4_givesTable a0 v1 μ = q) : GG p l e (rmO 0 0) s m args below meth c 0 0 (dm σ) D cA σ 2 (MQ below (QI D cA σ q μ) args s 0 0 (dm σ)) 0 [(0, .ref a0), (1, .int v1)] [] μ := by
  unfold fX4_givesTable at h
  refine g_iload_n C dX4_givesTable_0 1 rfl ?_
  refine g_if_ne C 14 dX4_givesTable_1 rfl (fun q => ?_) (fun q => ?_)
  · replace h := iq q h
    refine g_iconst (v := 1) C dX4_givesTable_14 (by decide) ?_
    refine g_goto C 19 dX4_givesTable_15 rfl ?_
    subst h
    exact g_zreturn (r := 1) C rfl dX4_givesTable_19
  · replace h := ip q h
    refine g_aload_n C dX4_givesTable_4 0 rfl ?_
    refine g_wt (fun hT_μ => ?_)
    refine g_getr (j := 5) C s_a0 (by decide) rfl uwX4 (by decide) rfl lfX4_12 rfl dX4_givesTable_5 ?_
    refine g_geti (j := 1) C (hT_μ.1 _ _ 5 _ s_a0 rfl) (by decide) rfl uwX7 (by decide) rfl lfX4_48 rfl dX4_givesTable_8 ?_
    refine g_if_eq C 18 dX4_givesTable_11 rfl (fun q => ?_) (fun q => ?_)
    · replace h := ip q h
      refine g_iconst (v := 0) C dX4_givesTable_18 (by decide) ?_
      subst h
      exact g_zreturn (r := 0) C rfl dX4_givesTable_19
    · replace h := iq q h
      refine g_iconst (v := 1) C dX4_givesTable_14 (by decide) ?_
      refine g_goto C 19 dX4_givesTable_15 rfl ?_
      subst h
      exact g_zreturn (r := 1) C rfl dX4_givesTable_19
theorem miX4_givesTable : MI yX4_givesTable cX4_givesTable 2 (some .boolean) RX4 1 := ⟨wcX4_givesTable, wmX4_givesTable, wsX4_givesTable, wiX4, by decide +kernel⟩
theorem kX4_givesTable {l : Launch} {D : va_G} {cA : Nat → ClassId} {tS : Nat → Nat} {σ : Sg} {a0 : Nat} {v1 : Int32} {μ : Mm} {q : Int32} (s_a0 : σ a0 = some (4, 0)) (h : fX4_givesTable a0 v1 μ = q) : Ct l D cA tS σ yX4_givesTable cX4_givesTable 2 (some .boolean) (rmO 0 0) [.ref a0, .int v1] μ (QI D cA σ q μ) :=
  Ct.of (by decide) (Nat.le_of_ble_eq_true rfl) (fun _ _ _ _ _ _ _ _ C => wX4_givesTable C _ _ _ s_a0 h)
set_option maxRecDepth 100000 in
set_option maxHeartbeats 4000000 in
theorem wX4_frameAt {p : Program} {l : Launch} {e : Env} {s : State} {m : MethodId} {args : Array Value} {below : List Frame} {meth : Method} {c : Code} {D : va_G} {cA : Nat → ClassId} {tS : Nat → Nat} {σ : Sg} {q : Option Nat} (C : Cx p s m args meth c (dm σ) D cA tS σ cX4_frameAt (some (.object "PictureReel$Frame")) 2 RX4) (a0 : Nat) (v1 : Int32) (μ : Mm) (s_a0 : σ a0 = some (4, 0)) (h : fX4_frameAt a0 v1 μ = some q) : GG p l e (rmO 0 0) s m args below meth c 0 0 (dm σ) D cA σ 2 (MQ below (QR D cA σ (3, 0) q μ) args s 0 0 (dm σ)) 0 [(0, .ref a0), (1, .int v1)] [] μ := by
  unfold fX4_frameAt at h
  refine g_iload_n C dX4_frameAt_0 1 rfl ?_
  refine g_if_lt C 21 dX4_frameAt_1 rfl (fun q => ?_) (fun q => ?_)
  · replace h := ip q h
    refine g_null C dX4_frameAt_21 ?_
    cases h
    exact g_areturn C (Or.inl ⟨_, rfl⟩) (fun _ h => by cases h) dX4_frameAt_22
  · replace h := iq q h
    refine g_iload_n C dX4_frameAt_4 1 rfl ?_
    refine g_aload_n C dX4_frameAt_5 0 rfl ?_
    refine g_geti (j := 4) C s_a0 (by decide) rfl uwX4 (by decide) rfl lfX4_42 rfl dX4_frameAt_6 ?_
    refine g_icmp_ge C 21 dX4_frameAt_9 rfl (fun q => ?_) (fun q => ?_)
    · replace h := ip q h
      refine g_null C dX4_frameAt_21 ?_
      cases h
      exact g_areturn C (Or.inl ⟨_, rfl⟩) (fun _ h => by cases h) dX4_frameAt_22
    · replace h := iq q h
      refine g_aload_n C dX4_frameAt_12 0 rfl ?_
      refine g_wt (fun hT_μ => ?_)
      refine g_getr (j := 6) C s_a0 (by decide) rfl uwX4 (by decide) rfl lfX4_20 rfl dX4_frameAt_13 ?_
      refine g_iload_n C dX4_frameAt_16 1 rfl ?_
      obtain ⟨hg1, h⟩ := gs h
      refine g_aald C (hT_μ.1 _ _ 6 _ s_a0 rfl) (ib_in hg1) dX4_frameAt_17 ?_
      refine g_goto C 22 dX4_frameAt_18 rfl ?_
      cases h
      exact g_areturn C (Or.inl ⟨_, rfl⟩) (fun _ h => by cases h; exact (hT_μ.2 _ _ _ (hT_μ.1 _ _ 6 _ s_a0 rfl) (ib_lt hg1))) dX4_frameAt_22
theorem miX4_frameAt : MI yX4_frameAt cX4_frameAt 2 (some (.object "PictureReel$Frame")) RX4 1 := ⟨wcX4_frameAt, wmX4_frameAt, wsX4_frameAt, wiX4, by decide +kernel⟩
theorem kX4_frameAt {l : Launch} {D : va_G} {cA : Nat → ClassId} {tS : Nat → Nat} {σ : Sg} {a0 : Nat} {v1 : Int32} {μ : Mm} {q : Option Nat} (s_a0 : σ a0 = some (4, 0)) (h : fX4_frameAt a0 v1 μ = some q) : Ct l D cA tS σ yX4_frameAt cX4_frameAt 2 (some (.object "PictureReel$Frame")) (rmO 0 0) [.ref a0, .int v1] μ (QR D cA σ (3, 0) q μ) :=
  Ct.of (by decide) (Nat.le_of_ble_eq_true rfl) (fun _ _ _ _ _ _ _ _ C => wX4_frameAt C _ _ _ s_a0 h)
set_option maxRecDepth 100000 in
set_option maxHeartbeats 4000000 in
theorem wX4_tableOf {p : Program} {l : Launch} {e : Env} {s : State} {m : MethodId} {args : Array Value} {below : List Frame} {meth : Method} {c : Code} {D : va_G} {cA : Nat → ClassId} {tS : Nat → Nat} {σ : Sg} {q : Nat} (C : Cx p s m args meth c (dm σ) D cA tS σ cX4_tableOf (some (.object "PictureReel$Table")) 2 RX4) (a0 : Nat) (a1 : Nat) (μ : Mm) (s_a0 : σ a0 = some (4, 0)) (s_a1 : σ a1 = some (3, 0)) (h : fX4_tableOf a0 a1 μ = q) : GG p l e (rmO 0 0) s m args below meth c 0 0 (dm σ) D cA σ 2 (MQ below (QR D cA σ (7, 0) (some q) μ) args s 0 0 (dm σ)) 0 [(0, .ref a0), (1, .ref a1)] [] μ := by
  unfold fX4_tableOf at h
  refine g_aload_n C dX4_tableOf_0 1 rfl ?_
  refine g_wt (fun hT_μ => ?_)
  refine g_getr (j := 5) C s_a1 (by decide) rfl uwX3 (by decide) rfl lfX4_51 rfl dX4_tableOf_1 ?_
  refine g_geti (j := 1) C (hT_μ.1 _ _ 5 _ s_a1 rfl) (by decide) rfl uwX7 (by decide) rfl lfX4_48 rfl dX4_tableOf_4 ?_
  refine g_if_eq C 17 dX4_tableOf_7 rfl (fun q => ?_) (fun q => ?_)
  · replace h := ip q h
    refine g_aload_n C dX4_tableOf_17 0 rfl ?_
    refine g_getr (j := 5) C s_a0 (by decide) rfl uwX4 (by decide) rfl lfX4_12 rfl dX4_tableOf_18 ?_
    subst h
    exact g_areturn C (Or.inl ⟨_, rfl⟩) (fun _ h => by cases h; exact (hT_μ.1 _ _ 5 _ s_a0 rfl)) dX4_tableOf_21
  · replace h := iq q h
    refine g_aload_n C dX4_tableOf_10 1 rfl ?_
    refine g_getr (j := 5) C s_a1 (by decide) rfl uwX3 (by decide) rfl lfX4_51 rfl dX4_tableOf_11 ?_
    refine g_goto C 21 dX4_tableOf_14 rfl ?_
    subst h
    exact g_areturn C (Or.inl ⟨_, rfl⟩) (fun _ h => by cases h; exact (hT_μ.1 _ _ 5 _ s_a1 rfl)) dX4_tableOf_21
theorem miX4_tableOf : MI yX4_tableOf cX4_tableOf 2 (some (.object "PictureReel$Table")) RX4 1 := ⟨wcX4_tableOf, wmX4_tableOf, wsX4_tableOf, wiX4, by decide +kernel⟩
theorem kX4_tableOf {l : Launch} {D : va_G} {cA : Nat → ClassId} {tS : Nat → Nat} {σ : Sg} {a0 : Nat} {a1 : Nat} {μ : Mm} {q : Nat} (s_a0 : σ a0 = some (4, 0)) (s_a1 : σ a1 = some (3, 0)) (h : fX4_tableOf a0 a1 μ = q) : Ct l D cA tS σ yX4_tableOf cX4_tableOf 2 (some (.object "PictureReel$Table")) (rmO 0 0) [.ref a0, .ref a1] μ (QR D cA σ (7, 0) (some q) μ) :=
  Ct.of (by decide) (Nat.le_of_ble_eq_true rfl) (fun _ _ _ _ _ _ _ _ C => wX4_tableOf C _ _ _ s_a0 s_a1 h)
set_option maxRecDepth 100000 in
set_option maxHeartbeats 4000000 in
theorem wX4_addFrame {p : Program} {l : Launch} {e : Env} {s : State} {m : MethodId} {args : Array Value} {below : List Frame} {meth : Method} {c : Code} {D : va_G} {cA : Nat → ClassId} {tS : Nat → Nat} {σ : Sg} {fu : Nat} {q : Nat × Mm} (C : Cx p s m args meth c (dm σ) D cA tS σ cX4_addFrame (some (.object "PictureReel$Frame")) 8 RX4) (a0 : Nat) (v1 : Int32) (v2 : Int32) (v3 : Int32) (v4 : Int32) (v5 : Int32) (v6 : Int32) (μ : Mm) (s_a0 : σ a0 = some (4, 0)) (h : fX4_addFrame fu a0 v1 v2 v3 v4 v5 v6 μ = some q) : GG p l e (rmO 3 68) s m args below meth c 0 0 (dm σ) D cA σ 8 (MQ below (QR D cA σ (3, 0) (some q.1) q.2) args s 0 0 (dm σ)) 0 [(0, .ref a0), (1, .int v1), (2, .int v2), (3, .int v3), (4, .int v4), (5, .int v5), (6, .int v6)] [] μ := by
  unfold fX4_addFrame at h
  refine g_aload_n C dX4_addFrame_0 0 rfl ?_
  refine g_wt (fun hT_μ => ?_)
  refine g_getr (j := 6) C s_a0 (by decide) rfl uwX4 (by decide) rfl lfX4_20 rfl dX4_addFrame_1 ?_
  refine g_aload_n C dX4_addFrame_4 0 rfl ?_
  refine g_geti (j := 4) C s_a0 (by decide) rfl uwX4 (by decide) rfl lfX4_42 rfl dX4_addFrame_5 ?_
  obtain ⟨hg1, h⟩ := gs h
  refine g_aald C (hT_μ.1 _ _ 6 _ s_a0 rfl) (ib_in hg1) dX4_addFrame_8 ?_
  obtain ⟨r2, e_r2, h⟩ := nm h
  refine g_topr e_r2 ?_
  have s_r2 : σ r2 = some (3, 0) := by rw [e_r2]; exact (hT_μ.2 _ _ _ (hT_μ.1 _ _ 6 _ s_a0 rfl) (ib_lt hg1))
  refine g_astore (lv' := [(7, .ref r2), (0, .ref a0), (1, .int v1), (2, .int v2), (3, .int v3), (4, .int v4), (5, .int v5), (6, .int v6)]) C dX4_addFrame_9 (by decide) rfl ?_
  refine g_aload C dX4_addFrame_11 0 rfl ?_
  refine g_iload_n C dX4_addFrame_13 2 rfl ?_
  refine g_iload_n C dX4_addFrame_14 3 rfl ?_
  refine g_iload_n C dX4_addFrame_15 4 rfl ?_
  refine g_iload C dX4_addFrame_16 5 rfl ?_
  obtain ⟨μ3, e_μ3, h⟩ := bs h
  refine g_callVV C (kX3_reset s_r2 e_μ3) miX3_reset lmX4_54 s_r2 (by decide) rfl rfl rfl (Nat.le_of_ble_eq_true rfl) dX4_addFrame_18 ⟨by decide, by decide⟩ ⟨Nat.zero_le _, Nat.zero_le _⟩ ?_
  refine g_aload C dX4_addFrame_21 0 rfl ?_
  refine g_wt (fun hT_μ3 => ?_)
  refine g_getr (j := 5) C s_r2 (by decide) rfl uwX3 (by decide) rfl lfX4_51 rfl dX4_addFrame_23 ?_
  refine g_iload C dX4_addFrame_26 6 rfl ?_
  obtain ⟨μ4, e_μ4, h⟩ := bs h
  refine g_callVV C (kX7_reset (hT_μ3.1 _ _ 5 _ s_r2 rfl) e_μ4) miX7_reset lmX4_45 (hT_μ3.1 _ _ 5 _ s_r2 rfl) (by decide) rfl rfl rfl (Nat.le_of_ble_eq_true rfl) dX4_addFrame_28 ⟨by decide, by decide⟩ ⟨Nat.zero_le _, Nat.zero_le _⟩ ?_
  refine g_aload C dX4_addFrame_31 0 rfl ?_
  refine g_iload C dX4_addFrame_33 7 rfl ?_
  obtain ⟨hg, h⟩ := gs h
  refine g_puti (j := 4) C s_r2 (by decide) rfl uwX3 tyX3_ok nmX3 (by decide) rfl lfX4_57 rfl (b01_n hg).1 (b01_n hg).2 (fun _ _ => rfl) (fun _ _ => Nat.le_of_ble_eq_true rfl) dX4_addFrame_35 ?_
  obtain ⟨μ5, e_μ5, h⟩ := nm h
  refine g_mu e_μ5 ?_
  refine g_aload_n C dX4_addFrame_38 1 rfl ?_
  refine g_dup C dX4_addFrame_39 rfl ?_
  refine g_geti (j := 4) C s_a0 (by decide) rfl uwX4 (by decide) rfl lfX4_42 rfl dX4_addFrame_40 ?_
  refine g_iconst (v := 1) C dX4_addFrame_43 (by decide) ?_
  refine g_iadd C dX4_addFrame_44 ?_
  refine g_puti (j := 4) C s_a0 (by decide) rfl uwX4 tyX4_ok nmX4 (by decide) rfl lfX4_42 rfl rfl rfl (fun _ _ => rfl) (fun _ _ => Nat.le_of_ble_eq_true rfl) dX4_addFrame_45 ?_
  obtain ⟨μ6, e_μ6, h⟩ := nm h
  refine g_mu e_μ6 ?_
  refine g_aload C dX4_addFrame_48 0 rfl ?_
  cases h
  exact g_areturn C (Or.inl ⟨_, rfl⟩) (fun _ h => by cases h; exact s_r2) dX4_addFrame_50
theorem miX4_addFrame : MI yX4_addFrame cX4_addFrame 8 (some (.object "PictureReel$Frame")) RX4 6 := ⟨wcX4_addFrame, wmX4_addFrame, wsX4_addFrame, wiX4, by decide +kernel⟩
theorem kX4_addFrame {l : Launch} {D : va_G} {cA : Nat → ClassId} {tS : Nat → Nat} {σ : Sg} {a0 : Nat} {v1 : Int32} {v2 : Int32} {v3 : Int32} {v4 : Int32} {v5 : Int32} {v6 : Int32} {μ : Mm} {fu : Nat} {q : Nat × Mm} (s_a0 : σ a0 = some (4, 0)) (h : fX4_addFrame fu a0 v1 v2 v3 v4 v5 v6 μ = some q) : Ct l D cA tS σ yX4_addFrame cX4_addFrame 8 (some (.object "PictureReel$Frame")) (rmO 3 68) [.ref a0, .int v1, .int v2, .int v3, .int v4, .int v5, .int v6] μ (QR D cA σ (3, 0) (some q.1) q.2) :=
  Ct.of (by decide) (Nat.le_of_ble_eq_true rfl) (fun _ _ _ _ _ _ _ _ C => wX4_addFrame C _ _ _ _ _ _ _ _ s_a0 h)
set_option maxRecDepth 100000 in
set_option maxHeartbeats 4000000 in
theorem wX4_shown {p : Program} {l : Launch} {e : Env} {s : State} {m : MethodId} {args : Array Value} {below : List Frame} {meth : Method} {c : Code} {D : va_G} {cA : Nat → ClassId} {tS : Nat → Nat} {σ : Sg} {q : Int32} (C : Cx p s m args meth c (dm σ) D cA tS σ cX4_shown (some .int) 6 RX4) (a0 : Nat) (a1 : Nat) (v2 : Int32) (v3 : Int32) (v4 : Int32) (μ : Mm) (s_a0 : σ a0 = some (4, 0)) (s_a1 : σ a1 = some (3, 0)) (h : fX4_shown a0 a1 v2 v3 v4 μ = some q) : GG p l e (rmO 1 22) s m args below meth c 0 0 (dm σ) D cA σ 6 (MQ below (QI D cA σ q μ) args s 0 0 (dm σ)) 0 [(0, .ref a0), (1, .ref a1), (2, .int v2), (3, .int v3), (4, .int v4)] [] μ := by
  unfold fX4_shown at h
  refine g_aload_n C dX4_shown_0 1 rfl ?_
  refine g_iload_n C dX4_shown_1 2 rfl ?_
  refine g_iload_n C dX4_shown_2 3 rfl ?_
  obtain ⟨x1, e_x1, h⟩ := nm h
  refine g_callVI C (kX3_covers s_a1 e_x1.symm) miX3_covers lmX4_77 s_a1 (by decide) rfl rfl rfl (Nat.le_of_ble_eq_true rfl) dX4_shown_3 ⟨by decide, by decide⟩ ⟨Nat.zero_le _, Nat.zero_le _⟩ ?_
  refine g_if_ne C 12 dX4_shown_6 rfl (fun q => ?_) (fun q => ?_)
  · replace h := iq q h
    refine g_aload_n C dX4_shown_12 1 rfl ?_
    refine g_iload_n C dX4_shown_13 2 rfl ?_
    refine g_iload_n C dX4_shown_14 3 rfl ?_
    obtain ⟨x2, e_x2, h⟩ := bs h
    refine g_callVI C (kX3_indexAt s_a1 e_x2) miX3_indexAt lmX4_81 s_a1 (by decide) rfl rfl rfl (Nat.le_of_ble_eq_true rfl) dX4_shown_15 ⟨by decide, by decide⟩ ⟨Nat.zero_le _, Nat.zero_le _⟩ ?_
    refine g_istore (lv' := [(5, .int x2), (0, .ref a0), (1, .ref a1), (2, .int v2), (3, .int v3), (4, .int v4)]) C dX4_shown_18 (by decide) rfl ?_
    refine g_iload C dX4_shown_20 0 rfl ?_
    refine g_aload_n C dX4_shown_22 2 rfl ?_
    refine g_wt (fun hT_μ => ?_)
    refine g_getr (j := 6) C s_a1 (by decide) rfl uwX3 (by decide) rfl lfX4_85 rfl dX4_shown_23 ?_
    refine g_geti (j := 1) C (hT_μ.1 _ _ 6 _ s_a1 rfl) (by decide) rfl uwX8 (by decide) rfl lfX4_89 rfl dX4_shown_26 ?_
    refine g_icmp_ne C 37 dX4_shown_29 rfl (fun q => ?_) (fun q => ?_)
    · replace h := iq q h
      refine g_aload_n C dX4_shown_37 1 rfl ?_
      refine g_aload_n C dX4_shown_38 2 rfl ?_
      obtain ⟨r3, e_r3, h⟩ := nm h
      refine g_callVQ C (kX4_tableOf s_a0 s_a1 e_r3.symm) miX4_tableOf lmX4_94 s_a0 (by decide) rfl rfl rfl (Nat.le_of_ble_eq_true rfl) dX4_shown_39 ⟨by decide, by decide⟩ ⟨Nat.zero_le _, Nat.zero_le _⟩ (fun hs_r3 => ?_)
      refine g_getr (j := 0) C (hs_r3 _ rfl) (by decide) rfl uwX7 (by decide) rfl lfX4_65 rfl dX4_shown_42 ?_
      refine g_iload C dX4_shown_45 0 rfl ?_
      obtain ⟨hg4, h⟩ := gs h
      refine g_iald C (hT_μ.1 _ _ 0 _ (hs_r3 _ rfl) rfl) (ib_in hg4) dX4_shown_47 ?_
      cases h
      exact g_ireturn C rfl dX4_shown_48
    · replace h := ip q h
      refine g_iload C dX4_shown_32 5 rfl ?_
      refine g_goto C 48 dX4_shown_34 rfl ?_
      cases h
      exact g_ireturn C rfl dX4_shown_48
  · replace h := ip q h
    refine g_iload C dX4_shown_9 4 rfl ?_
    cases h
    exact g_ireturn C rfl dX4_shown_11
theorem miX4_shown : MI yX4_shown cX4_shown 6 (some .int) RX4 4 := ⟨wcX4_shown, wmX4_shown, wsX4_shown, wiX4, by decide +kernel⟩
theorem kX4_shown {l : Launch} {D : va_G} {cA : Nat → ClassId} {tS : Nat → Nat} {σ : Sg} {a0 : Nat} {a1 : Nat} {v2 : Int32} {v3 : Int32} {v4 : Int32} {μ : Mm} {q : Int32} (s_a0 : σ a0 = some (4, 0)) (s_a1 : σ a1 = some (3, 0)) (h : fX4_shown a0 a1 v2 v3 v4 μ = some q) : Ct l D cA tS σ yX4_shown cX4_shown 6 (some .int) (rmO 1 22) [.ref a0, .ref a1, .int v2, .int v3, .int v4] μ (QI D cA σ q μ) :=
  Ct.of (by decide) (Nat.le_of_ble_eq_true rfl) (fun _ _ _ _ _ _ _ _ C => wX4_shown C _ _ _ _ _ _ s_a0 s_a1 h)
set_option maxRecDepth 100000 in
set_option maxHeartbeats 4000000 in
theorem wX4_leftBehind {p : Program} {l : Launch} {e : Env} {s : State} {m : MethodId} {args : Array Value} {below : List Frame} {meth : Method} {c : Code} {D : va_G} {cA : Nat → ClassId} {tS : Nat → Nat} {σ : Sg} {q : Int32} (C : Cx p s m args meth c (dm σ) D cA tS σ cX4_leftBehind (some .int) 6 RX4) (a0 : Nat) (a1 : Nat) (v2 : Int32) (v3 : Int32) (v4 : Int32) (v5 : Int32) (μ : Mm) (s_a0 : σ a0 = some (4, 0)) (s_a1 : σ a1 = some (3, 0)) (h : fX4_leftBehind a0 a1 v2 v3 v4 v5 μ = some q) : GG p l e (rmO 2 47) s m args below meth c 0 0 (dm σ) D cA σ 6 (MQ below (QI D cA σ q μ) args s 0 0 (dm σ)) 0 [(0, .ref a0), (1, .ref a1), (2, .int v2), (3, .int v3), (4, .int v4), (5, .int v5)] [] μ := by
  unfold fX4_leftBehind at h
  refine g_aload_n C dX4_leftBehind_0 1 rfl ?_
  refine g_iload_n C dX4_leftBehind_1 2 rfl ?_
  refine g_iload_n C dX4_leftBehind_2 3 rfl ?_
  obtain ⟨x1, e_x1, h⟩ := nm h
  refine g_callVI C (kX3_covers s_a1 e_x1.symm) miX3_covers lmX4_77 s_a1 (by decide) rfl rfl rfl (Nat.le_of_ble_eq_true rfl) dX4_leftBehind_3 ⟨by decide, by decide⟩ ⟨Nat.zero_le _, Nat.zero_le _⟩ ?_
  refine g_if_eq C 20 dX4_leftBehind_6 rfl (fun q => ?_) (fun q => ?_)
  · replace h := ip q h
    refine g_iload C dX4_leftBehind_20 4 rfl ?_
    cases h
    exact g_ireturn C rfl dX4_leftBehind_22
  · replace h := iq q h
    refine g_aload_n C dX4_leftBehind_9 1 rfl ?_
    refine g_wt (fun hT_μ => ?_)
    refine g_getr (j := 6) C s_a1 (by decide) rfl uwX3 (by decide) rfl lfX4_85 rfl dX4_leftBehind_10 ?_
    refine g_geti (j := 0) C (hT_μ.1 _ _ 6 _ s_a1 rfl) (by decide) rfl uwX8 (by decide) rfl lfX4_98 rfl dX4_leftBehind_13 ?_
    refine g_iconst (v := 3) C dX4_leftBehind_16 (by decide) ?_
    refine g_icmp_ne C 23 dX4_leftBehind_17 rfl (fun q => ?_) (fun q => ?_)
    · replace h := iq q h
      refine g_aload_n C dX4_leftBehind_23 1 rfl ?_
      refine g_getr (j := 6) C s_a1 (by decide) rfl uwX3 (by decide) rfl lfX4_85 rfl dX4_leftBehind_24 ?_
      refine g_geti (j := 0) C (hT_μ.1 _ _ 6 _ s_a1 rfl) (by decide) rfl uwX8 (by decide) rfl lfX4_98 rfl dX4_leftBehind_27 ?_
      refine g_iconst (v := 2) C dX4_leftBehind_30 (by decide) ?_
      refine g_icmp_ne C 39 dX4_leftBehind_31 rfl (fun q => ?_) (fun q => ?_)
      · replace h := iq q h
        refine g_aload_n C dX4_leftBehind_39 0 rfl ?_
        refine g_aload_n C dX4_leftBehind_40 1 rfl ?_
        refine g_iload_n C dX4_leftBehind_41 2 rfl ?_
        refine g_iload_n C dX4_leftBehind_42 3 rfl ?_
        refine g_iload C dX4_leftBehind_43 4 rfl ?_
        obtain ⟨x2, e_x2, h⟩ := bs h
        refine g_callVI C (kX4_shown s_a0 s_a1 e_x2) miX4_shown lmX4_73 s_a0 (by decide) rfl rfl rfl (Nat.le_of_ble_eq_true rfl) dX4_leftBehind_45 ⟨by decide, by decide⟩ ⟨Nat.zero_le _, Nat.zero_le _⟩ ?_
        cases h
        exact g_ireturn C rfl dX4_leftBehind_48
      · replace h := ip q h
        refine g_iload C dX4_leftBehind_34 5 rfl ?_
        refine g_goto C 48 dX4_leftBehind_36 rfl ?_
        cases h
        exact g_ireturn C rfl dX4_leftBehind_48
    · replace h := ip q h
      refine g_iload C dX4_leftBehind_20 4 rfl ?_
      cases h
      exact g_ireturn C rfl dX4_leftBehind_22
theorem miX4_leftBehind : MI yX4_leftBehind cX4_leftBehind 6 (some .int) RX4 5 := ⟨wcX4_leftBehind, wmX4_leftBehind, wsX4_leftBehind, wiX4, by decide +kernel⟩
theorem kX4_leftBehind {l : Launch} {D : va_G} {cA : Nat → ClassId} {tS : Nat → Nat} {σ : Sg} {a0 : Nat} {a1 : Nat} {v2 : Int32} {v3 : Int32} {v4 : Int32} {v5 : Int32} {μ : Mm} {q : Int32} (s_a0 : σ a0 = some (4, 0)) (s_a1 : σ a1 = some (3, 0)) (h : fX4_leftBehind a0 a1 v2 v3 v4 v5 μ = some q) : Ct l D cA tS σ yX4_leftBehind cX4_leftBehind 6 (some .int) (rmO 2 47) [.ref a0, .ref a1, .int v2, .int v3, .int v4, .int v5] μ (QI D cA σ q μ) :=
  Ct.of (by decide) (Nat.le_of_ble_eq_true rfl) (fun _ _ _ _ _ _ _ _ C => wX4_leftBehind C _ _ _ _ _ _ _ s_a0 s_a1 h)
set_option maxRecDepth 100000 in
set_option maxHeartbeats 4000000 in
theorem wX7_has {p : Program} {l : Launch} {e : Env} {s : State} {m : MethodId} {args : Array Value} {below : List Frame} {meth : Method} {c : Code} {D : va_G} {cA : Nat → ClassId} {tS : Nat → Nat} {σ : Sg} {q : Int32} (C : Cx p s m args meth c (dm σ) D cA tS σ cX7_has (some .boolean) 2 RX7) (a0 : Nat) (v1 : Int32) (μ : Mm) (s_a0 : σ a0 = some (7, 0)) (h : fX7_has a0 v1 μ = q) : GG p l e (rmO 0 0) s m args below meth c 0 0 (dm σ) D cA σ 2 (MQ below (QI D cA σ q μ) args s 0 0 (dm σ)) 0 [(0, .ref a0), (1, .int v1)] [] μ := by
  unfold fX7_has at h
  refine g_iload_n C dX7_has_0 1 rfl ?_
  refine g_if_lt C 16 dX7_has_1 rfl (fun q => ?_) (fun q => ?_)
  · replace h := ip q h
    refine g_iconst (v := 0) C dX7_has_16 (by decide) ?_
    subst h
    exact g_zreturn (r := 0) C rfl dX7_has_17
  · replace h := iq q h
    refine g_iload_n C dX7_has_4 1 rfl ?_
    refine g_aload_n C dX7_has_5 0 rfl ?_
    refine g_geti (j := 1) C s_a0 (by decide) rfl uwX7 (by decide) rfl lfX7_15 rfl dX7_has_6 ?_
    refine g_icmp_ge C 16 dX7_has_9 rfl (fun q => ?_) (fun q => ?_)
    · replace h := ip q h
      refine g_iconst (v := 0) C dX7_has_16 (by decide) ?_
      subst h
      exact g_zreturn (r := 0) C rfl dX7_has_17
    · replace h := iq q h
      refine g_iconst (v := 1) C dX7_has_12 (by decide) ?_
      refine g_goto C 17 dX7_has_13 rfl ?_
      subst h
      exact g_zreturn (r := 1) C rfl dX7_has_17
theorem miX7_has : MI yX7_has cX7_has 2 (some .boolean) RX7 1 := ⟨wcX7_has, wmX7_has, wsX7_has, wiX7, by decide +kernel⟩
theorem kX7_has {l : Launch} {D : va_G} {cA : Nat → ClassId} {tS : Nat → Nat} {σ : Sg} {a0 : Nat} {v1 : Int32} {μ : Mm} {q : Int32} (s_a0 : σ a0 = some (7, 0)) (h : fX7_has a0 v1 μ = q) : Ct l D cA tS σ yX7_has cX7_has 2 (some .boolean) (rmO 0 0) [.ref a0, .int v1] μ (QI D cA σ q μ) :=
  Ct.of (by decide) (Nat.le_of_ble_eq_true rfl) (fun _ _ _ _ _ _ _ _ C => wX7_has C _ _ _ s_a0 h)
set_option maxRecDepth 100000 in
set_option maxHeartbeats 4000000 in
theorem wX4_colourAt_B39 {p : Program} {l : Launch} {e : Env} {s : State} {m : MethodId} {args : Array Value} {below : List Frame} {meth : Method} {c : Code} {D : va_G} {cA : Nat → ClassId} {tS : Nat → Nat} {σ : Sg} {rec39 : Nat → Int32 → Int32 → Int32 → Int32 → Int32 → Int32 → Mm → Option (Int32)} {fu : Nat} {q : Int32} (C : Cx p s m args meth c (dm σ) D cA tS σ cX4_colourAt (some .int) 7 RX4) (hrec39 : ∀ (y0 : Nat) (y1 : Int32) (y2 : Int32) (y3 : Int32) (y4 : Int32) (y5 : Int32) (y6 : Int32) (μ : Mm), σ y0 = some (4, 0) → rec39 y0 y1 y2 y3 y4 y5 y6 μ = some q → GG p l e (rmO 3 72) s m args below meth c 0 0 (dm σ) D cA σ 7 (MQ below (QI D cA σ q μ) args s 0 0 (dm σ)) 39 [(0, .ref y0), (1, .int y1), (2, .int y2), (3, .int y3), (4, .int y4), (5, .int y5), (6, .int y6)] [] μ) (a0 : Nat) (v1 : Int32) (v2 : Int32) (v3 : Int32) (v4 : Int32) (v5 : Int32) (v6 : Int32) (μ : Mm) (s_a0 : σ a0 = some (4, 0)) (h : fX4_colourAt_B39 rec39 fu a0 v1 v2 v3 v4 v5 v6 μ = some q) : GG p l e (rmO 3 72) s m args below meth c 0 0 (dm σ) D cA σ 7 (MQ below (QI D cA σ q μ) args s 0 0 (dm σ)) 39 [(0, .ref a0), (1, .int v1), (2, .int v2), (3, .int v3), (4, .int v4), (5, .int v5), (6, .int v6)] [] μ := by
  unfold fX4_colourAt_B39 at h
  refine g_iload C dX4_colourAt_39 6 rfl ?_
  refine g_iload_n C dX4_colourAt_41 1 rfl ?_
  refine g_icmp_ge C 70 dX4_colourAt_42 rfl (fun q => ?_) (fun q => ?_)
  · replace h := ip q h
    refine g_aload_n C dX4_colourAt_70 0 rfl ?_
    refine g_aload_n C dX4_colourAt_71 0 rfl ?_
    refine g_wt (fun hT_μ => ?_)
    refine g_getr (j := 6) C s_a0 (by decide) rfl uwX4 (by decide) rfl lfX4_20 rfl dX4_colourAt_72 ?_
    refine g_iload_n C dX4_colourAt_75 1 rfl ?_
    obtain ⟨hg1, h⟩ := gs h
    refine g_aald C (hT_μ.1 _ _ 6 _ s_a0 rfl) (ib_in hg1) dX4_colourAt_76 ?_
    refine g_iload_n C dX4_colourAt_77 2 rfl ?_
    refine g_iload_n C dX4_colourAt_78 3 rfl ?_
    refine g_iload C dX4_colourAt_79 5 rfl ?_
    obtain ⟨x2, e_x2, h⟩ := bs h
    refine g_callVI C (kX4_shown s_a0 (hT_μ.2 _ _ _ (hT_μ.1 _ _ 6 _ s_a0 rfl) (ib_lt hg1)) e_x2) miX4_shown lmX4_73 s_a0 (by decide) rfl rfl rfl (Nat.le_of_ble_eq_true rfl) dX4_colourAt_81 ⟨by decide, by decide⟩ ⟨Nat.zero_le _, Nat.zero_le _⟩ ?_
    cases h
    exact g_ireturn C rfl dX4_colourAt_84
  · replace h := iq q h
    refine g_aload_n C dX4_colourAt_45 0 rfl ?_
    refine g_aload_n C dX4_colourAt_46 0 rfl ?_
    refine g_wt (fun hT_μ => ?_)
    refine g_getr (j := 6) C s_a0 (by decide) rfl uwX4 (by decide) rfl lfX4_20 rfl dX4_colourAt_47 ?_
    refine g_iload C dX4_colourAt_50 6 rfl ?_
    obtain ⟨hg3, h⟩ := gs h
    refine g_aald C (hT_μ.1 _ _ 6 _ s_a0 rfl) (ib_in hg3) dX4_colourAt_52 ?_
    refine g_iload_n C dX4_colourAt_53 2 rfl ?_
    refine g_iload_n C dX4_colourAt_54 3 rfl ?_
    refine g_iload C dX4_colourAt_55 5 rfl ?_
    refine g_iload C dX4_colourAt_57 4 rfl ?_
    obtain ⟨x4, e_x4, h⟩ := bs h
    refine g_callVI C (kX4_leftBehind s_a0 (hT_μ.2 _ _ _ (hT_μ.1 _ _ 6 _ s_a0 rfl) (ib_lt hg3)) e_x4) miX4_leftBehind lmX4_69 s_a0 (by decide) rfl rfl rfl (Nat.le_of_ble_eq_true rfl) dX4_colourAt_59 ⟨by decide, by decide⟩ ⟨Nat.zero_le _, Nat.zero_le _⟩ ?_
    refine g_istore (lv' := [(5, .int x4), (0, .ref a0), (1, .int v1), (2, .int v2), (3, .int v3), (4, .int v4), (6, .int v6)]) C dX4_colourAt_62 (by decide) rfl ?_
    obtain ⟨x5, e_x5, h⟩ := nm h
    refine g_iinc (v := x5) (lv' := [(6, .int x5), (5, .int x4), (0, .ref a0), (1, .int v1), (2, .int v2), (3, .int v3), (4, .int v4)]) C dX4_colourAt_64 (by decide) 6 rfl 1 (by decide) e_x5.symm rfl ?_
    refine g_goto C 39 dX4_colourAt_67 rfl ?_
    exact g_lv [2, 3, 4, 5, 6, 1, 0] rfl (hrec39 _ _ _ _ _ _ _ _ s_a0 h)
theorem wX4_colourAt_L39 {p : Program} {l : Launch} {e : Env} {s : State} {m : MethodId} {args : Array Value} {below : List Frame} {meth : Method} {c : Code} {D : va_G} {cA : Nat → ClassId} {tS : Nat → Nat} {σ : Sg} {fu : Nat} {q : Int32} (C : Cx p s m args meth c (dm σ) D cA tS σ cX4_colourAt (some .int) 7 RX4) : ∀ (n : Nat) (a0 : Nat) (v1 : Int32) (v2 : Int32) (v3 : Int32) (v4 : Int32) (v5 : Int32) (v6 : Int32) (μ : Mm), (σ a0 = some (4, 0)) → fX4_colourAt_L39 fu n a0 v1 v2 v3 v4 v5 v6 μ = some q → GG p l e (rmO 3 72) s m args below meth c 0 0 (dm σ) D cA σ 7 (MQ below (QI D cA σ q μ) args s 0 0 (dm σ)) 39 [(0, .ref a0), (1, .int v1), (2, .int v2), (3, .int v3), (4, .int v4), (5, .int v5), (6, .int v6)] [] μ := by
  intro n
  induction n with
  | zero => intro a0 v1 v2 v3 v4 v5 v6 μ s_a0 h; cases h
  | succ n ih => intro a0 v1 v2 v3 v4 v5 v6 μ s_a0 h; exact wX4_colourAt_B39 C (fun _ _ _ _ _ _ _ _ k0 h => ih _ _ _ _ _ _ _ _ k0 h) _ _ _ _ _ _ _ _ s_a0 h
set_option maxRecDepth 100000 in
set_option maxHeartbeats 4000000 in
theorem wX4_colourAt_L30 {p : Program} {l : Launch} {e : Env} {s : State} {m : MethodId} {args : Array Value} {below : List Frame} {meth : Method} {c : Code} {D : va_G} {cA : Nat → ClassId} {tS : Nat → Nat} {σ : Sg} {fu : Nat} {q : Int32} (C : Cx p s m args meth c (dm σ) D cA tS σ cX4_colourAt (some .int) 7 RX4) (a0 : Nat) (v1 : Int32) (v2 : Int32) (v3 : Int32) (t0 : Int32) (μ : Mm) (s_a0 : σ a0 = some (4, 0)) (h : fX4_colourAt_L30 fu a0 v1 v2 v3 t0 μ = some q) : GG p l e (rmO 3 72) s m args below meth c 0 0 (dm σ) D cA σ 7 (MQ below (QI D cA σ q μ) args s 0 0 (dm σ)) 30 [(0, .ref a0), (1, .int v1), (2, .int v2), (3, .int v3)] [.int t0] μ := by
  unfold fX4_colourAt_L30 at h
  refine g_istore (lv' := [(4, .int t0), (0, .ref a0), (1, .int v1), (2, .int v2), (3, .int v3)]) C dX4_colourAt_30 (by decide) rfl ?_
  refine g_iload C dX4_colourAt_32 0 rfl ?_
  refine g_istore (lv' := [(5, .int t0), (4, .int t0), (0, .ref a0), (1, .int v1), (2, .int v2), (3, .int v3)]) C dX4_colourAt_34 (by decide) rfl ?_
  refine g_iconst (v := 0) C dX4_colourAt_36 (by decide) ?_
  refine g_istore (lv' := [(6, .int 0), (5, .int t0), (4, .int t0), (0, .ref a0), (1, .int v1), (2, .int v2), (3, .int v3)]) C dX4_colourAt_37 (by decide) rfl ?_
  exact g_lv [3, 4, 5, 6, 2, 1, 0] rfl (wX4_colourAt_L39 C fu _ _ _ _ _ _ _ _ s_a0 h)
set_option maxRecDepth 100000 in
set_option maxHeartbeats 4000000 in
theorem wX4_colourAt {p : Program} {l : Launch} {e : Env} {s : State} {m : MethodId} {args : Array Value} {below : List Frame} {meth : Method} {c : Code} {D : va_G} {cA : Nat → ClassId} {tS : Nat → Nat} {σ : Sg} {fu : Nat} {q : Int32} (C : Cx p s m args meth c (dm σ) D cA tS σ cX4_colourAt (some .int) 7 RX4) (a0 : Nat) (v1 : Int32) (v2 : Int32) (v3 : Int32) (μ : Mm) (s_a0 : σ a0 = some (4, 0)) (h : fX4_colourAt fu a0 v1 v2 v3 μ = some q) : GG p l e (rmO 3 72) s m args below meth c 0 0 (dm σ) D cA σ 7 (MQ below (QI D cA σ q μ) args s 0 0 (dm σ)) 0 [(0, .ref a0), (1, .int v1), (2, .int v2), (3, .int v3)] [] μ := by
  unfold fX4_colourAt at h
  refine g_aload_n C dX4_colourAt_0 0 rfl ?_
  refine g_wt (fun hT_μ => ?_)
  refine g_getr (j := 5) C s_a0 (by decide) rfl uwX4 (by decide) rfl lfX4_12 rfl dX4_colourAt_1 ?_
  refine g_aload_n C dX4_colourAt_4 0 rfl ?_
  refine g_geti (j := 2) C s_a0 (by decide) rfl uwX4 (by decide) rfl lfX4_36 rfl dX4_colourAt_5 ?_
  obtain ⟨x1, e_x1, h⟩ := nm h
  refine g_callVI C (kX7_has (hT_μ.1 _ _ 5 _ s_a0 rfl) e_x1.symm) miX7_has lmX4_61 (hT_μ.1 _ _ 5 _ s_a0 rfl) (by decide) rfl rfl rfl (Nat.le_of_ble_eq_true rfl) dX4_colourAt_8 ⟨by decide, by decide⟩ ⟨Nat.zero_le _, Nat.zero_le _⟩ ?_
  refine g_if_eq C 29 dX4_colourAt_11 rfl (fun q => ?_) (fun q => ?_)
  · replace h := ip q h
    refine g_iconst (v := -1) C dX4_colourAt_29 (by decide) ?_
    exact g_lv [0, 1, 2, 3] rfl (wX4_colourAt_L30 C _ _ _ _ _ _ s_a0 h)
  · replace h := iq q h
    refine g_aload_n C dX4_colourAt_14 0 rfl ?_
    refine g_getr (j := 5) C s_a0 (by decide) rfl uwX4 (by decide) rfl lfX4_12 rfl dX4_colourAt_15 ?_
    refine g_getr (j := 0) C (hT_μ.1 _ _ 5 _ s_a0 rfl) (by decide) rfl uwX7 (by decide) rfl lfX4_65 rfl dX4_colourAt_18 ?_
    refine g_aload_n C dX4_colourAt_21 0 rfl ?_
    refine g_geti (j := 2) C s_a0 (by decide) rfl uwX4 (by decide) rfl lfX4_36 rfl dX4_colourAt_22 ?_
    obtain ⟨hg2, h⟩ := gs h
    refine g_iald C (hT_μ.1 _ _ 0 _ (hT_μ.1 _ _ 5 _ s_a0 rfl) rfl) (ib_in hg2) dX4_colourAt_25 ?_
    refine g_goto C 30 dX4_colourAt_26 rfl ?_
    exact g_lv [0, 1, 2, 3] rfl (wX4_colourAt_L30 C _ _ _ _ _ _ s_a0 h)
theorem miX4_colourAt : MI yX4_colourAt cX4_colourAt 7 (some .int) RX4 3 := ⟨wcX4_colourAt, wmX4_colourAt, wsX4_colourAt, wiX4, by decide +kernel⟩
theorem kX4_colourAt {l : Launch} {D : va_G} {cA : Nat → ClassId} {tS : Nat → Nat} {σ : Sg} {a0 : Nat} {v1 : Int32} {v2 : Int32} {v3 : Int32} {μ : Mm} {fu : Nat} {q : Int32} (s_a0 : σ a0 = some (4, 0)) (h : fX4_colourAt fu a0 v1 v2 v3 μ = some q) : Ct l D cA tS σ yX4_colourAt cX4_colourAt 7 (some .int) (rmO 3 72) [.ref a0, .int v1, .int v2, .int v3] μ (QI D cA σ q μ) :=
  Ct.of (by decide) (Nat.le_of_ble_eq_true rfl) (fun _ _ _ _ _ _ _ _ C => wX4_colourAt C _ _ _ _ _ s_a0 h)
set_option maxRecDepth 100000 in
set_option maxHeartbeats 4000000 in
theorem wX5_exchange {p : Program} {l : Launch} {e : Env} {s : State} {m : MethodId} {args : Array Value} {below : List Frame} {meth : Method} {c : Code} {D : va_G} {cA : Nat → ClassId} {tS : Nat → Nat} {σ : Sg} {q : Nat × Mm} (C : Cx p s m args meth c (dm σ) D cA tS σ cX5_exchange (some (.object "PictureReel$Picture")) 3 RX5) (a0 : Nat) (a1 : Nat) (μ : Mm) (s_a0 : σ a0 = some (5, 0)) (s_a1 : σ a1 = some (4, 0)) (h : fX5_exchange a0 a1 μ = q) : GG p l e (rmO 0 0) s m args below meth c 0 0 (dm σ) D cA σ 3 (MQ below (QR D cA σ (4, 0) (some q.1) q.2) args s 0 0 (dm σ)) 0 [(0, .ref a0), (1, .ref a1)] [] μ := by
  unfold fX5_exchange at h
  refine g_aload_n C dX5_exchange_0 0 rfl ?_
  refine g_wt (fun hT_μ => ?_)
  refine g_getr (j := 3) C s_a0 (by decide) rfl uwX5 (by decide) rfl lfX5_35 rfl dX5_exchange_1 ?_
  obtain ⟨r1, e_r1, h⟩ := nm h
  refine g_topr e_r1 ?_
  have s_r1 : σ r1 = some (4, 0) := by rw [e_r1]; exact (hT_μ.1 _ _ 3 _ s_a0 rfl)
  refine g_astore_n (lv' := [(2, .ref r1), (0, .ref a0), (1, .ref a1)]) C dX5_exchange_4 (by decide) rfl ?_
  refine g_aload_n C dX5_exchange_5 1 rfl ?_
  refine g_aload_n C dX5_exchange_6 2 rfl ?_
  refine g_putr (j := 3) C s_a0 (by decide) rfl s_a1 rfl uwX5 tyX5_ok nmX5 (by decide) rfl lfX5_35 rfl rfl rfl (fun _ _ => rfl) (fun _ _ => Nat.le_of_ble_eq_true rfl) dX5_exchange_7 ?_
  obtain ⟨μ2, e_μ2, h⟩ := nm h
  refine g_mu e_μ2 ?_
  refine g_aload_n C dX5_exchange_10 0 rfl ?_
  subst h
  exact g_areturn C (Or.inl ⟨_, rfl⟩) (fun _ h => by cases h; exact s_r1) dX5_exchange_11
theorem miX5_exchange : MI yX5_exchange cX5_exchange 3 (some (.object "PictureReel$Picture")) RX5 1 := ⟨wcX5_exchange, wmX5_exchange, wsX5_exchange, wiX5, by decide +kernel⟩
theorem kX5_exchange {l : Launch} {D : va_G} {cA : Nat → ClassId} {tS : Nat → Nat} {σ : Sg} {a0 : Nat} {a1 : Nat} {μ : Mm} {q : Nat × Mm} (s_a0 : σ a0 = some (5, 0)) (s_a1 : σ a1 = some (4, 0)) (h : fX5_exchange a0 a1 μ = q) : Ct l D cA tS σ yX5_exchange cX5_exchange 3 (some (.object "PictureReel$Picture")) (rmO 0 0) [.ref a0, .ref a1] μ (QR D cA σ (4, 0) (some q.1) q.2) :=
  Ct.of (by decide) (Nat.le_of_ble_eq_true rfl) (fun _ _ _ _ _ _ _ _ C => wX5_exchange C _ _ _ s_a0 s_a1 h)
set_option maxRecDepth 100000 in
set_option maxHeartbeats 4000000 in
theorem wX5_dropControl {p : Program} {l : Launch} {e : Env} {s : State} {m : MethodId} {args : Array Value} {below : List Frame} {meth : Method} {c : Code} {D : va_G} {cA : Nat → ClassId} {tS : Nat → Nat} {σ : Sg} {q : Mm} (C : Cx p s m args meth c (dm σ) D cA tS σ cX5_dropControl none 1 RX5) (a0 : Nat) (μ : Mm) (s_a0 : σ a0 = some (5, 0)) (h : fX5_dropControl a0 μ = some q) : GG p l e (rmO 2 44) s m args below meth c 0 0 (dm σ) D cA σ 1 (MQ below (QV D cA σ q) args s 0 0 (dm σ)) 0 [(0, .ref a0)] [] μ := by
  unfold fX5_dropControl at h
  refine g_aload_n C dX5_dropControl_0 0 rfl ?_
  refine g_wt (fun hT_μ => ?_)
  refine g_getr (j := 2) C s_a0 (by decide) rfl uwX5 (by decide) rfl lfX5_28 rfl dX5_dropControl_1 ?_
  obtain ⟨μ1, e_μ1, h⟩ := bs h
  refine g_callVV C (kX8_reset (hT_μ.1 _ _ 2 _ s_a0 rfl) e_μ1) miX8_reset lmX5_154 (hT_μ.1 _ _ 2 _ s_a0 rfl) (by decide) rfl rfl rfl (Nat.le_of_ble_eq_true rfl) dX5_dropControl_4 ⟨by decide, by decide⟩ ⟨Nat.zero_le _, Nat.zero_le _⟩ ?_
  refine g_aload_n C dX5_dropControl_7 0 rfl ?_
  refine g_iconst (v := 0) C dX5_dropControl_8 (by decide) ?_
  refine g_puti (j := 7) C s_a0 (by decide) rfl uwX5 tyX5_ok nmX5 (by decide) rfl lfX5_132 rfl rfl rfl (fun _ _ => rfl) (fun _ _ => Nat.le_of_ble_eq_true rfl) dX5_dropControl_9 ?_
  obtain ⟨μ2, e_μ2, h⟩ := nm h
  refine g_mu e_μ2 ?_
  cases h
  exact g_return C dX5_dropControl_12
theorem miX5_dropControl : MI yX5_dropControl cX5_dropControl 1 none RX5 0 := ⟨wcX5_dropControl, wmX5_dropControl, wsX5_dropControl, wiX5, by decide +kernel⟩
theorem kX5_dropControl {l : Launch} {D : va_G} {cA : Nat → ClassId} {tS : Nat → Nat} {σ : Sg} {a0 : Nat} {μ : Mm} {q : Mm} (s_a0 : σ a0 = some (5, 0)) (h : fX5_dropControl a0 μ = some q) : Ct l D cA tS σ yX5_dropControl cX5_dropControl 1 none (rmO 2 44) [.ref a0] μ (QV D cA σ q) :=
  Ct.of (by decide) (Nat.le_of_ble_eq_true rfl) (fun _ _ _ _ _ _ _ _ C => wX5_dropControl C _ _ s_a0 h)
set_option maxRecDepth 100000 in
set_option maxHeartbeats 4000000 in
theorem wX5_refuse {p : Program} {l : Launch} {e : Env} {s : State} {m : MethodId} {args : Array Value} {below : List Frame} {meth : Method} {c : Code} {D : va_G} {cA : Nat → ClassId} {tS : Nat → Nat} {σ : Sg} {q : Mm} (C : Cx p s m args meth c (dm σ) D cA tS σ cX5_refuse none 3 RX5) (a0 : Nat) (v1 : Int32) (v2 : Int32) (μ : Mm) (s_a0 : σ a0 = some (5, 0)) (h : fX5_refuse a0 v1 v2 μ = q) : GG p l e (rmO 0 0) s m args below meth c 0 0 (dm σ) D cA σ 3 (MQ below (QV D cA σ q) args s 0 0 (dm σ)) 0 [(0, .ref a0), (1, .int v1), (2, .int v2)] [] μ := by
  unfold fX5_refuse at h
  refine g_aload_n C dX5_refuse_0 0 rfl ?_
  refine g_geti (j := 9) C s_a0 (by decide) rfl uwX5 (by decide) rfl lfX5_39 rfl dX5_refuse_1 ?_
  refine g_if_ne C 17 dX5_refuse_4 rfl (fun q => ?_) (fun q => ?_)
  · replace h := iq q h
    subst h
    exact g_return C dX5_refuse_17
  · replace h := ip q h
    refine g_aload_n C dX5_refuse_7 0 rfl ?_
    refine g_iload_n C dX5_refuse_8 1 rfl ?_
    refine g_puti (j := 9) C s_a0 (by decide) rfl uwX5 tyX5_ok nmX5 (by decide) rfl lfX5_39 rfl rfl rfl (fun _ _ => rfl) (fun _ _ => Nat.le_of_ble_eq_true rfl) dX5_refuse_9 ?_
    obtain ⟨μ1, e_μ1, h⟩ := nm h
    refine g_mu e_μ1 ?_
    refine g_aload_n C dX5_refuse_12 0 rfl ?_
    refine g_iload_n C dX5_refuse_13 2 rfl ?_
    refine g_puti (j := 10) C s_a0 (by decide) rfl uwX5 tyX5_ok nmX5 (by decide) rfl lfX5_43 rfl rfl rfl (fun _ _ => rfl) (fun _ _ => Nat.le_of_ble_eq_true rfl) dX5_refuse_14 ?_
    obtain ⟨μ2, e_μ2, h⟩ := nm h
    refine g_mu e_μ2 ?_
    subst h
    exact g_return C dX5_refuse_17
theorem miX5_refuse : MI yX5_refuse cX5_refuse 3 none RX5 2 := ⟨wcX5_refuse, wmX5_refuse, wsX5_refuse, wiX5, by decide +kernel⟩
theorem kX5_refuse {l : Launch} {D : va_G} {cA : Nat → ClassId} {tS : Nat → Nat} {σ : Sg} {a0 : Nat} {v1 : Int32} {v2 : Int32} {μ : Mm} {q : Mm} (s_a0 : σ a0 = some (5, 0)) (h : fX5_refuse a0 v1 v2 μ = q) : Ct l D cA tS σ yX5_refuse cX5_refuse 3 none (rmO 0 0) [.ref a0, .int v1, .int v2] μ (QV D cA σ q) :=
  Ct.of (by decide) (Nat.le_of_ble_eq_true rfl) (fun _ _ _ _ _ _ _ _ C => wX5_refuse C _ _ _ _ s_a0 h)
set_option maxRecDepth 100000 in
set_option maxHeartbeats 4000000 in
theorem wX5_nextByte_L20 {p : Program} {l : Launch} {e : Env} {s : State} {m : MethodId} {args : Array Value} {below : List Frame} {meth : Method} {c : Code} {D : va_G} {cA : Nat → ClassId} {tS : Nat → Nat} {σ : Sg} {q : Int32 × Mm} (C : Cx p s m args meth c (dm σ) D cA tS σ cX5_nextByte (some .int) 1 RX5) (a0 : Nat) (μ : Mm) (s_a0 : σ a0 = some (5, 0)) (h : fX5_nextByte_L20 a0 μ = some q) : GG p l e (rmO 1 22) s m args below meth c 0 0 (dm σ) D cA σ 1 (MQ below (QI D cA σ q.1 q.2) args s 0 0 (dm σ)) 20 [(0, .ref a0)] [] μ := by
  unfold fX5_nextByte_L20 at h
  refine g_aload_n C dX5_nextByte_20 0 rfl ?_
  refine g_geti (j := 9) C s_a0 (by decide) rfl uwX5 (by decide) rfl lfX5_39 rfl dX5_nextByte_21 ?_
  refine g_if_eq C 29 dX5_nextByte_24 rfl (fun q => ?_) (fun q => ?_)
  · replace h := ip q h
    refine g_aload_n C dX5_nextByte_29 0 rfl ?_
    refine g_dup C dX5_nextByte_30 rfl ?_
    refine g_geti (j := 5) C s_a0 (by decide) rfl uwX5 (by decide) rfl lfX5_58 rfl dX5_nextByte_31 ?_
    refine g_iconst (v := 1) C dX5_nextByte_34 (by decide) ?_
    refine g_iadd C dX5_nextByte_35 ?_
    refine g_puti (j := 5) C s_a0 (by decide) rfl uwX5 tyX5_ok nmX5 (by decide) rfl lfX5_58 rfl rfl rfl (fun _ _ => rfl) (fun _ _ => Nat.le_of_ble_eq_true rfl) dX5_nextByte_36 ?_
    obtain ⟨μ1, e_μ1, h⟩ := nm h
    refine g_mu e_μ1 ?_
    refine g_aload_n C dX5_nextByte_39 0 rfl ?_
    refine g_wt (fun hT_μ1 => ?_)
    refine g_getr (j := 0) C s_a0 (by decide) rfl uwX5 (by decide) rfl lfX5_12 rfl dX5_nextByte_40 ?_
    refine g_aload_n C dX5_nextByte_43 0 rfl ?_
    refine g_geti (j := 5) C s_a0 (by decide) rfl uwX5 (by decide) rfl lfX5_58 rfl dX5_nextByte_44 ?_
    refine g_iconst (v := 1) C dX5_nextByte_47 (by decide) ?_
    refine g_isub C dX5_nextByte_48 ?_
    obtain ⟨x2, e_x2, h⟩ := bs h
    refine g_callVI C (kX0_at (hT_μ1.1 _ _ 0 _ s_a0 rfl) e_x2) miX0_at lmX5_84 (hT_μ1.1 _ _ 0 _ s_a0 rfl) (by decide) rfl rfl rfl (Nat.le_of_ble_eq_true rfl) dX5_nextByte_49 ⟨by decide, by decide⟩ ⟨Nat.zero_le _, Nat.zero_le _⟩ ?_
    cases h
    exact g_ireturn C rfl dX5_nextByte_52
  · replace h := iq q h
    refine g_iconst (v := 0) C dX5_nextByte_27 (by decide) ?_
    cases h
    exact g_ireturn C rfl dX5_nextByte_28
set_option maxRecDepth 100000 in
set_option maxHeartbeats 4000000 in
theorem wX5_nextByte {p : Program} {l : Launch} {e : Env} {s : State} {m : MethodId} {args : Array Value} {below : List Frame} {meth : Method} {c : Code} {D : va_G} {cA : Nat → ClassId} {tS : Nat → Nat} {σ : Sg} {q : Int32 × Mm} (C : Cx p s m args meth c (dm σ) D cA tS σ cX5_nextByte (some .int) 1 RX5) (a0 : Nat) (μ : Mm) (s_a0 : σ a0 = some (5, 0)) (h : fX5_nextByte a0 μ = some q) : GG p l e (rmO 1 22) s m args below meth c 0 0 (dm σ) D cA σ 1 (MQ below (QI D cA σ q.1 q.2) args s 0 0 (dm σ)) 0 [(0, .ref a0)] [] μ := by
  unfold fX5_nextByte at h
  refine g_aload_n C dX5_nextByte_0 0 rfl ?_
  refine g_geti (j := 5) C s_a0 (by decide) rfl uwX5 (by decide) rfl lfX5_58 rfl dX5_nextByte_1 ?_
  refine g_aload_n C dX5_nextByte_4 0 rfl ?_
  refine g_geti (j := 4) C s_a0 (by decide) rfl uwX5 (by decide) rfl lfX5_55 rfl dX5_nextByte_5 ?_
  refine g_icmp_lt C 20 dX5_nextByte_8 rfl (fun q => ?_) (fun q => ?_)
  · replace h := ip q h
    exact g_lv [0] rfl (wX5_nextByte_L20 C _ _ s_a0 h)
  · replace h := iq q h
    refine g_aload_n C dX5_nextByte_11 0 rfl ?_
    refine g_iconst (v := 2) C dX5_nextByte_12 (by decide) ?_
    refine g_aload_n C dX5_nextByte_13 0 rfl ?_
    refine g_geti (j := 4) C s_a0 (by decide) rfl uwX5 (by decide) rfl lfX5_55 rfl dX5_nextByte_14 ?_
    obtain ⟨μ1, e_μ1, h⟩ := nm h
    refine g_callVV C (kX5_refuse s_a0 e_μ1.symm) miX5_refuse lmX5_80 s_a0 (by decide) rfl rfl rfl (Nat.le_of_ble_eq_true rfl) dX5_nextByte_17 ⟨by decide, by decide⟩ ⟨Nat.zero_le _, Nat.zero_le _⟩ ?_
    exact g_lv [0] rfl (wX5_nextByte_L20 C _ _ s_a0 h)
theorem miX5_nextByte : MI yX5_nextByte cX5_nextByte 1 (some .int) RX5 0 := ⟨wcX5_nextByte, wmX5_nextByte, wsX5_nextByte, wiX5, by decide +kernel⟩
theorem kX5_nextByte {l : Launch} {D : va_G} {cA : Nat → ClassId} {tS : Nat → Nat} {σ : Sg} {a0 : Nat} {μ : Mm} {q : Int32 × Mm} (s_a0 : σ a0 = some (5, 0)) (h : fX5_nextByte a0 μ = some q) : Ct l D cA tS σ yX5_nextByte cX5_nextByte 1 (some .int) (rmO 1 22) [.ref a0] μ (QI D cA σ q.1 q.2) :=
  Ct.of (by decide) (Nat.le_of_ble_eq_true rfl) (fun _ _ _ _ _ _ _ _ C => wX5_nextByte C _ _ s_a0 h)
set_option maxRecDepth 100000 in
set_option maxHeartbeats 4000000 in
theorem wX5_parseEnd {p : Program} {l : Launch} {e : Env} {s : State} {m : MethodId} {args : Array Value} {below : List Frame} {meth : Method} {c : Code} {D : va_G} {cA : Nat → ClassId} {tS : Nat → Nat} {σ : Sg} {q : Mm} (C : Cx p s m args meth c (dm σ) D cA tS σ cX5_parseEnd none 1 RX5) (a0 : Nat) (μ : Mm) (s_a0 : σ a0 = some (5, 0)) (h : fX5_parseEnd a0 μ = q) : GG p l e (rmO 1 22) s m args below meth c 0 0 (dm σ) D cA σ 1 (MQ below (QV D cA σ q) args s 0 0 (dm σ)) 0 [(0, .ref a0)] [] μ := by
  unfold fX5_parseEnd at h
  refine g_aload_n C dX5_parseEnd_0 0 rfl ?_
  refine g_iconst (v := 1) C dX5_parseEnd_1 (by decide) ?_
  refine g_puti (j := 8) C s_a0 (by decide) rfl uwX5 tyX5_ok nmX5 (by decide) rfl lfX5_65 rfl rfl rfl (fun _ _ => rfl) (fun _ _ => Nat.le_of_ble_eq_true rfl) dX5_parseEnd_2 ?_
  obtain ⟨μ1, e_μ1, h⟩ := nm h
  refine g_mu e_μ1 ?_
  refine g_aload_n C dX5_parseEnd_5 0 rfl ?_
  refine g_geti (j := 5) C s_a0 (by decide) rfl uwX5 (by decide) rfl lfX5_58 rfl dX5_parseEnd_6 ?_
  refine g_aload_n C dX5_parseEnd_9 0 rfl ?_
  refine g_geti (j := 4) C s_a0 (by decide) rfl uwX5 (by decide) rfl lfX5_55 rfl dX5_parseEnd_10 ?_
  refine g_icmp_ge C 26 dX5_parseEnd_13 rfl (fun q => ?_) (fun q => ?_)
  · replace h := ip q h
    subst h
    exact g_return C dX5_parseEnd_26
  · replace h := iq q h
    refine g_aload_n C dX5_parseEnd_16 0 rfl ?_
    refine g_bipush (v := 10) C dX5_parseEnd_17 (by decide) ?_
    refine g_aload_n C dX5_parseEnd_19 0 rfl ?_
    refine g_geti (j := 5) C s_a0 (by decide) rfl uwX5 (by decide) rfl lfX5_58 rfl dX5_parseEnd_20 ?_
    obtain ⟨μ2, e_μ2, h⟩ := nm h
    refine g_callVV C (kX5_refuse s_a0 e_μ2.symm) miX5_refuse lmX5_80 s_a0 (by decide) rfl rfl rfl (Nat.le_of_ble_eq_true rfl) dX5_parseEnd_23 ⟨by decide, by decide⟩ ⟨Nat.zero_le _, Nat.zero_le _⟩ ?_
    subst h
    exact g_return C dX5_parseEnd_26
theorem miX5_parseEnd : MI yX5_parseEnd cX5_parseEnd 1 none RX5 0 := ⟨wcX5_parseEnd, wmX5_parseEnd, wsX5_parseEnd, wiX5, by decide +kernel⟩
theorem kX5_parseEnd {l : Launch} {D : va_G} {cA : Nat → ClassId} {tS : Nat → Nat} {σ : Sg} {a0 : Nat} {μ : Mm} {q : Mm} (s_a0 : σ a0 = some (5, 0)) (h : fX5_parseEnd a0 μ = q) : Ct l D cA tS σ yX5_parseEnd cX5_parseEnd 1 none (rmO 1 22) [.ref a0] μ (QV D cA σ q) :=
  Ct.of (by decide) (Nat.le_of_ble_eq_true rfl) (fun _ _ _ _ _ _ _ _ C => wX5_parseEnd C _ _ s_a0 h)
set_option maxRecDepth 100000 in
set_option maxHeartbeats 4000000 in
theorem wX5_expect {p : Program} {l : Launch} {e : Env} {s : State} {m : MethodId} {args : Array Value} {below : List Frame} {meth : Method} {c : Code} {D : va_G} {cA : Nat → ClassId} {tS : Nat → Nat} {σ : Sg} {q : Mm} (C : Cx p s m args meth c (dm σ) D cA tS σ cX5_expect none 3 RX5) (a0 : Nat) (v1 : Int32) (μ : Mm) (s_a0 : σ a0 = some (5, 0)) (h : fX5_expect a0 v1 μ = some q) : GG p l e (rmO 2 42) s m args below meth c 0 0 (dm σ) D cA σ 3 (MQ below (QV D cA σ q) args s 0 0 (dm σ)) 0 [(0, .ref a0), (1, .int v1)] [] μ := by
  unfold fX5_expect at h
  refine g_aload_n C dX5_expect_0 0 rfl ?_
  refine g_geti (j := 5) C s_a0 (by decide) rfl uwX5 (by decide) rfl lfX5_58 rfl dX5_expect_1 ?_
  obtain ⟨x1, e_x1, h⟩ := nm h
  refine g_topi e_x1 ?_
  refine g_istore_n (lv' := [(2, .int x1), (0, .ref a0), (1, .int v1)]) C dX5_expect_4 (by decide) rfl ?_
  refine g_aload_n C dX5_expect_5 1 rfl ?_
  obtain ⟨q2, e_q2, h⟩ := bs h
  refine g_callVI C (kX5_nextByte s_a0 e_q2) miX5_nextByte lmX5_87 s_a0 (by decide) rfl rfl rfl (Nat.le_of_ble_eq_true rfl) dX5_expect_6 ⟨by decide, by decide⟩ ⟨Nat.zero_le _, Nat.zero_le _⟩ ?_
  refine g_iload_n C dX5_expect_9 2 rfl ?_
  refine g_icmp_eq C 19 dX5_expect_10 rfl (fun q => ?_) (fun q => ?_)
  · replace h := ip q h
    cases h
    exact g_return C dX5_expect_19
  · replace h := iq q h
    refine g_aload_n C dX5_expect_13 1 rfl ?_
    refine g_iconst (v := 5) C dX5_expect_14 (by decide) ?_
    refine g_iload_n C dX5_expect_15 0 rfl ?_
    obtain ⟨μ3, e_μ3, h⟩ := nm h
    refine g_callVV C (kX5_refuse s_a0 e_μ3.symm) miX5_refuse lmX5_80 s_a0 (by decide) rfl rfl rfl (Nat.le_of_ble_eq_true rfl) dX5_expect_16 ⟨by decide, by decide⟩ ⟨Nat.zero_le _, Nat.zero_le _⟩ ?_
    cases h
    exact g_return C dX5_expect_19
theorem miX5_expect : MI yX5_expect cX5_expect 3 none RX5 1 := ⟨wcX5_expect, wmX5_expect, wsX5_expect, wiX5, by decide +kernel⟩
theorem kX5_expect {l : Launch} {D : va_G} {cA : Nat → ClassId} {tS : Nat → Nat} {σ : Sg} {a0 : Nat} {v1 : Int32} {μ : Mm} {q : Mm} (s_a0 : σ a0 = some (5, 0)) (h : fX5_expect a0 v1 μ = some q) : Ct l D cA tS σ yX5_expect cX5_expect 3 none (rmO 2 42) [.ref a0, .int v1] μ (QV D cA σ q) :=
  Ct.of (by decide) (Nat.le_of_ble_eq_true rfl) (fun _ _ _ _ _ _ _ _ C => wX5_expect C _ _ _ s_a0 h)
set_option maxRecDepth 100000 in
set_option maxHeartbeats 4000000 in
theorem wX5_gatherRows_B39 {p : Program} {l : Launch} {e : Env} {s : State} {m : MethodId} {args : Array Value} {below : List Frame} {meth : Method} {c : Code} {D : va_G} {cA : Nat → ClassId} {tS : Nat → Nat} {σ : Sg} {rec12 : Nat → Int32 → Mm → Option (Mm)} {rec39 : Nat → Int32 → Int32 → Int32 → Mm → Option (Mm)} {fu : Nat} {q : Mm} (C : Cx p s m args meth c (dm σ) D cA tS σ cX5_gatherRows none 4 RX5) (hrec12 : ∀ (y0 : Nat) (y1 : Int32) (μ : Mm), σ y0 = some (5, 0) → rec12 y0 y1 μ = some q → GG p l e (rmO 2 42) s m args below meth c 0 0 (dm σ) D cA σ 4 (MQ below (QV D cA σ q) args s 0 0 (dm σ)) 12 [(0, .ref y0), (1, .int y1)] [] μ) (hrec39 : ∀ (y0 : Nat) (y1 : Int32) (y2 : Int32) (y3 : Int32) (μ : Mm), σ y0 = some (5, 0) → rec39 y0 y1 y2 y3 μ = some q → GG p l e (rmO 2 42) s m args below meth c 0 0 (dm σ) D cA σ 4 (MQ below (QV D cA σ q) args s 0 0 (dm σ)) 39 [(0, .ref y0), (1, .int y1), (2, .int y2), (3, .int y3)] [] μ) (a0 : Nat) (v1 : Int32) (v2 : Int32) (v3 : Int32) (μ : Mm) (s_a0 : σ a0 = some (5, 0)) (h : fX5_gatherRows_B39 rec12 rec39 fu a0 v1 v2 v3 μ = some q) : GG p l e (rmO 2 42) s m args below meth c 0 0 (dm σ) D cA σ 4 (MQ below (QV D cA σ q) args s 0 0 (dm σ)) 39 [(0, .ref a0), (1, .int v1), (2, .int v2), (3, .int v3)] [] μ := by
  unfold fX5_gatherRows_B39 at h
  refine g_iload_n C dX5_gatherRows_39 3 rfl ?_
  refine g_iload_n C dX5_gatherRows_40 2 rfl ?_
  refine g_icmp_ge C 64 dX5_gatherRows_41 rfl (fun q => ?_) (fun q => ?_)
  · replace h := ip q h
    obtain ⟨x1, e_x1, h⟩ := nm h
    refine g_iinc (v := x1) (lv' := [(1, .int x1), (0, .ref a0), (2, .int v2), (3, .int v3)]) C dX5_gatherRows_64 (by decide) 1 rfl 1 (by decide) e_x1.symm rfl ?_
    refine g_goto C 12 dX5_gatherRows_67 rfl ?_
    exact g_lv [1, 0] rfl (hrec12 _ _ _ s_a0 h)
  · replace h := iq q h
    refine g_aload_n C dX5_gatherRows_44 0 rfl ?_
    refine g_wt (fun hT_μ => ?_)
    refine g_getr (j := 1) C s_a0 (by decide) rfl uwX5 (by decide) rfl lfX5_21 rfl dX5_gatherRows_45 ?_
    refine g_getr (j := 0) C (hT_μ.1 _ _ 1 _ s_a0 rfl) (by decide) rfl uwX1 (by decide) rfl lfX5_204 rfl dX5_gatherRows_48 ?_
    refine g_aload_n C dX5_gatherRows_51 0 rfl ?_
    obtain ⟨q2, e_q2, h⟩ := bs h
    refine g_callVI C (kX5_nextByte s_a0 e_q2) miX5_nextByte lmX5_87 s_a0 (by decide) rfl rfl rfl (Nat.le_of_ble_eq_true rfl) dX5_gatherRows_52 ⟨by decide, by decide⟩ ⟨Nat.zero_le _, Nat.zero_le _⟩ ?_
    obtain ⟨μ3, e_μ3, h⟩ := bs h
    refine g_callVV C (kX0_add (hT_μ.1 _ _ 0 _ (hT_μ.1 _ _ 1 _ s_a0 rfl) rfl) e_μ3) miX0_add lmX5_210 (hT_μ.1 _ _ 0 _ (hT_μ.1 _ _ 1 _ s_a0 rfl) rfl) (by decide) rfl rfl rfl (Nat.le_of_ble_eq_true rfl) dX5_gatherRows_55 ⟨by decide, by decide⟩ ⟨Nat.zero_le _, Nat.zero_le _⟩ ?_
    obtain ⟨x4, e_x4, h⟩ := nm h
    refine g_iinc (v := x4) (lv' := [(3, .int x4), (0, .ref a0), (1, .int v1), (2, .int v2)]) C dX5_gatherRows_58 (by decide) 3 rfl 1 (by decide) e_x4.symm rfl ?_
    refine g_goto C 39 dX5_gatherRows_61 rfl ?_
    exact g_lv [1, 2, 3, 0] rfl (hrec39 _ _ _ _ _ s_a0 h)
theorem wX5_gatherRows_L39 {p : Program} {l : Launch} {e : Env} {s : State} {m : MethodId} {args : Array Value} {below : List Frame} {meth : Method} {c : Code} {D : va_G} {cA : Nat → ClassId} {tS : Nat → Nat} {σ : Sg} {rec12 : Nat → Int32 → Mm → Option (Mm)} {fu : Nat} {q : Mm} (C : Cx p s m args meth c (dm σ) D cA tS σ cX5_gatherRows none 4 RX5) (hrec12 : ∀ (y0 : Nat) (y1 : Int32) (μ : Mm), σ y0 = some (5, 0) → rec12 y0 y1 μ = some q → GG p l e (rmO 2 42) s m args below meth c 0 0 (dm σ) D cA σ 4 (MQ below (QV D cA σ q) args s 0 0 (dm σ)) 12 [(0, .ref y0), (1, .int y1)] [] μ) : ∀ (n : Nat) (a0 : Nat) (v1 : Int32) (v2 : Int32) (v3 : Int32) (μ : Mm), (σ a0 = some (5, 0)) → fX5_gatherRows_L39 rec12 fu n a0 v1 v2 v3 μ = some q → GG p l e (rmO 2 42) s m args below meth c 0 0 (dm σ) D cA σ 4 (MQ below (QV D cA σ q) args s 0 0 (dm σ)) 39 [(0, .ref a0), (1, .int v1), (2, .int v2), (3, .int v3)] [] μ := by
  intro n
  induction n with
  | zero => intro a0 v1 v2 v3 μ s_a0 h; cases h
  | succ n ih => intro a0 v1 v2 v3 μ s_a0 h; exact wX5_gatherRows_B39 C hrec12 (fun _ _ _ _ _ k0 h => ih _ _ _ _ _ k0 h) _ _ _ _ _ s_a0 h
set_option maxRecDepth 100000 in
set_option maxHeartbeats 4000000 in
theorem wX5_gatherRows_B12 {p : Program} {l : Launch} {e : Env} {s : State} {m : MethodId} {args : Array Value} {below : List Frame} {meth : Method} {c : Code} {D : va_G} {cA : Nat → ClassId} {tS : Nat → Nat} {σ : Sg} {rec12 : Nat → Int32 → Mm → Option (Mm)} {fu : Nat} {q : Mm} (C : Cx p s m args meth c (dm σ) D cA tS σ cX5_gatherRows none 4 RX5) (hrec12 : ∀ (y0 : Nat) (y1 : Int32) (μ : Mm), σ y0 = some (5, 0) → rec12 y0 y1 μ = some q → GG p l e (rmO 2 42) s m args below meth c 0 0 (dm σ) D cA σ 4 (MQ below (QV D cA σ q) args s 0 0 (dm σ)) 12 [(0, .ref y0), (1, .int y1)] [] μ) (a0 : Nat) (v1 : Int32) (μ : Mm) (s_a0 : σ a0 = some (5, 0)) (h : fX5_gatherRows_B12 rec12 fu a0 v1 μ = some q) : GG p l e (rmO 2 42) s m args below meth c 0 0 (dm σ) D cA σ 4 (MQ below (QV D cA σ q) args s 0 0 (dm σ)) 12 [(0, .ref a0), (1, .int v1)] [] μ := by
  unfold fX5_gatherRows_B12 at h
  refine g_iload_n C dX5_gatherRows_12 1 rfl ?_
  refine g_aload_n C dX5_gatherRows_13 0 rfl ?_
  refine g_geti (j := 4) C s_a0 (by decide) rfl uwX5 (by decide) rfl lfX5_55 rfl dX5_gatherRows_14 ?_
  refine g_icmp_gt C 70 dX5_gatherRows_17 rfl (fun q => ?_) (fun q => ?_)
  · replace h := ip q h
    cases h
    exact g_return C dX5_gatherRows_70
  · replace h := iq q h
    refine g_aload_n C dX5_gatherRows_20 0 rfl ?_
    refine g_geti (j := 9) C s_a0 (by decide) rfl uwX5 (by decide) rfl lfX5_39 rfl dX5_gatherRows_21 ?_
    refine g_if_ne C 70 dX5_gatherRows_24 rfl (fun q => ?_) (fun q => ?_)
    · replace h := iq q h
      cases h
      exact g_return C dX5_gatherRows_70
    · replace h := ip q h
      refine g_aload_n C dX5_gatherRows_27 0 rfl ?_
      obtain ⟨q1, e_q1, h⟩ := bs h
      refine g_callVI C (kX5_nextByte s_a0 e_q1) miX5_nextByte lmX5_87 s_a0 (by decide) rfl rfl rfl (Nat.le_of_ble_eq_true rfl) dX5_gatherRows_28 ⟨by decide, by decide⟩ ⟨Nat.zero_le _, Nat.zero_le _⟩ ?_
      obtain ⟨x2, e_x2, h⟩ := nm h
      refine g_topi e_x2 ?_
      refine g_istore_n (lv' := [(2, .int x2), (0, .ref a0), (1, .int v1)]) C dX5_gatherRows_31 (by decide) rfl ?_
      refine g_iload_n C dX5_gatherRows_32 0 rfl ?_
      refine g_if_ne C 37 dX5_gatherRows_33 rfl (fun q => ?_) (fun q => ?_)
      · replace h := iq q h
        refine g_iconst (v := 0) C dX5_gatherRows_37 (by decide) ?_
        refine g_istore_n (lv' := [(3, .int 0), (2, .int x2), (0, .ref a0), (1, .int v1)]) C dX5_gatherRows_38 (by decide) rfl ?_
        exact g_lv [2, 3, 1, 0] rfl (wX5_gatherRows_L39 C hrec12 fu _ _ _ _ _ s_a0 h)
      · replace h := ip q h
        cases h
        exact g_return C dX5_gatherRows_36
theorem wX5_gatherRows_L12 {p : Program} {l : Launch} {e : Env} {s : State} {m : MethodId} {args : Array Value} {below : List Frame} {meth : Method} {c : Code} {D : va_G} {cA : Nat → ClassId} {tS : Nat → Nat} {σ : Sg} {fu : Nat} {q : Mm} (C : Cx p s m args meth c (dm σ) D cA tS σ cX5_gatherRows none 4 RX5) : ∀ (n : Nat) (a0 : Nat) (v1 : Int32) (μ : Mm), (σ a0 = some (5, 0)) → fX5_gatherRows_L12 fu n a0 v1 μ = some q → GG p l e (rmO 2 42) s m args below meth c 0 0 (dm σ) D cA σ 4 (MQ below (QV D cA σ q) args s 0 0 (dm σ)) 12 [(0, .ref a0), (1, .int v1)] [] μ := by
  intro n
  induction n with
  | zero => intro a0 v1 μ s_a0 h; cases h
  | succ n ih => intro a0 v1 μ s_a0 h; exact wX5_gatherRows_B12 C (fun _ _ _ k0 h => ih _ _ _ k0 h) _ _ _ s_a0 h
set_option maxRecDepth 100000 in
set_option maxHeartbeats 4000000 in
theorem wX5_gatherRows {p : Program} {l : Launch} {e : Env} {s : State} {m : MethodId} {args : Array Value} {below : List Frame} {meth : Method} {c : Code} {D : va_G} {cA : Nat → ClassId} {tS : Nat → Nat} {σ : Sg} {fu : Nat} {q : Mm} (C : Cx p s m args meth c (dm σ) D cA tS σ cX5_gatherRows none 4 RX5) (a0 : Nat) (μ : Mm) (s_a0 : σ a0 = some (5, 0)) (h : fX5_gatherRows fu a0 μ = some q) : GG p l e (rmO 2 42) s m args below meth c 0 0 (dm σ) D cA σ 4 (MQ below (QV D cA σ q) args s 0 0 (dm σ)) 0 [(0, .ref a0)] [] μ := by
  unfold fX5_gatherRows at h
  refine g_aload_n C dX5_gatherRows_0 0 rfl ?_
  refine g_wt (fun hT_μ => ?_)
  refine g_getr (j := 1) C s_a0 (by decide) rfl uwX5 (by decide) rfl lfX5_21 rfl dX5_gatherRows_1 ?_
  refine g_getr (j := 0) C (hT_μ.1 _ _ 1 _ s_a0 rfl) (by decide) rfl uwX1 (by decide) rfl lfX5_204 rfl dX5_gatherRows_4 ?_
  obtain ⟨μ1, e_μ1, h⟩ := nm h
  refine g_callVV C (kX0_clear (hT_μ.1 _ _ 0 _ (hT_μ.1 _ _ 1 _ s_a0 rfl) rfl) e_μ1.symm) miX0_clear lmX5_207 (hT_μ.1 _ _ 0 _ (hT_μ.1 _ _ 1 _ s_a0 rfl) rfl) (by decide) rfl rfl rfl (Nat.le_of_ble_eq_true rfl) dX5_gatherRows_7 ⟨by decide, by decide⟩ ⟨Nat.zero_le _, Nat.zero_le _⟩ ?_
  refine g_iconst (v := 0) C dX5_gatherRows_10 (by decide) ?_
  refine g_istore_n (lv' := [(1, .int 0), (0, .ref a0)]) C dX5_gatherRows_11 (by decide) rfl ?_
  exact g_lv [1, 0] rfl (wX5_gatherRows_L12 C fu _ _ _ s_a0 h)
theorem miX5_gatherRows : MI yX5_gatherRows cX5_gatherRows 4 none RX5 0 := ⟨wcX5_gatherRows, wmX5_gatherRows, wsX5_gatherRows, wiX5, by decide +kernel⟩
theorem kX5_gatherRows {l : Launch} {D : va_G} {cA : Nat → ClassId} {tS : Nat → Nat} {σ : Sg} {a0 : Nat} {μ : Mm} {fu : Nat} {q : Mm} (s_a0 : σ a0 = some (5, 0)) (h : fX5_gatherRows fu a0 μ = some q) : Ct l D cA tS σ yX5_gatherRows cX5_gatherRows 4 none (rmO 2 42) [.ref a0] μ (QV D cA σ q) :=
  Ct.of (by decide) (Nat.le_of_ble_eq_true rfl) (fun _ _ _ _ _ _ _ _ C => wX5_gatherRows C _ _ s_a0 h)
set_option maxRecDepth 100000 in
set_option maxHeartbeats 4000000 in
theorem wX5_nextNumber {p : Program} {l : Launch} {e : Env} {s : State} {m : MethodId} {args : Array Value} {below : List Frame} {meth : Method} {c : Code} {D : va_G} {cA : Nat → ClassId} {tS : Nat → Nat} {σ : Sg} {q : Int32 × Mm} (C : Cx p s m args meth c (dm σ) D cA tS σ cX5_nextNumber (some .int) 2 RX5) (a0 : Nat) (μ : Mm) (s_a0 : σ a0 = some (5, 0)) (h : fX5_nextNumber a0 μ = some q) : GG p l e (rmO 2 42) s m args below meth c 0 0 (dm σ) D cA σ 2 (MQ below (QI D cA σ q.1 q.2) args s 0 0 (dm σ)) 0 [(0, .ref a0)] [] μ := by
  unfold fX5_nextNumber at h
  refine g_aload_n C dX5_nextNumber_0 0 rfl ?_
  obtain ⟨q1, e_q1, h⟩ := bs h
  refine g_callVI C (kX5_nextByte s_a0 e_q1) miX5_nextByte lmX5_87 s_a0 (by decide) rfl rfl rfl (Nat.le_of_ble_eq_true rfl) dX5_nextNumber_1 ⟨by decide, by decide⟩ ⟨Nat.zero_le _, Nat.zero_le _⟩ ?_
  obtain ⟨x2, e_x2, h⟩ := nm h
  refine g_topi e_x2 ?_
  refine g_istore_n (lv' := [(1, .int x2), (0, .ref a0)]) C dX5_nextNumber_4 (by decide) rfl ?_
  refine g_iload_n C dX5_nextNumber_5 0 rfl ?_
  refine g_aload_n C dX5_nextNumber_6 1 rfl ?_
  obtain ⟨q3, e_q3, h⟩ := bs h
  refine g_callVI C (kX5_nextByte s_a0 e_q3) miX5_nextByte lmX5_87 s_a0 (by decide) rfl rfl rfl (Nat.le_of_ble_eq_true rfl) dX5_nextNumber_7 ⟨by decide, by decide⟩ ⟨Nat.zero_le _, Nat.zero_le _⟩ ?_
  refine g_bipush (v := 8) C dX5_nextNumber_10 (by decide) ?_
  refine g_ishl C dX5_nextNumber_12 ?_
  refine g_iadd C dX5_nextNumber_13 ?_
  cases h
  exact g_ireturn C rfl dX5_nextNumber_14
theorem miX5_nextNumber : MI yX5_nextNumber cX5_nextNumber 2 (some .int) RX5 0 := ⟨wcX5_nextNumber, wmX5_nextNumber, wsX5_nextNumber, wiX5, by decide +kernel⟩
theorem kX5_nextNumber {l : Launch} {D : va_G} {cA : Nat → ClassId} {tS : Nat → Nat} {σ : Sg} {a0 : Nat} {μ : Mm} {q : Int32 × Mm} (s_a0 : σ a0 = some (5, 0)) (h : fX5_nextNumber a0 μ = some q) : Ct l D cA tS σ yX5_nextNumber cX5_nextNumber 2 (some .int) (rmO 2 42) [.ref a0] μ (QI D cA σ q.1 q.2) :=
  Ct.of (by decide) (Nat.le_of_ble_eq_true rfl) (fun _ _ _ _ _ _ _ _ C => wX5_nextNumber C _ _ s_a0 h)
set_option maxRecDepth 100000 in
set_option maxHeartbeats 4000000 in
theorem wX5_parseControl_L62 {p : Program} {l : Launch} {e : Env} {s : State} {m : MethodId} {args : Array Value} {below : List Frame} {meth : Method} {c : Code} {D : va_G} {cA : Nat → ClassId} {tS : Nat → Nat} {σ : Sg} {q : Mm} (C : Cx p s m args meth c (dm σ) D cA tS σ cX5_parseControl none 5 RX5) (a0 : Nat) (o0 : Nat) (t1 : Int32) (t2 : Int32) (t3 : Int32) (t4 : Int32) (μ : Mm) (s_a0 : σ a0 = some (5, 0)) (s_o0 : σ o0 = some (8, 0)) (h : fX5_parseControl_L62 a0 o0 t1 t2 t3 t4 μ = some q) : GG p l e (rmO 3 64) s m args below meth c 0 0 (dm σ) D cA σ 5 (MQ below (QV D cA σ q) args s 0 0 (dm σ)) 62 [(0, .ref a0)] [.int t4, .int t3, .int t2, .int t1, .ref o0] μ := by
  unfold fX5_parseControl_L62 at h
  obtain ⟨μ1, e_μ1, h⟩ := bs h
  refine g_callVV C (kX8_become s_o0 e_μ1) miX8_become lmX5_150 s_o0 (by decide) rfl rfl rfl (Nat.le_of_ble_eq_true rfl) dX5_parseControl_62 ⟨by decide, by decide⟩ ⟨Nat.zero_le _, Nat.zero_le _⟩ ?_
  refine g_aload_n C dX5_parseControl_65 0 rfl ?_
  refine g_iconst (v := 1) C dX5_parseControl_66 (by decide) ?_
  refine g_puti (j := 7) C s_a0 (by decide) rfl uwX5 tyX5_ok nmX5 (by decide) rfl lfX5_132 rfl rfl rfl (fun _ _ => rfl) (fun _ _ => Nat.le_of_ble_eq_true rfl) dX5_parseControl_67 ?_
  obtain ⟨μ2, e_μ2, h⟩ := nm h
  refine g_mu e_μ2 ?_
  cases h
  exact g_return C dX5_parseControl_70
set_option maxRecDepth 100000 in
set_option maxHeartbeats 4000000 in
theorem wX5_parseControl_L36 {p : Program} {l : Launch} {e : Env} {s : State} {m : MethodId} {args : Array Value} {below : List Frame} {meth : Method} {c : Code} {D : va_G} {cA : Nat → ClassId} {tS : Nat → Nat} {σ : Sg} {q : Mm} (C : Cx p s m args meth c (dm σ) D cA tS σ cX5_parseControl none 5 RX5) (a0 : Nat) (v1 : Int32) (v2 : Int32) (t0 : Int32) (μ : Mm) (s_a0 : σ a0 = some (5, 0)) (h : fX5_parseControl_L36 a0 v1 v2 t0 μ = some q) : GG p l e (rmO 3 64) s m args below meth c 0 0 (dm σ) D cA σ 5 (MQ below (QV D cA σ q) args s 0 0 (dm σ)) 36 [(0, .ref a0), (1, .int v1), (2, .int v2)] [.int t0] μ := by
  unfold fX5_parseControl_L36 at h
  refine g_istore (lv' := [(4, .int t0), (0, .ref a0), (1, .int v1), (2, .int v2)]) C dX5_parseControl_36 (by decide) rfl ?_
  refine g_aload_n C dX5_parseControl_38 1 rfl ?_
  refine g_wt (fun hT_μ => ?_)
  refine g_getr (j := 2) C s_a0 (by decide) rfl uwX5 (by decide) rfl lfX5_28 rfl dX5_parseControl_39 ?_
  refine g_iload_n C dX5_parseControl_42 2 rfl ?_
  refine g_iconst (v := 2) C dX5_parseControl_43 (by decide) ?_
  refine g_ishr C dX5_parseControl_44 ?_
  refine g_bipush (v := 7) C dX5_parseControl_45 (by decide) ?_
  refine g_iand C dX5_parseControl_47 ?_
  refine g_iload C dX5_parseControl_48 0 rfl ?_
  refine g_iload_n C dX5_parseControl_50 3 rfl ?_
  refine g_iload_n C dX5_parseControl_51 2 rfl ?_
  refine g_iconst (v := 2) C dX5_parseControl_52 (by decide) ?_
  refine g_iand C dX5_parseControl_53 ?_
  refine g_if_eq C 61 dX5_parseControl_54 rfl (fun q => ?_) (fun q => ?_)
  · replace h := ip q h
    refine g_iconst (v := 0) C dX5_parseControl_61 (by decide) ?_
    exact g_lv [1] rfl (wX5_parseControl_L62 C _ _ _ _ _ _ _ s_a0 (hT_μ.1 _ _ 2 _ s_a0 rfl) h)
  · replace h := iq q h
    refine g_iconst (v := 1) C dX5_parseControl_57 (by decide) ?_
    refine g_goto C 62 dX5_parseControl_58 rfl ?_
    exact g_lv [1] rfl (wX5_parseControl_L62 C _ _ _ _ _ _ _ s_a0 (hT_μ.1 _ _ 2 _ s_a0 rfl) h)
set_option maxRecDepth 100000 in
set_option maxHeartbeats 4000000 in
theorem wX5_parseControl {p : Program} {l : Launch} {e : Env} {s : State} {m : MethodId} {args : Array Value} {below : List Frame} {meth : Method} {c : Code} {D : va_G} {cA : Nat → ClassId} {tS : Nat → Nat} {σ : Sg} {q : Mm} (C : Cx p s m args meth c (dm σ) D cA tS σ cX5_parseControl none 5 RX5) (a0 : Nat) (μ : Mm) (s_a0 : σ a0 = some (5, 0)) (h : fX5_parseControl a0 μ = some q) : GG p l e (rmO 3 64) s m args below meth c 0 0 (dm σ) D cA σ 5 (MQ below (QV D cA σ q) args s 0 0 (dm σ)) 0 [(0, .ref a0)] [] μ := by
  unfold fX5_parseControl at h
  refine g_aload_n C dX5_parseControl_0 0 rfl ?_
  refine g_iconst (v := 4) C dX5_parseControl_1 (by decide) ?_
  obtain ⟨μ1, e_μ1, h⟩ := bs h
  refine g_callVV C (kX5_expect s_a0 e_μ1) miX5_expect lmX5_138 s_a0 (by decide) rfl rfl rfl (Nat.le_of_ble_eq_true rfl) dX5_parseControl_2 ⟨by decide, by decide⟩ ⟨Nat.zero_le _, Nat.zero_le _⟩ ?_
  refine g_aload_n C dX5_parseControl_5 0 rfl ?_
  obtain ⟨q2, e_q2, h⟩ := bs h
  refine g_callVI C (kX5_nextByte s_a0 e_q2) miX5_nextByte lmX5_87 s_a0 (by decide) rfl rfl rfl (Nat.le_of_ble_eq_true rfl) dX5_parseControl_6 ⟨by decide, by decide⟩ ⟨Nat.zero_le _, Nat.zero_le _⟩ ?_
  obtain ⟨x3, e_x3, h⟩ := nm h
  refine g_topi e_x3 ?_
  refine g_istore_n (lv' := [(1, .int x3), (0, .ref a0)]) C dX5_parseControl_9 (by decide) rfl ?_
  refine g_aload_n C dX5_parseControl_10 1 rfl ?_
  obtain ⟨q4, e_q4, h⟩ := bs h
  refine g_callVI C (kX5_nextNumber s_a0 e_q4) miX5_nextNumber lmX5_97 s_a0 (by decide) rfl rfl rfl (Nat.le_of_ble_eq_true rfl) dX5_parseControl_11 ⟨by decide, by decide⟩ ⟨Nat.zero_le _, Nat.zero_le _⟩ ?_
  obtain ⟨x5, e_x5, h⟩ := nm h
  refine g_topi e_x5 ?_
  refine g_istore_n (lv' := [(2, .int x5), (1, .int x3), (0, .ref a0)]) C dX5_parseControl_14 (by decide) rfl ?_
  refine g_aload_n C dX5_parseControl_15 2 rfl ?_
  obtain ⟨q6, e_q6, h⟩ := bs h
  refine g_callVI C (kX5_nextByte s_a0 e_q6) miX5_nextByte lmX5_87 s_a0 (by decide) rfl rfl rfl (Nat.le_of_ble_eq_true rfl) dX5_parseControl_16 ⟨by decide, by decide⟩ ⟨Nat.zero_le _, Nat.zero_le _⟩ ?_
  obtain ⟨x7, e_x7, h⟩ := nm h
  refine g_topi e_x7 ?_
  refine g_istore_n (lv' := [(3, .int x7), (2, .int x5), (1, .int x3), (0, .ref a0)]) C dX5_parseControl_19 (by decide) rfl ?_
  refine g_aload_n C dX5_parseControl_20 3 rfl ?_
  refine g_iconst (v := 0) C dX5_parseControl_21 (by decide) ?_
  obtain ⟨μ8, e_μ8, h⟩ := bs h
  refine g_callVV C (kX5_expect s_a0 e_μ8) miX5_expect lmX5_138 s_a0 (by decide) rfl rfl rfl (Nat.le_of_ble_eq_true rfl) dX5_parseControl_22 ⟨by decide, by decide⟩ ⟨Nat.zero_le _, Nat.zero_le _⟩ ?_
  refine g_iload_n C dX5_parseControl_25 2 rfl ?_
  refine g_iconst (v := 1) C dX5_parseControl_26 (by decide) ?_
  refine g_iand C dX5_parseControl_27 ?_
  refine g_if_eq C 35 dX5_parseControl_28 rfl (fun q => ?_) (fun q => ?_)
  · replace h := ip q h
    refine g_iconst (v := -1) C dX5_parseControl_35 (by decide) ?_
    exact g_lv [3, 2, 1] rfl (wX5_parseControl_L36 C _ _ _ _ _ s_a0 h)
  · replace h := iq q h
    refine g_iload_n C dX5_parseControl_31 0 rfl ?_
    refine g_goto C 36 dX5_parseControl_32 rfl ?_
    exact g_lv [3, 2, 1] rfl (wX5_parseControl_L36 C _ _ _ _ _ s_a0 h)
theorem miX5_parseControl : MI yX5_parseControl cX5_parseControl 5 none RX5 0 := ⟨wcX5_parseControl, wmX5_parseControl, wsX5_parseControl, wiX5, by decide +kernel⟩
theorem kX5_parseControl {l : Launch} {D : va_G} {cA : Nat → ClassId} {tS : Nat → Nat} {σ : Sg} {a0 : Nat} {μ : Mm} {q : Mm} (s_a0 : σ a0 = some (5, 0)) (h : fX5_parseControl a0 μ = some q) : Ct l D cA tS σ yX5_parseControl cX5_parseControl 5 none (rmO 3 64) [.ref a0] μ (QV D cA σ q) :=
  Ct.of (by decide) (Nat.le_of_ble_eq_true rfl) (fun _ _ _ _ _ _ _ _ C => wX5_parseControl C _ _ s_a0 h)
set_option maxRecDepth 100000 in
set_option maxHeartbeats 4000000 in
theorem wX5_skip_B2 {p : Program} {l : Launch} {e : Env} {s : State} {m : MethodId} {args : Array Value} {below : List Frame} {meth : Method} {c : Code} {D : va_G} {cA : Nat → ClassId} {tS : Nat → Nat} {σ : Sg} {rec2 : Nat → Int32 → Int32 → Mm → Option (Mm)} {fu : Nat} {q : Mm} (C : Cx p s m args meth c (dm σ) D cA tS σ cX5_skip none 3 RX5) (hrec2 : ∀ (y0 : Nat) (y1 : Int32) (y2 : Int32) (μ : Mm), σ y0 = some (5, 0) → rec2 y0 y1 y2 μ = some q → GG p l e (rmO 2 42) s m args below meth c 0 0 (dm σ) D cA σ 3 (MQ below (QV D cA σ q) args s 0 0 (dm σ)) 2 [(0, .ref y0), (1, .int y1), (2, .int y2)] [] μ) (a0 : Nat) (v1 : Int32) (v2 : Int32) (μ : Mm) (s_a0 : σ a0 = some (5, 0)) (h : fX5_skip_B2 rec2 fu a0 v1 v2 μ = some q) : GG p l e (rmO 2 42) s m args below meth c 0 0 (dm σ) D cA σ 3 (MQ below (QV D cA σ q) args s 0 0 (dm σ)) 2 [(0, .ref a0), (1, .int v1), (2, .int v2)] [] μ := by
  unfold fX5_skip_B2 at h
  refine g_iload_n C dX5_skip_2 2 rfl ?_
  refine g_iload_n C dX5_skip_3 1 rfl ?_
  refine g_icmp_ge C 18 dX5_skip_4 rfl (fun q => ?_) (fun q => ?_)
  · replace h := ip q h
    cases h
    exact g_return C dX5_skip_18
  · replace h := iq q h
    refine g_aload_n C dX5_skip_7 0 rfl ?_
    obtain ⟨q1, e_q1, h⟩ := bs h
    refine g_callVI C (kX5_nextByte s_a0 e_q1) miX5_nextByte lmX5_87 s_a0 (by decide) rfl rfl rfl (Nat.le_of_ble_eq_true rfl) dX5_skip_8 ⟨by decide, by decide⟩ ⟨Nat.zero_le _, Nat.zero_le _⟩ ?_
    refine g_pop C dX5_skip_11 rfl ?_
    obtain ⟨x2, e_x2, h⟩ := nm h
    refine g_iinc (v := x2) (lv' := [(2, .int x2), (0, .ref a0), (1, .int v1)]) C dX5_skip_12 (by decide) 2 rfl 1 (by decide) e_x2.symm rfl ?_
    refine g_goto C 2 dX5_skip_15 rfl ?_
    exact g_lv [1, 2, 0] rfl (hrec2 _ _ _ _ s_a0 h)
theorem wX5_skip_L2 {p : Program} {l : Launch} {e : Env} {s : State} {m : MethodId} {args : Array Value} {below : List Frame} {meth : Method} {c : Code} {D : va_G} {cA : Nat → ClassId} {tS : Nat → Nat} {σ : Sg} {fu : Nat} {q : Mm} (C : Cx p s m args meth c (dm σ) D cA tS σ cX5_skip none 3 RX5) : ∀ (n : Nat) (a0 : Nat) (v1 : Int32) (v2 : Int32) (μ : Mm), (σ a0 = some (5, 0)) → fX5_skip_L2 fu n a0 v1 v2 μ = some q → GG p l e (rmO 2 42) s m args below meth c 0 0 (dm σ) D cA σ 3 (MQ below (QV D cA σ q) args s 0 0 (dm σ)) 2 [(0, .ref a0), (1, .int v1), (2, .int v2)] [] μ := by
  intro n
  induction n with
  | zero => intro a0 v1 v2 μ s_a0 h; cases h
  | succ n ih => intro a0 v1 v2 μ s_a0 h; exact wX5_skip_B2 C (fun _ _ _ _ k0 h => ih _ _ _ _ k0 h) _ _ _ _ s_a0 h
set_option maxRecDepth 100000 in
set_option maxHeartbeats 4000000 in
theorem wX5_skip {p : Program} {l : Launch} {e : Env} {s : State} {m : MethodId} {args : Array Value} {below : List Frame} {meth : Method} {c : Code} {D : va_G} {cA : Nat → ClassId} {tS : Nat → Nat} {σ : Sg} {fu : Nat} {q : Mm} (C : Cx p s m args meth c (dm σ) D cA tS σ cX5_skip none 3 RX5) (a0 : Nat) (v1 : Int32) (μ : Mm) (s_a0 : σ a0 = some (5, 0)) (h : fX5_skip fu a0 v1 μ = some q) : GG p l e (rmO 2 42) s m args below meth c 0 0 (dm σ) D cA σ 3 (MQ below (QV D cA σ q) args s 0 0 (dm σ)) 0 [(0, .ref a0), (1, .int v1)] [] μ := by
  unfold fX5_skip at h
  refine g_iconst (v := 0) C dX5_skip_0 (by decide) ?_
  refine g_istore_n (lv' := [(2, .int 0), (0, .ref a0), (1, .int v1)]) C dX5_skip_1 (by decide) rfl ?_
  exact g_lv [1, 2, 0] rfl (wX5_skip_L2 C fu _ _ _ _ s_a0 h)
theorem miX5_skip : MI yX5_skip cX5_skip 3 none RX5 1 := ⟨wcX5_skip, wmX5_skip, wsX5_skip, wiX5, by decide +kernel⟩
theorem kX5_skip {l : Launch} {D : va_G} {cA : Nat → ClassId} {tS : Nat → Nat} {σ : Sg} {a0 : Nat} {v1 : Int32} {μ : Mm} {fu : Nat} {q : Mm} (s_a0 : σ a0 = some (5, 0)) (h : fX5_skip fu a0 v1 μ = some q) : Ct l D cA tS σ yX5_skip cX5_skip 3 none (rmO 2 42) [.ref a0, .int v1] μ (QV D cA σ q) :=
  Ct.of (by decide) (Nat.le_of_ble_eq_true rfl) (fun _ _ _ _ _ _ _ _ C => wX5_skip C _ _ _ s_a0 h)
set_option maxRecDepth 100000 in
set_option maxHeartbeats 4000000 in
theorem wX5_parseExtension_L113 {p : Program} {l : Launch} {e : Env} {s : State} {m : MethodId} {args : Array Value} {below : List Frame} {meth : Method} {c : Code} {D : va_G} {cA : Nat → ClassId} {tS : Nat → Nat} {σ : Sg} {fu : Nat} {q : Mm} (C : Cx p s m args meth c (dm σ) D cA tS σ cX5_parseExtension none 3 RX5) (a0 : Nat) (v1 : Int32) (μ : Mm) (s_a0 : σ a0 = some (5, 0)) (h : fX5_parseExtension_L113 fu a0 v1 μ = some q) : GG p l e (rmO 4 88) s m args below meth c 0 0 (dm σ) D cA σ 3 (MQ below (QV D cA σ q) args s 0 0 (dm σ)) 113 [(0, .ref a0), (1, .int v1)] [] μ := by
  unfold fX5_parseExtension_L113 at h
  refine g_aload_n C dX5_parseExtension_113 0 rfl ?_
  refine g_iconst (v := 4) C dX5_parseExtension_114 (by decide) ?_
  refine g_iload_n C dX5_parseExtension_115 1 rfl ?_
  obtain ⟨μ1, e_μ1, h⟩ := nm h
  refine g_callVV C (kX5_refuse s_a0 e_μ1.symm) miX5_refuse lmX5_80 s_a0 (by decide) rfl rfl rfl (Nat.le_of_ble_eq_true rfl) dX5_parseExtension_116 ⟨by decide, by decide⟩ ⟨Nat.zero_le _, Nat.zero_le _⟩ ?_
  cases h
  exact g_return C dX5_parseExtension_119
set_option maxRecDepth 100000 in
set_option maxHeartbeats 4000000 in
theorem wX5_parseExtension_L80 {p : Program} {l : Launch} {e : Env} {s : State} {m : MethodId} {args : Array Value} {below : List Frame} {meth : Method} {c : Code} {D : va_G} {cA : Nat → ClassId} {tS : Nat → Nat} {σ : Sg} {fu : Nat} {q : Mm} (C : Cx p s m args meth c (dm σ) D cA tS σ cX5_parseExtension none 3 RX5) (a0 : Nat) (v1 : Int32) (v2 : Int32) (μ : Mm) (s_a0 : σ a0 = some (5, 0)) (h : fX5_parseExtension_L80 fu a0 v1 v2 μ = some q) : GG p l e (rmO 4 88) s m args below meth c 0 0 (dm σ) D cA σ 3 (MQ below (QV D cA σ q) args s 0 0 (dm σ)) 80 [(0, .ref a0), (1, .int v1), (2, .int v2)] [] μ := by
  unfold fX5_parseExtension_L80 at h
  refine g_iload_n C dX5_parseExtension_80 2 rfl ?_
  refine g_sipush (v := 255) C dX5_parseExtension_81 (by decide) ?_
  refine g_icmp_ne C 113 dX5_parseExtension_84 rfl (fun q => ?_) (fun q => ?_)
  · replace h := iq q h
    exact g_lv [0, 1] rfl (wX5_parseExtension_L113 C _ _ _ s_a0 h)
  · replace h := ip q h
    refine g_aload_n C dX5_parseExtension_87 0 rfl ?_
    refine g_geti (j := 7) C s_a0 (by decide) rfl uwX5 (by decide) rfl lfX5_132 rfl dX5_parseExtension_88 ?_
    refine g_if_ne C 113 dX5_parseExtension_91 rfl (fun q => ?_) (fun q => ?_)
    · replace h := iq q h
      exact g_lv [0, 1] rfl (wX5_parseExtension_L113 C _ _ _ s_a0 h)
    · replace h := ip q h
      refine g_aload_n C dX5_parseExtension_94 0 rfl ?_
      refine g_bipush (v := 11) C dX5_parseExtension_95 (by decide) ?_
      obtain ⟨μ1, e_μ1, h⟩ := bs h
      refine g_callVV C (kX5_expect s_a0 e_μ1) miX5_expect lmX5_138 s_a0 (by decide) rfl rfl rfl (Nat.le_of_ble_eq_true rfl) dX5_parseExtension_97 ⟨by decide, by decide⟩ ⟨Nat.zero_le _, Nat.zero_le _⟩ ?_
      refine g_aload_n C dX5_parseExtension_100 0 rfl ?_
      refine g_bipush (v := 11) C dX5_parseExtension_101 (by decide) ?_
      obtain ⟨μ2, e_μ2, h⟩ := bs h
      refine g_callVV C (kX5_skip s_a0 e_μ2) miX5_skip lmX5_141 s_a0 (by decide) rfl rfl rfl (Nat.le_of_ble_eq_true rfl) dX5_parseExtension_103 ⟨by decide, by decide⟩ ⟨Nat.zero_le _, Nat.zero_le _⟩ ?_
      refine g_aload_n C dX5_parseExtension_106 0 rfl ?_
      obtain ⟨μ3, e_μ3, h⟩ := bs h
      refine g_callVV C (kX5_gatherRows s_a0 e_μ3) miX5_gatherRows lmX5_144 s_a0 (by decide) rfl rfl rfl (Nat.le_of_ble_eq_true rfl) dX5_parseExtension_107 ⟨by decide, by decide⟩ ⟨Nat.zero_le _, Nat.zero_le _⟩ ?_
      refine g_goto C 119 dX5_parseExtension_110 rfl ?_
      cases h
      exact g_return C dX5_parseExtension_119
set_option maxRecDepth 100000 in
set_option maxHeartbeats 4000000 in
theorem wX5_parseExtension_L59 {p : Program} {l : Launch} {e : Env} {s : State} {m : MethodId} {args : Array Value} {below : List Frame} {meth : Method} {c : Code} {D : va_G} {cA : Nat → ClassId} {tS : Nat → Nat} {σ : Sg} {fu : Nat} {q : Mm} (C : Cx p s m args meth c (dm σ) D cA tS σ cX5_parseExtension none 3 RX5) (a0 : Nat) (v1 : Int32) (v2 : Int32) (μ : Mm) (s_a0 : σ a0 = some (5, 0)) (h : fX5_parseExtension_L59 fu a0 v1 v2 μ = some q) : GG p l e (rmO 4 88) s m args below meth c 0 0 (dm σ) D cA σ 3 (MQ below (QV D cA σ q) args s 0 0 (dm σ)) 59 [(0, .ref a0), (1, .int v1), (2, .int v2)] [] μ := by
  unfold fX5_parseExtension_L59 at h
  refine g_iload_n C dX5_parseExtension_59 2 rfl ?_
  refine g_sipush (v := 254) C dX5_parseExtension_60 (by decide) ?_
  refine g_icmp_ne C 80 dX5_parseExtension_63 rfl (fun q => ?_) (fun q => ?_)
  · replace h := iq q h
    exact g_lv [0, 1, 2] rfl (wX5_parseExtension_L80 C _ _ _ _ s_a0 h)
  · replace h := ip q h
    refine g_aload_n C dX5_parseExtension_66 0 rfl ?_
    refine g_geti (j := 7) C s_a0 (by decide) rfl uwX5 (by decide) rfl lfX5_132 rfl dX5_parseExtension_67 ?_
    refine g_if_ne C 80 dX5_parseExtension_70 rfl (fun q => ?_) (fun q => ?_)
    · replace h := iq q h
      exact g_lv [0, 1, 2] rfl (wX5_parseExtension_L80 C _ _ _ _ s_a0 h)
    · replace h := ip q h
      refine g_aload_n C dX5_parseExtension_73 0 rfl ?_
      obtain ⟨μ1, e_μ1, h⟩ := bs h
      refine g_callVV C (kX5_gatherRows s_a0 e_μ1) miX5_gatherRows lmX5_144 s_a0 (by decide) rfl rfl rfl (Nat.le_of_ble_eq_true rfl) dX5_parseExtension_74 ⟨by decide, by decide⟩ ⟨Nat.zero_le _, Nat.zero_le _⟩ ?_
      refine g_goto C 119 dX5_parseExtension_77 rfl ?_
      cases h
      exact g_return C dX5_parseExtension_119
set_option maxRecDepth 100000 in
set_option maxHeartbeats 4000000 in
theorem wX5_parseExtension {p : Program} {l : Launch} {e : Env} {s : State} {m : MethodId} {args : Array Value} {below : List Frame} {meth : Method} {c : Code} {D : va_G} {cA : Nat → ClassId} {tS : Nat → Nat} {σ : Sg} {fu : Nat} {q : Mm} (C : Cx p s m args meth c (dm σ) D cA tS σ cX5_parseExtension none 3 RX5) (a0 : Nat) (μ : Mm) (s_a0 : σ a0 = some (5, 0)) (h : fX5_parseExtension fu a0 μ = some q) : GG p l e (rmO 4 88) s m args below meth c 0 0 (dm σ) D cA σ 3 (MQ below (QV D cA σ q) args s 0 0 (dm σ)) 0 [(0, .ref a0)] [] μ := by
  unfold fX5_parseExtension at h
  refine g_aload_n C dX5_parseExtension_0 0 rfl ?_
  refine g_geti (j := 5) C s_a0 (by decide) rfl uwX5 (by decide) rfl lfX5_58 rfl dX5_parseExtension_1 ?_
  obtain ⟨x1, e_x1, h⟩ := nm h
  refine g_topi e_x1 ?_
  refine g_istore_n (lv' := [(1, .int x1), (0, .ref a0)]) C dX5_parseExtension_4 (by decide) rfl ?_
  refine g_aload_n C dX5_parseExtension_5 1 rfl ?_
  obtain ⟨q2, e_q2, h⟩ := bs h
  refine g_callVI C (kX5_nextByte s_a0 e_q2) miX5_nextByte lmX5_87 s_a0 (by decide) rfl rfl rfl (Nat.le_of_ble_eq_true rfl) dX5_parseExtension_6 ⟨by decide, by decide⟩ ⟨Nat.zero_le _, Nat.zero_le _⟩ ?_
  obtain ⟨x3, e_x3, h⟩ := nm h
  refine g_topi e_x3 ?_
  refine g_istore_n (lv' := [(2, .int x3), (1, .int x1), (0, .ref a0)]) C dX5_parseExtension_9 (by decide) rfl ?_
  refine g_iload_n C dX5_parseExtension_10 0 rfl ?_
  refine g_iconst (v := 1) C dX5_parseExtension_11 (by decide) ?_
  refine g_icmp_ne C 38 dX5_parseExtension_12 rfl (fun q => ?_) (fun q => ?_)
  · replace h := iq q h
    refine g_iload_n C dX5_parseExtension_38 0 rfl ?_
    refine g_sipush (v := 249) C dX5_parseExtension_39 (by decide) ?_
    refine g_icmp_ne C 59 dX5_parseExtension_42 rfl (fun q => ?_) (fun q => ?_)
    · replace h := iq q h
      exact g_lv [2, 1, 0] rfl (wX5_parseExtension_L59 C _ _ _ _ s_a0 h)
    · replace h := ip q h
      refine g_aload_n C dX5_parseExtension_45 2 rfl ?_
      refine g_geti (j := 7) C s_a0 (by decide) rfl uwX5 (by decide) rfl lfX5_132 rfl dX5_parseExtension_46 ?_
      refine g_if_ne C 59 dX5_parseExtension_49 rfl (fun q => ?_) (fun q => ?_)
      · replace h := iq q h
        exact g_lv [2, 1, 0] rfl (wX5_parseExtension_L59 C _ _ _ _ s_a0 h)
      · replace h := ip q h
        refine g_aload_n C dX5_parseExtension_52 2 rfl ?_
        obtain ⟨μ4, e_μ4, h⟩ := bs h
        refine g_callVV C (kX5_parseControl s_a0 e_μ4) miX5_parseControl lmX5_147 s_a0 (by decide) rfl rfl rfl (Nat.le_of_ble_eq_true rfl) dX5_parseExtension_53 ⟨by decide, by decide⟩ ⟨Nat.zero_le _, Nat.zero_le _⟩ ?_
        refine g_goto C 119 dX5_parseExtension_56 rfl ?_
        cases h
        exact g_return C dX5_parseExtension_119
  · replace h := ip q h
    refine g_aload_n C dX5_parseExtension_15 2 rfl ?_
    refine g_bipush (v := 12) C dX5_parseExtension_16 (by decide) ?_
    obtain ⟨μ5, e_μ5, h⟩ := bs h
    refine g_callVV C (kX5_expect s_a0 e_μ5) miX5_expect lmX5_138 s_a0 (by decide) rfl rfl rfl (Nat.le_of_ble_eq_true rfl) dX5_parseExtension_18 ⟨by decide, by decide⟩ ⟨Nat.zero_le _, Nat.zero_le _⟩ ?_
    refine g_aload_n C dX5_parseExtension_21 2 rfl ?_
    refine g_bipush (v := 12) C dX5_parseExtension_22 (by decide) ?_
    obtain ⟨μ6, e_μ6, h⟩ := bs h
    refine g_callVV C (kX5_skip s_a0 e_μ6) miX5_skip lmX5_141 s_a0 (by decide) rfl rfl rfl (Nat.le_of_ble_eq_true rfl) dX5_parseExtension_24 ⟨by decide, by decide⟩ ⟨Nat.zero_le _, Nat.zero_le _⟩ ?_
    refine g_aload_n C dX5_parseExtension_27 2 rfl ?_
    obtain ⟨μ7, e_μ7, h⟩ := bs h
    refine g_callVV C (kX5_gatherRows s_a0 e_μ7) miX5_gatherRows lmX5_144 s_a0 (by decide) rfl rfl rfl (Nat.le_of_ble_eq_true rfl) dX5_parseExtension_28 ⟨by decide, by decide⟩ ⟨Nat.zero_le _, Nat.zero_le _⟩ ?_
    refine g_aload_n C dX5_parseExtension_31 2 rfl ?_
    obtain ⟨μ8, e_μ8, h⟩ := bs h
    refine g_callVV C (kX5_dropControl s_a0 e_μ8) miX5_dropControl lmX5_68 s_a0 (by decide) rfl rfl rfl (Nat.le_of_ble_eq_true rfl) dX5_parseExtension_32 ⟨by decide, by decide⟩ ⟨Nat.zero_le _, Nat.zero_le _⟩ ?_
    refine g_goto C 119 dX5_parseExtension_35 rfl ?_
    cases h
    exact g_return C dX5_parseExtension_119
theorem miX5_parseExtension : MI yX5_parseExtension cX5_parseExtension 3 none RX5 0 := ⟨wcX5_parseExtension, wmX5_parseExtension, wsX5_parseExtension, wiX5, by decide +kernel⟩
theorem kX5_parseExtension {l : Launch} {D : va_G} {cA : Nat → ClassId} {tS : Nat → Nat} {σ : Sg} {a0 : Nat} {μ : Mm} {fu : Nat} {q : Mm} (s_a0 : σ a0 = some (5, 0)) (h : fX5_parseExtension fu a0 μ = some q) : Ct l D cA tS σ yX5_parseExtension cX5_parseExtension 3 none (rmO 4 88) [.ref a0] μ (QV D cA σ q) :=
  Ct.of (by decide) (Nat.le_of_ble_eq_true rfl) (fun _ _ _ _ _ _ _ _ C => wX5_parseExtension C _ _ s_a0 h)
