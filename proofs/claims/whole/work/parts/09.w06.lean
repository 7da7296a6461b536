set_option maxRecDepth 100000 in
set_option maxHeartbeats 4000000 in
theorem wX10_control_L97 {p : Program} {l : Launch} {e : Env} {s : State} {m : MethodId} {args : Array Value} {below : List Frame} {meth : Method} {c : Code} {D : va_G} {cA : Nat → ClassId} {tS : Nat → Nat} {σ : Sg} {q : Int32 × Mm} (C : Cx p s m args meth c (dm σ) D cA tS σ cX10_control (some .boolean) 6 RX10) (o0 : Nat) (t1 : Int32) (t2 : Int32) (t3 : Int32) (t4 : Int32) (μ : Mm) (s_o0 : σ o0 = some (10, 0)) (h : fX10_control_L97 o0 t1 t2 t3 t4 μ = some q) : GG p l e (rmO 2 41) s m args below meth c 0 0 (dm σ) D cA σ 6 (MQ below (QI D cA σ q.1 q.2) args s 0 0 (dm σ)) 97 [] [.int t4, .int t3, .int t2, .int t1, .ref o0] μ := by
  unfold fX10_control_L97 at h
  obtain ⟨μ1, e_μ1, h⟩ := bs h
  refine g_callVV C (kX10_setField s_o0 e_μ1) miX10_setField lmX10_163 s_o0 (by decide) rfl rfl rfl (Nat.le_of_ble_eq_true rfl) dX10_control_97 ⟨by decide, by decide⟩ ⟨Nat.zero_le _, Nat.zero_le _⟩ ?_
  refine g_iconst (v := 1) C dX10_control_100 (by decide) ?_
  cases h
  exact g_zreturn (r := 1) C rfl dX10_control_101
set_option maxRecDepth 100000 in
set_option maxHeartbeats 4000000 in
theorem wX10_control {p : Program} {l : Launch} {e : Env} {s : State} {m : MethodId} {args : Array Value} {below : List Frame} {meth : Method} {c : Code} {D : va_G} {cA : Nat → ClassId} {tS : Nat → Nat} {σ : Sg} {q : Int32 × Mm} (C : Cx p s m args meth c (dm σ) D cA tS σ cX10_control (some .boolean) 6 RX10) (a0 : Nat) (v1 : Int32) (v2 : Int32) (v3 : Int32) (v4 : Int32) (v5 : Int32) (μ : Mm) (s_a0 : σ a0 = some (10, 0)) (h : fX10_control a0 v1 v2 v3 v4 v5 μ = some q) : GG p l e (rmO 2 41) s m args below meth c 0 0 (dm σ) D cA σ 6 (MQ below (QI D cA σ q.1 q.2) args s 0 0 (dm σ)) 0 [(0, .ref a0), (1, .int v1), (2, .int v2), (3, .int v3), (4, .int v4), (5, .int v5)] [] μ := by
  unfold fX10_control at h
  refine g_aload_n C dX10_control_0 0 rfl ?_
  refine g_iload_n C dX10_control_1 1 rfl ?_
  obtain ⟨x1, e_x1, h⟩ := bs h
  refine g_callVI C (kX10_isFrame s_a0 e_x1) miX10_isFrame lmX10_229 s_a0 (by decide) rfl rfl rfl (Nat.le_of_ble_eq_true rfl) dX10_control_2 ⟨by decide, by decide⟩ ⟨Nat.zero_le _, Nat.zero_le _⟩ ?_
  refine g_if_eq C 40 dX10_control_5 rfl (fun q => ?_) (fun q => ?_)
  · replace h := ip q h
    refine g_iconst (v := 0) C dX10_control_40 (by decide) ?_
    cases h
    exact g_zreturn (r := 0) C rfl dX10_control_41
  · replace h := iq q h
    refine g_iload_n C dX10_control_8 2 rfl ?_
    refine g_iconst (v := 0) C dX10_control_9 (by decide) ?_
    refine g_bipush (v := 7) C dX10_control_10 (by decide) ?_
    obtain ⟨x2, e_x2, h⟩ := nm h
    refine g_callSI C (kX10_isWithin e_x2.symm) msX10_isWithin lmX10_221 rfl rfl (Nat.le_of_ble_eq_true rfl) dX10_control_12 ⟨by decide, by decide⟩ ⟨Nat.zero_le _, Nat.zero_le _⟩ ?_
    refine g_if_eq C 40 dX10_control_15 rfl (fun q => ?_) (fun q => ?_)
    · replace h := ip q h
      refine g_iconst (v := 0) C dX10_control_40 (by decide) ?_
      cases h
      exact g_zreturn (r := 0) C rfl dX10_control_41
    · replace h := iq q h
      refine g_iload_n C dX10_control_18 3 rfl ?_
      refine g_iconst (v := -1) C dX10_control_19 (by decide) ?_
      refine g_sipush (v := 255) C dX10_control_20 (by decide) ?_
      obtain ⟨x3, e_x3, h⟩ := nm h
      refine g_callSI C (kX10_isWithin e_x3.symm) msX10_isWithin lmX10_221 rfl rfl (Nat.le_of_ble_eq_true rfl) dX10_control_23 ⟨by decide, by decide⟩ ⟨Nat.zero_le _, Nat.zero_le _⟩ ?_
      refine g_if_eq C 40 dX10_control_26 rfl (fun q => ?_) (fun q => ?_)
      · replace h := ip q h
        refine g_iconst (v := 0) C dX10_control_40 (by decide) ?_
        cases h
        exact g_zreturn (r := 0) C rfl dX10_control_41
      · replace h := iq q h
        refine g_iload C dX10_control_29 4 rfl ?_
        refine g_iconst (v := 0) C dX10_control_31 (by decide) ?_
        refine g_ldc C dX10_control_32 lkX10_236 ?_
        obtain ⟨x4, e_x4, h⟩ := nm h
        refine g_callSI C (kX10_isWithin e_x4.symm) msX10_isWithin lmX10_221 rfl rfl (Nat.le_of_ble_eq_true rfl) dX10_control_34 ⟨by decide, by decide⟩ ⟨Nat.zero_le _, Nat.zero_le _⟩ ?_
        refine g_if_ne C 42 dX10_control_37 rfl (fun q => ?_) (fun q => ?_)
        · replace h := iq q h
          refine g_aload_n C dX10_control_42 0 rfl ?_
          refine g_aload_n C dX10_control_43 0 rfl ?_
          refine g_geti (j := 6) C s_a0 (by decide) rfl uwX10 (by decide) rfl lfX10_66 rfl dX10_control_44 ?_
          refine g_iload_n C dX10_control_47 1 rfl ?_
          refine g_bipush (v := 6) C dX10_control_48 (by decide) ?_
          refine g_iload_n C dX10_control_50 2 rfl ?_
          obtain ⟨μ5, e_μ5, h⟩ := bs h
          refine g_callVV C (kX10_setField s_a0 e_μ5) miX10_setField lmX10_163 s_a0 (by decide) rfl rfl rfl (Nat.le_of_ble_eq_true rfl) dX10_control_51 ⟨by decide, by decide⟩ ⟨Nat.zero_le _, Nat.zero_le _⟩ ?_
          refine g_aload_n C dX10_control_54 0 rfl ?_
          refine g_aload_n C dX10_control_55 0 rfl ?_
          refine g_geti (j := 6) C s_a0 (by decide) rfl uwX10 (by decide) rfl lfX10_66 rfl dX10_control_56 ?_
          refine g_iload_n C dX10_control_59 1 rfl ?_
          refine g_bipush (v := 7) C dX10_control_60 (by decide) ?_
          refine g_iload_n C dX10_control_62 3 rfl ?_
          obtain ⟨μ6, e_μ6, h⟩ := bs h
          refine g_callVV C (kX10_setField s_a0 e_μ6) miX10_setField lmX10_163 s_a0 (by decide) rfl rfl rfl (Nat.le_of_ble_eq_true rfl) dX10_control_63 ⟨by decide, by decide⟩ ⟨Nat.zero_le _, Nat.zero_le _⟩ ?_
          refine g_aload_n C dX10_control_66 0 rfl ?_
          refine g_aload_n C dX10_control_67 0 rfl ?_
          refine g_geti (j := 6) C s_a0 (by decide) rfl uwX10 (by decide) rfl lfX10_66 rfl dX10_control_68 ?_
          refine g_iload_n C dX10_control_71 1 rfl ?_
          refine g_bipush (v := 8) C dX10_control_72 (by decide) ?_
          refine g_iload C dX10_control_74 4 rfl ?_
          obtain ⟨μ7, e_μ7, h⟩ := bs h
          refine g_callVV C (kX10_setField s_a0 e_μ7) miX10_setField lmX10_163 s_a0 (by decide) rfl rfl rfl (Nat.le_of_ble_eq_true rfl) dX10_control_76 ⟨by decide, by decide⟩ ⟨Nat.zero_le _, Nat.zero_le _⟩ ?_
          refine g_aload_n C dX10_control_79 0 rfl ?_
          refine g_aload_n C dX10_control_80 0 rfl ?_
          refine g_geti (j := 6) C s_a0 (by decide) rfl uwX10 (by decide) rfl lfX10_66 rfl dX10_control_81 ?_
          refine g_iload_n C dX10_control_84 1 rfl ?_
          refine g_bipush (v := 9) C dX10_control_85 (by decide) ?_
          refine g_iload C dX10_control_87 5 rfl ?_
          refine g_if_eq C 96 dX10_control_89 rfl (fun q => ?_) (fun q => ?_)
          · replace h := ip q h
            refine g_iconst (v := 0) C dX10_control_96 (by decide) ?_
            exact g_lv [] rfl (wX10_control_L97 C _ _ _ _ _ _ s_a0 h)
          · replace h := iq q h
            refine g_iconst (v := 1) C dX10_control_92 (by decide) ?_
            refine g_goto C 97 dX10_control_93 rfl ?_
            exact g_lv [] rfl (wX10_control_L97 C _ _ _ _ _ _ s_a0 h)
        · replace h := ip q h
          refine g_iconst (v := 0) C dX10_control_40 (by decide) ?_
          cases h
          exact g_zreturn (r := 0) C rfl dX10_control_41
theorem miX10_control : MI yX10_control cX10_control 6 (some .boolean) RX10 5 := ⟨wcX10_control, wmX10_control, wsX10_control, wiX10, by decide +kernel⟩
theorem kX10_control {l : Launch} {D : va_G} {cA : Nat → ClassId} {tS : Nat → Nat} {σ : Sg} {a0 : Nat} {v1 : Int32} {v2 : Int32} {v3 : Int32} {v4 : Int32} {v5 : Int32} {μ : Mm} {q : Int32 × Mm} (s_a0 : σ a0 = some (10, 0)) (h : fX10_control a0 v1 v2 v3 v4 v5 μ = some q) : Ct l D cA tS σ yX10_control cX10_control 6 (some .boolean) (rmO 2 41) [.ref a0, .int v1, .int v2, .int v3, .int v4, .int v5] μ (QI D cA σ q.1 q.2) :=
  Ct.of (by decide) (Nat.le_of_ble_eq_true rfl) (fun _ _ _ _ _ _ _ _ C => wX10_control C _ _ _ _ _ _ _ s_a0 h)
set_option maxRecDepth 100000 in
set_option maxHeartbeats 4000000 in
theorem wX10_paint_B68 {p : Program} {l : Launch} {e : Env} {s : State} {m : MethodId} {args : Array Value} {below : List Frame} {meth : Method} {c : Code} {D : va_G} {cA : Nat → ClassId} {tS : Nat → Nat} {σ : Sg} {rec68 : Nat → Int32 → Int32 → Int32 → Int32 → Int32 → Mm → Option (Int32 × Mm)} {fu : Nat} {q : Int32 × Mm} (C : Cx p s m args meth c (dm σ) D cA tS σ cX10_paint (some .boolean) 7 RX10) (hrec68 : ∀ (y0 : Nat) (y1 : Int32) (y2 : Int32) (y3 : Int32) (y4 : Int32) (y6 : Int32) (μ : Mm), σ y0 = some (10, 0) → rec68 y0 y1 y2 y3 y4 y6 μ = some q → GG p l e (rmO 2 45) s m args below meth c 0 0 (dm σ) D cA σ 7 (MQ below (QI D cA σ q.1 q.2) args s 0 0 (dm σ)) 68 [(0, .ref y0), (1, .int y1), (2, .int y2), (3, .int y3), (4, .int y4), (6, .int y6)] [] μ) (a0 : Nat) (v1 : Int32) (v2 : Int32) (v3 : Int32) (v4 : Int32) (v6 : Int32) (μ : Mm) (s_a0 : σ a0 = some (10, 0)) (h : fX10_paint_B68 rec68 fu a0 v1 v2 v3 v4 v6 μ = some q) : GG p l e (rmO 2 45) s m args below meth c 0 0 (dm σ) D cA σ 7 (MQ below (QI D cA σ q.1 q.2) args s 0 0 (dm σ)) 68 [(0, .ref a0), (1, .int v1), (2, .int v2), (3, .int v3), (4, .int v4), (6, .int v6)] [] μ := by
  unfold fX10_paint_B68 at h
  refine g_iload C dX10_paint_68 5 rfl ?_
  refine g_iload_n C dX10_paint_70 3 rfl ?_
  refine g_icmp_ge C 95 dX10_paint_71 rfl (fun q => ?_) (fun q => ?_)
  · replace h := ip q h
    refine g_iconst (v := 1) C dX10_paint_95 (by decide) ?_
    cases h
    exact g_zreturn (r := 1) C rfl dX10_paint_96
  · replace h := iq q h
    refine g_aload_n C dX10_paint_74 0 rfl ?_
    refine g_aload_n C dX10_paint_75 0 rfl ?_
    refine g_geti (j := 6) C s_a0 (by decide) rfl uwX10 (by decide) rfl lfX10_66 rfl dX10_paint_76 ?_
    refine g_iload_n C dX10_paint_79 1 rfl ?_
    refine g_iload_n C dX10_paint_80 2 rfl ?_
    refine g_iload C dX10_paint_81 5 rfl ?_
    refine g_iadd C dX10_paint_83 ?_
    refine g_iload C dX10_paint_84 4 rfl ?_
    obtain ⟨μ1, e_μ1, h⟩ := bs h
    refine g_callVV C (kX10_setIndex s_a0 e_μ1) miX10_setIndex lmX10_215 s_a0 (by decide) rfl rfl rfl (Nat.le_of_ble_eq_true rfl) dX10_paint_86 ⟨by decide, by decide⟩ ⟨Nat.zero_le _, Nat.zero_le _⟩ ?_
    obtain ⟨x2, e_x2, h⟩ := nm h
    refine g_iinc (v := x2) (lv' := [(6, .int x2), (0, .ref a0), (1, .int v1), (2, .int v2), (3, .int v3), (4, .int v4)]) C dX10_paint_89 (by decide) 5 rfl 1 (by decide) e_x2.symm rfl ?_
    refine g_goto C 68 dX10_paint_92 rfl ?_
    exact g_lv [1, 2, 3, 4, 5, 0] rfl (hrec68 _ _ _ _ _ _ _ s_a0 h)
theorem wX10_paint_L68 {p : Program} {l : Launch} {e : Env} {s : State} {m : MethodId} {args : Array Value} {below : List Frame} {meth : Method} {c : Code} {D : va_G} {cA : Nat → ClassId} {tS : Nat → Nat} {σ : Sg} {fu : Nat} {q : Int32 × Mm} (C : Cx p s m args meth c (dm σ) D cA tS σ cX10_paint (some .boolean) 7 RX10) : ∀ (n : Nat) (a0 : Nat) (v1 : Int32) (v2 : Int32) (v3 : Int32) (v4 : Int32) (v6 : Int32) (μ : Mm), (σ a0 = some (10, 0)) → fX10_paint_L68 fu n a0 v1 v2 v3 v4 v6 μ = some q → GG p l e (rmO 2 45) s m args below meth c 0 0 (dm σ) D cA σ 7 (MQ below (QI D cA σ q.1 q.2) args s 0 0 (dm σ)) 68 [(0, .ref a0), (1, .int v1), (2, .int v2), (3, .int v3), (4, .int v4), (6, .int v6)] [] μ := by
  intro n
  induction n with
  | zero => intro a0 v1 v2 v3 v4 v6 μ s_a0 h; cases h
  | succ n ih => intro a0 v1 v2 v3 v4 v6 μ s_a0 h; exact wX10_paint_B68 C (fun _ _ _ _ _ _ _ k0 h => ih _ _ _ _ _ _ _ k0 h) _ _ _ _ _ _ _ s_a0 h
set_option maxRecDepth 100000 in
set_option maxHeartbeats 4000000 in
theorem wX10_paint {p : Program} {l : Launch} {e : Env} {s : State} {m : MethodId} {args : Array Value} {below : List Frame} {meth : Method} {c : Code} {D : va_G} {cA : Nat → ClassId} {tS : Nat → Nat} {σ : Sg} {fu : Nat} {q : Int32 × Mm} (C : Cx p s m args meth c (dm σ) D cA tS σ cX10_paint (some .boolean) 7 RX10) (a0 : Nat) (v1 : Int32) (v2 : Int32) (v3 : Int32) (v4 : Int32) (μ : Mm) (s_a0 : σ a0 = some (10, 0)) (h : fX10_paint fu a0 v1 v2 v3 v4 μ = some q) : GG p l e (rmO 2 45) s m args below meth c 0 0 (dm σ) D cA σ 7 (MQ below (QI D cA σ q.1 q.2) args s 0 0 (dm σ)) 0 [(0, .ref a0), (1, .int v1), (2, .int v2), (3, .int v3), (4, .int v4)] [] μ := by
  unfold fX10_paint at h
  refine g_aload_n C dX10_paint_0 0 rfl ?_
  refine g_iload_n C dX10_paint_1 1 rfl ?_
  obtain ⟨x1, e_x1, h⟩ := bs h
  refine g_callVI C (kX10_isFrame s_a0 e_x1) miX10_isFrame lmX10_229 s_a0 (by decide) rfl rfl rfl (Nat.le_of_ble_eq_true rfl) dX10_paint_2 ⟨by decide, by decide⟩ ⟨Nat.zero_le _, Nat.zero_le _⟩ ?_
  refine g_if_eq C 28 dX10_paint_5 rfl (fun q => ?_) (fun q => ?_)
  · replace h := ip q h
    refine g_iconst (v := 0) C dX10_paint_28 (by decide) ?_
    cases h
    exact g_zreturn (r := 0) C rfl dX10_paint_29
  · replace h := iq q h
    refine g_iload C dX10_paint_8 4 rfl ?_
    refine g_iconst (v := 0) C dX10_paint_10 (by decide) ?_
    refine g_aload_n C dX10_paint_11 0 rfl ?_
    refine g_aload_n C dX10_paint_12 0 rfl ?_
    refine g_geti (j := 6) C s_a0 (by decide) rfl uwX10 (by decide) rfl lfX10_66 rfl dX10_paint_13 ?_
    refine g_iload_n C dX10_paint_16 1 rfl ?_
    obtain ⟨x2, e_x2, h⟩ := bs h
    refine g_callVI C (kX10_colours s_a0 e_x2) miX10_colours lmX10_193 s_a0 (by decide) rfl rfl rfl (Nat.le_of_ble_eq_true rfl) dX10_paint_17 ⟨by decide, by decide⟩ ⟨Nat.zero_le _, Nat.zero_le _⟩ ?_
    refine g_iconst (v := 1) C dX10_paint_20 (by decide) ?_
    refine g_isub C dX10_paint_21 ?_
    obtain ⟨x3, e_x3, h⟩ := nm h
    refine g_callSI C (kX10_isWithin e_x3.symm) msX10_isWithin lmX10_221 rfl rfl (Nat.le_of_ble_eq_true rfl) dX10_paint_22 ⟨by decide, by decide⟩ ⟨Nat.zero_le _, Nat.zero_le _⟩ ?_
    refine g_if_ne C 30 dX10_paint_25 rfl (fun q => ?_) (fun q => ?_)
    · replace h := iq q h
      refine g_aload_n C dX10_paint_30 0 rfl ?_
      refine g_aload_n C dX10_paint_31 0 rfl ?_
      refine g_geti (j := 6) C s_a0 (by decide) rfl uwX10 (by decide) rfl lfX10_66 rfl dX10_paint_32 ?_
      refine g_iload_n C dX10_paint_35 1 rfl ?_
      obtain ⟨x4, e_x4, h⟩ := bs h
      refine g_callVI C (kX10_places s_a0 e_x4) miX10_places lmX10_189 s_a0 (by decide) rfl rfl rfl (Nat.le_of_ble_eq_true rfl) dX10_paint_36 ⟨by decide, by decide⟩ ⟨Nat.zero_le _, Nat.zero_le _⟩ ?_
      refine g_istore (lv' := [(5, .int x4), (0, .ref a0), (1, .int v1), (2, .int v2), (3, .int v3), (4, .int v4)]) C dX10_paint_39 (by decide) rfl ?_
      refine g_iload_n C dX10_paint_41 3 rfl ?_
      refine g_iconst (v := 0) C dX10_paint_42 (by decide) ?_
      refine g_iload C dX10_paint_43 0 rfl ?_
      obtain ⟨x5, e_x5, h⟩ := nm h
      refine g_callSI C (kX10_isWithin e_x5.symm) msX10_isWithin lmX10_221 rfl rfl (Nat.le_of_ble_eq_true rfl) dX10_paint_45 ⟨by decide, by decide⟩ ⟨Nat.zero_le _, Nat.zero_le _⟩ ?_
      refine g_if_eq C 63 dX10_paint_48 rfl (fun q => ?_) (fun q => ?_)
      · replace h := ip q h
        refine g_iconst (v := 0) C dX10_paint_63 (by decide) ?_
        cases h
        exact g_zreturn (r := 0) C rfl dX10_paint_64
      · replace h := iq q h
        refine g_iload_n C dX10_paint_51 4 rfl ?_
        refine g_iconst (v := 0) C dX10_paint_52 (by decide) ?_
        refine g_iload C dX10_paint_53 0 rfl ?_
        refine g_iload_n C dX10_paint_55 3 rfl ?_
        refine g_isub C dX10_paint_56 ?_
        obtain ⟨x6, e_x6, h⟩ := nm h
        refine g_callSI C (kX10_isWithin e_x6.symm) msX10_isWithin lmX10_221 rfl rfl (Nat.le_of_ble_eq_true rfl) dX10_paint_57 ⟨by decide, by decide⟩ ⟨Nat.zero_le _, Nat.zero_le _⟩ ?_
        refine g_if_ne C 65 dX10_paint_60 rfl (fun q => ?_) (fun q => ?_)
        · replace h := iq q h
          refine g_iconst (v := 0) C dX10_paint_65 (by decide) ?_
          refine g_istore (lv' := [(6, .int 0), (5, .int x4), (0, .ref a0), (1, .int v1), (2, .int v2), (3, .int v3), (4, .int v4)]) C dX10_paint_66 (by decide) rfl ?_
          exact g_lv [2, 3, 4, 5, 6, 0] rfl (wX10_paint_L68 C fu _ _ _ _ _ _ _ s_a0 h)
        · replace h := ip q h
          refine g_iconst (v := 0) C dX10_paint_63 (by decide) ?_
          cases h
          exact g_zreturn (r := 0) C rfl dX10_paint_64
    · replace h := ip q h
      refine g_iconst (v := 0) C dX10_paint_28 (by decide) ?_
      cases h
      exact g_zreturn (r := 0) C rfl dX10_paint_29
theorem miX10_paint : MI yX10_paint cX10_paint 7 (some .boolean) RX10 4 := ⟨wcX10_paint, wmX10_paint, wsX10_paint, wiX10, by decide +kernel⟩
theorem kX10_paint {l : Launch} {D : va_G} {cA : Nat → ClassId} {tS : Nat → Nat} {σ : Sg} {a0 : Nat} {v1 : Int32} {v2 : Int32} {v3 : Int32} {v4 : Int32} {μ : Mm} {fu : Nat} {q : Int32 × Mm} (s_a0 : σ a0 = some (10, 0)) (h : fX10_paint fu a0 v1 v2 v3 v4 μ = some q) : Ct l D cA tS σ yX10_paint cX10_paint 7 (some .boolean) (rmO 2 45) [.ref a0, .int v1, .int v2, .int v3, .int v4] μ (QI D cA σ q.1 q.2) :=
  Ct.of (by decide) (Nat.le_of_ble_eq_true rfl) (fun _ _ _ _ _ _ _ _ C => wX10_paint C _ _ _ _ _ _ s_a0 h)
set_option maxRecDepth 100000 in
set_option maxHeartbeats 4000000 in
theorem wX10_say_L21 {p : Program} {l : Launch} {e : Env} {s : State} {m : MethodId} {args : Array Value} {below : List Frame} {meth : Method} {c : Code} {D : va_G} {cA : Nat → ClassId} {tS : Nat → Nat} {σ : Sg} {q : Mm} (C : Cx p s m args meth c (dm σ) D cA tS σ cX10_say none 2 RX10) (a0 : Nat) (μ : Mm) (s_a0 : σ a0 = some (10, 0)) (h : fX10_say_L21 a0 μ = some q) : GG p l e (rmO 0 0) s m args below meth c 0 0 (dm σ) D cA σ 2 (MQ below (QV D cA σ q) args s 0 0 (dm σ)) 21 [(0, .ref a0)] [] μ := by
  unfold fX10_say_L21 at h
  refine g_aload_n C dX10_say_21 0 rfl ?_
  refine g_dup C dX10_say_22 rfl ?_
  refine g_geti (j := 31) C s_a0 (by decide) rfl uwX10 (by decide) rfl lfX10_237 rfl dX10_say_23 ?_
  refine g_iconst (v := 1) C dX10_say_26 (by decide) ?_
  refine g_iadd C dX10_say_27 ?_
  refine g_puti (j := 31) C s_a0 (by decide) rfl uwX10 tyX10_ok nmX10 (by decide) rfl lfX10_237 rfl rfl rfl (fun _ _ => rfl) (fun _ _ => Nat.le_of_ble_eq_true rfl) dX10_say_28 ?_
  obtain ⟨μ1, e_μ1, h⟩ := nm h
  refine g_mu e_μ1 ?_
  cases h
  exact g_return C dX10_say_31
set_option maxRecDepth 100000 in
set_option maxHeartbeats 4000000 in
theorem wX10_say {p : Program} {l : Launch} {e : Env} {s : State} {m : MethodId} {args : Array Value} {below : List Frame} {meth : Method} {c : Code} {D : va_G} {cA : Nat → ClassId} {tS : Nat → Nat} {σ : Sg} {q : Mm} (C : Cx p s m args meth c (dm σ) D cA tS σ cX10_say none 2 RX10) (a0 : Nat) (v1 : Int32) (μ : Mm) (s_a0 : σ a0 = some (10, 0)) (h : fX10_say a0 v1 μ = some q) : GG p l e (rmO 0 0) s m args below meth c 0 0 (dm σ) D cA σ 2 (MQ below (QV D cA σ q) args s 0 0 (dm σ)) 0 [(0, .ref a0), (1, .int v1)] [] μ := by
  unfold fX10_say at h
  refine g_aload_n C dX10_say_0 0 rfl ?_
  refine g_geti (j := 31) C s_a0 (by decide) rfl uwX10 (by decide) rfl lfX10_237 rfl dX10_say_1 ?_
  refine g_sipush (v := 12000) C dX10_say_4 (by decide) ?_
  refine g_icmp_ge C 21 dX10_say_7 rfl (fun q => ?_) (fun q => ?_)
  · replace h := ip q h
    exact g_lv [0] rfl (wX10_say_L21 C _ _ s_a0 h)
  · replace h := iq q h
    refine g_aload_n C dX10_say_10 0 rfl ?_
    refine g_wt (fun hT_μ => ?_)
    refine g_getr (j := 21) C s_a0 (by decide) rfl uwX10 (by decide) rfl lfX10_41 rfl dX10_say_11 ?_
    refine g_aload_n C dX10_say_14 0 rfl ?_
    refine g_geti (j := 31) C s_a0 (by decide) rfl uwX10 (by decide) rfl lfX10_237 rfl dX10_say_15 ?_
    refine g_iload_n C dX10_say_18 1 rfl ?_
    refine g_i2b C dX10_say_19 ?_
    obtain ⟨hg, h⟩ := gs h
    refine g_bast C (hT_μ.1 _ _ 21 _ s_a0 rfl) (ib_in hg) dX10_say_20 ?_
    obtain ⟨μ1, e_μ1, h⟩ := nm h
    refine g_mu e_μ1 ?_
    exact g_lv [0] rfl (wX10_say_L21 C _ _ s_a0 h)
theorem miX10_say : MI yX10_say cX10_say 2 none RX10 1 := ⟨wcX10_say, wmX10_say, wsX10_say, wiX10, by decide +kernel⟩
theorem kX10_say {l : Launch} {D : va_G} {cA : Nat → ClassId} {tS : Nat → Nat} {σ : Sg} {a0 : Nat} {v1 : Int32} {μ : Mm} {q : Mm} (s_a0 : σ a0 = some (10, 0)) (h : fX10_say a0 v1 μ = some q) : Ct l D cA tS σ yX10_say cX10_say 2 none (rmO 0 0) [.ref a0, .int v1] μ (QV D cA σ q) :=
  Ct.of (by decide) (Nat.le_of_ble_eq_true rfl) (fun _ _ _ _ _ _ _ _ C => wX10_say C _ _ _ s_a0 h)
set_option maxRecDepth 100000 in
set_option maxHeartbeats 4000000 in
theorem wX10_sayTwo {p : Program} {l : Launch} {e : Env} {s : State} {m : MethodId} {args : Array Value} {below : List Frame} {meth : Method} {c : Code} {D : va_G} {cA : Nat → ClassId} {tS : Nat → Nat} {σ : Sg} {q : Mm} (C : Cx p s m args meth c (dm σ) D cA tS σ cX10_sayTwo none 2 RX10) (a0 : Nat) (v1 : Int32) (μ : Mm) (s_a0 : σ a0 = some (10, 0)) (h : fX10_sayTwo a0 v1 μ = some q) : GG p l e (rmO 1 21) s m args below meth c 0 0 (dm σ) D cA σ 2 (MQ below (QV D cA σ q) args s 0 0 (dm σ)) 0 [(0, .ref a0), (1, .int v1)] [] μ := by
  unfold fX10_sayTwo at h
  refine g_aload_n C dX10_sayTwo_0 0 rfl ?_
  refine g_iload_n C dX10_sayTwo_1 1 rfl ?_
  obtain ⟨μ1, e_μ1, h⟩ := bs h
  refine g_callVV C (kX10_say s_a0 e_μ1) miX10_say lmX10_240 s_a0 (by decide) rfl rfl rfl (Nat.le_of_ble_eq_true rfl) dX10_sayTwo_2 ⟨by decide, by decide⟩ ⟨Nat.zero_le _, Nat.zero_le _⟩ ?_
  refine g_aload_n C dX10_sayTwo_5 0 rfl ?_
  refine g_iload_n C dX10_sayTwo_6 1 rfl ?_
  refine g_bipush (v := 8) C dX10_sayTwo_7 (by decide) ?_
  refine g_ishr C dX10_sayTwo_9 ?_
  obtain ⟨μ2, e_μ2, h⟩ := bs h
  refine g_callVV C (kX10_say s_a0 e_μ2) miX10_say lmX10_240 s_a0 (by decide) rfl rfl rfl (Nat.le_of_ble_eq_true rfl) dX10_sayTwo_10 ⟨by decide, by decide⟩ ⟨Nat.zero_le _, Nat.zero_le _⟩ ?_
  cases h
  exact g_return C dX10_sayTwo_13
theorem miX10_sayTwo : MI yX10_sayTwo cX10_sayTwo 2 none RX10 1 := ⟨wcX10_sayTwo, wmX10_sayTwo, wsX10_sayTwo, wiX10, by decide +kernel⟩
theorem kX10_sayTwo {l : Launch} {D : va_G} {cA : Nat → ClassId} {tS : Nat → Nat} {σ : Sg} {a0 : Nat} {v1 : Int32} {μ : Mm} {q : Mm} (s_a0 : σ a0 = some (10, 0)) (h : fX10_sayTwo a0 v1 μ = some q) : Ct l D cA tS σ yX10_sayTwo cX10_sayTwo 2 none (rmO 1 21) [.ref a0, .int v1] μ (QV D cA σ q) :=
  Ct.of (by decide) (Nat.le_of_ble_eq_true rfl) (fun _ _ _ _ _ _ _ _ C => wX10_sayTwo C _ _ _ s_a0 h)
set_option maxRecDepth 100000 in
set_option maxHeartbeats 4000000 in
theorem wX10_sayTable_B3 {p : Program} {l : Launch} {e : Env} {s : State} {m : MethodId} {args : Array Value} {below : List Frame} {meth : Method} {c : Code} {D : va_G} {cA : Nat → ClassId} {tS : Nat → Nat} {σ : Sg} {rec3 : Nat → Nat → Int32 → Int32 → Int32 → Mm → Option (Mm)} {fu : Nat} {ln : Nat} {q : Mm} (C : Cx p s m args meth c (dm σ) D cA tS σ cX10_sayTable none 5 RX10) (hrec3 : ∀ (y0 : Nat) (y1 : Nat) (y2 : Int32) (y3 : Int32) (y4 : Int32) (μ : Mm), σ y0 = some (10, 0) → σ y1 = some (11, ln) → rec3 y0 y1 y2 y3 y4 μ = some q → GG p l e (rmO 1 21) s m args below meth c 0 0 (dm σ) D cA σ 5 (MQ below (QV D cA σ q) args s 0 0 (dm σ)) 3 [(0, .ref y0), (1, .ref y1), (2, .int y2), (3, .int y3), (4, .int y4)] [] μ) (a0 : Nat) (a1 : Nat) (v2 : Int32) (v3 : Int32) (v4 : Int32) (μ : Mm) (s_a0 : σ a0 = some (10, 0)) (s_a1 : σ a1 = some (11, ln)) (h : fX10_sayTable_B3 rec3 fu ln a0 a1 v2 v3 v4 μ = some q) : GG p l e (rmO 1 21) s m args below meth c 0 0 (dm σ) D cA σ 5 (MQ below (QV D cA σ q) args s 0 0 (dm σ)) 3 [(0, .ref a0), (1, .ref a1), (2, .int v2), (3, .int v3), (4, .int v4)] [] μ := by
  unfold fX10_sayTable_B3 at h
  refine g_iload C dX10_sayTable_3 4 rfl ?_
  refine g_iload_n C dX10_sayTable_5 3 rfl ?_
  refine g_icmp_ge C 51 dX10_sayTable_6 rfl (fun q => ?_) (fun q => ?_)
  · replace h := ip q h
    cases h
    exact g_return C dX10_sayTable_51
  · replace h := iq q h
    refine g_aload_n C dX10_sayTable_9 0 rfl ?_
    refine g_aload_n C dX10_sayTable_10 1 rfl ?_
    refine g_iload_n C dX10_sayTable_11 2 rfl ?_
    refine g_iload C dX10_sayTable_12 4 rfl ?_
    refine g_iadd C dX10_sayTable_14 ?_
    obtain ⟨hg1, h⟩ := gs h
    refine g_iald C s_a1 (ib_in hg1) dX10_sayTable_15 ?_
    refine g_bipush (v := 16) C dX10_sayTable_16 (by decide) ?_
    refine g_ishr C dX10_sayTable_18 ?_
    obtain ⟨μ2, e_μ2, h⟩ := bs h
    refine g_callVV C (kX10_say s_a0 e_μ2) miX10_say lmX10_240 s_a0 (by decide) rfl rfl rfl (Nat.le_of_ble_eq_true rfl) dX10_sayTable_19 ⟨by decide, by decide⟩ ⟨Nat.zero_le _, Nat.zero_le _⟩ ?_
    refine g_aload_n C dX10_sayTable_22 0 rfl ?_
    refine g_aload_n C dX10_sayTable_23 1 rfl ?_
    refine g_iload_n C dX10_sayTable_24 2 rfl ?_
    refine g_iload C dX10_sayTable_25 4 rfl ?_
    refine g_iadd C dX10_sayTable_27 ?_
    obtain ⟨hg3, h⟩ := gs h
    refine g_iald C s_a1 (ib_in hg3) dX10_sayTable_28 ?_
    refine g_bipush (v := 8) C dX10_sayTable_29 (by decide) ?_
    refine g_ishr C dX10_sayTable_31 ?_
    obtain ⟨μ4, e_μ4, h⟩ := bs h
    refine g_callVV C (kX10_say s_a0 e_μ4) miX10_say lmX10_240 s_a0 (by decide) rfl rfl rfl (Nat.le_of_ble_eq_true rfl) dX10_sayTable_32 ⟨by decide, by decide⟩ ⟨Nat.zero_le _, Nat.zero_le _⟩ ?_
    refine g_aload_n C dX10_sayTable_35 0 rfl ?_
    refine g_aload_n C dX10_sayTable_36 1 rfl ?_
    refine g_iload_n C dX10_sayTable_37 2 rfl ?_
    refine g_iload C dX10_sayTable_38 4 rfl ?_
    refine g_iadd C dX10_sayTable_40 ?_
    obtain ⟨hg5, h⟩ := gs h
    refine g_iald C s_a1 (ib_in hg5) dX10_sayTable_41 ?_
    obtain ⟨μ6, e_μ6, h⟩ := bs h
    refine g_callVV C (kX10_say s_a0 e_μ6) miX10_say lmX10_240 s_a0 (by decide) rfl rfl rfl (Nat.le_of_ble_eq_true rfl) dX10_sayTable_42 ⟨by decide, by decide⟩ ⟨Nat.zero_le _, Nat.zero_le _⟩ ?_
    obtain ⟨x7, e_x7, h⟩ := nm h
    refine g_iinc (v := x7) (lv' := [(4, .int x7), (0, .ref a0), (1, .ref a1), (2, .int v2), (3, .int v3)]) C dX10_sayTable_45 (by decide) 4 rfl 1 (by decide) e_x7.symm rfl ?_
    refine g_goto C 3 dX10_sayTable_48 rfl ?_
    exact g_lv [1, 2, 3, 4, 0] rfl (hrec3 _ _ _ _ _ _ s_a0 s_a1 h)
theorem wX10_sayTable_L3 {p : Program} {l : Launch} {e : Env} {s : State} {m : MethodId} {args : Array Value} {below : List Frame} {meth : Method} {c : Code} {D : va_G} {cA : Nat → ClassId} {tS : Nat → Nat} {σ : Sg} {fu : Nat} {ln : Nat} {q : Mm} (C : Cx p s m args meth c (dm σ) D cA tS σ cX10_sayTable none 5 RX10) : ∀ (n : Nat) (a0 : Nat) (a1 : Nat) (v2 : Int32) (v3 : Int32) (v4 : Int32) (μ : Mm), (σ a0 = some (10, 0)) → (σ a1 = some (11, ln)) → fX10_sayTable_L3 fu ln n a0 a1 v2 v3 v4 μ = some q → GG p l e (rmO 1 21) s m args below meth c 0 0 (dm σ) D cA σ 5 (MQ below (QV D cA σ q) args s 0 0 (dm σ)) 3 [(0, .ref a0), (1, .ref a1), (2, .int v2), (3, .int v3), (4, .int v4)] [] μ := by
  intro n
  induction n with
  | zero => intro a0 a1 v2 v3 v4 μ s_a0 s_a1 h; cases h
  | succ n ih => intro a0 a1 v2 v3 v4 μ s_a0 s_a1 h; exact wX10_sayTable_B3 C (fun _ _ _ _ _ _ k0 k1 h => ih _ _ _ _ _ _ k0 k1 h) _ _ _ _ _ _ s_a0 s_a1 h
set_option maxRecDepth 100000 in
set_option maxHeartbeats 4000000 in
theorem wX10_sayTable {p : Program} {l : Launch} {e : Env} {s : State} {m : MethodId} {args : Array Value} {below : List Frame} {meth : Method} {c : Code} {D : va_G} {cA : Nat → ClassId} {tS : Nat → Nat} {σ : Sg} {fu : Nat} {ln : Nat} {q : Mm} (C : Cx p s m args meth c (dm σ) D cA tS σ cX10_sayTable none 5 RX10) (a0 : Nat) (a1 : Nat) (v2 : Int32) (v3 : Int32) (μ : Mm) (s_a0 : σ a0 = some (10, 0)) (s_a1 : σ a1 = some (11, ln)) (h : fX10_sayTable fu ln a0 a1 v2 v3 μ = some q) : GG p l e (rmO 1 21) s m args below meth c 0 0 (dm σ) D cA σ 5 (MQ below (QV D cA σ q) args s 0 0 (dm σ)) 0 [(0, .ref a0), (1, .ref a1), (2, .int v2), (3, .int v3)] [] μ := by
  unfold fX10_sayTable at h
  refine g_iconst (v := 0) C dX10_sayTable_0 (by decide) ?_
  refine g_istore (lv' := [(4, .int 0), (0, .ref a0), (1, .ref a1), (2, .int v2), (3, .int v3)]) C dX10_sayTable_1 (by decide) rfl ?_
  exact g_lv [1, 2, 3, 4, 0] rfl (wX10_sayTable_L3 C fu _ _ _ _ _ _ s_a0 s_a1 h)
theorem miX10_sayTable : MI yX10_sayTable cX10_sayTable 5 none RX10 3 := ⟨wcX10_sayTable, wmX10_sayTable, wsX10_sayTable, wiX10, by decide +kernel⟩
theorem kX10_sayTable {l : Launch} {D : va_G} {cA : Nat → ClassId} {tS : Nat → Nat} {σ : Sg} {a0 : Nat} {a1 : Nat} {v2 : Int32} {v3 : Int32} {μ : Mm} {fu : Nat} {ln : Nat} {q : Mm} (s_a0 : σ a0 = some (10, 0)) (s_a1 : σ a1 = some (11, ln)) (h : fX10_sayTable fu ln a0 a1 v2 v3 μ = some q) : Ct l D cA tS σ yX10_sayTable cX10_sayTable 5 none (rmO 1 21) [.ref a0, .ref a1, .int v2, .int v3] μ (QV D cA σ q) :=
  Ct.of (by decide) (Nat.le_of_ble_eq_true rfl) (fun _ _ _ _ _ _ _ _ C => wX10_sayTable C _ _ _ _ _ s_a0 s_a1 h)
set_option maxRecDepth 100000 in
set_option maxHeartbeats 4000000 in
theorem wX10_bitsOf_B2 {p : Program} {l : Launch} {e : Env} {s : State} {m : MethodId} {args : Array Value} {below : List Frame} {meth : Method} {c : Code} {D : va_G} {cA : Nat → ClassId} {tS : Nat → Nat} {σ : Sg} {μ0 : Mm} {rec2 : Int32 → Int32 → Option (Int32)} {fu : Nat} {q : Int32} (C : Cx p s m args meth c (dm σ) D cA tS σ cX10_bitsOf (some .int) 2 RX10) (hrec2 : ∀ (y0 : Int32) (y1 : Int32), rec2 y0 y1 = some q → GG p l e (rmO 0 0) s m args below meth c 0 0 (dm σ) D cA σ 2 (MQ below (QI D cA σ q μ0) args s 0 0 (dm σ)) 2 [(0, .int y0), (1, .int y1)] [] μ0) (v0 : Int32) (v1 : Int32) (h : fX10_bitsOf_B2 rec2 fu v0 v1 = some q) : GG p l e (rmO 0 0) s m args below meth c 0 0 (dm σ) D cA σ 2 (MQ below (QI D cA σ q μ0) args s 0 0 (dm σ)) 2 [(0, .int v0), (1, .int v1)] [] μ0 := by
  unfold fX10_bitsOf_B2 at h
  refine g_iconst (v := 2) C dX10_bitsOf_2 (by decide) ?_
  refine g_iload_n C dX10_bitsOf_3 1 rfl ?_
  refine g_ishl C dX10_bitsOf_4 ?_
  refine g_iload_n C dX10_bitsOf_5 0 rfl ?_
  refine g_icmp_ge C 15 dX10_bitsOf_6 rfl (fun q => ?_) (fun q => ?_)
  · replace h := ip q h
    refine g_iload_n C dX10_bitsOf_15 1 rfl ?_
    cases h
    exact g_ireturn C rfl dX10_bitsOf_16
  · replace h := iq q h
    obtain ⟨x1, e_x1, h⟩ := nm h
    refine g_iinc (v := x1) (lv' := [(1, .int x1), (0, .int v0)]) C dX10_bitsOf_9 (by decide) 1 rfl 1 (by decide) e_x1.symm rfl ?_
    refine g_goto C 2 dX10_bitsOf_12 rfl ?_
    exact g_lv [1, 0] rfl (hrec2 _ _ h)
theorem wX10_bitsOf_L2 {p : Program} {l : Launch} {e : Env} {s : State} {m : MethodId} {args : Array Value} {below : List Frame} {meth : Method} {c : Code} {D : va_G} {cA : Nat → ClassId} {tS : Nat → Nat} {σ : Sg} {μ0 : Mm} {fu : Nat} {q : Int32} (C : Cx p s m args meth c (dm σ) D cA tS σ cX10_bitsOf (some .int) 2 RX10) : ∀ (n : Nat) (v0 : Int32) (v1 : Int32), fX10_bitsOf_L2 fu n v0 v1 = some q → GG p l e (rmO 0 0) s m args below meth c 0 0 (dm σ) D cA σ 2 (MQ below (QI D cA σ q μ0) args s 0 0 (dm σ)) 2 [(0, .int v0), (1, .int v1)] [] μ0 := by
  intro n
  induction n with
  | zero => intro v0 v1 h; cases h
  | succ n ih => intro v0 v1 h; exact wX10_bitsOf_B2 C (fun _ _ h => ih _ _ h) _ _ h
set_option maxRecDepth 100000 in
set_option maxHeartbeats 4000000 in
theorem wX10_bitsOf {p : Program} {l : Launch} {e : Env} {s : State} {m : MethodId} {args : Array Value} {below : List Frame} {meth : Method} {c : Code} {D : va_G} {cA : Nat → ClassId} {tS : Nat → Nat} {σ : Sg} {μ0 : Mm} {fu : Nat} {q : Int32} (C : Cx p s m args meth c (dm σ) D cA tS σ cX10_bitsOf (some .int) 2 RX10) (v0 : Int32) (h : fX10_bitsOf fu v0 = some q) : GG p l e (rmO 0 0) s m args below meth c 0 0 (dm σ) D cA σ 2 (MQ below (QI D cA σ q μ0) args s 0 0 (dm σ)) 0 [(0, .int v0)] [] μ0 := by
  unfold fX10_bitsOf at h
  refine g_iconst (v := 0) C dX10_bitsOf_0 (by decide) ?_
  refine g_istore_n (lv' := [(1, .int 0), (0, .int v0)]) C dX10_bitsOf_1 (by decide) rfl ?_
  exact g_lv [1, 0] rfl (wX10_bitsOf_L2 C fu _ _ h)
theorem msX10_bitsOf : MS yX10_bitsOf cX10_bitsOf 2 (some .int) 1 := ⟨wcX10_bitsOf, wtX10_bitsOf, wiX10, by decide +kernel⟩
theorem kX10_bitsOf {l : Launch} {D : va_G} {cA : Nat → ClassId} {tS : Nat → Nat} {σ : Sg} {v0 : Int32} {μ0 : Mm} {fu : Nat} {q : Int32} (h : fX10_bitsOf fu v0 = some q) : Ct l D cA tS σ yX10_bitsOf cX10_bitsOf 2 (some .int) (rmO 0 0) [.int v0] μ0 (QI D cA σ q μ0) :=
  Ct.of (by decide) (Nat.le_of_ble_eq_true rfl) (fun _ _ _ _ _ _ _ _ C => wX10_bitsOf C _  h)
set_option maxRecDepth 100000 in
set_option maxHeartbeats 4000000 in
theorem wX10_sayRow_B10 {p : Program} {l : Launch} {e : Env} {s : State} {m : MethodId} {args : Array Value} {below : List Frame} {meth : Method} {c : Code} {D : va_G} {cA : Nat → ClassId} {tS : Nat → Nat} {σ : Sg} {rec10 : Nat → Int32 → Mm → Option (Mm)} {fu : Nat} {q : Mm} (C : Cx p s m args meth c (dm σ) D cA tS σ cX10_sayRow none 2 RX10) (hrec10 : ∀ (y0 : Nat) (y1 : Int32) (μ : Mm), σ y0 = some (10, 0) → rec10 y0 y1 μ = some q → GG p l e (rmO 1 21) s m args below meth c 0 0 (dm σ) D cA σ 2 (MQ below (QV D cA σ q) args s 0 0 (dm σ)) 10 [(0, .ref y0), (1, .int y1)] [] μ) (a0 : Nat) (v1 : Int32) (μ : Mm) (s_a0 : σ a0 = some (10, 0)) (h : fX10_sayRow_B10 rec10 fu a0 v1 μ = some q) : GG p l e (rmO 1 21) s m args below meth c 0 0 (dm σ) D cA σ 2 (MQ below (QV D cA σ q) args s 0 0 (dm σ)) 10 [(0, .ref a0), (1, .int v1)] [] μ := by
  unfold fX10_sayRow_B10 at h
  refine g_iload_n C dX10_sayRow_10 1 rfl ?_
  refine g_aload_n C dX10_sayRow_11 0 rfl ?_
  refine g_geti (j := 34) C s_a0 (by decide) rfl uwX10 (by decide) rfl lfX10_259 rfl dX10_sayRow_12 ?_
  refine g_icmp_ge C 34 dX10_sayRow_15 rfl (fun q => ?_) (fun q => ?_)
  · replace h := ip q h
    refine g_aload_n C dX10_sayRow_34 0 rfl ?_
    refine g_iconst (v := 0) C dX10_sayRow_35 (by decide) ?_
    refine g_puti (j := 34) C s_a0 (by decide) rfl uwX10 tyX10_ok nmX10 (by decide) rfl lfX10_259 rfl rfl rfl (fun _ _ => rfl) (fun _ _ => Nat.le_of_ble_eq_true rfl) dX10_sayRow_36 ?_
    obtain ⟨μ1, e_μ1, h⟩ := nm h
    refine g_mu e_μ1 ?_
    cases h
    exact g_return C dX10_sayRow_39
  · replace h := iq q h
    refine g_aload_n C dX10_sayRow_18 0 rfl ?_
    refine g_aload_n C dX10_sayRow_19 0 rfl ?_
    refine g_wt (fun hT_μ => ?_)
    refine g_getr (j := 35) C s_a0 (by decide) rfl uwX10 (by decide) rfl lfX10_56 rfl dX10_sayRow_20 ?_
    refine g_iload_n C dX10_sayRow_23 1 rfl ?_
    obtain ⟨hg2, h⟩ := gs h
    refine g_bald C (hT_μ.1 _ _ 35 _ s_a0 rfl) (ib_in hg2) dX10_sayRow_24 ?_
    obtain ⟨μ3, e_μ3, h⟩ := bs h
    refine g_callVV C (kX10_say s_a0 e_μ3) miX10_say lmX10_240 s_a0 (by decide) rfl rfl rfl (Nat.le_of_ble_eq_true rfl) dX10_sayRow_25 ⟨by decide, by decide⟩ ⟨Nat.zero_le _, Nat.zero_le _⟩ ?_
    obtain ⟨x4, e_x4, h⟩ := nm h
    refine g_iinc (v := x4) (lv' := [(1, .int x4), (0, .ref a0)]) C dX10_sayRow_28 (by decide) 1 rfl 1 (by decide) e_x4.symm rfl ?_
    refine g_goto C 10 dX10_sayRow_31 rfl ?_
    exact g_lv [1, 0] rfl (hrec10 _ _ _ s_a0 h)
theorem wX10_sayRow_L10 {p : Program} {l : Launch} {e : Env} {s : State} {m : MethodId} {args : Array Value} {below : List Frame} {meth : Method} {c : Code} {D : va_G} {cA : Nat → ClassId} {tS : Nat → Nat} {σ : Sg} {fu : Nat} {q : Mm} (C : Cx p s m args meth c (dm σ) D cA tS σ cX10_sayRow none 2 RX10) : ∀ (n : Nat) (a0 : Nat) (v1 : Int32) (μ : Mm), (σ a0 = some (10, 0)) → fX10_sayRow_L10 fu n a0 v1 μ = some q → GG p l e (rmO 1 21) s m args below meth c 0 0 (dm σ) D cA σ 2 (MQ below (QV D cA σ q) args s 0 0 (dm σ)) 10 [(0, .ref a0), (1, .int v1)] [] μ := by
  intro n
  induction n with
  | zero => intro a0 v1 μ s_a0 h; cases h
  | succ n ih => intro a0 v1 μ s_a0 h; exact wX10_sayRow_B10 C (fun _ _ _ k0 h => ih _ _ _ k0 h) _ _ _ s_a0 h
set_option maxRecDepth 100000 in
set_option maxHeartbeats 4000000 in
theorem wX10_sayRow {p : Program} {l : Launch} {e : Env} {s : State} {m : MethodId} {args : Array Value} {below : List Frame} {meth : Method} {c : Code} {D : va_G} {cA : Nat → ClassId} {tS : Nat → Nat} {σ : Sg} {fu : Nat} {q : Mm} (C : Cx p s m args meth c (dm σ) D cA tS σ cX10_sayRow none 2 RX10) (a0 : Nat) (μ : Mm) (s_a0 : σ a0 = some (10, 0)) (h : fX10_sayRow fu a0 μ = some q) : GG p l e (rmO 1 21) s m args below meth c 0 0 (dm σ) D cA σ 2 (MQ below (QV D cA σ q) args s 0 0 (dm σ)) 0 [(0, .ref a0)] [] μ := by
  unfold fX10_sayRow at h
  refine g_aload_n C dX10_sayRow_0 0 rfl ?_
  refine g_aload_n C dX10_sayRow_1 0 rfl ?_
  refine g_geti (j := 34) C s_a0 (by decide) rfl uwX10 (by decide) rfl lfX10_259 rfl dX10_sayRow_2 ?_
  obtain ⟨μ1, e_μ1, h⟩ := bs h
  refine g_callVV C (kX10_say s_a0 e_μ1) miX10_say lmX10_240 s_a0 (by decide) rfl rfl rfl (Nat.le_of_ble_eq_true rfl) dX10_sayRow_5 ⟨by decide, by decide⟩ ⟨Nat.zero_le _, Nat.zero_le _⟩ ?_
  refine g_iconst (v := 0) C dX10_sayRow_8 (by decide) ?_
  refine g_istore_n (lv' := [(1, .int 0), (0, .ref a0)]) C dX10_sayRow_9 (by decide) rfl ?_
  exact g_lv [1, 0] rfl (wX10_sayRow_L10 C fu _ _ _ s_a0 h)
theorem miX10_sayRow : MI yX10_sayRow cX10_sayRow 2 none RX10 0 := ⟨wcX10_sayRow, wmX10_sayRow, wsX10_sayRow, wiX10, by decide +kernel⟩
theorem kX10_sayRow {l : Launch} {D : va_G} {cA : Nat → ClassId} {tS : Nat → Nat} {σ : Sg} {a0 : Nat} {μ : Mm} {fu : Nat} {q : Mm} (s_a0 : σ a0 = some (10, 0)) (h : fX10_sayRow fu a0 μ = some q) : Ct l D cA tS σ yX10_sayRow cX10_sayRow 2 none (rmO 1 21) [.ref a0] μ (QV D cA σ q) :=
  Ct.of (by decide) (Nat.le_of_ble_eq_true rfl) (fun _ _ _ _ _ _ _ _ C => wX10_sayRow C _ _ s_a0 h)
set_option maxRecDepth 100000 in
set_option maxHeartbeats 4000000 in
theorem wX10_sayBits_L72 {p : Program} {l : Launch} {e : Env} {s : State} {m : MethodId} {args : Array Value} {below : List Frame} {meth : Method} {c : Code} {D : va_G} {cA : Nat → ClassId} {tS : Nat → Nat} {σ : Sg} {rec25 : Nat → Mm → Option (Mm)} {fu : Nat} {q : Mm} (C : Cx p s m args meth c (dm σ) D cA tS σ cX10_sayBits none 3 RX10) (hrec25 : ∀ (y0 : Nat) (μ : Mm), σ y0 = some (10, 0) → rec25 y0 μ = some q → GG p l e (rmO 2 42) s m args below meth c 0 0 (dm σ) D cA σ 3 (MQ below (QV D cA σ q) args s 0 0 (dm σ)) 25 [(0, .ref y0)] [] μ) (a0 : Nat) (μ : Mm) (s_a0 : σ a0 = some (10, 0)) (h : fX10_sayBits_L72 rec25 fu a0 μ = some q) : GG p l e (rmO 2 42) s m args below meth c 0 0 (dm σ) D cA σ 3 (MQ below (QV D cA σ q) args s 0 0 (dm σ)) 72 [(0, .ref a0)] [] μ := by
  unfold fX10_sayBits_L72 at h
  refine g_aload_n C dX10_sayBits_72 0 rfl ?_
  refine g_dup C dX10_sayBits_73 rfl ?_
  refine g_geti (j := 32) C s_a0 (by decide) rfl uwX10 (by decide) rfl lfX10_265 rfl dX10_sayBits_74 ?_
  refine g_bipush (v := 8) C dX10_sayBits_77 (by decide) ?_
  refine g_iushr C dX10_sayBits_79 ?_
  refine g_puti (j := 32) C s_a0 (by decide) rfl uwX10 tyX10_ok nmX10 (by decide) rfl lfX10_265 rfl rfl rfl (fun _ _ => rfl) (fun _ _ => Nat.le_of_ble_eq_true rfl) dX10_sayBits_80 ?_
  obtain ⟨μ1, e_μ1, h⟩ := nm h
  refine g_mu e_μ1 ?_
  refine g_aload_n C dX10_sayBits_83 0 rfl ?_
  refine g_dup C dX10_sayBits_84 rfl ?_
  refine g_geti (j := 33) C s_a0 (by decide) rfl uwX10 (by decide) rfl lfX10_268 rfl dX10_sayBits_85 ?_
  refine g_bipush (v := 8) C dX10_sayBits_88 (by decide) ?_
  refine g_isub C dX10_sayBits_90 ?_
  refine g_puti (j := 33) C s_a0 (by decide) rfl uwX10 tyX10_ok nmX10 (by decide) rfl lfX10_268 rfl rfl rfl (fun _ _ => rfl) (fun _ _ => Nat.le_of_ble_eq_true rfl) dX10_sayBits_91 ?_
  obtain ⟨μ2, e_μ2, h⟩ := nm h
  refine g_mu e_μ2 ?_
  refine g_goto C 25 dX10_sayBits_94 rfl ?_
  exact g_lv [0] rfl (hrec25 _ _ s_a0 h)
set_option maxRecDepth 100000 in
set_option maxHeartbeats 4000000 in
theorem wX10_sayBits_B25 {p : Program} {l : Launch} {e : Env} {s : State} {m : MethodId} {args : Array Value} {below : List Frame} {meth : Method} {c : Code} {D : va_G} {cA : Nat → ClassId} {tS : Nat → Nat} {σ : Sg} {rec25 : Nat → Mm → Option (Mm)} {fu : Nat} {q : Mm} (C : Cx p s m args meth c (dm σ) D cA tS σ cX10_sayBits none 3 RX10) (hrec25 : ∀ (y0 : Nat) (μ : Mm), σ y0 = some (10, 0) → rec25 y0 μ = some q → GG p l e (rmO 2 42) s m args below meth c 0 0 (dm σ) D cA σ 3 (MQ below (QV D cA σ q) args s 0 0 (dm σ)) 25 [(0, .ref y0)] [] μ) (a0 : Nat) (μ : Mm) (s_a0 : σ a0 = some (10, 0)) (h : fX10_sayBits_B25 rec25 fu a0 μ = some q) : GG p l e (rmO 2 42) s m args below meth c 0 0 (dm σ) D cA σ 3 (MQ below (QV D cA σ q) args s 0 0 (dm σ)) 25 [(0, .ref a0)] [] μ := by
  unfold fX10_sayBits_B25 at h
  refine g_aload_n C dX10_sayBits_25 0 rfl ?_
  refine g_geti (j := 33) C s_a0 (by decide) rfl uwX10 (by decide) rfl lfX10_268 rfl dX10_sayBits_26 ?_
  refine g_bipush (v := 8) C dX10_sayBits_29 (by decide) ?_
  refine g_icmp_lt C 97 dX10_sayBits_31 rfl (fun q => ?_) (fun q => ?_)
  · replace h := ip q h
    cases h
    exact g_return C dX10_sayBits_97
  · replace h := iq q h
    refine g_aload_n C dX10_sayBits_34 0 rfl ?_
    refine g_wt (fun hT_μ => ?_)
    refine g_getr (j := 35) C s_a0 (by decide) rfl uwX10 (by decide) rfl lfX10_56 rfl dX10_sayBits_35 ?_
    refine g_aload_n C dX10_sayBits_38 0 rfl ?_
    refine g_geti (j := 34) C s_a0 (by decide) rfl uwX10 (by decide) rfl lfX10_259 rfl dX10_sayBits_39 ?_
    refine g_aload_n C dX10_sayBits_42 0 rfl ?_
    refine g_geti (j := 32) C s_a0 (by decide) rfl uwX10 (by decide) rfl lfX10_265 rfl dX10_sayBits_43 ?_
    refine g_i2b C dX10_sayBits_46 ?_
    obtain ⟨hg, h⟩ := gs h
    refine g_bast C (hT_μ.1 _ _ 35 _ s_a0 rfl) (ib_in hg) dX10_sayBits_47 ?_
    obtain ⟨μ1, e_μ1, h⟩ := nm h
    refine g_mu e_μ1 ?_
    refine g_aload_n C dX10_sayBits_48 0 rfl ?_
    refine g_dup C dX10_sayBits_49 rfl ?_
    refine g_geti (j := 34) C s_a0 (by decide) rfl uwX10 (by decide) rfl lfX10_259 rfl dX10_sayBits_50 ?_
    refine g_iconst (v := 1) C dX10_sayBits_53 (by decide) ?_
    refine g_iadd C dX10_sayBits_54 ?_
    refine g_puti (j := 34) C s_a0 (by decide) rfl uwX10 tyX10_ok nmX10 (by decide) rfl lfX10_259 rfl rfl rfl (fun _ _ => rfl) (fun _ _ => Nat.le_of_ble_eq_true rfl) dX10_sayBits_55 ?_
    obtain ⟨μ2, e_μ2, h⟩ := nm h
    refine g_mu e_μ2 ?_
    refine g_aload_n C dX10_sayBits_58 0 rfl ?_
    refine g_geti (j := 34) C s_a0 (by decide) rfl uwX10 (by decide) rfl lfX10_259 rfl dX10_sayBits_59 ?_
    refine g_sipush (v := 255) C dX10_sayBits_62 (by decide) ?_
    refine g_icmp_ne C 72 dX10_sayBits_65 rfl (fun q => ?_) (fun q => ?_)
    · replace h := iq q h
      exact g_lv [0] rfl (wX10_sayBits_L72 C hrec25 _ _ s_a0 h)
    · replace h := ip q h
      refine g_aload_n C dX10_sayBits_68 0 rfl ?_
      obtain ⟨μ3, e_μ3, h⟩ := bs h
      refine g_callVV C (kX10_sayRow s_a0 e_μ3) miX10_sayRow lmX10_262 s_a0 (by decide) rfl rfl rfl (Nat.le_of_ble_eq_true rfl) dX10_sayBits_69 ⟨by decide, by decide⟩ ⟨Nat.zero_le _, Nat.zero_le _⟩ ?_
      exact g_lv [0] rfl (wX10_sayBits_L72 C hrec25 _ _ s_a0 h)
theorem wX10_sayBits_L25 {p : Program} {l : Launch} {e : Env} {s : State} {m : MethodId} {args : Array Value} {below : List Frame} {meth : Method} {c : Code} {D : va_G} {cA : Nat → ClassId} {tS : Nat → Nat} {σ : Sg} {fu : Nat} {q : Mm} (C : Cx p s m args meth c (dm σ) D cA tS σ cX10_sayBits none 3 RX10) : ∀ (n : Nat) (a0 : Nat) (μ : Mm), (σ a0 = some (10, 0)) → fX10_sayBits_L25 fu n a0 μ = some q → GG p l e (rmO 2 42) s m args below meth c 0 0 (dm σ) D cA σ 3 (MQ below (QV D cA σ q) args s 0 0 (dm σ)) 25 [(0, .ref a0)] [] μ := by
  intro n
  induction n with
  | zero => intro a0 μ s_a0 h; cases h
  | succ n ih => intro a0 μ s_a0 h; exact wX10_sayBits_B25 C (fun _ _ k0 h => ih _ _ k0 h) _ _ s_a0 h
set_option maxRecDepth 100000 in
set_option maxHeartbeats 4000000 in
theorem wX10_sayBits {p : Program} {l : Launch} {e : Env} {s : State} {m : MethodId} {args : Array Value} {below : List Frame} {meth : Method} {c : Code} {D : va_G} {cA : Nat → ClassId} {tS : Nat → Nat} {σ : Sg} {fu : Nat} {q : Mm} (C : Cx p s m args meth c (dm σ) D cA tS σ cX10_sayBits none 3 RX10) (a0 : Nat) (v1 : Int32) (v2 : Int32) (μ : Mm) (s_a0 : σ a0 = some (10, 0)) (h : fX10_sayBits fu a0 v1 v2 μ = some q) : GG p l e (rmO 2 42) s m args below meth c 0 0 (dm σ) D cA σ 3 (MQ below (QV D cA σ q) args s 0 0 (dm σ)) 0 [(0, .ref a0), (1, .int v1), (2, .int v2)] [] μ := by
  unfold fX10_sayBits at h
  refine g_aload_n C dX10_sayBits_0 0 rfl ?_
  refine g_dup C dX10_sayBits_1 rfl ?_
  refine g_geti (j := 32) C s_a0 (by decide) rfl uwX10 (by decide) rfl lfX10_265 rfl dX10_sayBits_2 ?_
  refine g_iload_n C dX10_sayBits_5 1 rfl ?_
  refine g_aload_n C dX10_sayBits_6 0 rfl ?_
  refine g_geti (j := 33) C s_a0 (by decide) rfl uwX10 (by decide) rfl lfX10_268 rfl dX10_sayBits_7 ?_
  refine g_ishl C dX10_sayBits_10 ?_
  refine g_ior C dX10_sayBits_11 ?_
  refine g_puti (j := 32) C s_a0 (by decide) rfl uwX10 tyX10_ok nmX10 (by decide) rfl lfX10_265 rfl rfl rfl (fun _ _ => rfl) (fun _ _ => Nat.le_of_ble_eq_true rfl) dX10_sayBits_12 ?_
  obtain ⟨μ1, e_μ1, h⟩ := nm h
  refine g_mu e_μ1 ?_
  refine g_aload_n C dX10_sayBits_15 0 rfl ?_
  refine g_dup C dX10_sayBits_16 rfl ?_
  refine g_geti (j := 33) C s_a0 (by decide) rfl uwX10 (by decide) rfl lfX10_268 rfl dX10_sayBits_17 ?_
  refine g_iload_n C dX10_sayBits_20 2 rfl ?_
  refine g_iadd C dX10_sayBits_21 ?_
  refine g_puti (j := 33) C s_a0 (by decide) rfl uwX10 tyX10_ok nmX10 (by decide) rfl lfX10_268 rfl rfl rfl (fun _ _ => rfl) (fun _ _ => Nat.le_of_ble_eq_true rfl) dX10_sayBits_22 ?_
  obtain ⟨μ2, e_μ2, h⟩ := nm h
  refine g_mu e_μ2 ?_
  exact g_lv [0] rfl (wX10_sayBits_L25 C fu _ _ s_a0 h)
theorem miX10_sayBits : MI yX10_sayBits cX10_sayBits 3 none RX10 2 := ⟨wcX10_sayBits, wmX10_sayBits, wsX10_sayBits, wiX10, by decide +kernel⟩
theorem kX10_sayBits {l : Launch} {D : va_G} {cA : Nat → ClassId} {tS : Nat → Nat} {σ : Sg} {a0 : Nat} {v1 : Int32} {v2 : Int32} {μ : Mm} {fu : Nat} {q : Mm} (s_a0 : σ a0 = some (10, 0)) (h : fX10_sayBits fu a0 v1 v2 μ = some q) : Ct l D cA tS σ yX10_sayBits cX10_sayBits 3 none (rmO 2 42) [.ref a0, .int v1, .int v2] μ (QV D cA σ q) :=
  Ct.of (by decide) (Nat.le_of_ble_eq_true rfl) (fun _ _ _ _ _ _ _ _ C => wX10_sayBits C _ _ _ _ s_a0 h)
set_option maxRecDepth 100000 in
set_option maxHeartbeats 4000000 in
theorem wX10_indexOf {p : Program} {l : Launch} {e : Env} {s : State} {m : MethodId} {args : Array Value} {below : List Frame} {meth : Method} {c : Code} {D : va_G} {cA : Nat → ClassId} {tS : Nat → Nat} {σ : Sg} {q : Int32} (C : Cx p s m args meth c (dm σ) D cA tS σ cX10_indexOf (some .int) 3 RX10) (a0 : Nat) (v1 : Int32) (v2 : Int32) (μ : Mm) (s_a0 : σ a0 = some (10, 0)) (h : fX10_indexOf a0 v1 v2 μ = some q) : GG p l e (rmO 2 48) s m args below meth c 0 0 (dm σ) D cA σ 3 (MQ below (QI D cA σ q μ) args s 0 0 (dm σ)) 0 [(0, .ref a0), (1, .int v1), (2, .int v2)] [] μ := by
  unfold fX10_indexOf at h
  refine g_aload_n C dX10_indexOf_0 0 rfl ?_
  refine g_aload_n C dX10_indexOf_1 0 rfl ?_
  refine g_geti (j := 6) C s_a0 (by decide) rfl uwX10 (by decide) rfl lfX10_66 rfl dX10_indexOf_2 ?_
  refine g_iload_n C dX10_indexOf_5 1 rfl ?_
  refine g_aload_n C dX10_indexOf_6 0 rfl ?_
  refine g_aload_n C dX10_indexOf_7 0 rfl ?_
  refine g_geti (j := 6) C s_a0 (by decide) rfl uwX10 (by decide) rfl lfX10_66 rfl dX10_indexOf_8 ?_
  refine g_iload_n C dX10_indexOf_11 1 rfl ?_
  refine g_iload_n C dX10_indexOf_12 2 rfl ?_
  obtain ⟨x1, e_x1, h⟩ := bs h
  refine g_callVI C (kX10_placeOf s_a0 e_x1) miX10_placeOf lmX10_212 s_a0 (by decide) rfl rfl rfl (Nat.le_of_ble_eq_true rfl) dX10_indexOf_13 ⟨by decide, by decide⟩ ⟨Nat.zero_le _, Nat.zero_le _⟩ ?_
  obtain ⟨x2, e_x2, h⟩ := bs h
  refine g_callVI C (kX10_indexAt s_a0 e_x2) miX10_indexAt lmX10_271 s_a0 (by decide) rfl rfl rfl (Nat.le_of_ble_eq_true rfl) dX10_indexOf_16 ⟨by decide, by decide⟩ ⟨Nat.zero_le _, Nat.zero_le _⟩ ?_
  cases h
  exact g_ireturn C rfl dX10_indexOf_19
theorem miX10_indexOf : MI yX10_indexOf cX10_indexOf 3 (some .int) RX10 2 := ⟨wcX10_indexOf, wmX10_indexOf, wsX10_indexOf, wiX10, by decide +kernel⟩
theorem kX10_indexOf {l : Launch} {D : va_G} {cA : Nat → ClassId} {tS : Nat → Nat} {σ : Sg} {a0 : Nat} {v1 : Int32} {v2 : Int32} {μ : Mm} {q : Int32} (s_a0 : σ a0 = some (10, 0)) (h : fX10_indexOf a0 v1 v2 μ = some q) : Ct l D cA tS σ yX10_indexOf cX10_indexOf 3 (some .int) (rmO 2 48) [.ref a0, .int v1, .int v2] μ (QI D cA σ q μ) :=
  Ct.of (by decide) (Nat.le_of_ble_eq_true rfl) (fun _ _ _ _ _ _ _ _ C => wX10_indexOf C _ _ _ _ s_a0 h)
set_option maxRecDepth 100000 in
set_option maxHeartbeats 4000000 in
theorem wX10_stands_L67 {p : Program} {l : Launch} {e : Env} {s : State} {m : MethodId} {args : Array Value} {below : List Frame} {meth : Method} {c : Code} {D : va_G} {cA : Nat → ClassId} {tS : Nat → Nat} {σ : Sg} {fu : Nat} {q : Int32} (C : Cx p s m args meth c (dm σ) D cA tS σ cX10_stands (some .boolean) 7 RX10) (v6 : Int32) (μ : Mm) (h : fX10_stands_L67 fu v6 μ = some q) : GG p l e (rmO 3 70) s m args below meth c 0 0 (dm σ) D cA σ 7 (MQ below (QI D cA σ q μ) args s 0 0 (dm σ)) 67 [(6, .int v6)] [] μ := by
  unfold fX10_stands_L67 at h
  refine g_iload C dX10_stands_67 0 rfl ?_
  refine g_if_ge C 76 dX10_stands_69 rfl (fun q => ?_) (fun q => ?_)
  · replace h := ip q h
    refine g_iconst (v := 0) C dX10_stands_76 (by decide) ?_
    cases h
    exact g_zreturn (r := 0) C rfl dX10_stands_77
  · replace h := iq q h
    refine g_iconst (v := 1) C dX10_stands_72 (by decide) ?_
    refine g_goto C 77 dX10_stands_73 rfl ?_
    cases h
    exact g_zreturn (r := 1) C rfl dX10_stands_77
set_option maxRecDepth 100000 in
set_option maxHeartbeats 4000000 in
theorem wX10_stands_B30 {p : Program} {l : Launch} {e : Env} {s : State} {m : MethodId} {args : Array Value} {below : List Frame} {meth : Method} {c : Code} {D : va_G} {cA : Nat → ClassId} {tS : Nat → Nat} {σ : Sg} {rec30 : Nat → Int32 → Int32 → Int32 → Mm → Option (Int32)} {fu : Nat} {q : Int32} (C : Cx p s m args meth c (dm σ) D cA tS σ cX10_stands (some .boolean) 7 RX10) (hrec30 : ∀ (y0 : Nat) (y2 : Int32) (y5 : Int32) (y6 : Int32) (μ : Mm), σ y0 = some (10, 0) → rec30 y0 y2 y5 y6 μ = some q → GG p l e (rmO 3 70) s m args below meth c 0 0 (dm σ) D cA σ 7 (MQ below (QI D cA σ q μ) args s 0 0 (dm σ)) 30 [(0, .ref y0), (2, .int y2), (5, .int y5), (6, .int y6)] [] μ) (a0 : Nat) (v2 : Int32) (v5 : Int32) (v6 : Int32) (μ : Mm) (s_a0 : σ a0 = some (10, 0)) (h : fX10_stands_B30 rec30 fu a0 v2 v5 v6 μ = some q) : GG p l e (rmO 3 70) s m args below meth c 0 0 (dm σ) D cA σ 7 (MQ below (QI D cA σ q μ) args s 0 0 (dm σ)) 30 [(0, .ref a0), (2, .int v2), (5, .int v5), (6, .int v6)] [] μ := by
  unfold fX10_stands_B30 at h
  refine g_iload C dX10_stands_30 3 rfl ?_
  refine g_if_lt C 67 dX10_stands_32 rfl (fun q => ?_) (fun q => ?_)
  · replace h := ip q h
    exact g_lv [3] rfl (wX10_stands_L67 C _ _ h)
  · replace h := iq q h
    refine g_aload_n C dX10_stands_35 0 rfl ?_
    refine g_wt (fun hT_μ => ?_)
    refine g_getr (j := 25) C s_a0 (by decide) rfl uwX10 (by decide) rfl lfX10_47 rfl dX10_stands_36 ?_
    refine g_iload C dX10_stands_39 3 rfl ?_
    obtain ⟨hg1, h⟩ := gs h
    refine g_shald C (hT_μ.1 _ _ 25 _ s_a0 rfl) (ib_in hg1) dX10_stands_41 ?_
    refine g_aload_n C dX10_stands_42 0 rfl ?_
    refine g_iload_n C dX10_stands_43 1 rfl ?_
    refine g_iload C dX10_stands_44 2 rfl ?_
    obtain ⟨x2, e_x2, h⟩ := bs h
    refine g_callVI C (kX10_indexOf s_a0 e_x2) miX10_indexOf lmX10_274 s_a0 (by decide) rfl rfl rfl (Nat.le_of_ble_eq_true rfl) dX10_stands_46 ⟨by decide, by decide⟩ ⟨Nat.zero_le _, Nat.zero_le _⟩ ?_
    refine g_icmp_ne C 67 dX10_stands_49 rfl (fun q => ?_) (fun q => ?_)
    · replace h := iq q h
      exact g_lv [3] rfl (wX10_stands_L67 C _ _ h)
    · replace h := ip q h
      obtain ⟨x3, e_x3, h⟩ := nm h
      refine g_iinc (v := x3) (lv' := [(5, .int x3), (0, .ref a0), (2, .int v2), (6, .int v6)]) C dX10_stands_52 (by decide) 2 rfl (-1) (by decide) e_x3.symm rfl ?_
      refine g_aload_n C dX10_stands_55 1 rfl ?_
      refine g_getr (j := 24) C s_a0 (by decide) rfl uwX10 (by decide) rfl lfX10_44 rfl dX10_stands_56 ?_
      refine g_iload C dX10_stands_59 3 rfl ?_
      obtain ⟨hg4, h⟩ := gs h
      refine g_shald C (hT_μ.1 _ _ 24 _ s_a0 rfl) (ib_in hg4) dX10_stands_61 ?_
      obtain ⟨x5, e_x5, h⟩ := nm h
      refine g_topi e_x5 ?_
      refine g_istore (lv' := [(6, .int x5), (5, .int x3), (0, .ref a0), (2, .int v2)]) C dX10_stands_62 (by decide) rfl ?_
      refine g_goto C 30 dX10_stands_64 rfl ?_
      exact g_lv [2, 3, 1, 0] rfl (hrec30 _ _ _ _ _ s_a0 h)
theorem wX10_stands_L30 {p : Program} {l : Launch} {e : Env} {s : State} {m : MethodId} {args : Array Value} {below : List Frame} {meth : Method} {c : Code} {D : va_G} {cA : Nat → ClassId} {tS : Nat → Nat} {σ : Sg} {fu : Nat} {q : Int32} (C : Cx p s m args meth c (dm σ) D cA tS σ cX10_stands (some .boolean) 7 RX10) : ∀ (n : Nat) (a0 : Nat) (v2 : Int32) (v5 : Int32) (v6 : Int32) (μ : Mm), (σ a0 = some (10, 0)) → fX10_stands_L30 fu n a0 v2 v5 v6 μ = some q → GG p l e (rmO 3 70) s m args below meth c 0 0 (dm σ) D cA σ 7 (MQ below (QI D cA σ q μ) args s 0 0 (dm σ)) 30 [(0, .ref a0), (2, .int v2), (5, .int v5), (6, .int v6)] [] μ := by
  intro n
  induction n with
  | zero => intro a0 v2 v5 v6 μ s_a0 h; cases h
  | succ n ih => intro a0 v2 v5 v6 μ s_a0 h; exact wX10_stands_B30 C (fun _ _ _ _ _ k0 h => ih _ _ _ _ _ k0 h) _ _ _ _ _ s_a0 h
set_option maxRecDepth 100000 in
set_option maxHeartbeats 4000000 in
theorem wX10_stands {p : Program} {l : Launch} {e : Env} {s : State} {m : MethodId} {args : Array Value} {below : List Frame} {meth : Method} {c : Code} {D : va_G} {cA : Nat → ClassId} {tS : Nat → Nat} {σ : Sg} {fu : Nat} {q : Int32} (C : Cx p s m args meth c (dm σ) D cA tS σ cX10_stands (some .boolean) 7 RX10) (a0 : Nat) (v1 : Int32) (v2 : Int32) (v3 : Int32) (v4 : Int32) (μ : Mm) (s_a0 : σ a0 = some (10, 0)) (h : fX10_stands fu a0 v1 v2 v3 v4 μ = some q) : GG p l e (rmO 3 70) s m args below meth c 0 0 (dm σ) D cA σ 7 (MQ below (QI D cA σ q μ) args s 0 0 (dm σ)) 0 [(0, .ref a0), (1, .int v1), (2, .int v2), (3, .int v3), (4, .int v4)] [] μ := by
  unfold fX10_stands at h
  refine g_iload_n C dX10_stands_0 3 rfl ?_
  refine g_aload_n C dX10_stands_1 0 rfl ?_
  refine g_wt (fun hT_μ => ?_)
  refine g_getr (j := 27) C s_a0 (by decide) rfl uwX10 (by decide) rfl lfX10_53 rfl dX10_stands_2 ?_
  refine g_iload_n C dX10_stands_5 1 rfl ?_
  obtain ⟨hg1, h⟩ := gs h
  refine g_shald C (hT_μ.1 _ _ 27 _ s_a0 rfl) (ib_in hg1) dX10_stands_6 ?_
  refine g_iadd C dX10_stands_7 ?_
  refine g_iload C dX10_stands_8 4 rfl ?_
  refine g_icmp_le C 15 dX10_stands_10 rfl (fun q => ?_) (fun q => ?_)
  · replace h := ip q h
    refine g_iload_n C dX10_stands_15 3 rfl ?_
    refine g_aload_n C dX10_stands_16 0 rfl ?_
    refine g_getr (j := 27) C s_a0 (by decide) rfl uwX10 (by decide) rfl lfX10_53 rfl dX10_stands_17 ?_
    refine g_iload_n C dX10_stands_20 1 rfl ?_
    obtain ⟨hg2, h⟩ := gs h
    refine g_shald C (hT_μ.1 _ _ 27 _ s_a0 rfl) (ib_in hg2) dX10_stands_21 ?_
    refine g_iadd C dX10_stands_22 ?_
    refine g_iconst (v := 1) C dX10_stands_23 (by decide) ?_
    refine g_isub C dX10_stands_24 ?_
    obtain ⟨x3, e_x3, h⟩ := nm h
    refine g_topi e_x3 ?_
    refine g_istore (lv' := [(5, .int x3), (0, .ref a0), (1, .int v1), (2, .int v2), (3, .int v3), (4, .int v4)]) C dX10_stands_25 (by decide) rfl ?_
    refine g_iload_n C dX10_stands_27 2 rfl ?_
    refine g_istore (lv' := [(6, .int v1), (5, .int x3), (0, .ref a0), (1, .int v1), (2, .int v2), (3, .int v3), (4, .int v4)]) C dX10_stands_28 (by decide) rfl ?_
    exact g_lv [2, 4, 1, 0] rfl (wX10_stands_L30 C fu _ _ _ _ _ s_a0 h)
  · replace h := iq q h
    refine g_iconst (v := 0) C dX10_stands_13 (by decide) ?_
    cases h
    exact g_zreturn (r := 0) C rfl dX10_stands_14
theorem miX10_stands : MI yX10_stands cX10_stands 7 (some .boolean) RX10 4 := ⟨wcX10_stands, wmX10_stands, wsX10_stands, wiX10, by decide +kernel⟩
theorem kX10_stands {l : Launch} {D : va_G} {cA : Nat → ClassId} {tS : Nat → Nat} {σ : Sg} {a0 : Nat} {v1 : Int32} {v2 : Int32} {v3 : Int32} {v4 : Int32} {μ : Mm} {fu : Nat} {q : Int32} (s_a0 : σ a0 = some (10, 0)) (h : fX10_stands fu a0 v1 v2 v3 v4 μ = some q) : Ct l D cA tS σ yX10_stands cX10_stands 7 (some .boolean) (rmO 3 70) [.ref a0, .int v1, .int v2, .int v3, .int v4] μ (QI D cA σ q μ) :=
  Ct.of (by decide) (Nat.le_of_ble_eq_true rfl) (fun _ _ _ _ _ _ _ _ C => wX10_stands C _ _ _ _ _ _ s_a0 h)
set_option maxRecDepth 100000 in
set_option maxHeartbeats 4000000 in
theorem wX10_sayLongest_L330 {p : Program} {l : Launch} {e : Env} {s : State} {m : MethodId} {args : Array Value} {below : List Frame} {meth : Method} {c : Code} {D : va_G} {cA : Nat → ClassId} {tS : Nat → Nat} {σ : Sg} {fu : Nat} {q : Int32 × Mm} (C : Cx p s m args meth c (dm σ) D cA tS σ cX10_sayLongest (some .int) 11 RX10) (a0 : Nat) (v2 : Int32) (v8 : Int32) (v10 : Int32) (μ : Mm) (s_a0 : σ a0 = some (10, 0)) (h : fX10_sayLongest_L330 fu a0 v2 v8 v10 μ = some q) : GG p l e (rmO 4 96) s m args below meth c 0 0 (dm σ) D cA σ 11 (MQ below (QI D cA σ q.1 q.2) args s 0 0 (dm σ)) 330 [(0, .ref a0), (2, .int v2), (8, .int v8), (10, .int v10)] [] μ := by
  unfold fX10_sayLongest_L330 at h
  refine g_aload_n C dX10_sayLongest_330 0 rfl ?_
  refine g_iload C dX10_sayLongest_331 3 rfl ?_
  refine g_puti (j := 30) C s_a0 (by decide) rfl uwX10 tyX10_ok nmX10 (by decide) rfl lfX10_183 rfl rfl rfl (fun _ _ => rfl) (fun _ _ => Nat.le_of_ble_eq_true rfl) dX10_sayLongest_333 ?_
  obtain ⟨μ1, e_μ1, h⟩ := nm h
  refine g_mu e_μ1 ?_
  refine g_iload_n C dX10_sayLongest_336 1 rfl ?_
  refine g_iload C dX10_sayLongest_337 2 rfl ?_
  refine g_iadd C dX10_sayLongest_339 ?_
  cases h
  exact g_ireturn C rfl dX10_sayLongest_340
set_option maxRecDepth 100000 in
set_option maxHeartbeats 4000000 in
theorem wX10_sayLongest_L253 {p : Program} {l : Launch} {e : Env} {s : State} {m : MethodId} {args : Array Value} {below : List Frame} {meth : Method} {c : Code} {D : va_G} {cA : Nat → ClassId} {tS : Nat → Nat} {σ : Sg} {fu : Nat} {q : Int32 × Mm} (C : Cx p s m args meth c (dm σ) D cA tS σ cX10_sayLongest (some .int) 11 RX10) (a0 : Nat) (v2 : Int32) (v8 : Int32) (v9 : Int32) (t0 : Int32) (μ : Mm) (s_a0 : σ a0 = some (10, 0)) (h : fX10_sayLongest_L253 fu a0 v2 v8 v9 t0 μ = some q) : GG p l e (rmO 4 96) s m args below meth c 0 0 (dm σ) D cA σ 11 (MQ below (QI D cA σ q.1 q.2) args s 0 0 (dm σ)) 253 [(0, .ref a0), (2, .int v2), (8, .int v8), (9, .int v9)] [.int t0] μ := by
  unfold fX10_sayLongest_L253 at h
  refine g_istore (lv' := [(10, .int t0), (0, .ref a0), (2, .int v2), (8, .int v8), (9, .int v9)]) C dX10_sayLongest_253 (by decide) rfl ?_
  refine g_aload_n C dX10_sayLongest_255 1 rfl ?_
  refine g_iload C dX10_sayLongest_256 0 rfl ?_
  refine g_aload_n C dX10_sayLongest_258 1 rfl ?_
  refine g_geti (j := 28) C s_a0 (by decide) rfl uwX10 (by decide) rfl lfX10_177 rfl dX10_sayLongest_259 ?_
  obtain ⟨μ1, e_μ1, h⟩ := bs h
  refine g_callVV C (kX10_sayBits s_a0 e_μ1) miX10_sayBits lmX10_277 s_a0 (by decide) rfl rfl rfl (Nat.le_of_ble_eq_true rfl) dX10_sayLongest_262 ⟨by decide, by decide⟩ ⟨Nat.zero_le _, Nat.zero_le _⟩ ?_
  refine g_aload_n C dX10_sayLongest_265 1 rfl ?_
  refine g_geti (j := 30) C s_a0 (by decide) rfl uwX10 (by decide) rfl lfX10_183 rfl dX10_sayLongest_266 ?_
  refine g_if_lt C 330 dX10_sayLongest_269 rfl (fun q => ?_) (fun q => ?_)
  · replace h := ip q h
    exact g_lv [1, 2, 3, 0] rfl (wX10_sayLongest_L330 C _ _ _ _ _ s_a0 h)
  · replace h := iq q h
    refine g_aload_n C dX10_sayLongest_272 1 rfl ?_
    refine g_geti (j := 29) C s_a0 (by decide) rfl uwX10 (by decide) rfl lfX10_180 rfl dX10_sayLongest_273 ?_
    refine g_sipush (v := 4096) C dX10_sayLongest_276 (by decide) ?_
    refine g_icmp_ge C 330 dX10_sayLongest_279 rfl (fun q => ?_) (fun q => ?_)
    · replace h := ip q h
      exact g_lv [1, 2, 3, 0] rfl (wX10_sayLongest_L330 C _ _ _ _ _ s_a0 h)
    · replace h := iq q h
      refine g_aload_n C dX10_sayLongest_282 1 rfl ?_
      refine g_wt (fun hT_μ1 => ?_)
      refine g_getr (j := 36) C s_a0 (by decide) rfl uwX10 (by decide) rfl lfX10_59 rfl dX10_sayLongest_283 ?_
      refine g_aload_n C dX10_sayLongest_286 1 rfl ?_
      refine g_geti (j := 29) C s_a0 (by decide) rfl uwX10 (by decide) rfl lfX10_180 rfl dX10_sayLongest_287 ?_
      refine g_iconst (v := -1) C dX10_sayLongest_290 (by decide) ?_
      obtain ⟨hg, h⟩ := gs h
      refine g_shast C (hT_μ1.1 _ _ 36 _ s_a0 rfl) (ib_in hg) dX10_sayLongest_291 ?_
      obtain ⟨μ2, e_μ2, h⟩ := nm h
      refine g_mu e_μ2 ?_
      refine g_aload_n C dX10_sayLongest_292 1 rfl ?_
      refine g_wt (fun hT_μ2 => ?_)
      refine g_getr (j := 37) C s_a0 (by decide) rfl uwX10 (by decide) rfl lfX10_62 rfl dX10_sayLongest_293 ?_
      refine g_aload_n C dX10_sayLongest_296 1 rfl ?_
      refine g_geti (j := 29) C s_a0 (by decide) rfl uwX10 (by decide) rfl lfX10_180 rfl dX10_sayLongest_297 ?_
      refine g_aload_n C dX10_sayLongest_300 1 rfl ?_
      refine g_getr (j := 36) C s_a0 (by decide) rfl uwX10 (by decide) rfl lfX10_59 rfl dX10_sayLongest_301 ?_
      refine g_aload_n C dX10_sayLongest_304 1 rfl ?_
      refine g_geti (j := 30) C s_a0 (by decide) rfl uwX10 (by decide) rfl lfX10_183 rfl dX10_sayLongest_305 ?_
      obtain ⟨hg3, h⟩ := gs h
      refine g_shald C (hT_μ2.1 _ _ 36 _ s_a0 rfl) (ib_in hg3) dX10_sayLongest_308 ?_
      obtain ⟨hg, h⟩ := gs h
      refine g_shast C (hT_μ2.1 _ _ 37 _ s_a0 rfl) (ib_in hg) dX10_sayLongest_309 ?_
      obtain ⟨μ4, e_μ4, h⟩ := nm h
      refine g_mu e_μ4 ?_
      refine g_aload_n C dX10_sayLongest_310 1 rfl ?_
      refine g_wt (fun hT_μ4 => ?_)
      refine g_getr (j := 36) C s_a0 (by decide) rfl uwX10 (by decide) rfl lfX10_59 rfl dX10_sayLongest_311 ?_
      refine g_aload_n C dX10_sayLongest_314 1 rfl ?_
      refine g_geti (j := 30) C s_a0 (by decide) rfl uwX10 (by decide) rfl lfX10_183 rfl dX10_sayLongest_315 ?_
      refine g_aload_n C dX10_sayLongest_318 1 rfl ?_
      refine g_geti (j := 29) C s_a0 (by decide) rfl uwX10 (by decide) rfl lfX10_180 rfl dX10_sayLongest_319 ?_
      refine g_i2s C dX10_sayLongest_322 ?_
      obtain ⟨hg, h⟩ := gs h
      refine g_shast C (hT_μ4.1 _ _ 36 _ s_a0 rfl) (ib_in hg) dX10_sayLongest_323 ?_
      obtain ⟨μ5, e_μ5, h⟩ := nm h
      refine g_mu e_μ5 ?_
      refine g_aload_n C dX10_sayLongest_324 1 rfl ?_
      refine g_iload C dX10_sayLongest_325 4 rfl ?_
      obtain ⟨μ6, e_μ6, h⟩ := bs h
      refine g_callVV C (kX10_tell s_a0 e_μ6) miX10_tell lmX10_209 s_a0 (by decide) rfl rfl rfl (Nat.le_of_ble_eq_true rfl) dX10_sayLongest_327 ⟨by decide, by decide⟩ ⟨Nat.zero_le _, Nat.zero_le _⟩ ?_
      exact g_lv [1, 2, 3, 0] rfl (wX10_sayLongest_L330 C _ _ _ _ _ s_a0 h)
set_option maxRecDepth 100000 in
set_option maxHeartbeats 4000000 in
theorem wX10_sayLongest_L237 {p : Program} {l : Launch} {e : Env} {s : State} {m : MethodId} {args : Array Value} {below : List Frame} {meth : Method} {c : Code} {D : va_G} {cA : Nat → ClassId} {tS : Nat → Nat} {σ : Sg} {fu : Nat} {q : Int32 × Mm} (C : Cx p s m args meth c (dm σ) D cA tS σ cX10_sayLongest (some .int) 11 RX10) (a0 : Nat) (v2 : Int32) (v4 : Int32) (v7 : Int32) (v8 : Int32) (t0 : Int32) (μ : Mm) (s_a0 : σ a0 = some (10, 0)) (h : fX10_sayLongest_L237 fu a0 v2 v4 v7 v8 t0 μ = some q) : GG p l e (rmO 4 96) s m args below meth c 0 0 (dm σ) D cA σ 11 (MQ below (QI D cA σ q.1 q.2) args s 0 0 (dm σ)) 237 [(0, .ref a0), (2, .int v2), (4, .int v4), (7, .int v7), (8, .int v8)] [.int t0] μ := by
  unfold fX10_sayLongest_L237 at h
  refine g_istore (lv' := [(9, .int t0), (0, .ref a0), (2, .int v2), (4, .int v4), (7, .int v7), (8, .int v8)]) C dX10_sayLongest_237 (by decide) rfl ?_
  refine g_iload C dX10_sayLongest_239 4 rfl ?_
  refine g_if_eq C 251 dX10_sayLongest_241 rfl (fun q => ?_) (fun q => ?_)
  · replace h := ip q h
    refine g_iload C dX10_sayLongest_251 3 rfl ?_
    exact g_lv [1, 2, 5, 0] rfl (wX10_sayLongest_L253 C _ _ _ _ _ _ s_a0 h)
  · replace h := iq q h
    refine g_aload_n C dX10_sayLongest_244 1 rfl ?_
    refine g_geti (j := 29) C s_a0 (by decide) rfl uwX10 (by decide) rfl lfX10_180 rfl dX10_sayLongest_245 ?_
    refine g_goto C 253 dX10_sayLongest_248 rfl ?_
    exact g_lv [1, 2, 5, 0] rfl (wX10_sayLongest_L253 C _ _ _ _ _ _ s_a0 h)
set_option maxRecDepth 100000 in
set_option maxHeartbeats 4000000 in
theorem wX10_sayLongest_L211 {p : Program} {l : Launch} {e : Env} {s : State} {m : MethodId} {args : Array Value} {below : List Frame} {meth : Method} {c : Code} {D : va_G} {cA : Nat → ClassId} {tS : Nat → Nat} {σ : Sg} {fu : Nat} {q : Int32 × Mm} (C : Cx p s m args meth c (dm σ) D cA tS σ cX10_sayLongest (some .int) 11 RX10) (a0 : Nat) (v2 : Int32) (v4 : Int32) (v7 : Int32) (t0 : Int32) (μ : Mm) (s_a0 : σ a0 = some (10, 0)) (h : fX10_sayLongest_L211 fu a0 v2 v4 v7 t0 μ = some q) : GG p l e (rmO 4 96) s m args below meth c 0 0 (dm σ) D cA σ 11 (MQ below (QI D cA σ q.1 q.2) args s 0 0 (dm σ)) 211 [(0, .ref a0), (2, .int v2), (4, .int v4), (7, .int v7)] [.int t0] μ := by
  unfold fX10_sayLongest_L211 at h
  refine g_istore (lv' := [(8, .int t0), (0, .ref a0), (2, .int v2), (4, .int v4), (7, .int v7)]) C dX10_sayLongest_211 (by decide) rfl ?_
  refine g_iload C dX10_sayLongest_213 4 rfl ?_
  refine g_if_eq C 230 dX10_sayLongest_215 rfl (fun q => ?_) (fun q => ?_)
  · replace h := ip q h
    refine g_aload_n C dX10_sayLongest_230 1 rfl ?_
    refine g_wt (fun hT_μ => ?_)
    refine g_getr (j := 26) C s_a0 (by decide) rfl uwX10 (by decide) rfl lfX10_50 rfl dX10_sayLongest_231 ?_
    refine g_iload C dX10_sayLongest_234 3 rfl ?_
    obtain ⟨hg1, h⟩ := gs h
    refine g_shald C (hT_μ.1 _ _ 26 _ s_a0 rfl) (ib_in hg1) dX10_sayLongest_236 ?_
    exact g_lv [1, 2, 3, 4, 0] rfl (wX10_sayLongest_L237 C _ _ _ _ _ _ _ s_a0 h)
  · replace h := iq q h
    refine g_aload_n C dX10_sayLongest_218 1 rfl ?_
    refine g_wt (fun hT_μ => ?_)
    refine g_getr (j := 26) C s_a0 (by decide) rfl uwX10 (by decide) rfl lfX10_50 rfl dX10_sayLongest_219 ?_
    refine g_aload_n C dX10_sayLongest_222 1 rfl ?_
    refine g_geti (j := 30) C s_a0 (by decide) rfl uwX10 (by decide) rfl lfX10_183 rfl dX10_sayLongest_223 ?_
    obtain ⟨hg2, h⟩ := gs h
    refine g_shald C (hT_μ.1 _ _ 26 _ s_a0 rfl) (ib_in hg2) dX10_sayLongest_226 ?_
    refine g_goto C 237 dX10_sayLongest_227 rfl ?_
    exact g_lv [1, 2, 3, 4, 0] rfl (wX10_sayLongest_L237 C _ _ _ _ _ _ _ s_a0 h)
set_option maxRecDepth 100000 in
set_option maxHeartbeats 4000000 in
theorem wX10_sayLongest_L183 {p : Program} {l : Launch} {e : Env} {s : State} {m : MethodId} {args : Array Value} {below : List Frame} {meth : Method} {c : Code} {D : va_G} {cA : Nat → ClassId} {tS : Nat → Nat} {σ : Sg} {fu : Nat} {q : Int32 × Mm} (C : Cx p s m args meth c (dm σ) D cA tS σ cX10_sayLongest (some .int) 11 RX10) (a0 : Nat) (v2 : Int32) (v4 : Int32) (t0 : Int32) (μ : Mm) (s_a0 : σ a0 = some (10, 0)) (h : fX10_sayLongest_L183 fu a0 v2 v4 t0 μ = some q) : GG p l e (rmO 4 96) s m args below meth c 0 0 (dm σ) D cA σ 11 (MQ below (QI D cA σ q.1 q.2) args s 0 0 (dm σ)) 183 [(0, .ref a0), (2, .int v2), (4, .int v4)] [.int t0] μ := by
  unfold fX10_sayLongest_L183 at h
  refine g_istore (lv' := [(7, .int t0), (0, .ref a0), (2, .int v2), (4, .int v4)]) C dX10_sayLongest_183 (by decide) rfl ?_
  refine g_iload C dX10_sayLongest_185 0 rfl ?_
  refine g_if_eq C 204 dX10_sayLongest_187 rfl (fun q => ?_) (fun q => ?_)
  · replace h := ip q h
    refine g_aload_n C dX10_sayLongest_204 1 rfl ?_
    refine g_wt (fun hT_μ => ?_)
    refine g_getr (j := 27) C s_a0 (by decide) rfl uwX10 (by decide) rfl lfX10_53 rfl dX10_sayLongest_205 ?_
    refine g_iload C dX10_sayLongest_208 3 rfl ?_
    obtain ⟨hg1, h⟩ := gs h
    refine g_shald C (hT_μ.1 _ _ 27 _ s_a0 rfl) (ib_in hg1) dX10_sayLongest_210 ?_
    exact g_lv [1, 2, 3, 0] rfl (wX10_sayLongest_L211 C _ _ _ _ _ _ s_a0 h)
  · replace h := iq q h
    refine g_aload_n C dX10_sayLongest_190 1 rfl ?_
    refine g_wt (fun hT_μ => ?_)
    refine g_getr (j := 27) C s_a0 (by decide) rfl uwX10 (by decide) rfl lfX10_53 rfl dX10_sayLongest_191 ?_
    refine g_aload_n C dX10_sayLongest_194 1 rfl ?_
    refine g_geti (j := 30) C s_a0 (by decide) rfl uwX10 (by decide) rfl lfX10_183 rfl dX10_sayLongest_195 ?_
    obtain ⟨hg2, h⟩ := gs h
    refine g_shald C (hT_μ.1 _ _ 27 _ s_a0 rfl) (ib_in hg2) dX10_sayLongest_198 ?_
    refine g_iconst (v := 1) C dX10_sayLongest_199 (by decide) ?_
    refine g_iadd C dX10_sayLongest_200 ?_
    refine g_goto C 211 dX10_sayLongest_201 rfl ?_
    exact g_lv [1, 2, 3, 0] rfl (wX10_sayLongest_L211 C _ _ _ _ _ _ s_a0 h)
set_option maxRecDepth 100000 in
set_option maxHeartbeats 4000000 in
theorem wX10_sayLongest_L182 {p : Program} {l : Launch} {e : Env} {s : State} {m : MethodId} {args : Array Value} {below : List Frame} {meth : Method} {c : Code} {D : va_G} {cA : Nat → ClassId} {tS : Nat → Nat} {σ : Sg} {fu : Nat} {q : Int32 × Mm} (C : Cx p s m args meth c (dm σ) D cA tS σ cX10_sayLongest (some .int) 11 RX10) (a0 : Nat) (v2 : Int32) (v4 : Int32) (μ : Mm) (s_a0 : σ a0 = some (10, 0)) (h : fX10_sayLongest_L182 fu a0 v2 v4 μ = some q) : GG p l e (rmO 4 96) s m args below meth c 0 0 (dm σ) D cA σ 11 (MQ below (QI D cA σ q.1 q.2) args s 0 0 (dm σ)) 182 [(0, .ref a0), (2, .int v2), (4, .int v4)] [] μ := by
  unfold fX10_sayLongest_L182 at h
  refine g_iconst (v := 0) C dX10_sayLongest_182 (by decide) ?_
  exact g_lv [0, 1, 2] rfl (wX10_sayLongest_L183 C _ _ _ _ _ s_a0 h)
set_option maxRecDepth 100000 in
set_option maxHeartbeats 4000000 in
theorem wX10_sayLongest_L86 {p : Program} {l : Launch} {e : Env} {s : State} {m : MethodId} {args : Array Value} {below : List Frame} {meth : Method} {c : Code} {D : va_G} {cA : Nat → ClassId} {tS : Nat → Nat} {σ : Sg} {fu : Nat} {q : Int32 × Mm} (C : Cx p s m args meth c (dm σ) D cA tS σ cX10_sayLongest (some .int) 11 RX10) (a0 : Nat) (v1 : Int32) (v2 : Int32) (v3 : Int32) (v4 : Int32) (v5 : Int32) (μ : Mm) (s_a0 : σ a0 = some (10, 0)) (h : fX10_sayLongest_L86 fu a0 v1 v2 v3 v4 v5 μ = some q) : GG p l e (rmO 4 96) s m args below meth c 0 0 (dm σ) D cA σ 11 (MQ below (QI D cA σ q.1 q.2) args s 0 0 (dm σ)) 86 [(0, .ref a0), (1, .int v1), (2, .int v2), (3, .int v3), (4, .int v4), (5, .int v5)] [] μ := by
  unfold fX10_sayLongest_L86 at h
  refine g_aload_n C dX10_sayLongest_86 0 rfl ?_
  refine g_geti (j := 30) C s_a0 (by decide) rfl uwX10 (by decide) rfl lfX10_183 rfl dX10_sayLongest_87 ?_
  refine g_if_lt C 182 dX10_sayLongest_90 rfl (fun q => ?_) (fun q => ?_)
  · replace h := ip q h
    exact g_lv [0, 2, 4] rfl (wX10_sayLongest_L182 C _ _ _ _ s_a0 h)
  · replace h := iq q h
    refine g_aload_n C dX10_sayLongest_93 0 rfl ?_
    refine g_geti (j := 29) C s_a0 (by decide) rfl uwX10 (by decide) rfl lfX10_180 rfl dX10_sayLongest_94 ?_
    refine g_sipush (v := 4096) C dX10_sayLongest_97 (by decide) ?_
    refine g_icmp_ge C 182 dX10_sayLongest_100 rfl (fun q => ?_) (fun q => ?_)
    · replace h := ip q h
      exact g_lv [0, 2, 4] rfl (wX10_sayLongest_L182 C _ _ _ _ s_a0 h)
    · replace h := iq q h
      refine g_aload_n C dX10_sayLongest_103 0 rfl ?_
      refine g_wt (fun hT_μ => ?_)
      refine g_getr (j := 27) C s_a0 (by decide) rfl uwX10 (by decide) rfl lfX10_53 rfl dX10_sayLongest_104 ?_
      refine g_aload_n C dX10_sayLongest_107 0 rfl ?_
      refine g_geti (j := 30) C s_a0 (by decide) rfl uwX10 (by decide) rfl lfX10_183 rfl dX10_sayLongest_108 ?_
      obtain ⟨hg1, h⟩ := gs h
      refine g_shald C (hT_μ.1 _ _ 27 _ s_a0 rfl) (ib_in hg1) dX10_sayLongest_111 ?_
      refine g_iconst (v := 1) C dX10_sayLongest_112 (by decide) ?_
      refine g_iadd C dX10_sayLongest_113 ?_
      refine g_iload C dX10_sayLongest_114 5 rfl ?_
      refine g_iload_n C dX10_sayLongest_116 2 rfl ?_
      refine g_isub C dX10_sayLongest_117 ?_
      refine g_icmp_le C 182 dX10_sayLongest_118 rfl (fun q => ?_) (fun q => ?_)
      · replace h := ip q h
        exact g_lv [0, 2, 4] rfl (wX10_sayLongest_L182 C _ _ _ _ s_a0 h)
      · replace h := iq q h
        refine g_iload_n C dX10_sayLongest_121 2 rfl ?_
        refine g_aload_n C dX10_sayLongest_122 0 rfl ?_
        refine g_getr (j := 27) C s_a0 (by decide) rfl uwX10 (by decide) rfl lfX10_53 rfl dX10_sayLongest_123 ?_
        refine g_aload_n C dX10_sayLongest_126 0 rfl ?_
        refine g_geti (j := 30) C s_a0 (by decide) rfl uwX10 (by decide) rfl lfX10_183 rfl dX10_sayLongest_127 ?_
        obtain ⟨hg2, h⟩ := gs h
        refine g_shald C (hT_μ.1 _ _ 27 _ s_a0 rfl) (ib_in hg2) dX10_sayLongest_130 ?_
        refine g_iadd C dX10_sayLongest_131 ?_
        refine g_iload_n C dX10_sayLongest_132 3 rfl ?_
        refine g_icmp_ge C 182 dX10_sayLongest_133 rfl (fun q => ?_) (fun q => ?_)
        · replace h := ip q h
          exact g_lv [0, 2, 4] rfl (wX10_sayLongest_L182 C _ _ _ _ s_a0 h)
        · replace h := iq q h
          refine g_aload_n C dX10_sayLongest_136 0 rfl ?_
          refine g_aload_n C dX10_sayLongest_137 0 rfl ?_
          refine g_geti (j := 30) C s_a0 (by decide) rfl uwX10 (by decide) rfl lfX10_183 rfl dX10_sayLongest_138 ?_
          refine g_iload_n C dX10_sayLongest_141 1 rfl ?_
          refine g_iload_n C dX10_sayLongest_142 2 rfl ?_
          refine g_iload_n C dX10_sayLongest_143 3 rfl ?_
          obtain ⟨x3, e_x3, h⟩ := bs h
          refine g_callVI C (kX10_stands s_a0 e_x3) miX10_stands lmX10_283 s_a0 (by decide) rfl rfl rfl (Nat.le_of_ble_eq_true rfl) dX10_sayLongest_144 ⟨by decide, by decide⟩ ⟨Nat.zero_le _, Nat.zero_le _⟩ ?_
          refine g_if_eq C 182 dX10_sayLongest_147 rfl (fun q => ?_) (fun q => ?_)
          · replace h := ip q h
            exact g_lv [0, 2, 4] rfl (wX10_sayLongest_L182 C _ _ _ _ s_a0 h)
          · replace h := iq q h
            refine g_aload_n C dX10_sayLongest_150 0 rfl ?_
            refine g_iload_n C dX10_sayLongest_151 1 rfl ?_
            refine g_iload_n C dX10_sayLongest_152 2 rfl ?_
            refine g_aload_n C dX10_sayLongest_153 0 rfl ?_
            refine g_getr (j := 27) C s_a0 (by decide) rfl uwX10 (by decide) rfl lfX10_53 rfl dX10_sayLongest_154 ?_
            refine g_aload_n C dX10_sayLongest_157 0 rfl ?_
            refine g_geti (j := 30) C s_a0 (by decide) rfl uwX10 (by decide) rfl lfX10_183 rfl dX10_sayLongest_158 ?_
            obtain ⟨hg4, h⟩ := gs h
            refine g_shald C (hT_μ.1 _ _ 27 _ s_a0 rfl) (ib_in hg4) dX10_sayLongest_161 ?_
            refine g_iadd C dX10_sayLongest_162 ?_
            obtain ⟨x5, e_x5, h⟩ := bs h
            refine g_callVI C (kX10_indexOf s_a0 e_x5) miX10_indexOf lmX10_274 s_a0 (by decide) rfl rfl rfl (Nat.le_of_ble_eq_true rfl) dX10_sayLongest_163 ⟨by decide, by decide⟩ ⟨Nat.zero_le _, Nat.zero_le _⟩ ?_
            refine g_aload_n C dX10_sayLongest_166 0 rfl ?_
            refine g_getr (j := 26) C s_a0 (by decide) rfl uwX10 (by decide) rfl lfX10_50 rfl dX10_sayLongest_167 ?_
            refine g_aload_n C dX10_sayLongest_170 0 rfl ?_
            refine g_geti (j := 30) C s_a0 (by decide) rfl uwX10 (by decide) rfl lfX10_183 rfl dX10_sayLongest_171 ?_
            obtain ⟨hg6, h⟩ := gs h
            refine g_shald C (hT_μ.1 _ _ 26 _ s_a0 rfl) (ib_in hg6) dX10_sayLongest_174 ?_
            refine g_icmp_ne C 182 dX10_sayLongest_175 rfl (fun q => ?_) (fun q => ?_)
            · replace h := iq q h
              exact g_lv [0, 2, 4] rfl (wX10_sayLongest_L182 C _ _ _ _ s_a0 h)
            · replace h := ip q h
              refine g_iconst (v := 1) C dX10_sayLongest_178 (by decide) ?_
              refine g_goto C 183 dX10_sayLongest_179 rfl ?_
              exact g_lv [0, 2, 4] rfl (wX10_sayLongest_L183 C _ _ _ _ _ s_a0 h)
set_option maxRecDepth 100000 in
set_option maxHeartbeats 4000000 in
theorem wX10_sayLongest_L71 {p : Program} {l : Launch} {e : Env} {s : State} {m : MethodId} {args : Array Value} {below : List Frame} {meth : Method} {c : Code} {D : va_G} {cA : Nat → ClassId} {tS : Nat → Nat} {σ : Sg} {rec17 : Nat → Int32 → Int32 → Int32 → Int32 → Int32 → Int32 → Mm → Option (Int32 × Mm)} {fu : Nat} {q : Int32 × Mm} (C : Cx p s m args meth c (dm σ) D cA tS σ cX10_sayLongest (some .int) 11 RX10) (hrec17 : ∀ (y0 : Nat) (y1 : Int32) (y2 : Int32) (y3 : Int32) (y4 : Int32) (y5 : Int32) (y6 : Int32) (μ : Mm), σ y0 = some (10, 0) → rec17 y0 y1 y2 y3 y4 y5 y6 μ = some q → GG p l e (rmO 4 96) s m args below meth c 0 0 (dm σ) D cA σ 11 (MQ below (QI D cA σ q.1 q.2) args s 0 0 (dm σ)) 17 [(0, .ref y0), (1, .int y1), (2, .int y2), (3, .int y3), (4, .int y4), (5, .int y5), (6, .int y6)] [] μ) (a0 : Nat) (v1 : Int32) (v2 : Int32) (v3 : Int32) (v4 : Int32) (v5 : Int32) (v6 : Int32) (μ : Mm) (s_a0 : σ a0 = some (10, 0)) (h : fX10_sayLongest_L71 rec17 fu a0 v1 v2 v3 v4 v5 v6 μ = some q) : GG p l e (rmO 4 96) s m args below meth c 0 0 (dm σ) D cA σ 11 (MQ below (QI D cA σ q.1 q.2) args s 0 0 (dm σ)) 71 [(0, .ref a0), (1, .int v1), (2, .int v2), (3, .int v3), (4, .int v4), (5, .int v5), (6, .int v6)] [] μ := by
  unfold fX10_sayLongest_L71 at h
  refine g_iload C dX10_sayLongest_71 6 rfl ?_
  refine g_if_lt C 17 dX10_sayLongest_73 rfl (fun q => ?_) (fun q => ?_)
  · replace h := ip q h
    exact g_lv [0, 1, 2, 3, 4, 5, 6] rfl (hrec17 _ _ _ _ _ _ _ _ s_a0 h)
  · replace h := iq q h
    refine g_iload C dX10_sayLongest_76 6 rfl ?_
    refine g_istore (lv' := [(4, .int v6), (0, .ref a0), (1, .int v1), (2, .int v2), (3, .int v3), (5, .int v5), (6, .int v6)]) C dX10_sayLongest_78 (by decide) rfl ?_
    obtain ⟨x1, e_x1, h⟩ := nm h
    refine g_iinc (v := x1) (lv' := [(5, .int x1), (4, .int v6), (0, .ref a0), (1, .int v1), (2, .int v2), (3, .int v3), (6, .int v6)]) C dX10_sayLongest_80 (by decide) 5 rfl 1 (by decide) e_x1.symm rfl ?_
    refine g_goto C 17 dX10_sayLongest_83 rfl ?_
    exact g_lv [2, 3, 4, 5, 1, 0, 6] rfl (hrec17 _ _ _ _ _ _ _ _ s_a0 h)
set_option maxRecDepth 100000 in
set_option maxHeartbeats 4000000 in
theorem wX10_sayLongest_B37 {p : Program} {l : Launch} {e : Env} {s : State} {m : MethodId} {args : Array Value} {below : List Frame} {meth : Method} {c : Code} {D : va_G} {cA : Nat → ClassId} {tS : Nat → Nat} {σ : Sg} {rec17 : Nat → Int32 → Int32 → Int32 → Int32 → Int32 → Int32 → Mm → Option (Int32 × Mm)} {rec37 : Nat → Int32 → Int32 → Int32 → Int32 → Int32 → Int32 → Mm → Option (Int32 × Mm)} {fu : Nat} {q : Int32 × Mm} (C : Cx p s m args meth c (dm σ) D cA tS σ cX10_sayLongest (some .int) 11 RX10) (hrec17 : ∀ (y0 : Nat) (y1 : Int32) (y2 : Int32) (y3 : Int32) (y4 : Int32) (y5 : Int32) (y6 : Int32) (μ : Mm), σ y0 = some (10, 0) → rec17 y0 y1 y2 y3 y4 y5 y6 μ = some q → GG p l e (rmO 4 96) s m args below meth c 0 0 (dm σ) D cA σ 11 (MQ below (QI D cA σ q.1 q.2) args s 0 0 (dm σ)) 17 [(0, .ref y0), (1, .int y1), (2, .int y2), (3, .int y3), (4, .int y4), (5, .int y5), (6, .int y6)] [] μ) (hrec37 : ∀ (y0 : Nat) (y1 : Int32) (y2 : Int32) (y3 : Int32) (y4 : Int32) (y5 : Int32) (y6 : Int32) (μ : Mm), σ y0 = some (10, 0) → rec37 y0 y1 y2 y3 y4 y5 y6 μ = some q → GG p l e (rmO 4 96) s m args below meth c 0 0 (dm σ) D cA σ 11 (MQ below (QI D cA σ q.1 q.2) args s 0 0 (dm σ)) 37 [(0, .ref y0), (1, .int y1), (2, .int y2), (3, .int y3), (4, .int y4), (5, .int y5), (6, .int y6)] [] μ) (a0 : Nat) (v1 : Int32) (v2 : Int32) (v3 : Int32) (v4 : Int32) (v5 : Int32) (v6 : Int32) (μ : Mm) (s_a0 : σ a0 = some (10, 0)) (h : fX10_sayLongest_B37 rec17 rec37 fu a0 v1 v2 v3 v4 v5 v6 μ = some q) : GG p l e (rmO 4 96) s m args below meth c 0 0 (dm σ) D cA σ 11 (MQ below (QI D cA σ q.1 q.2) args s 0 0 (dm σ)) 37 [(0, .ref a0), (1, .int v1), (2, .int v2), (3, .int v3), (4, .int v4), (5, .int v5), (6, .int v6)] [] μ := by
  unfold fX10_sayLongest_B37 at h
  refine g_iload C dX10_sayLongest_37 6 rfl ?_
  refine g_if_lt C 71 dX10_sayLongest_39 rfl (fun q => ?_) (fun q => ?_)
  · replace h := ip q h
    exact g_lv [0, 1, 2, 3, 4, 5, 6] rfl (wX10_sayLongest_L71 C hrec17 _ _ _ _ _ _ _ _ s_a0 h)
  · replace h := iq q h
    refine g_aload_n C dX10_sayLongest_42 0 rfl ?_
    refine g_wt (fun hT_μ => ?_)
    refine g_getr (j := 25) C s_a0 (by decide) rfl uwX10 (by decide) rfl lfX10_47 rfl dX10_sayLongest_43 ?_
    refine g_iload C dX10_sayLongest_46 6 rfl ?_
    obtain ⟨hg1, h⟩ := gs h
    refine g_shald C (hT_μ.1 _ _ 25 _ s_a0 rfl) (ib_in hg1) dX10_sayLongest_48 ?_
    refine g_aload_n C dX10_sayLongest_49 0 rfl ?_
    refine g_iload_n C dX10_sayLongest_50 1 rfl ?_
    refine g_iload C dX10_sayLongest_51 5 rfl ?_
    obtain ⟨x2, e_x2, h⟩ := bs h
    refine g_callVI C (kX10_indexOf s_a0 e_x2) miX10_indexOf lmX10_274 s_a0 (by decide) rfl rfl rfl (Nat.le_of_ble_eq_true rfl) dX10_sayLongest_53 ⟨by decide, by decide⟩ ⟨Nat.zero_le _, Nat.zero_le _⟩ ?_
    refine g_icmp_eq C 71 dX10_sayLongest_56 rfl (fun q => ?_) (fun q => ?_)
    · replace h := ip q h
      exact g_lv [0, 1, 2, 3, 4, 5, 6] rfl (wX10_sayLongest_L71 C hrec17 _ _ _ _ _ _ _ _ s_a0 h)
    · replace h := iq q h
      refine g_aload_n C dX10_sayLongest_59 0 rfl ?_
      refine g_getr (j := 37) C s_a0 (by decide) rfl uwX10 (by decide) rfl lfX10_62 rfl dX10_sayLongest_60 ?_
      refine g_iload C dX10_sayLongest_63 6 rfl ?_
      obtain ⟨hg3, h⟩ := gs h
      refine g_shald C (hT_μ.1 _ _ 37 _ s_a0 rfl) (ib_in hg3) dX10_sayLongest_65 ?_
      obtain ⟨x4, e_x4, h⟩ := nm h
      refine g_topi e_x4 ?_
      refine g_istore (lv' := [(6, .int x4), (0, .ref a0), (1, .int v1), (2, .int v2), (3, .int v3), (4, .int v4), (5, .int v5)]) C dX10_sayLongest_66 (by decide) rfl ?_
      refine g_goto C 37 dX10_sayLongest_68 rfl ?_
      exact g_lv [1, 2, 3, 4, 5, 6, 0] rfl (hrec37 _ _ _ _ _ _ _ _ s_a0 h)
theorem wX10_sayLongest_L37 {p : Program} {l : Launch} {e : Env} {s : State} {m : MethodId} {args : Array Value} {below : List Frame} {meth : Method} {c : Code} {D : va_G} {cA : Nat → ClassId} {tS : Nat → Nat} {σ : Sg} {rec17 : Nat → Int32 → Int32 → Int32 → Int32 → Int32 → Int32 → Mm → Option (Int32 × Mm)} {fu : Nat} {q : Int32 × Mm} (C : Cx p s m args meth c (dm σ) D cA tS σ cX10_sayLongest (some .int) 11 RX10) (hrec17 : ∀ (y0 : Nat) (y1 : Int32) (y2 : Int32) (y3 : Int32) (y4 : Int32) (y5 : Int32) (y6 : Int32) (μ : Mm), σ y0 = some (10, 0) → rec17 y0 y1 y2 y3 y4 y5 y6 μ = some q → GG p l e (rmO 4 96) s m args below meth c 0 0 (dm σ) D cA σ 11 (MQ below (QI D cA σ q.1 q.2) args s 0 0 (dm σ)) 17 [(0, .ref y0), (1, .int y1), (2, .int y2), (3, .int y3), (4, .int y4), (5, .int y5), (6, .int y6)] [] μ) : ∀ (n : Nat) (a0 : Nat) (v1 : Int32) (v2 : Int32) (v3 : Int32) (v4 : Int32) (v5 : Int32) (v6 : Int32) (μ : Mm), (σ a0 = some (10, 0)) → fX10_sayLongest_L37 rec17 fu n a0 v1 v2 v3 v4 v5 v6 μ = some q → GG p l e (rmO 4 96) s m args below meth c 0 0 (dm σ) D cA σ 11 (MQ below (QI D cA σ q.1 q.2) args s 0 0 (dm σ)) 37 [(0, .ref a0), (1, .int v1), (2, .int v2), (3, .int v3), (4, .int v4), (5, .int v5), (6, .int v6)] [] μ := by
  intro n
  induction n with
  | zero => intro a0 v1 v2 v3 v4 v5 v6 μ s_a0 h; cases h
  | succ n ih => intro a0 v1 v2 v3 v4 v5 v6 μ s_a0 h; exact wX10_sayLongest_B37 C hrec17 (fun _ _ _ _ _ _ _ _ k0 h => ih _ _ _ _ _ _ _ _ k0 h) _ _ _ _ _ _ _ _ s_a0 h
set_option maxRecDepth 100000 in
set_option maxHeartbeats 4000000 in
theorem wX10_sayLongest_B17 {p : Program} {l : Launch} {e : Env} {s : State} {m : MethodId} {args : Array Value} {below : List Frame} {meth : Method} {c : Code} {D : va_G} {cA : Nat → ClassId} {tS : Nat → Nat} {σ : Sg} {rec17 : Nat → Int32 → Int32 → Int32 → Int32 → Int32 → Int32 → Mm → Option (Int32 × Mm)} {fu : Nat} {q : Int32 × Mm} (C : Cx p s m args meth c (dm σ) D cA tS σ cX10_sayLongest (some .int) 11 RX10) (hrec17 : ∀ (y0 : Nat) (y1 : Int32) (y2 : Int32) (y3 : Int32) (y4 : Int32) (y5 : Int32) (y6 : Int32) (μ : Mm), σ y0 = some (10, 0) → rec17 y0 y1 y2 y3 y4 y5 y6 μ = some q → GG p l e (rmO 4 96) s m args below meth c 0 0 (dm σ) D cA σ 11 (MQ below (QI D cA σ q.1 q.2) args s 0 0 (dm σ)) 17 [(0, .ref y0), (1, .int y1), (2, .int y2), (3, .int y3), (4, .int y4), (5, .int y5), (6, .int y6)] [] μ) (a0 : Nat) (v1 : Int32) (v2 : Int32) (v3 : Int32) (v4 : Int32) (v5 : Int32) (v6 : Int32) (μ : Mm) (s_a0 : σ a0 = some (10, 0)) (h : fX10_sayLongest_B17 rec17 fu a0 v1 v2 v3 v4 v5 v6 μ = some q) : GG p l e (rmO 4 96) s m args below meth c 0 0 (dm σ) D cA σ 11 (MQ below (QI D cA σ q.1 q.2) args s 0 0 (dm σ)) 17 [(0, .ref a0), (1, .int v1), (2, .int v2), (3, .int v3), (4, .int v4), (5, .int v5), (6, .int v6)] [] μ := by
  unfold fX10_sayLongest_B17 at h
  refine g_iload C dX10_sayLongest_17 6 rfl ?_
  refine g_if_lt C 86 dX10_sayLongest_19 rfl (fun q => ?_) (fun q => ?_)
  · replace h := ip q h
    exact g_lv [0, 1, 2, 3, 4, 5] rfl (wX10_sayLongest_L86 C _ _ _ _ _ _ _ s_a0 h)
  · replace h := iq q h
    refine g_iload C dX10_sayLongest_22 5 rfl ?_
    refine g_iload_n C dX10_sayLongest_24 3 rfl ?_
    refine g_icmp_ge C 86 dX10_sayLongest_25 rfl (fun q => ?_) (fun q => ?_)
    · replace h := ip q h
      exact g_lv [0, 1, 2, 3, 4, 5] rfl (wX10_sayLongest_L86 C _ _ _ _ _ _ _ s_a0 h)
    · replace h := iq q h
      refine g_aload_n C dX10_sayLongest_28 0 rfl ?_
      refine g_wt (fun hT_μ => ?_)
      refine g_getr (j := 36) C s_a0 (by decide) rfl uwX10 (by decide) rfl lfX10_59 rfl dX10_sayLongest_29 ?_
      refine g_iload C dX10_sayLongest_32 4 rfl ?_
      obtain ⟨hg1, h⟩ := gs h
      refine g_shald C (hT_μ.1 _ _ 36 _ s_a0 rfl) (ib_in hg1) dX10_sayLongest_34 ?_
      obtain ⟨x2, e_x2, h⟩ := nm h
      refine g_topi e_x2 ?_
      refine g_istore (lv' := [(6, .int x2), (0, .ref a0), (1, .int v1), (2, .int v2), (3, .int v3), (4, .int v4), (5, .int v5)]) C dX10_sayLongest_35 (by decide) rfl ?_
      exact g_lv [1, 2, 3, 4, 5, 6, 0] rfl (wX10_sayLongest_L37 C hrec17 fu _ _ _ _ _ _ _ _ s_a0 h)
theorem wX10_sayLongest_L17 {p : Program} {l : Launch} {e : Env} {s : State} {m : MethodId} {args : Array Value} {below : List Frame} {meth : Method} {c : Code} {D : va_G} {cA : Nat → ClassId} {tS : Nat → Nat} {σ : Sg} {fu : Nat} {q : Int32 × Mm} (C : Cx p s m args meth c (dm σ) D cA tS σ cX10_sayLongest (some .int) 11 RX10) : ∀ (n : Nat) (a0 : Nat) (v1 : Int32) (v2 : Int32) (v3 : Int32) (v4 : Int32) (v5 : Int32) (v6 : Int32) (μ : Mm), (σ a0 = some (10, 0)) → fX10_sayLongest_L17 fu n a0 v1 v2 v3 v4 v5 v6 μ = some q → GG p l e (rmO 4 96) s m args below meth c 0 0 (dm σ) D cA σ 11 (MQ below (QI D cA σ q.1 q.2) args s 0 0 (dm σ)) 17 [(0, .ref a0), (1, .int v1), (2, .int v2), (3, .int v3), (4, .int v4), (5, .int v5), (6, .int v6)] [] μ := by
  intro n
  induction n with
  | zero => intro a0 v1 v2 v3 v4 v5 v6 μ s_a0 h; cases h
  | succ n ih => intro a0 v1 v2 v3 v4 v5 v6 μ s_a0 h; exact wX10_sayLongest_B17 C (fun _ _ _ _ _ _ _ _ k0 h => ih _ _ _ _ _ _ _ _ k0 h) _ _ _ _ _ _ _ _ s_a0 h
set_option maxRecDepth 100000 in
set_option maxHeartbeats 4000000 in
theorem wX10_sayLongest {p : Program} {l : Launch} {e : Env} {s : State} {m : MethodId} {args : Array Value} {below : List Frame} {meth : Method} {c : Code} {D : va_G} {cA : Nat → ClassId} {tS : Nat → Nat} {σ : Sg} {fu : Nat} {q : Int32 × Mm} (C : Cx p s m args meth c (dm σ) D cA tS σ cX10_sayLongest (some .int) 11 RX10) (a0 : Nat) (v1 : Int32) (v2 : Int32) (v3 : Int32) (μ : Mm) (s_a0 : σ a0 = some (10, 0)) (h : fX10_sayLongest fu a0 v1 v2 v3 μ = some q) : GG p l e (rmO 4 96) s m args below meth c 0 0 (dm σ) D cA σ 11 (MQ below (QI D cA σ q.1 q.2) args s 0 0 (dm σ)) 0 [(0, .ref a0), (1, .int v1), (2, .int v2), (3, .int v3)] [] μ := by
  unfold fX10_sayLongest at h
  refine g_aload_n C dX10_sayLongest_0 0 rfl ?_
  refine g_iload_n C dX10_sayLongest_1 1 rfl ?_
  refine g_iload_n C dX10_sayLongest_2 2 rfl ?_
  obtain ⟨x1, e_x1, h⟩ := bs h
  refine g_callVI C (kX10_indexOf s_a0 e_x1) miX10_indexOf lmX10_274 s_a0 (by decide) rfl rfl rfl (Nat.le_of_ble_eq_true rfl) dX10_sayLongest_3 ⟨by decide, by decide⟩ ⟨Nat.zero_le _, Nat.zero_le _⟩ ?_
  refine g_istore (lv' := [(4, .int x1), (0, .ref a0), (1, .int v1), (2, .int v2), (3, .int v3)]) C dX10_sayLongest_6 (by decide) rfl ?_
  refine g_iload_n C dX10_sayLongest_8 3 rfl ?_
  refine g_iconst (v := 1) C dX10_sayLongest_9 (by decide) ?_
  refine g_iadd C dX10_sayLongest_10 ?_
  obtain ⟨x2, e_x2, h⟩ := nm h
  refine g_topi e_x2 ?_
  refine g_istore (lv' := [(5, .int x2), (4, .int x1), (0, .ref a0), (1, .int v1), (2, .int v2), (3, .int v3)]) C dX10_sayLongest_11 (by decide) rfl ?_
  refine g_iload C dX10_sayLongest_13 1 rfl ?_
  refine g_istore (lv' := [(6, .int x1), (5, .int x2), (4, .int x1), (0, .ref a0), (1, .int v1), (2, .int v2), (3, .int v3)]) C dX10_sayLongest_15 (by decide) rfl ?_
  exact g_lv [3, 4, 5, 6, 2, 1, 0] rfl (wX10_sayLongest_L17 C fu _ _ _ _ _ _ _ _ s_a0 h)
theorem miX10_sayLongest : MI yX10_sayLongest cX10_sayLongest 11 (some .int) RX10 3 := ⟨wcX10_sayLongest, wmX10_sayLongest, wsX10_sayLongest, wiX10, by decide +kernel⟩
theorem kX10_sayLongest {l : Launch} {D : va_G} {cA : Nat → ClassId} {tS : Nat → Nat} {σ : Sg} {a0 : Nat} {v1 : Int32} {v2 : Int32} {v3 : Int32} {μ : Mm} {fu : Nat} {q : Int32 × Mm} (s_a0 : σ a0 = some (10, 0)) (h : fX10_sayLongest fu a0 v1 v2 v3 μ = some q) : Ct l D cA tS σ yX10_sayLongest cX10_sayLongest 11 (some .int) (rmO 4 96) [.ref a0, .int v1, .int v2, .int v3] μ (QI D cA σ q.1 q.2) :=
  Ct.of (by decide) (Nat.le_of_ble_eq_true rfl) (fun _ _ _ _ _ _ _ _ C => wX10_sayLongest C _ _ _ _ _ s_a0 h)
set_option maxRecDepth 100000 in
set_option maxHeartbeats 4000000 in
theorem wX10_sayCodes_L131 {p : Program} {l : Launch} {e : Env} {s : State} {m : MethodId} {args : Array Value} {below : List Frame} {meth : Method} {c : Code} {D : va_G} {cA : Nat → ClassId} {tS : Nat → Nat} {σ : Sg} {rec74 : Nat → Int32 → Int32 → Int32 → Int32 → Mm → Option (Mm)} {fu : Nat} {q : Mm} (C : Cx p s m args meth c (dm σ) D cA tS σ cX10_sayCodes none 6 RX10) (hrec74 : ∀ (y0 : Nat) (y1 : Int32) (y2 : Int32) (y3 : Int32) (y4 : Int32) (μ : Mm), σ y0 = some (10, 0) → rec74 y0 y1 y2 y3 y4 μ = some q → GG p l e (rmO 5 126) s m args below meth c 0 0 (dm σ) D cA σ 6 (MQ below (QV D cA σ q) args s 0 0 (dm σ)) 74 [(0, .ref y0), (1, .int y1), (2, .int y2), (3, .int y3), (4, .int y4)] [] μ) (a0 : Nat) (v1 : Int32) (v2 : Int32) (v3 : Int32) (v4 : Int32) (μ : Mm) (s_a0 : σ a0 = some (10, 0)) (h : fX10_sayCodes_L131 rec74 fu a0 v1 v2 v3 v4 μ = some q) : GG p l e (rmO 5 126) s m args below meth c 0 0 (dm σ) D cA σ 6 (MQ below (QV D cA σ q) args s 0 0 (dm σ)) 131 [(0, .ref a0), (1, .int v1), (2, .int v2), (3, .int v3), (4, .int v4)] [] μ := by
  unfold fX10_sayCodes_L131 at h
  refine g_aload_n C dX10_sayCodes_131 0 rfl ?_
  refine g_iload_n C dX10_sayCodes_132 2 rfl ?_
  refine g_iload C dX10_sayCodes_133 4 rfl ?_
  refine g_iload_n C dX10_sayCodes_135 3 rfl ?_
  obtain ⟨q1, e_q1, h⟩ := bs h
  refine g_callVI C (kX10_sayLongest s_a0 e_q1) miX10_sayLongest lmX10_280 s_a0 (by decide) rfl rfl rfl (Nat.le_of_ble_eq_true rfl) dX10_sayCodes_136 ⟨by decide, by decide⟩ ⟨Nat.zero_le _, Nat.zero_le _⟩ ?_
  obtain ⟨x2, e_x2, h⟩ := nm h
  refine g_topi e_x2 ?_
  refine g_istore (lv' := [(4, .int x2), (0, .ref a0), (1, .int v1), (2, .int v2), (3, .int v3)]) C dX10_sayCodes_139 (by decide) rfl ?_
  refine g_goto C 74 dX10_sayCodes_141 rfl ?_
  exact g_lv [1, 2, 3, 4, 0] rfl (hrec74 _ _ _ _ _ _ s_a0 h)
set_option maxRecDepth 100000 in
set_option maxHeartbeats 4000000 in
theorem wX10_sayCodes_B109 {p : Program} {l : Launch} {e : Env} {s : State} {m : MethodId} {args : Array Value} {below : List Frame} {meth : Method} {c : Code} {D : va_G} {cA : Nat → ClassId} {tS : Nat → Nat} {σ : Sg} {rec74 : Nat → Int32 → Int32 → Int32 → Int32 → Mm → Option (Mm)} {rec109 : Nat → Int32 → Int32 → Int32 → Int32 → Int32 → Mm → Option (Mm)} {fu : Nat} {q : Mm} (C : Cx p s m args meth c (dm σ) D cA tS σ cX10_sayCodes none 6 RX10) (hrec74 : ∀ (y0 : Nat) (y1 : Int32) (y2 : Int32) (y3 : Int32) (y4 : Int32) (μ : Mm), σ y0 = some (10, 0) → rec74 y0 y1 y2 y3 y4 μ = some q → GG p l e (rmO 5 126) s m args below meth c 0 0 (dm σ) D cA σ 6 (MQ below (QV D cA σ q) args s 0 0 (dm σ)) 74 [(0, .ref y0), (1, .int y1), (2, .int y2), (3, .int y3), (4, .int y4)] [] μ) (hrec109 : ∀ (y0 : Nat) (y1 : Int32) (y2 : Int32) (y3 : Int32) (y4 : Int32) (y5 : Int32) (μ : Mm), σ y0 = some (10, 0) → rec109 y0 y1 y2 y3 y4 y5 μ = some q → GG p l e (rmO 5 126) s m args below meth c 0 0 (dm σ) D cA σ 6 (MQ below (QV D cA σ q) args s 0 0 (dm σ)) 109 [(0, .ref y0), (1, .int y1), (2, .int y2), (3, .int y3), (4, .int y4), (5, .int y5)] [] μ) (a0 : Nat) (v1 : Int32) (v2 : Int32) (v3 : Int32) (v4 : Int32) (v5 : Int32) (μ : Mm) (s_a0 : σ a0 = some (10, 0)) (h : fX10_sayCodes_B109 rec74 rec109 fu a0 v1 v2 v3 v4 v5 μ = some q) : GG p l e (rmO 5 126) s m args below meth c 0 0 (dm σ) D cA σ 6 (MQ below (QV D cA σ q) args s 0 0 (dm σ)) 109 [(0, .ref a0), (1, .int v1), (2, .int v2), (3, .int v3), (4, .int v4), (5, .int v5)] [] μ := by
  unfold fX10_sayCodes_B109 at h
  refine g_iload C dX10_sayCodes_109 5 rfl ?_
  refine g_iconst (v := 1) C dX10_sayCodes_111 (by decide) ?_
  refine g_iload_n C dX10_sayCodes_112 1 rfl ?_
  refine g_ishl C dX10_sayCodes_113 ?_
  refine g_icmp_ge C 131 dX10_sayCodes_114 rfl (fun q => ?_) (fun q => ?_)
  · replace h := ip q h
    exact g_lv [0, 1, 2, 3, 4] rfl (wX10_sayCodes_L131 C hrec74 _ _ _ _ _ _ s_a0 h)
  · replace h := iq q h
    refine g_aload_n C dX10_sayCodes_117 0 rfl ?_
    refine g_wt (fun hT_μ => ?_)
    refine g_getr (j := 36) C s_a0 (by decide) rfl uwX10 (by decide) rfl lfX10_59 rfl dX10_sayCodes_118 ?_
    refine g_iload C dX10_sayCodes_121 5 rfl ?_
    refine g_iconst (v := -1) C dX10_sayCodes_123 (by decide) ?_
    obtain ⟨hg, h⟩ := gs h
    refine g_shast C (hT_μ.1 _ _ 36 _ s_a0 rfl) (ib_in hg) dX10_sayCodes_124 ?_
    obtain ⟨μ1, e_μ1, h⟩ := nm h
    refine g_mu e_μ1 ?_
    obtain ⟨x2, e_x2, h⟩ := nm h
    refine g_iinc (v := x2) (lv' := [(5, .int x2), (0, .ref a0), (1, .int v1), (2, .int v2), (3, .int v3), (4, .int v4)]) C dX10_sayCodes_125 (by decide) 5 rfl 1 (by decide) e_x2.symm rfl ?_
    refine g_goto C 109 dX10_sayCodes_128 rfl ?_
    exact g_lv [1, 2, 3, 4, 5, 0] rfl (hrec109 _ _ _ _ _ _ _ s_a0 h)
theorem wX10_sayCodes_L109 {p : Program} {l : Launch} {e : Env} {s : State} {m : MethodId} {args : Array Value} {below : List Frame} {meth : Method} {c : Code} {D : va_G} {cA : Nat → ClassId} {tS : Nat → Nat} {σ : Sg} {rec74 : Nat → Int32 → Int32 → Int32 → Int32 → Mm → Option (Mm)} {fu : Nat} {q : Mm} (C : Cx p s m args meth c (dm σ) D cA tS σ cX10_sayCodes none 6 RX10) (hrec74 : ∀ (y0 : Nat) (y1 : Int32) (y2 : Int32) (y3 : Int32) (y4 : Int32) (μ : Mm), σ y0 = some (10, 0) → rec74 y0 y1 y2 y3 y4 μ = some q → GG p l e (rmO 5 126) s m args below meth c 0 0 (dm σ) D cA σ 6 (MQ below (QV D cA σ q) args s 0 0 (dm σ)) 74 [(0, .ref y0), (1, .int y1), (2, .int y2), (3, .int y3), (4, .int y4)] [] μ) : ∀ (n : Nat) (a0 : Nat) (v1 : Int32) (v2 : Int32) (v3 : Int32) (v4 : Int32) (v5 : Int32) (μ : Mm), (σ a0 = some (10, 0)) → fX10_sayCodes_L109 rec74 fu n a0 v1 v2 v3 v4 v5 μ = some q → GG p l e (rmO 5 126) s m args below meth c 0 0 (dm σ) D cA σ 6 (MQ below (QV D cA σ q) args s 0 0 (dm σ)) 109 [(0, .ref a0), (1, .int v1), (2, .int v2), (3, .int v3), (4, .int v4), (5, .int v5)] [] μ := by
  intro n
  induction n with
  | zero => intro a0 v1 v2 v3 v4 v5 μ s_a0 h; cases h
  | succ n ih => intro a0 v1 v2 v3 v4 v5 μ s_a0 h; exact wX10_sayCodes_B109 C hrec74 (fun _ _ _ _ _ _ _ k0 h => ih _ _ _ _ _ _ _ k0 h) _ _ _ _ _ _ _ s_a0 h
set_option maxRecDepth 100000 in
set_option maxHeartbeats 4000000 in
theorem wX10_sayCodes_B74 {p : Program} {l : Launch} {e : Env} {s : State} {m : MethodId} {args : Array Value} {below : List Frame} {meth : Method} {c : Code} {D : va_G} {cA : Nat → ClassId} {tS : Nat → Nat} {σ : Sg} {rec74 : Nat → Int32 → Int32 → Int32 → Int32 → Mm → Option (Mm)} {fu : Nat} {q : Mm} (C : Cx p s m args meth c (dm σ) D cA tS σ cX10_sayCodes none 6 RX10) (hrec74 : ∀ (y0 : Nat) (y1 : Int32) (y2 : Int32) (y3 : Int32) (y4 : Int32) (μ : Mm), σ y0 = some (10, 0) → rec74 y0 y1 y2 y3 y4 μ = some q → GG p l e (rmO 5 126) s m args below meth c 0 0 (dm σ) D cA σ 6 (MQ below (QV D cA σ q) args s 0 0 (dm σ)) 74 [(0, .ref y0), (1, .int y1), (2, .int y2), (3, .int y3), (4, .int y4)] [] μ) (a0 : Nat) (v1 : Int32) (v2 : Int32) (v3 : Int32) (v4 : Int32) (μ : Mm) (s_a0 : σ a0 = some (10, 0)) (h : fX10_sayCodes_B74 rec74 fu a0 v1 v2 v3 v4 μ = some q) : GG p l e (rmO 5 126) s m args below meth c 0 0 (dm σ) D cA σ 6 (MQ below (QV D cA σ q) args s 0 0 (dm σ)) 74 [(0, .ref a0), (1, .int v1), (2, .int v2), (3, .int v3), (4, .int v4)] [] μ := by
  unfold fX10_sayCodes_B74 at h
  refine g_iload C dX10_sayCodes_74 4 rfl ?_
  refine g_iload_n C dX10_sayCodes_76 3 rfl ?_
  refine g_icmp_ge C 144 dX10_sayCodes_77 rfl (fun q => ?_) (fun q => ?_)
  · replace h := ip q h
    refine g_aload_n C dX10_sayCodes_144 0 rfl ?_
    refine g_iconst (v := 1) C dX10_sayCodes_145 (by decide) ?_
    refine g_iload_n C dX10_sayCodes_146 1 rfl ?_
    refine g_ishl C dX10_sayCodes_147 ?_
    refine g_iconst (v := 1) C dX10_sayCodes_148 (by decide) ?_
    refine g_iadd C dX10_sayCodes_149 ?_
    refine g_aload_n C dX10_sayCodes_150 0 rfl ?_
    refine g_geti (j := 28) C s_a0 (by decide) rfl uwX10 (by decide) rfl lfX10_177 rfl dX10_sayCodes_151 ?_
    obtain ⟨μ1, e_μ1, h⟩ := bs h
    refine g_callVV C (kX10_sayBits s_a0 e_μ1) miX10_sayBits lmX10_277 s_a0 (by decide) rfl rfl rfl (Nat.le_of_ble_eq_true rfl) dX10_sayCodes_154 ⟨by decide, by decide⟩ ⟨Nat.zero_le _, Nat.zero_le _⟩ ?_
    refine g_aload_n C dX10_sayCodes_157 0 rfl ?_
    refine g_geti (j := 33) C s_a0 (by decide) rfl uwX10 (by decide) rfl lfX10_268 rfl dX10_sayCodes_158 ?_
    refine g_if_le C 176 dX10_sayCodes_161 rfl (fun q => ?_) (fun q => ?_)
    · replace h := ip q h
      cases h
      exact g_return C dX10_sayCodes_176
    · replace h := iq q h
      refine g_aload_n C dX10_sayCodes_164 0 rfl ?_
      refine g_iconst (v := 0) C dX10_sayCodes_165 (by decide) ?_
      refine g_bipush (v := 8) C dX10_sayCodes_166 (by decide) ?_
      refine g_aload_n C dX10_sayCodes_168 0 rfl ?_
      refine g_geti (j := 33) C s_a0 (by decide) rfl uwX10 (by decide) rfl lfX10_268 rfl dX10_sayCodes_169 ?_
      refine g_isub C dX10_sayCodes_172 ?_
      obtain ⟨μ2, e_μ2, h⟩ := bs h
      refine g_callVV C (kX10_sayBits s_a0 e_μ2) miX10_sayBits lmX10_277 s_a0 (by decide) rfl rfl rfl (Nat.le_of_ble_eq_true rfl) dX10_sayCodes_173 ⟨by decide, by decide⟩ ⟨Nat.zero_le _, Nat.zero_le _⟩ ?_
      cases h
      exact g_return C dX10_sayCodes_176
  · replace h := iq q h
    refine g_aload_n C dX10_sayCodes_80 0 rfl ?_
    refine g_geti (j := 29) C s_a0 (by decide) rfl uwX10 (by decide) rfl lfX10_180 rfl dX10_sayCodes_81 ?_
    refine g_sipush (v := 4096) C dX10_sayCodes_84 (by decide) ?_
    refine g_icmp_ne C 131 dX10_sayCodes_87 rfl (fun q => ?_) (fun q => ?_)
    · replace h := iq q h
      exact g_lv [0, 1, 2, 3, 4] rfl (wX10_sayCodes_L131 C hrec74 _ _ _ _ _ _ s_a0 h)
    · replace h := ip q h
      refine g_aload_n C dX10_sayCodes_90 0 rfl ?_
      refine g_iconst (v := 1) C dX10_sayCodes_91 (by decide) ?_
      refine g_iload_n C dX10_sayCodes_92 1 rfl ?_
      refine g_ishl C dX10_sayCodes_93 ?_
      refine g_aload_n C dX10_sayCodes_94 0 rfl ?_
      refine g_geti (j := 28) C s_a0 (by decide) rfl uwX10 (by decide) rfl lfX10_177 rfl dX10_sayCodes_95 ?_
      obtain ⟨μ3, e_μ3, h⟩ := bs h
      refine g_callVV C (kX10_sayBits s_a0 e_μ3) miX10_sayBits lmX10_277 s_a0 (by decide) rfl rfl rfl (Nat.le_of_ble_eq_true rfl) dX10_sayCodes_98 ⟨by decide, by decide⟩ ⟨Nat.zero_le _, Nat.zero_le _⟩ ?_
      refine g_aload_n C dX10_sayCodes_101 0 rfl ?_
      refine g_iload_n C dX10_sayCodes_102 1 rfl ?_
      obtain ⟨μ4, e_μ4, h⟩ := nm h
      refine g_callVV C (kX10_restart s_a0 e_μ4.symm) miX10_restart lmX10_199 s_a0 (by decide) rfl rfl rfl (Nat.le_of_ble_eq_true rfl) dX10_sayCodes_103 ⟨by decide, by decide⟩ ⟨Nat.zero_le _, Nat.zero_le _⟩ ?_
      refine g_iconst (v := 0) C dX10_sayCodes_106 (by decide) ?_
      refine g_istore (lv' := [(5, .int 0), (0, .ref a0), (1, .int v1), (2, .int v2), (3, .int v3), (4, .int v4)]) C dX10_sayCodes_107 (by decide) rfl ?_
      exact g_lv [1, 2, 3, 4, 5, 0] rfl (wX10_sayCodes_L109 C hrec74 fu _ _ _ _ _ _ _ s_a0 h)
theorem wX10_sayCodes_L74 {p : Program} {l : Launch} {e : Env} {s : State} {m : MethodId} {args : Array Value} {below : List Frame} {meth : Method} {c : Code} {D : va_G} {cA : Nat → ClassId} {tS : Nat → Nat} {σ : Sg} {fu : Nat} {q : Mm} (C : Cx p s m args meth c (dm σ) D cA tS σ cX10_sayCodes none 6 RX10) : ∀ (n : Nat) (a0 : Nat) (v1 : Int32) (v2 : Int32) (v3 : Int32) (v4 : Int32) (μ : Mm), (σ a0 = some (10, 0)) → fX10_sayCodes_L74 fu n a0 v1 v2 v3 v4 μ = some q → GG p l e (rmO 5 126) s m args below meth c 0 0 (dm σ) D cA σ 6 (MQ below (QV D cA σ q) args s 0 0 (dm σ)) 74 [(0, .ref a0), (1, .int v1), (2, .int v2), (3, .int v3), (4, .int v4)] [] μ := by
  intro n
  induction n with
  | zero => intro a0 v1 v2 v3 v4 μ s_a0 h; cases h
  | succ n ih => intro a0 v1 v2 v3 v4 μ s_a0 h; exact wX10_sayCodes_B74 C (fun _ _ _ _ _ _ k0 h => ih _ _ _ _ _ _ k0 h) _ _ _ _ _ _ s_a0 h
set_option maxRecDepth 100000 in
set_option maxHeartbeats 4000000 in
theorem wX10_sayCodes_B49 {p : Program} {l : Launch} {e : Env} {s : State} {m : MethodId} {args : Array Value} {below : List Frame} {meth : Method} {c : Code} {D : va_G} {cA : Nat → ClassId} {tS : Nat → Nat} {σ : Sg} {rec49 : Nat → Int32 → Int32 → Int32 → Int32 → Mm → Option (Mm)} {fu : Nat} {q : Mm} (C : Cx p s m args meth c (dm σ) D cA tS σ cX10_sayCodes none 6 RX10) (hrec49 : ∀ (y0 : Nat) (y1 : Int32) (y2 : Int32) (y3 : Int32) (y4 : Int32) (μ : Mm), σ y0 = some (10, 0) → rec49 y0 y1 y2 y3 y4 μ = some q → GG p l e (rmO 5 126) s m args below meth c 0 0 (dm σ) D cA σ 6 (MQ below (QV D cA σ q) args s 0 0 (dm σ)) 49 [(0, .ref y0), (1, .int y1), (2, .int y2), (3, .int y3), (4, .int y4)] [] μ) (a0 : Nat) (v1 : Int32) (v2 : Int32) (v3 : Int32) (v4 : Int32) (μ : Mm) (s_a0 : σ a0 = some (10, 0)) (h : fX10_sayCodes_B49 rec49 fu a0 v1 v2 v3 v4 μ = some q) : GG p l e (rmO 5 126) s m args below meth c 0 0 (dm σ) D cA σ 6 (MQ below (QV D cA σ q) args s 0 0 (dm σ)) 49 [(0, .ref a0), (1, .int v1), (2, .int v2), (3, .int v3), (4, .int v4)] [] μ := by
  unfold fX10_sayCodes_B49 at h
  refine g_iload C dX10_sayCodes_49 4 rfl ?_
  refine g_iconst (v := 1) C dX10_sayCodes_51 (by decide) ?_
  refine g_iload_n C dX10_sayCodes_52 1 rfl ?_
  refine g_ishl C dX10_sayCodes_53 ?_
  refine g_icmp_ge C 71 dX10_sayCodes_54 rfl (fun q => ?_) (fun q => ?_)
  · replace h := ip q h
    refine g_iconst (v := 0) C dX10_sayCodes_71 (by decide) ?_
    refine g_istore (lv' := [(4, .int 0), (0, .ref a0), (1, .int v1), (2, .int v2), (3, .int v3)]) C dX10_sayCodes_72 (by decide) rfl ?_
    exact g_lv [1, 2, 3, 4, 0] rfl (wX10_sayCodes_L74 C fu _ _ _ _ _ _ s_a0 h)
  · replace h := iq q h
    refine g_aload_n C dX10_sayCodes_57 0 rfl ?_
    refine g_wt (fun hT_μ => ?_)
    refine g_getr (j := 36) C s_a0 (by decide) rfl uwX10 (by decide) rfl lfX10_59 rfl dX10_sayCodes_58 ?_
    refine g_iload C dX10_sayCodes_61 4 rfl ?_
    refine g_iconst (v := -1) C dX10_sayCodes_63 (by decide) ?_
    obtain ⟨hg, h⟩ := gs h
    refine g_shast C (hT_μ.1 _ _ 36 _ s_a0 rfl) (ib_in hg) dX10_sayCodes_64 ?_
    obtain ⟨μ1, e_μ1, h⟩ := nm h
    refine g_mu e_μ1 ?_
    obtain ⟨x2, e_x2, h⟩ := nm h
    refine g_iinc (v := x2) (lv' := [(4, .int x2), (0, .ref a0), (1, .int v1), (2, .int v2), (3, .int v3)]) C dX10_sayCodes_65 (by decide) 4 rfl 1 (by decide) e_x2.symm rfl ?_
    refine g_goto C 49 dX10_sayCodes_68 rfl ?_
    exact g_lv [1, 2, 3, 4, 0] rfl (hrec49 _ _ _ _ _ _ s_a0 h)
theorem wX10_sayCodes_L49 {p : Program} {l : Launch} {e : Env} {s : State} {m : MethodId} {args : Array Value} {below : List Frame} {meth : Method} {c : Code} {D : va_G} {cA : Nat → ClassId} {tS : Nat → Nat} {σ : Sg} {fu : Nat} {q : Mm} (C : Cx p s m args meth c (dm σ) D cA tS σ cX10_sayCodes none 6 RX10) : ∀ (n : Nat) (a0 : Nat) (v1 : Int32) (v2 : Int32) (v3 : Int32) (v4 : Int32) (μ : Mm), (σ a0 = some (10, 0)) → fX10_sayCodes_L49 fu n a0 v1 v2 v3 v4 μ = some q → GG p l e (rmO 5 126) s m args below meth c 0 0 (dm σ) D cA σ 6 (MQ below (QV D cA σ q) args s 0 0 (dm σ)) 49 [(0, .ref a0), (1, .int v1), (2, .int v2), (3, .int v3), (4, .int v4)] [] μ := by
  intro n
  induction n with
  | zero => intro a0 v1 v2 v3 v4 μ s_a0 h; cases h
  | succ n ih => intro a0 v1 v2 v3 v4 μ s_a0 h; exact wX10_sayCodes_B49 C (fun _ _ _ _ _ _ k0 h => ih _ _ _ _ _ _ k0 h) _ _ _ _ _ _ s_a0 h
set_option maxRecDepth 100000 in
set_option maxHeartbeats 4000000 in
theorem wX10_sayCodes {p : Program} {l : Launch} {e : Env} {s : State} {m : MethodId} {args : Array Value} {below : List Frame} {meth : Method} {c : Code} {D : va_G} {cA : Nat → ClassId} {tS : Nat → Nat} {σ : Sg} {fu : Nat} {q : Mm} (C : Cx p s m args meth c (dm σ) D cA tS σ cX10_sayCodes none 6 RX10) (a0 : Nat) (v1 : Int32) (v2 : Int32) (μ : Mm) (s_a0 : σ a0 = some (10, 0)) (h : fX10_sayCodes fu a0 v1 v2 μ = some q) : GG p l e (rmO 5 126) s m args below meth c 0 0 (dm σ) D cA σ 6 (MQ below (QV D cA σ q) args s 0 0 (dm σ)) 0 [(0, .ref a0), (1, .int v1), (2, .int v2)] [] μ := by
  unfold fX10_sayCodes at h
  refine g_aload_n C dX10_sayCodes_0 0 rfl ?_
  refine g_aload_n C dX10_sayCodes_1 0 rfl ?_
  refine g_geti (j := 6) C s_a0 (by decide) rfl uwX10 (by decide) rfl lfX10_66 rfl dX10_sayCodes_2 ?_
  refine g_iload_n C dX10_sayCodes_5 2 rfl ?_
  obtain ⟨x1, e_x1, h⟩ := bs h
  refine g_callVI C (kX10_places s_a0 e_x1) miX10_places lmX10_189 s_a0 (by decide) rfl rfl rfl (Nat.le_of_ble_eq_true rfl) dX10_sayCodes_6 ⟨by decide, by decide⟩ ⟨Nat.zero_le _, Nat.zero_le _⟩ ?_
  refine g_istore_n (lv' := [(3, .int x1), (0, .ref a0), (1, .int v1), (2, .int v2)]) C dX10_sayCodes_9 (by decide) rfl ?_
  refine g_aload_n C dX10_sayCodes_10 1 rfl ?_
  refine g_iload_n C dX10_sayCodes_11 2 rfl ?_
  obtain ⟨μ2, e_μ2, h⟩ := bs h
  refine g_callVV C (kX10_alone s_a0 e_μ2) miX10_alone lmX10_196 s_a0 (by decide) rfl rfl rfl (Nat.le_of_ble_eq_true rfl) dX10_sayCodes_12 ⟨by decide, by decide⟩ ⟨Nat.zero_le _, Nat.zero_le _⟩ ?_
  refine g_aload_n C dX10_sayCodes_15 1 rfl ?_
  refine g_iload_n C dX10_sayCodes_16 2 rfl ?_
  obtain ⟨μ3, e_μ3, h⟩ := nm h
  refine g_callVV C (kX10_restart s_a0 e_μ3.symm) miX10_restart lmX10_199 s_a0 (by decide) rfl rfl rfl (Nat.le_of_ble_eq_true rfl) dX10_sayCodes_17 ⟨by decide, by decide⟩ ⟨Nat.zero_le _, Nat.zero_le _⟩ ?_
  refine g_aload_n C dX10_sayCodes_20 1 rfl ?_
  refine g_iconst (v := 0) C dX10_sayCodes_21 (by decide) ?_
  refine g_puti (j := 32) C s_a0 (by decide) rfl uwX10 tyX10_ok nmX10 (by decide) rfl lfX10_265 rfl rfl rfl (fun _ _ => rfl) (fun _ _ => Nat.le_of_ble_eq_true rfl) dX10_sayCodes_22 ?_
  obtain ⟨μ4, e_μ4, h⟩ := nm h
  refine g_mu e_μ4 ?_
  refine g_aload_n C dX10_sayCodes_25 1 rfl ?_
  refine g_iconst (v := 0) C dX10_sayCodes_26 (by decide) ?_
  refine g_puti (j := 33) C s_a0 (by decide) rfl uwX10 tyX10_ok nmX10 (by decide) rfl lfX10_268 rfl rfl rfl (fun _ _ => rfl) (fun _ _ => Nat.le_of_ble_eq_true rfl) dX10_sayCodes_27 ?_
  obtain ⟨μ5, e_μ5, h⟩ := nm h
  refine g_mu e_μ5 ?_
  refine g_aload_n C dX10_sayCodes_30 1 rfl ?_
  refine g_iconst (v := 0) C dX10_sayCodes_31 (by decide) ?_
  refine g_puti (j := 34) C s_a0 (by decide) rfl uwX10 tyX10_ok nmX10 (by decide) rfl lfX10_259 rfl rfl rfl (fun _ _ => rfl) (fun _ _ => Nat.le_of_ble_eq_true rfl) dX10_sayCodes_32 ?_
  obtain ⟨μ6, e_μ6, h⟩ := nm h
  refine g_mu e_μ6 ?_
  refine g_aload_n C dX10_sayCodes_35 1 rfl ?_
  refine g_iconst (v := 1) C dX10_sayCodes_36 (by decide) ?_
  refine g_iload_n C dX10_sayCodes_37 2 rfl ?_
  refine g_ishl C dX10_sayCodes_38 ?_
  refine g_aload_n C dX10_sayCodes_39 1 rfl ?_
  refine g_geti (j := 28) C s_a0 (by decide) rfl uwX10 (by decide) rfl lfX10_177 rfl dX10_sayCodes_40 ?_
  obtain ⟨μ7, e_μ7, h⟩ := bs h
  refine g_callVV C (kX10_sayBits s_a0 e_μ7) miX10_sayBits lmX10_277 s_a0 (by decide) rfl rfl rfl (Nat.le_of_ble_eq_true rfl) dX10_sayCodes_43 ⟨by decide, by decide⟩ ⟨Nat.zero_le _, Nat.zero_le _⟩ ?_
  refine g_iconst (v := 0) C dX10_sayCodes_46 (by decide) ?_
  refine g_istore (lv' := [(4, .int 0), (3, .int x1), (0, .ref a0), (1, .int v1), (2, .int v2)]) C dX10_sayCodes_47 (by decide) rfl ?_
  exact g_lv [2, 3, 4, 1, 0] rfl (wX10_sayCodes_L49 C fu _ _ _ _ _ _ s_a0 h)
theorem miX10_sayCodes : MI yX10_sayCodes cX10_sayCodes 6 none RX10 2 := ⟨wcX10_sayCodes, wmX10_sayCodes, wsX10_sayCodes, wiX10, by decide +kernel⟩
theorem kX10_sayCodes {l : Launch} {D : va_G} {cA : Nat → ClassId} {tS : Nat → Nat} {σ : Sg} {a0 : Nat} {v1 : Int32} {v2 : Int32} {μ : Mm} {fu : Nat} {q : Mm} (s_a0 : σ a0 = some (10, 0)) (h : fX10_sayCodes fu a0 v1 v2 μ = some q) : Ct l D cA tS σ yX10_sayCodes cX10_sayCodes 6 none (rmO 5 126) [.ref a0, .int v1, .int v2] μ (QV D cA σ q) :=
  Ct.of (by decide) (Nat.le_of_ble_eq_true rfl) (fun _ _ _ _ _ _ _ _ C => wX10_sayCodes C _ _ _ _ s_a0 h)
set_option maxRecDepth 100000 in
set_option maxHeartbeats 4000000 in
theorem wX10_sayFrame_L249 {p : Program} {l : Launch} {e : Env} {s : State} {m : MethodId} {args : Array Value} {below : List Frame} {meth : Method} {c : Code} {D : va_G} {cA : Nat → ClassId} {tS : Nat → Nat} {σ : Sg} {fu : Nat} {q : Mm} (C : Cx p s m args meth c (dm σ) D cA tS σ cX10_sayFrame none 5 RX10) (a0 : Nat) (μ : Mm) (s_a0 : σ a0 = some (10, 0)) (h : fX10_sayFrame_L249 fu a0 μ = some q) : GG p l e (rmO 6 151) s m args below meth c 0 0 (dm σ) D cA σ 5 (MQ below (QV D cA σ q) args s 0 0 (dm σ)) 249 [(0, .ref a0)] [] μ := by
  unfold fX10_sayFrame_L249 at h
  refine g_aload_n C dX10_sayFrame_249 0 rfl ?_
  refine g_iconst (v := 0) C dX10_sayFrame_250 (by decide) ?_
  obtain ⟨μ1, e_μ1, h⟩ := bs h
  refine g_callVV C (kX10_say s_a0 e_μ1) miX10_say lmX10_240 s_a0 (by decide) rfl rfl rfl (Nat.le_of_ble_eq_true rfl) dX10_sayFrame_251 ⟨by decide, by decide⟩ ⟨Nat.zero_le _, Nat.zero_le _⟩ ?_
  cases h
  exact g_return C dX10_sayFrame_254
set_option maxRecDepth 100000 in
set_option maxHeartbeats 4000000 in
theorem wX10_sayFrame_L225 {p : Program} {l : Launch} {e : Env} {s : State} {m : MethodId} {args : Array Value} {below : List Frame} {meth : Method} {c : Code} {D : va_G} {cA : Nat → ClassId} {tS : Nat → Nat} {σ : Sg} {fu : Nat} {q : Mm} (C : Cx p s m args meth c (dm σ) D cA tS σ cX10_sayFrame none 5 RX10) (a0 : Nat) (v1 : Int32) (v4 : Int32) (μ : Mm) (s_a0 : σ a0 = some (10, 0)) (h : fX10_sayFrame_L225 fu a0 v1 v4 μ = some q) : GG p l e (rmO 6 151) s m args below meth c 0 0 (dm σ) D cA σ 5 (MQ below (QV D cA σ q) args s 0 0 (dm σ)) 225 [(0, .ref a0), (1, .int v1), (4, .int v4)] [] μ := by
  unfold fX10_sayFrame_L225 at h
  refine g_aload_n C dX10_sayFrame_225 0 rfl ?_
  refine g_iload C dX10_sayFrame_226 2 rfl ?_
  obtain ⟨μ1, e_μ1, h⟩ := bs h
  refine g_callVV C (kX10_say s_a0 e_μ1) miX10_say lmX10_240 s_a0 (by decide) rfl rfl rfl (Nat.le_of_ble_eq_true rfl) dX10_sayFrame_228 ⟨by decide, by decide⟩ ⟨Nat.zero_le _, Nat.zero_le _⟩ ?_
  refine g_aload_n C dX10_sayFrame_231 0 rfl ?_
  refine g_iload C dX10_sayFrame_232 2 rfl ?_
  refine g_iload_n C dX10_sayFrame_234 1 rfl ?_
  obtain ⟨μ2, e_μ2, h⟩ := bs h
  refine g_callVV C (kX10_sayCodes s_a0 e_μ2) miX10_sayCodes lmX10_256 s_a0 (by decide) rfl rfl rfl (Nat.le_of_ble_eq_true rfl) dX10_sayFrame_235 ⟨by decide, by decide⟩ ⟨Nat.zero_le _, Nat.zero_le _⟩ ?_
  refine g_aload_n C dX10_sayFrame_238 0 rfl ?_
  refine g_geti (j := 34) C s_a0 (by decide) rfl uwX10 (by decide) rfl lfX10_259 rfl dX10_sayFrame_239 ?_
  refine g_if_le C 249 dX10_sayFrame_242 rfl (fun q => ?_) (fun q => ?_)
  · replace h := ip q h
    exact g_lv [0] rfl (wX10_sayFrame_L249 C _ _ s_a0 h)
  · replace h := iq q h
    refine g_aload_n C dX10_sayFrame_245 0 rfl ?_
    obtain ⟨μ3, e_μ3, h⟩ := bs h
    refine g_callVV C (kX10_sayRow s_a0 e_μ3) miX10_sayRow lmX10_262 s_a0 (by decide) rfl rfl rfl (Nat.le_of_ble_eq_true rfl) dX10_sayFrame_246 ⟨by decide, by decide⟩ ⟨Nat.zero_le _, Nat.zero_le _⟩ ?_
    exact g_lv [0] rfl (wX10_sayFrame_L249 C _ _ s_a0 h)
set_option maxRecDepth 100000 in
set_option maxHeartbeats 4000000 in
theorem wX10_sayFrame_L160 {p : Program} {l : Launch} {e : Env} {s : State} {m : MethodId} {args : Array Value} {below : List Frame} {meth : Method} {c : Code} {D : va_G} {cA : Nat → ClassId} {tS : Nat → Nat} {σ : Sg} {fu : Nat} {q : Mm} (C : Cx p s m args meth c (dm σ) D cA tS σ cX10_sayFrame none 5 RX10) (a0 : Nat) (v1 : Int32) (v3 : Int32) (o0 : Nat) (t1 : Int32) (μ : Mm) (s_a0 : σ a0 = some (10, 0)) (s_o0 : σ o0 = some (10, 0)) (h : fX10_sayFrame_L160 fu a0 v1 v3 o0 t1 μ = some q) : GG p l e (rmO 6 151) s m args below meth c 0 0 (dm σ) D cA σ 5 (MQ below (QV D cA σ q) args s 0 0 (dm σ)) 160 [(0, .ref a0), (1, .int v1), (3, .int v3)] [.int t1, .ref o0] μ := by
  unfold fX10_sayFrame_L160 at h
  refine g_aload_n C dX10_sayFrame_160 0 rfl ?_
  refine g_aload_n C dX10_sayFrame_161 0 rfl ?_
  refine g_geti (j := 6) C s_a0 (by decide) rfl uwX10 (by decide) rfl lfX10_66 rfl dX10_sayFrame_162 ?_
  refine g_iload_n C dX10_sayFrame_165 1 rfl ?_
  refine g_iconst (v := 5) C dX10_sayFrame_166 (by decide) ?_
  obtain ⟨x1, e_x1, h⟩ := bs h
  refine g_callVI C (kX10_field s_a0 e_x1) miX10_field lmX10_73 s_a0 (by decide) rfl rfl rfl (Nat.le_of_ble_eq_true rfl) dX10_sayFrame_167 ⟨by decide, by decide⟩ ⟨Nat.zero_le _, Nat.zero_le _⟩ ?_
  refine g_bipush (v := 6) C dX10_sayFrame_170 (by decide) ?_
  refine g_ishl C dX10_sayFrame_172 ?_
  refine g_ior C dX10_sayFrame_173 ?_
  refine g_iload_n C dX10_sayFrame_174 2 rfl ?_
  obtain ⟨x2, e_x2, h⟩ := bs h
  refine g_callSI C (kX10_bitsOf e_x2) msX10_bitsOf lmX10_246 rfl rfl (Nat.le_of_ble_eq_true rfl) dX10_sayFrame_175 ⟨by decide, by decide⟩ ⟨Nat.zero_le _, Nat.zero_le _⟩ ?_
  refine g_ior C dX10_sayFrame_178 ?_
  obtain ⟨μ3, e_μ3, h⟩ := bs h
  refine g_callVV C (kX10_say s_o0 e_μ3) miX10_say lmX10_240 s_o0 (by decide) rfl rfl rfl (Nat.le_of_ble_eq_true rfl) dX10_sayFrame_179 ⟨by decide, by decide⟩ ⟨Nat.zero_le _, Nat.zero_le _⟩ ?_
  refine g_aload_n C dX10_sayFrame_182 0 rfl ?_
  refine g_aload_n C dX10_sayFrame_183 0 rfl ?_
  refine g_wt (fun hT_μ3 => ?_)
  refine g_getr (j := 10) C s_a0 (by decide) rfl uwX10 (by decide) rfl lfX10_33 rfl dX10_sayFrame_184 ?_
  refine g_aload_n C dX10_sayFrame_187 0 rfl ?_
  refine g_geti (j := 6) C s_a0 (by decide) rfl uwX10 (by decide) rfl lfX10_66 rfl dX10_sayFrame_188 ?_
  refine g_iload_n C dX10_sayFrame_191 1 rfl ?_
  refine g_iconst (v := 0) C dX10_sayFrame_192 (by decide) ?_
  obtain ⟨x4, e_x4, h⟩ := nm h
  refine g_callSI C (kX10_localAt e_x4.symm) msX10_localAt lmX10_160 rfl rfl (Nat.le_of_ble_eq_true rfl) dX10_sayFrame_193 ⟨by decide, by decide⟩ ⟨Nat.zero_le _, Nat.zero_le _⟩ ?_
  refine g_iload_n C dX10_sayFrame_196 2 rfl ?_
  obtain ⟨μ5, e_μ5, h⟩ := bs h
  refine g_callVV C (kX10_sayTable s_a0 (hT_μ3.1 _ _ 10 _ s_a0 rfl) e_μ5) miX10_sayTable lmX10_250 s_a0 (by decide) rfl rfl rfl (Nat.le_of_ble_eq_true rfl) dX10_sayFrame_197 ⟨by decide, by decide⟩ ⟨Nat.zero_le _, Nat.zero_le _⟩ ?_
  refine g_aload_n C dX10_sayFrame_200 0 rfl ?_
  refine g_aload_n C dX10_sayFrame_201 0 rfl ?_
  refine g_geti (j := 6) C s_a0 (by decide) rfl uwX10 (by decide) rfl lfX10_66 rfl dX10_sayFrame_202 ?_
  refine g_iload_n C dX10_sayFrame_205 1 rfl ?_
  obtain ⟨x6, e_x6, h⟩ := bs h
  refine g_callVI C (kX10_colours s_a0 e_x6) miX10_colours lmX10_193 s_a0 (by decide) rfl rfl rfl (Nat.le_of_ble_eq_true rfl) dX10_sayFrame_206 ⟨by decide, by decide⟩ ⟨Nat.zero_le _, Nat.zero_le _⟩ ?_
  obtain ⟨x7, e_x7, h⟩ := bs h
  refine g_callSI C (kX10_bitsOf e_x7) msX10_bitsOf lmX10_246 rfl rfl (Nat.le_of_ble_eq_true rfl) dX10_sayFrame_209 ⟨by decide, by decide⟩ ⟨Nat.zero_le _, Nat.zero_le _⟩ ?_
  refine g_iconst (v := 1) C dX10_sayFrame_212 (by decide) ?_
  refine g_iadd C dX10_sayFrame_213 ?_
  obtain ⟨x8, e_x8, h⟩ := nm h
  refine g_topi e_x8 ?_
  refine g_istore (lv' := [(4, .int x8), (0, .ref a0), (1, .int v1), (3, .int v3)]) C dX10_sayFrame_214 (by decide) rfl ?_
  refine g_iload C dX10_sayFrame_216 0 rfl ?_
  refine g_iconst (v := 2) C dX10_sayFrame_218 (by decide) ?_
  refine g_icmp_ge C 225 dX10_sayFrame_219 rfl (fun q => ?_) (fun q => ?_)
  · replace h := ip q h
    exact g_lv [1, 2, 0] rfl (wX10_sayFrame_L225 C _ _ _ _ s_a0 h)
  · replace h := iq q h
    refine g_iconst (v := 2) C dX10_sayFrame_222 (by decide) ?_
    refine g_istore (lv' := [(4, .int 2), (0, .ref a0), (1, .int v1), (3, .int v3)]) C dX10_sayFrame_223 (by decide) rfl ?_
    exact g_lv [1, 2, 0] rfl (wX10_sayFrame_L225 C _ _ _ _ s_a0 h)
set_option maxRecDepth 100000 in
set_option maxHeartbeats 4000000 in
theorem wX10_sayFrame_B112 {p : Program} {l : Launch} {e : Env} {s : State} {m : MethodId} {args : Array Value} {below : List Frame} {meth : Method} {c : Code} {D : va_G} {cA : Nat → ClassId} {tS : Nat → Nat} {σ : Sg} {rec112 : Nat → Int32 → Int32 → Mm → Option (Mm)} {fu : Nat} {q : Mm} (C : Cx p s m args meth c (dm σ) D cA tS σ cX10_sayFrame none 5 RX10) (hrec112 : ∀ (y0 : Nat) (y1 : Int32) (y3 : Int32) (μ : Mm), σ y0 = some (10, 0) → rec112 y0 y1 y3 μ = some q → GG p l e (rmO 6 151) s m args below meth c 0 0 (dm σ) D cA σ 5 (MQ below (QV D cA σ q) args s 0 0 (dm σ)) 112 [(0, .ref y0), (1, .int y1), (3, .int y3)] [] μ) (a0 : Nat) (v1 : Int32) (v3 : Int32) (μ : Mm) (s_a0 : σ a0 = some (10, 0)) (h : fX10_sayFrame_B112 rec112 fu a0 v1 v3 μ = some q) : GG p l e (rmO 6 151) s m args below meth c 0 0 (dm σ) D cA σ 5 (MQ below (QV D cA σ q) args s 0 0 (dm σ)) 112 [(0, .ref a0), (1, .int v1), (3, .int v3)] [] μ := by
  unfold fX10_sayFrame_B112 at h
  refine g_iload_n C dX10_sayFrame_112 2 rfl ?_
  refine g_iconst (v := 4) C dX10_sayFrame_113 (by decide) ?_
  refine g_icmp_ge C 137 dX10_sayFrame_114 rfl (fun q => ?_) (fun q => ?_)
  · replace h := ip q h
    refine g_aload_n C dX10_sayFrame_137 0 rfl ?_
    refine g_aload_n C dX10_sayFrame_138 0 rfl ?_
    refine g_geti (j := 6) C s_a0 (by decide) rfl uwX10 (by decide) rfl lfX10_66 rfl dX10_sayFrame_139 ?_
    refine g_iload_n C dX10_sayFrame_142 1 rfl ?_
    refine g_iconst (v := 4) C dX10_sayFrame_143 (by decide) ?_
    obtain ⟨x1, e_x1, h⟩ := bs h
    refine g_callVI C (kX10_field s_a0 e_x1) miX10_field lmX10_73 s_a0 (by decide) rfl rfl rfl (Nat.le_of_ble_eq_true rfl) dX10_sayFrame_144 ⟨by decide, by decide⟩ ⟨Nat.zero_le _, Nat.zero_le _⟩ ?_
    refine g_istore_n (lv' := [(3, .int x1), (0, .ref a0), (1, .int v1)]) C dX10_sayFrame_147 (by decide) rfl ?_
    refine g_aload_n C dX10_sayFrame_148 1 rfl ?_
    refine g_iload_n C dX10_sayFrame_149 0 rfl ?_
    refine g_if_le C 159 dX10_sayFrame_150 rfl (fun q => ?_) (fun q => ?_)
    · replace h := ip q h
      refine g_iconst (v := 0) C dX10_sayFrame_159 (by decide) ?_
      exact g_lv [1, 2, 0] rfl (wX10_sayFrame_L160 C _ _ _ _ _ _ s_a0 s_a0 h)
    · replace h := iq q h
      refine g_sipush (v := 128) C dX10_sayFrame_153 (by decide) ?_
      refine g_goto C 160 dX10_sayFrame_156 rfl ?_
      exact g_lv [1, 2, 0] rfl (wX10_sayFrame_L160 C _ _ _ _ _ _ s_a0 s_a0 h)
  · replace h := iq q h
    refine g_aload_n C dX10_sayFrame_117 0 rfl ?_
    refine g_aload_n C dX10_sayFrame_118 0 rfl ?_
    refine g_aload_n C dX10_sayFrame_119 0 rfl ?_
    refine g_geti (j := 6) C s_a0 (by decide) rfl uwX10 (by decide) rfl lfX10_66 rfl dX10_sayFrame_120 ?_
    refine g_iload_n C dX10_sayFrame_123 1 rfl ?_
    refine g_iload_n C dX10_sayFrame_124 2 rfl ?_
    obtain ⟨x2, e_x2, h⟩ := bs h
    refine g_callVI C (kX10_field s_a0 e_x2) miX10_field lmX10_73 s_a0 (by decide) rfl rfl rfl (Nat.le_of_ble_eq_true rfl) dX10_sayFrame_125 ⟨by decide, by decide⟩ ⟨Nat.zero_le _, Nat.zero_le _⟩ ?_
    obtain ⟨μ3, e_μ3, h⟩ := bs h
    refine g_callVV C (kX10_sayTwo s_a0 e_μ3) miX10_sayTwo lmX10_243 s_a0 (by decide) rfl rfl rfl (Nat.le_of_ble_eq_true rfl) dX10_sayFrame_128 ⟨by decide, by decide⟩ ⟨Nat.zero_le _, Nat.zero_le _⟩ ?_
    obtain ⟨x4, e_x4, h⟩ := nm h
    refine g_iinc (v := x4) (lv' := [(3, .int x4), (0, .ref a0), (1, .int v1)]) C dX10_sayFrame_131 (by decide) 2 rfl 1 (by decide) e_x4.symm rfl ?_
    refine g_goto C 112 dX10_sayFrame_134 rfl ?_
    exact g_lv [1, 2, 0] rfl (hrec112 _ _ _ _ s_a0 h)
theorem wX10_sayFrame_L112 {p : Program} {l : Launch} {e : Env} {s : State} {m : MethodId} {args : Array Value} {below : List Frame} {meth : Method} {c : Code} {D : va_G} {cA : Nat → ClassId} {tS : Nat → Nat} {σ : Sg} {fu : Nat} {q : Mm} (C : Cx p s m args meth c (dm σ) D cA tS σ cX10_sayFrame none 5 RX10) : ∀ (n : Nat) (a0 : Nat) (v1 : Int32) (v3 : Int32) (μ : Mm), (σ a0 = some (10, 0)) → fX10_sayFrame_L112 fu n a0 v1 v3 μ = some q → GG p l e (rmO 6 151) s m args below meth c 0 0 (dm σ) D cA σ 5 (MQ below (QV D cA σ q) args s 0 0 (dm σ)) 112 [(0, .ref a0), (1, .int v1), (3, .int v3)] [] μ := by
  intro n
  induction n with
  | zero => intro a0 v1 v3 μ s_a0 h; cases h
  | succ n ih => intro a0 v1 v3 μ s_a0 h; exact wX10_sayFrame_B112 C (fun _ _ _ _ k0 h => ih _ _ _ _ k0 h) _ _ _ _ s_a0 h
set_option maxRecDepth 100000 in
set_option maxHeartbeats 4000000 in
theorem wX10_sayFrame_L96 {p : Program} {l : Launch} {e : Env} {s : State} {m : MethodId} {args : Array Value} {below : List Frame} {meth : Method} {c : Code} {D : va_G} {cA : Nat → ClassId} {tS : Nat → Nat} {σ : Sg} {fu : Nat} {q : Mm} (C : Cx p s m args meth c (dm σ) D cA tS σ cX10_sayFrame none 5 RX10) (a0 : Nat) (v1 : Int32) (o0 : Nat) (t1 : Int32) (μ : Mm) (s_a0 : σ a0 = some (10, 0)) (s_o0 : σ o0 = some (10, 0)) (h : fX10_sayFrame_L96 fu a0 v1 o0 t1 μ = some q) : GG p l e (rmO 6 151) s m args below meth c 0 0 (dm σ) D cA σ 5 (MQ below (QV D cA σ q) args s 0 0 (dm σ)) 96 [(0, .ref a0), (1, .int v1)] [.int t1, .ref o0] μ := by
  unfold fX10_sayFrame_L96 at h
  obtain ⟨μ1, e_μ1, h⟩ := bs h
  refine g_callVV C (kX10_say s_o0 e_μ1) miX10_say lmX10_240 s_o0 (by decide) rfl rfl rfl (Nat.le_of_ble_eq_true rfl) dX10_sayFrame_96 ⟨by decide, by decide⟩ ⟨Nat.zero_le _, Nat.zero_le _⟩ ?_
  refine g_aload_n C dX10_sayFrame_99 0 rfl ?_
  refine g_iconst (v := 0) C dX10_sayFrame_100 (by decide) ?_
  obtain ⟨μ2, e_μ2, h⟩ := bs h
  refine g_callVV C (kX10_say s_a0 e_μ2) miX10_say lmX10_240 s_a0 (by decide) rfl rfl rfl (Nat.le_of_ble_eq_true rfl) dX10_sayFrame_101 ⟨by decide, by decide⟩ ⟨Nat.zero_le _, Nat.zero_le _⟩ ?_
  refine g_aload_n C dX10_sayFrame_104 0 rfl ?_
  refine g_bipush (v := 44) C dX10_sayFrame_105 (by decide) ?_
  obtain ⟨μ3, e_μ3, h⟩ := bs h
  refine g_callVV C (kX10_say s_a0 e_μ3) miX10_say lmX10_240 s_a0 (by decide) rfl rfl rfl (Nat.le_of_ble_eq_true rfl) dX10_sayFrame_107 ⟨by decide, by decide⟩ ⟨Nat.zero_le _, Nat.zero_le _⟩ ?_
  refine g_iconst (v := 0) C dX10_sayFrame_110 (by decide) ?_
  refine g_istore_n (lv' := [(3, .int 0), (0, .ref a0), (1, .int v1)]) C dX10_sayFrame_111 (by decide) rfl ?_
  exact g_lv [1, 2, 0] rfl (wX10_sayFrame_L112 C fu _ _ _ _ s_a0 h)
set_option maxRecDepth 100000 in
set_option maxHeartbeats 4000000 in
theorem wX10_sayFrame_L67 {p : Program} {l : Launch} {e : Env} {s : State} {m : MethodId} {args : Array Value} {below : List Frame} {meth : Method} {c : Code} {D : va_G} {cA : Nat → ClassId} {tS : Nat → Nat} {σ : Sg} {fu : Nat} {q : Mm} (C : Cx p s m args meth c (dm σ) D cA tS σ cX10_sayFrame none 5 RX10) (a0 : Nat) (v1 : Int32) (v2 : Int32) (o0 : Nat) (t1 : Int32) (t2 : Int32) (μ : Mm) (s_a0 : σ a0 = some (10, 0)) (s_o0 : σ o0 = some (10, 0)) (h : fX10_sayFrame_L67 fu a0 v1 v2 o0 t1 t2 μ = some q) : GG p l e (rmO 6 151) s m args below meth c 0 0 (dm σ) D cA σ 5 (MQ below (QV D cA σ q) args s 0 0 (dm σ)) 67 [(0, .ref a0), (1, .int v1), (2, .int v2)] [.int t2, .int t1, .ref o0] μ := by
  unfold fX10_sayFrame_L67 at h
  refine g_ior C dX10_sayFrame_67 ?_
  obtain ⟨μ1, e_μ1, h⟩ := bs h
  refine g_callVV C (kX10_say s_o0 e_μ1) miX10_say lmX10_240 s_o0 (by decide) rfl rfl rfl (Nat.le_of_ble_eq_true rfl) dX10_sayFrame_68 ⟨by decide, by decide⟩ ⟨Nat.zero_le _, Nat.zero_le _⟩ ?_
  refine g_aload_n C dX10_sayFrame_71 0 rfl ?_
  refine g_aload_n C dX10_sayFrame_72 0 rfl ?_
  refine g_aload_n C dX10_sayFrame_73 0 rfl ?_
  refine g_geti (j := 6) C s_a0 (by decide) rfl uwX10 (by decide) rfl lfX10_66 rfl dX10_sayFrame_74 ?_
  refine g_iload_n C dX10_sayFrame_77 1 rfl ?_
  refine g_bipush (v := 8) C dX10_sayFrame_78 (by decide) ?_
  obtain ⟨x2, e_x2, h⟩ := bs h
  refine g_callVI C (kX10_field s_a0 e_x2) miX10_field lmX10_73 s_a0 (by decide) rfl rfl rfl (Nat.le_of_ble_eq_true rfl) dX10_sayFrame_80 ⟨by decide, by decide⟩ ⟨Nat.zero_le _, Nat.zero_le _⟩ ?_
  obtain ⟨μ3, e_μ3, h⟩ := bs h
  refine g_callVV C (kX10_sayTwo s_a0 e_μ3) miX10_sayTwo lmX10_243 s_a0 (by decide) rfl rfl rfl (Nat.le_of_ble_eq_true rfl) dX10_sayFrame_83 ⟨by decide, by decide⟩ ⟨Nat.zero_le _, Nat.zero_le _⟩ ?_
  refine g_aload_n C dX10_sayFrame_86 0 rfl ?_
  refine g_iload_n C dX10_sayFrame_87 2 rfl ?_
  refine g_if_ge C 95 dX10_sayFrame_88 rfl (fun q => ?_) (fun q => ?_)
  · replace h := ip q h
    refine g_iload_n C dX10_sayFrame_95 2 rfl ?_
    exact g_lv [0, 1] rfl (wX10_sayFrame_L96 C _ _ _ _ _ s_a0 s_a0 h)
  · replace h := iq q h
    refine g_iconst (v := 0) C dX10_sayFrame_91 (by decide) ?_
    refine g_goto C 96 dX10_sayFrame_92 rfl ?_
    exact g_lv [0, 1] rfl (wX10_sayFrame_L96 C _ _ _ _ _ s_a0 s_a0 h)
set_option maxRecDepth 100000 in
set_option maxHeartbeats 4000000 in
theorem wX10_sayFrame {p : Program} {l : Launch} {e : Env} {s : State} {m : MethodId} {args : Array Value} {below : List Frame} {meth : Method} {c : Code} {D : va_G} {cA : Nat → ClassId} {tS : Nat → Nat} {σ : Sg} {fu : Nat} {q : Mm} (C : Cx p s m args meth c (dm σ) D cA tS σ cX10_sayFrame none 5 RX10) (a0 : Nat) (v1 : Int32) (μ : Mm) (s_a0 : σ a0 = some (10, 0)) (h : fX10_sayFrame fu a0 v1 μ = some q) : GG p l e (rmO 6 151) s m args below meth c 0 0 (dm σ) D cA σ 5 (MQ below (QV D cA σ q) args s 0 0 (dm σ)) 0 [(0, .ref a0), (1, .int v1)] [] μ := by
  unfold fX10_sayFrame at h
  refine g_aload_n C dX10_sayFrame_0 0 rfl ?_
  refine g_aload_n C dX10_sayFrame_1 0 rfl ?_
  refine g_geti (j := 6) C s_a0 (by decide) rfl uwX10 (by decide) rfl lfX10_66 rfl dX10_sayFrame_2 ?_
  refine g_iload_n C dX10_sayFrame_5 1 rfl ?_
  refine g_bipush (v := 7) C dX10_sayFrame_6 (by decide) ?_
  obtain ⟨x1, e_x1, h⟩ := bs h
  refine g_callVI C (kX10_field s_a0 e_x1) miX10_field lmX10_73 s_a0 (by decide) rfl rfl rfl (Nat.le_of_ble_eq_true rfl) dX10_sayFrame_8 ⟨by decide, by decide⟩ ⟨Nat.zero_le _, Nat.zero_le _⟩ ?_
  refine g_istore_n (lv' := [(2, .int x1), (0, .ref a0), (1, .int v1)]) C dX10_sayFrame_11 (by decide) rfl ?_
  refine g_aload_n C dX10_sayFrame_12 1 rfl ?_
  refine g_bipush (v := 33) C dX10_sayFrame_13 (by decide) ?_
  obtain ⟨μ2, e_μ2, h⟩ := bs h
  refine g_callVV C (kX10_say s_a0 e_μ2) miX10_say lmX10_240 s_a0 (by decide) rfl rfl rfl (Nat.le_of_ble_eq_true rfl) dX10_sayFrame_15 ⟨by decide, by decide⟩ ⟨Nat.zero_le _, Nat.zero_le _⟩ ?_
  refine g_aload_n C dX10_sayFrame_18 1 rfl ?_
  refine g_sipush (v := 249) C dX10_sayFrame_19 (by decide) ?_
  obtain ⟨μ3, e_μ3, h⟩ := bs h
  refine g_callVV C (kX10_say s_a0 e_μ3) miX10_say lmX10_240 s_a0 (by decide) rfl rfl rfl (Nat.le_of_ble_eq_true rfl) dX10_sayFrame_22 ⟨by decide, by decide⟩ ⟨Nat.zero_le _, Nat.zero_le _⟩ ?_
  refine g_aload_n C dX10_sayFrame_25 1 rfl ?_
  refine g_iconst (v := 4) C dX10_sayFrame_26 (by decide) ?_
  obtain ⟨μ4, e_μ4, h⟩ := bs h
  refine g_callVV C (kX10_say s_a0 e_μ4) miX10_say lmX10_240 s_a0 (by decide) rfl rfl rfl (Nat.le_of_ble_eq_true rfl) dX10_sayFrame_27 ⟨by decide, by decide⟩ ⟨Nat.zero_le _, Nat.zero_le _⟩ ?_
  refine g_aload_n C dX10_sayFrame_30 1 rfl ?_
  refine g_aload_n C dX10_sayFrame_31 1 rfl ?_
  refine g_aload_n C dX10_sayFrame_32 1 rfl ?_
  refine g_geti (j := 6) C s_a0 (by decide) rfl uwX10 (by decide) rfl lfX10_66 rfl dX10_sayFrame_33 ?_
  refine g_iload_n C dX10_sayFrame_36 2 rfl ?_
  refine g_bipush (v := 6) C dX10_sayFrame_37 (by decide) ?_
  obtain ⟨x5, e_x5, h⟩ := bs h
  refine g_callVI C (kX10_field s_a0 e_x5) miX10_field lmX10_73 s_a0 (by decide) rfl rfl rfl (Nat.le_of_ble_eq_true rfl) dX10_sayFrame_39 ⟨by decide, by decide⟩ ⟨Nat.zero_le _, Nat.zero_le _⟩ ?_
  refine g_iconst (v := 2) C dX10_sayFrame_42 (by decide) ?_
  refine g_ishl C dX10_sayFrame_43 ?_
  refine g_aload_n C dX10_sayFrame_44 1 rfl ?_
  refine g_aload_n C dX10_sayFrame_45 1 rfl ?_
  refine g_geti (j := 6) C s_a0 (by decide) rfl uwX10 (by decide) rfl lfX10_66 rfl dX10_sayFrame_46 ?_
  refine g_iload_n C dX10_sayFrame_49 2 rfl ?_
  refine g_bipush (v := 9) C dX10_sayFrame_50 (by decide) ?_
  obtain ⟨x6, e_x6, h⟩ := bs h
  refine g_callVI C (kX10_field s_a0 e_x6) miX10_field lmX10_73 s_a0 (by decide) rfl rfl rfl (Nat.le_of_ble_eq_true rfl) dX10_sayFrame_52 ⟨by decide, by decide⟩ ⟨Nat.zero_le _, Nat.zero_le _⟩ ?_
  refine g_iconst (v := 1) C dX10_sayFrame_55 (by decide) ?_
  refine g_ishl C dX10_sayFrame_56 ?_
  refine g_ior C dX10_sayFrame_57 ?_
  refine g_iload_n C dX10_sayFrame_58 0 rfl ?_
  refine g_if_ge C 66 dX10_sayFrame_59 rfl (fun q => ?_) (fun q => ?_)
  · replace h := ip q h
    refine g_iconst (v := 1) C dX10_sayFrame_66 (by decide) ?_
    exact g_lv [1, 2, 0] rfl (wX10_sayFrame_L67 C _ _ _ _ _ _ _ s_a0 s_a0 h)
  · replace h := iq q h
    refine g_iconst (v := 0) C dX10_sayFrame_62 (by decide) ?_
    refine g_goto C 67 dX10_sayFrame_63 rfl ?_
    exact g_lv [1, 2, 0] rfl (wX10_sayFrame_L67 C _ _ _ _ _ _ _ s_a0 s_a0 h)
theorem miX10_sayFrame : MI yX10_sayFrame cX10_sayFrame 5 none RX10 1 := ⟨wcX10_sayFrame, wmX10_sayFrame, wsX10_sayFrame, wiX10, by decide +kernel⟩
theorem kX10_sayFrame {l : Launch} {D : va_G} {cA : Nat → ClassId} {tS : Nat → Nat} {σ : Sg} {a0 : Nat} {v1 : Int32} {μ : Mm} {fu : Nat} {q : Mm} (s_a0 : σ a0 = some (10, 0)) (h : fX10_sayFrame fu a0 v1 μ = some q) : Ct l D cA tS σ yX10_sayFrame cX10_sayFrame 5 none (rmO 6 151) [.ref a0, .int v1] μ (QV D cA σ q) :=
  Ct.of (by decide) (Nat.le_of_ble_eq_true rfl) (fun _ _ _ _ _ _ _ _ C => wX10_sayFrame C _ _ _ s_a0 h)
