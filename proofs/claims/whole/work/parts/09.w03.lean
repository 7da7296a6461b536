set_option maxRecDepth 100000 in
set_option maxHeartbeats 4000000 in
theorem wX6_putScreen_B2 {p : Program} {l : Launch} {e : Env} {s : State} {m : MethodId} {args : Array Value} {below : List Frame} {meth : Method} {c : Code} {D : va_G} {cA : Nat → ClassId} {tS : Nat → Nat} {σ : Sg} {rec2 : Nat → Nat → Int32 → Mm → Option (Mm)} {fu : Nat} {q : Mm} (C : Cx p s m args meth c (dm σ) D cA tS σ cX6_putScreen none 3 RX6) (hrec2 : ∀ (y0 : Nat) (y1 : Nat) (y2 : Int32) (μ : Mm), σ y0 = some (6, 0) → σ y1 = some (4, 0) → rec2 y0 y1 y2 μ = some q → GG p l e (rmO 3 61) s m args below meth c 0 0 (dm σ) D cA σ 3 (MQ below (QV D cA σ q) args s 0 0 (dm σ)) 2 [(0, .ref y0), (1, .ref y1), (2, .int y2)] [] μ) (a0 : Nat) (a1 : Nat) (v2 : Int32) (μ : Mm) (s_a0 : σ a0 = some (6, 0)) (s_a1 : σ a1 = some (4, 0)) (h : fX6_putScreen_B2 rec2 fu a0 a1 v2 μ = some q) : GG p l e (rmO 3 61) s m args below meth c 0 0 (dm σ) D cA σ 3 (MQ below (QV D cA σ q) args s 0 0 (dm σ)) 2 [(0, .ref a0), (1, .ref a1), (2, .int v2)] [] μ := by
  unfold fX6_putScreen_B2 at h
  refine g_iload_n C dX6_putScreen_2 2 rfl ?_
  refine g_gets (x := 0) C (fun k => k.2.2.2.1.1) lfX6_80 dX6_putScreen_3 ?_
  refine g_slen (x := 0) (v := 6) C (fun k => k.2.2.2.1.2) (by decide) dX6_putScreen_6 ?_
  refine g_icmp_ge C 28 dX6_putScreen_7 rfl (fun q => ?_) (fun q => ?_)
  · replace h := ip q h
    refine g_aload_n C dX6_putScreen_28 0 rfl ?_
    refine g_wt (fun hT_μ => ?_)
    refine g_getr (j := 1) C s_a0 (by decide) rfl uwX6 (by decide) rfl lfX6_21 rfl dX6_putScreen_29 ?_
    refine g_aload_n C dX6_putScreen_32 1 rfl ?_
    refine g_geti (j := 0) C s_a1 (by decide) rfl uwX4 (by decide) rfl lfX6_84 rfl dX6_putScreen_33 ?_
    obtain ⟨μ1, e_μ1, h⟩ := bs h
    refine g_callVV C (kX0_addTwo (hT_μ.1 _ _ 1 _ s_a0 rfl) e_μ1) miX0_addTwo lmX6_87 (hT_μ.1 _ _ 1 _ s_a0 rfl) (by decide) rfl rfl rfl (Nat.le_of_ble_eq_true rfl) dX6_putScreen_36 ⟨by decide, by decide⟩ ⟨Nat.zero_le _, Nat.zero_le _⟩ ?_
    refine g_aload_n C dX6_putScreen_39 0 rfl ?_
    refine g_wt (fun hT_μ1 => ?_)
    refine g_getr (j := 1) C s_a0 (by decide) rfl uwX6 (by decide) rfl lfX6_21 rfl dX6_putScreen_40 ?_
    refine g_aload_n C dX6_putScreen_43 1 rfl ?_
    refine g_geti (j := 1) C s_a1 (by decide) rfl uwX4 (by decide) rfl lfX6_90 rfl dX6_putScreen_44 ?_
    obtain ⟨μ2, e_μ2, h⟩ := bs h
    refine g_callVV C (kX0_addTwo (hT_μ1.1 _ _ 1 _ s_a0 rfl) e_μ2) miX0_addTwo lmX6_87 (hT_μ1.1 _ _ 1 _ s_a0 rfl) (by decide) rfl rfl rfl (Nat.le_of_ble_eq_true rfl) dX6_putScreen_47 ⟨by decide, by decide⟩ ⟨Nat.zero_le _, Nat.zero_le _⟩ ?_
    refine g_aload_n C dX6_putScreen_50 0 rfl ?_
    refine g_wt (fun hT_μ2 => ?_)
    refine g_getr (j := 1) C s_a0 (by decide) rfl uwX6 (by decide) rfl lfX6_21 rfl dX6_putScreen_51 ?_
    refine g_aload_n C dX6_putScreen_54 1 rfl ?_
    refine g_getr (j := 5) C s_a1 (by decide) rfl uwX4 (by decide) rfl lfX6_93 rfl dX6_putScreen_55 ?_
    obtain ⟨x3, e_x3, h⟩ := nm h
    refine g_callVI C (kX7_mark (hT_μ2.1 _ _ 5 _ s_a1 rfl) e_x3.symm) miX7_mark lmX6_97 (hT_μ2.1 _ _ 5 _ s_a1 rfl) (by decide) rfl rfl rfl (Nat.le_of_ble_eq_true rfl) dX6_putScreen_58 ⟨by decide, by decide⟩ ⟨Nat.zero_le _, Nat.zero_le _⟩ ?_
    refine g_bipush (v := 112) C dX6_putScreen_61 (by decide) ?_
    refine g_iadd C dX6_putScreen_63 ?_
    obtain ⟨μ4, e_μ4, h⟩ := bs h
    refine g_callVV C (kX0_add (hT_μ2.1 _ _ 1 _ s_a0 rfl) e_μ4) miX0_add lmX6_76 (hT_μ2.1 _ _ 1 _ s_a0 rfl) (by decide) rfl rfl rfl (Nat.le_of_ble_eq_true rfl) dX6_putScreen_64 ⟨by decide, by decide⟩ ⟨Nat.zero_le _, Nat.zero_le _⟩ ?_
    refine g_aload_n C dX6_putScreen_67 0 rfl ?_
    refine g_wt (fun hT_μ4 => ?_)
    refine g_getr (j := 1) C s_a0 (by decide) rfl uwX6 (by decide) rfl lfX6_21 rfl dX6_putScreen_68 ?_
    refine g_aload_n C dX6_putScreen_71 1 rfl ?_
    refine g_geti (j := 2) C s_a1 (by decide) rfl uwX4 (by decide) rfl lfX6_100 rfl dX6_putScreen_72 ?_
    obtain ⟨μ5, e_μ5, h⟩ := bs h
    refine g_callVV C (kX0_add (hT_μ4.1 _ _ 1 _ s_a0 rfl) e_μ5) miX0_add lmX6_76 (hT_μ4.1 _ _ 1 _ s_a0 rfl) (by decide) rfl rfl rfl (Nat.le_of_ble_eq_true rfl) dX6_putScreen_75 ⟨by decide, by decide⟩ ⟨Nat.zero_le _, Nat.zero_le _⟩ ?_
    refine g_aload_n C dX6_putScreen_78 0 rfl ?_
    refine g_wt (fun hT_μ5 => ?_)
    refine g_getr (j := 1) C s_a0 (by decide) rfl uwX6 (by decide) rfl lfX6_21 rfl dX6_putScreen_79 ?_
    refine g_aload_n C dX6_putScreen_82 1 rfl ?_
    refine g_geti (j := 3) C s_a1 (by decide) rfl uwX4 (by decide) rfl lfX6_103 rfl dX6_putScreen_83 ?_
    obtain ⟨μ6, e_μ6, h⟩ := bs h
    refine g_callVV C (kX0_add (hT_μ5.1 _ _ 1 _ s_a0 rfl) e_μ6) miX0_add lmX6_76 (hT_μ5.1 _ _ 1 _ s_a0 rfl) (by decide) rfl rfl rfl (Nat.le_of_ble_eq_true rfl) dX6_putScreen_86 ⟨by decide, by decide⟩ ⟨Nat.zero_le _, Nat.zero_le _⟩ ?_
    refine g_aload_n C dX6_putScreen_89 0 rfl ?_
    refine g_aload_n C dX6_putScreen_90 1 rfl ?_
    refine g_wt (fun hT_μ6 => ?_)
    refine g_getr (j := 5) C s_a1 (by decide) rfl uwX4 (by decide) rfl lfX6_93 rfl dX6_putScreen_91 ?_
    obtain ⟨μ7, e_μ7, h⟩ := bs h
    refine g_callVV C (kX6_putTable s_a0 (hT_μ6.1 _ _ 5 _ s_a1 rfl) e_μ7) miX6_putTable lmX6_106 s_a0 (by decide) rfl rfl rfl (Nat.le_of_ble_eq_true rfl) dX6_putScreen_94 ⟨by decide, by decide⟩ ⟨Nat.zero_le _, Nat.zero_le _⟩ ?_
    cases h
    exact g_return C dX6_putScreen_97
  · replace h := iq q h
    refine g_aload_n C dX6_putScreen_10 0 rfl ?_
    refine g_wt (fun hT_μ => ?_)
    refine g_getr (j := 1) C s_a0 (by decide) rfl uwX6 (by decide) rfl lfX6_21 rfl dX6_putScreen_11 ?_
    refine g_gets (x := 0) C (fun k => k.2.2.2.1.1) lfX6_80 dX6_putScreen_14 ?_
    refine g_iload_n C dX6_putScreen_17 2 rfl ?_
    obtain ⟨hg, h⟩ := gs h
    refine g_sald (x := 0) C (fun k => k.2.2.2.1.2) (ib_in hg) dX6_putScreen_18 ?_
    obtain ⟨μ8, e_μ8, h⟩ := bs h
    refine g_callVV C (kX0_add (hT_μ.1 _ _ 1 _ s_a0 rfl) e_μ8) miX0_add lmX6_76 (hT_μ.1 _ _ 1 _ s_a0 rfl) (by decide) rfl rfl rfl (Nat.le_of_ble_eq_true rfl) dX6_putScreen_19 ⟨by decide, by decide⟩ ⟨Nat.zero_le _, Nat.zero_le _⟩ ?_
    obtain ⟨x9, e_x9, h⟩ := nm h
    refine g_iinc (v := x9) (lv' := [(2, .int x9), (0, .ref a0), (1, .ref a1)]) C dX6_putScreen_22 (by decide) 2 rfl 1 (by decide) e_x9.symm rfl ?_
    refine g_goto C 2 dX6_putScreen_25 rfl ?_
    exact g_lv [1, 2, 0] rfl (hrec2 _ _ _ _ s_a0 s_a1 h)
theorem wX6_putScreen_L2 {p : Program} {l : Launch} {e : Env} {s : State} {m : MethodId} {args : Array Value} {below : List Frame} {meth : Method} {c : Code} {D : va_G} {cA : Nat → ClassId} {tS : Nat → Nat} {σ : Sg} {fu : Nat} {q : Mm} (C : Cx p s m args meth c (dm σ) D cA tS σ cX6_putScreen none 3 RX6) : ∀ (n : Nat) (a0 : Nat) (a1 : Nat) (v2 : Int32) (μ : Mm), (σ a0 = some (6, 0)) → (σ a1 = some (4, 0)) → fX6_putScreen_L2 fu n a0 a1 v2 μ = some q → GG p l e (rmO 3 61) s m args below meth c 0 0 (dm σ) D cA σ 3 (MQ below (QV D cA σ q) args s 0 0 (dm σ)) 2 [(0, .ref a0), (1, .ref a1), (2, .int v2)] [] μ := by
  intro n
  induction n with
  | zero => intro a0 a1 v2 μ s_a0 s_a1 h; cases h
  | succ n ih => intro a0 a1 v2 μ s_a0 s_a1 h; exact wX6_putScreen_B2 C (fun _ _ _ _ k0 k1 h => ih _ _ _ _ k0 k1 h) _ _ _ _ s_a0 s_a1 h
set_option maxRecDepth 100000 in
set_option maxHeartbeats 4000000 in
theorem wX6_putScreen {p : Program} {l : Launch} {e : Env} {s : State} {m : MethodId} {args : Array Value} {below : List Frame} {meth : Method} {c : Code} {D : va_G} {cA : Nat → ClassId} {tS : Nat → Nat} {σ : Sg} {fu : Nat} {q : Mm} (C : Cx p s m args meth c (dm σ) D cA tS σ cX6_putScreen none 3 RX6) (a0 : Nat) (a1 : Nat) (μ : Mm) (s_a0 : σ a0 = some (6, 0)) (s_a1 : σ a1 = some (4, 0)) (h : fX6_putScreen fu a0 a1 μ = some q) : GG p l e (rmO 3 61) s m args below meth c 0 0 (dm σ) D cA σ 3 (MQ below (QV D cA σ q) args s 0 0 (dm σ)) 0 [(0, .ref a0), (1, .ref a1)] [] μ := by
  unfold fX6_putScreen at h
  refine g_iconst (v := 0) C dX6_putScreen_0 (by decide) ?_
  refine g_istore_n (lv' := [(2, .int 0), (0, .ref a0), (1, .ref a1)]) C dX6_putScreen_1 (by decide) rfl ?_
  exact g_lv [1, 2, 0] rfl (wX6_putScreen_L2 C fu _ _ _ _ s_a0 s_a1 h)
theorem miX6_putScreen : MI yX6_putScreen cX6_putScreen 3 none RX6 1 := ⟨wcX6_putScreen, wmX6_putScreen, wsX6_putScreen, wiX6, by decide +kernel⟩
theorem kX6_putScreen {l : Launch} {D : va_G} {cA : Nat → ClassId} {tS : Nat → Nat} {σ : Sg} {a0 : Nat} {a1 : Nat} {μ : Mm} {fu : Nat} {q : Mm} (s_a0 : σ a0 = some (6, 0)) (s_a1 : σ a1 = some (4, 0)) (h : fX6_putScreen fu a0 a1 μ = some q) : Ct l D cA tS σ yX6_putScreen cX6_putScreen 3 none (rmO 3 61) [.ref a0, .ref a1] μ (QV D cA σ q) :=
  Ct.of (by decide) (Nat.le_of_ble_eq_true rfl) (fun _ _ _ _ _ _ _ _ C => wX6_putScreen C _ _ _ s_a0 s_a1 h)
set_option maxRecDepth 100000 in
set_option maxHeartbeats 4000000 in
theorem wX6_compose_L70 {p : Program} {l : Launch} {e : Env} {s : State} {m : MethodId} {args : Array Value} {below : List Frame} {meth : Method} {c : Code} {D : va_G} {cA : Nat → ClassId} {tS : Nat → Nat} {σ : Sg} {fu : Nat} {q : Int32 × Mm} (C : Cx p s m args meth c (dm σ) D cA tS σ cX6_compose (some .boolean) 4 RX6) (a0 : Nat) (μ : Mm) (s_a0 : σ a0 = some (6, 0)) (h : fX6_compose_L70 fu a0 μ = some q) : GG p l e (rmO 5 114) s m args below meth c 0 0 (dm σ) D cA σ 4 (MQ below (QI D cA σ q.1 q.2) args s 0 0 (dm σ)) 70 [(0, .ref a0)] [] μ := by
  unfold fX6_compose_L70 at h
  refine g_aload_n C dX6_compose_70 0 rfl ?_
  refine g_wt (fun hT_μ => ?_)
  refine g_getr (j := 1) C s_a0 (by decide) rfl uwX6 (by decide) rfl lfX6_21 rfl dX6_compose_71 ?_
  refine g_bipush (v := 59) C dX6_compose_74 (by decide) ?_
  obtain ⟨μ1, e_μ1, h⟩ := bs h
  refine g_callVV C (kX0_add (hT_μ.1 _ _ 1 _ s_a0 rfl) e_μ1) miX0_add lmX6_76 (hT_μ.1 _ _ 1 _ s_a0 rfl) (by decide) rfl rfl rfl (Nat.le_of_ble_eq_true rfl) dX6_compose_76 ⟨by decide, by decide⟩ ⟨Nat.zero_le _, Nat.zero_le _⟩ ?_
  refine g_aload_n C dX6_compose_79 0 rfl ?_
  refine g_wt (fun hT_μ1 => ?_)
  refine g_getr (j := 1) C s_a0 (by decide) rfl uwX6 (by decide) rfl lfX6_21 rfl dX6_compose_80 ?_
  refine g_geti (j := 2) C (hT_μ1.1 _ _ 1 _ s_a0 rfl) (by decide) rfl uwX0 (by decide) rfl lfX6_38 rfl dX6_compose_83 ?_
  refine g_if_ne C 93 dX6_compose_86 rfl (fun q => ?_) (fun q => ?_)
  · replace h := iq q h
    refine g_iconst (v := 0) C dX6_compose_93 (by decide) ?_
    cases h
    exact g_zreturn (r := 0) C rfl dX6_compose_94
  · replace h := ip q h
    refine g_iconst (v := 1) C dX6_compose_89 (by decide) ?_
    refine g_goto C 94 dX6_compose_90 rfl ?_
    cases h
    exact g_zreturn (r := 1) C rfl dX6_compose_94
set_option maxRecDepth 100000 in
set_option maxHeartbeats 4000000 in
theorem wX6_compose_B14 {p : Program} {l : Launch} {e : Env} {s : State} {m : MethodId} {args : Array Value} {below : List Frame} {meth : Method} {c : Code} {D : va_G} {cA : Nat → ClassId} {tS : Nat → Nat} {σ : Sg} {rec14 : Nat → Nat → Int32 → Mm → Option (Int32 × Mm)} {fu : Nat} {q : Int32 × Mm} (C : Cx p s m args meth c (dm σ) D cA tS σ cX6_compose (some .boolean) 4 RX6) (hrec14 : ∀ (y0 : Nat) (y1 : Nat) (y2 : Int32) (μ : Mm), σ y0 = some (6, 0) → σ y1 = some (4, 0) → rec14 y0 y1 y2 μ = some q → GG p l e (rmO 5 114) s m args below meth c 0 0 (dm σ) D cA σ 4 (MQ below (QI D cA σ q.1 q.2) args s 0 0 (dm σ)) 14 [(0, .ref y0), (1, .ref y1), (2, .int y2)] [] μ) (a0 : Nat) (a1 : Nat) (v2 : Int32) (μ : Mm) (s_a0 : σ a0 = some (6, 0)) (s_a1 : σ a1 = some (4, 0)) (h : fX6_compose_B14 rec14 fu a0 a1 v2 μ = some q) : GG p l e (rmO 5 114) s m args below meth c 0 0 (dm σ) D cA σ 4 (MQ below (QI D cA σ q.1 q.2) args s 0 0 (dm σ)) 14 [(0, .ref a0), (1, .ref a1), (2, .int v2)] [] μ := by
  unfold fX6_compose_B14 at h
  refine g_iload_n C dX6_compose_14 2 rfl ?_
  refine g_aload_n C dX6_compose_15 1 rfl ?_
  refine g_geti (j := 4) C s_a1 (by decide) rfl uwX4 (by decide) rfl lfX6_32 rfl dX6_compose_16 ?_
  refine g_icmp_ge C 70 dX6_compose_19 rfl (fun q => ?_) (fun q => ?_)
  · replace h := ip q h
    exact g_lv [0] rfl (wX6_compose_L70 C _ _ s_a0 h)
  · replace h := iq q h
    refine g_aload_n C dX6_compose_22 0 rfl ?_
    refine g_wt (fun hT_μ => ?_)
    refine g_getr (j := 1) C s_a0 (by decide) rfl uwX6 (by decide) rfl lfX6_21 rfl dX6_compose_23 ?_
    refine g_geti (j := 2) C (hT_μ.1 _ _ 1 _ s_a0 rfl) (by decide) rfl uwX0 (by decide) rfl lfX6_38 rfl dX6_compose_26 ?_
    refine g_if_ne C 70 dX6_compose_29 rfl (fun q => ?_) (fun q => ?_)
    · replace h := iq q h
      exact g_lv [0] rfl (wX6_compose_L70 C _ _ s_a0 h)
    · replace h := ip q h
      refine g_aload_n C dX6_compose_32 1 rfl ?_
      refine g_getr (j := 6) C s_a1 (by decide) rfl uwX4 (by decide) rfl lfX6_42 rfl dX6_compose_33 ?_
      refine g_iload_n C dX6_compose_36 2 rfl ?_
      obtain ⟨hg1, h⟩ := gs h
      refine g_aald C (hT_μ.1 _ _ 6 _ s_a1 rfl) (ib_in hg1) dX6_compose_37 ?_
      obtain ⟨r2, e_r2, h⟩ := nm h
      refine g_topr e_r2 ?_
      have s_r2 : σ r2 = some (3, 0) := by rw [e_r2]; exact (hT_μ.2 _ _ _ (hT_μ.1 _ _ 6 _ s_a1 rfl) (ib_lt hg1))
      refine g_astore_n (lv' := [(3, .ref r2), (0, .ref a0), (1, .ref a1), (2, .int v2)]) C dX6_compose_38 (by decide) rfl ?_
      refine g_aload_n C dX6_compose_39 1 rfl ?_
      refine g_aload_n C dX6_compose_40 0 rfl ?_
      refine g_getr (j := 6) C s_r2 (by decide) rfl uwX3 (by decide) rfl lfX6_46 rfl dX6_compose_41 ?_
      obtain ⟨μ3, e_μ3, h⟩ := bs h
      refine g_callVV C (kX6_putControl s_a0 (hT_μ.1 _ _ 6 _ s_r2 rfl) e_μ3) miX6_putControl lmX6_52 s_a0 (by decide) rfl rfl rfl (Nat.le_of_ble_eq_true rfl) dX6_compose_44 ⟨by decide, by decide⟩ ⟨Nat.zero_le _, Nat.zero_le _⟩ ?_
      refine g_aload_n C dX6_compose_47 1 rfl ?_
      refine g_aload_n C dX6_compose_48 0 rfl ?_
      refine g_aload_n C dX6_compose_49 2 rfl ?_
      refine g_aload_n C dX6_compose_50 0 rfl ?_
      obtain ⟨r4, e_r4, h⟩ := nm h
      refine g_callVQ C (kX4_tableOf s_a1 s_r2 e_r4.symm) miX4_tableOf lmX6_56 s_a1 (by decide) rfl rfl rfl (Nat.le_of_ble_eq_true rfl) dX6_compose_51 ⟨by decide, by decide⟩ ⟨Nat.zero_le _, Nat.zero_le _⟩ (fun hs_r4 => ?_)
      obtain ⟨x5, e_x5, h⟩ := nm h
      refine g_callVI C (kX7_power (hs_r4 _ rfl) e_x5.symm) miX7_power lmX6_60 (hs_r4 _ rfl) (by decide) rfl rfl rfl (Nat.le_of_ble_eq_true rfl) dX6_compose_54 ⟨by decide, by decide⟩ ⟨Nat.zero_le _, Nat.zero_le _⟩ ?_
      refine g_iconst (v := 2) C dX6_compose_57 (by decide) ?_
      refine g_mmax C lmX6_66 wcJ9_max_7cf53 wtJ9_max_7cf53 wiJ9 ⟨by decide, Nat.le_of_ble_eq_true rfl, Nat.zero_le _, Nat.zero_le _⟩ dX6_compose_58 ?_
      obtain ⟨μ6, e_μ6, h⟩ := bs h
      refine g_callVV C (kX6_putImage s_a0 s_r2 e_μ6) miX6_putImage lmX6_72 s_a0 (by decide) rfl rfl rfl (Nat.le_of_ble_eq_true rfl) dX6_compose_61 ⟨by decide, by decide⟩ ⟨Nat.zero_le _, Nat.zero_le _⟩ ?_
      obtain ⟨x7, e_x7, h⟩ := nm h
      refine g_iinc (v := x7) (lv' := [(2, .int x7), (3, .ref r2), (0, .ref a0), (1, .ref a1)]) C dX6_compose_64 (by decide) 3 rfl 1 (by decide) e_x7.symm rfl ?_
      refine g_goto C 14 dX6_compose_67 rfl ?_
      exact g_lv [2, 3, 0] rfl (hrec14 _ _ _ _ s_a0 s_a1 h)
theorem wX6_compose_L14 {p : Program} {l : Launch} {e : Env} {s : State} {m : MethodId} {args : Array Value} {below : List Frame} {meth : Method} {c : Code} {D : va_G} {cA : Nat → ClassId} {tS : Nat → Nat} {σ : Sg} {fu : Nat} {q : Int32 × Mm} (C : Cx p s m args meth c (dm σ) D cA tS σ cX6_compose (some .boolean) 4 RX6) : ∀ (n : Nat) (a0 : Nat) (a1 : Nat) (v2 : Int32) (μ : Mm), (σ a0 = some (6, 0)) → (σ a1 = some (4, 0)) → fX6_compose_L14 fu n a0 a1 v2 μ = some q → GG p l e (rmO 5 114) s m args below meth c 0 0 (dm σ) D cA σ 4 (MQ below (QI D cA σ q.1 q.2) args s 0 0 (dm σ)) 14 [(0, .ref a0), (1, .ref a1), (2, .int v2)] [] μ := by
  intro n
  induction n with
  | zero => intro a0 a1 v2 μ s_a0 s_a1 h; cases h
  | succ n ih => intro a0 a1 v2 μ s_a0 s_a1 h; exact wX6_compose_B14 C (fun _ _ _ _ k0 k1 h => ih _ _ _ _ k0 k1 h) _ _ _ _ s_a0 s_a1 h
set_option maxRecDepth 100000 in
set_option maxHeartbeats 4000000 in
theorem wX6_compose {p : Program} {l : Launch} {e : Env} {s : State} {m : MethodId} {args : Array Value} {below : List Frame} {meth : Method} {c : Code} {D : va_G} {cA : Nat → ClassId} {tS : Nat → Nat} {σ : Sg} {fu : Nat} {q : Int32 × Mm} (C : Cx p s m args meth c (dm σ) D cA tS σ cX6_compose (some .boolean) 4 RX6) (a0 : Nat) (a1 : Nat) (μ : Mm) (s_a0 : σ a0 = some (6, 0)) (s_a1 : σ a1 = some (4, 0)) (h : fX6_compose fu a0 a1 μ = some q) : GG p l e (rmO 5 114) s m args below meth c 0 0 (dm σ) D cA σ 4 (MQ below (QI D cA σ q.1 q.2) args s 0 0 (dm σ)) 0 [(0, .ref a0), (1, .ref a1)] [] μ := by
  unfold fX6_compose at h
  refine g_aload_n C dX6_compose_0 0 rfl ?_
  refine g_wt (fun hT_μ => ?_)
  refine g_getr (j := 1) C s_a0 (by decide) rfl uwX6 (by decide) rfl lfX6_21 rfl dX6_compose_1 ?_
  obtain ⟨μ1, e_μ1, h⟩ := nm h
  refine g_callVV C (kX0_clear (hT_μ.1 _ _ 1 _ s_a0 rfl) e_μ1.symm) miX0_clear lmX6_25 (hT_μ.1 _ _ 1 _ s_a0 rfl) (by decide) rfl rfl rfl (Nat.le_of_ble_eq_true rfl) dX6_compose_4 ⟨by decide, by decide⟩ ⟨Nat.zero_le _, Nat.zero_le _⟩ ?_
  refine g_aload_n C dX6_compose_7 0 rfl ?_
  refine g_aload_n C dX6_compose_8 1 rfl ?_
  obtain ⟨μ2, e_μ2, h⟩ := bs h
  refine g_callVV C (kX6_putScreen s_a0 s_a1 e_μ2) miX6_putScreen lmX6_28 s_a0 (by decide) rfl rfl rfl (Nat.le_of_ble_eq_true rfl) dX6_compose_9 ⟨by decide, by decide⟩ ⟨Nat.zero_le _, Nat.zero_le _⟩ ?_
  refine g_iconst (v := 0) C dX6_compose_12 (by decide) ?_
  refine g_istore_n (lv' := [(2, .int 0), (0, .ref a0), (1, .ref a1)]) C dX6_compose_13 (by decide) rfl ?_
  exact g_lv [1, 2, 0] rfl (wX6_compose_L14 C fu _ _ _ _ s_a0 s_a1 h)
theorem miX6_compose : MI yX6_compose cX6_compose 4 (some .boolean) RX6 1 := ⟨wcX6_compose, wmX6_compose, wsX6_compose, wiX6, by decide +kernel⟩
theorem kX6_compose {l : Launch} {D : va_G} {cA : Nat → ClassId} {tS : Nat → Nat} {σ : Sg} {a0 : Nat} {a1 : Nat} {μ : Mm} {fu : Nat} {q : Int32 × Mm} (s_a0 : σ a0 = some (6, 0)) (s_a1 : σ a1 = some (4, 0)) (h : fX6_compose fu a0 a1 μ = some q) : Ct l D cA tS σ yX6_compose cX6_compose 4 (some .boolean) (rmO 5 114) [.ref a0, .ref a1] μ (QI D cA σ q.1 q.2) :=
  Ct.of (by decide) (Nat.le_of_ble_eq_true rfl) (fun _ _ _ _ _ _ _ _ C => wX6_compose C _ _ _ s_a0 s_a1 h)
set_option maxRecDepth 100000 in
set_option maxHeartbeats 4000000 in
theorem wX9_feed {p : Program} {l : Launch} {e : Env} {s : State} {m : MethodId} {args : Array Value} {below : List Frame} {meth : Method} {c : Code} {D : va_G} {cA : Nat → ClassId} {tS : Nat → Nat} {σ : Sg} {q : Int32 × Mm} (C : Cx p s m args meth c (dm σ) D cA tS σ cX9_feed (some .int) 6 RX9) (a0 : Nat) (v1 : Int32) (v2 : Int32) (v3 : Int32) (v4 : Int32) (v5 : Int32) (μ : Mm) (s_a0 : σ a0 = some (9, 0)) (h : fX9_feed a0 v1 v2 v3 v4 v5 μ = some q) : GG p l e (rmO 2 42) s m args below meth c 0 0 (dm σ) D cA σ 6 (MQ below (QI D cA σ q.1 q.2) args s 0 0 (dm σ)) 0 [(0, .ref a0), (1, .int v1), (2, .int v2), (3, .int v3), (4, .int v4), (5, .int v5)] [] μ := by
  unfold fX9_feed at h
  refine g_aload_n C dX9_feed_0 0 rfl ?_
  refine g_wt (fun hT_μ => ?_)
  refine g_getr (j := 0) C s_a0 (by decide) rfl uwX9 (by decide) rfl lfX9_20 rfl dX9_feed_1 ?_
  refine g_geti (j := 1) C (hT_μ.1 _ _ 0 _ s_a0 rfl) (by decide) rfl uwX0 (by decide) rfl lfX9_47 rfl dX9_feed_4 ?_
  refine g_sipush (v := 11980) C dX9_feed_7 (by decide) ?_
  refine g_icmp_le C 15 dX9_feed_10 rfl (fun q => ?_) (fun q => ?_)
  · replace h := ip q h
    refine g_aload_n C dX9_feed_15 0 rfl ?_
    refine g_getr (j := 0) C s_a0 (by decide) rfl uwX9 (by decide) rfl lfX9_20 rfl dX9_feed_16 ?_
    refine g_iload_n C dX9_feed_19 1 rfl ?_
    obtain ⟨μ1, e_μ1, h⟩ := bs h
    refine g_callVV C (kX0_addFour (hT_μ.1 _ _ 0 _ s_a0 rfl) e_μ1) miX0_addFour lmX9_51 (hT_μ.1 _ _ 0 _ s_a0 rfl) (by decide) rfl rfl rfl (Nat.le_of_ble_eq_true rfl) dX9_feed_20 ⟨by decide, by decide⟩ ⟨Nat.zero_le _, Nat.zero_le _⟩ ?_
    refine g_aload_n C dX9_feed_23 0 rfl ?_
    refine g_wt (fun hT_μ1 => ?_)
    refine g_getr (j := 0) C s_a0 (by decide) rfl uwX9 (by decide) rfl lfX9_20 rfl dX9_feed_24 ?_
    refine g_iload_n C dX9_feed_27 2 rfl ?_
    obtain ⟨μ2, e_μ2, h⟩ := bs h
    refine g_callVV C (kX0_addFour (hT_μ1.1 _ _ 0 _ s_a0 rfl) e_μ2) miX0_addFour lmX9_51 (hT_μ1.1 _ _ 0 _ s_a0 rfl) (by decide) rfl rfl rfl (Nat.le_of_ble_eq_true rfl) dX9_feed_28 ⟨by decide, by decide⟩ ⟨Nat.zero_le _, Nat.zero_le _⟩ ?_
    refine g_aload_n C dX9_feed_31 0 rfl ?_
    refine g_wt (fun hT_μ2 => ?_)
    refine g_getr (j := 0) C s_a0 (by decide) rfl uwX9 (by decide) rfl lfX9_20 rfl dX9_feed_32 ?_
    refine g_iload_n C dX9_feed_35 3 rfl ?_
    obtain ⟨μ3, e_μ3, h⟩ := bs h
    refine g_callVV C (kX0_addFour (hT_μ2.1 _ _ 0 _ s_a0 rfl) e_μ3) miX0_addFour lmX9_51 (hT_μ2.1 _ _ 0 _ s_a0 rfl) (by decide) rfl rfl rfl (Nat.le_of_ble_eq_true rfl) dX9_feed_36 ⟨by decide, by decide⟩ ⟨Nat.zero_le _, Nat.zero_le _⟩ ?_
    refine g_aload_n C dX9_feed_39 0 rfl ?_
    refine g_wt (fun hT_μ3 => ?_)
    refine g_getr (j := 0) C s_a0 (by decide) rfl uwX9 (by decide) rfl lfX9_20 rfl dX9_feed_40 ?_
    refine g_iload C dX9_feed_43 4 rfl ?_
    obtain ⟨μ4, e_μ4, h⟩ := bs h
    refine g_callVV C (kX0_addFour (hT_μ3.1 _ _ 0 _ s_a0 rfl) e_μ4) miX0_addFour lmX9_51 (hT_μ3.1 _ _ 0 _ s_a0 rfl) (by decide) rfl rfl rfl (Nat.le_of_ble_eq_true rfl) dX9_feed_45 ⟨by decide, by decide⟩ ⟨Nat.zero_le _, Nat.zero_le _⟩ ?_
    refine g_aload_n C dX9_feed_48 0 rfl ?_
    refine g_wt (fun hT_μ4 => ?_)
    refine g_getr (j := 0) C s_a0 (by decide) rfl uwX9 (by decide) rfl lfX9_20 rfl dX9_feed_49 ?_
    refine g_iload C dX9_feed_52 5 rfl ?_
    obtain ⟨μ5, e_μ5, h⟩ := bs h
    refine g_callVV C (kX0_addFour (hT_μ4.1 _ _ 0 _ s_a0 rfl) e_μ5) miX0_addFour lmX9_51 (hT_μ4.1 _ _ 0 _ s_a0 rfl) (by decide) rfl rfl rfl (Nat.le_of_ble_eq_true rfl) dX9_feed_54 ⟨by decide, by decide⟩ ⟨Nat.zero_le _, Nat.zero_le _⟩ ?_
    refine g_aload_n C dX9_feed_57 0 rfl ?_
    refine g_wt (fun hT_μ5 => ?_)
    refine g_getr (j := 0) C s_a0 (by decide) rfl uwX9 (by decide) rfl lfX9_20 rfl dX9_feed_58 ?_
    refine g_geti (j := 1) C (hT_μ5.1 _ _ 0 _ s_a0 rfl) (by decide) rfl uwX0 (by decide) rfl lfX9_47 rfl dX9_feed_61 ?_
    cases h
    exact g_ireturn C rfl dX9_feed_64
  · replace h := iq q h
    refine g_iconst (v := -1) C dX9_feed_13 (by decide) ?_
    cases h
    exact g_ireturn C rfl dX9_feed_14
theorem miX9_feed : MI yX9_feed cX9_feed 6 (some .int) RX9 5 := ⟨wcX9_feed, wmX9_feed, wsX9_feed, wiX9, by decide +kernel⟩
theorem kX9_feed {l : Launch} {D : va_G} {cA : Nat → ClassId} {tS : Nat → Nat} {σ : Sg} {a0 : Nat} {v1 : Int32} {v2 : Int32} {v3 : Int32} {v4 : Int32} {v5 : Int32} {μ : Mm} {q : Int32 × Mm} (s_a0 : σ a0 = some (9, 0)) (h : fX9_feed a0 v1 v2 v3 v4 v5 μ = some q) : Ct l D cA tS σ yX9_feed cX9_feed 6 (some .int) (rmO 2 42) [.ref a0, .int v1, .int v2, .int v3, .int v4, .int v5] μ (QI D cA σ q.1 q.2) :=
  Ct.of (by decide) (Nat.le_of_ble_eq_true rfl) (fun _ _ _ _ _ _ _ _ C => wX9_feed C _ _ _ _ _ _ _ s_a0 h)
set_option maxRecDepth 100000 in
set_option maxHeartbeats 4000000 in
theorem wX9_take {p : Program} {l : Launch} {e : Env} {s : State} {m : MethodId} {args : Array Value} {below : List Frame} {meth : Method} {c : Code} {D : va_G} {cA : Nat → ClassId} {tS : Nat → Nat} {σ : Sg} {q : Int32 × Mm} (C : Cx p s m args meth c (dm σ) D cA tS σ cX9_take (some .int) 1 RX9) (a0 : Nat) (μ : Mm) (s_a0 : σ a0 = some (9, 0)) (h : fX9_take a0 μ = some q) : GG p l e (rmO 2 61) s m args below meth c 0 0 (dm σ) D cA σ 1 (MQ below (QI D cA σ q.1 q.2) args s 0 0 (dm σ)) 0 [(0, .ref a0)] [] μ := by
  unfold fX9_take at h
  refine g_aload_n C dX9_take_0 0 rfl ?_
  refine g_wt (fun hT_μ => ?_)
  refine g_getr (j := 0) C s_a0 (by decide) rfl uwX9 (by decide) rfl lfX9_20 rfl dX9_take_1 ?_
  refine g_aload_n C dX9_take_4 0 rfl ?_
  refine g_getr (j := 4) C s_a0 (by decide) rfl uwX9 (by decide) rfl lfX9_26 rfl dX9_take_5 ?_
  obtain ⟨μ1, e_μ1, h⟩ := bs h
  refine g_callVV C (kX0_copyFrom (hT_μ.1 _ _ 0 _ s_a0 rfl) (hT_μ.1 _ _ 4 _ s_a0 rfl) e_μ1) miX0_copyFrom lmX9_55 (hT_μ.1 _ _ 0 _ s_a0 rfl) (by decide) rfl rfl rfl (Nat.le_of_ble_eq_true rfl) dX9_take_8 ⟨by decide, by decide⟩ ⟨Nat.zero_le _, Nat.zero_le _⟩ ?_
  refine g_aload_n C dX9_take_11 0 rfl ?_
  refine g_wt (fun hT_μ1 => ?_)
  refine g_getr (j := 0) C s_a0 (by decide) rfl uwX9 (by decide) rfl lfX9_20 rfl dX9_take_12 ?_
  refine g_geti (j := 1) C (hT_μ1.1 _ _ 0 _ s_a0 rfl) (by decide) rfl uwX0 (by decide) rfl lfX9_47 rfl dX9_take_15 ?_
  cases h
  exact g_ireturn C rfl dX9_take_18
theorem miX9_take : MI yX9_take cX9_take 1 (some .int) RX9 0 := ⟨wcX9_take, wmX9_take, wsX9_take, wiX9, by decide +kernel⟩
theorem kX9_take {l : Launch} {D : va_G} {cA : Nat → ClassId} {tS : Nat → Nat} {σ : Sg} {a0 : Nat} {μ : Mm} {q : Int32 × Mm} (s_a0 : σ a0 = some (9, 0)) (h : fX9_take a0 μ = some q) : Ct l D cA tS σ yX9_take cX9_take 1 (some .int) (rmO 2 61) [.ref a0] μ (QI D cA σ q.1 q.2) :=
  Ct.of (by decide) (Nat.le_of_ble_eq_true rfl) (fun _ _ _ _ _ _ _ _ C => wX9_take C _ _ s_a0 h)
set_option maxRecDepth 100000 in
set_option maxHeartbeats 4000000 in
theorem wX9_read {p : Program} {l : Launch} {e : Env} {s : State} {m : MethodId} {args : Array Value} {below : List Frame} {meth : Method} {c : Code} {D : va_G} {cA : Nat → ClassId} {tS : Nat → Nat} {σ : Sg} {fu : Nat} {q : Int32 × Mm} (C : Cx p s m args meth c (dm σ) D cA tS σ cX9_read (some .int) 2 RX9) (a0 : Nat) (v1 : Int32) (μ : Mm) (s_a0 : σ a0 = some (9, 0)) (h : fX9_read fu a0 v1 μ = some q) : GG p l e (rmO 8 191) s m args below meth c 0 0 (dm σ) D cA σ 2 (MQ below (QI D cA σ q.1 q.2) args s 0 0 (dm σ)) 0 [(0, .ref a0), (1, .int v1)] [] μ := by
  unfold fX9_read at h
  refine g_iload_n C dX9_read_0 1 rfl ?_
  refine g_if_lt C 15 dX9_read_1 rfl (fun q => ?_) (fun q => ?_)
  · replace h := ip q h
    refine g_bipush (v := -2) C dX9_read_15 (by decide) ?_
    cases h
    exact g_ireturn C rfl dX9_read_17
  · replace h := iq q h
    refine g_iload_n C dX9_read_4 1 rfl ?_
    refine g_aload_n C dX9_read_5 0 rfl ?_
    refine g_wt (fun hT_μ => ?_)
    refine g_getr (j := 0) C s_a0 (by decide) rfl uwX9 (by decide) rfl lfX9_20 rfl dX9_read_6 ?_
    refine g_geti (j := 1) C (hT_μ.1 _ _ 0 _ s_a0 rfl) (by decide) rfl uwX0 (by decide) rfl lfX9_47 rfl dX9_read_9 ?_
    refine g_icmp_le C 18 dX9_read_12 rfl (fun q => ?_) (fun q => ?_)
    · replace h := ip q h
      refine g_aload_n C dX9_read_18 0 rfl ?_
      refine g_getr (j := 1) C s_a0 (by decide) rfl uwX9 (by decide) rfl lfX9_12 rfl dX9_read_19 ?_
      refine g_iload_n C dX9_read_22 1 rfl ?_
      obtain ⟨μ1, e_μ1, h⟩ := bs h
      refine g_callVV C (kX5_parse (hT_μ.1 _ _ 1 _ s_a0 rfl) e_μ1) miX5_parse lmX9_59 (hT_μ.1 _ _ 1 _ s_a0 rfl) (by decide) rfl rfl rfl (Nat.le_of_ble_eq_true rfl) dX9_read_23 ⟨by decide, by decide⟩ ⟨Nat.zero_le _, Nat.zero_le _⟩ ?_
      refine g_aload_n C dX9_read_26 0 rfl ?_
      refine g_iconst (v := 1) C dX9_read_27 (by decide) ?_
      refine g_puti (j := 5) C s_a0 (by decide) rfl uwX9 tyX9_ok nmX9 (by decide) rfl lfX9_43 rfl rfl rfl (fun _ _ => rfl) (fun _ _ => Nat.le_of_ble_eq_true rfl) dX9_read_28 ?_
      obtain ⟨μ2, e_μ2, h⟩ := nm h
      refine g_mu e_μ2 ?_
      refine g_aload_n C dX9_read_31 0 rfl ?_
      refine g_wt (fun hT_μ2 => ?_)
      refine g_getr (j := 0) C s_a0 (by decide) rfl uwX9 (by decide) rfl lfX9_20 rfl dX9_read_32 ?_
      obtain ⟨μ3, e_μ3, h⟩ := nm h
      refine g_callVV C (kX0_clear (hT_μ2.1 _ _ 0 _ s_a0 rfl) e_μ3.symm) miX0_clear lmX9_62 (hT_μ2.1 _ _ 0 _ s_a0 rfl) (by decide) rfl rfl rfl (Nat.le_of_ble_eq_true rfl) dX9_read_35 ⟨by decide, by decide⟩ ⟨Nat.zero_le _, Nat.zero_le _⟩ ?_
      refine g_aload_n C dX9_read_38 0 rfl ?_
      refine g_wt (fun hT_μ3 => ?_)
      refine g_getr (j := 1) C s_a0 (by decide) rfl uwX9 (by decide) rfl lfX9_12 rfl dX9_read_39 ?_
      refine g_geti (j := 9) C (hT_μ3.1 _ _ 1 _ s_a0 rfl) (by decide) rfl uwX5 (by decide) rfl lfX9_65 rfl dX9_read_42 ?_
      refine g_if_eq C 50 dX9_read_45 rfl (fun q => ?_) (fun q => ?_)
      · replace h := ip q h
        refine g_aload_n C dX9_read_50 0 rfl ?_
        refine g_aload_n C dX9_read_51 0 rfl ?_
        refine g_getr (j := 1) C s_a0 (by decide) rfl uwX9 (by decide) rfl lfX9_12 rfl dX9_read_52 ?_
        refine g_aload_n C dX9_read_55 0 rfl ?_
        refine g_getr (j := 3) C s_a0 (by decide) rfl uwX9 (by decide) rfl lfX9_32 rfl dX9_read_56 ?_
        obtain ⟨q4, e_q4, h⟩ := nm h
        refine g_callVQ C (kX5_exchange (hT_μ3.1 _ _ 1 _ s_a0 rfl) (hT_μ3.1 _ _ 3 _ s_a0 rfl) e_q4.symm) miX5_exchange lmX9_68 (hT_μ3.1 _ _ 1 _ s_a0 rfl) (by decide) rfl rfl rfl (Nat.le_of_ble_eq_true rfl) dX9_read_59 ⟨by decide, by decide⟩ ⟨Nat.zero_le _, Nat.zero_le _⟩ (fun hs_q4 => ?_)
        refine g_putr (j := 3) C s_a0 (by decide) rfl (hs_q4 _ rfl) rfl uwX9 tyX9_ok nmX9 (by decide) rfl lfX9_32 rfl rfl rfl (fun _ _ => rfl) (fun _ _ => Nat.le_of_ble_eq_true rfl) dX9_read_62 ?_
        obtain ⟨μ5, e_μ5, h⟩ := nm h
        refine g_mu e_μ5 ?_
        refine g_aload_n C dX9_read_65 0 rfl ?_
        refine g_wt (fun hT_μ5 => ?_)
        refine g_getr (j := 3) C s_a0 (by decide) rfl uwX9 (by decide) rfl lfX9_32 rfl dX9_read_66 ?_
        refine g_geti (j := 4) C (hT_μ5.1 _ _ 3 _ s_a0 rfl) (by decide) rfl uwX4 (by decide) rfl lfX9_72 rfl dX9_read_69 ?_
        cases h
        exact g_ireturn C rfl dX9_read_72
      · replace h := iq q h
        refine g_iconst (v := -1) C dX9_read_48 (by decide) ?_
        cases h
        exact g_ireturn C rfl dX9_read_49
    · replace h := iq q h
      refine g_bipush (v := -2) C dX9_read_15 (by decide) ?_
      cases h
      exact g_ireturn C rfl dX9_read_17
theorem miX9_read : MI yX9_read cX9_read 2 (some .int) RX9 1 := ⟨wcX9_read, wmX9_read, wsX9_read, wiX9, by decide +kernel⟩
theorem kX9_read {l : Launch} {D : va_G} {cA : Nat → ClassId} {tS : Nat → Nat} {σ : Sg} {a0 : Nat} {v1 : Int32} {μ : Mm} {fu : Nat} {q : Int32 × Mm} (s_a0 : σ a0 = some (9, 0)) (h : fX9_read fu a0 v1 μ = some q) : Ct l D cA tS σ yX9_read cX9_read 2 (some .int) (rmO 8 191) [.ref a0, .int v1] μ (QI D cA σ q.1 q.2) :=
  Ct.of (by decide) (Nat.le_of_ble_eq_true rfl) (fun _ _ _ _ _ _ _ _ C => wX9_read C _ _ _ s_a0 h)
set_option maxRecDepth 100000 in
set_option maxHeartbeats 4000000 in
theorem wX9_fault {p : Program} {l : Launch} {e : Env} {s : State} {m : MethodId} {args : Array Value} {below : List Frame} {meth : Method} {c : Code} {D : va_G} {cA : Nat → ClassId} {tS : Nat → Nat} {σ : Sg} {q : Int32} (C : Cx p s m args meth c (dm σ) D cA tS σ cX9_fault (some .int) 2 RX9) (a0 : Nat) (v1 : Int32) (μ : Mm) (s_a0 : σ a0 = some (9, 0)) (h : fX9_fault a0 v1 μ = q) : GG p l e (rmO 0 0) s m args below meth c 0 0 (dm σ) D cA σ 2 (MQ below (QI D cA σ q μ) args s 0 0 (dm σ)) 0 [(0, .ref a0), (1, .int v1)] [] μ := by
  unfold fX9_fault at h
  refine g_aload_n C dX9_fault_0 0 rfl ?_
  refine g_geti (j := 5) C s_a0 (by decide) rfl uwX9 (by decide) rfl lfX9_43 rfl dX9_fault_1 ?_
  refine g_if_ne C 9 dX9_fault_4 rfl (fun q => ?_) (fun q => ?_)
  · replace h := iq q h
    refine g_iload_n C dX9_fault_9 1 rfl ?_
    by_cases q10_0 : v1 = 0
    · replace h := ip q10_0 h
      refine g_look (off := 26) C 36 dX9_fault_10 (by decide) (by rw [q10_0]; rfl) rfl ?_
      refine g_aload_n C dX9_fault_36 0 rfl ?_
      refine g_wt (fun hT_μ => ?_)
      refine g_getr (j := 1) C s_a0 (by decide) rfl uwX9 (by decide) rfl lfX9_12 rfl dX9_fault_37 ?_
      refine g_geti (j := 9) C (hT_μ.1 _ _ 1 _ s_a0 rfl) (by decide) rfl uwX5 (by decide) rfl lfX9_65 rfl dX9_fault_40 ?_
      subst h
      exact g_ireturn C rfl dX9_fault_43
    · replace h := iq q10_0 h
      by_cases q10_1 : v1 = 1
      · replace h := ip q10_1 h
        refine g_look (off := 34) C 44 dX9_fault_10 (by decide) (by rw [q10_1]; rfl) rfl ?_
        refine g_aload_n C dX9_fault_44 0 rfl ?_
        refine g_wt (fun hT_μ => ?_)
        refine g_getr (j := 1) C s_a0 (by decide) rfl uwX9 (by decide) rfl lfX9_12 rfl dX9_fault_45 ?_
        refine g_geti (j := 10) C (hT_μ.1 _ _ 1 _ s_a0 rfl) (by decide) rfl uwX5 (by decide) rfl lfX9_75 rfl dX9_fault_48 ?_
        subst h
        exact g_ireturn C rfl dX9_fault_51
      · replace h := iq q10_1 h
        refine g_look (off := 42) C 52 dX9_fault_10 (by decide) (by refine (lv_osw q10_0 rfl).trans ?_; refine (lv_osw q10_1 rfl).trans ?_; rfl) rfl ?_
        refine g_iconst (v := -1) C dX9_fault_52 (by decide) ?_
        subst h
        exact g_ireturn C rfl dX9_fault_53
  · replace h := ip q h
    refine g_iconst (v := -1) C dX9_fault_7 (by decide) ?_
    subst h
    exact g_ireturn C rfl dX9_fault_8
theorem miX9_fault : MI yX9_fault cX9_fault 2 (some .int) RX9 1 := ⟨wcX9_fault, wmX9_fault, wsX9_fault, wiX9, by decide +kernel⟩
theorem kX9_fault {l : Launch} {D : va_G} {cA : Nat → ClassId} {tS : Nat → Nat} {σ : Sg} {a0 : Nat} {v1 : Int32} {μ : Mm} {q : Int32} (s_a0 : σ a0 = some (9, 0)) (h : fX9_fault a0 v1 μ = q) : Ct l D cA tS σ yX9_fault cX9_fault 2 (some .int) (rmO 0 0) [.ref a0, .int v1] μ (QI D cA σ q μ) :=
  Ct.of (by decide) (Nat.le_of_ble_eq_true rfl) (fun _ _ _ _ _ _ _ _ C => wX9_fault C _ _ _ s_a0 h)
set_option maxRecDepth 100000 in
set_option maxHeartbeats 4000000 in
theorem wX9_isByte {p : Program} {l : Launch} {e : Env} {s : State} {m : MethodId} {args : Array Value} {below : List Frame} {meth : Method} {c : Code} {D : va_G} {cA : Nat → ClassId} {tS : Nat → Nat} {σ : Sg} {μ0 : Mm} {q : Int32} (C : Cx p s m args meth c (dm σ) D cA tS σ cX9_isByte (some .boolean) 1 RX9) (v0 : Int32) (h : fX9_isByte v0 = q) : GG p l e (rmO 0 0) s m args below meth c 0 0 (dm σ) D cA σ 1 (MQ below (QI D cA σ q μ0) args s 0 0 (dm σ)) 0 [(0, .int v0)] [] μ0 := by
  unfold fX9_isByte at h
  refine g_iload_n C dX9_isByte_0 0 rfl ?_
  refine g_if_lt C 15 dX9_isByte_1 rfl (fun q => ?_) (fun q => ?_)
  · replace h := ip q h
    refine g_iconst (v := 0) C dX9_isByte_15 (by decide) ?_
    subst h
    exact g_zreturn (r := 0) C rfl dX9_isByte_16
  · replace h := iq q h
    refine g_iload_n C dX9_isByte_4 0 rfl ?_
    refine g_sipush (v := 255) C dX9_isByte_5 (by decide) ?_
    refine g_icmp_gt C 15 dX9_isByte_8 rfl (fun q => ?_) (fun q => ?_)
    · replace h := ip q h
      refine g_iconst (v := 0) C dX9_isByte_15 (by decide) ?_
      subst h
      exact g_zreturn (r := 0) C rfl dX9_isByte_16
    · replace h := iq q h
      refine g_iconst (v := 1) C dX9_isByte_11 (by decide) ?_
      refine g_goto C 16 dX9_isByte_12 rfl ?_
      subst h
      exact g_zreturn (r := 1) C rfl dX9_isByte_16
theorem msX9_isByte : MS yX9_isByte cX9_isByte 1 (some .boolean) 1 := ⟨wcX9_isByte, wtX9_isByte, wiX9, by decide +kernel⟩
theorem kX9_isByte {l : Launch} {D : va_G} {cA : Nat → ClassId} {tS : Nat → Nat} {σ : Sg} {v0 : Int32} {μ0 : Mm} {q : Int32} (h : fX9_isByte v0 = q) : Ct l D cA tS σ yX9_isByte cX9_isByte 1 (some .boolean) (rmO 0 0) [.int v0] μ0 (QI D cA σ q μ0) :=
  Ct.of (by decide) (Nat.le_of_ble_eq_true rfl) (fun _ _ _ _ _ _ _ _ C => wX9_isByte C _  h)
set_option maxRecDepth 100000 in
set_option maxHeartbeats 4000000 in
theorem wJ6_bitCount_0f7a4 {p : Program} {l : Launch} {e : Env} {s : State} {m : MethodId} {args : Array Value} {below : List Frame} {meth : Method} {c : Code} {D : va_G} {cA : Nat → ClassId} {tS : Nat → Nat} {σ : Sg} {μ0 : Mm} {q : Int32} (C : Cx p s m args meth c (dm σ) D cA tS σ cJ6_bitCount_0f7a4 (some .int) 1 RJ6) (v0 : Int32) (h : fJ6_bitCount_0f7a4 v0 = q) : GG p l e (rmO 0 0) s m args below meth c 0 0 (dm σ) D cA σ 1 (MQ below (QI D cA σ q μ0) args s 0 0 (dm σ)) 0 [(0, .int v0)] [] μ0 := by
  unfold fJ6_bitCount_0f7a4 at h
  refine g_iload_n C dJ6_bitCount_0f7a4_0 0 rfl ?_
  refine g_iload_n C dJ6_bitCount_0f7a4_1 0 rfl ?_
  refine g_iconst (v := 1) C dJ6_bitCount_0f7a4_2 (by decide) ?_
  refine g_iushr C dJ6_bitCount_0f7a4_3 ?_
  refine g_ldc_w C dJ6_bitCount_0f7a4_4 lkJ6_265 ?_
  refine g_iand C dJ6_bitCount_0f7a4_7 ?_
  refine g_isub C dJ6_bitCount_0f7a4_8 ?_
  obtain ⟨x1, e_x1, h⟩ := nm h
  refine g_topi e_x1 ?_
  refine g_istore_n (lv' := [(0, .int x1)]) C dJ6_bitCount_0f7a4_9 (by decide) rfl ?_
  refine g_iload_n C dJ6_bitCount_0f7a4_10 0 rfl ?_
  refine g_ldc_w C dJ6_bitCount_0f7a4_11 lkJ6_266 ?_
  refine g_iand C dJ6_bitCount_0f7a4_14 ?_
  refine g_iload_n C dJ6_bitCount_0f7a4_15 0 rfl ?_
  refine g_iconst (v := 2) C dJ6_bitCount_0f7a4_16 (by decide) ?_
  refine g_iushr C dJ6_bitCount_0f7a4_17 ?_
  refine g_ldc_w C dJ6_bitCount_0f7a4_18 lkJ6_266 ?_
  refine g_iand C dJ6_bitCount_0f7a4_21 ?_
  refine g_iadd C dJ6_bitCount_0f7a4_22 ?_
  obtain ⟨x2, e_x2, h⟩ := nm h
  refine g_topi e_x2 ?_
  refine g_istore_n (lv' := [(0, .int x2)]) C dJ6_bitCount_0f7a4_23 (by decide) rfl ?_
  refine g_iload_n C dJ6_bitCount_0f7a4_24 0 rfl ?_
  refine g_iload_n C dJ6_bitCount_0f7a4_25 0 rfl ?_
  refine g_iconst (v := 4) C dJ6_bitCount_0f7a4_26 (by decide) ?_
  refine g_iushr C dJ6_bitCount_0f7a4_27 ?_
  refine g_iadd C dJ6_bitCount_0f7a4_28 ?_
  refine g_ldc_w C dJ6_bitCount_0f7a4_29 lkJ6_267 ?_
  refine g_iand C dJ6_bitCount_0f7a4_32 ?_
  obtain ⟨x3, e_x3, h⟩ := nm h
  refine g_topi e_x3 ?_
  refine g_istore_n (lv' := [(0, .int x3)]) C dJ6_bitCount_0f7a4_33 (by decide) rfl ?_
  refine g_iload_n C dJ6_bitCount_0f7a4_34 0 rfl ?_
  refine g_iload_n C dJ6_bitCount_0f7a4_35 0 rfl ?_
  refine g_bipush (v := 8) C dJ6_bitCount_0f7a4_36 (by decide) ?_
  refine g_iushr C dJ6_bitCount_0f7a4_38 ?_
  refine g_iadd C dJ6_bitCount_0f7a4_39 ?_
  obtain ⟨x4, e_x4, h⟩ := nm h
  refine g_topi e_x4 ?_
  refine g_istore_n (lv' := [(0, .int x4)]) C dJ6_bitCount_0f7a4_40 (by decide) rfl ?_
  refine g_iload_n C dJ6_bitCount_0f7a4_41 0 rfl ?_
  refine g_iload_n C dJ6_bitCount_0f7a4_42 0 rfl ?_
  refine g_bipush (v := 16) C dJ6_bitCount_0f7a4_43 (by decide) ?_
  refine g_iushr C dJ6_bitCount_0f7a4_45 ?_
  refine g_iadd C dJ6_bitCount_0f7a4_46 ?_
  obtain ⟨x5, e_x5, h⟩ := nm h
  refine g_topi e_x5 ?_
  refine g_istore_n (lv' := [(0, .int x5)]) C dJ6_bitCount_0f7a4_47 (by decide) rfl ?_
  refine g_iload_n C dJ6_bitCount_0f7a4_48 0 rfl ?_
  refine g_bipush (v := 63) C dJ6_bitCount_0f7a4_49 (by decide) ?_
  refine g_iand C dJ6_bitCount_0f7a4_51 ?_
  subst h
  exact g_ireturn C rfl dJ6_bitCount_0f7a4_52
theorem msJ6_bitCount_0f7a4 : MS yJ6_bitCount_0f7a4 cJ6_bitCount_0f7a4 1 (some .int) 1 := ⟨wcJ6_bitCount_0f7a4, wtJ6_bitCount_0f7a4, wiJ6, by decide +kernel⟩
theorem kJ6_bitCount_0f7a4 {l : Launch} {D : va_G} {cA : Nat → ClassId} {tS : Nat → Nat} {σ : Sg} {v0 : Int32} {μ0 : Mm} {q : Int32} (h : fJ6_bitCount_0f7a4 v0 = q) : Ct l D cA tS σ yJ6_bitCount_0f7a4 cJ6_bitCount_0f7a4 1 (some .int) (rmO 0 0) [.int v0] μ0 (QI D cA σ q μ0) :=
  Ct.of (by decide) (Nat.le_of_ble_eq_true rfl) (fun _ _ _ _ _ _ _ _ C => wJ6_bitCount_0f7a4 C _  h)
set_option maxRecDepth 100000 in
set_option maxHeartbeats 4000000 in
theorem wX9_isTableSize {p : Program} {l : Launch} {e : Env} {s : State} {m : MethodId} {args : Array Value} {below : List Frame} {meth : Method} {c : Code} {D : va_G} {cA : Nat → ClassId} {tS : Nat → Nat} {σ : Sg} {μ0 : Mm} {q : Int32} (C : Cx p s m args meth c (dm σ) D cA tS σ cX9_isTableSize (some .boolean) 1 RX9) (v0 : Int32) (h : fX9_isTableSize v0 = q) : GG p l e (rmO 1 20) s m args below meth c 0 0 (dm σ) D cA σ 1 (MQ below (QI D cA σ q μ0) args s 0 0 (dm σ)) 0 [(0, .int v0)] [] μ0 := by
  unfold fX9_isTableSize at h
  refine g_iload_n C dX9_isTableSize_0 0 rfl ?_
  refine g_if_eq C 24 dX9_isTableSize_1 rfl (fun q => ?_) (fun q => ?_)
  · replace h := ip q h
    refine g_iconst (v := 1) C dX9_isTableSize_24 (by decide) ?_
    refine g_goto C 29 dX9_isTableSize_25 rfl ?_
    subst h
    exact g_zreturn (r := 1) C rfl dX9_isTableSize_29
  · replace h := iq q h
    refine g_iload_n C dX9_isTableSize_4 0 rfl ?_
    refine g_iconst (v := 2) C dX9_isTableSize_5 (by decide) ?_
    refine g_icmp_lt C 28 dX9_isTableSize_6 rfl (fun q => ?_) (fun q => ?_)
    · replace h := ip q h
      refine g_iconst (v := 0) C dX9_isTableSize_28 (by decide) ?_
      subst h
      exact g_zreturn (r := 0) C rfl dX9_isTableSize_29
    · replace h := iq q h
      refine g_iload_n C dX9_isTableSize_9 0 rfl ?_
      refine g_sipush (v := 256) C dX9_isTableSize_10 (by decide) ?_
      refine g_icmp_gt C 28 dX9_isTableSize_13 rfl (fun q => ?_) (fun q => ?_)
      · replace h := ip q h
        refine g_iconst (v := 0) C dX9_isTableSize_28 (by decide) ?_
        subst h
        exact g_zreturn (r := 0) C rfl dX9_isTableSize_29
      · replace h := iq q h
        refine g_iload_n C dX9_isTableSize_16 0 rfl ?_
        obtain ⟨x1, e_x1, h⟩ := nm h
        refine g_callSI C (kJ6_bitCount_0f7a4 e_x1.symm) msJ6_bitCount_0f7a4 lmX9_210 rfl rfl (Nat.le_of_ble_eq_true rfl) dX9_isTableSize_17 ⟨by decide, by decide⟩ ⟨Nat.zero_le _, Nat.zero_le _⟩ ?_
        refine g_iconst (v := 1) C dX9_isTableSize_20 (by decide) ?_
        refine g_icmp_ne C 28 dX9_isTableSize_21 rfl (fun q => ?_) (fun q => ?_)
        · replace h := iq q h
          refine g_iconst (v := 0) C dX9_isTableSize_28 (by decide) ?_
          subst h
          exact g_zreturn (r := 0) C rfl dX9_isTableSize_29
        · replace h := ip q h
          refine g_iconst (v := 1) C dX9_isTableSize_24 (by decide) ?_
          refine g_goto C 29 dX9_isTableSize_25 rfl ?_
          subst h
          exact g_zreturn (r := 1) C rfl dX9_isTableSize_29
theorem msX9_isTableSize : MS yX9_isTableSize cX9_isTableSize 1 (some .boolean) 1 := ⟨wcX9_isTableSize, wtX9_isTableSize, wiX9, by decide +kernel⟩
theorem kX9_isTableSize {l : Launch} {D : va_G} {cA : Nat → ClassId} {tS : Nat → Nat} {σ : Sg} {v0 : Int32} {μ0 : Mm} {q : Int32} (h : fX9_isTableSize v0 = q) : Ct l D cA tS σ yX9_isTableSize cX9_isTableSize 1 (some .boolean) (rmO 1 20) [.int v0] μ0 (QI D cA σ q μ0) :=
  Ct.of (by decide) (Nat.le_of_ble_eq_true rfl) (fun _ _ _ _ _ _ _ _ C => wX9_isTableSize C _  h)
set_option maxRecDepth 100000 in
set_option maxHeartbeats 4000000 in
theorem wX9_begin {p : Program} {l : Launch} {e : Env} {s : State} {m : MethodId} {args : Array Value} {below : List Frame} {meth : Method} {c : Code} {D : va_G} {cA : Nat → ClassId} {tS : Nat → Nat} {σ : Sg} {fu : Nat} {q : Int32 × Mm} (C : Cx p s m args meth c (dm σ) D cA tS σ cX9_begin (some .boolean) 5 RX9) (a0 : Nat) (v1 : Int32) (v2 : Int32) (v3 : Int32) (v4 : Int32) (μ : Mm) (s_a0 : σ a0 = some (9, 0)) (h : fX9_begin fu a0 v1 v2 v3 v4 μ = some q) : GG p l e (rmO 2 47) s m args below meth c 0 0 (dm σ) D cA σ 5 (MQ below (QI D cA σ q.1 q.2) args s 0 0 (dm σ)) 0 [(0, .ref a0), (1, .int v1), (2, .int v2), (3, .int v3), (4, .int v4)] [] μ := by
  unfold fX9_begin at h
  refine g_iload_n C dX9_begin_0 1 rfl ?_
  obtain ⟨x1, e_x1, h⟩ := nm h
  refine g_callSI C (kX9_isSide e_x1.symm) msX9_isSide lmX9_78 rfl rfl (Nat.le_of_ble_eq_true rfl) dX9_begin_1 ⟨by decide, by decide⟩ ⟨Nat.zero_le _, Nat.zero_le _⟩ ?_
  refine g_if_eq C 29 dX9_begin_4 rfl (fun q => ?_) (fun q => ?_)
  · replace h := ip q h
    refine g_iconst (v := 0) C dX9_begin_29 (by decide) ?_
    cases h
    exact g_zreturn (r := 0) C rfl dX9_begin_30
  · replace h := iq q h
    refine g_iload_n C dX9_begin_7 2 rfl ?_
    obtain ⟨x2, e_x2, h⟩ := nm h
    refine g_callSI C (kX9_isSide e_x2.symm) msX9_isSide lmX9_78 rfl rfl (Nat.le_of_ble_eq_true rfl) dX9_begin_8 ⟨by decide, by decide⟩ ⟨Nat.zero_le _, Nat.zero_le _⟩ ?_
    refine g_if_eq C 29 dX9_begin_11 rfl (fun q => ?_) (fun q => ?_)
    · replace h := ip q h
      refine g_iconst (v := 0) C dX9_begin_29 (by decide) ?_
      cases h
      exact g_zreturn (r := 0) C rfl dX9_begin_30
    · replace h := iq q h
      refine g_iload_n C dX9_begin_14 3 rfl ?_
      obtain ⟨x3, e_x3, h⟩ := nm h
      refine g_callSI C (kX9_isTableSize e_x3.symm) msX9_isTableSize lmX9_82 rfl rfl (Nat.le_of_ble_eq_true rfl) dX9_begin_15 ⟨by decide, by decide⟩ ⟨Nat.zero_le _, Nat.zero_le _⟩ ?_
      refine g_if_eq C 29 dX9_begin_18 rfl (fun q => ?_) (fun q => ?_)
      · replace h := ip q h
        refine g_iconst (v := 0) C dX9_begin_29 (by decide) ?_
        cases h
        exact g_zreturn (r := 0) C rfl dX9_begin_30
      · replace h := iq q h
        refine g_iload C dX9_begin_21 4 rfl ?_
        obtain ⟨x4, e_x4, h⟩ := nm h
        refine g_callSI C (kX9_isByte e_x4.symm) msX9_isByte lmX9_85 rfl rfl (Nat.le_of_ble_eq_true rfl) dX9_begin_23 ⟨by decide, by decide⟩ ⟨Nat.zero_le _, Nat.zero_le _⟩ ?_
        refine g_if_ne C 31 dX9_begin_26 rfl (fun q => ?_) (fun q => ?_)
        · replace h := iq q h
          refine g_aload_n C dX9_begin_31 0 rfl ?_
          refine g_wt (fun hT_μ => ?_)
          refine g_getr (j := 3) C s_a0 (by decide) rfl uwX9 (by decide) rfl lfX9_32 rfl dX9_begin_32 ?_
          refine g_iload_n C dX9_begin_35 1 rfl ?_
          refine g_iload_n C dX9_begin_36 2 rfl ?_
          refine g_iload_n C dX9_begin_37 3 rfl ?_
          refine g_iload C dX9_begin_38 4 rfl ?_
          refine g_iconst (v := 0) C dX9_begin_40 (by decide) ?_
          obtain ⟨μ5, e_μ5, h⟩ := bs h
          refine g_callVV C (kX4_reset (hT_μ.1 _ _ 3 _ s_a0 rfl) e_μ5) miX4_reset lmX9_88 (hT_μ.1 _ _ 3 _ s_a0 rfl) (by decide) rfl rfl rfl (Nat.le_of_ble_eq_true rfl) dX9_begin_41 ⟨by decide, by decide⟩ ⟨Nat.zero_le _, Nat.zero_le _⟩ ?_
          refine g_iconst (v := 1) C dX9_begin_44 (by decide) ?_
          cases h
          exact g_zreturn (r := 1) C rfl dX9_begin_45
        · replace h := ip q h
          refine g_iconst (v := 0) C dX9_begin_29 (by decide) ?_
          cases h
          exact g_zreturn (r := 0) C rfl dX9_begin_30
theorem miX9_begin : MI yX9_begin cX9_begin 5 (some .boolean) RX9 4 := ⟨wcX9_begin, wmX9_begin, wsX9_begin, wiX9, by decide +kernel⟩
theorem kX9_begin {l : Launch} {D : va_G} {cA : Nat → ClassId} {tS : Nat → Nat} {σ : Sg} {a0 : Nat} {v1 : Int32} {v2 : Int32} {v3 : Int32} {v4 : Int32} {μ : Mm} {fu : Nat} {q : Int32 × Mm} (s_a0 : σ a0 = some (9, 0)) (h : fX9_begin fu a0 v1 v2 v3 v4 μ = some q) : Ct l D cA tS σ yX9_begin cX9_begin 5 (some .boolean) (rmO 2 47) [.ref a0, .int v1, .int v2, .int v3, .int v4] μ (QI D cA σ q.1 q.2) :=
  Ct.of (by decide) (Nat.le_of_ble_eq_true rfl) (fun _ _ _ _ _ _ _ _ C => wX9_begin C _ _ _ _ _ _ s_a0 h)
set_option maxRecDepth 100000 in
set_option maxHeartbeats 4000000 in
theorem wX9_tableAt {p : Program} {l : Launch} {e : Env} {s : State} {m : MethodId} {args : Array Value} {below : List Frame} {meth : Method} {c : Code} {D : va_G} {cA : Nat → ClassId} {tS : Nat → Nat} {σ : Sg} {q : Option Nat} (C : Cx p s m args meth c (dm σ) D cA tS σ cX9_tableAt (some (.object "PictureReel$Table")) 3 RX9) (a0 : Nat) (v1 : Int32) (μ : Mm) (s_a0 : σ a0 = some (9, 0)) (h : fX9_tableAt a0 v1 μ = some q) : GG p l e (rmO 1 21) s m args below meth c 0 0 (dm σ) D cA σ 3 (MQ below (QR D cA σ (7, 0) q μ) args s 0 0 (dm σ)) 0 [(0, .ref a0), (1, .int v1)] [] μ := by
  unfold fX9_tableAt at h
  refine g_iload_n C dX9_tableAt_0 1 rfl ?_
  refine g_iconst (v := -1) C dX9_tableAt_1 (by decide) ?_
  refine g_icmp_ne C 13 dX9_tableAt_2 rfl (fun q => ?_) (fun q => ?_)
  · replace h := iq q h
    refine g_aload_n C dX9_tableAt_13 0 rfl ?_
    refine g_wt (fun hT_μ => ?_)
    refine g_getr (j := 3) C s_a0 (by decide) rfl uwX9 (by decide) rfl lfX9_32 rfl dX9_tableAt_14 ?_
    refine g_iload_n C dX9_tableAt_17 1 rfl ?_
    obtain ⟨r1, e_r1, h⟩ := bs h
    refine g_callVQ C (kX4_frameAt (hT_μ.1 _ _ 3 _ s_a0 rfl) e_r1) miX4_frameAt lmX9_121 (hT_μ.1 _ _ 3 _ s_a0 rfl) (by decide) rfl rfl rfl (Nat.le_of_ble_eq_true rfl) dX9_tableAt_18 ⟨by decide, by decide⟩ ⟨Nat.zero_le _, Nat.zero_le _⟩ (fun hs_r1 => ?_)
    refine g_astore_nq (lv' := [(2, va_rf r1), (0, .ref a0), (1, .int v1)]) C dX9_tableAt_21 (by decide) (by rcases r1 with _ | _ <;> rfl) ?_
    refine g_aload_nq C dX9_tableAt_22 0 rfl ?_
    rcases r1 with _ | b2
    · replace h := oc0 h
      refine g_ifnonnullN C dX9_tableAt_23 ?_
      refine g_null C dX9_tableAt_26 ?_
      refine g_goto C 34 dX9_tableAt_27 rfl ?_
      cases h
      exact g_areturn C (Or.inl ⟨_, rfl⟩) (fun _ h => by cases h) dX9_tableAt_34
    · replace h := oc1 h
      have s_b2 : σ b2 = some (3, 0) := hs_r1 _ rfl
      refine g_ifnonnull C 30 dX9_tableAt_23 rfl ?_
      refine g_aload_n C dX9_tableAt_30 0 rfl ?_
      refine g_getr (j := 5) C s_b2 (by decide) rfl uwX3 (by decide) rfl lfX9_185 rfl dX9_tableAt_31 ?_
      cases h
      exact g_areturn C (Or.inl ⟨_, rfl⟩) (fun _ h => by cases h; exact (hT_μ.1 _ _ 5 _ s_b2 rfl)) dX9_tableAt_34
  · replace h := ip q h
    refine g_aload_n C dX9_tableAt_5 0 rfl ?_
    refine g_wt (fun hT_μ => ?_)
    refine g_getr (j := 3) C s_a0 (by decide) rfl uwX9 (by decide) rfl lfX9_32 rfl dX9_tableAt_6 ?_
    refine g_getr (j := 5) C (hT_μ.1 _ _ 3 _ s_a0 rfl) (by decide) rfl uwX4 (by decide) rfl lfX9_166 rfl dX9_tableAt_9 ?_
    cases h
    exact g_areturn C (Or.inl ⟨_, rfl⟩) (fun _ h => by cases h; exact (hT_μ.1 _ _ 5 _ (hT_μ.1 _ _ 3 _ s_a0 rfl) rfl)) dX9_tableAt_12
theorem miX9_tableAt : MI yX9_tableAt cX9_tableAt 3 (some (.object "PictureReel$Table")) RX9 1 := ⟨wcX9_tableAt, wmX9_tableAt, wsX9_tableAt, wiX9, by decide +kernel⟩
theorem kX9_tableAt {l : Launch} {D : va_G} {cA : Nat → ClassId} {tS : Nat → Nat} {σ : Sg} {a0 : Nat} {v1 : Int32} {μ : Mm} {q : Option Nat} (s_a0 : σ a0 = some (9, 0)) (h : fX9_tableAt a0 v1 μ = some q) : Ct l D cA tS σ yX9_tableAt cX9_tableAt 3 (some (.object "PictureReel$Table")) (rmO 1 21) [.ref a0, .int v1] μ (QR D cA σ (7, 0) q μ) :=
  Ct.of (by decide) (Nat.le_of_ble_eq_true rfl) (fun _ _ _ _ _ _ _ _ C => wX9_tableAt C _ _ _ s_a0 h)
set_option maxRecDepth 100000 in
set_option maxHeartbeats 4000000 in
theorem wX9_colour {p : Program} {l : Launch} {e : Env} {s : State} {m : MethodId} {args : Array Value} {below : List Frame} {meth : Method} {c : Code} {D : va_G} {cA : Nat → ClassId} {tS : Nat → Nat} {σ : Sg} {q : Int32 × Mm} (C : Cx p s m args meth c (dm σ) D cA tS σ cX9_colour (some .boolean) 5 RX9) (a0 : Nat) (v1 : Int32) (v2 : Int32) (v3 : Int32) (μ : Mm) (s_a0 : σ a0 = some (9, 0)) (h : fX9_colour a0 v1 v2 v3 μ = some q) : GG p l e (rmO 2 43) s m args below meth c 0 0 (dm σ) D cA σ 5 (MQ below (QI D cA σ q.1 q.2) args s 0 0 (dm σ)) 0 [(0, .ref a0), (1, .int v1), (2, .int v2), (3, .int v3)] [] μ := by
  unfold fX9_colour at h
  refine g_aload_n C dX9_colour_0 0 rfl ?_
  refine g_iload_n C dX9_colour_1 1 rfl ?_
  obtain ⟨r1, e_r1, h⟩ := bs h
  refine g_callVQ C (kX9_tableAt s_a0 e_r1) miX9_tableAt lmX9_92 s_a0 (by decide) rfl rfl rfl (Nat.le_of_ble_eq_true rfl) dX9_colour_2 ⟨by decide, by decide⟩ ⟨Nat.zero_le _, Nat.zero_le _⟩ (fun hs_r1 => ?_)
  refine g_astoreq (lv' := [(4, va_rf r1), (0, .ref a0), (1, .int v1), (2, .int v2), (3, .int v3)]) C dX9_colour_5 (by decide) (by rcases r1 with _ | _ <;> rfl) ?_
  refine g_aloadq C dX9_colour_7 0 rfl ?_
  rcases r1 with _ | b2
  · replace h := oc0 h
    refine g_ifnullN C 31 dX9_colour_9 rfl ?_
    refine g_iconst (v := 0) C dX9_colour_31 (by decide) ?_
    cases h
    exact g_zreturn (r := 0) C rfl dX9_colour_32
  · replace h := oc1 h
    have s_b2 : σ b2 = some (7, 0) := hs_r1 _ rfl
    refine g_ifnull C dX9_colour_9 ?_
    refine g_aload C dX9_colour_12 0 rfl ?_
    refine g_iload_n C dX9_colour_14 3 rfl ?_
    obtain ⟨x3, e_x3, h⟩ := nm h
    refine g_callVI C (kX7_has s_b2 e_x3.symm) miX7_has lmX9_96 s_b2 (by decide) rfl rfl rfl (Nat.le_of_ble_eq_true rfl) dX9_colour_15 ⟨by decide, by decide⟩ ⟨Nat.zero_le _, Nat.zero_le _⟩ ?_
    refine g_if_eq C 31 dX9_colour_18 rfl (fun q => ?_) (fun q => ?_)
    · replace h := ip q h
      refine g_iconst (v := 0) C dX9_colour_31 (by decide) ?_
      cases h
      exact g_zreturn (r := 0) C rfl dX9_colour_32
    · replace h := iq q h
      refine g_iload_n C dX9_colour_21 4 rfl ?_
      refine g_if_lt C 31 dX9_colour_22 rfl (fun q => ?_) (fun q => ?_)
      · replace h := ip q h
        refine g_iconst (v := 0) C dX9_colour_31 (by decide) ?_
        cases h
        exact g_zreturn (r := 0) C rfl dX9_colour_32
      · replace h := iq q h
        refine g_iload_n C dX9_colour_25 4 rfl ?_
        refine g_ldc C dX9_colour_26 lkX9_101 ?_
        refine g_icmp_le C 33 dX9_colour_28 rfl (fun q => ?_) (fun q => ?_)
        · replace h := ip q h
          refine g_aload C dX9_colour_33 0 rfl ?_
          refine g_wt (fun hT_μ => ?_)
          refine g_getr (j := 0) C s_b2 (by decide) rfl uwX7 (by decide) rfl lfX9_102 rfl dX9_colour_35 ?_
          refine g_iload_n C dX9_colour_38 3 rfl ?_
          refine g_iload_n C dX9_colour_39 4 rfl ?_
          obtain ⟨hg, h⟩ := gs h
          refine g_iast C (hT_μ.1 _ _ 0 _ s_b2 rfl) (ib_in hg) dX9_colour_40 ?_
          obtain ⟨μ4, e_μ4, h⟩ := nm h
          refine g_mu e_μ4 ?_
          refine g_iconst (v := 1) C dX9_colour_41 (by decide) ?_
          cases h
          exact g_zreturn (r := 1) C rfl dX9_colour_42
        · replace h := iq q h
          refine g_iconst (v := 0) C dX9_colour_31 (by decide) ?_
          cases h
          exact g_zreturn (r := 0) C rfl dX9_colour_32
theorem miX9_colour : MI yX9_colour cX9_colour 5 (some .boolean) RX9 3 := ⟨wcX9_colour, wmX9_colour, wsX9_colour, wiX9, by decide +kernel⟩
theorem kX9_colour {l : Launch} {D : va_G} {cA : Nat → ClassId} {tS : Nat → Nat} {σ : Sg} {a0 : Nat} {v1 : Int32} {v2 : Int32} {v3 : Int32} {μ : Mm} {q : Int32 × Mm} (s_a0 : σ a0 = some (9, 0)) (h : fX9_colour a0 v1 v2 v3 μ = some q) : Ct l D cA tS σ yX9_colour cX9_colour 5 (some .boolean) (rmO 2 43) [.ref a0, .int v1, .int v2, .int v3] μ (QI D cA σ q.1 q.2) :=
  Ct.of (by decide) (Nat.le_of_ble_eq_true rfl) (fun _ _ _ _ _ _ _ _ C => wX9_colour C _ _ _ _ _ s_a0 h)
set_option maxRecDepth 100000 in
set_option maxHeartbeats 4000000 in
theorem wX9_frame {p : Program} {l : Launch} {e : Env} {s : State} {m : MethodId} {args : Array Value} {below : List Frame} {meth : Method} {c : Code} {D : va_G} {cA : Nat → ClassId} {tS : Nat → Nat} {σ : Sg} {fu : Nat} {q : Int32 × Mm} (C : Cx p s m args meth c (dm σ) D cA tS σ cX9_frame (some .int) 7 RX9) (a0 : Nat) (v1 : Int32) (v2 : Int32) (v3 : Int32) (v4 : Int32) (v5 : Int32) (v6 : Int32) (μ : Mm) (s_a0 : σ a0 = some (9, 0)) (h : fX9_frame fu a0 v1 v2 v3 v4 v5 v6 μ = some q) : GG p l e (rmO 4 95) s m args below meth c 0 0 (dm σ) D cA σ 7 (MQ below (QI D cA σ q.1 q.2) args s 0 0 (dm σ)) 0 [(0, .ref a0), (1, .int v1), (2, .int v2), (3, .int v3), (4, .int v4), (5, .int v5), (6, .int v6)] [] μ := by
  unfold fX9_frame at h
  refine g_aload_n C dX9_frame_0 0 rfl ?_
  refine g_wt (fun hT_μ => ?_)
  refine g_getr (j := 3) C s_a0 (by decide) rfl uwX9 (by decide) rfl lfX9_32 rfl dX9_frame_1 ?_
  obtain ⟨x1, e_x1, h⟩ := nm h
  refine g_callVI C (kX4_hasRoom (hT_μ.1 _ _ 3 _ s_a0 rfl) e_x1.symm) miX4_hasRoom lmX9_106 (hT_μ.1 _ _ 3 _ s_a0 rfl) (by decide) rfl rfl rfl (Nat.le_of_ble_eq_true rfl) dX9_frame_4 ⟨by decide, by decide⟩ ⟨Nat.zero_le _, Nat.zero_le _⟩ ?_
  refine g_if_eq C 45 dX9_frame_7 rfl (fun q => ?_) (fun q => ?_)
  · replace h := ip q h
    refine g_iconst (v := -1) C dX9_frame_45 (by decide) ?_
    cases h
    exact g_ireturn C rfl dX9_frame_46
  · replace h := iq q h
    refine g_aload_n C dX9_frame_10 0 rfl ?_
    refine g_getr (j := 3) C s_a0 (by decide) rfl uwX9 (by decide) rfl lfX9_32 rfl dX9_frame_11 ?_
    refine g_iload_n C dX9_frame_14 1 rfl ?_
    refine g_iload_n C dX9_frame_15 2 rfl ?_
    refine g_iload_n C dX9_frame_16 3 rfl ?_
    refine g_iload C dX9_frame_17 4 rfl ?_
    obtain ⟨x2, e_x2, h⟩ := nm h
    refine g_callVI C (kX4_holds (hT_μ.1 _ _ 3 _ s_a0 rfl) e_x2.symm) miX4_holds lmX9_110 (hT_μ.1 _ _ 3 _ s_a0 rfl) (by decide) rfl rfl rfl (Nat.le_of_ble_eq_true rfl) dX9_frame_19 ⟨by decide, by decide⟩ ⟨Nat.zero_le _, Nat.zero_le _⟩ ?_
    refine g_if_eq C 45 dX9_frame_22 rfl (fun q => ?_) (fun q => ?_)
    · replace h := ip q h
      refine g_iconst (v := -1) C dX9_frame_45 (by decide) ?_
      cases h
      exact g_ireturn C rfl dX9_frame_46
    · replace h := iq q h
      refine g_iload C dX9_frame_25 5 rfl ?_
      obtain ⟨x3, e_x3, h⟩ := nm h
      refine g_callSI C (kX9_isTableSize e_x3.symm) msX9_isTableSize lmX9_82 rfl rfl (Nat.le_of_ble_eq_true rfl) dX9_frame_27 ⟨by decide, by decide⟩ ⟨Nat.zero_le _, Nat.zero_le _⟩ ?_
      refine g_if_eq C 45 dX9_frame_30 rfl (fun q => ?_) (fun q => ?_)
      · replace h := ip q h
        refine g_iconst (v := -1) C dX9_frame_45 (by decide) ?_
        cases h
        exact g_ireturn C rfl dX9_frame_46
      · replace h := iq q h
        refine g_aload_n C dX9_frame_33 0 rfl ?_
        refine g_getr (j := 3) C s_a0 (by decide) rfl uwX9 (by decide) rfl lfX9_32 rfl dX9_frame_34 ?_
        refine g_iload C dX9_frame_37 5 rfl ?_
        obtain ⟨x4, e_x4, h⟩ := nm h
        refine g_callVI C (kX4_givesTable (hT_μ.1 _ _ 3 _ s_a0 rfl) e_x4.symm) miX4_givesTable lmX9_114 (hT_μ.1 _ _ 3 _ s_a0 rfl) (by decide) rfl rfl rfl (Nat.le_of_ble_eq_true rfl) dX9_frame_39 ⟨by decide, by decide⟩ ⟨Nat.zero_le _, Nat.zero_le _⟩ ?_
        refine g_if_ne C 47 dX9_frame_42 rfl (fun q => ?_) (fun q => ?_)
        · replace h := iq q h
          refine g_aload_n C dX9_frame_47 0 rfl ?_
          refine g_getr (j := 3) C s_a0 (by decide) rfl uwX9 (by decide) rfl lfX9_32 rfl dX9_frame_48 ?_
          refine g_iload_n C dX9_frame_51 1 rfl ?_
          refine g_iload_n C dX9_frame_52 2 rfl ?_
          refine g_iload_n C dX9_frame_53 3 rfl ?_
          refine g_iload C dX9_frame_54 4 rfl ?_
          refine g_iload C dX9_frame_56 5 rfl ?_
          refine g_iload C dX9_frame_58 6 rfl ?_
          obtain ⟨q5, e_q5, h⟩ := bs h
          refine g_callVQ C (kX4_addFrame (hT_μ.1 _ _ 3 _ s_a0 rfl) e_q5) miX4_addFrame lmX9_117 (hT_μ.1 _ _ 3 _ s_a0 rfl) (by decide) rfl rfl rfl (Nat.le_of_ble_eq_true rfl) dX9_frame_60 ⟨by decide, by decide⟩ ⟨Nat.zero_le _, Nat.zero_le _⟩ (fun hs_q5 => ?_)
          refine g_pop C dX9_frame_63 rfl ?_
          refine g_aload_n C dX9_frame_64 0 rfl ?_
          refine g_wt (fun hT_q5_2 => ?_)
          refine g_getr (j := 3) C s_a0 (by decide) rfl uwX9 (by decide) rfl lfX9_32 rfl dX9_frame_65 ?_
          refine g_geti (j := 4) C (hT_q5_2.1 _ _ 3 _ s_a0 rfl) (by decide) rfl uwX4 (by decide) rfl lfX9_72 rfl dX9_frame_68 ?_
          refine g_iconst (v := 1) C dX9_frame_71 (by decide) ?_
          refine g_isub C dX9_frame_72 ?_
          cases h
          exact g_ireturn C rfl dX9_frame_73
        · replace h := ip q h
          refine g_iconst (v := -1) C dX9_frame_45 (by decide) ?_
          cases h
          exact g_ireturn C rfl dX9_frame_46
theorem miX9_frame : MI yX9_frame cX9_frame 7 (some .int) RX9 6 := ⟨wcX9_frame, wmX9_frame, wsX9_frame, wiX9, by decide +kernel⟩
theorem kX9_frame {l : Launch} {D : va_G} {cA : Nat → ClassId} {tS : Nat → Nat} {σ : Sg} {a0 : Nat} {v1 : Int32} {v2 : Int32} {v3 : Int32} {v4 : Int32} {v5 : Int32} {v6 : Int32} {μ : Mm} {fu : Nat} {q : Int32 × Mm} (s_a0 : σ a0 = some (9, 0)) (h : fX9_frame fu a0 v1 v2 v3 v4 v5 v6 μ = some q) : Ct l D cA tS σ yX9_frame cX9_frame 7 (some .int) (rmO 4 95) [.ref a0, .int v1, .int v2, .int v3, .int v4, .int v5, .int v6] μ (QI D cA σ q.1 q.2) :=
  Ct.of (by decide) (Nat.le_of_ble_eq_true rfl) (fun _ _ _ _ _ _ _ _ C => wX9_frame C _ _ _ _ _ _ _ _ s_a0 h)
set_option maxRecDepth 100000 in
set_option maxHeartbeats 4000000 in
theorem wX9_control_L53 {p : Program} {l : Launch} {e : Env} {s : State} {m : MethodId} {args : Array Value} {below : List Frame} {meth : Method} {c : Code} {D : va_G} {cA : Nat → ClassId} {tS : Nat → Nat} {σ : Sg} {q : Int32 × Mm} (C : Cx p s m args meth c (dm σ) D cA tS σ cX9_control (some .boolean) 7 RX9) (v2 : Int32) (v3 : Int32) (v4 : Int32) (v5 : Int32) (a6 : Nat) (μ : Mm) (s_a6 : σ a6 = some (3, 0)) (h : fX9_control_L53 v2 v3 v4 v5 a6 μ = some q) : GG p l e (rmO 1 24) s m args below meth c 0 0 (dm σ) D cA σ 7 (MQ below (QI D cA σ q.1 q.2) args s 0 0 (dm σ)) 53 [(2, .int v2), (3, .int v3), (4, .int v4), (5, .int v5), (6, .ref a6)] [] μ := by
  unfold fX9_control_L53 at h
  refine g_aload C dX9_control_53 4 rfl ?_
  refine g_wt (fun hT_μ => ?_)
  refine g_getr (j := 6) C s_a6 (by decide) rfl uwX3 (by decide) rfl lfX9_126 rfl dX9_control_55 ?_
  refine g_iload_n C dX9_control_58 0 rfl ?_
  refine g_iload_n C dX9_control_59 1 rfl ?_
  refine g_iload C dX9_control_60 2 rfl ?_
  refine g_iload C dX9_control_62 3 rfl ?_
  obtain ⟨μ1, e_μ1, h⟩ := bs h
  refine g_callVV C (kX8_become (hT_μ.1 _ _ 6 _ s_a6 rfl) e_μ1) miX8_become lmX9_132 (hT_μ.1 _ _ 6 _ s_a6 rfl) (by decide) rfl rfl rfl (Nat.le_of_ble_eq_true rfl) dX9_control_64 ⟨by decide, by decide⟩ ⟨Nat.zero_le _, Nat.zero_le _⟩ ?_
  refine g_iconst (v := 1) C dX9_control_67 (by decide) ?_
  cases h
  exact g_zreturn (r := 1) C rfl dX9_control_68
set_option maxRecDepth 100000 in
set_option maxHeartbeats 4000000 in
theorem wX9_control {p : Program} {l : Launch} {e : Env} {s : State} {m : MethodId} {args : Array Value} {below : List Frame} {meth : Method} {c : Code} {D : va_G} {cA : Nat → ClassId} {tS : Nat → Nat} {σ : Sg} {q : Int32 × Mm} (C : Cx p s m args meth c (dm σ) D cA tS σ cX9_control (some .boolean) 7 RX9) (a0 : Nat) (v1 : Int32) (v2 : Int32) (v3 : Int32) (v4 : Int32) (v5 : Int32) (μ : Mm) (s_a0 : σ a0 = some (9, 0)) (h : fX9_control a0 v1 v2 v3 v4 v5 μ = some q) : GG p l e (rmO 1 24) s m args below meth c 0 0 (dm σ) D cA σ 7 (MQ below (QI D cA σ q.1 q.2) args s 0 0 (dm σ)) 0 [(0, .ref a0), (1, .int v1), (2, .int v2), (3, .int v3), (4, .int v4), (5, .int v5)] [] μ := by
  unfold fX9_control at h
  refine g_aload_n C dX9_control_0 0 rfl ?_
  refine g_wt (fun hT_μ => ?_)
  refine g_getr (j := 3) C s_a0 (by decide) rfl uwX9 (by decide) rfl lfX9_32 rfl dX9_control_1 ?_
  refine g_iload_n C dX9_control_4 1 rfl ?_
  obtain ⟨r1, e_r1, h⟩ := bs h
  refine g_callVQ C (kX4_frameAt (hT_μ.1 _ _ 3 _ s_a0 rfl) e_r1) miX4_frameAt lmX9_121 (hT_μ.1 _ _ 3 _ s_a0 rfl) (by decide) rfl rfl rfl (Nat.le_of_ble_eq_true rfl) dX9_control_5 ⟨by decide, by decide⟩ ⟨Nat.zero_le _, Nat.zero_le _⟩ (fun hs_r1 => ?_)
  refine g_astoreq (lv' := [(6, va_rf r1), (0, .ref a0), (1, .int v1), (2, .int v2), (3, .int v3), (4, .int v4), (5, .int v5)]) C dX9_control_8 (by decide) (by rcases r1 with _ | _ <;> rfl) ?_
  refine g_aloadq C dX9_control_10 0 rfl ?_
  rcases r1 with _ | b2
  · replace h := oc0 h
    refine g_ifnullN C 37 dX9_control_12 rfl ?_
    refine g_iconst (v := 0) C dX9_control_37 (by decide) ?_
    cases h
    exact g_zreturn (r := 0) C rfl dX9_control_38
  · replace h := oc1 h
    have s_b2 : σ b2 = some (3, 0) := hs_r1 _ rfl
    refine g_ifnull C dX9_control_12 ?_
    refine g_iload_n C dX9_control_15 3 rfl ?_
    refine g_if_lt C 37 dX9_control_16 rfl (fun q => ?_) (fun q => ?_)
    · replace h := ip q h
      refine g_iconst (v := 0) C dX9_control_37 (by decide) ?_
      cases h
      exact g_zreturn (r := 0) C rfl dX9_control_38
    · replace h := iq q h
      refine g_iload_n C dX9_control_19 3 rfl ?_
      refine g_bipush (v := 7) C dX9_control_20 (by decide) ?_
      refine g_icmp_gt C 37 dX9_control_22 rfl (fun q => ?_) (fun q => ?_)
      · replace h := ip q h
        refine g_iconst (v := 0) C dX9_control_37 (by decide) ?_
        cases h
        exact g_zreturn (r := 0) C rfl dX9_control_38
      · replace h := iq q h
        refine g_iload C dX9_control_25 5 rfl ?_
        refine g_if_lt C 37 dX9_control_27 rfl (fun q => ?_) (fun q => ?_)
        · replace h := ip q h
          refine g_iconst (v := 0) C dX9_control_37 (by decide) ?_
          cases h
          exact g_zreturn (r := 0) C rfl dX9_control_38
        · replace h := iq q h
          refine g_iload C dX9_control_30 5 rfl ?_
          refine g_ldc C dX9_control_32 lkX9_125 ?_
          refine g_icmp_le C 39 dX9_control_34 rfl (fun q => ?_) (fun q => ?_)
          · replace h := ip q h
            refine g_iload_n C dX9_control_39 4 rfl ?_
            refine g_iconst (v := -1) C dX9_control_40 (by decide) ?_
            refine g_icmp_eq C 53 dX9_control_41 rfl (fun q => ?_) (fun q => ?_)
            · replace h := ip q h
              exact g_lv [3, 4, 5, 6, 0] rfl (wX9_control_L53 C _ _ _ _ _ _ s_b2 h)
            · replace h := iq q h
              refine g_iload_n C dX9_control_44 4 rfl ?_
              obtain ⟨x3, e_x3, h⟩ := nm h
              refine g_callSI C (kX9_isByte e_x3.symm) msX9_isByte lmX9_85 rfl rfl (Nat.le_of_ble_eq_true rfl) dX9_control_45 ⟨by decide, by decide⟩ ⟨Nat.zero_le _, Nat.zero_le _⟩ ?_
              refine g_if_ne C 53 dX9_control_48 rfl (fun q => ?_) (fun q => ?_)
              · replace h := iq q h
                exact g_lv [3, 4, 5, 6, 0] rfl (wX9_control_L53 C _ _ _ _ _ _ s_b2 h)
              · replace h := ip q h
                refine g_iconst (v := 0) C dX9_control_51 (by decide) ?_
                cases h
                exact g_zreturn (r := 0) C rfl dX9_control_52
          · replace h := iq q h
            refine g_iconst (v := 0) C dX9_control_37 (by decide) ?_
            cases h
            exact g_zreturn (r := 0) C rfl dX9_control_38
theorem miX9_control : MI yX9_control cX9_control 7 (some .boolean) RX9 5 := ⟨wcX9_control, wmX9_control, wsX9_control, wiX9, by decide +kernel⟩
theorem kX9_control {l : Launch} {D : va_G} {cA : Nat → ClassId} {tS : Nat → Nat} {σ : Sg} {a0 : Nat} {v1 : Int32} {v2 : Int32} {v3 : Int32} {v4 : Int32} {v5 : Int32} {μ : Mm} {q : Int32 × Mm} (s_a0 : σ a0 = some (9, 0)) (h : fX9_control a0 v1 v2 v3 v4 v5 μ = some q) : Ct l D cA tS σ yX9_control cX9_control 7 (some .boolean) (rmO 1 24) [.ref a0, .int v1, .int v2, .int v3, .int v4, .int v5] μ (QI D cA σ q.1 q.2) :=
  Ct.of (by decide) (Nat.le_of_ble_eq_true rfl) (fun _ _ _ _ _ _ _ _ C => wX9_control C _ _ _ _ _ _ _ s_a0 h)
set_option maxRecDepth 100000 in
set_option maxHeartbeats 4000000 in
theorem wX9_paint {p : Program} {l : Launch} {e : Env} {s : State} {m : MethodId} {args : Array Value} {below : List Frame} {meth : Method} {c : Code} {D : va_G} {cA : Nat → ClassId} {tS : Nat → Nat} {σ : Sg} {fu : Nat} {q : Int32 × Mm} (C : Cx p s m args meth c (dm σ) D cA tS σ cX9_paint (some .boolean) 6 RX9) (a0 : Nat) (v1 : Int32) (v2 : Int32) (v3 : Int32) (v4 : Int32) (μ : Mm) (s_a0 : σ a0 = some (9, 0)) (h : fX9_paint fu a0 v1 v2 v3 v4 μ = some q) : GG p l e (rmO 1 24) s m args below meth c 0 0 (dm σ) D cA σ 6 (MQ below (QI D cA σ q.1 q.2) args s 0 0 (dm σ)) 0 [(0, .ref a0), (1, .int v1), (2, .int v2), (3, .int v3), (4, .int v4)] [] μ := by
  unfold fX9_paint at h
  refine g_aload_n C dX9_paint_0 0 rfl ?_
  refine g_wt (fun hT_μ => ?_)
  refine g_getr (j := 3) C s_a0 (by decide) rfl uwX9 (by decide) rfl lfX9_32 rfl dX9_paint_1 ?_
  refine g_iload_n C dX9_paint_4 1 rfl ?_
  obtain ⟨r1, e_r1, h⟩ := bs h
  refine g_callVQ C (kX4_frameAt (hT_μ.1 _ _ 3 _ s_a0 rfl) e_r1) miX4_frameAt lmX9_121 (hT_μ.1 _ _ 3 _ s_a0 rfl) (by decide) rfl rfl rfl (Nat.le_of_ble_eq_true rfl) dX9_paint_5 ⟨by decide, by decide⟩ ⟨Nat.zero_le _, Nat.zero_le _⟩ (fun hs_r1 => ?_)
  refine g_astoreq (lv' := [(5, va_rf r1), (0, .ref a0), (1, .int v1), (2, .int v2), (3, .int v3), (4, .int v4)]) C dX9_paint_8 (by decide) (by rcases r1 with _ | _ <;> rfl) ?_
  refine g_aloadq C dX9_paint_10 0 rfl ?_
  rcases r1 with _ | b2
  · replace h := oc0 h
    refine g_ifnullN C 43 dX9_paint_12 rfl ?_
    refine g_iconst (v := 0) C dX9_paint_43 (by decide) ?_
    cases h
    exact g_zreturn (r := 0) C rfl dX9_paint_44
  · replace h := oc1 h
    have s_b2 : σ b2 = some (3, 0) := hs_r1 _ rfl
    refine g_ifnull C dX9_paint_12 ?_
    refine g_iload_n C dX9_paint_15 3 rfl ?_
    refine g_if_lt C 43 dX9_paint_16 rfl (fun q => ?_) (fun q => ?_)
    · replace h := ip q h
      refine g_iconst (v := 0) C dX9_paint_43 (by decide) ?_
      cases h
      exact g_zreturn (r := 0) C rfl dX9_paint_44
    · replace h := iq q h
      refine g_iload_n C dX9_paint_19 4 rfl ?_
      refine g_if_lt C 43 dX9_paint_20 rfl (fun q => ?_) (fun q => ?_)
      · replace h := ip q h
        refine g_iconst (v := 0) C dX9_paint_43 (by decide) ?_
        cases h
        exact g_zreturn (r := 0) C rfl dX9_paint_44
      · replace h := iq q h
        refine g_iload_n C dX9_paint_23 3 rfl ?_
        refine g_aload C dX9_paint_24 0 rfl ?_
        obtain ⟨x3, e_x3, h⟩ := nm h
        refine g_callVI C (kX3_size s_b2 e_x3.symm) miX3_size lmX9_138 s_b2 (by decide) rfl rfl rfl (Nat.le_of_ble_eq_true rfl) dX9_paint_26 ⟨by decide, by decide⟩ ⟨Nat.zero_le _, Nat.zero_le _⟩ ?_
        refine g_icmp_gt C 43 dX9_paint_29 rfl (fun q => ?_) (fun q => ?_)
        · replace h := ip q h
          refine g_iconst (v := 0) C dX9_paint_43 (by decide) ?_
          cases h
          exact g_zreturn (r := 0) C rfl dX9_paint_44
        · replace h := iq q h
          refine g_iload_n C dX9_paint_32 4 rfl ?_
          refine g_aload C dX9_paint_33 0 rfl ?_
          obtain ⟨x4, e_x4, h⟩ := nm h
          refine g_callVI C (kX3_size s_b2 e_x4.symm) miX3_size lmX9_138 s_b2 (by decide) rfl rfl rfl (Nat.le_of_ble_eq_true rfl) dX9_paint_35 ⟨by decide, by decide⟩ ⟨Nat.zero_le _, Nat.zero_le _⟩ ?_
          refine g_iload_n C dX9_paint_38 3 rfl ?_
          refine g_isub C dX9_paint_39 ?_
          refine g_icmp_le C 45 dX9_paint_40 rfl (fun q => ?_) (fun q => ?_)
          · replace h := ip q h
            refine g_aload_n C dX9_paint_45 1 rfl ?_
            refine g_getr (j := 3) C s_a0 (by decide) rfl uwX9 (by decide) rfl lfX9_32 rfl dX9_paint_46 ?_
            refine g_aload C dX9_paint_49 0 rfl ?_
            obtain ⟨r5, e_r5, h⟩ := nm h
            refine g_callVQ C (kX4_tableOf (hT_μ.1 _ _ 3 _ s_a0 rfl) s_b2 e_r5.symm) miX4_tableOf lmX9_141 (hT_μ.1 _ _ 3 _ s_a0 rfl) (by decide) rfl rfl rfl (Nat.le_of_ble_eq_true rfl) dX9_paint_51 ⟨by decide, by decide⟩ ⟨Nat.zero_le _, Nat.zero_le _⟩ (fun hs_r5 => ?_)
            refine g_iload C dX9_paint_54 5 rfl ?_
            obtain ⟨x6, e_x6, h⟩ := nm h
            refine g_callVI C (kX7_has (hs_r5 _ rfl) e_x6.symm) miX7_has lmX9_96 (hs_r5 _ rfl) (by decide) rfl rfl rfl (Nat.le_of_ble_eq_true rfl) dX9_paint_56 ⟨by decide, by decide⟩ ⟨Nat.zero_le _, Nat.zero_le _⟩ ?_
            refine g_if_ne C 64 dX9_paint_59 rfl (fun q => ?_) (fun q => ?_)
            · replace h := iq q h
              refine g_aload C dX9_paint_64 0 rfl ?_
              refine g_iload_n C dX9_paint_66 3 rfl ?_
              refine g_iload_n C dX9_paint_67 3 rfl ?_
              refine g_iload_n C dX9_paint_68 4 rfl ?_
              refine g_iadd C dX9_paint_69 ?_
              refine g_iload C dX9_paint_70 5 rfl ?_
              obtain ⟨μ7, e_μ7, h⟩ := bs h
              refine g_callVV C (kX3_fill s_b2 e_μ7) miX3_fill lmX9_145 s_b2 (by decide) rfl rfl rfl (Nat.le_of_ble_eq_true rfl) dX9_paint_72 ⟨by decide, by decide⟩ ⟨Nat.zero_le _, Nat.zero_le _⟩ ?_
              refine g_iconst (v := 1) C dX9_paint_75 (by decide) ?_
              cases h
              exact g_zreturn (r := 1) C rfl dX9_paint_76
            · replace h := ip q h
              refine g_iconst (v := 0) C dX9_paint_62 (by decide) ?_
              cases h
              exact g_zreturn (r := 0) C rfl dX9_paint_63
          · replace h := iq q h
            refine g_iconst (v := 0) C dX9_paint_43 (by decide) ?_
            cases h
            exact g_zreturn (r := 0) C rfl dX9_paint_44
theorem miX9_paint : MI yX9_paint cX9_paint 6 (some .boolean) RX9 4 := ⟨wcX9_paint, wmX9_paint, wsX9_paint, wiX9, by decide +kernel⟩
theorem kX9_paint {l : Launch} {D : va_G} {cA : Nat → ClassId} {tS : Nat → Nat} {σ : Sg} {a0 : Nat} {v1 : Int32} {v2 : Int32} {v3 : Int32} {v4 : Int32} {μ : Mm} {fu : Nat} {q : Int32 × Mm} (s_a0 : σ a0 = some (9, 0)) (h : fX9_paint fu a0 v1 v2 v3 v4 μ = some q) : Ct l D cA tS σ yX9_paint cX9_paint 6 (some .boolean) (rmO 1 24) [.ref a0, .int v1, .int v2, .int v3, .int v4] μ (QI D cA σ q.1 q.2) :=
  Ct.of (by decide) (Nat.le_of_ble_eq_true rfl) (fun _ _ _ _ _ _ _ _ C => wX9_paint C _ _ _ _ _ _ s_a0 h)
set_option maxRecDepth 100000 in
set_option maxHeartbeats 4000000 in
theorem wX9_write {p : Program} {l : Launch} {e : Env} {s : State} {m : MethodId} {args : Array Value} {below : List Frame} {meth : Method} {c : Code} {D : va_G} {cA : Nat → ClassId} {tS : Nat → Nat} {σ : Sg} {fu : Nat} {q : Int32 × Mm} (C : Cx p s m args meth c (dm σ) D cA tS σ cX9_write (some .int) 1 RX9) (a0 : Nat) (μ : Mm) (s_a0 : σ a0 = some (9, 0)) (h : fX9_write fu a0 μ = some q) : GG p l e (rmO 6 137) s m args below meth c 0 0 (dm σ) D cA σ 1 (MQ below (QI D cA σ q.1 q.2) args s 0 0 (dm σ)) 0 [(0, .ref a0)] [] μ := by
  unfold fX9_write at h
  refine g_aload_n C dX9_write_0 0 rfl ?_
  refine g_wt (fun hT_μ => ?_)
  refine g_getr (j := 2) C s_a0 (by decide) rfl uwX9 (by decide) rfl lfX9_39 rfl dX9_write_1 ?_
  refine g_aload_n C dX9_write_4 0 rfl ?_
  refine g_getr (j := 3) C s_a0 (by decide) rfl uwX9 (by decide) rfl lfX9_32 rfl dX9_write_5 ?_
  obtain ⟨q1, e_q1, h⟩ := bs h
  refine g_callVI C (kX6_compose (hT_μ.1 _ _ 2 _ s_a0 rfl) (hT_μ.1 _ _ 3 _ s_a0 rfl) e_q1) miX6_compose lmX9_149 (hT_μ.1 _ _ 2 _ s_a0 rfl) (by decide) rfl rfl rfl (Nat.le_of_ble_eq_true rfl) dX9_write_8 ⟨by decide, by decide⟩ ⟨Nat.zero_le _, Nat.zero_le _⟩ ?_
  refine g_if_ne C 16 dX9_write_11 rfl (fun q => ?_) (fun q => ?_)
  · replace h := iq q h
    refine g_aload_n C dX9_write_16 0 rfl ?_
    refine g_aload_n C dX9_write_17 0 rfl ?_
    refine g_wt (fun hT_q1_2 => ?_)
    refine g_getr (j := 2) C s_a0 (by decide) rfl uwX9 (by decide) rfl lfX9_39 rfl dX9_write_18 ?_
    refine g_aload_n C dX9_write_21 0 rfl ?_
    refine g_getr (j := 4) C s_a0 (by decide) rfl uwX9 (by decide) rfl lfX9_26 rfl dX9_write_22 ?_
    obtain ⟨q2, e_q2, h⟩ := nm h
    refine g_callVQ C (kX6_exchange (hT_q1_2.1 _ _ 2 _ s_a0 rfl) (hT_q1_2.1 _ _ 4 _ s_a0 rfl) e_q2.symm) miX6_exchange lmX9_153 (hT_q1_2.1 _ _ 2 _ s_a0 rfl) (by decide) rfl rfl rfl (Nat.le_of_ble_eq_true rfl) dX9_write_25 ⟨by decide, by decide⟩ ⟨Nat.zero_le _, Nat.zero_le _⟩ (fun hs_q2 => ?_)
    refine g_putr (j := 4) C s_a0 (by decide) rfl (hs_q2 _ rfl) rfl uwX9 tyX9_ok nmX9 (by decide) rfl lfX9_26 rfl rfl rfl (fun _ _ => rfl) (fun _ _ => Nat.le_of_ble_eq_true rfl) dX9_write_28 ?_
    obtain ⟨μ3, e_μ3, h⟩ := nm h
    refine g_mu e_μ3 ?_
    refine g_aload_n C dX9_write_31 0 rfl ?_
    refine g_wt (fun hT_μ3 => ?_)
    refine g_getr (j := 4) C s_a0 (by decide) rfl uwX9 (by decide) rfl lfX9_26 rfl dX9_write_32 ?_
    refine g_geti (j := 1) C (hT_μ3.1 _ _ 4 _ s_a0 rfl) (by decide) rfl uwX0 (by decide) rfl lfX9_47 rfl dX9_write_35 ?_
    cases h
    exact g_ireturn C rfl dX9_write_38
  · replace h := ip q h
    refine g_iconst (v := -1) C dX9_write_14 (by decide) ?_
    cases h
    exact g_ireturn C rfl dX9_write_15
theorem miX9_write : MI yX9_write cX9_write 1 (some .int) RX9 0 := ⟨wcX9_write, wmX9_write, wsX9_write, wiX9, by decide +kernel⟩
theorem kX9_write {l : Launch} {D : va_G} {cA : Nat → ClassId} {tS : Nat → Nat} {σ : Sg} {a0 : Nat} {μ : Mm} {fu : Nat} {q : Int32 × Mm} (s_a0 : σ a0 = some (9, 0)) (h : fX9_write fu a0 μ = some q) : Ct l D cA tS σ yX9_write cX9_write 1 (some .int) (rmO 6 137) [.ref a0] μ (QI D cA σ q.1 q.2) :=
  Ct.of (by decide) (Nat.le_of_ble_eq_true rfl) (fun _ _ _ _ _ _ _ _ C => wX9_write C _ _ s_a0 h)
set_option maxRecDepth 100000 in
set_option maxHeartbeats 4000000 in
theorem wX9_out {p : Program} {l : Launch} {e : Env} {s : State} {m : MethodId} {args : Array Value} {below : List Frame} {meth : Method} {c : Code} {D : va_G} {cA : Nat → ClassId} {tS : Nat → Nat} {σ : Sg} {q : Int32} (C : Cx p s m args meth c (dm σ) D cA tS σ cX9_out (some .int) 2 RX9) (a0 : Nat) (v1 : Int32) (μ : Mm) (s_a0 : σ a0 = some (9, 0)) (h : fX9_out a0 v1 μ = some q) : GG p l e (rmO 1 21) s m args below meth c 0 0 (dm σ) D cA σ 2 (MQ below (QI D cA σ q μ) args s 0 0 (dm σ)) 0 [(0, .ref a0), (1, .int v1)] [] μ := by
  unfold fX9_out at h
  refine g_aload_n C dX9_out_0 0 rfl ?_
  refine g_wt (fun hT_μ => ?_)
  refine g_getr (j := 4) C s_a0 (by decide) rfl uwX9 (by decide) rfl lfX9_26 rfl dX9_out_1 ?_
  refine g_iload_n C dX9_out_4 1 rfl ?_
  obtain ⟨x1, e_x1, h⟩ := bs h
  refine g_callVI C (kX0_at (hT_μ.1 _ _ 4 _ s_a0 rfl) e_x1) miX0_at lmX9_156 (hT_μ.1 _ _ 4 _ s_a0 rfl) (by decide) rfl rfl rfl (Nat.le_of_ble_eq_true rfl) dX9_out_5 ⟨by decide, by decide⟩ ⟨Nat.zero_le _, Nat.zero_le _⟩ ?_
  cases h
  exact g_ireturn C rfl dX9_out_8
theorem miX9_out : MI yX9_out cX9_out 2 (some .int) RX9 1 := ⟨wcX9_out, wmX9_out, wsX9_out, wiX9, by decide +kernel⟩
theorem kX9_out {l : Launch} {D : va_G} {cA : Nat → ClassId} {tS : Nat → Nat} {σ : Sg} {a0 : Nat} {v1 : Int32} {μ : Mm} {q : Int32} (s_a0 : σ a0 = some (9, 0)) (h : fX9_out a0 v1 μ = some q) : Ct l D cA tS σ yX9_out cX9_out 2 (some .int) (rmO 1 21) [.ref a0, .int v1] μ (QI D cA σ q μ) :=
  Ct.of (by decide) (Nat.le_of_ble_eq_true rfl) (fun _ _ _ _ _ _ _ _ C => wX9_out C _ _ _ s_a0 h)
set_option maxRecDepth 100000 in
set_option maxHeartbeats 4000000 in
theorem wX9_about {p : Program} {l : Launch} {e : Env} {s : State} {m : MethodId} {args : Array Value} {below : List Frame} {meth : Method} {c : Code} {D : va_G} {cA : Nat → ClassId} {tS : Nat → Nat} {σ : Sg} {q : Int32} (C : Cx p s m args meth c (dm σ) D cA tS σ cX9_about (some .int) 2 RX9) (a0 : Nat) (v1 : Int32) (μ : Mm) (s_a0 : σ a0 = some (9, 0)) (h : fX9_about a0 v1 μ = q) : GG p l e (rmO 0 0) s m args below meth c 0 0 (dm σ) D cA σ 2 (MQ below (QI D cA σ q μ) args s 0 0 (dm σ)) 0 [(0, .ref a0), (1, .int v1)] [] μ := by
  unfold fX9_about at h
  refine g_iload_n C dX9_about_0 1 rfl ?_
  by_cases q1_0 : v1 = 0
  · replace h := ip q1_0 h
    refine g_tabIn C 48 0 dX9_about_1 (sw_in q1_0 rfl) (by decide) (by decide) rfl rfl ?_
    refine g_aload_n C dX9_about_48 0 rfl ?_
    refine g_wt (fun hT_μ => ?_)
    refine g_getr (j := 3) C s_a0 (by decide) rfl uwX9 (by decide) rfl lfX9_32 rfl dX9_about_49 ?_
    refine g_geti (j := 0) C (hT_μ.1 _ _ 3 _ s_a0 rfl) (by decide) rfl uwX4 (by decide) rfl lfX9_160 rfl dX9_about_52 ?_
    subst h
    exact g_ireturn C rfl dX9_about_55
  · replace h := iq q1_0 h
    by_cases q1_1 : v1 = 1
    · replace h := ip q1_1 h
      refine g_tabIn C 56 1 dX9_about_1 (sw_in q1_1 rfl) (by decide) (by decide) rfl rfl ?_
      refine g_aload_n C dX9_about_56 0 rfl ?_
      refine g_wt (fun hT_μ => ?_)
      refine g_getr (j := 3) C s_a0 (by decide) rfl uwX9 (by decide) rfl lfX9_32 rfl dX9_about_57 ?_
      refine g_geti (j := 1) C (hT_μ.1 _ _ 3 _ s_a0 rfl) (by decide) rfl uwX4 (by decide) rfl lfX9_163 rfl dX9_about_60 ?_
      subst h
      exact g_ireturn C rfl dX9_about_63
    · replace h := iq q1_1 h
      by_cases q1_2 : v1 = 2
      · replace h := ip q1_2 h
        refine g_tabIn C 64 2 dX9_about_1 (sw_in q1_2 rfl) (by decide) (by decide) rfl rfl ?_
        refine g_aload_n C dX9_about_64 0 rfl ?_
        refine g_wt (fun hT_μ => ?_)
        refine g_getr (j := 3) C s_a0 (by decide) rfl uwX9 (by decide) rfl lfX9_32 rfl dX9_about_65 ?_
        refine g_getr (j := 5) C (hT_μ.1 _ _ 3 _ s_a0 rfl) (by decide) rfl uwX4 (by decide) rfl lfX9_166 rfl dX9_about_68 ?_
        refine g_geti (j := 1) C (hT_μ.1 _ _ 5 _ (hT_μ.1 _ _ 3 _ s_a0 rfl) rfl) (by decide) rfl uwX7 (by decide) rfl lfX9_170 rfl dX9_about_71 ?_
        subst h
        exact g_ireturn C rfl dX9_about_74
      · replace h := iq q1_2 h
        by_cases q1_3 : v1 = 3
        · replace h := ip q1_3 h
          refine g_tabIn C 75 3 dX9_about_1 (sw_in q1_3 rfl) (by decide) (by decide) rfl rfl ?_
          refine g_aload_n C dX9_about_75 0 rfl ?_
          refine g_wt (fun hT_μ => ?_)
          refine g_getr (j := 3) C s_a0 (by decide) rfl uwX9 (by decide) rfl lfX9_32 rfl dX9_about_76 ?_
          refine g_geti (j := 2) C (hT_μ.1 _ _ 3 _ s_a0 rfl) (by decide) rfl uwX4 (by decide) rfl lfX9_171 rfl dX9_about_79 ?_
          subst h
          exact g_ireturn C rfl dX9_about_82
        · replace h := iq q1_3 h
          by_cases q1_4 : v1 = 4
          · replace h := ip q1_4 h
            refine g_tabIn C 83 4 dX9_about_1 (sw_in q1_4 rfl) (by decide) (by decide) rfl rfl ?_
            refine g_aload_n C dX9_about_83 0 rfl ?_
            refine g_wt (fun hT_μ => ?_)
            refine g_getr (j := 3) C s_a0 (by decide) rfl uwX9 (by decide) rfl lfX9_32 rfl dX9_about_84 ?_
            refine g_geti (j := 3) C (hT_μ.1 _ _ 3 _ s_a0 rfl) (by decide) rfl uwX4 (by decide) rfl lfX9_174 rfl dX9_about_87 ?_
            subst h
            exact g_ireturn C rfl dX9_about_90
          · replace h := iq q1_4 h
            by_cases q1_5 : v1 = 5
            · replace h := ip q1_5 h
              refine g_tabIn C 91 5 dX9_about_1 (sw_in q1_5 rfl) (by decide) (by decide) rfl rfl ?_
              refine g_aload_n C dX9_about_91 0 rfl ?_
              refine g_wt (fun hT_μ => ?_)
              refine g_getr (j := 3) C s_a0 (by decide) rfl uwX9 (by decide) rfl lfX9_32 rfl dX9_about_92 ?_
              refine g_geti (j := 4) C (hT_μ.1 _ _ 3 _ s_a0 rfl) (by decide) rfl uwX4 (by decide) rfl lfX9_72 rfl dX9_about_95 ?_
              subst h
              exact g_ireturn C rfl dX9_about_98
            · replace h := iq q1_5 h
              by_cases q1_6 : v1 = 6
              · replace h := ip q1_6 h
                refine g_tabIn C 99 6 dX9_about_1 (sw_in q1_6 rfl) (by decide) (by decide) rfl rfl ?_
                refine g_aload_n C dX9_about_99 0 rfl ?_
                refine g_wt (fun hT_μ => ?_)
                refine g_getr (j := 0) C s_a0 (by decide) rfl uwX9 (by decide) rfl lfX9_20 rfl dX9_about_100 ?_
                refine g_geti (j := 1) C (hT_μ.1 _ _ 0 _ s_a0 rfl) (by decide) rfl uwX0 (by decide) rfl lfX9_47 rfl dX9_about_103 ?_
                subst h
                exact g_ireturn C rfl dX9_about_106
              · replace h := iq q1_6 h
                by_cases q1_7 : v1 = 7
                · replace h := ip q1_7 h
                  refine g_tabIn C 107 7 dX9_about_1 (sw_in q1_7 rfl) (by decide) (by decide) rfl rfl ?_
                  refine g_aload_n C dX9_about_107 0 rfl ?_
                  refine g_wt (fun hT_μ => ?_)
                  refine g_getr (j := 4) C s_a0 (by decide) rfl uwX9 (by decide) rfl lfX9_26 rfl dX9_about_108 ?_
                  refine g_geti (j := 1) C (hT_μ.1 _ _ 4 _ s_a0 rfl) (by decide) rfl uwX0 (by decide) rfl lfX9_47 rfl dX9_about_111 ?_
                  subst h
                  exact g_ireturn C rfl dX9_about_114
                · replace h := iq q1_7 h
                  refine g_tabOut C 115 dX9_about_1 (by have := lv_neT q1_0 (show Int32.toInt 0 = 0 from rfl); have := lv_neT q1_1 (show Int32.toInt 1 = 1 from rfl); have := lv_neT q1_2 (show Int32.toInt 2 = 2 from rfl); have := lv_neT q1_3 (show Int32.toInt 3 = 3 from rfl); have := lv_neT q1_4 (show Int32.toInt 4 = 4 from rfl); have := lv_neT q1_5 (show Int32.toInt 5 = 5 from rfl); have := lv_neT q1_6 (show Int32.toInt 6 = 6 from rfl); have := lv_neT q1_7 (show Int32.toInt 7 = 7 from rfl); omega) rfl ?_
                  refine g_iconst (v := -1) C dX9_about_115 (by decide) ?_
                  subst h
                  exact g_ireturn C rfl dX9_about_116
theorem miX9_about : MI yX9_about cX9_about 2 (some .int) RX9 1 := ⟨wcX9_about, wmX9_about, wsX9_about, wiX9, by decide +kernel⟩
theorem kX9_about {l : Launch} {D : va_G} {cA : Nat → ClassId} {tS : Nat → Nat} {σ : Sg} {a0 : Nat} {v1 : Int32} {μ : Mm} {q : Int32} (s_a0 : σ a0 = some (9, 0)) (h : fX9_about a0 v1 μ = q) : Ct l D cA tS σ yX9_about cX9_about 2 (some .int) (rmO 0 0) [.ref a0, .int v1] μ (QI D cA σ q μ) :=
  Ct.of (by decide) (Nat.le_of_ble_eq_true rfl) (fun _ _ _ _ _ _ _ _ C => wX9_about C _ _ _ s_a0 h)
set_option maxRecDepth 100000 in
set_option maxHeartbeats 4000000 in
theorem wX9_frameOf {p : Program} {l : Launch} {e : Env} {s : State} {m : MethodId} {args : Array Value} {below : List Frame} {meth : Method} {c : Code} {D : va_G} {cA : Nat → ClassId} {tS : Nat → Nat} {σ : Sg} {q : Int32} (C : Cx p s m args meth c (dm σ) D cA tS σ cX9_frameOf (some .int) 4 RX9) (a0 : Nat) (v1 : Int32) (v2 : Int32) (μ : Mm) (s_a0 : σ a0 = some (9, 0)) (h : fX9_frameOf a0 v1 v2 μ = some q) : GG p l e (rmO 1 21) s m args below meth c 0 0 (dm σ) D cA σ 4 (MQ below (QI D cA σ q μ) args s 0 0 (dm σ)) 0 [(0, .ref a0), (1, .int v1), (2, .int v2)] [] μ := by
  unfold fX9_frameOf at h
  refine g_aload_n C dX9_frameOf_0 0 rfl ?_
  refine g_wt (fun hT_μ => ?_)
  refine g_getr (j := 3) C s_a0 (by decide) rfl uwX9 (by decide) rfl lfX9_32 rfl dX9_frameOf_1 ?_
  refine g_iload_n C dX9_frameOf_4 1 rfl ?_
  obtain ⟨r1, e_r1, h⟩ := bs h
  refine g_callVQ C (kX4_frameAt (hT_μ.1 _ _ 3 _ s_a0 rfl) e_r1) miX4_frameAt lmX9_121 (hT_μ.1 _ _ 3 _ s_a0 rfl) (by decide) rfl rfl rfl (Nat.le_of_ble_eq_true rfl) dX9_frameOf_5 ⟨by decide, by decide⟩ ⟨Nat.zero_le _, Nat.zero_le _⟩ (fun hs_r1 => ?_)
  refine g_astore_nq (lv' := [(3, va_rf r1), (0, .ref a0), (1, .int v1), (2, .int v2)]) C dX9_frameOf_8 (by decide) (by rcases r1 with _ | _ <;> rfl) ?_
  refine g_aload_nq C dX9_frameOf_9 0 rfl ?_
  rcases r1 with _ | b2
  · replace h := oc0 h
    refine g_ifnonnullN C dX9_frameOf_10 ?_
    refine g_iconst (v := -1) C dX9_frameOf_13 (by decide) ?_
    cases h
    exact g_ireturn C rfl dX9_frameOf_14
  · replace h := oc1 h
    have s_b2 : σ b2 = some (3, 0) := hs_r1 _ rfl
    refine g_ifnonnull C 15 dX9_frameOf_10 rfl ?_
    refine g_iload_n C dX9_frameOf_15 3 rfl ?_
    by_cases q16_0 : v2 = 0
    · replace h := ip q16_0 h
      refine g_tabIn C 72 0 dX9_frameOf_16 (sw_in q16_0 rfl) (by decide) (by decide) rfl rfl ?_
      refine g_aload_n C dX9_frameOf_72 0 rfl ?_
      refine g_geti (j := 0) C s_b2 (by decide) rfl uwX3 (by decide) rfl lfX9_177 rfl dX9_frameOf_73 ?_
      cases h
      exact g_ireturn C rfl dX9_frameOf_76
    · replace h := iq q16_0 h
      by_cases q16_1 : v2 = 1
      · replace h := ip q16_1 h
        refine g_tabIn C 77 1 dX9_frameOf_16 (sw_in q16_1 rfl) (by decide) (by decide) rfl rfl ?_
        refine g_aload_n C dX9_frameOf_77 0 rfl ?_
        refine g_geti (j := 1) C s_b2 (by decide) rfl uwX3 (by decide) rfl lfX9_180 rfl dX9_frameOf_78 ?_
        cases h
        exact g_ireturn C rfl dX9_frameOf_81
      · replace h := iq q16_1 h
        by_cases q16_2 : v2 = 2
        · replace h := ip q16_2 h
          refine g_tabIn C 82 2 dX9_frameOf_16 (sw_in q16_2 rfl) (by decide) (by decide) rfl rfl ?_
          refine g_aload_n C dX9_frameOf_82 0 rfl ?_
          refine g_geti (j := 2) C s_b2 (by decide) rfl uwX3 (by decide) rfl lfX9_183 rfl dX9_frameOf_83 ?_
          cases h
          exact g_ireturn C rfl dX9_frameOf_86
        · replace h := iq q16_2 h
          by_cases q16_3 : v2 = 3
          · replace h := ip q16_3 h
            refine g_tabIn C 87 3 dX9_frameOf_16 (sw_in q16_3 rfl) (by decide) (by decide) rfl rfl ?_
            refine g_aload_n C dX9_frameOf_87 0 rfl ?_
            refine g_geti (j := 3) C s_b2 (by decide) rfl uwX3 (by decide) rfl lfX9_184 rfl dX9_frameOf_88 ?_
            cases h
            exact g_ireturn C rfl dX9_frameOf_91
          · replace h := iq q16_3 h
            by_cases q16_4 : v2 = 4
            · replace h := ip q16_4 h
              refine g_tabIn C 92 4 dX9_frameOf_16 (sw_in q16_4 rfl) (by decide) (by decide) rfl rfl ?_
              refine g_aload_n C dX9_frameOf_92 0 rfl ?_
              refine g_getr (j := 5) C s_b2 (by decide) rfl uwX3 (by decide) rfl lfX9_185 rfl dX9_frameOf_93 ?_
              refine g_geti (j := 1) C (hT_μ.1 _ _ 5 _ s_b2 rfl) (by decide) rfl uwX7 (by decide) rfl lfX9_170 rfl dX9_frameOf_96 ?_
              cases h
              exact g_ireturn C rfl dX9_frameOf_99
            · replace h := iq q16_4 h
              by_cases q16_5 : v2 = 5
              · replace h := ip q16_5 h
                refine g_tabIn C 100 5 dX9_frameOf_16 (sw_in q16_5 rfl) (by decide) (by decide) rfl rfl ?_
                refine g_aload_n C dX9_frameOf_100 0 rfl ?_
                refine g_geti (j := 4) C s_b2 (by decide) rfl uwX3 (by decide) rfl lfX9_188 rfl dX9_frameOf_101 ?_
                refine g_if_eq C 111 dX9_frameOf_104 rfl (fun q => ?_) (fun q => ?_)
                · replace h := ip q h
                  refine g_iconst (v := 0) C dX9_frameOf_111 (by decide) ?_
                  cases h
                  exact g_ireturn C rfl dX9_frameOf_112
                · replace h := iq q h
                  refine g_iconst (v := 1) C dX9_frameOf_107 (by decide) ?_
                  refine g_goto C 112 dX9_frameOf_108 rfl ?_
                  cases h
                  exact g_ireturn C rfl dX9_frameOf_112
              · replace h := iq q16_5 h
                by_cases q16_6 : v2 = 6
                · replace h := ip q16_6 h
                  refine g_tabIn C 113 6 dX9_frameOf_16 (sw_in q16_6 rfl) (by decide) (by decide) rfl rfl ?_
                  refine g_aload_n C dX9_frameOf_113 0 rfl ?_
                  refine g_getr (j := 6) C s_b2 (by decide) rfl uwX3 (by decide) rfl lfX9_126 rfl dX9_frameOf_114 ?_
                  refine g_geti (j := 0) C (hT_μ.1 _ _ 6 _ s_b2 rfl) (by decide) rfl uwX8 (by decide) rfl lfX9_191 rfl dX9_frameOf_117 ?_
                  cases h
                  exact g_ireturn C rfl dX9_frameOf_120
                · replace h := iq q16_6 h
                  by_cases q16_7 : v2 = 7
                  · replace h := ip q16_7 h
                    refine g_tabIn C 121 7 dX9_frameOf_16 (sw_in q16_7 rfl) (by decide) (by decide) rfl rfl ?_
                    refine g_aload_n C dX9_frameOf_121 0 rfl ?_
                    refine g_getr (j := 6) C s_b2 (by decide) rfl uwX3 (by decide) rfl lfX9_126 rfl dX9_frameOf_122 ?_
                    refine g_geti (j := 1) C (hT_μ.1 _ _ 6 _ s_b2 rfl) (by decide) rfl uwX8 (by decide) rfl lfX9_194 rfl dX9_frameOf_125 ?_
                    cases h
                    exact g_ireturn C rfl dX9_frameOf_128
                  · replace h := iq q16_7 h
                    by_cases q16_8 : v2 = 8
                    · replace h := ip q16_8 h
                      refine g_tabIn C 129 8 dX9_frameOf_16 (sw_in q16_8 rfl) (by decide) (by decide) rfl rfl ?_
                      refine g_aload_n C dX9_frameOf_129 0 rfl ?_
                      refine g_getr (j := 6) C s_b2 (by decide) rfl uwX3 (by decide) rfl lfX9_126 rfl dX9_frameOf_130 ?_
                      refine g_geti (j := 2) C (hT_μ.1 _ _ 6 _ s_b2 rfl) (by decide) rfl uwX8 (by decide) rfl lfX9_197 rfl dX9_frameOf_133 ?_
                      cases h
                      exact g_ireturn C rfl dX9_frameOf_136
                    · replace h := iq q16_8 h
                      by_cases q16_9 : v2 = 9
                      · replace h := ip q16_9 h
                        refine g_tabIn C 137 9 dX9_frameOf_16 (sw_in q16_9 rfl) (by decide) (by decide) rfl rfl ?_
                        refine g_aload_n C dX9_frameOf_137 0 rfl ?_
                        refine g_getr (j := 6) C s_b2 (by decide) rfl uwX3 (by decide) rfl lfX9_126 rfl dX9_frameOf_138 ?_
                        refine g_geti (j := 3) C (hT_μ.1 _ _ 6 _ s_b2 rfl) (by decide) rfl uwX8 (by decide) rfl lfX9_200 rfl dX9_frameOf_141 ?_
                        refine g_if_eq C 151 dX9_frameOf_144 rfl (fun q => ?_) (fun q => ?_)
                        · replace h := ip q h
                          refine g_iconst (v := 0) C dX9_frameOf_151 (by decide) ?_
                          cases h
                          exact g_ireturn C rfl dX9_frameOf_152
                        · replace h := iq q h
                          refine g_iconst (v := 1) C dX9_frameOf_147 (by decide) ?_
                          refine g_goto C 152 dX9_frameOf_148 rfl ?_
                          cases h
                          exact g_ireturn C rfl dX9_frameOf_152
                      · replace h := iq q16_9 h
                        refine g_tabOut C 153 dX9_frameOf_16 (by have := lv_neT q16_0 (show Int32.toInt 0 = 0 from rfl); have := lv_neT q16_1 (show Int32.toInt 1 = 1 from rfl); have := lv_neT q16_2 (show Int32.toInt 2 = 2 from rfl); have := lv_neT q16_3 (show Int32.toInt 3 = 3 from rfl); have := lv_neT q16_4 (show Int32.toInt 4 = 4 from rfl); have := lv_neT q16_5 (show Int32.toInt 5 = 5 from rfl); have := lv_neT q16_6 (show Int32.toInt 6 = 6 from rfl); have := lv_neT q16_7 (show Int32.toInt 7 = 7 from rfl); have := lv_neT q16_8 (show Int32.toInt 8 = 8 from rfl); have := lv_neT q16_9 (show Int32.toInt 9 = 9 from rfl); omega) rfl ?_
                        refine g_iconst (v := -1) C dX9_frameOf_153 (by decide) ?_
                        cases h
                        exact g_ireturn C rfl dX9_frameOf_154
theorem miX9_frameOf : MI yX9_frameOf cX9_frameOf 4 (some .int) RX9 2 := ⟨wcX9_frameOf, wmX9_frameOf, wsX9_frameOf, wiX9, by decide +kernel⟩
theorem kX9_frameOf {l : Launch} {D : va_G} {cA : Nat → ClassId} {tS : Nat → Nat} {σ : Sg} {a0 : Nat} {v1 : Int32} {v2 : Int32} {μ : Mm} {q : Int32} (s_a0 : σ a0 = some (9, 0)) (h : fX9_frameOf a0 v1 v2 μ = some q) : Ct l D cA tS σ yX9_frameOf cX9_frameOf 4 (some .int) (rmO 1 21) [.ref a0, .int v1, .int v2] μ (QI D cA σ q μ) :=
  Ct.of (by decide) (Nat.le_of_ble_eq_true rfl) (fun _ _ _ _ _ _ _ _ C => wX9_frameOf C _ _ _ _ s_a0 h)
set_option maxRecDepth 100000 in
set_option maxHeartbeats 4000000 in
theorem wX9_colourOf {p : Program} {l : Launch} {e : Env} {s : State} {m : MethodId} {args : Array Value} {below : List Frame} {meth : Method} {c : Code} {D : va_G} {cA : Nat → ClassId} {tS : Nat → Nat} {σ : Sg} {q : Int32} (C : Cx p s m args meth c (dm σ) D cA tS σ cX9_colourOf (some .int) 4 RX9) (a0 : Nat) (v1 : Int32) (v2 : Int32) (μ : Mm) (s_a0 : σ a0 = some (9, 0)) (h : fX9_colourOf a0 v1 v2 μ = some q) : GG p l e (rmO 2 43) s m args below meth c 0 0 (dm σ) D cA σ 4 (MQ below (QI D cA σ q μ) args s 0 0 (dm σ)) 0 [(0, .ref a0), (1, .int v1), (2, .int v2)] [] μ := by
  unfold fX9_colourOf at h
  refine g_aload_n C dX9_colourOf_0 0 rfl ?_
  refine g_iload_n C dX9_colourOf_1 1 rfl ?_
  obtain ⟨r1, e_r1, h⟩ := bs h
  refine g_callVQ C (kX9_tableAt s_a0 e_r1) miX9_tableAt lmX9_92 s_a0 (by decide) rfl rfl rfl (Nat.le_of_ble_eq_true rfl) dX9_colourOf_2 ⟨by decide, by decide⟩ ⟨Nat.zero_le _, Nat.zero_le _⟩ (fun hs_r1 => ?_)
  refine g_astore_nq (lv' := [(3, va_rf r1), (0, .ref a0), (1, .int v1), (2, .int v2)]) C dX9_colourOf_5 (by decide) (by rcases r1 with _ | _ <;> rfl) ?_
  refine g_aload_nq C dX9_colourOf_6 0 rfl ?_
  rcases r1 with _ | b2
  · replace h := oc0 h
    refine g_ifnullN C 18 dX9_colourOf_7 rfl ?_
    refine g_iconst (v := -1) C dX9_colourOf_18 (by decide) ?_
    cases h
    exact g_ireturn C rfl dX9_colourOf_19
  · replace h := oc1 h
    have s_b2 : σ b2 = some (7, 0) := hs_r1 _ rfl
    refine g_ifnull C dX9_colourOf_7 ?_
    refine g_aload_n C dX9_colourOf_10 0 rfl ?_
    refine g_iload_n C dX9_colourOf_11 3 rfl ?_
    obtain ⟨x3, e_x3, h⟩ := nm h
    refine g_callVI C (kX7_has s_b2 e_x3.symm) miX7_has lmX9_96 s_b2 (by decide) rfl rfl rfl (Nat.le_of_ble_eq_true rfl) dX9_colourOf_12 ⟨by decide, by decide⟩ ⟨Nat.zero_le _, Nat.zero_le _⟩ ?_
    refine g_if_ne C 20 dX9_colourOf_15 rfl (fun q => ?_) (fun q => ?_)
    · replace h := iq q h
      refine g_aload_n C dX9_colourOf_20 0 rfl ?_
      refine g_wt (fun hT_μ => ?_)
      refine g_getr (j := 0) C s_b2 (by decide) rfl uwX7 (by decide) rfl lfX9_102 rfl dX9_colourOf_21 ?_
      refine g_iload_n C dX9_colourOf_24 3 rfl ?_
      obtain ⟨hg4, h⟩ := gs h
      refine g_iald C (hT_μ.1 _ _ 0 _ s_b2 rfl) (ib_in hg4) dX9_colourOf_25 ?_
      cases h
      exact g_ireturn C rfl dX9_colourOf_26
    · replace h := ip q h
      refine g_iconst (v := -1) C dX9_colourOf_18 (by decide) ?_
      cases h
      exact g_ireturn C rfl dX9_colourOf_19
theorem miX9_colourOf : MI yX9_colourOf cX9_colourOf 4 (some .int) RX9 2 := ⟨wcX9_colourOf, wmX9_colourOf, wsX9_colourOf, wiX9, by decide +kernel⟩
theorem kX9_colourOf {l : Launch} {D : va_G} {cA : Nat → ClassId} {tS : Nat → Nat} {σ : Sg} {a0 : Nat} {v1 : Int32} {v2 : Int32} {μ : Mm} {q : Int32} (s_a0 : σ a0 = some (9, 0)) (h : fX9_colourOf a0 v1 v2 μ = some q) : Ct l D cA tS σ yX9_colourOf cX9_colourOf 4 (some .int) (rmO 2 43) [.ref a0, .int v1, .int v2] μ (QI D cA σ q μ) :=
  Ct.of (by decide) (Nat.le_of_ble_eq_true rfl) (fun _ _ _ _ _ _ _ _ C => wX9_colourOf C _ _ _ _ s_a0 h)
set_option maxRecDepth 100000 in
set_option maxHeartbeats 4000000 in
theorem wX9_index {p : Program} {l : Launch} {e : Env} {s : State} {m : MethodId} {args : Array Value} {below : List Frame} {meth : Method} {c : Code} {D : va_G} {cA : Nat → ClassId} {tS : Nat → Nat} {σ : Sg} {q : Int32} (C : Cx p s m args meth c (dm σ) D cA tS σ cX9_index (some .int) 4 RX9) (a0 : Nat) (v1 : Int32) (v2 : Int32) (μ : Mm) (s_a0 : σ a0 = some (9, 0)) (h : fX9_index a0 v1 v2 μ = some q) : GG p l e (rmO 1 21) s m args below meth c 0 0 (dm σ) D cA σ 4 (MQ below (QI D cA σ q μ) args s 0 0 (dm σ)) 0 [(0, .ref a0), (1, .int v1), (2, .int v2)] [] μ := by
  unfold fX9_index at h
  refine g_aload_n C dX9_index_0 0 rfl ?_
  refine g_wt (fun hT_μ => ?_)
  refine g_getr (j := 3) C s_a0 (by decide) rfl uwX9 (by decide) rfl lfX9_32 rfl dX9_index_1 ?_
  refine g_iload_n C dX9_index_4 1 rfl ?_
  obtain ⟨r1, e_r1, h⟩ := bs h
  refine g_callVQ C (kX4_frameAt (hT_μ.1 _ _ 3 _ s_a0 rfl) e_r1) miX4_frameAt lmX9_121 (hT_μ.1 _ _ 3 _ s_a0 rfl) (by decide) rfl rfl rfl (Nat.le_of_ble_eq_true rfl) dX9_index_5 ⟨by decide, by decide⟩ ⟨Nat.zero_le _, Nat.zero_le _⟩ (fun hs_r1 => ?_)
  refine g_astore_nq (lv' := [(3, va_rf r1), (0, .ref a0), (1, .int v1), (2, .int v2)]) C dX9_index_8 (by decide) (by rcases r1 with _ | _ <;> rfl) ?_
  refine g_aload_nq C dX9_index_9 0 rfl ?_
  rcases r1 with _ | b2
  · replace h := oc0 h
    refine g_ifnullN C 25 dX9_index_10 rfl ?_
    refine g_iconst (v := -1) C dX9_index_25 (by decide) ?_
    cases h
    exact g_ireturn C rfl dX9_index_26
  · replace h := oc1 h
    have s_b2 : σ b2 = some (3, 0) := hs_r1 _ rfl
    refine g_ifnull C dX9_index_10 ?_
    refine g_iload_n C dX9_index_13 3 rfl ?_
    refine g_if_lt C 25 dX9_index_14 rfl (fun q => ?_) (fun q => ?_)
    · replace h := ip q h
      refine g_iconst (v := -1) C dX9_index_25 (by decide) ?_
      cases h
      exact g_ireturn C rfl dX9_index_26
    · replace h := iq q h
      refine g_iload_n C dX9_index_17 3 rfl ?_
      refine g_aload_n C dX9_index_18 0 rfl ?_
      obtain ⟨x3, e_x3, h⟩ := nm h
      refine g_callVI C (kX3_size s_b2 e_x3.symm) miX3_size lmX9_138 s_b2 (by decide) rfl rfl rfl (Nat.le_of_ble_eq_true rfl) dX9_index_19 ⟨by decide, by decide⟩ ⟨Nat.zero_le _, Nat.zero_le _⟩ ?_
      refine g_icmp_lt C 27 dX9_index_22 rfl (fun q => ?_) (fun q => ?_)
      · replace h := ip q h
        refine g_aload_n C dX9_index_27 0 rfl ?_
        refine g_getr (j := 7) C s_b2 (by decide) rfl uwX3 (by decide) rfl lfX9_203 rfl dX9_index_28 ?_
        refine g_iload_n C dX9_index_31 3 rfl ?_
        obtain ⟨hg4, h⟩ := gs h
        refine g_iald C (hT_μ.1 _ _ 7 _ s_b2 rfl) (ib_in hg4) dX9_index_32 ?_
        cases h
        exact g_ireturn C rfl dX9_index_33
      · replace h := iq q h
        refine g_iconst (v := -1) C dX9_index_25 (by decide) ?_
        cases h
        exact g_ireturn C rfl dX9_index_26
theorem miX9_index : MI yX9_index cX9_index 4 (some .int) RX9 2 := ⟨wcX9_index, wmX9_index, wsX9_index, wiX9, by decide +kernel⟩
theorem kX9_index {l : Launch} {D : va_G} {cA : Nat → ClassId} {tS : Nat → Nat} {σ : Sg} {a0 : Nat} {v1 : Int32} {v2 : Int32} {μ : Mm} {q : Int32} (s_a0 : σ a0 = some (9, 0)) (h : fX9_index a0 v1 v2 μ = some q) : Ct l D cA tS σ yX9_index cX9_index 4 (some .int) (rmO 1 21) [.ref a0, .int v1, .int v2] μ (QI D cA σ q μ) :=
  Ct.of (by decide) (Nat.le_of_ble_eq_true rfl) (fun _ _ _ _ _ _ _ _ C => wX9_index C _ _ _ _ s_a0 h)
set_option maxRecDepth 100000 in
set_option maxHeartbeats 4000000 in
theorem wX9_canvas {p : Program} {l : Launch} {e : Env} {s : State} {m : MethodId} {args : Array Value} {below : List Frame} {meth : Method} {c : Code} {D : va_G} {cA : Nat → ClassId} {tS : Nat → Nat} {σ : Sg} {fu : Nat} {q : Int32} (C : Cx p s m args meth c (dm σ) D cA tS σ cX9_canvas (some .int) 4 RX9) (a0 : Nat) (v1 : Int32) (v2 : Int32) (v3 : Int32) (μ : Mm) (s_a0 : σ a0 = some (9, 0)) (h : fX9_canvas fu a0 v1 v2 v3 μ = some q) : GG p l e (rmO 4 98) s m args below meth c 0 0 (dm σ) D cA σ 4 (MQ below (QI D cA σ q μ) args s 0 0 (dm σ)) 0 [(0, .ref a0), (1, .int v1), (2, .int v2), (3, .int v3)] [] μ := by
  unfold fX9_canvas at h
  refine g_aload_n C dX9_canvas_0 0 rfl ?_
  refine g_wt (fun hT_μ => ?_)
  refine g_getr (j := 3) C s_a0 (by decide) rfl uwX9 (by decide) rfl lfX9_32 rfl dX9_canvas_1 ?_
  refine g_iload_n C dX9_canvas_4 1 rfl ?_
  obtain ⟨r1, e_r1, h⟩ := bs h
  refine g_callVQ C (kX4_frameAt (hT_μ.1 _ _ 3 _ s_a0 rfl) e_r1) miX4_frameAt lmX9_121 (hT_μ.1 _ _ 3 _ s_a0 rfl) (by decide) rfl rfl rfl (Nat.le_of_ble_eq_true rfl) dX9_canvas_5 ⟨by decide, by decide⟩ ⟨Nat.zero_le _, Nat.zero_le _⟩ (fun hs_r1 => ?_)
  rcases r1 with _ | b2
  · replace h := oc0 h
    refine g_ifnullN C 41 dX9_canvas_8 rfl ?_
    refine g_bipush (v := -2) C dX9_canvas_41 (by decide) ?_
    cases h
    exact g_ireturn C rfl dX9_canvas_43
  · replace h := oc1 h
    have s_b2 : σ b2 = some (3, 0) := hs_r1 _ rfl
    refine g_ifnull C dX9_canvas_8 ?_
    refine g_iload_n C dX9_canvas_11 2 rfl ?_
    refine g_if_lt C 41 dX9_canvas_12 rfl (fun q => ?_) (fun q => ?_)
    · replace h := ip q h
      refine g_bipush (v := -2) C dX9_canvas_41 (by decide) ?_
      cases h
      exact g_ireturn C rfl dX9_canvas_43
    · replace h := iq q h
      refine g_iload_n C dX9_canvas_15 2 rfl ?_
      refine g_aload_n C dX9_canvas_16 0 rfl ?_
      refine g_getr (j := 3) C s_a0 (by decide) rfl uwX9 (by decide) rfl lfX9_32 rfl dX9_canvas_17 ?_
      refine g_geti (j := 0) C (hT_μ.1 _ _ 3 _ s_a0 rfl) (by decide) rfl uwX4 (by decide) rfl lfX9_160 rfl dX9_canvas_20 ?_
      refine g_icmp_ge C 41 dX9_canvas_23 rfl (fun q => ?_) (fun q => ?_)
      · replace h := ip q h
        refine g_bipush (v := -2) C dX9_canvas_41 (by decide) ?_
        cases h
        exact g_ireturn C rfl dX9_canvas_43
      · replace h := iq q h
        refine g_iload_n C dX9_canvas_26 3 rfl ?_
        refine g_if_lt C 41 dX9_canvas_27 rfl (fun q => ?_) (fun q => ?_)
        · replace h := ip q h
          refine g_bipush (v := -2) C dX9_canvas_41 (by decide) ?_
          cases h
          exact g_ireturn C rfl dX9_canvas_43
        · replace h := iq q h
          refine g_iload_n C dX9_canvas_30 3 rfl ?_
          refine g_aload_n C dX9_canvas_31 0 rfl ?_
          refine g_getr (j := 3) C s_a0 (by decide) rfl uwX9 (by decide) rfl lfX9_32 rfl dX9_canvas_32 ?_
          refine g_geti (j := 1) C (hT_μ.1 _ _ 3 _ s_a0 rfl) (by decide) rfl uwX4 (by decide) rfl lfX9_163 rfl dX9_canvas_35 ?_
          refine g_icmp_lt C 44 dX9_canvas_38 rfl (fun q => ?_) (fun q => ?_)
          · replace h := ip q h
            refine g_aload_n C dX9_canvas_44 0 rfl ?_
            refine g_getr (j := 3) C s_a0 (by decide) rfl uwX9 (by decide) rfl lfX9_32 rfl dX9_canvas_45 ?_
            refine g_iload_n C dX9_canvas_48 1 rfl ?_
            refine g_iload_n C dX9_canvas_49 2 rfl ?_
            refine g_iload_n C dX9_canvas_50 3 rfl ?_
            obtain ⟨x3, e_x3, h⟩ := bs h
            refine g_callVI C (kX4_colourAt (hT_μ.1 _ _ 3 _ s_a0 rfl) e_x3) miX4_colourAt lmX9_206 (hT_μ.1 _ _ 3 _ s_a0 rfl) (by decide) rfl rfl rfl (Nat.le_of_ble_eq_true rfl) dX9_canvas_51 ⟨by decide, by decide⟩ ⟨Nat.zero_le _, Nat.zero_le _⟩ ?_
            cases h
            exact g_ireturn C rfl dX9_canvas_54
          · replace h := iq q h
            refine g_bipush (v := -2) C dX9_canvas_41 (by decide) ?_
            cases h
            exact g_ireturn C rfl dX9_canvas_43
theorem miX9_canvas : MI yX9_canvas cX9_canvas 4 (some .int) RX9 3 := ⟨wcX9_canvas, wmX9_canvas, wsX9_canvas, wiX9, by decide +kernel⟩
theorem kX9_canvas {l : Launch} {D : va_G} {cA : Nat → ClassId} {tS : Nat → Nat} {σ : Sg} {a0 : Nat} {v1 : Int32} {v2 : Int32} {v3 : Int32} {μ : Mm} {fu : Nat} {q : Int32} (s_a0 : σ a0 = some (9, 0)) (h : fX9_canvas fu a0 v1 v2 v3 μ = some q) : Ct l D cA tS σ yX9_canvas cX9_canvas 4 (some .int) (rmO 4 98) [.ref a0, .int v1, .int v2, .int v3] μ (QI D cA σ q μ) :=
  Ct.of (by decide) (Nat.le_of_ble_eq_true rfl) (fun _ _ _ _ _ _ _ _ C => wX9_canvas C _ _ _ _ _ s_a0 h)
set_option maxRecDepth 100000 in
set_option maxHeartbeats 4000000 in
theorem wX10_field {p : Program} {l : Launch} {e : Env} {s : State} {m : MethodId} {args : Array Value} {below : List Frame} {meth : Method} {c : Code} {D : va_G} {cA : Nat → ClassId} {tS : Nat → Nat} {σ : Sg} {q : Int32} (C : Cx p s m args meth c (dm σ) D cA tS σ cX10_field (some .int) 4 RX10) (a0 : Nat) (v1 : Int32) (v2 : Int32) (v3 : Int32) (μ : Mm) (s_a0 : σ a0 = some (10, 0)) (h : fX10_field a0 v1 v2 v3 μ = some q) : GG p l e (rmO 0 0) s m args below meth c 0 0 (dm σ) D cA σ 4 (MQ below (QI D cA σ q μ) args s 0 0 (dm σ)) 0 [(0, .ref a0), (1, .int v1), (2, .int v2), (3, .int v3)] [] μ := by
  unfold fX10_field at h
  refine g_aload_n C dX10_field_0 0 rfl ?_
  refine g_wt (fun hT_μ => ?_)
  refine g_getr (j := 9) C s_a0 (by decide) rfl uwX10 (by decide) rfl lfX10_30 rfl dX10_field_1 ?_
  refine g_sipush (v := 240) C dX10_field_4 (by decide) ?_
  refine g_iload_n C dX10_field_7 1 rfl ?_
  refine g_imul C dX10_field_8 ?_
  refine g_bipush (v := 10) C dX10_field_9 (by decide) ?_
  refine g_iload_n C dX10_field_11 2 rfl ?_
  refine g_imul C dX10_field_12 ?_
  refine g_iadd C dX10_field_13 ?_
  refine g_iload_n C dX10_field_14 3 rfl ?_
  refine g_iadd C dX10_field_15 ?_
  obtain ⟨hg1, h⟩ := gs h
  refine g_iald C (hT_μ.1 _ _ 9 _ s_a0 rfl) (ib_in hg1) dX10_field_16 ?_
  cases h
  exact g_ireturn C rfl dX10_field_17
theorem miX10_field : MI yX10_field cX10_field 4 (some .int) RX10 3 := ⟨wcX10_field, wmX10_field, wsX10_field, wiX10, by decide +kernel⟩
theorem kX10_field {l : Launch} {D : va_G} {cA : Nat → ClassId} {tS : Nat → Nat} {σ : Sg} {a0 : Nat} {v1 : Int32} {v2 : Int32} {v3 : Int32} {μ : Mm} {q : Int32} (s_a0 : σ a0 = some (10, 0)) (h : fX10_field a0 v1 v2 v3 μ = some q) : Ct l D cA tS σ yX10_field cX10_field 4 (some .int) (rmO 0 0) [.ref a0, .int v1, .int v2, .int v3] μ (QI D cA σ q μ) :=
  Ct.of (by decide) (Nat.le_of_ble_eq_true rfl) (fun _ _ _ _ _ _ _ _ C => wX10_field C _ _ _ _ _ s_a0 h)
set_option maxRecDepth 100000 in
set_option maxHeartbeats 4000000 in
theorem wX10_setField {p : Program} {l : Launch} {e : Env} {s : State} {m : MethodId} {args : Array Value} {below : List Frame} {meth : Method} {c : Code} {D : va_G} {cA : Nat → ClassId} {tS : Nat → Nat} {σ : Sg} {q : Mm} (C : Cx p s m args meth c (dm σ) D cA tS σ cX10_setField none 5 RX10) (a0 : Nat) (v1 : Int32) (v2 : Int32) (v3 : Int32) (v4 : Int32) (μ : Mm) (s_a0 : σ a0 = some (10, 0)) (h : fX10_setField a0 v1 v2 v3 v4 μ = some q) : GG p l e (rmO 0 0) s m args below meth c 0 0 (dm σ) D cA σ 5 (MQ below (QV D cA σ q) args s 0 0 (dm σ)) 0 [(0, .ref a0), (1, .int v1), (2, .int v2), (3, .int v3), (4, .int v4)] [] μ := by
  unfold fX10_setField at h
  refine g_aload_n C dX10_setField_0 0 rfl ?_
  refine g_wt (fun hT_μ => ?_)
  refine g_getr (j := 9) C s_a0 (by decide) rfl uwX10 (by decide) rfl lfX10_30 rfl dX10_setField_1 ?_
  refine g_sipush (v := 240) C dX10_setField_4 (by decide) ?_
  refine g_iload_n C dX10_setField_7 1 rfl ?_
  refine g_imul C dX10_setField_8 ?_
  refine g_bipush (v := 10) C dX10_setField_9 (by decide) ?_
  refine g_iload_n C dX10_setField_11 2 rfl ?_
  refine g_imul C dX10_setField_12 ?_
  refine g_iadd C dX10_setField_13 ?_
  refine g_iload_n C dX10_setField_14 3 rfl ?_
  refine g_iadd C dX10_setField_15 ?_
  refine g_iload C dX10_setField_16 4 rfl ?_
  obtain ⟨hg, h⟩ := gs h
  refine g_iast C (hT_μ.1 _ _ 9 _ s_a0 rfl) (ib_in hg) dX10_setField_18 ?_
  obtain ⟨μ1, e_μ1, h⟩ := nm h
  refine g_mu e_μ1 ?_
  cases h
  exact g_return C dX10_setField_19
theorem miX10_setField : MI yX10_setField cX10_setField 5 none RX10 4 := ⟨wcX10_setField, wmX10_setField, wsX10_setField, wiX10, by decide +kernel⟩
theorem kX10_setField {l : Launch} {D : va_G} {cA : Nat → ClassId} {tS : Nat → Nat} {σ : Sg} {a0 : Nat} {v1 : Int32} {v2 : Int32} {v3 : Int32} {v4 : Int32} {μ : Mm} {q : Mm} (s_a0 : σ a0 = some (10, 0)) (h : fX10_setField a0 v1 v2 v3 v4 μ = some q) : Ct l D cA tS σ yX10_setField cX10_setField 5 none (rmO 0 0) [.ref a0, .int v1, .int v2, .int v3, .int v4] μ (QV D cA σ q) :=
  Ct.of (by decide) (Nat.le_of_ble_eq_true rfl) (fun _ _ _ _ _ _ _ _ C => wX10_setField C _ _ _ _ _ _ s_a0 h)
set_option maxRecDepth 100000 in
set_option maxHeartbeats 4000000 in
theorem wX10_indexAt {p : Program} {l : Launch} {e : Env} {s : State} {m : MethodId} {args : Array Value} {below : List Frame} {meth : Method} {c : Code} {D : va_G} {cA : Nat → ClassId} {tS : Nat → Nat} {σ : Sg} {q : Int32} (C : Cx p s m args meth c (dm σ) D cA tS σ cX10_indexAt (some .int) 4 RX10) (a0 : Nat) (v1 : Int32) (v2 : Int32) (v3 : Int32) (μ : Mm) (s_a0 : σ a0 = some (10, 0)) (h : fX10_indexAt a0 v1 v2 v3 μ = some q) : GG p l e (rmO 0 0) s m args below meth c 0 0 (dm σ) D cA σ 4 (MQ below (QI D cA σ q μ) args s 0 0 (dm σ)) 0 [(0, .ref a0), (1, .int v1), (2, .int v2), (3, .int v3)] [] μ := by
  unfold fX10_indexAt at h
  refine g_aload_n C dX10_indexAt_0 0 rfl ?_
  refine g_wt (fun hT_μ => ?_)
  refine g_getr (j := 11) C s_a0 (by decide) rfl uwX10 (by decide) rfl lfX10_37 rfl dX10_indexAt_1 ?_
  refine g_ldc C dX10_indexAt_4 lkX10_65 ?_
  refine g_iload_n C dX10_indexAt_6 1 rfl ?_
  refine g_imul C dX10_indexAt_7 ?_
  refine g_sipush (v := 4096) C dX10_indexAt_8 (by decide) ?_
  refine g_iload_n C dX10_indexAt_11 2 rfl ?_
  refine g_imul C dX10_indexAt_12 ?_
  refine g_iadd C dX10_indexAt_13 ?_
  refine g_iload_n C dX10_indexAt_14 3 rfl ?_
  refine g_iadd C dX10_indexAt_15 ?_
  obtain ⟨hg1, h⟩ := gs h
  refine g_shald C (hT_μ.1 _ _ 11 _ s_a0 rfl) (ib_in hg1) dX10_indexAt_16 ?_
  cases h
  exact g_ireturn C rfl dX10_indexAt_17
theorem miX10_indexAt : MI yX10_indexAt cX10_indexAt 4 (some .int) RX10 3 := ⟨wcX10_indexAt, wmX10_indexAt, wsX10_indexAt, wiX10, by decide +kernel⟩
theorem kX10_indexAt {l : Launch} {D : va_G} {cA : Nat → ClassId} {tS : Nat → Nat} {σ : Sg} {a0 : Nat} {v1 : Int32} {v2 : Int32} {v3 : Int32} {μ : Mm} {q : Int32} (s_a0 : σ a0 = some (10, 0)) (h : fX10_indexAt a0 v1 v2 v3 μ = some q) : Ct l D cA tS σ yX10_indexAt cX10_indexAt 4 (some .int) (rmO 0 0) [.ref a0, .int v1, .int v2, .int v3] μ (QI D cA σ q μ) :=
  Ct.of (by decide) (Nat.le_of_ble_eq_true rfl) (fun _ _ _ _ _ _ _ _ C => wX10_indexAt C _ _ _ _ _ s_a0 h)
set_option maxRecDepth 100000 in
set_option maxHeartbeats 4000000 in
theorem wX10_setIndex {p : Program} {l : Launch} {e : Env} {s : State} {m : MethodId} {args : Array Value} {below : List Frame} {meth : Method} {c : Code} {D : va_G} {cA : Nat → ClassId} {tS : Nat → Nat} {σ : Sg} {q : Mm} (C : Cx p s m args meth c (dm σ) D cA tS σ cX10_setIndex none 5 RX10) (a0 : Nat) (v1 : Int32) (v2 : Int32) (v3 : Int32) (v4 : Int32) (μ : Mm) (s_a0 : σ a0 = some (10, 0)) (h : fX10_setIndex a0 v1 v2 v3 v4 μ = some q) : GG p l e (rmO 0 0) s m args below meth c 0 0 (dm σ) D cA σ 5 (MQ below (QV D cA σ q) args s 0 0 (dm σ)) 0 [(0, .ref a0), (1, .int v1), (2, .int v2), (3, .int v3), (4, .int v4)] [] μ := by
  unfold fX10_setIndex at h
  refine g_aload_n C dX10_setIndex_0 0 rfl ?_
  refine g_wt (fun hT_μ => ?_)
  refine g_getr (j := 11) C s_a0 (by decide) rfl uwX10 (by decide) rfl lfX10_37 rfl dX10_setIndex_1 ?_
  refine g_ldc C dX10_setIndex_4 lkX10_65 ?_
  refine g_iload_n C dX10_setIndex_6 1 rfl ?_
  refine g_imul C dX10_setIndex_7 ?_
  refine g_sipush (v := 4096) C dX10_setIndex_8 (by decide) ?_
  refine g_iload_n C dX10_setIndex_11 2 rfl ?_
  refine g_imul C dX10_setIndex_12 ?_
  refine g_iadd C dX10_setIndex_13 ?_
  refine g_iload_n C dX10_setIndex_14 3 rfl ?_
  refine g_iadd C dX10_setIndex_15 ?_
  refine g_iload C dX10_setIndex_16 4 rfl ?_
  refine g_i2s C dX10_setIndex_18 ?_
  obtain ⟨hg, h⟩ := gs h
  refine g_shast C (hT_μ.1 _ _ 11 _ s_a0 rfl) (ib_in hg) dX10_setIndex_19 ?_
  obtain ⟨μ1, e_μ1, h⟩ := nm h
  refine g_mu e_μ1 ?_
  cases h
  exact g_return C dX10_setIndex_20
theorem miX10_setIndex : MI yX10_setIndex cX10_setIndex 5 none RX10 4 := ⟨wcX10_setIndex, wmX10_setIndex, wsX10_setIndex, wiX10, by decide +kernel⟩
theorem kX10_setIndex {l : Launch} {D : va_G} {cA : Nat → ClassId} {tS : Nat → Nat} {σ : Sg} {a0 : Nat} {v1 : Int32} {v2 : Int32} {v3 : Int32} {v4 : Int32} {μ : Mm} {q : Mm} (s_a0 : σ a0 = some (10, 0)) (h : fX10_setIndex a0 v1 v2 v3 v4 μ = some q) : Ct l D cA tS σ yX10_setIndex cX10_setIndex 5 none (rmO 0 0) [.ref a0, .int v1, .int v2, .int v3, .int v4] μ (QV D cA σ q) :=
  Ct.of (by decide) (Nat.le_of_ble_eq_true rfl) (fun _ _ _ _ _ _ _ _ C => wX10_setIndex C _ _ _ _ _ _ s_a0 h)
set_option maxRecDepth 100000 in
set_option maxHeartbeats 4000000 in
theorem wX10_localAt {p : Program} {l : Launch} {e : Env} {s : State} {m : MethodId} {args : Array Value} {below : List Frame} {meth : Method} {c : Code} {D : va_G} {cA : Nat → ClassId} {tS : Nat → Nat} {σ : Sg} {μ0 : Mm} {q : Int32} (C : Cx p s m args meth c (dm σ) D cA tS σ cX10_localAt (some .int) 3 RX10) (v0 : Int32) (v1 : Int32) (v2 : Int32) (h : fX10_localAt v0 v1 v2 = q) : GG p l e (rmO 0 0) s m args below meth c 0 0 (dm σ) D cA σ 3 (MQ below (QI D cA σ q μ0) args s 0 0 (dm σ)) 0 [(0, .int v0), (1, .int v1), (2, .int v2)] [] μ0 := by
  unfold fX10_localAt at h
  refine g_sipush (v := 6144) C dX10_localAt_0 (by decide) ?_
  refine g_iload_n C dX10_localAt_3 0 rfl ?_
  refine g_imul C dX10_localAt_4 ?_
  refine g_sipush (v := 256) C dX10_localAt_5 (by decide) ?_
  refine g_iload_n C dX10_localAt_8 1 rfl ?_
  refine g_imul C dX10_localAt_9 ?_
  refine g_iadd C dX10_localAt_10 ?_
  refine g_iload_n C dX10_localAt_11 2 rfl ?_
  refine g_iadd C dX10_localAt_12 ?_
  subst h
  exact g_ireturn C rfl dX10_localAt_13
theorem msX10_localAt : MS yX10_localAt cX10_localAt 3 (some .int) 3 := ⟨wcX10_localAt, wtX10_localAt, wiX10, by decide +kernel⟩
theorem kX10_localAt {l : Launch} {D : va_G} {cA : Nat → ClassId} {tS : Nat → Nat} {σ : Sg} {v0 : Int32} {v1 : Int32} {v2 : Int32} {μ0 : Mm} {q : Int32} (h : fX10_localAt v0 v1 v2 = q) : Ct l D cA tS σ yX10_localAt cX10_localAt 3 (some .int) (rmO 0 0) [.int v0, .int v1, .int v2] μ0 (QI D cA σ q μ0) :=
  Ct.of (by decide) (Nat.le_of_ble_eq_true rfl) (fun _ _ _ _ _ _ _ _ C => wX10_localAt C _ _ _  h)
set_option maxRecDepth 100000 in
set_option maxHeartbeats 4000000 in
theorem wX10_frames {p : Program} {l : Launch} {e : Env} {s : State} {m : MethodId} {args : Array Value} {below : List Frame} {meth : Method} {c : Code} {D : va_G} {cA : Nat → ClassId} {tS : Nat → Nat} {σ : Sg} {q : Int32} (C : Cx p s m args meth c (dm σ) D cA tS σ cX10_frames (some .int) 1 RX10) (a0 : Nat) (μ : Mm) (s_a0 : σ a0 = some (10, 0)) (h : fX10_frames a0 μ = some q) : GG p l e (rmO 0 0) s m args below meth c 0 0 (dm σ) D cA σ 1 (MQ below (QI D cA σ q μ) args s 0 0 (dm σ)) 0 [(0, .ref a0)] [] μ := by
  unfold fX10_frames at h
  refine g_aload_n C dX10_frames_0 0 rfl ?_
  refine g_wt (fun hT_μ => ?_)
  refine g_getr (j := 7) C s_a0 (by decide) rfl uwX10 (by decide) rfl lfX10_23 rfl dX10_frames_1 ?_
  refine g_bipush (v := 6) C dX10_frames_4 (by decide) ?_
  refine g_aload_n C dX10_frames_6 0 rfl ?_
  refine g_geti (j := 6) C s_a0 (by decide) rfl uwX10 (by decide) rfl lfX10_66 rfl dX10_frames_7 ?_
  refine g_imul C dX10_frames_10 ?_
  refine g_iconst (v := 5) C dX10_frames_11 (by decide) ?_
  refine g_iadd C dX10_frames_12 ?_
  obtain ⟨hg1, h⟩ := gs h
  refine g_iald C (hT_μ.1 _ _ 7 _ s_a0 rfl) (ib_in hg1) dX10_frames_13 ?_
  cases h
  exact g_ireturn C rfl dX10_frames_14
theorem miX10_frames : MI yX10_frames cX10_frames 1 (some .int) RX10 0 := ⟨wcX10_frames, wmX10_frames, wsX10_frames, wiX10, by decide +kernel⟩
theorem kX10_frames {l : Launch} {D : va_G} {cA : Nat → ClassId} {tS : Nat → Nat} {σ : Sg} {a0 : Nat} {μ : Mm} {q : Int32} (s_a0 : σ a0 = some (10, 0)) (h : fX10_frames a0 μ = some q) : Ct l D cA tS σ yX10_frames cX10_frames 1 (some .int) (rmO 0 0) [.ref a0] μ (QI D cA σ q μ) :=
  Ct.of (by decide) (Nat.le_of_ble_eq_true rfl) (fun _ _ _ _ _ _ _ _ C => wX10_frames C _ _ s_a0 h)
set_option maxRecDepth 100000 in
set_option maxHeartbeats 4000000 in
theorem wX10_isFrame {p : Program} {l : Launch} {e : Env} {s : State} {m : MethodId} {args : Array Value} {below : List Frame} {meth : Method} {c : Code} {D : va_G} {cA : Nat → ClassId} {tS : Nat → Nat} {σ : Sg} {q : Int32} (C : Cx p s m args meth c (dm σ) D cA tS σ cX10_isFrame (some .boolean) 2 RX10) (a0 : Nat) (v1 : Int32) (μ : Mm) (s_a0 : σ a0 = some (10, 0)) (h : fX10_isFrame a0 v1 μ = some q) : GG p l e (rmO 1 20) s m args below meth c 0 0 (dm σ) D cA σ 2 (MQ below (QI D cA σ q μ) args s 0 0 (dm σ)) 0 [(0, .ref a0), (1, .int v1)] [] μ := by
  unfold fX10_isFrame at h
  refine g_iload_n C dX10_isFrame_0 1 rfl ?_
  refine g_if_lt C 16 dX10_isFrame_1 rfl (fun q => ?_) (fun q => ?_)
  · replace h := ip q h
    refine g_iconst (v := 0) C dX10_isFrame_16 (by decide) ?_
    cases h
    exact g_zreturn (r := 0) C rfl dX10_isFrame_17
  · replace h := iq q h
    refine g_iload_n C dX10_isFrame_4 1 rfl ?_
    refine g_aload_n C dX10_isFrame_5 0 rfl ?_
    obtain ⟨x1, e_x1, h⟩ := bs h
    refine g_callVI C (kX10_frames s_a0 e_x1) miX10_frames lmX10_69 s_a0 (by decide) rfl rfl rfl (Nat.le_of_ble_eq_true rfl) dX10_isFrame_6 ⟨by decide, by decide⟩ ⟨Nat.zero_le _, Nat.zero_le _⟩ ?_
    refine g_icmp_ge C 16 dX10_isFrame_9 rfl (fun q => ?_) (fun q => ?_)
    · replace h := ip q h
      refine g_iconst (v := 0) C dX10_isFrame_16 (by decide) ?_
      cases h
      exact g_zreturn (r := 0) C rfl dX10_isFrame_17
    · replace h := iq q h
      refine g_iconst (v := 1) C dX10_isFrame_12 (by decide) ?_
      refine g_goto C 17 dX10_isFrame_13 rfl ?_
      cases h
      exact g_zreturn (r := 1) C rfl dX10_isFrame_17
theorem miX10_isFrame : MI yX10_isFrame cX10_isFrame 2 (some .boolean) RX10 1 := ⟨wcX10_isFrame, wmX10_isFrame, wsX10_isFrame, wiX10, by decide +kernel⟩
theorem kX10_isFrame {l : Launch} {D : va_G} {cA : Nat → ClassId} {tS : Nat → Nat} {σ : Sg} {a0 : Nat} {v1 : Int32} {μ : Mm} {q : Int32} (s_a0 : σ a0 = some (10, 0)) (h : fX10_isFrame a0 v1 μ = some q) : Ct l D cA tS σ yX10_isFrame cX10_isFrame 2 (some .boolean) (rmO 1 20) [.ref a0, .int v1] μ (QI D cA σ q μ) :=
  Ct.of (by decide) (Nat.le_of_ble_eq_true rfl) (fun _ _ _ _ _ _ _ _ C => wX10_isFrame C _ _ _ s_a0 h)
set_option maxRecDepth 100000 in
set_option maxHeartbeats 4000000 in
theorem wX10_places {p : Program} {l : Launch} {e : Env} {s : State} {m : MethodId} {args : Array Value} {below : List Frame} {meth : Method} {c : Code} {D : va_G} {cA : Nat → ClassId} {tS : Nat → Nat} {σ : Sg} {q : Int32} (C : Cx p s m args meth c (dm σ) D cA tS σ cX10_places (some .int) 3 RX10) (a0 : Nat) (v1 : Int32) (v2 : Int32) (μ : Mm) (s_a0 : σ a0 = some (10, 0)) (h : fX10_places a0 v1 v2 μ = some q) : GG p l e (rmO 1 23) s m args below meth c 0 0 (dm σ) D cA σ 3 (MQ below (QI D cA σ q μ) args s 0 0 (dm σ)) 0 [(0, .ref a0), (1, .int v1), (2, .int v2)] [] μ := by
  unfold fX10_places at h
  refine g_aload_n C dX10_places_0 0 rfl ?_
  refine g_iload_n C dX10_places_1 1 rfl ?_
  refine g_iload_n C dX10_places_2 2 rfl ?_
  refine g_iconst (v := 2) C dX10_places_3 (by decide) ?_
  obtain ⟨x1, e_x1, h⟩ := bs h
  refine g_callVI C (kX10_field s_a0 e_x1) miX10_field lmX10_73 s_a0 (by decide) rfl rfl rfl (Nat.le_of_ble_eq_true rfl) dX10_places_4 ⟨by decide, by decide⟩ ⟨Nat.zero_le _, Nat.zero_le _⟩ ?_
  refine g_aload_n C dX10_places_7 0 rfl ?_
  refine g_iload_n C dX10_places_8 1 rfl ?_
  refine g_iload_n C dX10_places_9 2 rfl ?_
  refine g_iconst (v := 3) C dX10_places_10 (by decide) ?_
  obtain ⟨x2, e_x2, h⟩ := bs h
  refine g_callVI C (kX10_field s_a0 e_x2) miX10_field lmX10_73 s_a0 (by decide) rfl rfl rfl (Nat.le_of_ble_eq_true rfl) dX10_places_11 ⟨by decide, by decide⟩ ⟨Nat.zero_le _, Nat.zero_le _⟩ ?_
  refine g_imul C dX10_places_14 ?_
  cases h
  exact g_ireturn C rfl dX10_places_15
theorem miX10_places : MI yX10_places cX10_places 3 (some .int) RX10 2 := ⟨wcX10_places, wmX10_places, wsX10_places, wiX10, by decide +kernel⟩
theorem kX10_places {l : Launch} {D : va_G} {cA : Nat → ClassId} {tS : Nat → Nat} {σ : Sg} {a0 : Nat} {v1 : Int32} {v2 : Int32} {μ : Mm} {q : Int32} (s_a0 : σ a0 = some (10, 0)) (h : fX10_places a0 v1 v2 μ = some q) : Ct l D cA tS σ yX10_places cX10_places 3 (some .int) (rmO 1 23) [.ref a0, .int v1, .int v2] μ (QI D cA σ q μ) :=
  Ct.of (by decide) (Nat.le_of_ble_eq_true rfl) (fun _ _ _ _ _ _ _ _ C => wX10_places C _ _ _ _ s_a0 h)
set_option maxRecDepth 100000 in
set_option maxHeartbeats 4000000 in
theorem wX10_colours {p : Program} {l : Launch} {e : Env} {s : State} {m : MethodId} {args : Array Value} {below : List Frame} {meth : Method} {c : Code} {D : va_G} {cA : Nat → ClassId} {tS : Nat → Nat} {σ : Sg} {q : Int32} (C : Cx p s m args meth c (dm σ) D cA tS σ cX10_colours (some .int) 3 RX10) (a0 : Nat) (v1 : Int32) (v2 : Int32) (μ : Mm) (s_a0 : σ a0 = some (10, 0)) (h : fX10_colours a0 v1 v2 μ = some q) : GG p l e (rmO 1 23) s m args below meth c 0 0 (dm σ) D cA σ 3 (MQ below (QI D cA σ q μ) args s 0 0 (dm σ)) 0 [(0, .ref a0), (1, .int v1), (2, .int v2)] [] μ := by
  unfold fX10_colours at h
  refine g_aload_n C dX10_colours_0 0 rfl ?_
  refine g_iload_n C dX10_colours_1 1 rfl ?_
  refine g_iload_n C dX10_colours_2 2 rfl ?_
  refine g_iconst (v := 4) C dX10_colours_3 (by decide) ?_
  obtain ⟨x1, e_x1, h⟩ := bs h
  refine g_callVI C (kX10_field s_a0 e_x1) miX10_field lmX10_73 s_a0 (by decide) rfl rfl rfl (Nat.le_of_ble_eq_true rfl) dX10_colours_4 ⟨by decide, by decide⟩ ⟨Nat.zero_le _, Nat.zero_le _⟩ ?_
  refine g_if_le C 20 dX10_colours_7 rfl (fun q => ?_) (fun q => ?_)
  · replace h := ip q h
    refine g_aload_n C dX10_colours_20 0 rfl ?_
    refine g_wt (fun hT_μ => ?_)
    refine g_getr (j := 7) C s_a0 (by decide) rfl uwX10 (by decide) rfl lfX10_23 rfl dX10_colours_21 ?_
    refine g_bipush (v := 6) C dX10_colours_24 (by decide) ?_
    refine g_iload_n C dX10_colours_26 1 rfl ?_
    refine g_imul C dX10_colours_27 ?_
    refine g_iconst (v := 2) C dX10_colours_28 (by decide) ?_
    refine g_iadd C dX10_colours_29 ?_
    obtain ⟨hg2, h⟩ := gs h
    refine g_iald C (hT_μ.1 _ _ 7 _ s_a0 rfl) (ib_in hg2) dX10_colours_30 ?_
    cases h
    exact g_ireturn C rfl dX10_colours_31
  · replace h := iq q h
    refine g_aload_n C dX10_colours_10 0 rfl ?_
    refine g_iload_n C dX10_colours_11 1 rfl ?_
    refine g_iload_n C dX10_colours_12 2 rfl ?_
    refine g_iconst (v := 4) C dX10_colours_13 (by decide) ?_
    obtain ⟨x3, e_x3, h⟩ := bs h
    refine g_callVI C (kX10_field s_a0 e_x3) miX10_field lmX10_73 s_a0 (by decide) rfl rfl rfl (Nat.le_of_ble_eq_true rfl) dX10_colours_14 ⟨by decide, by decide⟩ ⟨Nat.zero_le _, Nat.zero_le _⟩ ?_
    refine g_goto C 31 dX10_colours_17 rfl ?_
    cases h
    exact g_ireturn C rfl dX10_colours_31
theorem miX10_colours : MI yX10_colours cX10_colours 3 (some .int) RX10 2 := ⟨wcX10_colours, wmX10_colours, wsX10_colours, wiX10, by decide +kernel⟩
theorem kX10_colours {l : Launch} {D : va_G} {cA : Nat → ClassId} {tS : Nat → Nat} {σ : Sg} {a0 : Nat} {v1 : Int32} {v2 : Int32} {μ : Mm} {q : Int32} (s_a0 : σ a0 = some (10, 0)) (h : fX10_colours a0 v1 v2 μ = some q) : Ct l D cA tS σ yX10_colours cX10_colours 3 (some .int) (rmO 1 23) [.ref a0, .int v1, .int v2] μ (QI D cA σ q μ) :=
  Ct.of (by decide) (Nat.le_of_ble_eq_true rfl) (fun _ _ _ _ _ _ _ _ C => wX10_colours C _ _ _ _ s_a0 h)
