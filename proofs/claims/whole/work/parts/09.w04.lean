set_option maxRecDepth 100000 in
set_option maxHeartbeats 4000000 in
theorem wX10_within_B2 {p : Program} {l : Launch} {e : Env} {s : State} {m : MethodId} {args : Array Value} {below : List Frame} {meth : Method} {c : Code} {D : va_G} {cA : Nat → ClassId} {tS : Nat → Nat} {σ : Sg} {rec2 : Nat → Int32 → Int32 → Int32 → Mm → Option (Int32 × Mm)} {fu : Nat} {q : Int32 × Mm} (C : Cx p s m args meth c (dm σ) D cA tS σ cX10_within (some .int) 4 RX10) (hrec2 : ∀ (y0 : Nat) (y1 : Int32) (y2 : Int32) (y3 : Int32) (μ : Mm), σ y0 = some (12, 12020) → rec2 y0 y1 y2 y3 μ = some q → GG p l e (rmO 0 0) s m args below meth c 0 0 (dm σ) D cA σ 4 (MQ below (QI D cA σ q.1 q.2) args s 0 0 (dm σ)) 2 [(0, .ref y0), (1, .int y1), (2, .int y2), (3, .int y3)] [] μ) (a0 : Nat) (v1 : Int32) (v2 : Int32) (v3 : Int32) (μ : Mm) (s_a0 : σ a0 = some (12, 12020)) (h : fX10_within_B2 rec2 fu a0 v1 v2 v3 μ = some q) : GG p l e (rmO 0 0) s m args below meth c 0 0 (dm σ) D cA σ 4 (MQ below (QI D cA σ q.1 q.2) args s 0 0 (dm σ)) 2 [(0, .ref a0), (1, .int v1), (2, .int v2), (3, .int v3)] [] μ := by
  unfold fX10_within_B2 at h
  refine g_iload_n C dX10_within_2 3 rfl ?_
  refine g_iconst (v := 4) C dX10_within_3 (by decide) ?_
  refine g_icmp_ge C 28 dX10_within_4 rfl (fun q => ?_) (fun q => ?_)
  · replace h := ip q h
    refine g_iload_n C dX10_within_28 1 rfl ?_
    refine g_iconst (v := 4) C dX10_within_29 (by decide) ?_
    refine g_iadd C dX10_within_30 ?_
    cases h
    exact g_ireturn C rfl dX10_within_31
  · replace h := iq q h
    refine g_aload_n C dX10_within_7 0 rfl ?_
    refine g_iload_n C dX10_within_8 1 rfl ?_
    refine g_iload_n C dX10_within_9 3 rfl ?_
    refine g_iadd C dX10_within_10 ?_
    refine g_iload_n C dX10_within_11 2 rfl ?_
    refine g_bipush (v := 24) C dX10_within_12 (by decide) ?_
    refine g_bipush (v := 8) C dX10_within_14 (by decide) ?_
    refine g_iload_n C dX10_within_16 3 rfl ?_
    refine g_imul C dX10_within_17 ?_
    refine g_isub C dX10_within_18 ?_
    refine g_ishr C dX10_within_19 ?_
    refine g_i2b C dX10_within_20 ?_
    obtain ⟨hg, h⟩ := gs h
    refine g_bast C s_a0 (ib_in hg) dX10_within_21 ?_
    obtain ⟨μ1, e_μ1, h⟩ := nm h
    refine g_mu e_μ1 ?_
    obtain ⟨x2, e_x2, h⟩ := nm h
    refine g_iinc (v := x2) (lv' := [(3, .int x2), (0, .ref a0), (1, .int v1), (2, .int v2)]) C dX10_within_22 (by decide) 3 rfl 1 (by decide) e_x2.symm rfl ?_
    refine g_goto C 2 dX10_within_25 rfl ?_
    exact g_lv [1, 2, 3, 0] rfl (hrec2 _ _ _ _ _ s_a0 h)
theorem wX10_within_L2 {p : Program} {l : Launch} {e : Env} {s : State} {m : MethodId} {args : Array Value} {below : List Frame} {meth : Method} {c : Code} {D : va_G} {cA : Nat → ClassId} {tS : Nat → Nat} {σ : Sg} {fu : Nat} {q : Int32 × Mm} (C : Cx p s m args meth c (dm σ) D cA tS σ cX10_within (some .int) 4 RX10) : ∀ (n : Nat) (a0 : Nat) (v1 : Int32) (v2 : Int32) (v3 : Int32) (μ : Mm), (σ a0 = some (12, 12020)) → fX10_within_L2 fu n a0 v1 v2 v3 μ = some q → GG p l e (rmO 0 0) s m args below meth c 0 0 (dm σ) D cA σ 4 (MQ below (QI D cA σ q.1 q.2) args s 0 0 (dm σ)) 2 [(0, .ref a0), (1, .int v1), (2, .int v2), (3, .int v3)] [] μ := by
  intro n
  induction n with
  | zero => intro a0 v1 v2 v3 μ s_a0 h; cases h
  | succ n ih => intro a0 v1 v2 v3 μ s_a0 h; exact wX10_within_B2 C (fun _ _ _ _ _ k0 h => ih _ _ _ _ _ k0 h) _ _ _ _ _ s_a0 h
set_option maxRecDepth 100000 in
set_option maxHeartbeats 4000000 in
theorem wX10_within {p : Program} {l : Launch} {e : Env} {s : State} {m : MethodId} {args : Array Value} {below : List Frame} {meth : Method} {c : Code} {D : va_G} {cA : Nat → ClassId} {tS : Nat → Nat} {σ : Sg} {fu : Nat} {q : Int32 × Mm} (C : Cx p s m args meth c (dm σ) D cA tS σ cX10_within (some .int) 4 RX10) (a0 : Nat) (v1 : Int32) (v2 : Int32) (μ : Mm) (s_a0 : σ a0 = some (12, 12020)) (h : fX10_within fu a0 v1 v2 μ = some q) : GG p l e (rmO 0 0) s m args below meth c 0 0 (dm σ) D cA σ 4 (MQ below (QI D cA σ q.1 q.2) args s 0 0 (dm σ)) 0 [(0, .ref a0), (1, .int v1), (2, .int v2)] [] μ := by
  unfold fX10_within at h
  refine g_iconst (v := 0) C dX10_within_0 (by decide) ?_
  refine g_istore_n (lv' := [(3, .int 0), (0, .ref a0), (1, .int v1), (2, .int v2)]) C dX10_within_1 (by decide) rfl ?_
  exact g_lv [1, 2, 3, 0] rfl (wX10_within_L2 C fu _ _ _ _ _ s_a0 h)
theorem msX10_within : MS yX10_within cX10_within 4 (some .int) 3 := ⟨wcX10_within, wtX10_within, wiX10, by decide +kernel⟩
theorem kX10_within {l : Launch} {D : va_G} {cA : Nat → ClassId} {tS : Nat → Nat} {σ : Sg} {a0 : Nat} {v1 : Int32} {v2 : Int32} {μ : Mm} {fu : Nat} {q : Int32 × Mm} (s_a0 : σ a0 = some (12, 12020)) (h : fX10_within fu a0 v1 v2 μ = some q) : Ct l D cA tS σ yX10_within cX10_within 4 (some .int) (rmO 0 0) [.ref a0, .int v1, .int v2] μ (QI D cA σ q.1 q.2) :=
  Ct.of (by decide) (Nat.le_of_ble_eq_true rfl) (fun _ _ _ _ _ _ _ _ C => wX10_within C _ _ _ _ s_a0 h)
set_option maxRecDepth 100000 in
set_option maxHeartbeats 4000000 in
theorem wX10_feed {p : Program} {l : Launch} {e : Env} {s : State} {m : MethodId} {args : Array Value} {below : List Frame} {meth : Method} {c : Code} {D : va_G} {cA : Nat → ClassId} {tS : Nat → Nat} {σ : Sg} {fu : Nat} {q : Int32 × Mm} (C : Cx p s m args meth c (dm σ) D cA tS σ cX10_feed (some .int) 7 RX10) (a0 : Nat) (v1 : Int32) (v2 : Int32) (v3 : Int32) (v4 : Int32) (v5 : Int32) (μ : Mm) (s_a0 : σ a0 = some (10, 0)) (h : fX10_feed fu a0 v1 v2 v3 v4 v5 μ = some q) : GG p l e (rmO 1 23) s m args below meth c 0 0 (dm σ) D cA σ 7 (MQ below (QI D cA σ q.1 q.2) args s 0 0 (dm σ)) 0 [(0, .ref a0), (1, .int v1), (2, .int v2), (3, .int v3), (4, .int v4), (5, .int v5)] [] μ := by
  unfold fX10_feed at h
  refine g_aload_n C dX10_feed_0 0 rfl ?_
  refine g_geti (j := 2) C s_a0 (by decide) rfl uwX10 (by decide) rfl lfX10_76 rfl dX10_feed_1 ?_
  refine g_bipush (v := 20) C dX10_feed_4 (by decide) ?_
  refine g_iadd C dX10_feed_6 ?_
  refine g_sipush (v := 12000) C dX10_feed_7 (by decide) ?_
  refine g_icmp_le C 15 dX10_feed_10 rfl (fun q => ?_) (fun q => ?_)
  · replace h := ip q h
    refine g_aload_n C dX10_feed_15 0 rfl ?_
    refine g_wt (fun hT_μ => ?_)
    refine g_getr (j := 0) C s_a0 (by decide) rfl uwX10 (by decide) rfl lfX10_7 rfl dX10_feed_16 ?_
    refine g_aload_n C dX10_feed_19 0 rfl ?_
    refine g_geti (j := 2) C s_a0 (by decide) rfl uwX10 (by decide) rfl lfX10_76 rfl dX10_feed_20 ?_
    refine g_iload_n C dX10_feed_23 1 rfl ?_
    obtain ⟨q1, e_q1, h⟩ := bs h
    refine g_callSI C (kX10_within (hT_μ.1 _ _ 0 _ s_a0 rfl) e_q1) msX10_within lmX10_79 rfl rfl (Nat.le_of_ble_eq_true rfl) dX10_feed_24 ⟨by decide, by decide⟩ ⟨Nat.zero_le _, Nat.zero_le _⟩ ?_
    obtain ⟨x2, e_x2, h⟩ := nm h
    refine g_topi e_x2 ?_
    refine g_istore (lv' := [(6, .int x2), (0, .ref a0), (1, .int v1), (2, .int v2), (3, .int v3), (4, .int v4), (5, .int v5)]) C dX10_feed_27 (by decide) rfl ?_
    refine g_aload_n C dX10_feed_29 1 rfl ?_
    refine g_wt (fun hT_q1_2 => ?_)
    refine g_getr (j := 0) C s_a0 (by decide) rfl uwX10 (by decide) rfl lfX10_7 rfl dX10_feed_30 ?_
    refine g_iload C dX10_feed_33 0 rfl ?_
    refine g_iload_n C dX10_feed_35 3 rfl ?_
    obtain ⟨q3, e_q3, h⟩ := bs h
    refine g_callSI C (kX10_within (hT_q1_2.1 _ _ 0 _ s_a0 rfl) e_q3) msX10_within lmX10_79 rfl rfl (Nat.le_of_ble_eq_true rfl) dX10_feed_36 ⟨by decide, by decide⟩ ⟨Nat.zero_le _, Nat.zero_le _⟩ ?_
    obtain ⟨x4, e_x4, h⟩ := nm h
    refine g_topi e_x4 ?_
    refine g_istore (lv' := [(6, .int x4), (0, .ref a0), (1, .int v1), (2, .int v2), (3, .int v3), (4, .int v4), (5, .int v5)]) C dX10_feed_39 (by decide) rfl ?_
    refine g_aload_n C dX10_feed_41 1 rfl ?_
    refine g_wt (fun hT_q3_2 => ?_)
    refine g_getr (j := 0) C s_a0 (by decide) rfl uwX10 (by decide) rfl lfX10_7 rfl dX10_feed_42 ?_
    refine g_iload C dX10_feed_45 0 rfl ?_
    refine g_iload_n C dX10_feed_47 4 rfl ?_
    obtain ⟨q5, e_q5, h⟩ := bs h
    refine g_callSI C (kX10_within (hT_q3_2.1 _ _ 0 _ s_a0 rfl) e_q5) msX10_within lmX10_79 rfl rfl (Nat.le_of_ble_eq_true rfl) dX10_feed_48 ⟨by decide, by decide⟩ ⟨Nat.zero_le _, Nat.zero_le _⟩ ?_
    obtain ⟨x6, e_x6, h⟩ := nm h
    refine g_topi e_x6 ?_
    refine g_istore (lv' := [(6, .int x6), (0, .ref a0), (1, .int v1), (2, .int v2), (3, .int v3), (4, .int v4), (5, .int v5)]) C dX10_feed_51 (by decide) rfl ?_
    refine g_aload_n C dX10_feed_53 1 rfl ?_
    refine g_wt (fun hT_q5_2 => ?_)
    refine g_getr (j := 0) C s_a0 (by decide) rfl uwX10 (by decide) rfl lfX10_7 rfl dX10_feed_54 ?_
    refine g_iload C dX10_feed_57 0 rfl ?_
    refine g_iload C dX10_feed_59 5 rfl ?_
    obtain ⟨q7, e_q7, h⟩ := bs h
    refine g_callSI C (kX10_within (hT_q5_2.1 _ _ 0 _ s_a0 rfl) e_q7) msX10_within lmX10_79 rfl rfl (Nat.le_of_ble_eq_true rfl) dX10_feed_61 ⟨by decide, by decide⟩ ⟨Nat.zero_le _, Nat.zero_le _⟩ ?_
    obtain ⟨x8, e_x8, h⟩ := nm h
    refine g_topi e_x8 ?_
    refine g_istore (lv' := [(6, .int x8), (0, .ref a0), (1, .int v1), (2, .int v2), (3, .int v3), (4, .int v4), (5, .int v5)]) C dX10_feed_64 (by decide) rfl ?_
    refine g_aload_n C dX10_feed_66 1 rfl ?_
    refine g_aload_n C dX10_feed_67 1 rfl ?_
    refine g_wt (fun hT_q7_2 => ?_)
    refine g_getr (j := 0) C s_a0 (by decide) rfl uwX10 (by decide) rfl lfX10_7 rfl dX10_feed_68 ?_
    refine g_iload C dX10_feed_71 0 rfl ?_
    refine g_iload C dX10_feed_73 6 rfl ?_
    obtain ⟨q9, e_q9, h⟩ := bs h
    refine g_callSI C (kX10_within (hT_q7_2.1 _ _ 0 _ s_a0 rfl) e_q9) msX10_within lmX10_79 rfl rfl (Nat.le_of_ble_eq_true rfl) dX10_feed_75 ⟨by decide, by decide⟩ ⟨Nat.zero_le _, Nat.zero_le _⟩ ?_
    refine g_puti (j := 2) C s_a0 (by decide) rfl uwX10 tyX10_ok nmX10 (by decide) rfl lfX10_76 rfl rfl rfl (fun _ _ => rfl) (fun _ _ => Nat.le_of_ble_eq_true rfl) dX10_feed_78 ?_
    obtain ⟨μ10, e_μ10, h⟩ := nm h
    refine g_mu e_μ10 ?_
    refine g_aload_n C dX10_feed_81 1 rfl ?_
    refine g_geti (j := 2) C s_a0 (by decide) rfl uwX10 (by decide) rfl lfX10_76 rfl dX10_feed_82 ?_
    cases h
    exact g_ireturn C rfl dX10_feed_85
  · replace h := iq q h
    refine g_iconst (v := -1) C dX10_feed_13 (by decide) ?_
    cases h
    exact g_ireturn C rfl dX10_feed_14
theorem miX10_feed : MI yX10_feed cX10_feed 7 (some .int) RX10 5 := ⟨wcX10_feed, wmX10_feed, wsX10_feed, wiX10, by decide +kernel⟩
theorem kX10_feed {l : Launch} {D : va_G} {cA : Nat → ClassId} {tS : Nat → Nat} {σ : Sg} {a0 : Nat} {v1 : Int32} {v2 : Int32} {v3 : Int32} {v4 : Int32} {v5 : Int32} {μ : Mm} {fu : Nat} {q : Int32 × Mm} (s_a0 : σ a0 = some (10, 0)) (h : fX10_feed fu a0 v1 v2 v3 v4 v5 μ = some q) : Ct l D cA tS σ yX10_feed cX10_feed 7 (some .int) (rmO 1 23) [.ref a0, .int v1, .int v2, .int v3, .int v4, .int v5] μ (QI D cA σ q.1 q.2) :=
  Ct.of (by decide) (Nat.le_of_ble_eq_true rfl) (fun _ _ _ _ _ _ _ _ C => wX10_feed C _ _ _ _ _ _ _ s_a0 h)
set_option maxRecDepth 100000 in
set_option maxHeartbeats 4000000 in
theorem wX10_take_B2 {p : Program} {l : Launch} {e : Env} {s : State} {m : MethodId} {args : Array Value} {below : List Frame} {meth : Method} {c : Code} {D : va_G} {cA : Nat → ClassId} {tS : Nat → Nat} {σ : Sg} {rec2 : Nat → Int32 → Mm → Option (Int32 × Mm)} {fu : Nat} {q : Int32 × Mm} (C : Cx p s m args meth c (dm σ) D cA tS σ cX10_take (some .int) 2 RX10) (hrec2 : ∀ (y0 : Nat) (y1 : Int32) (μ : Mm), σ y0 = some (10, 0) → rec2 y0 y1 μ = some q → GG p l e (rmO 0 0) s m args below meth c 0 0 (dm σ) D cA σ 2 (MQ below (QI D cA σ q.1 q.2) args s 0 0 (dm σ)) 2 [(0, .ref y0), (1, .int y1)] [] μ) (a0 : Nat) (v1 : Int32) (μ : Mm) (s_a0 : σ a0 = some (10, 0)) (h : fX10_take_B2 rec2 fu a0 v1 μ = some q) : GG p l e (rmO 0 0) s m args below meth c 0 0 (dm σ) D cA σ 2 (MQ below (QI D cA σ q.1 q.2) args s 0 0 (dm σ)) 2 [(0, .ref a0), (1, .int v1)] [] μ := by
  unfold fX10_take_B2 at h
  refine g_iload_n C dX10_take_2 1 rfl ?_
  refine g_aload_n C dX10_take_3 0 rfl ?_
  refine g_geti (j := 3) C s_a0 (by decide) rfl uwX10 (by decide) rfl lfX10_83 rfl dX10_take_4 ?_
  refine g_icmp_ge C 28 dX10_take_7 rfl (fun q => ?_) (fun q => ?_)
  · replace h := ip q h
    refine g_aload_n C dX10_take_28 0 rfl ?_
    refine g_aload_n C dX10_take_29 0 rfl ?_
    refine g_geti (j := 3) C s_a0 (by decide) rfl uwX10 (by decide) rfl lfX10_83 rfl dX10_take_30 ?_
    refine g_puti (j := 2) C s_a0 (by decide) rfl uwX10 tyX10_ok nmX10 (by decide) rfl lfX10_76 rfl rfl rfl (fun _ _ => rfl) (fun _ _ => Nat.le_of_ble_eq_true rfl) dX10_take_33 ?_
    obtain ⟨μ1, e_μ1, h⟩ := nm h
    refine g_mu e_μ1 ?_
    refine g_aload_n C dX10_take_36 0 rfl ?_
    refine g_geti (j := 2) C s_a0 (by decide) rfl uwX10 (by decide) rfl lfX10_76 rfl dX10_take_37 ?_
    cases h
    exact g_ireturn C rfl dX10_take_40
  · replace h := iq q h
    refine g_aload_n C dX10_take_10 0 rfl ?_
    refine g_wt (fun hT_μ => ?_)
    refine g_getr (j := 0) C s_a0 (by decide) rfl uwX10 (by decide) rfl lfX10_7 rfl dX10_take_11 ?_
    refine g_iload_n C dX10_take_14 1 rfl ?_
    refine g_aload_n C dX10_take_15 0 rfl ?_
    refine g_getr (j := 1) C s_a0 (by decide) rfl uwX10 (by decide) rfl lfX10_13 rfl dX10_take_16 ?_
    refine g_iload_n C dX10_take_19 1 rfl ?_
    obtain ⟨hg2, h⟩ := gs h
    refine g_bald C (hT_μ.1 _ _ 1 _ s_a0 rfl) (ib_in hg2) dX10_take_20 ?_
    obtain ⟨hg, h⟩ := gs h
    refine g_bast C (hT_μ.1 _ _ 0 _ s_a0 rfl) (ib_in hg) dX10_take_21 ?_
    obtain ⟨μ3, e_μ3, h⟩ := nm h
    refine g_mu e_μ3 ?_
    obtain ⟨x4, e_x4, h⟩ := nm h
    refine g_iinc (v := x4) (lv' := [(1, .int x4), (0, .ref a0)]) C dX10_take_22 (by decide) 1 rfl 1 (by decide) e_x4.symm rfl ?_
    refine g_goto C 2 dX10_take_25 rfl ?_
    exact g_lv [1, 0] rfl (hrec2 _ _ _ s_a0 h)
theorem wX10_take_L2 {p : Program} {l : Launch} {e : Env} {s : State} {m : MethodId} {args : Array Value} {below : List Frame} {meth : Method} {c : Code} {D : va_G} {cA : Nat → ClassId} {tS : Nat → Nat} {σ : Sg} {fu : Nat} {q : Int32 × Mm} (C : Cx p s m args meth c (dm σ) D cA tS σ cX10_take (some .int) 2 RX10) : ∀ (n : Nat) (a0 : Nat) (v1 : Int32) (μ : Mm), (σ a0 = some (10, 0)) → fX10_take_L2 fu n a0 v1 μ = some q → GG p l e (rmO 0 0) s m args below meth c 0 0 (dm σ) D cA σ 2 (MQ below (QI D cA σ q.1 q.2) args s 0 0 (dm σ)) 2 [(0, .ref a0), (1, .int v1)] [] μ := by
  intro n
  induction n with
  | zero => intro a0 v1 μ s_a0 h; cases h
  | succ n ih => intro a0 v1 μ s_a0 h; exact wX10_take_B2 C (fun _ _ _ k0 h => ih _ _ _ k0 h) _ _ _ s_a0 h
set_option maxRecDepth 100000 in
set_option maxHeartbeats 4000000 in
theorem wX10_take {p : Program} {l : Launch} {e : Env} {s : State} {m : MethodId} {args : Array Value} {below : List Frame} {meth : Method} {c : Code} {D : va_G} {cA : Nat → ClassId} {tS : Nat → Nat} {σ : Sg} {fu : Nat} {q : Int32 × Mm} (C : Cx p s m args meth c (dm σ) D cA tS σ cX10_take (some .int) 2 RX10) (a0 : Nat) (μ : Mm) (s_a0 : σ a0 = some (10, 0)) (h : fX10_take fu a0 μ = some q) : GG p l e (rmO 0 0) s m args below meth c 0 0 (dm σ) D cA σ 2 (MQ below (QI D cA σ q.1 q.2) args s 0 0 (dm σ)) 0 [(0, .ref a0)] [] μ := by
  unfold fX10_take at h
  refine g_iconst (v := 0) C dX10_take_0 (by decide) ?_
  refine g_istore_n (lv' := [(1, .int 0), (0, .ref a0)]) C dX10_take_1 (by decide) rfl ?_
  exact g_lv [1, 0] rfl (wX10_take_L2 C fu _ _ _ s_a0 h)
theorem miX10_take : MI yX10_take cX10_take 2 (some .int) RX10 0 := ⟨wcX10_take, wmX10_take, wsX10_take, wiX10, by decide +kernel⟩
theorem kX10_take {l : Launch} {D : va_G} {cA : Nat → ClassId} {tS : Nat → Nat} {σ : Sg} {a0 : Nat} {μ : Mm} {fu : Nat} {q : Int32 × Mm} (s_a0 : σ a0 = some (10, 0)) (h : fX10_take fu a0 μ = some q) : Ct l D cA tS σ yX10_take cX10_take 2 (some .int) (rmO 0 0) [.ref a0] μ (QI D cA σ q.1 q.2) :=
  Ct.of (by decide) (Nat.le_of_ble_eq_true rfl) (fun _ _ _ _ _ _ _ _ C => wX10_take C _ _ s_a0 h)
set_option maxRecDepth 100000 in
set_option maxHeartbeats 4000000 in
theorem wX10_wrong {p : Program} {l : Launch} {e : Env} {s : State} {m : MethodId} {args : Array Value} {below : List Frame} {meth : Method} {c : Code} {D : va_G} {cA : Nat → ClassId} {tS : Nat → Nat} {σ : Sg} {q : Mm} (C : Cx p s m args meth c (dm σ) D cA tS σ cX10_wrong none 3 RX10) (a0 : Nat) (v1 : Int32) (v2 : Int32) (μ : Mm) (s_a0 : σ a0 = some (10, 0)) (h : fX10_wrong a0 v1 v2 μ = q) : GG p l e (rmO 0 0) s m args below meth c 0 0 (dm σ) D cA σ 3 (MQ below (QV D cA σ q) args s 0 0 (dm σ)) 0 [(0, .ref a0), (1, .int v1), (2, .int v2)] [] μ := by
  unfold fX10_wrong at h
  refine g_aload_n C dX10_wrong_0 0 rfl ?_
  refine g_geti (j := 4) C s_a0 (by decide) rfl uwX10 (by decide) rfl lfX10_16 rfl dX10_wrong_1 ?_
  refine g_if_eq C 8 dX10_wrong_4 rfl (fun q => ?_) (fun q => ?_)
  · replace h := ip q h
    refine g_aload_n C dX10_wrong_8 0 rfl ?_
    refine g_iload_n C dX10_wrong_9 1 rfl ?_
    refine g_puti (j := 4) C s_a0 (by decide) rfl uwX10 tyX10_ok nmX10 (by decide) rfl lfX10_16 rfl rfl rfl (fun _ _ => rfl) (fun _ _ => Nat.le_of_ble_eq_true rfl) dX10_wrong_10 ?_
    obtain ⟨μ1, e_μ1, h⟩ := nm h
    refine g_mu e_μ1 ?_
    refine g_aload_n C dX10_wrong_13 0 rfl ?_
    refine g_iload_n C dX10_wrong_14 2 rfl ?_
    refine g_puti (j := 5) C s_a0 (by decide) rfl uwX10 tyX10_ok nmX10 (by decide) rfl lfX10_20 rfl rfl rfl (fun _ _ => rfl) (fun _ _ => Nat.le_of_ble_eq_true rfl) dX10_wrong_15 ?_
    obtain ⟨μ2, e_μ2, h⟩ := nm h
    refine g_mu e_μ2 ?_
    subst h
    exact g_return C dX10_wrong_18
  · replace h := iq q h
    subst h
    exact g_return C dX10_wrong_7
theorem miX10_wrong : MI yX10_wrong cX10_wrong 3 none RX10 2 := ⟨wcX10_wrong, wmX10_wrong, wsX10_wrong, wiX10, by decide +kernel⟩
theorem kX10_wrong {l : Launch} {D : va_G} {cA : Nat → ClassId} {tS : Nat → Nat} {σ : Sg} {a0 : Nat} {v1 : Int32} {v2 : Int32} {μ : Mm} {q : Mm} (s_a0 : σ a0 = some (10, 0)) (h : fX10_wrong a0 v1 v2 μ = q) : Ct l D cA tS σ yX10_wrong cX10_wrong 3 none (rmO 0 0) [.ref a0, .int v1, .int v2] μ (QV D cA σ q) :=
  Ct.of (by decide) (Nat.le_of_ble_eq_true rfl) (fun _ _ _ _ _ _ _ _ C => wX10_wrong C _ _ _ _ s_a0 h)
set_option maxRecDepth 100000 in
set_option maxHeartbeats 4000000 in
theorem wX10_good {p : Program} {l : Launch} {e : Env} {s : State} {m : MethodId} {args : Array Value} {below : List Frame} {meth : Method} {c : Code} {D : va_G} {cA : Nat → ClassId} {tS : Nat → Nat} {σ : Sg} {q : Int32} (C : Cx p s m args meth c (dm σ) D cA tS σ cX10_good (some .boolean) 1 RX10) (a0 : Nat) (μ : Mm) (s_a0 : σ a0 = some (10, 0)) (h : fX10_good a0 μ = q) : GG p l e (rmO 0 0) s m args below meth c 0 0 (dm σ) D cA σ 1 (MQ below (QI D cA σ q μ) args s 0 0 (dm σ)) 0 [(0, .ref a0)] [] μ := by
  unfold fX10_good at h
  refine g_aload_n C dX10_good_0 0 rfl ?_
  refine g_geti (j := 4) C s_a0 (by decide) rfl uwX10 (by decide) rfl lfX10_16 rfl dX10_good_1 ?_
  refine g_if_ne C 11 dX10_good_4 rfl (fun q => ?_) (fun q => ?_)
  · replace h := iq q h
    refine g_iconst (v := 0) C dX10_good_11 (by decide) ?_
    subst h
    exact g_zreturn (r := 0) C rfl dX10_good_12
  · replace h := ip q h
    refine g_iconst (v := 1) C dX10_good_7 (by decide) ?_
    refine g_goto C 12 dX10_good_8 rfl ?_
    subst h
    exact g_zreturn (r := 1) C rfl dX10_good_12
theorem miX10_good : MI yX10_good cX10_good 1 (some .boolean) RX10 0 := ⟨wcX10_good, wmX10_good, wsX10_good, wiX10, by decide +kernel⟩
theorem kX10_good {l : Launch} {D : va_G} {cA : Nat → ClassId} {tS : Nat → Nat} {σ : Sg} {a0 : Nat} {μ : Mm} {q : Int32} (s_a0 : σ a0 = some (10, 0)) (h : fX10_good a0 μ = q) : Ct l D cA tS σ yX10_good cX10_good 1 (some .boolean) (rmO 0 0) [.ref a0] μ (QI D cA σ q μ) :=
  Ct.of (by decide) (Nat.le_of_ble_eq_true rfl) (fun _ _ _ _ _ _ _ _ C => wX10_good C _ _ s_a0 h)
set_option maxRecDepth 100000 in
set_option maxHeartbeats 4000000 in
theorem wX10_one_L27 {p : Program} {l : Launch} {e : Env} {s : State} {m : MethodId} {args : Array Value} {below : List Frame} {meth : Method} {c : Code} {D : va_G} {cA : Nat → ClassId} {tS : Nat → Nat} {σ : Sg} {q : Int32 × Mm} (C : Cx p s m args meth c (dm σ) D cA tS σ cX10_one (some .int) 1 RX10) (a0 : Nat) (μ : Mm) (s_a0 : σ a0 = some (10, 0)) (h : fX10_one_L27 a0 μ = some q) : GG p l e (rmO 1 22) s m args below meth c 0 0 (dm σ) D cA σ 1 (MQ below (QI D cA σ q.1 q.2) args s 0 0 (dm σ)) 27 [(0, .ref a0)] [] μ := by
  unfold fX10_one_L27 at h
  refine g_aload_n C dX10_one_27 0 rfl ?_
  obtain ⟨x1, e_x1, h⟩ := nm h
  refine g_callVI C (kX10_good s_a0 e_x1.symm) miX10_good lmX10_86 s_a0 (by decide) rfl rfl rfl (Nat.le_of_ble_eq_true rfl) dX10_one_28 ⟨by decide, by decide⟩ ⟨Nat.zero_le _, Nat.zero_le _⟩ ?_
  refine g_if_ne C 36 dX10_one_31 rfl (fun q => ?_) (fun q => ?_)
  · replace h := iq q h
    refine g_aload_n C dX10_one_36 0 rfl ?_
    refine g_dup C dX10_one_37 rfl ?_
    refine g_geti (j := 12) C s_a0 (by decide) rfl uwX10 (by decide) rfl lfX10_90 rfl dX10_one_38 ?_
    refine g_iconst (v := 1) C dX10_one_41 (by decide) ?_
    refine g_iadd C dX10_one_42 ?_
    refine g_puti (j := 12) C s_a0 (by decide) rfl uwX10 tyX10_ok nmX10 (by decide) rfl lfX10_90 rfl rfl rfl (fun _ _ => rfl) (fun _ _ => Nat.le_of_ble_eq_true rfl) dX10_one_43 ?_
    obtain ⟨μ2, e_μ2, h⟩ := nm h
    refine g_mu e_μ2 ?_
    refine g_aload_n C dX10_one_46 0 rfl ?_
    refine g_wt (fun hT_μ2 => ?_)
    refine g_getr (j := 0) C s_a0 (by decide) rfl uwX10 (by decide) rfl lfX10_7 rfl dX10_one_47 ?_
    refine g_aload_n C dX10_one_50 0 rfl ?_
    refine g_geti (j := 12) C s_a0 (by decide) rfl uwX10 (by decide) rfl lfX10_90 rfl dX10_one_51 ?_
    refine g_iconst (v := 1) C dX10_one_54 (by decide) ?_
    refine g_isub C dX10_one_55 ?_
    obtain ⟨hg3, h⟩ := gs h
    refine g_bald C (hT_μ2.1 _ _ 0 _ s_a0 rfl) (ib_in hg3) dX10_one_56 ?_
    refine g_sipush (v := 255) C dX10_one_57 (by decide) ?_
    refine g_iand C dX10_one_60 ?_
    cases h
    exact g_ireturn C rfl dX10_one_61
  · replace h := ip q h
    refine g_iconst (v := 0) C dX10_one_34 (by decide) ?_
    cases h
    exact g_ireturn C rfl dX10_one_35
set_option maxRecDepth 100000 in
set_option maxHeartbeats 4000000 in
theorem wX10_one {p : Program} {l : Launch} {e : Env} {s : State} {m : MethodId} {args : Array Value} {below : List Frame} {meth : Method} {c : Code} {D : va_G} {cA : Nat → ClassId} {tS : Nat → Nat} {σ : Sg} {q : Int32 × Mm} (C : Cx p s m args meth c (dm σ) D cA tS σ cX10_one (some .int) 1 RX10) (a0 : Nat) (μ : Mm) (s_a0 : σ a0 = some (10, 0)) (h : fX10_one a0 μ = some q) : GG p l e (rmO 1 22) s m args below meth c 0 0 (dm σ) D cA σ 1 (MQ below (QI D cA σ q.1 q.2) args s 0 0 (dm σ)) 0 [(0, .ref a0)] [] μ := by
  unfold fX10_one at h
  refine g_aload_n C dX10_one_0 0 rfl ?_
  obtain ⟨x1, e_x1, h⟩ := nm h
  refine g_callVI C (kX10_good s_a0 e_x1.symm) miX10_good lmX10_86 s_a0 (by decide) rfl rfl rfl (Nat.le_of_ble_eq_true rfl) dX10_one_1 ⟨by decide, by decide⟩ ⟨Nat.zero_le _, Nat.zero_le _⟩ ?_
  refine g_if_eq C 27 dX10_one_4 rfl (fun q => ?_) (fun q => ?_)
  · replace h := ip q h
    exact g_lv [0] rfl (wX10_one_L27 C _ _ s_a0 h)
  · replace h := iq q h
    refine g_aload_n C dX10_one_7 0 rfl ?_
    refine g_geti (j := 12) C s_a0 (by decide) rfl uwX10 (by decide) rfl lfX10_90 rfl dX10_one_8 ?_
    refine g_aload_n C dX10_one_11 0 rfl ?_
    refine g_geti (j := 13) C s_a0 (by decide) rfl uwX10 (by decide) rfl lfX10_93 rfl dX10_one_12 ?_
    refine g_icmp_lt C 27 dX10_one_15 rfl (fun q => ?_) (fun q => ?_)
    · replace h := ip q h
      exact g_lv [0] rfl (wX10_one_L27 C _ _ s_a0 h)
    · replace h := iq q h
      refine g_aload_n C dX10_one_18 0 rfl ?_
      refine g_iconst (v := 2) C dX10_one_19 (by decide) ?_
      refine g_aload_n C dX10_one_20 0 rfl ?_
      refine g_geti (j := 13) C s_a0 (by decide) rfl uwX10 (by decide) rfl lfX10_93 rfl dX10_one_21 ?_
      obtain ⟨μ2, e_μ2, h⟩ := nm h
      refine g_callVV C (kX10_wrong s_a0 e_μ2.symm) miX10_wrong lmX10_96 s_a0 (by decide) rfl rfl rfl (Nat.le_of_ble_eq_true rfl) dX10_one_24 ⟨by decide, by decide⟩ ⟨Nat.zero_le _, Nat.zero_le _⟩ ?_
      exact g_lv [0] rfl (wX10_one_L27 C _ _ s_a0 h)
theorem miX10_one : MI yX10_one cX10_one 1 (some .int) RX10 0 := ⟨wcX10_one, wmX10_one, wsX10_one, wiX10, by decide +kernel⟩
theorem kX10_one {l : Launch} {D : va_G} {cA : Nat → ClassId} {tS : Nat → Nat} {σ : Sg} {a0 : Nat} {μ : Mm} {q : Int32 × Mm} (s_a0 : σ a0 = some (10, 0)) (h : fX10_one a0 μ = some q) : Ct l D cA tS σ yX10_one cX10_one 1 (some .int) (rmO 1 22) [.ref a0] μ (QI D cA σ q.1 q.2) :=
  Ct.of (by decide) (Nat.le_of_ble_eq_true rfl) (fun _ _ _ _ _ _ _ _ C => wX10_one C _ _ s_a0 h)
set_option maxRecDepth 100000 in
set_option maxHeartbeats 4000000 in
theorem wX10_two {p : Program} {l : Launch} {e : Env} {s : State} {m : MethodId} {args : Array Value} {below : List Frame} {meth : Method} {c : Code} {D : va_G} {cA : Nat → ClassId} {tS : Nat → Nat} {σ : Sg} {q : Int32 × Mm} (C : Cx p s m args meth c (dm σ) D cA tS σ cX10_two (some .int) 2 RX10) (a0 : Nat) (μ : Mm) (s_a0 : σ a0 = some (10, 0)) (h : fX10_two a0 μ = some q) : GG p l e (rmO 2 42) s m args below meth c 0 0 (dm σ) D cA σ 2 (MQ below (QI D cA σ q.1 q.2) args s 0 0 (dm σ)) 0 [(0, .ref a0)] [] μ := by
  unfold fX10_two at h
  refine g_aload_n C dX10_two_0 0 rfl ?_
  obtain ⟨q1, e_q1, h⟩ := bs h
  refine g_callVI C (kX10_one s_a0 e_q1) miX10_one lmX10_100 s_a0 (by decide) rfl rfl rfl (Nat.le_of_ble_eq_true rfl) dX10_two_1 ⟨by decide, by decide⟩ ⟨Nat.zero_le _, Nat.zero_le _⟩ ?_
  obtain ⟨x2, e_x2, h⟩ := nm h
  refine g_topi e_x2 ?_
  refine g_istore_n (lv' := [(1, .int x2), (0, .ref a0)]) C dX10_two_4 (by decide) rfl ?_
  refine g_iload_n C dX10_two_5 0 rfl ?_
  refine g_sipush (v := 256) C dX10_two_6 (by decide) ?_
  refine g_aload_n C dX10_two_9 1 rfl ?_
  obtain ⟨q3, e_q3, h⟩ := bs h
  refine g_callVI C (kX10_one s_a0 e_q3) miX10_one lmX10_100 s_a0 (by decide) rfl rfl rfl (Nat.le_of_ble_eq_true rfl) dX10_two_10 ⟨by decide, by decide⟩ ⟨Nat.zero_le _, Nat.zero_le _⟩ ?_
  refine g_imul C dX10_two_13 ?_
  refine g_iadd C dX10_two_14 ?_
  cases h
  exact g_ireturn C rfl dX10_two_15
theorem miX10_two : MI yX10_two cX10_two 2 (some .int) RX10 0 := ⟨wcX10_two, wmX10_two, wsX10_two, wiX10, by decide +kernel⟩
theorem kX10_two {l : Launch} {D : va_G} {cA : Nat → ClassId} {tS : Nat → Nat} {σ : Sg} {a0 : Nat} {μ : Mm} {q : Int32 × Mm} (s_a0 : σ a0 = some (10, 0)) (h : fX10_two a0 μ = some q) : Ct l D cA tS σ yX10_two cX10_two 2 (some .int) (rmO 2 42) [.ref a0] μ (QI D cA σ q.1 q.2) :=
  Ct.of (by decide) (Nat.le_of_ble_eq_true rfl) (fun _ _ _ _ _ _ _ _ C => wX10_two C _ _ s_a0 h)
set_option maxRecDepth 100000 in
set_option maxHeartbeats 4000000 in
theorem wX10_forget {p : Program} {l : Launch} {e : Env} {s : State} {m : MethodId} {args : Array Value} {below : List Frame} {meth : Method} {c : Code} {D : va_G} {cA : Nat → ClassId} {tS : Nat → Nat} {σ : Sg} {q : Mm} (C : Cx p s m args meth c (dm σ) D cA tS σ cX10_forget none 1 RX10) (a0 : Nat) (μ : Mm) (s_a0 : σ a0 = some (10, 0)) (h : fX10_forget a0 μ = q) : GG p l e (rmO 0 0) s m args below meth c 0 0 (dm σ) D cA σ 1 (MQ below (QV D cA σ q) args s 0 0 (dm σ)) 0 [(0, .ref a0)] [] μ := by
  unfold fX10_forget at h
  refine g_aload_n C dX10_forget_0 0 rfl ?_
  refine g_iconst (v := 0) C dX10_forget_1 (by decide) ?_
  refine g_puti (j := 16) C s_a0 (by decide) rfl uwX10 tyX10_ok nmX10 (by decide) rfl lfX10_126 rfl rfl rfl (fun _ _ => rfl) (fun _ _ => Nat.le_of_ble_eq_true rfl) dX10_forget_2 ?_
  obtain ⟨μ1, e_μ1, h⟩ := nm h
  refine g_mu e_μ1 ?_
  refine g_aload_n C dX10_forget_5 0 rfl ?_
  refine g_iconst (v := 0) C dX10_forget_6 (by decide) ?_
  refine g_puti (j := 17) C s_a0 (by decide) rfl uwX10 tyX10_ok nmX10 (by decide) rfl lfX10_129 rfl rfl rfl (fun _ _ => rfl) (fun _ _ => Nat.le_of_ble_eq_true rfl) dX10_forget_7 ?_
  obtain ⟨μ2, e_μ2, h⟩ := nm h
  refine g_mu e_μ2 ?_
  refine g_aload_n C dX10_forget_10 0 rfl ?_
  refine g_iconst (v := -1) C dX10_forget_11 (by decide) ?_
  refine g_puti (j := 18) C s_a0 (by decide) rfl uwX10 tyX10_ok nmX10 (by decide) rfl lfX10_132 rfl rfl rfl (fun _ _ => rfl) (fun _ _ => Nat.le_of_ble_eq_true rfl) dX10_forget_12 ?_
  obtain ⟨μ3, e_μ3, h⟩ := nm h
  refine g_mu e_μ3 ?_
  refine g_aload_n C dX10_forget_15 0 rfl ?_
  refine g_iconst (v := 0) C dX10_forget_16 (by decide) ?_
  refine g_puti (j := 19) C s_a0 (by decide) rfl uwX10 tyX10_ok nmX10 (by decide) rfl lfX10_135 rfl rfl rfl (fun _ _ => rfl) (fun _ _ => Nat.le_of_ble_eq_true rfl) dX10_forget_17 ?_
  obtain ⟨μ4, e_μ4, h⟩ := nm h
  refine g_mu e_μ4 ?_
  refine g_aload_n C dX10_forget_20 0 rfl ?_
  refine g_iconst (v := 0) C dX10_forget_21 (by decide) ?_
  refine g_puti (j := 20) C s_a0 (by decide) rfl uwX10 tyX10_ok nmX10 (by decide) rfl lfX10_138 rfl rfl rfl (fun _ _ => rfl) (fun _ _ => Nat.le_of_ble_eq_true rfl) dX10_forget_22 ?_
  obtain ⟨μ5, e_μ5, h⟩ := nm h
  refine g_mu e_μ5 ?_
  subst h
  exact g_return C dX10_forget_25
theorem miX10_forget : MI yX10_forget cX10_forget 1 none RX10 0 := ⟨wcX10_forget, wmX10_forget, wsX10_forget, wiX10, by decide +kernel⟩
theorem kX10_forget {l : Launch} {D : va_G} {cA : Nat → ClassId} {tS : Nat → Nat} {σ : Sg} {a0 : Nat} {μ : Mm} {q : Mm} (s_a0 : σ a0 = some (10, 0)) (h : fX10_forget a0 μ = q) : Ct l D cA tS σ yX10_forget cX10_forget 1 none (rmO 0 0) [.ref a0] μ (QV D cA σ q) :=
  Ct.of (by decide) (Nat.le_of_ble_eq_true rfl) (fun _ _ _ _ _ _ _ _ C => wX10_forget C _ _ s_a0 h)
set_option maxRecDepth 100000 in
set_option maxHeartbeats 4000000 in
theorem wX10_alone_B2 {p : Program} {l : Launch} {e : Env} {s : State} {m : MethodId} {args : Array Value} {below : List Frame} {meth : Method} {c : Code} {D : va_G} {cA : Nat → ClassId} {tS : Nat → Nat} {σ : Sg} {rec2 : Nat → Int32 → Int32 → Mm → Option (Mm)} {fu : Nat} {q : Mm} (C : Cx p s m args meth c (dm σ) D cA tS σ cX10_alone none 3 RX10) (hrec2 : ∀ (y0 : Nat) (y1 : Int32) (y2 : Int32) (μ : Mm), σ y0 = some (10, 0) → rec2 y0 y1 y2 μ = some q → GG p l e (rmO 0 0) s m args below meth c 0 0 (dm σ) D cA σ 3 (MQ below (QV D cA σ q) args s 0 0 (dm σ)) 2 [(0, .ref y0), (1, .int y1), (2, .int y2)] [] μ) (a0 : Nat) (v1 : Int32) (v2 : Int32) (μ : Mm) (s_a0 : σ a0 = some (10, 0)) (h : fX10_alone_B2 rec2 fu a0 v1 v2 μ = some q) : GG p l e (rmO 0 0) s m args below meth c 0 0 (dm σ) D cA σ 3 (MQ below (QV D cA σ q) args s 0 0 (dm σ)) 2 [(0, .ref a0), (1, .int v1), (2, .int v2)] [] μ := by
  unfold fX10_alone_B2 at h
  refine g_iload_n C dX10_alone_2 2 rfl ?_
  refine g_iconst (v := 1) C dX10_alone_3 (by decide) ?_
  refine g_iload_n C dX10_alone_4 1 rfl ?_
  refine g_ishl C dX10_alone_5 ?_
  refine g_icmp_ge C 45 dX10_alone_6 rfl (fun q => ?_) (fun q => ?_)
  · replace h := ip q h
    cases h
    exact g_return C dX10_alone_45
  · replace h := iq q h
    refine g_aload_n C dX10_alone_9 0 rfl ?_
    refine g_wt (fun hT_μ => ?_)
    refine g_getr (j := 24) C s_a0 (by decide) rfl uwX10 (by decide) rfl lfX10_44 rfl dX10_alone_10 ?_
    refine g_iload_n C dX10_alone_13 2 rfl ?_
    refine g_iconst (v := -1) C dX10_alone_14 (by decide) ?_
    obtain ⟨hg, h⟩ := gs h
    refine g_shast C (hT_μ.1 _ _ 24 _ s_a0 rfl) (ib_in hg) dX10_alone_15 ?_
    obtain ⟨μ1, e_μ1, h⟩ := nm h
    refine g_mu e_μ1 ?_
    refine g_aload_n C dX10_alone_16 0 rfl ?_
    refine g_wt (fun hT_μ1 => ?_)
    refine g_getr (j := 25) C s_a0 (by decide) rfl uwX10 (by decide) rfl lfX10_47 rfl dX10_alone_17 ?_
    refine g_iload_n C dX10_alone_20 2 rfl ?_
    refine g_iload_n C dX10_alone_21 2 rfl ?_
    refine g_i2s C dX10_alone_22 ?_
    obtain ⟨hg, h⟩ := gs h
    refine g_shast C (hT_μ1.1 _ _ 25 _ s_a0 rfl) (ib_in hg) dX10_alone_23 ?_
    obtain ⟨μ2, e_μ2, h⟩ := nm h
    refine g_mu e_μ2 ?_
    refine g_aload_n C dX10_alone_24 0 rfl ?_
    refine g_wt (fun hT_μ2 => ?_)
    refine g_getr (j := 26) C s_a0 (by decide) rfl uwX10 (by decide) rfl lfX10_50 rfl dX10_alone_25 ?_
    refine g_iload_n C dX10_alone_28 2 rfl ?_
    refine g_iload_n C dX10_alone_29 2 rfl ?_
    refine g_i2s C dX10_alone_30 ?_
    obtain ⟨hg, h⟩ := gs h
    refine g_shast C (hT_μ2.1 _ _ 26 _ s_a0 rfl) (ib_in hg) dX10_alone_31 ?_
    obtain ⟨μ3, e_μ3, h⟩ := nm h
    refine g_mu e_μ3 ?_
    refine g_aload_n C dX10_alone_32 0 rfl ?_
    refine g_wt (fun hT_μ3 => ?_)
    refine g_getr (j := 27) C s_a0 (by decide) rfl uwX10 (by decide) rfl lfX10_53 rfl dX10_alone_33 ?_
    refine g_iload_n C dX10_alone_36 2 rfl ?_
    refine g_iconst (v := 1) C dX10_alone_37 (by decide) ?_
    obtain ⟨hg, h⟩ := gs h
    refine g_shast C (hT_μ3.1 _ _ 27 _ s_a0 rfl) (ib_in hg) dX10_alone_38 ?_
    obtain ⟨μ4, e_μ4, h⟩ := nm h
    refine g_mu e_μ4 ?_
    obtain ⟨x5, e_x5, h⟩ := nm h
    refine g_iinc (v := x5) (lv' := [(2, .int x5), (0, .ref a0), (1, .int v1)]) C dX10_alone_39 (by decide) 2 rfl 1 (by decide) e_x5.symm rfl ?_
    refine g_goto C 2 dX10_alone_42 rfl ?_
    exact g_lv [1, 2, 0] rfl (hrec2 _ _ _ _ s_a0 h)
theorem wX10_alone_L2 {p : Program} {l : Launch} {e : Env} {s : State} {m : MethodId} {args : Array Value} {below : List Frame} {meth : Method} {c : Code} {D : va_G} {cA : Nat → ClassId} {tS : Nat → Nat} {σ : Sg} {fu : Nat} {q : Mm} (C : Cx p s m args meth c (dm σ) D cA tS σ cX10_alone none 3 RX10) : ∀ (n : Nat) (a0 : Nat) (v1 : Int32) (v2 : Int32) (μ : Mm), (σ a0 = some (10, 0)) → fX10_alone_L2 fu n a0 v1 v2 μ = some q → GG p l e (rmO 0 0) s m args below meth c 0 0 (dm σ) D cA σ 3 (MQ below (QV D cA σ q) args s 0 0 (dm σ)) 2 [(0, .ref a0), (1, .int v1), (2, .int v2)] [] μ := by
  intro n
  induction n with
  | zero => intro a0 v1 v2 μ s_a0 h; cases h
  | succ n ih => intro a0 v1 v2 μ s_a0 h; exact wX10_alone_B2 C (fun _ _ _ _ k0 h => ih _ _ _ _ k0 h) _ _ _ _ s_a0 h
set_option maxRecDepth 100000 in
set_option maxHeartbeats 4000000 in
theorem wX10_alone {p : Program} {l : Launch} {e : Env} {s : State} {m : MethodId} {args : Array Value} {below : List Frame} {meth : Method} {c : Code} {D : va_G} {cA : Nat → ClassId} {tS : Nat → Nat} {σ : Sg} {fu : Nat} {q : Mm} (C : Cx p s m args meth c (dm σ) D cA tS σ cX10_alone none 3 RX10) (a0 : Nat) (v1 : Int32) (μ : Mm) (s_a0 : σ a0 = some (10, 0)) (h : fX10_alone fu a0 v1 μ = some q) : GG p l e (rmO 0 0) s m args below meth c 0 0 (dm σ) D cA σ 3 (MQ below (QV D cA σ q) args s 0 0 (dm σ)) 0 [(0, .ref a0), (1, .int v1)] [] μ := by
  unfold fX10_alone at h
  refine g_iconst (v := 0) C dX10_alone_0 (by decide) ?_
  refine g_istore_n (lv' := [(2, .int 0), (0, .ref a0), (1, .int v1)]) C dX10_alone_1 (by decide) rfl ?_
  exact g_lv [1, 2, 0] rfl (wX10_alone_L2 C fu _ _ _ _ s_a0 h)
theorem miX10_alone : MI yX10_alone cX10_alone 3 none RX10 1 := ⟨wcX10_alone, wmX10_alone, wsX10_alone, wiX10, by decide +kernel⟩
theorem kX10_alone {l : Launch} {D : va_G} {cA : Nat → ClassId} {tS : Nat → Nat} {σ : Sg} {a0 : Nat} {v1 : Int32} {μ : Mm} {fu : Nat} {q : Mm} (s_a0 : σ a0 = some (10, 0)) (h : fX10_alone fu a0 v1 μ = some q) : Ct l D cA tS σ yX10_alone cX10_alone 3 none (rmO 0 0) [.ref a0, .int v1] μ (QV D cA σ q) :=
  Ct.of (by decide) (Nat.le_of_ble_eq_true rfl) (fun _ _ _ _ _ _ _ _ C => wX10_alone C _ _ _ s_a0 h)
set_option maxRecDepth 100000 in
set_option maxHeartbeats 4000000 in
theorem wX10_code_B25 {p : Program} {l : Launch} {e : Env} {s : State} {m : MethodId} {args : Array Value} {below : List Frame} {meth : Method} {c : Code} {D : va_G} {cA : Nat → ClassId} {tS : Nat → Nat} {σ : Sg} {rec25 : Nat → Int32 → Int32 → Mm → Option (Int32 × Mm)} {fu : Nat} {q : Int32 × Mm} (C : Cx p s m args meth c (dm σ) D cA tS σ cX10_code (some .int) 3 RX10) (hrec25 : ∀ (y0 : Nat) (y1 : Int32) (y2 : Int32) (μ : Mm), σ y0 = some (10, 0) → rec25 y0 y1 y2 μ = some q → GG p l e (rmO 0 0) s m args below meth c 0 0 (dm σ) D cA σ 3 (MQ below (QI D cA σ q.1 q.2) args s 0 0 (dm σ)) 25 [(0, .ref y0), (1, .int y1), (2, .int y2)] [] μ) (a0 : Nat) (v1 : Int32) (v2 : Int32) (μ : Mm) (s_a0 : σ a0 = some (10, 0)) (h : fX10_code_B25 rec25 fu a0 v1 v2 μ = some q) : GG p l e (rmO 0 0) s m args below meth c 0 0 (dm σ) D cA σ 3 (MQ below (QI D cA σ q.1 q.2) args s 0 0 (dm σ)) 25 [(0, .ref a0), (1, .int v1), (2, .int v2)] [] μ := by
  unfold fX10_code_B25 at h
  refine g_iload_n C dX10_code_25 2 rfl ?_
  refine g_aload_n C dX10_code_26 0 rfl ?_
  refine g_geti (j := 28) C s_a0 (by decide) rfl uwX10 (by decide) rfl lfX10_177 rfl dX10_code_27 ?_
  refine g_icmp_ge C 69 dX10_code_30 rfl (fun q => ?_) (fun q => ?_)
  · replace h := ip q h
    refine g_aload_n C dX10_code_69 0 rfl ?_
    refine g_dup C dX10_code_70 rfl ?_
    refine g_geti (j := 23) C s_a0 (by decide) rfl uwX10 (by decide) rfl lfX10_186 rfl dX10_code_71 ?_
    refine g_aload_n C dX10_code_74 0 rfl ?_
    refine g_geti (j := 28) C s_a0 (by decide) rfl uwX10 (by decide) rfl lfX10_177 rfl dX10_code_75 ?_
    refine g_iadd C dX10_code_78 ?_
    refine g_puti (j := 23) C s_a0 (by decide) rfl uwX10 tyX10_ok nmX10 (by decide) rfl lfX10_186 rfl rfl rfl (fun _ _ => rfl) (fun _ _ => Nat.le_of_ble_eq_true rfl) dX10_code_79 ?_
    obtain ⟨μ1, e_μ1, h⟩ := nm h
    refine g_mu e_μ1 ?_
    refine g_iload_n C dX10_code_82 1 rfl ?_
    cases h
    exact g_ireturn C rfl dX10_code_83
  · replace h := iq q h
    refine g_iload_n C dX10_code_33 1 rfl ?_
    refine g_aload_n C dX10_code_34 0 rfl ?_
    refine g_wt (fun hT_μ => ?_)
    refine g_getr (j := 21) C s_a0 (by decide) rfl uwX10 (by decide) rfl lfX10_41 rfl dX10_code_35 ?_
    refine g_aload_n C dX10_code_38 0 rfl ?_
    refine g_geti (j := 23) C s_a0 (by decide) rfl uwX10 (by decide) rfl lfX10_186 rfl dX10_code_39 ?_
    refine g_iload_n C dX10_code_42 2 rfl ?_
    refine g_iadd C dX10_code_43 ?_
    refine g_iconst (v := 3) C dX10_code_44 (by decide) ?_
    refine g_ishr C dX10_code_45 ?_
    obtain ⟨hg2, h⟩ := gs h
    refine g_bald C (hT_μ.1 _ _ 21 _ s_a0 rfl) (ib_in hg2) dX10_code_46 ?_
    refine g_aload_n C dX10_code_47 0 rfl ?_
    refine g_geti (j := 23) C s_a0 (by decide) rfl uwX10 (by decide) rfl lfX10_186 rfl dX10_code_48 ?_
    refine g_iload_n C dX10_code_51 2 rfl ?_
    refine g_iadd C dX10_code_52 ?_
    refine g_bipush (v := 7) C dX10_code_53 (by decide) ?_
    refine g_iand C dX10_code_55 ?_
    refine g_ishr C dX10_code_56 ?_
    refine g_iconst (v := 1) C dX10_code_57 (by decide) ?_
    refine g_iand C dX10_code_58 ?_
    refine g_iload_n C dX10_code_59 2 rfl ?_
    refine g_ishl C dX10_code_60 ?_
    refine g_ior C dX10_code_61 ?_
    obtain ⟨x3, e_x3, h⟩ := nm h
    refine g_topi e_x3 ?_
    refine g_istore_n (lv' := [(1, .int x3), (0, .ref a0), (2, .int v2)]) C dX10_code_62 (by decide) rfl ?_
    obtain ⟨x4, e_x4, h⟩ := nm h
    refine g_iinc (v := x4) (lv' := [(2, .int x4), (1, .int x3), (0, .ref a0)]) C dX10_code_63 (by decide) 2 rfl 1 (by decide) e_x4.symm rfl ?_
    refine g_goto C 25 dX10_code_66 rfl ?_
    exact g_lv [2, 1, 0] rfl (hrec25 _ _ _ _ s_a0 h)
theorem wX10_code_L25 {p : Program} {l : Launch} {e : Env} {s : State} {m : MethodId} {args : Array Value} {below : List Frame} {meth : Method} {c : Code} {D : va_G} {cA : Nat → ClassId} {tS : Nat → Nat} {σ : Sg} {fu : Nat} {q : Int32 × Mm} (C : Cx p s m args meth c (dm σ) D cA tS σ cX10_code (some .int) 3 RX10) : ∀ (n : Nat) (a0 : Nat) (v1 : Int32) (v2 : Int32) (μ : Mm), (σ a0 = some (10, 0)) → fX10_code_L25 fu n a0 v1 v2 μ = some q → GG p l e (rmO 0 0) s m args below meth c 0 0 (dm σ) D cA σ 3 (MQ below (QI D cA σ q.1 q.2) args s 0 0 (dm σ)) 25 [(0, .ref a0), (1, .int v1), (2, .int v2)] [] μ := by
  intro n
  induction n with
  | zero => intro a0 v1 v2 μ s_a0 h; cases h
  | succ n ih => intro a0 v1 v2 μ s_a0 h; exact wX10_code_B25 C (fun _ _ _ _ k0 h => ih _ _ _ _ k0 h) _ _ _ _ s_a0 h
set_option maxRecDepth 100000 in
set_option maxHeartbeats 4000000 in
theorem wX10_code {p : Program} {l : Launch} {e : Env} {s : State} {m : MethodId} {args : Array Value} {below : List Frame} {meth : Method} {c : Code} {D : va_G} {cA : Nat → ClassId} {tS : Nat → Nat} {σ : Sg} {fu : Nat} {q : Int32 × Mm} (C : Cx p s m args meth c (dm σ) D cA tS σ cX10_code (some .int) 3 RX10) (a0 : Nat) (μ : Mm) (s_a0 : σ a0 = some (10, 0)) (h : fX10_code fu a0 μ = some q) : GG p l e (rmO 0 0) s m args below meth c 0 0 (dm σ) D cA σ 3 (MQ below (QI D cA σ q.1 q.2) args s 0 0 (dm σ)) 0 [(0, .ref a0)] [] μ := by
  unfold fX10_code at h
  refine g_aload_n C dX10_code_0 0 rfl ?_
  refine g_geti (j := 23) C s_a0 (by decide) rfl uwX10 (by decide) rfl lfX10_186 rfl dX10_code_1 ?_
  refine g_aload_n C dX10_code_4 0 rfl ?_
  refine g_geti (j := 28) C s_a0 (by decide) rfl uwX10 (by decide) rfl lfX10_177 rfl dX10_code_5 ?_
  refine g_iadd C dX10_code_8 ?_
  refine g_bipush (v := 8) C dX10_code_9 (by decide) ?_
  refine g_aload_n C dX10_code_11 0 rfl ?_
  refine g_geti (j := 22) C s_a0 (by decide) rfl uwX10 (by decide) rfl lfX10_174 rfl dX10_code_12 ?_
  refine g_imul C dX10_code_15 ?_
  refine g_icmp_le C 21 dX10_code_16 rfl (fun q => ?_) (fun q => ?_)
  · replace h := ip q h
    refine g_iconst (v := 0) C dX10_code_21 (by decide) ?_
    refine g_istore_n (lv' := [(1, .int 0), (0, .ref a0)]) C dX10_code_22 (by decide) rfl ?_
    refine g_iconst (v := 0) C dX10_code_23 (by decide) ?_
    refine g_istore_n (lv' := [(2, .int 0), (1, .int 0), (0, .ref a0)]) C dX10_code_24 (by decide) rfl ?_
    exact g_lv [2, 1, 0] rfl (wX10_code_L25 C fu _ _ _ _ s_a0 h)
  · replace h := iq q h
    refine g_iconst (v := -1) C dX10_code_19 (by decide) ?_
    cases h
    exact g_ireturn C rfl dX10_code_20
theorem miX10_code : MI yX10_code cX10_code 3 (some .int) RX10 0 := ⟨wcX10_code, wmX10_code, wsX10_code, wiX10, by decide +kernel⟩
theorem kX10_code {l : Launch} {D : va_G} {cA : Nat → ClassId} {tS : Nat → Nat} {σ : Sg} {a0 : Nat} {μ : Mm} {fu : Nat} {q : Int32 × Mm} (s_a0 : σ a0 = some (10, 0)) (h : fX10_code fu a0 μ = some q) : Ct l D cA tS σ yX10_code cX10_code 3 (some .int) (rmO 0 0) [.ref a0] μ (QI D cA σ q.1 q.2) :=
  Ct.of (by decide) (Nat.le_of_ble_eq_true rfl) (fun _ _ _ _ _ _ _ _ C => wX10_code C _ _ s_a0 h)
set_option maxRecDepth 100000 in
set_option maxHeartbeats 4000000 in
theorem wX10_line {p : Program} {l : Launch} {e : Env} {s : State} {m : MethodId} {args : Array Value} {below : List Frame} {meth : Method} {c : Code} {D : va_G} {cA : Nat → ClassId} {tS : Nat → Nat} {σ : Sg} {μ0 : Mm} {q : Int32} (C : Cx p s m args meth c (dm σ) D cA tS σ cX10_line (some .int) 5 RX10) (v0 : Int32) (v1 : Int32) (h : fX10_line v0 v1 = q) : GG p l e (rmO 0 0) s m args below meth c 0 0 (dm σ) D cA σ 5 (MQ below (QI D cA σ q μ0) args s 0 0 (dm σ)) 0 [(0, .int v0), (1, .int v1)] [] μ0 := by
  unfold fX10_line at h
  refine g_iload_n C dX10_line_0 1 rfl ?_
  refine g_bipush (v := 7) C dX10_line_1 (by decide) ?_
  refine g_iadd C dX10_line_3 ?_
  refine g_bipush (v := 8) C dX10_line_4 (by decide) ?_
  refine g_idiv C dX10_line_6 (by decide) ?_
  obtain ⟨x1, e_x1, h⟩ := nm h
  refine g_topi e_x1 ?_
  refine g_istore_n (lv' := [(2, .int x1), (0, .int v0), (1, .int v1)]) C dX10_line_7 (by decide) rfl ?_
  refine g_iload_n C dX10_line_8 2 rfl ?_
  refine g_iconst (v := 3) C dX10_line_9 (by decide) ?_
  refine g_iadd C dX10_line_10 ?_
  refine g_bipush (v := 8) C dX10_line_11 (by decide) ?_
  refine g_idiv C dX10_line_13 (by decide) ?_
  obtain ⟨x2, e_x2, h⟩ := nm h
  refine g_topi e_x2 ?_
  refine g_istore_n (lv' := [(3, .int x2), (2, .int x1), (0, .int v0), (1, .int v1)]) C dX10_line_14 (by decide) rfl ?_
  refine g_iload_n C dX10_line_15 3 rfl ?_
  refine g_iconst (v := 1) C dX10_line_16 (by decide) ?_
  refine g_iadd C dX10_line_17 ?_
  refine g_iconst (v := 4) C dX10_line_18 (by decide) ?_
  refine g_idiv C dX10_line_19 (by decide) ?_
  obtain ⟨x3, e_x3, h⟩ := nm h
  refine g_topi e_x3 ?_
  refine g_istore (lv' := [(4, .int x3), (3, .int x2), (2, .int x1), (0, .int v0), (1, .int v1)]) C dX10_line_20 (by decide) rfl ?_
  refine g_iload_n C dX10_line_22 3 rfl ?_
  refine g_iload_n C dX10_line_23 2 rfl ?_
  refine g_icmp_ge C 32 dX10_line_24 rfl (fun q => ?_) (fun q => ?_)
  · replace h := ip q h
    refine g_iload_n C dX10_line_32 3 rfl ?_
    refine g_iload_n C dX10_line_33 2 rfl ?_
    refine g_iload_n C dX10_line_34 1 rfl ?_
    refine g_iadd C dX10_line_35 ?_
    refine g_icmp_ge C 48 dX10_line_36 rfl (fun q => ?_) (fun q => ?_)
    · replace h := ip q h
      refine g_iload_n C dX10_line_48 3 rfl ?_
      refine g_iload_n C dX10_line_49 2 rfl ?_
      refine g_iload_n C dX10_line_50 1 rfl ?_
      refine g_iadd C dX10_line_51 ?_
      refine g_iload C dX10_line_52 0 rfl ?_
      refine g_iadd C dX10_line_54 ?_
      refine g_icmp_ge C 68 dX10_line_55 rfl (fun q => ?_) (fun q => ?_)
      · replace h := ip q h
        refine g_iconst (v := 1) C dX10_line_68 (by decide) ?_
        refine g_iconst (v := 2) C dX10_line_69 (by decide) ?_
        refine g_iload_n C dX10_line_70 3 rfl ?_
        refine g_iload_n C dX10_line_71 2 rfl ?_
        refine g_isub C dX10_line_72 ?_
        refine g_iload_n C dX10_line_73 1 rfl ?_
        refine g_isub C dX10_line_74 ?_
        refine g_iload C dX10_line_75 0 rfl ?_
        refine g_isub C dX10_line_77 ?_
        refine g_imul C dX10_line_78 ?_
        refine g_iadd C dX10_line_79 ?_
        subst h
        exact g_ireturn C rfl dX10_line_80
      · replace h := iq q h
        refine g_iconst (v := 2) C dX10_line_58 (by decide) ?_
        refine g_iconst (v := 4) C dX10_line_59 (by decide) ?_
        refine g_iload_n C dX10_line_60 3 rfl ?_
        refine g_iload_n C dX10_line_61 2 rfl ?_
        refine g_isub C dX10_line_62 ?_
        refine g_iload_n C dX10_line_63 1 rfl ?_
        refine g_isub C dX10_line_64 ?_
        refine g_imul C dX10_line_65 ?_
        refine g_iadd C dX10_line_66 ?_
        subst h
        exact g_ireturn C rfl dX10_line_67
    · replace h := iq q h
      refine g_iconst (v := 4) C dX10_line_39 (by decide) ?_
      refine g_bipush (v := 8) C dX10_line_40 (by decide) ?_
      refine g_iload_n C dX10_line_42 3 rfl ?_
      refine g_iload_n C dX10_line_43 2 rfl ?_
      refine g_isub C dX10_line_44 ?_
      refine g_imul C dX10_line_45 ?_
      refine g_iadd C dX10_line_46 ?_
      subst h
      exact g_ireturn C rfl dX10_line_47
  · replace h := iq q h
    refine g_bipush (v := 8) C dX10_line_27 (by decide) ?_
    refine g_iload_n C dX10_line_29 3 rfl ?_
    refine g_imul C dX10_line_30 ?_
    subst h
    exact g_ireturn C rfl dX10_line_31
theorem msX10_line : MS yX10_line cX10_line 5 (some .int) 2 := ⟨wcX10_line, wtX10_line, wiX10, by decide +kernel⟩
theorem kX10_line {l : Launch} {D : va_G} {cA : Nat → ClassId} {tS : Nat → Nat} {σ : Sg} {v0 : Int32} {v1 : Int32} {μ0 : Mm} {q : Int32} (h : fX10_line v0 v1 = q) : Ct l D cA tS σ yX10_line cX10_line 5 (some .int) (rmO 0 0) [.int v0, .int v1] μ0 (QI D cA σ q μ0) :=
  Ct.of (by decide) (Nat.le_of_ble_eq_true rfl) (fun _ _ _ _ _ _ _ _ C => wX10_line C _ _  h)
set_option maxRecDepth 100000 in
set_option maxHeartbeats 4000000 in
theorem wX10_placeOf {p : Program} {l : Launch} {e : Env} {s : State} {m : MethodId} {args : Array Value} {below : List Frame} {meth : Method} {c : Code} {D : va_G} {cA : Nat → ClassId} {tS : Nat → Nat} {σ : Sg} {q : Int32} (C : Cx p s m args meth c (dm σ) D cA tS σ cX10_placeOf (some .int) 5 RX10) (a0 : Nat) (v1 : Int32) (v2 : Int32) (v3 : Int32) (μ : Mm) (s_a0 : σ a0 = some (10, 0)) (h : fX10_placeOf a0 v1 v2 v3 μ = some q) : GG p l e (rmO 1 24) s m args below meth c 0 0 (dm σ) D cA σ 5 (MQ below (QI D cA σ q μ) args s 0 0 (dm σ)) 0 [(0, .ref a0), (1, .int v1), (2, .int v2), (3, .int v3)] [] μ := by
  unfold fX10_placeOf at h
  refine g_aload_n C dX10_placeOf_0 0 rfl ?_
  refine g_iload_n C dX10_placeOf_1 1 rfl ?_
  refine g_iload_n C dX10_placeOf_2 2 rfl ?_
  refine g_iconst (v := 2) C dX10_placeOf_3 (by decide) ?_
  obtain ⟨x1, e_x1, h⟩ := bs h
  refine g_callVI C (kX10_field s_a0 e_x1) miX10_field lmX10_73 s_a0 (by decide) rfl rfl rfl (Nat.le_of_ble_eq_true rfl) dX10_placeOf_4 ⟨by decide, by decide⟩ ⟨Nat.zero_le _, Nat.zero_le _⟩ ?_
  refine g_istore (lv' := [(4, .int x1), (0, .ref a0), (1, .int v1), (2, .int v2), (3, .int v3)]) C dX10_placeOf_7 (by decide) rfl ?_
  refine g_aload_n C dX10_placeOf_9 1 rfl ?_
  refine g_iload_n C dX10_placeOf_10 2 rfl ?_
  refine g_iload_n C dX10_placeOf_11 3 rfl ?_
  refine g_iconst (v := 5) C dX10_placeOf_12 (by decide) ?_
  obtain ⟨x2, e_x2, h⟩ := bs h
  refine g_callVI C (kX10_field s_a0 e_x2) miX10_field lmX10_73 s_a0 (by decide) rfl rfl rfl (Nat.le_of_ble_eq_true rfl) dX10_placeOf_13 ⟨by decide, by decide⟩ ⟨Nat.zero_le _, Nat.zero_le _⟩ ?_
  refine g_if_ne C 21 dX10_placeOf_16 rfl (fun q => ?_) (fun q => ?_)
  · replace h := iq q h
    refine g_iload C dX10_placeOf_21 0 rfl ?_
    refine g_iload_n C dX10_placeOf_23 4 rfl ?_
    refine g_iload C dX10_placeOf_24 0 rfl ?_
    obtain ⟨hg, h⟩ := gs h
    refine g_idiv C dX10_placeOf_26 (nz_ne hg) ?_
    refine g_aload_n C dX10_placeOf_27 1 rfl ?_
    refine g_iload_n C dX10_placeOf_28 2 rfl ?_
    refine g_iload_n C dX10_placeOf_29 3 rfl ?_
    refine g_iconst (v := 3) C dX10_placeOf_30 (by decide) ?_
    obtain ⟨x3, e_x3, h⟩ := bs h
    refine g_callVI C (kX10_field s_a0 e_x3) miX10_field lmX10_73 s_a0 (by decide) rfl rfl rfl (Nat.le_of_ble_eq_true rfl) dX10_placeOf_31 ⟨by decide, by decide⟩ ⟨Nat.zero_le _, Nat.zero_le _⟩ ?_
    obtain ⟨x4, e_x4, h⟩ := nm h
    refine g_callSI C (kX10_line e_x4.symm) msX10_line lmX10_218 rfl rfl (Nat.le_of_ble_eq_true rfl) dX10_placeOf_34 ⟨by decide, by decide⟩ ⟨Nat.zero_le _, Nat.zero_le _⟩ ?_
    refine g_imul C dX10_placeOf_37 ?_
    refine g_iload_n C dX10_placeOf_38 4 rfl ?_
    refine g_iload C dX10_placeOf_39 0 rfl ?_
    obtain ⟨hg, h⟩ := gs h
    refine g_irem C dX10_placeOf_41 (nz_ne hg) ?_
    refine g_iadd C dX10_placeOf_42 ?_
    cases h
    exact g_ireturn C rfl dX10_placeOf_43
  · replace h := ip q h
    refine g_iload_n C dX10_placeOf_19 4 rfl ?_
    cases h
    exact g_ireturn C rfl dX10_placeOf_20
theorem miX10_placeOf : MI yX10_placeOf cX10_placeOf 5 (some .int) RX10 3 := ⟨wcX10_placeOf, wmX10_placeOf, wsX10_placeOf, wiX10, by decide +kernel⟩
theorem kX10_placeOf {l : Launch} {D : va_G} {cA : Nat → ClassId} {tS : Nat → Nat} {σ : Sg} {a0 : Nat} {v1 : Int32} {v2 : Int32} {v3 : Int32} {μ : Mm} {q : Int32} (s_a0 : σ a0 = some (10, 0)) (h : fX10_placeOf a0 v1 v2 v3 μ = some q) : Ct l D cA tS σ yX10_placeOf cX10_placeOf 5 (some .int) (rmO 1 24) [.ref a0, .int v1, .int v2, .int v3] μ (QI D cA σ q μ) :=
  Ct.of (by decide) (Nat.le_of_ble_eq_true rfl) (fun _ _ _ _ _ _ _ _ C => wX10_placeOf C _ _ _ _ _ s_a0 h)
set_option maxRecDepth 100000 in
set_option maxHeartbeats 4000000 in
theorem wX10_put_B58 {p : Program} {l : Launch} {e : Env} {s : State} {m : MethodId} {args : Array Value} {below : List Frame} {meth : Method} {c : Code} {D : va_G} {cA : Nat → ClassId} {tS : Nat → Nat} {σ : Sg} {rec58 : Nat → Int32 → Int32 → Int32 → Int32 → Mm → Option (Int32 × Mm)} {fu : Nat} {q : Int32 × Mm} (C : Cx p s m args meth c (dm σ) D cA tS σ cX10_put (some .boolean) 9 RX10) (hrec58 : ∀ (y0 : Nat) (y3 : Int32) (y6 : Int32) (y7 : Int32) (y8 : Int32) (μ : Mm), σ y0 = some (10, 0) → rec58 y0 y3 y6 y7 y8 μ = some q → GG p l e (rmO 2 48) s m args below meth c 0 0 (dm σ) D cA σ 9 (MQ below (QI D cA σ q.1 q.2) args s 0 0 (dm σ)) 58 [(0, .ref y0), (3, .int y3), (6, .int y6), (7, .int y7), (8, .int y8)] [] μ) (a0 : Nat) (v3 : Int32) (v6 : Int32) (v7 : Int32) (v8 : Int32) (μ : Mm) (s_a0 : σ a0 = some (10, 0)) (h : fX10_put_B58 rec58 fu a0 v3 v6 v7 v8 μ = some q) : GG p l e (rmO 2 48) s m args below meth c 0 0 (dm σ) D cA σ 9 (MQ below (QI D cA σ q.1 q.2) args s 0 0 (dm σ)) 58 [(0, .ref a0), (3, .int v3), (6, .int v6), (7, .int v7), (8, .int v8)] [] μ := by
  unfold fX10_put_B58 at h
  refine g_iload C dX10_put_58 4 rfl ?_
  refine g_if_lt C 119 dX10_put_60 rfl (fun q => ?_) (fun q => ?_)
  · replace h := ip q h
    refine g_iconst (v := 1) C dX10_put_119 (by decide) ?_
    cases h
    exact g_zreturn (r := 1) C rfl dX10_put_120
  · replace h := iq q h
    refine g_aload_n C dX10_put_63 0 rfl ?_
    refine g_wt (fun hT_μ => ?_)
    refine g_getr (j := 25) C s_a0 (by decide) rfl uwX10 (by decide) rfl lfX10_47 rfl dX10_put_64 ?_
    refine g_iload C dX10_put_67 4 rfl ?_
    obtain ⟨hg1, h⟩ := gs h
    refine g_shald C (hT_μ.1 _ _ 25 _ s_a0 rfl) (ib_in hg1) dX10_put_69 ?_
    refine g_iload C dX10_put_70 2 rfl ?_
    refine g_icmp_lt C 77 dX10_put_72 rfl (fun q => ?_) (fun q => ?_)
    · replace h := ip q h
      refine g_aload_n C dX10_put_77 0 rfl ?_
      refine g_aload_n C dX10_put_78 0 rfl ?_
      refine g_geti (j := 14) C s_a0 (by decide) rfl uwX10 (by decide) rfl lfX10_103 rfl dX10_put_79 ?_
      refine g_iload_n C dX10_put_82 1 rfl ?_
      refine g_aload_n C dX10_put_83 0 rfl ?_
      refine g_aload_n C dX10_put_84 0 rfl ?_
      refine g_geti (j := 14) C s_a0 (by decide) rfl uwX10 (by decide) rfl lfX10_103 rfl dX10_put_85 ?_
      refine g_iload_n C dX10_put_88 1 rfl ?_
      refine g_iload C dX10_put_89 3 rfl ?_
      obtain ⟨x2, e_x2, h⟩ := bs h
      refine g_callVI C (kX10_placeOf s_a0 e_x2) miX10_placeOf lmX10_212 s_a0 (by decide) rfl rfl rfl (Nat.le_of_ble_eq_true rfl) dX10_put_91 ⟨by decide, by decide⟩ ⟨Nat.zero_le _, Nat.zero_le _⟩ ?_
      refine g_aload_n C dX10_put_94 0 rfl ?_
      refine g_getr (j := 25) C s_a0 (by decide) rfl uwX10 (by decide) rfl lfX10_47 rfl dX10_put_95 ?_
      refine g_iload C dX10_put_98 4 rfl ?_
      obtain ⟨hg3, h⟩ := gs h
      refine g_shald C (hT_μ.1 _ _ 25 _ s_a0 rfl) (ib_in hg3) dX10_put_100 ?_
      obtain ⟨μ4, e_μ4, h⟩ := bs h
      refine g_callVV C (kX10_setIndex s_a0 e_μ4) miX10_setIndex lmX10_215 s_a0 (by decide) rfl rfl rfl (Nat.le_of_ble_eq_true rfl) dX10_put_101 ⟨by decide, by decide⟩ ⟨Nat.zero_le _, Nat.zero_le _⟩ ?_
      obtain ⟨x5, e_x5, h⟩ := nm h
      refine g_iinc (v := x5) (lv' := [(7, .int x5), (0, .ref a0), (3, .int v3), (6, .int v6), (8, .int v8)]) C dX10_put_104 (by decide) 3 rfl (-1) (by decide) e_x5.symm rfl ?_
      refine g_aload_n C dX10_put_107 1 rfl ?_
      refine g_wt (fun hT_μ4 => ?_)
      refine g_getr (j := 24) C s_a0 (by decide) rfl uwX10 (by decide) rfl lfX10_44 rfl dX10_put_108 ?_
      refine g_iload C dX10_put_111 4 rfl ?_
      obtain ⟨hg6, h⟩ := gs h
      refine g_shald C (hT_μ4.1 _ _ 24 _ s_a0 rfl) (ib_in hg6) dX10_put_113 ?_
      obtain ⟨x7, e_x7, h⟩ := nm h
      refine g_topi e_x7 ?_
      refine g_istore (lv' := [(8, .int x7), (7, .int x5), (0, .ref a0), (3, .int v3), (6, .int v6)]) C dX10_put_114 (by decide) rfl ?_
      refine g_goto C 58 dX10_put_116 rfl ?_
      exact g_lv [2, 3, 4, 1, 0] rfl (hrec58 _ _ _ _ _ _ s_a0 h)
    · replace h := iq q h
      refine g_iconst (v := 0) C dX10_put_75 (by decide) ?_
      cases h
      exact g_zreturn (r := 0) C rfl dX10_put_76
theorem wX10_put_L58 {p : Program} {l : Launch} {e : Env} {s : State} {m : MethodId} {args : Array Value} {below : List Frame} {meth : Method} {c : Code} {D : va_G} {cA : Nat → ClassId} {tS : Nat → Nat} {σ : Sg} {fu : Nat} {q : Int32 × Mm} (C : Cx p s m args meth c (dm σ) D cA tS σ cX10_put (some .boolean) 9 RX10) : ∀ (n : Nat) (a0 : Nat) (v3 : Int32) (v6 : Int32) (v7 : Int32) (v8 : Int32) (μ : Mm), (σ a0 = some (10, 0)) → fX10_put_L58 fu n a0 v3 v6 v7 v8 μ = some q → GG p l e (rmO 2 48) s m args below meth c 0 0 (dm σ) D cA σ 9 (MQ below (QI D cA σ q.1 q.2) args s 0 0 (dm σ)) 58 [(0, .ref a0), (3, .int v3), (6, .int v6), (7, .int v7), (8, .int v8)] [] μ := by
  intro n
  induction n with
  | zero => intro a0 v3 v6 v7 v8 μ s_a0 h; cases h
  | succ n ih => intro a0 v3 v6 v7 v8 μ s_a0 h; exact wX10_put_B58 C (fun _ _ _ _ _ _ k0 h => ih _ _ _ _ _ _ k0 h) _ _ _ _ _ _ s_a0 h
set_option maxRecDepth 100000 in
set_option maxHeartbeats 4000000 in
theorem wX10_put {p : Program} {l : Launch} {e : Env} {s : State} {m : MethodId} {args : Array Value} {below : List Frame} {meth : Method} {c : Code} {D : va_G} {cA : Nat → ClassId} {tS : Nat → Nat} {σ : Sg} {fu : Nat} {q : Int32 × Mm} (C : Cx p s m args meth c (dm σ) D cA tS σ cX10_put (some .boolean) 9 RX10) (a0 : Nat) (v1 : Int32) (v2 : Int32) (v3 : Int32) (v4 : Int32) (v5 : Int32) (v6 : Int32) (μ : Mm) (s_a0 : σ a0 = some (10, 0)) (h : fX10_put fu a0 v1 v2 v3 v4 v5 v6 μ = some q) : GG p l e (rmO 2 48) s m args below meth c 0 0 (dm σ) D cA σ 9 (MQ below (QI D cA σ q.1 q.2) args s 0 0 (dm σ)) 0 [(0, .ref a0), (1, .int v1), (2, .int v2), (3, .int v3), (4, .int v4), (5, .int v5), (6, .int v6)] [] μ := by
  unfold fX10_put at h
  refine g_iload C dX10_put_0 4 rfl ?_
  refine g_iload C dX10_put_2 5 rfl ?_
  refine g_iadd C dX10_put_4 ?_
  refine g_iconst (v := 1) C dX10_put_5 (by decide) ?_
  refine g_isub C dX10_put_6 ?_
  obtain ⟨x1, e_x1, h⟩ := nm h
  refine g_topi e_x1 ?_
  refine g_istore (lv' := [(7, .int x1), (0, .ref a0), (1, .int v1), (2, .int v2), (3, .int v3), (4, .int v4), (5, .int v5), (6, .int v6)]) C dX10_put_7 (by decide) rfl ?_
  refine g_iload_n C dX10_put_9 3 rfl ?_
  refine g_if_eq C 55 dX10_put_10 rfl (fun q => ?_) (fun q => ?_)
  · replace h := ip q h
    refine g_iload_n C dX10_put_55 2 rfl ?_
    refine g_istore (lv' := [(8, .int v1), (7, .int x1), (0, .ref a0), (1, .int v1), (2, .int v2), (3, .int v3), (4, .int v4), (5, .int v5), (6, .int v6)]) C dX10_put_56 (by decide) rfl ?_
    exact g_lv [2, 5, 8, 1, 0] rfl (wX10_put_L58 C fu _ _ _ _ _ _ s_a0 h)
  · replace h := iq q h
    refine g_aload_n C dX10_put_13 1 rfl ?_
    refine g_wt (fun hT_μ => ?_)
    refine g_getr (j := 26) C s_a0 (by decide) rfl uwX10 (by decide) rfl lfX10_50 rfl dX10_put_14 ?_
    refine g_iload_n C dX10_put_17 2 rfl ?_
    obtain ⟨hg2, h⟩ := gs h
    refine g_shald C (hT_μ.1 _ _ 26 _ s_a0 rfl) (ib_in hg2) dX10_put_18 ?_
    refine g_iload C dX10_put_19 7 rfl ?_
    refine g_icmp_lt C 26 dX10_put_21 rfl (fun q => ?_) (fun q => ?_)
    · replace h := ip q h
      refine g_aload_n C dX10_put_26 1 rfl ?_
      refine g_aload_n C dX10_put_27 1 rfl ?_
      refine g_geti (j := 14) C s_a0 (by decide) rfl uwX10 (by decide) rfl lfX10_103 rfl dX10_put_28 ?_
      refine g_iload_n C dX10_put_31 4 rfl ?_
      refine g_aload_n C dX10_put_32 1 rfl ?_
      refine g_aload_n C dX10_put_33 1 rfl ?_
      refine g_geti (j := 14) C s_a0 (by decide) rfl uwX10 (by decide) rfl lfX10_103 rfl dX10_put_34 ?_
      refine g_iload_n C dX10_put_37 4 rfl ?_
      refine g_iload C dX10_put_38 0 rfl ?_
      obtain ⟨x3, e_x3, h⟩ := bs h
      refine g_callVI C (kX10_placeOf s_a0 e_x3) miX10_placeOf lmX10_212 s_a0 (by decide) rfl rfl rfl (Nat.le_of_ble_eq_true rfl) dX10_put_40 ⟨by decide, by decide⟩ ⟨Nat.zero_le _, Nat.zero_le _⟩ ?_
      refine g_aload_n C dX10_put_43 1 rfl ?_
      refine g_getr (j := 26) C s_a0 (by decide) rfl uwX10 (by decide) rfl lfX10_50 rfl dX10_put_44 ?_
      refine g_iload_n C dX10_put_47 2 rfl ?_
      obtain ⟨hg4, h⟩ := gs h
      refine g_shald C (hT_μ.1 _ _ 26 _ s_a0 rfl) (ib_in hg4) dX10_put_48 ?_
      obtain ⟨μ5, e_μ5, h⟩ := bs h
      refine g_callVV C (kX10_setIndex s_a0 e_μ5) miX10_setIndex lmX10_215 s_a0 (by decide) rfl rfl rfl (Nat.le_of_ble_eq_true rfl) dX10_put_49 ⟨by decide, by decide⟩ ⟨Nat.zero_le _, Nat.zero_le _⟩ ?_
      obtain ⟨x6, e_x6, h⟩ := nm h
      refine g_iinc (v := x6) (lv' := [(7, .int x6), (0, .ref a0), (1, .int v1), (2, .int v2), (3, .int v3), (4, .int v4), (5, .int v5), (6, .int v6)]) C dX10_put_52 (by decide) 0 rfl (-1) (by decide) e_x6.symm rfl ?_
      refine g_iload_n C dX10_put_55 2 rfl ?_
      refine g_istore (lv' := [(8, .int v1), (7, .int x6), (0, .ref a0), (1, .int v1), (2, .int v2), (3, .int v3), (4, .int v4), (5, .int v5), (6, .int v6)]) C dX10_put_56 (by decide) rfl ?_
      exact g_lv [2, 5, 8, 1, 0] rfl (wX10_put_L58 C fu _ _ _ _ _ _ s_a0 h)
    · replace h := iq q h
      refine g_iconst (v := 0) C dX10_put_24 (by decide) ?_
      cases h
      exact g_zreturn (r := 0) C rfl dX10_put_25
theorem miX10_put : MI yX10_put cX10_put 9 (some .boolean) RX10 6 := ⟨wcX10_put, wmX10_put, wsX10_put, wiX10, by decide +kernel⟩
theorem kX10_put {l : Launch} {D : va_G} {cA : Nat → ClassId} {tS : Nat → Nat} {σ : Sg} {a0 : Nat} {v1 : Int32} {v2 : Int32} {v3 : Int32} {v4 : Int32} {v5 : Int32} {v6 : Int32} {μ : Mm} {fu : Nat} {q : Int32 × Mm} (s_a0 : σ a0 = some (10, 0)) (h : fX10_put fu a0 v1 v2 v3 v4 v5 v6 μ = some q) : Ct l D cA tS σ yX10_put cX10_put 9 (some .boolean) (rmO 2 48) [.ref a0, .int v1, .int v2, .int v3, .int v4, .int v5, .int v6] μ (QI D cA σ q.1 q.2) :=
  Ct.of (by decide) (Nat.le_of_ble_eq_true rfl) (fun _ _ _ _ _ _ _ _ C => wX10_put C _ _ _ _ _ _ _ _ s_a0 h)
set_option maxRecDepth 100000 in
set_option maxHeartbeats 4000000 in
theorem wX10_restart {p : Program} {l : Launch} {e : Env} {s : State} {m : MethodId} {args : Array Value} {below : List Frame} {meth : Method} {c : Code} {D : va_G} {cA : Nat → ClassId} {tS : Nat → Nat} {σ : Sg} {q : Mm} (C : Cx p s m args meth c (dm σ) D cA tS σ cX10_restart none 2 RX10) (a0 : Nat) (v1 : Int32) (μ : Mm) (s_a0 : σ a0 = some (10, 0)) (h : fX10_restart a0 v1 μ = q) : GG p l e (rmO 0 0) s m args below meth c 0 0 (dm σ) D cA σ 2 (MQ below (QV D cA σ q) args s 0 0 (dm σ)) 0 [(0, .ref a0), (1, .int v1)] [] μ := by
  unfold fX10_restart at h
  refine g_aload_n C dX10_restart_0 0 rfl ?_
  refine g_iload_n C dX10_restart_1 1 rfl ?_
  refine g_iconst (v := 1) C dX10_restart_2 (by decide) ?_
  refine g_iadd C dX10_restart_3 ?_
  refine g_puti (j := 28) C s_a0 (by decide) rfl uwX10 tyX10_ok nmX10 (by decide) rfl lfX10_177 rfl rfl rfl (fun _ _ => rfl) (fun _ _ => Nat.le_of_ble_eq_true rfl) dX10_restart_4 ?_
  obtain ⟨μ1, e_μ1, h⟩ := nm h
  refine g_mu e_μ1 ?_
  refine g_aload_n C dX10_restart_7 0 rfl ?_
  refine g_iconst (v := 1) C dX10_restart_8 (by decide) ?_
  refine g_iload_n C dX10_restart_9 1 rfl ?_
  refine g_ishl C dX10_restart_10 ?_
  refine g_iconst (v := 2) C dX10_restart_11 (by decide) ?_
  refine g_iadd C dX10_restart_12 ?_
  refine g_puti (j := 29) C s_a0 (by decide) rfl uwX10 tyX10_ok nmX10 (by decide) rfl lfX10_180 rfl rfl rfl (fun _ _ => rfl) (fun _ _ => Nat.le_of_ble_eq_true rfl) dX10_restart_13 ?_
  obtain ⟨μ2, e_μ2, h⟩ := nm h
  refine g_mu e_μ2 ?_
  refine g_aload_n C dX10_restart_16 0 rfl ?_
  refine g_iconst (v := -1) C dX10_restart_17 (by decide) ?_
  refine g_puti (j := 30) C s_a0 (by decide) rfl uwX10 tyX10_ok nmX10 (by decide) rfl lfX10_183 rfl rfl rfl (fun _ _ => rfl) (fun _ _ => Nat.le_of_ble_eq_true rfl) dX10_restart_18 ?_
  obtain ⟨μ3, e_μ3, h⟩ := nm h
  refine g_mu e_μ3 ?_
  subst h
  exact g_return C dX10_restart_21
theorem miX10_restart : MI yX10_restart cX10_restart 2 none RX10 1 := ⟨wcX10_restart, wmX10_restart, wsX10_restart, wiX10, by decide +kernel⟩
theorem kX10_restart {l : Launch} {D : va_G} {cA : Nat → ClassId} {tS : Nat → Nat} {σ : Sg} {a0 : Nat} {v1 : Int32} {μ : Mm} {q : Mm} (s_a0 : σ a0 = some (10, 0)) (h : fX10_restart a0 v1 μ = q) : Ct l D cA tS σ yX10_restart cX10_restart 2 none (rmO 0 0) [.ref a0, .int v1] μ (QV D cA σ q) :=
  Ct.of (by decide) (Nat.le_of_ble_eq_true rfl) (fun _ _ _ _ _ _ _ _ C => wX10_restart C _ _ _ s_a0 h)
set_option maxRecDepth 100000 in
set_option maxHeartbeats 4000000 in
theorem wX10_tell {p : Program} {l : Launch} {e : Env} {s : State} {m : MethodId} {args : Array Value} {below : List Frame} {meth : Method} {c : Code} {D : va_G} {cA : Nat → ClassId} {tS : Nat → Nat} {σ : Sg} {q : Mm} (C : Cx p s m args meth c (dm σ) D cA tS σ cX10_tell none 2 RX10) (a0 : Nat) (v1 : Int32) (μ : Mm) (s_a0 : σ a0 = some (10, 0)) (h : fX10_tell a0 v1 μ = some q) : GG p l e (rmO 0 0) s m args below meth c 0 0 (dm σ) D cA σ 2 (MQ below (QV D cA σ q) args s 0 0 (dm σ)) 0 [(0, .ref a0), (1, .int v1)] [] μ := by
  unfold fX10_tell at h
  refine g_aload_n C dX10_tell_0 0 rfl ?_
  refine g_wt (fun hT_μ => ?_)
  refine g_getr (j := 24) C s_a0 (by decide) rfl uwX10 (by decide) rfl lfX10_44 rfl dX10_tell_1 ?_
  refine g_aload_n C dX10_tell_4 0 rfl ?_
  refine g_geti (j := 29) C s_a0 (by decide) rfl uwX10 (by decide) rfl lfX10_180 rfl dX10_tell_5 ?_
  refine g_aload_n C dX10_tell_8 0 rfl ?_
  refine g_geti (j := 30) C s_a0 (by decide) rfl uwX10 (by decide) rfl lfX10_183 rfl dX10_tell_9 ?_
  refine g_i2s C dX10_tell_12 ?_
  obtain ⟨hg, h⟩ := gs h
  refine g_shast C (hT_μ.1 _ _ 24 _ s_a0 rfl) (ib_in hg) dX10_tell_13 ?_
  obtain ⟨μ1, e_μ1, h⟩ := nm h
  refine g_mu e_μ1 ?_
  refine g_aload_n C dX10_tell_14 0 rfl ?_
  refine g_wt (fun hT_μ1 => ?_)
  refine g_getr (j := 25) C s_a0 (by decide) rfl uwX10 (by decide) rfl lfX10_47 rfl dX10_tell_15 ?_
  refine g_aload_n C dX10_tell_18 0 rfl ?_
  refine g_geti (j := 29) C s_a0 (by decide) rfl uwX10 (by decide) rfl lfX10_180 rfl dX10_tell_19 ?_
  refine g_iload_n C dX10_tell_22 1 rfl ?_
  refine g_i2s C dX10_tell_23 ?_
  obtain ⟨hg, h⟩ := gs h
  refine g_shast C (hT_μ1.1 _ _ 25 _ s_a0 rfl) (ib_in hg) dX10_tell_24 ?_
  obtain ⟨μ2, e_μ2, h⟩ := nm h
  refine g_mu e_μ2 ?_
  refine g_aload_n C dX10_tell_25 0 rfl ?_
  refine g_wt (fun hT_μ2 => ?_)
  refine g_getr (j := 26) C s_a0 (by decide) rfl uwX10 (by decide) rfl lfX10_50 rfl dX10_tell_26 ?_
  refine g_aload_n C dX10_tell_29 0 rfl ?_
  refine g_geti (j := 29) C s_a0 (by decide) rfl uwX10 (by decide) rfl lfX10_180 rfl dX10_tell_30 ?_
  refine g_aload_n C dX10_tell_33 0 rfl ?_
  refine g_getr (j := 26) C s_a0 (by decide) rfl uwX10 (by decide) rfl lfX10_50 rfl dX10_tell_34 ?_
  refine g_aload_n C dX10_tell_37 0 rfl ?_
  refine g_geti (j := 30) C s_a0 (by decide) rfl uwX10 (by decide) rfl lfX10_183 rfl dX10_tell_38 ?_
  obtain ⟨hg3, h⟩ := gs h
  refine g_shald C (hT_μ2.1 _ _ 26 _ s_a0 rfl) (ib_in hg3) dX10_tell_41 ?_
  obtain ⟨hg, h⟩ := gs h
  refine g_shast C (hT_μ2.1 _ _ 26 _ s_a0 rfl) (ib_in hg) dX10_tell_42 ?_
  obtain ⟨μ4, e_μ4, h⟩ := nm h
  refine g_mu e_μ4 ?_
  refine g_aload_n C dX10_tell_43 0 rfl ?_
  refine g_wt (fun hT_μ4 => ?_)
  refine g_getr (j := 27) C s_a0 (by decide) rfl uwX10 (by decide) rfl lfX10_53 rfl dX10_tell_44 ?_
  refine g_aload_n C dX10_tell_47 0 rfl ?_
  refine g_geti (j := 29) C s_a0 (by decide) rfl uwX10 (by decide) rfl lfX10_180 rfl dX10_tell_48 ?_
  refine g_aload_n C dX10_tell_51 0 rfl ?_
  refine g_getr (j := 27) C s_a0 (by decide) rfl uwX10 (by decide) rfl lfX10_53 rfl dX10_tell_52 ?_
  refine g_aload_n C dX10_tell_55 0 rfl ?_
  refine g_geti (j := 30) C s_a0 (by decide) rfl uwX10 (by decide) rfl lfX10_183 rfl dX10_tell_56 ?_
  obtain ⟨hg5, h⟩ := gs h
  refine g_shald C (hT_μ4.1 _ _ 27 _ s_a0 rfl) (ib_in hg5) dX10_tell_59 ?_
  refine g_iconst (v := 1) C dX10_tell_60 (by decide) ?_
  refine g_iadd C dX10_tell_61 ?_
  refine g_i2s C dX10_tell_62 ?_
  obtain ⟨hg, h⟩ := gs h
  refine g_shast C (hT_μ4.1 _ _ 27 _ s_a0 rfl) (ib_in hg) dX10_tell_63 ?_
  obtain ⟨μ6, e_μ6, h⟩ := nm h
  refine g_mu e_μ6 ?_
  refine g_aload_n C dX10_tell_64 0 rfl ?_
  refine g_dup C dX10_tell_65 rfl ?_
  refine g_geti (j := 29) C s_a0 (by decide) rfl uwX10 (by decide) rfl lfX10_180 rfl dX10_tell_66 ?_
  refine g_iconst (v := 1) C dX10_tell_69 (by decide) ?_
  refine g_iadd C dX10_tell_70 ?_
  refine g_puti (j := 29) C s_a0 (by decide) rfl uwX10 tyX10_ok nmX10 (by decide) rfl lfX10_180 rfl rfl rfl (fun _ _ => rfl) (fun _ _ => Nat.le_of_ble_eq_true rfl) dX10_tell_71 ?_
  obtain ⟨μ7, e_μ7, h⟩ := nm h
  refine g_mu e_μ7 ?_
  refine g_aload_n C dX10_tell_74 0 rfl ?_
  refine g_geti (j := 29) C s_a0 (by decide) rfl uwX10 (by decide) rfl lfX10_180 rfl dX10_tell_75 ?_
  refine g_iconst (v := 1) C dX10_tell_78 (by decide) ?_
  refine g_aload_n C dX10_tell_79 0 rfl ?_
  refine g_geti (j := 28) C s_a0 (by decide) rfl uwX10 (by decide) rfl lfX10_177 rfl dX10_tell_80 ?_
  refine g_ishl C dX10_tell_83 ?_
  refine g_icmp_ne C 106 dX10_tell_84 rfl (fun q => ?_) (fun q => ?_)
  · replace h := iq q h
    cases h
    exact g_return C dX10_tell_106
  · replace h := ip q h
    refine g_aload_n C dX10_tell_87 0 rfl ?_
    refine g_geti (j := 28) C s_a0 (by decide) rfl uwX10 (by decide) rfl lfX10_177 rfl dX10_tell_88 ?_
    refine g_bipush (v := 12) C dX10_tell_91 (by decide) ?_
    refine g_icmp_ge C 106 dX10_tell_93 rfl (fun q => ?_) (fun q => ?_)
    · replace h := ip q h
      cases h
      exact g_return C dX10_tell_106
    · replace h := iq q h
      refine g_aload_n C dX10_tell_96 0 rfl ?_
      refine g_dup C dX10_tell_97 rfl ?_
      refine g_geti (j := 28) C s_a0 (by decide) rfl uwX10 (by decide) rfl lfX10_177 rfl dX10_tell_98 ?_
      refine g_iconst (v := 1) C dX10_tell_101 (by decide) ?_
      refine g_iadd C dX10_tell_102 ?_
      refine g_puti (j := 28) C s_a0 (by decide) rfl uwX10 tyX10_ok nmX10 (by decide) rfl lfX10_177 rfl rfl rfl (fun _ _ => rfl) (fun _ _ => Nat.le_of_ble_eq_true rfl) dX10_tell_103 ?_
      obtain ⟨μ8, e_μ8, h⟩ := nm h
      refine g_mu e_μ8 ?_
      cases h
      exact g_return C dX10_tell_106
theorem miX10_tell : MI yX10_tell cX10_tell 2 none RX10 1 := ⟨wcX10_tell, wmX10_tell, wsX10_tell, wiX10, by decide +kernel⟩
theorem kX10_tell {l : Launch} {D : va_G} {cA : Nat → ClassId} {tS : Nat → Nat} {σ : Sg} {a0 : Nat} {v1 : Int32} {μ : Mm} {q : Mm} (s_a0 : σ a0 = some (10, 0)) (h : fX10_tell a0 v1 μ = some q) : Ct l D cA tS σ yX10_tell cX10_tell 2 none (rmO 0 0) [.ref a0, .int v1] μ (QV D cA σ q) :=
  Ct.of (by decide) (Nat.le_of_ble_eq_true rfl) (fun _ _ _ _ _ _ _ _ C => wX10_tell C _ _ _ s_a0 h)
set_option maxRecDepth 100000 in
set_option maxHeartbeats 4000000 in
theorem wX10_codes_L268 {p : Program} {l : Launch} {e : Env} {s : State} {m : MethodId} {args : Array Value} {below : List Frame} {meth : Method} {c : Code} {D : va_G} {cA : Nat → ClassId} {tS : Nat → Nat} {σ : Sg} {rec54 : Nat → Int32 → Int32 → Int32 → Int32 → Int32 → Int32 → Mm → Option (Int32 × Mm)} {fu : Nat} {q : Int32 × Mm} (C : Cx p s m args meth c (dm σ) D cA tS σ cX10_codes (some .boolean) 11 RX10) (hrec54 : ∀ (y0 : Nat) (y1 : Int32) (y2 : Int32) (y3 : Int32) (y4 : Int32) (y5 : Int32) (y6 : Int32) (μ : Mm), σ y0 = some (10, 0) → rec54 y0 y1 y2 y3 y4 y5 y6 μ = some q → GG p l e (rmO 3 76) s m args below meth c 0 0 (dm σ) D cA σ 11 (MQ below (QI D cA σ q.1 q.2) args s 0 0 (dm σ)) 54 [(0, .ref y0), (1, .int y1), (2, .int y2), (3, .int y3), (4, .int y4), (5, .int y5), (6, .int y6)] [] μ) (a0 : Nat) (v1 : Int32) (v2 : Int32) (v3 : Int32) (v4 : Int32) (v5 : Int32) (v6 : Int32) (v7 : Int32) (t0 : Int32) (μ : Mm) (s_a0 : σ a0 = some (10, 0)) (h : fX10_codes_L268 rec54 fu a0 v1 v2 v3 v4 v5 v6 v7 t0 μ = some q) : GG p l e (rmO 3 76) s m args below meth c 0 0 (dm σ) D cA σ 11 (MQ below (QI D cA σ q.1 q.2) args s 0 0 (dm σ)) 268 [(0, .ref a0), (1, .int v1), (2, .int v2), (3, .int v3), (4, .int v4), (5, .int v5), (6, .int v6), (7, .int v7)] [.int t0] μ := by
  unfold fX10_codes_L268 at h
  refine g_istore (lv' := [(10, .int t0), (0, .ref a0), (1, .int v1), (2, .int v2), (3, .int v3), (4, .int v4), (5, .int v5), (6, .int v6), (7, .int v7)]) C dX10_codes_268 (by decide) rfl ?_
  refine g_aload_n C dX10_codes_270 1 rfl ?_
  refine g_geti (j := 30) C s_a0 (by decide) rfl uwX10 (by decide) rfl lfX10_183 rfl dX10_codes_271 ?_
  refine g_if_lt C 293 dX10_codes_274 rfl (fun q => ?_) (fun q => ?_)
  · replace h := ip q h
    refine g_aload_n C dX10_codes_293 1 rfl ?_
    refine g_iload C dX10_codes_294 8 rfl ?_
    refine g_puti (j := 30) C s_a0 (by decide) rfl uwX10 tyX10_ok nmX10 (by decide) rfl lfX10_183 rfl rfl rfl (fun _ _ => rfl) (fun _ _ => Nat.le_of_ble_eq_true rfl) dX10_codes_296 ?_
    obtain ⟨μ1, e_μ1, h⟩ := nm h
    refine g_mu e_μ1 ?_
    refine g_goto C 54 dX10_codes_299 rfl ?_
    exact g_lv [1, 2, 3, 4, 5, 6, 7] rfl (hrec54 _ _ _ _ _ _ _ _ s_a0 h)
  · replace h := iq q h
    refine g_aload_n C dX10_codes_277 1 rfl ?_
    refine g_geti (j := 29) C s_a0 (by decide) rfl uwX10 (by decide) rfl lfX10_180 rfl dX10_codes_278 ?_
    refine g_sipush (v := 4096) C dX10_codes_281 (by decide) ?_
    refine g_icmp_ge C 293 dX10_codes_284 rfl (fun q => ?_) (fun q => ?_)
    · replace h := ip q h
      refine g_aload_n C dX10_codes_293 1 rfl ?_
      refine g_iload C dX10_codes_294 8 rfl ?_
      refine g_puti (j := 30) C s_a0 (by decide) rfl uwX10 tyX10_ok nmX10 (by decide) rfl lfX10_183 rfl rfl rfl (fun _ _ => rfl) (fun _ _ => Nat.le_of_ble_eq_true rfl) dX10_codes_296 ?_
      obtain ⟨μ2, e_μ2, h⟩ := nm h
      refine g_mu e_μ2 ?_
      refine g_goto C 54 dX10_codes_299 rfl ?_
      exact g_lv [1, 2, 3, 4, 5, 6, 7] rfl (hrec54 _ _ _ _ _ _ _ _ s_a0 h)
    · replace h := iq q h
      refine g_aload_n C dX10_codes_287 1 rfl ?_
      refine g_iload C dX10_codes_288 0 rfl ?_
      obtain ⟨μ3, e_μ3, h⟩ := bs h
      refine g_callVV C (kX10_tell s_a0 e_μ3) miX10_tell lmX10_209 s_a0 (by decide) rfl rfl rfl (Nat.le_of_ble_eq_true rfl) dX10_codes_290 ⟨by decide, by decide⟩ ⟨Nat.zero_le _, Nat.zero_le _⟩ ?_
      refine g_aload_n C dX10_codes_293 1 rfl ?_
      refine g_iload C dX10_codes_294 8 rfl ?_
      refine g_puti (j := 30) C s_a0 (by decide) rfl uwX10 tyX10_ok nmX10 (by decide) rfl lfX10_183 rfl rfl rfl (fun _ _ => rfl) (fun _ _ => Nat.le_of_ble_eq_true rfl) dX10_codes_296 ?_
      obtain ⟨μ4, e_μ4, h⟩ := nm h
      refine g_mu e_μ4 ?_
      refine g_goto C 54 dX10_codes_299 rfl ?_
      exact g_lv [1, 2, 3, 4, 5, 6, 7] rfl (hrec54 _ _ _ _ _ _ _ _ s_a0 h)
set_option maxRecDepth 100000 in
set_option maxHeartbeats 4000000 in
theorem wX10_codes_L220 {p : Program} {l : Launch} {e : Env} {s : State} {m : MethodId} {args : Array Value} {below : List Frame} {meth : Method} {c : Code} {D : va_G} {cA : Nat → ClassId} {tS : Nat → Nat} {σ : Sg} {rec54 : Nat → Int32 → Int32 → Int32 → Int32 → Int32 → Int32 → Mm → Option (Int32 × Mm)} {fu : Nat} {q : Int32 × Mm} (C : Cx p s m args meth c (dm σ) D cA tS σ cX10_codes (some .boolean) 11 RX10) (hrec54 : ∀ (y0 : Nat) (y1 : Int32) (y2 : Int32) (y3 : Int32) (y4 : Int32) (y5 : Int32) (y6 : Int32) (μ : Mm), σ y0 = some (10, 0) → rec54 y0 y1 y2 y3 y4 y5 y6 μ = some q → GG p l e (rmO 3 76) s m args below meth c 0 0 (dm σ) D cA σ 11 (MQ below (QI D cA σ q.1 q.2) args s 0 0 (dm σ)) 54 [(0, .ref y0), (1, .int y1), (2, .int y2), (3, .int y3), (4, .int y4), (5, .int y5), (6, .int y6)] [] μ) (a0 : Nat) (v1 : Int32) (v2 : Int32) (v3 : Int32) (v4 : Int32) (v5 : Int32) (v6 : Int32) (v7 : Int32) (v8 : Int32) (v9 : Int32) (o0 : Nat) (t1 : Int32) (μ : Mm) (s_a0 : σ a0 = some (10, 0)) (s_o0 : σ o0 = some (10, 0)) (h : fX10_codes_L220 rec54 fu a0 v1 v2 v3 v4 v5 v6 v7 v8 v9 o0 t1 μ = some q) : GG p l e (rmO 3 76) s m args below meth c 0 0 (dm σ) D cA σ 11 (MQ below (QI D cA σ q.1 q.2) args s 0 0 (dm σ)) 220 [(0, .ref a0), (1, .int v1), (2, .int v2), (3, .int v3), (4, .int v4), (5, .int v5), (6, .int v6), (7, .int v7), (8, .int v8), (9, .int v9)] [.int t1, .ref o0] μ := by
  unfold fX10_codes_L220 at h
  refine g_iload C dX10_codes_220 8 rfl ?_
  refine g_iload_n C dX10_codes_222 2 rfl ?_
  refine g_iload C dX10_codes_223 6 rfl ?_
  refine g_iload C dX10_codes_225 9 rfl ?_
  refine g_iload C dX10_codes_227 5 rfl ?_
  obtain ⟨q1, e_q1, h⟩ := bs h
  refine g_callVI C (kX10_put s_o0 e_q1) miX10_put lmX10_205 s_o0 (by decide) rfl rfl rfl (Nat.le_of_ble_eq_true rfl) dX10_codes_229 ⟨by decide, by decide⟩ ⟨Nat.zero_le _, Nat.zero_le _⟩ ?_
  refine g_if_ne C 237 dX10_codes_232 rfl (fun q => ?_) (fun q => ?_)
  · replace h := iq q h
    refine g_iload C dX10_codes_237 6 rfl ?_
    refine g_iload C dX10_codes_239 9 rfl ?_
    refine g_iadd C dX10_codes_241 ?_
    obtain ⟨x2, e_x2, h⟩ := nm h
    refine g_topi e_x2 ?_
    refine g_istore (lv' := [(6, .int x2), (0, .ref a0), (1, .int v1), (2, .int v2), (3, .int v3), (4, .int v4), (5, .int v5), (7, .int v7), (8, .int v8), (9, .int v9)]) C dX10_codes_242 (by decide) rfl ?_
    refine g_iload C dX10_codes_244 8 rfl ?_
    refine g_if_eq C 261 dX10_codes_246 rfl (fun q => ?_) (fun q => ?_)
    · replace h := ip q h
      refine g_aload_n C dX10_codes_261 1 rfl ?_
      refine g_wt (fun hT_q1_2 => ?_)
      refine g_getr (j := 26) C s_a0 (by decide) rfl uwX10 (by decide) rfl lfX10_50 rfl dX10_codes_262 ?_
      refine g_iload C dX10_codes_265 7 rfl ?_
      obtain ⟨hg3, h⟩ := gs h
      refine g_shald C (hT_q1_2.1 _ _ 26 _ s_a0 rfl) (ib_in hg3) dX10_codes_267 ?_
      exact g_lv [1, 2, 3, 4, 5, 6, 0, 7] rfl (wX10_codes_L268 C hrec54 _ _ _ _ _ _ _ _ _ _ s_a0 h)
    · replace h := iq q h
      refine g_aload_n C dX10_codes_249 1 rfl ?_
      refine g_wt (fun hT_q1_2 => ?_)
      refine g_getr (j := 26) C s_a0 (by decide) rfl uwX10 (by decide) rfl lfX10_50 rfl dX10_codes_250 ?_
      refine g_aload_n C dX10_codes_253 1 rfl ?_
      refine g_geti (j := 30) C s_a0 (by decide) rfl uwX10 (by decide) rfl lfX10_183 rfl dX10_codes_254 ?_
      obtain ⟨hg4, h⟩ := gs h
      refine g_shald C (hT_q1_2.1 _ _ 26 _ s_a0 rfl) (ib_in hg4) dX10_codes_257 ?_
      refine g_goto C 268 dX10_codes_258 rfl ?_
      exact g_lv [1, 2, 3, 4, 5, 6, 0, 7] rfl (wX10_codes_L268 C hrec54 _ _ _ _ _ _ _ _ _ _ s_a0 h)
  · replace h := ip q h
    refine g_iconst (v := 0) C dX10_codes_235 (by decide) ?_
    cases h
    exact g_zreturn (r := 0) C rfl dX10_codes_236
set_option maxRecDepth 100000 in
set_option maxHeartbeats 4000000 in
theorem wX10_codes_L193 {p : Program} {l : Launch} {e : Env} {s : State} {m : MethodId} {args : Array Value} {below : List Frame} {meth : Method} {c : Code} {D : va_G} {cA : Nat → ClassId} {tS : Nat → Nat} {σ : Sg} {rec54 : Nat → Int32 → Int32 → Int32 → Int32 → Int32 → Int32 → Mm → Option (Int32 × Mm)} {fu : Nat} {q : Int32 × Mm} (C : Cx p s m args meth c (dm σ) D cA tS σ cX10_codes (some .boolean) 11 RX10) (hrec54 : ∀ (y0 : Nat) (y1 : Int32) (y2 : Int32) (y3 : Int32) (y4 : Int32) (y5 : Int32) (y6 : Int32) (μ : Mm), σ y0 = some (10, 0) → rec54 y0 y1 y2 y3 y4 y5 y6 μ = some q → GG p l e (rmO 3 76) s m args below meth c 0 0 (dm σ) D cA σ 11 (MQ below (QI D cA σ q.1 q.2) args s 0 0 (dm σ)) 54 [(0, .ref y0), (1, .int y1), (2, .int y2), (3, .int y3), (4, .int y4), (5, .int y5), (6, .int y6)] [] μ) (a0 : Nat) (v1 : Int32) (v2 : Int32) (v3 : Int32) (v4 : Int32) (v5 : Int32) (v6 : Int32) (v7 : Int32) (v8 : Int32) (t0 : Int32) (μ : Mm) (s_a0 : σ a0 = some (10, 0)) (h : fX10_codes_L193 rec54 fu a0 v1 v2 v3 v4 v5 v6 v7 v8 t0 μ = some q) : GG p l e (rmO 3 76) s m args below meth c 0 0 (dm σ) D cA σ 11 (MQ below (QI D cA σ q.1 q.2) args s 0 0 (dm σ)) 193 [(0, .ref a0), (1, .int v1), (2, .int v2), (3, .int v3), (4, .int v4), (5, .int v5), (6, .int v6), (7, .int v7), (8, .int v8)] [.int t0] μ := by
  unfold fX10_codes_L193 at h
  refine g_istore (lv' := [(9, .int t0), (0, .ref a0), (1, .int v1), (2, .int v2), (3, .int v3), (4, .int v4), (5, .int v5), (6, .int v6), (7, .int v7), (8, .int v8)]) C dX10_codes_193 (by decide) rfl ?_
  refine g_iload C dX10_codes_195 7 rfl ?_
  refine g_iload C dX10_codes_197 0 rfl ?_
  refine g_iadd C dX10_codes_199 ?_
  refine g_iload C dX10_codes_200 5 rfl ?_
  refine g_icmp_gt C 235 dX10_codes_202 rfl (fun q => ?_) (fun q => ?_)
  · replace h := ip q h
    refine g_iconst (v := 0) C dX10_codes_235 (by decide) ?_
    cases h
    exact g_zreturn (r := 0) C rfl dX10_codes_236
  · replace h := iq q h
    refine g_aload_n C dX10_codes_205 1 rfl ?_
    refine g_iload C dX10_codes_206 9 rfl ?_
    refine g_if_eq C 218 dX10_codes_208 rfl (fun q => ?_) (fun q => ?_)
    · replace h := ip q h
      refine g_iload C dX10_codes_218 8 rfl ?_
      exact g_lv [1, 2, 3, 4, 5, 6, 7, 8, 9, 0] rfl (wX10_codes_L220 C hrec54 _ _ _ _ _ _ _ _ _ _ _ _ _ s_a0 s_a0 h)
    · replace h := iq q h
      refine g_aload_n C dX10_codes_211 1 rfl ?_
      refine g_geti (j := 30) C s_a0 (by decide) rfl uwX10 (by decide) rfl lfX10_183 rfl dX10_codes_212 ?_
      refine g_goto C 220 dX10_codes_215 rfl ?_
      exact g_lv [1, 2, 3, 4, 5, 6, 7, 8, 9, 0] rfl (wX10_codes_L220 C hrec54 _ _ _ _ _ _ _ _ _ _ _ _ _ s_a0 s_a0 h)
set_option maxRecDepth 100000 in
set_option maxHeartbeats 4000000 in
theorem wX10_codes_L167 {p : Program} {l : Launch} {e : Env} {s : State} {m : MethodId} {args : Array Value} {below : List Frame} {meth : Method} {c : Code} {D : va_G} {cA : Nat → ClassId} {tS : Nat → Nat} {σ : Sg} {rec54 : Nat → Int32 → Int32 → Int32 → Int32 → Int32 → Int32 → Mm → Option (Int32 × Mm)} {fu : Nat} {q : Int32 × Mm} (C : Cx p s m args meth c (dm σ) D cA tS σ cX10_codes (some .boolean) 11 RX10) (hrec54 : ∀ (y0 : Nat) (y1 : Int32) (y2 : Int32) (y3 : Int32) (y4 : Int32) (y5 : Int32) (y6 : Int32) (μ : Mm), σ y0 = some (10, 0) → rec54 y0 y1 y2 y3 y4 y5 y6 μ = some q → GG p l e (rmO 3 76) s m args below meth c 0 0 (dm σ) D cA σ 11 (MQ below (QI D cA σ q.1 q.2) args s 0 0 (dm σ)) 54 [(0, .ref y0), (1, .int y1), (2, .int y2), (3, .int y3), (4, .int y4), (5, .int y5), (6, .int y6)] [] μ) (a0 : Nat) (v1 : Int32) (v2 : Int32) (v3 : Int32) (v4 : Int32) (v5 : Int32) (v6 : Int32) (v7 : Int32) (v8 : Int32) (μ : Mm) (s_a0 : σ a0 = some (10, 0)) (h : fX10_codes_L167 rec54 fu a0 v1 v2 v3 v4 v5 v6 v7 v8 μ = some q) : GG p l e (rmO 3 76) s m args below meth c 0 0 (dm σ) D cA σ 11 (MQ below (QI D cA σ q.1 q.2) args s 0 0 (dm σ)) 167 [(0, .ref a0), (1, .int v1), (2, .int v2), (3, .int v3), (4, .int v4), (5, .int v5), (6, .int v6), (7, .int v7), (8, .int v8)] [] μ := by
  unfold fX10_codes_L167 at h
  refine g_iload C dX10_codes_167 8 rfl ?_
  refine g_if_eq C 186 dX10_codes_169 rfl (fun q => ?_) (fun q => ?_)
  · replace h := ip q h
    refine g_aload_n C dX10_codes_186 0 rfl ?_
    refine g_wt (fun hT_μ => ?_)
    refine g_getr (j := 27) C s_a0 (by decide) rfl uwX10 (by decide) rfl lfX10_53 rfl dX10_codes_187 ?_
    refine g_iload C dX10_codes_190 7 rfl ?_
    obtain ⟨hg1, h⟩ := gs h
    refine g_shald C (hT_μ.1 _ _ 27 _ s_a0 rfl) (ib_in hg1) dX10_codes_192 ?_
    exact g_lv [0, 1, 2, 3, 4, 5, 6, 7, 8] rfl (wX10_codes_L193 C hrec54 _ _ _ _ _ _ _ _ _ _ _ s_a0 h)
  · replace h := iq q h
    refine g_aload_n C dX10_codes_172 0 rfl ?_
    refine g_wt (fun hT_μ => ?_)
    refine g_getr (j := 27) C s_a0 (by decide) rfl uwX10 (by decide) rfl lfX10_53 rfl dX10_codes_173 ?_
    refine g_aload_n C dX10_codes_176 0 rfl ?_
    refine g_geti (j := 30) C s_a0 (by decide) rfl uwX10 (by decide) rfl lfX10_183 rfl dX10_codes_177 ?_
    obtain ⟨hg2, h⟩ := gs h
    refine g_shald C (hT_μ.1 _ _ 27 _ s_a0 rfl) (ib_in hg2) dX10_codes_180 ?_
    refine g_iconst (v := 1) C dX10_codes_181 (by decide) ?_
    refine g_iadd C dX10_codes_182 ?_
    refine g_goto C 193 dX10_codes_183 rfl ?_
    exact g_lv [0, 1, 2, 3, 4, 5, 6, 7, 8] rfl (wX10_codes_L193 C hrec54 _ _ _ _ _ _ _ _ _ _ _ s_a0 h)
set_option maxRecDepth 100000 in
set_option maxHeartbeats 4000000 in
theorem wX10_codes_L149 {p : Program} {l : Launch} {e : Env} {s : State} {m : MethodId} {args : Array Value} {below : List Frame} {meth : Method} {c : Code} {D : va_G} {cA : Nat → ClassId} {tS : Nat → Nat} {σ : Sg} {rec54 : Nat → Int32 → Int32 → Int32 → Int32 → Int32 → Int32 → Mm → Option (Int32 × Mm)} {fu : Nat} {q : Int32 × Mm} (C : Cx p s m args meth c (dm σ) D cA tS σ cX10_codes (some .boolean) 11 RX10) (hrec54 : ∀ (y0 : Nat) (y1 : Int32) (y2 : Int32) (y3 : Int32) (y4 : Int32) (y5 : Int32) (y6 : Int32) (μ : Mm), σ y0 = some (10, 0) → rec54 y0 y1 y2 y3 y4 y5 y6 μ = some q → GG p l e (rmO 3 76) s m args below meth c 0 0 (dm σ) D cA σ 11 (MQ below (QI D cA σ q.1 q.2) args s 0 0 (dm σ)) 54 [(0, .ref y0), (1, .int y1), (2, .int y2), (3, .int y3), (4, .int y4), (5, .int y5), (6, .int y6)] [] μ) (a0 : Nat) (v1 : Int32) (v2 : Int32) (v3 : Int32) (v4 : Int32) (v5 : Int32) (v6 : Int32) (v7 : Int32) (t0 : Int32) (μ : Mm) (s_a0 : σ a0 = some (10, 0)) (h : fX10_codes_L149 rec54 fu a0 v1 v2 v3 v4 v5 v6 v7 t0 μ = some q) : GG p l e (rmO 3 76) s m args below meth c 0 0 (dm σ) D cA σ 11 (MQ below (QI D cA σ q.1 q.2) args s 0 0 (dm σ)) 149 [(0, .ref a0), (1, .int v1), (2, .int v2), (3, .int v3), (4, .int v4), (5, .int v5), (6, .int v6), (7, .int v7)] [.int t0] μ := by
  unfold fX10_codes_L149 at h
  refine g_istore (lv' := [(8, .int t0), (0, .ref a0), (1, .int v1), (2, .int v2), (3, .int v3), (4, .int v4), (5, .int v5), (6, .int v6), (7, .int v7)]) C dX10_codes_149 (by decide) rfl ?_
  refine g_iload C dX10_codes_151 8 rfl ?_
  refine g_aload_n C dX10_codes_153 1 rfl ?_
  refine g_geti (j := 29) C s_a0 (by decide) rfl uwX10 (by decide) rfl lfX10_180 rfl dX10_codes_154 ?_
  refine g_icmp_lt C 167 dX10_codes_157 rfl (fun q => ?_) (fun q => ?_)
  · replace h := ip q h
    exact g_lv [1, 2, 3, 4, 5, 6, 7, 8, 0] rfl (wX10_codes_L167 C hrec54 _ _ _ _ _ _ _ _ _ _ s_a0 h)
  · replace h := iq q h
    refine g_iload C dX10_codes_160 0 rfl ?_
    refine g_if_ne C 167 dX10_codes_162 rfl (fun q => ?_) (fun q => ?_)
    · replace h := iq q h
      exact g_lv [1, 2, 3, 4, 5, 6, 7, 8, 0] rfl (wX10_codes_L167 C hrec54 _ _ _ _ _ _ _ _ _ _ s_a0 h)
    · replace h := ip q h
      refine g_iconst (v := 0) C dX10_codes_165 (by decide) ?_
      cases h
      exact g_zreturn (r := 0) C rfl dX10_codes_166
set_option maxRecDepth 100000 in
set_option maxHeartbeats 4000000 in
theorem wX10_codes_L148 {p : Program} {l : Launch} {e : Env} {s : State} {m : MethodId} {args : Array Value} {below : List Frame} {meth : Method} {c : Code} {D : va_G} {cA : Nat → ClassId} {tS : Nat → Nat} {σ : Sg} {rec54 : Nat → Int32 → Int32 → Int32 → Int32 → Int32 → Int32 → Mm → Option (Int32 × Mm)} {fu : Nat} {q : Int32 × Mm} (C : Cx p s m args meth c (dm σ) D cA tS σ cX10_codes (some .boolean) 11 RX10) (hrec54 : ∀ (y0 : Nat) (y1 : Int32) (y2 : Int32) (y3 : Int32) (y4 : Int32) (y5 : Int32) (y6 : Int32) (μ : Mm), σ y0 = some (10, 0) → rec54 y0 y1 y2 y3 y4 y5 y6 μ = some q → GG p l e (rmO 3 76) s m args below meth c 0 0 (dm σ) D cA σ 11 (MQ below (QI D cA σ q.1 q.2) args s 0 0 (dm σ)) 54 [(0, .ref y0), (1, .int y1), (2, .int y2), (3, .int y3), (4, .int y4), (5, .int y5), (6, .int y6)] [] μ) (a0 : Nat) (v1 : Int32) (v2 : Int32) (v3 : Int32) (v4 : Int32) (v5 : Int32) (v6 : Int32) (v7 : Int32) (μ : Mm) (s_a0 : σ a0 = some (10, 0)) (h : fX10_codes_L148 rec54 fu a0 v1 v2 v3 v4 v5 v6 v7 μ = some q) : GG p l e (rmO 3 76) s m args below meth c 0 0 (dm σ) D cA σ 11 (MQ below (QI D cA σ q.1 q.2) args s 0 0 (dm σ)) 148 [(0, .ref a0), (1, .int v1), (2, .int v2), (3, .int v3), (4, .int v4), (5, .int v5), (6, .int v6), (7, .int v7)] [] μ := by
  unfold fX10_codes_L148 at h
  refine g_iconst (v := 0) C dX10_codes_148 (by decide) ?_
  exact g_lv [0, 1, 2, 3, 4, 5, 6, 7] rfl (wX10_codes_L149 C hrec54 _ _ _ _ _ _ _ _ _ _ s_a0 h)
set_option maxRecDepth 100000 in
set_option maxHeartbeats 4000000 in
theorem wX10_codes_B54 {p : Program} {l : Launch} {e : Env} {s : State} {m : MethodId} {args : Array Value} {below : List Frame} {meth : Method} {c : Code} {D : va_G} {cA : Nat → ClassId} {tS : Nat → Nat} {σ : Sg} {rec54 : Nat → Int32 → Int32 → Int32 → Int32 → Int32 → Int32 → Mm → Option (Int32 × Mm)} {fu : Nat} {q : Int32 × Mm} (C : Cx p s m args meth c (dm σ) D cA tS σ cX10_codes (some .boolean) 11 RX10) (hrec54 : ∀ (y0 : Nat) (y1 : Int32) (y2 : Int32) (y3 : Int32) (y4 : Int32) (y5 : Int32) (y6 : Int32) (μ : Mm), σ y0 = some (10, 0) → rec54 y0 y1 y2 y3 y4 y5 y6 μ = some q → GG p l e (rmO 3 76) s m args below meth c 0 0 (dm σ) D cA σ 11 (MQ below (QI D cA σ q.1 q.2) args s 0 0 (dm σ)) 54 [(0, .ref y0), (1, .int y1), (2, .int y2), (3, .int y3), (4, .int y4), (5, .int y5), (6, .int y6)] [] μ) (a0 : Nat) (v1 : Int32) (v2 : Int32) (v3 : Int32) (v4 : Int32) (v5 : Int32) (v6 : Int32) (μ : Mm) (s_a0 : σ a0 = some (10, 0)) (h : fX10_codes_B54 rec54 fu a0 v1 v2 v3 v4 v5 v6 μ = some q) : GG p l e (rmO 3 76) s m args below meth c 0 0 (dm σ) D cA σ 11 (MQ below (QI D cA σ q.1 q.2) args s 0 0 (dm σ)) 54 [(0, .ref a0), (1, .int v1), (2, .int v2), (3, .int v3), (4, .int v4), (5, .int v5), (6, .int v6)] [] μ := by
  unfold fX10_codes_B54 at h
  refine g_aload_n C dX10_codes_54 0 rfl ?_
  obtain ⟨q1, e_q1, h⟩ := bs h
  refine g_callVI C (kX10_code s_a0 e_q1) miX10_code lmX10_202 s_a0 (by decide) rfl rfl rfl (Nat.le_of_ble_eq_true rfl) dX10_codes_55 ⟨by decide, by decide⟩ ⟨Nat.zero_le _, Nat.zero_le _⟩ ?_
  obtain ⟨x2, e_x2, h⟩ := nm h
  refine g_topi e_x2 ?_
  refine g_istore (lv' := [(7, .int x2), (0, .ref a0), (1, .int v1), (2, .int v2), (3, .int v3), (4, .int v4), (5, .int v5), (6, .int v6)]) C dX10_codes_58 (by decide) rfl ?_
  refine g_iload C dX10_codes_60 0 rfl ?_
  refine g_if_ge C 67 dX10_codes_62 rfl (fun q => ?_) (fun q => ?_)
  · replace h := ip q h
    refine g_iload C dX10_codes_67 0 rfl ?_
    refine g_iload_n C dX10_codes_69 4 rfl ?_
    refine g_iconst (v := 1) C dX10_codes_70 (by decide) ?_
    refine g_iadd C dX10_codes_71 ?_
    refine g_icmp_ne C 104 dX10_codes_72 rfl (fun q => ?_) (fun q => ?_)
    · replace h := iq q h
      refine g_iload C dX10_codes_104 0 rfl ?_
      refine g_iload_n C dX10_codes_106 4 rfl ?_
      refine g_icmp_ne C 118 dX10_codes_107 rfl (fun q => ?_) (fun q => ?_)
      · replace h := iq q h
        refine g_iload C dX10_codes_118 0 rfl ?_
        refine g_aload_n C dX10_codes_120 1 rfl ?_
        refine g_geti (j := 29) C s_a0 (by decide) rfl uwX10 (by decide) rfl lfX10_180 rfl dX10_codes_121 ?_
        refine g_icmp_ne C 148 dX10_codes_124 rfl (fun q => ?_) (fun q => ?_)
        · replace h := iq q h
          exact g_lv [1, 2, 3, 4, 5, 6, 7, 0] rfl (wX10_codes_L148 C hrec54 _ _ _ _ _ _ _ _ _ s_a0 h)
        · replace h := ip q h
          refine g_aload_n C dX10_codes_127 1 rfl ?_
          refine g_geti (j := 30) C s_a0 (by decide) rfl uwX10 (by decide) rfl lfX10_183 rfl dX10_codes_128 ?_
          refine g_if_lt C 148 dX10_codes_131 rfl (fun q => ?_) (fun q => ?_)
          · replace h := ip q h
            exact g_lv [1, 2, 3, 4, 5, 6, 7, 0] rfl (wX10_codes_L148 C hrec54 _ _ _ _ _ _ _ _ _ s_a0 h)
          · replace h := iq q h
            refine g_aload_n C dX10_codes_134 1 rfl ?_
            refine g_geti (j := 29) C s_a0 (by decide) rfl uwX10 (by decide) rfl lfX10_180 rfl dX10_codes_135 ?_
            refine g_sipush (v := 4096) C dX10_codes_138 (by decide) ?_
            refine g_icmp_ge C 148 dX10_codes_141 rfl (fun q => ?_) (fun q => ?_)
            · replace h := ip q h
              exact g_lv [1, 2, 3, 4, 5, 6, 7, 0] rfl (wX10_codes_L148 C hrec54 _ _ _ _ _ _ _ _ _ s_a0 h)
            · replace h := iq q h
              refine g_iconst (v := 1) C dX10_codes_144 (by decide) ?_
              refine g_goto C 149 dX10_codes_145 rfl ?_
              exact g_lv [1, 2, 3, 4, 5, 6, 7, 0] rfl (wX10_codes_L149 C hrec54 _ _ _ _ _ _ _ _ _ _ s_a0 h)
      · replace h := ip q h
        refine g_aload_n C dX10_codes_110 1 rfl ?_
        refine g_iload_n C dX10_codes_111 2 rfl ?_
        obtain ⟨μ3, e_μ3, h⟩ := nm h
        refine g_callVV C (kX10_restart s_a0 e_μ3.symm) miX10_restart lmX10_199 s_a0 (by decide) rfl rfl rfl (Nat.le_of_ble_eq_true rfl) dX10_codes_112 ⟨by decide, by decide⟩ ⟨Nat.zero_le _, Nat.zero_le _⟩ ?_
        refine g_goto C 54 dX10_codes_115 rfl ?_
        exact g_lv [1, 2, 3, 4, 5, 6, 7] rfl (hrec54 _ _ _ _ _ _ _ _ s_a0 h)
    · replace h := ip q h
      refine g_iload C dX10_codes_75 7 rfl ?_
      refine g_iload C dX10_codes_77 5 rfl ?_
      refine g_icmp_ne C 102 dX10_codes_79 rfl (fun q => ?_) (fun q => ?_)
      · replace h := iq q h
        refine g_iconst (v := 0) C dX10_codes_102 (by decide) ?_
        cases h
        exact g_zreturn (r := 0) C rfl dX10_codes_103
      · replace h := ip q h
        refine g_aload_n C dX10_codes_82 1 rfl ?_
        refine g_geti (j := 23) C s_a0 (by decide) rfl uwX10 (by decide) rfl lfX10_186 rfl dX10_codes_83 ?_
        refine g_bipush (v := 7) C dX10_codes_86 (by decide) ?_
        refine g_iadd C dX10_codes_88 ?_
        refine g_iconst (v := 3) C dX10_codes_89 (by decide) ?_
        refine g_ishr C dX10_codes_90 ?_
        refine g_aload_n C dX10_codes_91 1 rfl ?_
        refine g_geti (j := 22) C s_a0 (by decide) rfl uwX10 (by decide) rfl lfX10_174 rfl dX10_codes_92 ?_
        refine g_icmp_ne C 102 dX10_codes_95 rfl (fun q => ?_) (fun q => ?_)
        · replace h := iq q h
          refine g_iconst (v := 0) C dX10_codes_102 (by decide) ?_
          cases h
          exact g_zreturn (r := 0) C rfl dX10_codes_103
        · replace h := ip q h
          refine g_iconst (v := 1) C dX10_codes_98 (by decide) ?_
          refine g_goto C 103 dX10_codes_99 rfl ?_
          cases h
          exact g_zreturn (r := 1) C rfl dX10_codes_103
  · replace h := iq q h
    refine g_iconst (v := 0) C dX10_codes_65 (by decide) ?_
    cases h
    exact g_zreturn (r := 0) C rfl dX10_codes_66
theorem wX10_codes_L54 {p : Program} {l : Launch} {e : Env} {s : State} {m : MethodId} {args : Array Value} {below : List Frame} {meth : Method} {c : Code} {D : va_G} {cA : Nat → ClassId} {tS : Nat → Nat} {σ : Sg} {fu : Nat} {q : Int32 × Mm} (C : Cx p s m args meth c (dm σ) D cA tS σ cX10_codes (some .boolean) 11 RX10) : ∀ (n : Nat) (a0 : Nat) (v1 : Int32) (v2 : Int32) (v3 : Int32) (v4 : Int32) (v5 : Int32) (v6 : Int32) (μ : Mm), (σ a0 = some (10, 0)) → fX10_codes_L54 fu n a0 v1 v2 v3 v4 v5 v6 μ = some q → GG p l e (rmO 3 76) s m args below meth c 0 0 (dm σ) D cA σ 11 (MQ below (QI D cA σ q.1 q.2) args s 0 0 (dm σ)) 54 [(0, .ref a0), (1, .int v1), (2, .int v2), (3, .int v3), (4, .int v4), (5, .int v5), (6, .int v6)] [] μ := by
  intro n
  induction n with
  | zero => intro a0 v1 v2 v3 v4 v5 v6 μ s_a0 h; cases h
  | succ n ih => intro a0 v1 v2 v3 v4 v5 v6 μ s_a0 h; exact wX10_codes_B54 C (fun _ _ _ _ _ _ _ _ k0 h => ih _ _ _ _ _ _ _ _ k0 h) _ _ _ _ _ _ _ _ s_a0 h
set_option maxRecDepth 100000 in
set_option maxHeartbeats 4000000 in
theorem wX10_codes {p : Program} {l : Launch} {e : Env} {s : State} {m : MethodId} {args : Array Value} {below : List Frame} {meth : Method} {c : Code} {D : va_G} {cA : Nat → ClassId} {tS : Nat → Nat} {σ : Sg} {fu : Nat} {q : Int32 × Mm} (C : Cx p s m args meth c (dm σ) D cA tS σ cX10_codes (some .boolean) 11 RX10) (a0 : Nat) (v1 : Int32) (v2 : Int32) (μ : Mm) (s_a0 : σ a0 = some (10, 0)) (h : fX10_codes fu a0 v1 v2 μ = some q) : GG p l e (rmO 3 76) s m args below meth c 0 0 (dm σ) D cA σ 11 (MQ below (QI D cA σ q.1 q.2) args s 0 0 (dm σ)) 0 [(0, .ref a0), (1, .int v1), (2, .int v2)] [] μ := by
  unfold fX10_codes at h
  refine g_iconst (v := 1) C dX10_codes_0 (by decide) ?_
  refine g_iload_n C dX10_codes_1 1 rfl ?_
  refine g_ishl C dX10_codes_2 ?_
  obtain ⟨x1, e_x1, h⟩ := nm h
  refine g_topi e_x1 ?_
  refine g_istore_n (lv' := [(3, .int x1), (0, .ref a0), (1, .int v1), (2, .int v2)]) C dX10_codes_3 (by decide) rfl ?_
  refine g_aload_n C dX10_codes_4 1 rfl ?_
  refine g_aload_n C dX10_codes_5 1 rfl ?_
  refine g_geti (j := 14) C s_a0 (by decide) rfl uwX10 (by decide) rfl lfX10_103 rfl dX10_codes_6 ?_
  refine g_iload_n C dX10_codes_9 3 rfl ?_
  obtain ⟨x2, e_x2, h⟩ := bs h
  refine g_callVI C (kX10_places s_a0 e_x2) miX10_places lmX10_189 s_a0 (by decide) rfl rfl rfl (Nat.le_of_ble_eq_true rfl) dX10_codes_10 ⟨by decide, by decide⟩ ⟨Nat.zero_le _, Nat.zero_le _⟩ ?_
  refine g_istore (lv' := [(4, .int x2), (3, .int x1), (0, .ref a0), (1, .int v1), (2, .int v2)]) C dX10_codes_13 (by decide) rfl ?_
  refine g_aload_n C dX10_codes_15 2 rfl ?_
  refine g_aload_n C dX10_codes_16 2 rfl ?_
  refine g_geti (j := 14) C s_a0 (by decide) rfl uwX10 (by decide) rfl lfX10_103 rfl dX10_codes_17 ?_
  refine g_iload_n C dX10_codes_20 4 rfl ?_
  obtain ⟨x3, e_x3, h⟩ := bs h
  refine g_callVI C (kX10_colours s_a0 e_x3) miX10_colours lmX10_193 s_a0 (by decide) rfl rfl rfl (Nat.le_of_ble_eq_true rfl) dX10_codes_21 ⟨by decide, by decide⟩ ⟨Nat.zero_le _, Nat.zero_le _⟩ ?_
  refine g_istore (lv' := [(5, .int x3), (4, .int x2), (3, .int x1), (0, .ref a0), (1, .int v1), (2, .int v2)]) C dX10_codes_24 (by decide) rfl ?_
  refine g_aload_n C dX10_codes_26 3 rfl ?_
  refine g_iload_n C dX10_codes_27 4 rfl ?_
  obtain ⟨μ4, e_μ4, h⟩ := bs h
  refine g_callVV C (kX10_alone s_a0 e_μ4) miX10_alone lmX10_196 s_a0 (by decide) rfl rfl rfl (Nat.le_of_ble_eq_true rfl) dX10_codes_28 ⟨by decide, by decide⟩ ⟨Nat.zero_le _, Nat.zero_le _⟩ ?_
  refine g_aload_n C dX10_codes_31 3 rfl ?_
  refine g_iload_n C dX10_codes_32 4 rfl ?_
  obtain ⟨μ5, e_μ5, h⟩ := nm h
  refine g_callVV C (kX10_restart s_a0 e_μ5.symm) miX10_restart lmX10_199 s_a0 (by decide) rfl rfl rfl (Nat.le_of_ble_eq_true rfl) dX10_codes_33 ⟨by decide, by decide⟩ ⟨Nat.zero_le _, Nat.zero_le _⟩ ?_
  refine g_aload_n C dX10_codes_36 3 rfl ?_
  refine g_iconst (v := 0) C dX10_codes_37 (by decide) ?_
  refine g_puti (j := 23) C s_a0 (by decide) rfl uwX10 tyX10_ok nmX10 (by decide) rfl lfX10_186 rfl rfl rfl (fun _ _ => rfl) (fun _ _ => Nat.le_of_ble_eq_true rfl) dX10_codes_38 ?_
  obtain ⟨μ6, e_μ6, h⟩ := nm h
  refine g_mu e_μ6 ?_
  refine g_aload_n C dX10_codes_41 3 rfl ?_
  obtain ⟨q7, e_q7, h⟩ := bs h
  refine g_callVI C (kX10_code s_a0 e_q7) miX10_code lmX10_202 s_a0 (by decide) rfl rfl rfl (Nat.le_of_ble_eq_true rfl) dX10_codes_42 ⟨by decide, by decide⟩ ⟨Nat.zero_le _, Nat.zero_le _⟩ ?_
  refine g_iload_n C dX10_codes_45 2 rfl ?_
  refine g_icmp_eq C 51 dX10_codes_46 rfl (fun q => ?_) (fun q => ?_)
  · replace h := ip q h
    refine g_iconst (v := 0) C dX10_codes_51 (by decide) ?_
    refine g_istore (lv' := [(6, .int 0), (5, .int x3), (4, .int x2), (3, .int x1), (0, .ref a0), (1, .int v1), (2, .int v2)]) C dX10_codes_52 (by decide) rfl ?_
    exact g_lv [4, 5, 6, 3, 2, 1, 0] rfl (wX10_codes_L54 C fu _ _ _ _ _ _ _ _ s_a0 h)
  · replace h := iq q h
    refine g_iconst (v := 0) C dX10_codes_49 (by decide) ?_
    cases h
    exact g_zreturn (r := 0) C rfl dX10_codes_50
theorem miX10_codes : MI yX10_codes cX10_codes 11 (some .boolean) RX10 2 := ⟨wcX10_codes, wmX10_codes, wsX10_codes, wiX10, by decide +kernel⟩
theorem kX10_codes {l : Launch} {D : va_G} {cA : Nat → ClassId} {tS : Nat → Nat} {σ : Sg} {a0 : Nat} {v1 : Int32} {v2 : Int32} {μ : Mm} {fu : Nat} {q : Int32 × Mm} (s_a0 : σ a0 = some (10, 0)) (h : fX10_codes fu a0 v1 v2 μ = some q) : Ct l D cA tS σ yX10_codes cX10_codes 11 (some .boolean) (rmO 3 76) [.ref a0, .int v1, .int v2] μ (QI D cA σ q.1 q.2) :=
  Ct.of (by decide) (Nat.le_of_ble_eq_true rfl) (fun _ _ _ _ _ _ _ _ C => wX10_codes C _ _ _ _ s_a0 h)
set_option maxRecDepth 100000 in
set_option maxHeartbeats 4000000 in
theorem wX10_gather_L65 {p : Program} {l : Launch} {e : Env} {s : State} {m : MethodId} {args : Array Value} {below : List Frame} {meth : Method} {c : Code} {D : va_G} {cA : Nat → ClassId} {tS : Nat → Nat} {σ : Sg} {rec10 : Nat → Int32 → Mm → Option (Mm)} {fu : Nat} {q : Mm} (C : Cx p s m args meth c (dm σ) D cA tS σ cX10_gather none 3 RX10) (hrec10 : ∀ (y0 : Nat) (y1 : Int32) (μ : Mm), σ y0 = some (10, 0) → rec10 y0 y1 μ = some q → GG p l e (rmO 2 42) s m args below meth c 0 0 (dm σ) D cA σ 3 (MQ below (QV D cA σ q) args s 0 0 (dm σ)) 10 [(0, .ref y0), (1, .int y1)] [] μ) (a0 : Nat) (μ : Mm) (s_a0 : σ a0 = some (10, 0)) (h : fX10_gather_L65 rec10 fu a0 μ = some q) : GG p l e (rmO 2 42) s m args below meth c 0 0 (dm σ) D cA σ 3 (MQ below (QV D cA σ q) args s 0 0 (dm σ)) 65 [(0, .ref a0)] [] μ := by
  unfold fX10_gather_L65 at h
  refine g_aload_n C dX10_gather_65 0 rfl ?_
  obtain ⟨q1, e_q1, h⟩ := bs h
  refine g_callVI C (kX10_one s_a0 e_q1) miX10_one lmX10_100 s_a0 (by decide) rfl rfl rfl (Nat.le_of_ble_eq_true rfl) dX10_gather_66 ⟨by decide, by decide⟩ ⟨Nat.zero_le _, Nat.zero_le _⟩ ?_
  obtain ⟨x2, e_x2, h⟩ := nm h
  refine g_topi e_x2 ?_
  refine g_istore_n (lv' := [(1, .int x2), (0, .ref a0)]) C dX10_gather_69 (by decide) rfl ?_
  refine g_goto C 10 dX10_gather_70 rfl ?_
  exact g_lv [1, 0] rfl (hrec10 _ _ _ s_a0 h)
set_option maxRecDepth 100000 in
set_option maxHeartbeats 4000000 in
theorem wX10_gather_B23 {p : Program} {l : Launch} {e : Env} {s : State} {m : MethodId} {args : Array Value} {below : List Frame} {meth : Method} {c : Code} {D : va_G} {cA : Nat → ClassId} {tS : Nat → Nat} {σ : Sg} {rec10 : Nat → Int32 → Mm → Option (Mm)} {rec23 : Nat → Int32 → Int32 → Mm → Option (Mm)} {fu : Nat} {q : Mm} (C : Cx p s m args meth c (dm σ) D cA tS σ cX10_gather none 3 RX10) (hrec10 : ∀ (y0 : Nat) (y1 : Int32) (μ : Mm), σ y0 = some (10, 0) → rec10 y0 y1 μ = some q → GG p l e (rmO 2 42) s m args below meth c 0 0 (dm σ) D cA σ 3 (MQ below (QV D cA σ q) args s 0 0 (dm σ)) 10 [(0, .ref y0), (1, .int y1)] [] μ) (hrec23 : ∀ (y0 : Nat) (y1 : Int32) (y2 : Int32) (μ : Mm), σ y0 = some (10, 0) → rec23 y0 y1 y2 μ = some q → GG p l e (rmO 2 42) s m args below meth c 0 0 (dm σ) D cA σ 3 (MQ below (QV D cA σ q) args s 0 0 (dm σ)) 23 [(0, .ref y0), (1, .int y1), (2, .int y2)] [] μ) (a0 : Nat) (v1 : Int32) (v2 : Int32) (μ : Mm) (s_a0 : σ a0 = some (10, 0)) (h : fX10_gather_B23 rec10 rec23 fu a0 v1 v2 μ = some q) : GG p l e (rmO 2 42) s m args below meth c 0 0 (dm σ) D cA σ 3 (MQ below (QV D cA σ q) args s 0 0 (dm σ)) 23 [(0, .ref a0), (1, .int v1), (2, .int v2)] [] μ := by
  unfold fX10_gather_B23 at h
  refine g_iload_n C dX10_gather_23 2 rfl ?_
  refine g_iload_n C dX10_gather_24 1 rfl ?_
  refine g_icmp_ge C 65 dX10_gather_25 rfl (fun q => ?_) (fun q => ?_)
  · replace h := ip q h
    exact g_lv [0] rfl (wX10_gather_L65 C hrec10 _ _ s_a0 h)
  · replace h := iq q h
    refine g_aload_n C dX10_gather_28 0 rfl ?_
    obtain ⟨x1, e_x1, h⟩ := nm h
    refine g_callVI C (kX10_good s_a0 e_x1.symm) miX10_good lmX10_86 s_a0 (by decide) rfl rfl rfl (Nat.le_of_ble_eq_true rfl) dX10_gather_29 ⟨by decide, by decide⟩ ⟨Nat.zero_le _, Nat.zero_le _⟩ ?_
    refine g_if_eq C 65 dX10_gather_32 rfl (fun q => ?_) (fun q => ?_)
    · replace h := ip q h
      exact g_lv [0] rfl (wX10_gather_L65 C hrec10 _ _ s_a0 h)
    · replace h := iq q h
      refine g_aload_n C dX10_gather_35 0 rfl ?_
      refine g_wt (fun hT_μ => ?_)
      refine g_getr (j := 21) C s_a0 (by decide) rfl uwX10 (by decide) rfl lfX10_41 rfl dX10_gather_36 ?_
      refine g_aload_n C dX10_gather_39 0 rfl ?_
      refine g_geti (j := 22) C s_a0 (by decide) rfl uwX10 (by decide) rfl lfX10_174 rfl dX10_gather_40 ?_
      refine g_aload_n C dX10_gather_43 0 rfl ?_
      obtain ⟨q2, e_q2, h⟩ := bs h
      refine g_callVI C (kX10_one s_a0 e_q2) miX10_one lmX10_100 s_a0 (by decide) rfl rfl rfl (Nat.le_of_ble_eq_true rfl) dX10_gather_44 ⟨by decide, by decide⟩ ⟨Nat.zero_le _, Nat.zero_le _⟩ ?_
      refine g_i2b C dX10_gather_47 ?_
      obtain ⟨hg, h⟩ := gs h
      refine g_bast C (hT_μ.1 _ _ 21 _ s_a0 rfl) (ib_in hg) dX10_gather_48 ?_
      obtain ⟨μ3, e_μ3, h⟩ := nm h
      refine g_mu e_μ3 ?_
      refine g_aload_n C dX10_gather_49 0 rfl ?_
      refine g_dup C dX10_gather_50 rfl ?_
      refine g_geti (j := 22) C s_a0 (by decide) rfl uwX10 (by decide) rfl lfX10_174 rfl dX10_gather_51 ?_
      refine g_iconst (v := 1) C dX10_gather_54 (by decide) ?_
      refine g_iadd C dX10_gather_55 ?_
      refine g_puti (j := 22) C s_a0 (by decide) rfl uwX10 tyX10_ok nmX10 (by decide) rfl lfX10_174 rfl rfl rfl (fun _ _ => rfl) (fun _ _ => Nat.le_of_ble_eq_true rfl) dX10_gather_56 ?_
      obtain ⟨μ4, e_μ4, h⟩ := nm h
      refine g_mu e_μ4 ?_
      obtain ⟨x5, e_x5, h⟩ := nm h
      refine g_iinc (v := x5) (lv' := [(2, .int x5), (0, .ref a0), (1, .int v1)]) C dX10_gather_59 (by decide) 2 rfl 1 (by decide) e_x5.symm rfl ?_
      refine g_goto C 23 dX10_gather_62 rfl ?_
      exact g_lv [1, 2, 0] rfl (hrec23 _ _ _ _ s_a0 h)
theorem wX10_gather_L23 {p : Program} {l : Launch} {e : Env} {s : State} {m : MethodId} {args : Array Value} {below : List Frame} {meth : Method} {c : Code} {D : va_G} {cA : Nat → ClassId} {tS : Nat → Nat} {σ : Sg} {rec10 : Nat → Int32 → Mm → Option (Mm)} {fu : Nat} {q : Mm} (C : Cx p s m args meth c (dm σ) D cA tS σ cX10_gather none 3 RX10) (hrec10 : ∀ (y0 : Nat) (y1 : Int32) (μ : Mm), σ y0 = some (10, 0) → rec10 y0 y1 μ = some q → GG p l e (rmO 2 42) s m args below meth c 0 0 (dm σ) D cA σ 3 (MQ below (QV D cA σ q) args s 0 0 (dm σ)) 10 [(0, .ref y0), (1, .int y1)] [] μ) : ∀ (n : Nat) (a0 : Nat) (v1 : Int32) (v2 : Int32) (μ : Mm), (σ a0 = some (10, 0)) → fX10_gather_L23 rec10 fu n a0 v1 v2 μ = some q → GG p l e (rmO 2 42) s m args below meth c 0 0 (dm σ) D cA σ 3 (MQ below (QV D cA σ q) args s 0 0 (dm σ)) 23 [(0, .ref a0), (1, .int v1), (2, .int v2)] [] μ := by
  intro n
  induction n with
  | zero => intro a0 v1 v2 μ s_a0 h; cases h
  | succ n ih => intro a0 v1 v2 μ s_a0 h; exact wX10_gather_B23 C hrec10 (fun _ _ _ _ k0 h => ih _ _ _ _ k0 h) _ _ _ _ s_a0 h
set_option maxRecDepth 100000 in
set_option maxHeartbeats 4000000 in
theorem wX10_gather_B10 {p : Program} {l : Launch} {e : Env} {s : State} {m : MethodId} {args : Array Value} {below : List Frame} {meth : Method} {c : Code} {D : va_G} {cA : Nat → ClassId} {tS : Nat → Nat} {σ : Sg} {rec10 : Nat → Int32 → Mm → Option (Mm)} {fu : Nat} {q : Mm} (C : Cx p s m args meth c (dm σ) D cA tS σ cX10_gather none 3 RX10) (hrec10 : ∀ (y0 : Nat) (y1 : Int32) (μ : Mm), σ y0 = some (10, 0) → rec10 y0 y1 μ = some q → GG p l e (rmO 2 42) s m args below meth c 0 0 (dm σ) D cA σ 3 (MQ below (QV D cA σ q) args s 0 0 (dm σ)) 10 [(0, .ref y0), (1, .int y1)] [] μ) (a0 : Nat) (v1 : Int32) (μ : Mm) (s_a0 : σ a0 = some (10, 0)) (h : fX10_gather_B10 rec10 fu a0 v1 μ = some q) : GG p l e (rmO 2 42) s m args below meth c 0 0 (dm σ) D cA σ 3 (MQ below (QV D cA σ q) args s 0 0 (dm σ)) 10 [(0, .ref a0), (1, .int v1)] [] μ := by
  unfold fX10_gather_B10 at h
  refine g_aload_n C dX10_gather_10 0 rfl ?_
  obtain ⟨x1, e_x1, h⟩ := nm h
  refine g_callVI C (kX10_good s_a0 e_x1.symm) miX10_good lmX10_86 s_a0 (by decide) rfl rfl rfl (Nat.le_of_ble_eq_true rfl) dX10_gather_11 ⟨by decide, by decide⟩ ⟨Nat.zero_le _, Nat.zero_le _⟩ ?_
  refine g_if_eq C 73 dX10_gather_14 rfl (fun q => ?_) (fun q => ?_)
  · replace h := ip q h
    cases h
    exact g_return C dX10_gather_73
  · replace h := iq q h
    refine g_iload_n C dX10_gather_17 1 rfl ?_
    refine g_if_le C 73 dX10_gather_18 rfl (fun q => ?_) (fun q => ?_)
    · replace h := ip q h
      cases h
      exact g_return C dX10_gather_73
    · replace h := iq q h
      refine g_iconst (v := 0) C dX10_gather_21 (by decide) ?_
      refine g_istore_n (lv' := [(2, .int 0), (0, .ref a0), (1, .int v1)]) C dX10_gather_22 (by decide) rfl ?_
      exact g_lv [1, 2, 0] rfl (wX10_gather_L23 C hrec10 fu _ _ _ _ s_a0 h)
theorem wX10_gather_L10 {p : Program} {l : Launch} {e : Env} {s : State} {m : MethodId} {args : Array Value} {below : List Frame} {meth : Method} {c : Code} {D : va_G} {cA : Nat → ClassId} {tS : Nat → Nat} {σ : Sg} {fu : Nat} {q : Mm} (C : Cx p s m args meth c (dm σ) D cA tS σ cX10_gather none 3 RX10) : ∀ (n : Nat) (a0 : Nat) (v1 : Int32) (μ : Mm), (σ a0 = some (10, 0)) → fX10_gather_L10 fu n a0 v1 μ = some q → GG p l e (rmO 2 42) s m args below meth c 0 0 (dm σ) D cA σ 3 (MQ below (QV D cA σ q) args s 0 0 (dm σ)) 10 [(0, .ref a0), (1, .int v1)] [] μ := by
  intro n
  induction n with
  | zero => intro a0 v1 μ s_a0 h; cases h
  | succ n ih => intro a0 v1 μ s_a0 h; exact wX10_gather_B10 C (fun _ _ _ k0 h => ih _ _ _ k0 h) _ _ _ s_a0 h
set_option maxRecDepth 100000 in
set_option maxHeartbeats 4000000 in
theorem wX10_gather {p : Program} {l : Launch} {e : Env} {s : State} {m : MethodId} {args : Array Value} {below : List Frame} {meth : Method} {c : Code} {D : va_G} {cA : Nat → ClassId} {tS : Nat → Nat} {σ : Sg} {fu : Nat} {q : Mm} (C : Cx p s m args meth c (dm σ) D cA tS σ cX10_gather none 3 RX10) (a0 : Nat) (μ : Mm) (s_a0 : σ a0 = some (10, 0)) (h : fX10_gather fu a0 μ = some q) : GG p l e (rmO 2 42) s m args below meth c 0 0 (dm σ) D cA σ 3 (MQ below (QV D cA σ q) args s 0 0 (dm σ)) 0 [(0, .ref a0)] [] μ := by
  unfold fX10_gather at h
  refine g_aload_n C dX10_gather_0 0 rfl ?_
  refine g_iconst (v := 0) C dX10_gather_1 (by decide) ?_
  refine g_puti (j := 22) C s_a0 (by decide) rfl uwX10 tyX10_ok nmX10 (by decide) rfl lfX10_174 rfl rfl rfl (fun _ _ => rfl) (fun _ _ => Nat.le_of_ble_eq_true rfl) dX10_gather_2 ?_
  obtain ⟨μ1, e_μ1, h⟩ := nm h
  refine g_mu e_μ1 ?_
  refine g_aload_n C dX10_gather_5 0 rfl ?_
  obtain ⟨q2, e_q2, h⟩ := bs h
  refine g_callVI C (kX10_one s_a0 e_q2) miX10_one lmX10_100 s_a0 (by decide) rfl rfl rfl (Nat.le_of_ble_eq_true rfl) dX10_gather_6 ⟨by decide, by decide⟩ ⟨Nat.zero_le _, Nat.zero_le _⟩ ?_
  obtain ⟨x3, e_x3, h⟩ := nm h
  refine g_topi e_x3 ?_
  refine g_istore_n (lv' := [(1, .int x3), (0, .ref a0)]) C dX10_gather_9 (by decide) rfl ?_
  exact g_lv [1, 0] rfl (wX10_gather_L10 C fu _ _ _ s_a0 h)
theorem miX10_gather : MI yX10_gather cX10_gather 3 none RX10 0 := ⟨wcX10_gather, wmX10_gather, wsX10_gather, wiX10, by decide +kernel⟩
theorem kX10_gather {l : Launch} {D : va_G} {cA : Nat → ClassId} {tS : Nat → Nat} {σ : Sg} {a0 : Nat} {μ : Mm} {fu : Nat} {q : Mm} (s_a0 : σ a0 = some (10, 0)) (h : fX10_gather fu a0 μ = some q) : Ct l D cA tS σ yX10_gather cX10_gather 3 none (rmO 2 42) [.ref a0] μ (QV D cA σ q) :=
  Ct.of (by decide) (Nat.le_of_ble_eq_true rfl) (fun _ _ _ _ _ _ _ _ C => wX10_gather C _ _ s_a0 h)
set_option maxRecDepth 100000 in
set_option maxHeartbeats 4000000 in
theorem wX10_readTable_B3 {p : Program} {l : Launch} {e : Env} {s : State} {m : MethodId} {args : Array Value} {below : List Frame} {meth : Method} {c : Code} {D : va_G} {cA : Nat → ClassId} {tS : Nat → Nat} {σ : Sg} {rec3 : Nat → Nat → Int32 → Int32 → Int32 → Mm → Option (Mm)} {fu : Nat} {ln : Nat} {q : Mm} (C : Cx p s m args meth c (dm σ) D cA tS σ cX10_readTable none 6 RX10) (hrec3 : ∀ (y0 : Nat) (y1 : Nat) (y2 : Int32) (y3 : Int32) (y4 : Int32) (μ : Mm), σ y0 = some (10, 0) → σ y1 = some (11, ln) → rec3 y0 y1 y2 y3 y4 μ = some q → GG p l e (rmO 2 42) s m args below meth c 0 0 (dm σ) D cA σ 6 (MQ below (QV D cA σ q) args s 0 0 (dm σ)) 3 [(0, .ref y0), (1, .ref y1), (2, .int y2), (3, .int y3), (4, .int y4)] [] μ) (a0 : Nat) (a1 : Nat) (v2 : Int32) (v3 : Int32) (v4 : Int32) (μ : Mm) (s_a0 : σ a0 = some (10, 0)) (s_a1 : σ a1 = some (11, ln)) (h : fX10_readTable_B3 rec3 fu ln a0 a1 v2 v3 v4 μ = some q) : GG p l e (rmO 2 42) s m args below meth c 0 0 (dm σ) D cA σ 6 (MQ below (QV D cA σ q) args s 0 0 (dm σ)) 3 [(0, .ref a0), (1, .ref a1), (2, .int v2), (3, .int v3), (4, .int v4)] [] μ := by
  unfold fX10_readTable_B3 at h
  refine g_iload C dX10_readTable_3 4 rfl ?_
  refine g_iload_n C dX10_readTable_5 3 rfl ?_
  refine g_icmp_ge C 56 dX10_readTable_6 rfl (fun q => ?_) (fun q => ?_)
  · replace h := ip q h
    cases h
    exact g_return C dX10_readTable_56
  · replace h := iq q h
    refine g_aload_n C dX10_readTable_9 0 rfl ?_
    obtain ⟨x1, e_x1, h⟩ := nm h
    refine g_callVI C (kX10_good s_a0 e_x1.symm) miX10_good lmX10_86 s_a0 (by decide) rfl rfl rfl (Nat.le_of_ble_eq_true rfl) dX10_readTable_10 ⟨by decide, by decide⟩ ⟨Nat.zero_le _, Nat.zero_le _⟩ ?_
    refine g_if_eq C 56 dX10_readTable_13 rfl (fun q => ?_) (fun q => ?_)
    · replace h := ip q h
      cases h
      exact g_return C dX10_readTable_56
    · replace h := iq q h
      refine g_aload_n C dX10_readTable_16 0 rfl ?_
      obtain ⟨q2, e_q2, h⟩ := bs h
      refine g_callVI C (kX10_one s_a0 e_q2) miX10_one lmX10_100 s_a0 (by decide) rfl rfl rfl (Nat.le_of_ble_eq_true rfl) dX10_readTable_17 ⟨by decide, by decide⟩ ⟨Nat.zero_le _, Nat.zero_le _⟩ ?_
      refine g_bipush (v := 16) C dX10_readTable_20 (by decide) ?_
      refine g_ishl C dX10_readTable_22 ?_
      obtain ⟨x3, e_x3, h⟩ := nm h
      refine g_topi e_x3 ?_
      refine g_istore (lv' := [(5, .int x3), (0, .ref a0), (1, .ref a1), (2, .int v2), (3, .int v3), (4, .int v4)]) C dX10_readTable_23 (by decide) rfl ?_
      refine g_iload C dX10_readTable_25 0 rfl ?_
      refine g_aload_n C dX10_readTable_27 1 rfl ?_
      obtain ⟨q4, e_q4, h⟩ := bs h
      refine g_callVI C (kX10_one s_a0 e_q4) miX10_one lmX10_100 s_a0 (by decide) rfl rfl rfl (Nat.le_of_ble_eq_true rfl) dX10_readTable_28 ⟨by decide, by decide⟩ ⟨Nat.zero_le _, Nat.zero_le _⟩ ?_
      refine g_bipush (v := 8) C dX10_readTable_31 (by decide) ?_
      refine g_ishl C dX10_readTable_33 ?_
      refine g_ior C dX10_readTable_34 ?_
      obtain ⟨x5, e_x5, h⟩ := nm h
      refine g_topi e_x5 ?_
      refine g_istore (lv' := [(5, .int x5), (0, .ref a0), (1, .ref a1), (2, .int v2), (3, .int v3), (4, .int v4)]) C dX10_readTable_35 (by decide) rfl ?_
      refine g_aload_n C dX10_readTable_37 2 rfl ?_
      refine g_iload_n C dX10_readTable_38 3 rfl ?_
      refine g_iload C dX10_readTable_39 5 rfl ?_
      refine g_iadd C dX10_readTable_41 ?_
      refine g_iload C dX10_readTable_42 0 rfl ?_
      refine g_aload_n C dX10_readTable_44 1 rfl ?_
      obtain ⟨q6, e_q6, h⟩ := bs h
      refine g_callVI C (kX10_one s_a0 e_q6) miX10_one lmX10_100 s_a0 (by decide) rfl rfl rfl (Nat.le_of_ble_eq_true rfl) dX10_readTable_45 ⟨by decide, by decide⟩ ⟨Nat.zero_le _, Nat.zero_le _⟩ ?_
      refine g_ior C dX10_readTable_48 ?_
      obtain ⟨hg, h⟩ := gs h
      refine g_iast C s_a1 (ib_in hg) dX10_readTable_49 ?_
      obtain ⟨μ7, e_μ7, h⟩ := nm h
      refine g_mu e_μ7 ?_
      obtain ⟨x8, e_x8, h⟩ := nm h
      refine g_iinc (v := x8) (lv' := [(4, .int x8), (5, .int x5), (0, .ref a0), (1, .ref a1), (2, .int v2), (3, .int v3)]) C dX10_readTable_50 (by decide) 5 rfl 1 (by decide) e_x8.symm rfl ?_
      refine g_goto C 3 dX10_readTable_53 rfl ?_
      exact g_lv [2, 3, 4, 5, 0] rfl (hrec3 _ _ _ _ _ _ s_a0 s_a1 h)
theorem wX10_readTable_L3 {p : Program} {l : Launch} {e : Env} {s : State} {m : MethodId} {args : Array Value} {below : List Frame} {meth : Method} {c : Code} {D : va_G} {cA : Nat → ClassId} {tS : Nat → Nat} {σ : Sg} {fu : Nat} {ln : Nat} {q : Mm} (C : Cx p s m args meth c (dm σ) D cA tS σ cX10_readTable none 6 RX10) : ∀ (n : Nat) (a0 : Nat) (a1 : Nat) (v2 : Int32) (v3 : Int32) (v4 : Int32) (μ : Mm), (σ a0 = some (10, 0)) → (σ a1 = some (11, ln)) → fX10_readTable_L3 fu ln n a0 a1 v2 v3 v4 μ = some q → GG p l e (rmO 2 42) s m args below meth c 0 0 (dm σ) D cA σ 6 (MQ below (QV D cA σ q) args s 0 0 (dm σ)) 3 [(0, .ref a0), (1, .ref a1), (2, .int v2), (3, .int v3), (4, .int v4)] [] μ := by
  intro n
  induction n with
  | zero => intro a0 a1 v2 v3 v4 μ s_a0 s_a1 h; cases h
  | succ n ih => intro a0 a1 v2 v3 v4 μ s_a0 s_a1 h; exact wX10_readTable_B3 C (fun _ _ _ _ _ _ k0 k1 h => ih _ _ _ _ _ _ k0 k1 h) _ _ _ _ _ _ s_a0 s_a1 h
set_option maxRecDepth 100000 in
set_option maxHeartbeats 4000000 in
theorem wX10_readTable {p : Program} {l : Launch} {e : Env} {s : State} {m : MethodId} {args : Array Value} {below : List Frame} {meth : Method} {c : Code} {D : va_G} {cA : Nat → ClassId} {tS : Nat → Nat} {σ : Sg} {fu : Nat} {ln : Nat} {q : Mm} (C : Cx p s m args meth c (dm σ) D cA tS σ cX10_readTable none 6 RX10) (a0 : Nat) (a1 : Nat) (v2 : Int32) (v3 : Int32) (μ : Mm) (s_a0 : σ a0 = some (10, 0)) (s_a1 : σ a1 = some (11, ln)) (h : fX10_readTable fu ln a0 a1 v2 v3 μ = some q) : GG p l e (rmO 2 42) s m args below meth c 0 0 (dm σ) D cA σ 6 (MQ below (QV D cA σ q) args s 0 0 (dm σ)) 0 [(0, .ref a0), (1, .ref a1), (2, .int v2), (3, .int v3)] [] μ := by
  unfold fX10_readTable at h
  refine g_iconst (v := 0) C dX10_readTable_0 (by decide) ?_
  refine g_istore (lv' := [(4, .int 0), (0, .ref a0), (1, .ref a1), (2, .int v2), (3, .int v3)]) C dX10_readTable_1 (by decide) rfl ?_
  exact g_lv [1, 2, 3, 4, 0] rfl (wX10_readTable_L3 C fu _ _ _ _ _ _ s_a0 s_a1 h)
theorem miX10_readTable : MI yX10_readTable cX10_readTable 6 none RX10 3 := ⟨wcX10_readTable, wmX10_readTable, wsX10_readTable, wiX10, by decide +kernel⟩
theorem kX10_readTable {l : Launch} {D : va_G} {cA : Nat → ClassId} {tS : Nat → Nat} {σ : Sg} {a0 : Nat} {a1 : Nat} {v2 : Int32} {v3 : Int32} {μ : Mm} {fu : Nat} {ln : Nat} {q : Mm} (s_a0 : σ a0 = some (10, 0)) (s_a1 : σ a1 = some (11, ln)) (h : fX10_readTable fu ln a0 a1 v2 v3 μ = some q) : Ct l D cA tS σ yX10_readTable cX10_readTable 6 none (rmO 2 42) [.ref a0, .ref a1, .int v2, .int v3] μ (QV D cA σ q) :=
  Ct.of (by decide) (Nat.le_of_ble_eq_true rfl) (fun _ _ _ _ _ _ _ _ C => wX10_readTable C _ _ _ _ _ s_a0 s_a1 h)
set_option maxRecDepth 100000 in
set_option maxHeartbeats 4000000 in
theorem wX10_readImage_L406 {p : Program} {l : Launch} {e : Env} {s : State} {m : MethodId} {args : Array Value} {below : List Frame} {meth : Method} {c : Code} {D : va_G} {cA : Nat → ClassId} {tS : Nat → Nat} {σ : Sg} {fu : Nat} {q : Mm} (C : Cx p s m args meth c (dm σ) D cA tS σ cX10_readImage none 12 RX10) (a0 : Nat) (v2 : Int32) (μ : Mm) (s_a0 : σ a0 = some (10, 0)) (h : fX10_readImage_L406 fu a0 v2 μ = some q) : GG p l e (rmO 4 106) s m args below meth c 0 0 (dm σ) D cA σ 12 (MQ below (QV D cA σ q) args s 0 0 (dm σ)) 406 [(0, .ref a0), (2, .int v2)] [] μ := by
  unfold fX10_readImage_L406 at h
  refine g_aload_n C dX10_readImage_406 0 rfl ?_
  obtain ⟨x1, e_x1, h⟩ := nm h
  refine g_callVI C (kX10_good s_a0 e_x1.symm) miX10_good lmX10_86 s_a0 (by decide) rfl rfl rfl (Nat.le_of_ble_eq_true rfl) dX10_readImage_407 ⟨by decide, by decide⟩ ⟨Nat.zero_le _, Nat.zero_le _⟩ ?_
  refine g_if_eq C 430 dX10_readImage_410 rfl (fun q => ?_) (fun q => ?_)
  · replace h := ip q h
    cases h
    exact g_return C dX10_readImage_430
  · replace h := iq q h
    refine g_aload_n C dX10_readImage_413 0 rfl ?_
    refine g_wt (fun hT_μ => ?_)
    refine g_getr (j := 7) C s_a0 (by decide) rfl uwX10 (by decide) rfl lfX10_23 rfl dX10_readImage_414 ?_
    refine g_bipush (v := 6) C dX10_readImage_417 (by decide) ?_
    refine g_aload_n C dX10_readImage_419 0 rfl ?_
    refine g_geti (j := 14) C s_a0 (by decide) rfl uwX10 (by decide) rfl lfX10_103 rfl dX10_readImage_420 ?_
    refine g_imul C dX10_readImage_423 ?_
    refine g_iconst (v := 5) C dX10_readImage_424 (by decide) ?_
    refine g_iadd C dX10_readImage_425 ?_
    refine g_iload_n C dX10_readImage_426 1 rfl ?_
    refine g_iconst (v := 1) C dX10_readImage_427 (by decide) ?_
    refine g_iadd C dX10_readImage_428 ?_
    obtain ⟨hg, h⟩ := gs h
    refine g_iast C (hT_μ.1 _ _ 7 _ s_a0 rfl) (ib_in hg) dX10_readImage_429 ?_
    obtain ⟨μ2, e_μ2, h⟩ := nm h
    refine g_mu e_μ2 ?_
    cases h
    exact g_return C dX10_readImage_430
set_option maxRecDepth 100000 in
set_option maxHeartbeats 4000000 in
theorem wX10_readImage_L369 {p : Program} {l : Launch} {e : Env} {s : State} {m : MethodId} {args : Array Value} {below : List Frame} {meth : Method} {c : Code} {D : va_G} {cA : Nat → ClassId} {tS : Nat → Nat} {σ : Sg} {fu : Nat} {q : Mm} (C : Cx p s m args meth c (dm σ) D cA tS σ cX10_readImage none 12 RX10) (a0 : Nat) (v2 : Int32) (v10 : Int32) (v11 : Int32) (μ : Mm) (s_a0 : σ a0 = some (10, 0)) (h : fX10_readImage_L369 fu a0 v2 v10 v11 μ = some q) : GG p l e (rmO 4 106) s m args below meth c 0 0 (dm σ) D cA σ 12 (MQ below (QV D cA σ q) args s 0 0 (dm σ)) 369 [(0, .ref a0), (2, .int v2), (10, .int v10), (11, .int v11)] [] μ := by
  unfold fX10_readImage_L369 at h
  refine g_aload_n C dX10_readImage_369 0 rfl ?_
  obtain ⟨x1, e_x1, h⟩ := nm h
  refine g_callVI C (kX10_good s_a0 e_x1.symm) miX10_good lmX10_86 s_a0 (by decide) rfl rfl rfl (Nat.le_of_ble_eq_true rfl) dX10_readImage_370 ⟨by decide, by decide⟩ ⟨Nat.zero_le _, Nat.zero_le _⟩ ?_
  refine g_if_ne C 377 dX10_readImage_373 rfl (fun q => ?_) (fun q => ?_)
  · replace h := iq q h
    refine g_aload_n C dX10_readImage_377 0 rfl ?_
    obtain ⟨μ2, e_μ2, h⟩ := bs h
    refine g_callVV C (kX10_gather s_a0 e_μ2) miX10_gather lmX10_167 s_a0 (by decide) rfl rfl rfl (Nat.le_of_ble_eq_true rfl) dX10_readImage_378 ⟨by decide, by decide⟩ ⟨Nat.zero_le _, Nat.zero_le _⟩ ?_
    refine g_aload_n C dX10_readImage_381 0 rfl ?_
    obtain ⟨x3, e_x3, h⟩ := nm h
    refine g_callVI C (kX10_good s_a0 e_x3.symm) miX10_good lmX10_86 s_a0 (by decide) rfl rfl rfl (Nat.le_of_ble_eq_true rfl) dX10_readImage_382 ⟨by decide, by decide⟩ ⟨Nat.zero_le _, Nat.zero_le _⟩ ?_
    refine g_if_eq C 406 dX10_readImage_385 rfl (fun q => ?_) (fun q => ?_)
    · replace h := ip q h
      exact g_lv [0, 1] rfl (wX10_readImage_L406 C _ _ _ s_a0 h)
    · replace h := iq q h
      refine g_aload_n C dX10_readImage_388 0 rfl ?_
      refine g_iload C dX10_readImage_389 3 rfl ?_
      refine g_iload_n C dX10_readImage_391 1 rfl ?_
      obtain ⟨q4, e_q4, h⟩ := bs h
      refine g_callVI C (kX10_codes s_a0 e_q4) miX10_codes lmX10_170 s_a0 (by decide) rfl rfl rfl (Nat.le_of_ble_eq_true rfl) dX10_readImage_392 ⟨by decide, by decide⟩ ⟨Nat.zero_le _, Nat.zero_le _⟩ ?_
      refine g_if_ne C 406 dX10_readImage_395 rfl (fun q => ?_) (fun q => ?_)
      · replace h := iq q h
        exact g_lv [0, 1] rfl (wX10_readImage_L406 C _ _ _ s_a0 h)
      · replace h := ip q h
        refine g_aload_n C dX10_readImage_398 0 rfl ?_
        refine g_bipush (v := 9) C dX10_readImage_399 (by decide) ?_
        refine g_iload C dX10_readImage_401 2 rfl ?_
        obtain ⟨μ5, e_μ5, h⟩ := nm h
        refine g_callVV C (kX10_wrong s_a0 e_μ5.symm) miX10_wrong lmX10_96 s_a0 (by decide) rfl rfl rfl (Nat.le_of_ble_eq_true rfl) dX10_readImage_403 ⟨by decide, by decide⟩ ⟨Nat.zero_le _, Nat.zero_le _⟩ ?_
        exact g_lv [0, 1] rfl (wX10_readImage_L406 C _ _ _ s_a0 h)
  · replace h := ip q h
    cases h
    exact g_return C dX10_readImage_376
set_option maxRecDepth 100000 in
set_option maxHeartbeats 4000000 in
theorem wX10_readImage_L361 {p : Program} {l : Launch} {e : Env} {s : State} {m : MethodId} {args : Array Value} {below : List Frame} {meth : Method} {c : Code} {D : va_G} {cA : Nat → ClassId} {tS : Nat → Nat} {σ : Sg} {fu : Nat} {q : Mm} (C : Cx p s m args meth c (dm σ) D cA tS σ cX10_readImage none 12 RX10) (a0 : Nat) (v2 : Int32) (v10 : Int32) (v11 : Int32) (μ : Mm) (s_a0 : σ a0 = some (10, 0)) (h : fX10_readImage_L361 fu a0 v2 v10 v11 μ = some q) : GG p l e (rmO 4 106) s m args below meth c 0 0 (dm σ) D cA σ 12 (MQ below (QV D cA σ q) args s 0 0 (dm σ)) 361 [(0, .ref a0), (2, .int v2), (10, .int v10), (11, .int v11)] [] μ := by
  unfold fX10_readImage_L361 at h
  refine g_aload_n C dX10_readImage_361 0 rfl ?_
  refine g_bipush (v := 8) C dX10_readImage_362 (by decide) ?_
  refine g_iload C dX10_readImage_364 2 rfl ?_
  obtain ⟨μ1, e_μ1, h⟩ := nm h
  refine g_callVV C (kX10_wrong s_a0 e_μ1.symm) miX10_wrong lmX10_96 s_a0 (by decide) rfl rfl rfl (Nat.le_of_ble_eq_true rfl) dX10_readImage_366 ⟨by decide, by decide⟩ ⟨Nat.zero_le _, Nat.zero_le _⟩ ?_
  exact g_lv [0, 1, 2, 3] rfl (wX10_readImage_L369 C _ _ _ _ _ s_a0 h)
set_option maxRecDepth 100000 in
set_option maxHeartbeats 4000000 in
theorem wX10_readImage_L169 {p : Program} {l : Launch} {e : Env} {s : State} {m : MethodId} {args : Array Value} {below : List Frame} {meth : Method} {c : Code} {D : va_G} {cA : Nat → ClassId} {tS : Nat → Nat} {σ : Sg} {fu : Nat} {q : Mm} (C : Cx p s m args meth c (dm σ) D cA tS σ cX10_readImage none 12 RX10) (a0 : Nat) (v2 : Int32) (v3 : Int32) (v4 : Int32) (v5 : Int32) (v6 : Int32) (v8 : Int32) (v9 : Int32) (μ : Mm) (s_a0 : σ a0 = some (10, 0)) (h : fX10_readImage_L169 fu a0 v2 v3 v4 v5 v6 v8 v9 μ = some q) : GG p l e (rmO 4 106) s m args below meth c 0 0 (dm σ) D cA σ 12 (MQ below (QV D cA σ q) args s 0 0 (dm σ)) 169 [(0, .ref a0), (2, .int v2), (3, .int v3), (4, .int v4), (5, .int v5), (6, .int v6), (8, .int v8), (9, .int v9)] [] μ := by
  unfold fX10_readImage_L169 at h
  refine g_aload_n C dX10_readImage_169 0 rfl ?_
  obtain ⟨x1, e_x1, h⟩ := nm h
  refine g_callVI C (kX10_good s_a0 e_x1.symm) miX10_good lmX10_86 s_a0 (by decide) rfl rfl rfl (Nat.le_of_ble_eq_true rfl) dX10_readImage_170 ⟨by decide, by decide⟩ ⟨Nat.zero_le _, Nat.zero_le _⟩ ?_
  refine g_if_ne C 177 dX10_readImage_173 rfl (fun q => ?_) (fun q => ?_)
  · replace h := iq q h
    refine g_aload_n C dX10_readImage_177 0 rfl ?_
    refine g_aload_n C dX10_readImage_178 0 rfl ?_
    refine g_wt (fun hT_μ => ?_)
    refine g_getr (j := 10) C s_a0 (by decide) rfl uwX10 (by decide) rfl lfX10_33 rfl dX10_readImage_179 ?_
    refine g_aload_n C dX10_readImage_182 0 rfl ?_
    refine g_geti (j := 14) C s_a0 (by decide) rfl uwX10 (by decide) rfl lfX10_103 rfl dX10_readImage_183 ?_
    refine g_iload_n C dX10_readImage_186 1 rfl ?_
    refine g_iconst (v := 0) C dX10_readImage_187 (by decide) ?_
    obtain ⟨x2, e_x2, h⟩ := nm h
    refine g_callSI C (kX10_localAt e_x2.symm) msX10_localAt lmX10_160 rfl rfl (Nat.le_of_ble_eq_true rfl) dX10_readImage_188 ⟨by decide, by decide⟩ ⟨Nat.zero_le _, Nat.zero_le _⟩ ?_
    refine g_iload C dX10_readImage_191 7 rfl ?_
    obtain ⟨μ3, e_μ3, h⟩ := bs h
    refine g_callVV C (kX10_readTable s_a0 (hT_μ.1 _ _ 10 _ s_a0 rfl) e_μ3) miX10_readTable lmX10_122 s_a0 (by decide) rfl rfl rfl (Nat.le_of_ble_eq_true rfl) dX10_readImage_193 ⟨by decide, by decide⟩ ⟨Nat.zero_le _, Nat.zero_le _⟩ ?_
    refine g_aload_n C dX10_readImage_196 0 rfl ?_
    refine g_aload_n C dX10_readImage_197 0 rfl ?_
    refine g_geti (j := 14) C s_a0 (by decide) rfl uwX10 (by decide) rfl lfX10_103 rfl dX10_readImage_198 ?_
    refine g_iload_n C dX10_readImage_201 1 rfl ?_
    refine g_iconst (v := 0) C dX10_readImage_202 (by decide) ?_
    refine g_iload_n C dX10_readImage_203 2 rfl ?_
    obtain ⟨μ4, e_μ4, h⟩ := bs h
    refine g_callVV C (kX10_setField s_a0 e_μ4) miX10_setField lmX10_163 s_a0 (by decide) rfl rfl rfl (Nat.le_of_ble_eq_true rfl) dX10_readImage_204 ⟨by decide, by decide⟩ ⟨Nat.zero_le _, Nat.zero_le _⟩ ?_
    refine g_aload_n C dX10_readImage_207 0 rfl ?_
    refine g_aload_n C dX10_readImage_208 0 rfl ?_
    refine g_geti (j := 14) C s_a0 (by decide) rfl uwX10 (by decide) rfl lfX10_103 rfl dX10_readImage_209 ?_
    refine g_iload_n C dX10_readImage_212 1 rfl ?_
    refine g_iconst (v := 1) C dX10_readImage_213 (by decide) ?_
    refine g_iload C dX10_readImage_214 3 rfl ?_
    obtain ⟨μ5, e_μ5, h⟩ := bs h
    refine g_callVV C (kX10_setField s_a0 e_μ5) miX10_setField lmX10_163 s_a0 (by decide) rfl rfl rfl (Nat.le_of_ble_eq_true rfl) dX10_readImage_216 ⟨by decide, by decide⟩ ⟨Nat.zero_le _, Nat.zero_le _⟩ ?_
    refine g_aload_n C dX10_readImage_219 0 rfl ?_
    refine g_aload_n C dX10_readImage_220 0 rfl ?_
    refine g_geti (j := 14) C s_a0 (by decide) rfl uwX10 (by decide) rfl lfX10_103 rfl dX10_readImage_221 ?_
    refine g_iload_n C dX10_readImage_224 1 rfl ?_
    refine g_iconst (v := 2) C dX10_readImage_225 (by decide) ?_
    refine g_iload C dX10_readImage_226 4 rfl ?_
    obtain ⟨μ6, e_μ6, h⟩ := bs h
    refine g_callVV C (kX10_setField s_a0 e_μ6) miX10_setField lmX10_163 s_a0 (by decide) rfl rfl rfl (Nat.le_of_ble_eq_true rfl) dX10_readImage_228 ⟨by decide, by decide⟩ ⟨Nat.zero_le _, Nat.zero_le _⟩ ?_
    refine g_aload_n C dX10_readImage_231 0 rfl ?_
    refine g_aload_n C dX10_readImage_232 0 rfl ?_
    refine g_geti (j := 14) C s_a0 (by decide) rfl uwX10 (by decide) rfl lfX10_103 rfl dX10_readImage_233 ?_
    refine g_iload_n C dX10_readImage_236 1 rfl ?_
    refine g_iconst (v := 3) C dX10_readImage_237 (by decide) ?_
    refine g_iload C dX10_readImage_238 5 rfl ?_
    obtain ⟨μ7, e_μ7, h⟩ := bs h
    refine g_callVV C (kX10_setField s_a0 e_μ7) miX10_setField lmX10_163 s_a0 (by decide) rfl rfl rfl (Nat.le_of_ble_eq_true rfl) dX10_readImage_240 ⟨by decide, by decide⟩ ⟨Nat.zero_le _, Nat.zero_le _⟩ ?_
    refine g_aload_n C dX10_readImage_243 0 rfl ?_
    refine g_aload_n C dX10_readImage_244 0 rfl ?_
    refine g_geti (j := 14) C s_a0 (by decide) rfl uwX10 (by decide) rfl lfX10_103 rfl dX10_readImage_245 ?_
    refine g_iload_n C dX10_readImage_248 1 rfl ?_
    refine g_iconst (v := 4) C dX10_readImage_249 (by decide) ?_
    refine g_iload C dX10_readImage_250 7 rfl ?_
    obtain ⟨μ8, e_μ8, h⟩ := bs h
    refine g_callVV C (kX10_setField s_a0 e_μ8) miX10_setField lmX10_163 s_a0 (by decide) rfl rfl rfl (Nat.le_of_ble_eq_true rfl) dX10_readImage_252 ⟨by decide, by decide⟩ ⟨Nat.zero_le _, Nat.zero_le _⟩ ?_
    refine g_aload_n C dX10_readImage_255 0 rfl ?_
    refine g_aload_n C dX10_readImage_256 0 rfl ?_
    refine g_geti (j := 14) C s_a0 (by decide) rfl uwX10 (by decide) rfl lfX10_103 rfl dX10_readImage_257 ?_
    refine g_iload_n C dX10_readImage_260 1 rfl ?_
    refine g_iconst (v := 5) C dX10_readImage_261 (by decide) ?_
    refine g_iload C dX10_readImage_262 6 rfl ?_
    refine g_bipush (v := 6) C dX10_readImage_264 (by decide) ?_
    refine g_ishr C dX10_readImage_266 ?_
    refine g_iconst (v := 1) C dX10_readImage_267 (by decide) ?_
    refine g_iand C dX10_readImage_268 ?_
    obtain ⟨μ9, e_μ9, h⟩ := bs h
    refine g_callVV C (kX10_setField s_a0 e_μ9) miX10_setField lmX10_163 s_a0 (by decide) rfl rfl rfl (Nat.le_of_ble_eq_true rfl) dX10_readImage_269 ⟨by decide, by decide⟩ ⟨Nat.zero_le _, Nat.zero_le _⟩ ?_
    refine g_aload_n C dX10_readImage_272 0 rfl ?_
    refine g_aload_n C dX10_readImage_273 0 rfl ?_
    refine g_geti (j := 14) C s_a0 (by decide) rfl uwX10 (by decide) rfl lfX10_103 rfl dX10_readImage_274 ?_
    refine g_iload_n C dX10_readImage_277 1 rfl ?_
    refine g_bipush (v := 6) C dX10_readImage_278 (by decide) ?_
    refine g_aload_n C dX10_readImage_280 0 rfl ?_
    refine g_geti (j := 17) C s_a0 (by decide) rfl uwX10 (by decide) rfl lfX10_129 rfl dX10_readImage_281 ?_
    obtain ⟨μ10, e_μ10, h⟩ := bs h
    refine g_callVV C (kX10_setField s_a0 e_μ10) miX10_setField lmX10_163 s_a0 (by decide) rfl rfl rfl (Nat.le_of_ble_eq_true rfl) dX10_readImage_284 ⟨by decide, by decide⟩ ⟨Nat.zero_le _, Nat.zero_le _⟩ ?_
    refine g_aload_n C dX10_readImage_287 0 rfl ?_
    refine g_aload_n C dX10_readImage_288 0 rfl ?_
    refine g_geti (j := 14) C s_a0 (by decide) rfl uwX10 (by decide) rfl lfX10_103 rfl dX10_readImage_289 ?_
    refine g_iload_n C dX10_readImage_292 1 rfl ?_
    refine g_bipush (v := 7) C dX10_readImage_293 (by decide) ?_
    refine g_aload_n C dX10_readImage_295 0 rfl ?_
    refine g_geti (j := 18) C s_a0 (by decide) rfl uwX10 (by decide) rfl lfX10_132 rfl dX10_readImage_296 ?_
    obtain ⟨μ11, e_μ11, h⟩ := bs h
    refine g_callVV C (kX10_setField s_a0 e_μ11) miX10_setField lmX10_163 s_a0 (by decide) rfl rfl rfl (Nat.le_of_ble_eq_true rfl) dX10_readImage_299 ⟨by decide, by decide⟩ ⟨Nat.zero_le _, Nat.zero_le _⟩ ?_
    refine g_aload_n C dX10_readImage_302 0 rfl ?_
    refine g_aload_n C dX10_readImage_303 0 rfl ?_
    refine g_geti (j := 14) C s_a0 (by decide) rfl uwX10 (by decide) rfl lfX10_103 rfl dX10_readImage_304 ?_
    refine g_iload_n C dX10_readImage_307 1 rfl ?_
    refine g_bipush (v := 8) C dX10_readImage_308 (by decide) ?_
    refine g_aload_n C dX10_readImage_310 0 rfl ?_
    refine g_geti (j := 19) C s_a0 (by decide) rfl uwX10 (by decide) rfl lfX10_135 rfl dX10_readImage_311 ?_
    obtain ⟨μ12, e_μ12, h⟩ := bs h
    refine g_callVV C (kX10_setField s_a0 e_μ12) miX10_setField lmX10_163 s_a0 (by decide) rfl rfl rfl (Nat.le_of_ble_eq_true rfl) dX10_readImage_314 ⟨by decide, by decide⟩ ⟨Nat.zero_le _, Nat.zero_le _⟩ ?_
    refine g_aload_n C dX10_readImage_317 0 rfl ?_
    refine g_aload_n C dX10_readImage_318 0 rfl ?_
    refine g_geti (j := 14) C s_a0 (by decide) rfl uwX10 (by decide) rfl lfX10_103 rfl dX10_readImage_319 ?_
    refine g_iload_n C dX10_readImage_322 1 rfl ?_
    refine g_bipush (v := 9) C dX10_readImage_323 (by decide) ?_
    refine g_aload_n C dX10_readImage_325 0 rfl ?_
    refine g_geti (j := 20) C s_a0 (by decide) rfl uwX10 (by decide) rfl lfX10_138 rfl dX10_readImage_326 ?_
    obtain ⟨μ13, e_μ13, h⟩ := bs h
    refine g_callVV C (kX10_setField s_a0 e_μ13) miX10_setField lmX10_163 s_a0 (by decide) rfl rfl rfl (Nat.le_of_ble_eq_true rfl) dX10_readImage_329 ⟨by decide, by decide⟩ ⟨Nat.zero_le _, Nat.zero_le _⟩ ?_
    refine g_aload_n C dX10_readImage_332 0 rfl ?_
    obtain ⟨μ14, e_μ14, h⟩ := nm h
    refine g_callVV C (kX10_forget s_a0 e_μ14.symm) miX10_forget lmX10_141 s_a0 (by decide) rfl rfl rfl (Nat.le_of_ble_eq_true rfl) dX10_readImage_333 ⟨by decide, by decide⟩ ⟨Nat.zero_le _, Nat.zero_le _⟩ ?_
    refine g_aload_n C dX10_readImage_336 0 rfl ?_
    refine g_geti (j := 12) C s_a0 (by decide) rfl uwX10 (by decide) rfl lfX10_90 rfl dX10_readImage_337 ?_
    obtain ⟨x15, e_x15, h⟩ := nm h
    refine g_topi e_x15 ?_
    refine g_istore (lv' := [(10, .int x15), (0, .ref a0), (2, .int v2), (3, .int v3), (4, .int v4), (5, .int v5), (6, .int v6), (8, .int v8), (9, .int v9)]) C dX10_readImage_340 (by decide) rfl ?_
    refine g_aload_n C dX10_readImage_342 1 rfl ?_
    obtain ⟨q16, e_q16, h⟩ := bs h
    refine g_callVI C (kX10_one s_a0 e_q16) miX10_one lmX10_100 s_a0 (by decide) rfl rfl rfl (Nat.le_of_ble_eq_true rfl) dX10_readImage_343 ⟨by decide, by decide⟩ ⟨Nat.zero_le _, Nat.zero_le _⟩ ?_
    obtain ⟨x17, e_x17, h⟩ := nm h
    refine g_topi e_x17 ?_
    refine g_istore (lv' := [(11, .int x17), (10, .int x15), (0, .ref a0), (2, .int v2), (3, .int v3), (4, .int v4), (5, .int v5), (6, .int v6), (8, .int v8), (9, .int v9)]) C dX10_readImage_346 (by decide) rfl ?_
    refine g_iload C dX10_readImage_348 0 rfl ?_
    refine g_iconst (v := 2) C dX10_readImage_350 (by decide) ?_
    refine g_icmp_lt C 361 dX10_readImage_351 rfl (fun q => ?_) (fun q => ?_)
    · replace h := ip q h
      exact g_lv [2, 3, 1, 0] rfl (wX10_readImage_L361 C _ _ _ _ _ s_a0 h)
    · replace h := iq q h
      refine g_iload C dX10_readImage_354 0 rfl ?_
      refine g_bipush (v := 8) C dX10_readImage_356 (by decide) ?_
      refine g_icmp_le C 369 dX10_readImage_358 rfl (fun q => ?_) (fun q => ?_)
      · replace h := ip q h
        exact g_lv [2, 3, 1, 0] rfl (wX10_readImage_L369 C _ _ _ _ _ s_a0 h)
      · replace h := iq q h
        exact g_lv [2, 3, 1, 0] rfl (wX10_readImage_L361 C _ _ _ _ _ s_a0 h)
  · replace h := ip q h
    cases h
    exact g_return C dX10_readImage_176
set_option maxRecDepth 100000 in
set_option maxHeartbeats 4000000 in
theorem wX10_readImage_L138 {p : Program} {l : Launch} {e : Env} {s : State} {m : MethodId} {args : Array Value} {below : List Frame} {meth : Method} {c : Code} {D : va_G} {cA : Nat → ClassId} {tS : Nat → Nat} {σ : Sg} {fu : Nat} {q : Mm} (C : Cx p s m args meth c (dm σ) D cA tS σ cX10_readImage none 12 RX10) (a0 : Nat) (v1 : Int32) (v2 : Int32) (v3 : Int32) (v4 : Int32) (v5 : Int32) (v6 : Int32) (v8 : Int32) (t0 : Int32) (μ : Mm) (s_a0 : σ a0 = some (10, 0)) (h : fX10_readImage_L138 fu a0 v1 v2 v3 v4 v5 v6 v8 t0 μ = some q) : GG p l e (rmO 4 106) s m args below meth c 0 0 (dm σ) D cA σ 12 (MQ below (QV D cA σ q) args s 0 0 (dm σ)) 138 [(0, .ref a0), (1, .int v1), (2, .int v2), (3, .int v3), (4, .int v4), (5, .int v5), (6, .int v6), (8, .int v8)] [.int t0] μ := by
  unfold fX10_readImage_L138 at h
  refine g_istore (lv' := [(9, .int t0), (0, .ref a0), (1, .int v1), (2, .int v2), (3, .int v3), (4, .int v4), (5, .int v5), (6, .int v6), (8, .int v8)]) C dX10_readImage_138 (by decide) rfl ?_
  refine g_iload C dX10_readImage_140 0 rfl ?_
  refine g_if_ne C 169 dX10_readImage_142 rfl (fun q => ?_) (fun q => ?_)
  · replace h := iq q h
    exact g_lv [1, 3, 4, 5, 6, 7, 8, 0] rfl (wX10_readImage_L169 C _ _ _ _ _ _ _ _ _ s_a0 h)
  · replace h := ip q h
    refine g_aload_n C dX10_readImage_145 1 rfl ?_
    refine g_wt (fun hT_μ => ?_)
    refine g_getr (j := 7) C s_a0 (by decide) rfl uwX10 (by decide) rfl lfX10_23 rfl dX10_readImage_146 ?_
    refine g_bipush (v := 6) C dX10_readImage_149 (by decide) ?_
    refine g_aload_n C dX10_readImage_151 1 rfl ?_
    refine g_geti (j := 14) C s_a0 (by decide) rfl uwX10 (by decide) rfl lfX10_103 rfl dX10_readImage_152 ?_
    refine g_imul C dX10_readImage_155 ?_
    refine g_iconst (v := 2) C dX10_readImage_156 (by decide) ?_
    refine g_iadd C dX10_readImage_157 ?_
    obtain ⟨hg1, h⟩ := gs h
    refine g_iald C (hT_μ.1 _ _ 7 _ s_a0 rfl) (ib_in hg1) dX10_readImage_158 ?_
    refine g_if_ne C 169 dX10_readImage_159 rfl (fun q => ?_) (fun q => ?_)
    · replace h := iq q h
      exact g_lv [1, 3, 4, 5, 6, 7, 8, 0] rfl (wX10_readImage_L169 C _ _ _ _ _ _ _ _ _ s_a0 h)
    · replace h := ip q h
      refine g_aload_n C dX10_readImage_162 1 rfl ?_
      refine g_bipush (v := 7) C dX10_readImage_163 (by decide) ?_
      refine g_iload_n C dX10_readImage_165 2 rfl ?_
      obtain ⟨μ2, e_μ2, h⟩ := nm h
      refine g_callVV C (kX10_wrong s_a0 e_μ2.symm) miX10_wrong lmX10_96 s_a0 (by decide) rfl rfl rfl (Nat.le_of_ble_eq_true rfl) dX10_readImage_166 ⟨by decide, by decide⟩ ⟨Nat.zero_le _, Nat.zero_le _⟩ ?_
      exact g_lv [1, 3, 4, 5, 6, 7, 8, 0] rfl (wX10_readImage_L169 C _ _ _ _ _ _ _ _ _ s_a0 h)
set_option maxRecDepth 100000 in
set_option maxHeartbeats 4000000 in
theorem wX10_readImage_L114 {p : Program} {l : Launch} {e : Env} {s : State} {m : MethodId} {args : Array Value} {below : List Frame} {meth : Method} {c : Code} {D : va_G} {cA : Nat → ClassId} {tS : Nat → Nat} {σ : Sg} {fu : Nat} {q : Mm} (C : Cx p s m args meth c (dm σ) D cA tS σ cX10_readImage none 12 RX10) (a0 : Nat) (v1 : Int32) (v2 : Int32) (v3 : Int32) (v4 : Int32) (v5 : Int32) (v6 : Int32) (μ : Mm) (s_a0 : σ a0 = some (10, 0)) (h : fX10_readImage_L114 fu a0 v1 v2 v3 v4 v5 v6 μ = some q) : GG p l e (rmO 4 106) s m args below meth c 0 0 (dm σ) D cA σ 12 (MQ below (QV D cA σ q) args s 0 0 (dm σ)) 114 [(0, .ref a0), (1, .int v1), (2, .int v2), (3, .int v3), (4, .int v4), (5, .int v5), (6, .int v6)] [] μ := by
  unfold fX10_readImage_L114 at h
  refine g_aload_n C dX10_readImage_114 0 rfl ?_
  obtain ⟨q1, e_q1, h⟩ := bs h
  refine g_callVI C (kX10_one s_a0 e_q1) miX10_one lmX10_100 s_a0 (by decide) rfl rfl rfl (Nat.le_of_ble_eq_true rfl) dX10_readImage_115 ⟨by decide, by decide⟩ ⟨Nat.zero_le _, Nat.zero_le _⟩ ?_
  obtain ⟨x2, e_x2, h⟩ := nm h
  refine g_topi e_x2 ?_
  refine g_istore (lv' := [(8, .int x2), (0, .ref a0), (1, .int v1), (2, .int v2), (3, .int v3), (4, .int v4), (5, .int v5), (6, .int v6)]) C dX10_readImage_118 (by decide) rfl ?_
  refine g_iload C dX10_readImage_120 0 rfl ?_
  refine g_bipush (v := 127) C dX10_readImage_122 (by decide) ?_
  refine g_icmp_le C 137 dX10_readImage_124 rfl (fun q => ?_) (fun q => ?_)
  · replace h := ip q h
    refine g_iconst (v := 0) C dX10_readImage_137 (by decide) ?_
    exact g_lv [1, 2, 3, 4, 5, 6, 7, 0] rfl (wX10_readImage_L138 C _ _ _ _ _ _ _ _ _ _ s_a0 h)
  · replace h := iq q h
    refine g_iconst (v := 2) C dX10_readImage_127 (by decide) ?_
    refine g_iload C dX10_readImage_128 0 rfl ?_
    refine g_bipush (v := 7) C dX10_readImage_130 (by decide) ?_
    refine g_iand C dX10_readImage_132 ?_
    refine g_ishl C dX10_readImage_133 ?_
    refine g_goto C 138 dX10_readImage_134 rfl ?_
    exact g_lv [1, 2, 3, 4, 5, 6, 7, 0] rfl (wX10_readImage_L138 C _ _ _ _ _ _ _ _ _ _ s_a0 h)
set_option maxRecDepth 100000 in
set_option maxHeartbeats 4000000 in
theorem wX10_readImage_L100 {p : Program} {l : Launch} {e : Env} {s : State} {m : MethodId} {args : Array Value} {below : List Frame} {meth : Method} {c : Code} {D : va_G} {cA : Nat → ClassId} {tS : Nat → Nat} {σ : Sg} {fu : Nat} {q : Mm} (C : Cx p s m args meth c (dm σ) D cA tS σ cX10_readImage none 12 RX10) (a0 : Nat) (v1 : Int32) (v2 : Int32) (v3 : Int32) (v4 : Int32) (v5 : Int32) (v6 : Int32) (t0 : Int32) (μ : Mm) (s_a0 : σ a0 = some (10, 0)) (h : fX10_readImage_L100 fu a0 v1 v2 v3 v4 v5 v6 t0 μ = some q) : GG p l e (rmO 4 106) s m args below meth c 0 0 (dm σ) D cA σ 12 (MQ below (QV D cA σ q) args s 0 0 (dm σ)) 100 [(0, .ref a0), (1, .int v1), (2, .int v2), (3, .int v3), (4, .int v4), (5, .int v5), (6, .int v6)] [.int t0] μ := by
  unfold fX10_readImage_L100 at h
  refine g_istore (lv' := [(7, .int t0), (0, .ref a0), (1, .int v1), (2, .int v2), (3, .int v3), (4, .int v4), (5, .int v5), (6, .int v6)]) C dX10_readImage_100 (by decide) rfl ?_
  refine g_iload C dX10_readImage_102 0 rfl ?_
  refine g_if_ne C 114 dX10_readImage_104 rfl (fun q => ?_) (fun q => ?_)
  · replace h := iq q h
    exact g_lv [1, 2, 3, 4, 5, 6, 7] rfl (wX10_readImage_L114 C _ _ _ _ _ _ _ _ s_a0 h)
  · replace h := ip q h
    refine g_aload_n C dX10_readImage_107 1 rfl ?_
    refine g_bipush (v := 6) C dX10_readImage_108 (by decide) ?_
    refine g_iload_n C dX10_readImage_110 2 rfl ?_
    obtain ⟨μ1, e_μ1, h⟩ := nm h
    refine g_callVV C (kX10_wrong s_a0 e_μ1.symm) miX10_wrong lmX10_96 s_a0 (by decide) rfl rfl rfl (Nat.le_of_ble_eq_true rfl) dX10_readImage_111 ⟨by decide, by decide⟩ ⟨Nat.zero_le _, Nat.zero_le _⟩ ?_
    exact g_lv [1, 2, 3, 4, 5, 6, 7] rfl (wX10_readImage_L114 C _ _ _ _ _ _ _ _ s_a0 h)
set_option maxRecDepth 100000 in
set_option maxHeartbeats 4000000 in
theorem wX10_readImage_L99 {p : Program} {l : Launch} {e : Env} {s : State} {m : MethodId} {args : Array Value} {below : List Frame} {meth : Method} {c : Code} {D : va_G} {cA : Nat → ClassId} {tS : Nat → Nat} {σ : Sg} {fu : Nat} {q : Mm} (C : Cx p s m args meth c (dm σ) D cA tS σ cX10_readImage none 12 RX10) (a0 : Nat) (v1 : Int32) (v2 : Int32) (v3 : Int32) (v4 : Int32) (v5 : Int32) (v6 : Int32) (μ : Mm) (s_a0 : σ a0 = some (10, 0)) (h : fX10_readImage_L99 fu a0 v1 v2 v3 v4 v5 v6 μ = some q) : GG p l e (rmO 4 106) s m args below meth c 0 0 (dm σ) D cA σ 12 (MQ below (QV D cA σ q) args s 0 0 (dm σ)) 99 [(0, .ref a0), (1, .int v1), (2, .int v2), (3, .int v3), (4, .int v4), (5, .int v5), (6, .int v6)] [] μ := by
  unfold fX10_readImage_L99 at h
  refine g_iconst (v := 0) C dX10_readImage_99 (by decide) ?_
  exact g_lv [0, 1, 2, 3, 4, 5, 6] rfl (wX10_readImage_L100 C _ _ _ _ _ _ _ _ _ s_a0 h)
set_option maxRecDepth 100000 in
set_option maxHeartbeats 4000000 in
theorem wX10_readImage {p : Program} {l : Launch} {e : Env} {s : State} {m : MethodId} {args : Array Value} {below : List Frame} {meth : Method} {c : Code} {D : va_G} {cA : Nat → ClassId} {tS : Nat → Nat} {σ : Sg} {fu : Nat} {q : Mm} (C : Cx p s m args meth c (dm σ) D cA tS σ cX10_readImage none 12 RX10) (a0 : Nat) (v1 : Int32) (μ : Mm) (s_a0 : σ a0 = some (10, 0)) (h : fX10_readImage fu a0 v1 μ = some q) : GG p l e (rmO 4 106) s m args below meth c 0 0 (dm σ) D cA σ 12 (MQ below (QV D cA σ q) args s 0 0 (dm σ)) 0 [(0, .ref a0), (1, .int v1)] [] μ := by
  unfold fX10_readImage at h
  refine g_aload_n C dX10_readImage_0 0 rfl ?_
  refine g_wt (fun hT_μ => ?_)
  refine g_getr (j := 7) C s_a0 (by decide) rfl uwX10 (by decide) rfl lfX10_23 rfl dX10_readImage_1 ?_
  refine g_bipush (v := 6) C dX10_readImage_4 (by decide) ?_
  refine g_aload_n C dX10_readImage_6 0 rfl ?_
  refine g_geti (j := 14) C s_a0 (by decide) rfl uwX10 (by decide) rfl lfX10_103 rfl dX10_readImage_7 ?_
  refine g_imul C dX10_readImage_10 ?_
  refine g_iconst (v := 5) C dX10_readImage_11 (by decide) ?_
  refine g_iadd C dX10_readImage_12 ?_
  obtain ⟨hg1, h⟩ := gs h
  refine g_iald C (hT_μ.1 _ _ 7 _ s_a0 rfl) (ib_in hg1) dX10_readImage_13 ?_
  obtain ⟨x2, e_x2, h⟩ := nm h
  refine g_topi e_x2 ?_
  refine g_istore_n (lv' := [(2, .int x2), (0, .ref a0), (1, .int v1)]) C dX10_readImage_14 (by decide) rfl ?_
  refine g_aload_n C dX10_readImage_15 1 rfl ?_
  obtain ⟨q3, e_q3, h⟩ := bs h
  refine g_callVI C (kX10_two s_a0 e_q3) miX10_two lmX10_119 s_a0 (by decide) rfl rfl rfl (Nat.le_of_ble_eq_true rfl) dX10_readImage_16 ⟨by decide, by decide⟩ ⟨Nat.zero_le _, Nat.zero_le _⟩ ?_
  obtain ⟨x4, e_x4, h⟩ := nm h
  refine g_topi e_x4 ?_
  refine g_istore_n (lv' := [(3, .int x4), (2, .int x2), (0, .ref a0), (1, .int v1)]) C dX10_readImage_19 (by decide) rfl ?_
  refine g_aload_n C dX10_readImage_20 2 rfl ?_
  obtain ⟨q5, e_q5, h⟩ := bs h
  refine g_callVI C (kX10_two s_a0 e_q5) miX10_two lmX10_119 s_a0 (by decide) rfl rfl rfl (Nat.le_of_ble_eq_true rfl) dX10_readImage_21 ⟨by decide, by decide⟩ ⟨Nat.zero_le _, Nat.zero_le _⟩ ?_
  obtain ⟨x6, e_x6, h⟩ := nm h
  refine g_topi e_x6 ?_
  refine g_istore (lv' := [(4, .int x6), (3, .int x4), (2, .int x2), (0, .ref a0), (1, .int v1)]) C dX10_readImage_24 (by decide) rfl ?_
  refine g_aload_n C dX10_readImage_26 3 rfl ?_
  obtain ⟨q7, e_q7, h⟩ := bs h
  refine g_callVI C (kX10_two s_a0 e_q7) miX10_two lmX10_119 s_a0 (by decide) rfl rfl rfl (Nat.le_of_ble_eq_true rfl) dX10_readImage_27 ⟨by decide, by decide⟩ ⟨Nat.zero_le _, Nat.zero_le _⟩ ?_
  obtain ⟨x8, e_x8, h⟩ := nm h
  refine g_topi e_x8 ?_
  refine g_istore (lv' := [(5, .int x8), (4, .int x6), (3, .int x4), (2, .int x2), (0, .ref a0), (1, .int v1)]) C dX10_readImage_30 (by decide) rfl ?_
  refine g_aload_n C dX10_readImage_32 4 rfl ?_
  obtain ⟨q9, e_q9, h⟩ := bs h
  refine g_callVI C (kX10_two s_a0 e_q9) miX10_two lmX10_119 s_a0 (by decide) rfl rfl rfl (Nat.le_of_ble_eq_true rfl) dX10_readImage_33 ⟨by decide, by decide⟩ ⟨Nat.zero_le _, Nat.zero_le _⟩ ?_
  obtain ⟨x10, e_x10, h⟩ := nm h
  refine g_topi e_x10 ?_
  refine g_istore (lv' := [(6, .int x10), (5, .int x8), (4, .int x6), (3, .int x4), (2, .int x2), (0, .ref a0), (1, .int v1)]) C dX10_readImage_36 (by decide) rfl ?_
  refine g_iload_n C dX10_readImage_38 4 rfl ?_
  refine g_bipush (v := 24) C dX10_readImage_39 (by decide) ?_
  refine g_icmp_ge C 99 dX10_readImage_41 rfl (fun q => ?_) (fun q => ?_)
  · replace h := ip q h
    exact g_lv [5, 6, 4, 3, 2, 1, 0] rfl (wX10_readImage_L99 C _ _ _ _ _ _ _ _ s_a0 h)
  · replace h := iq q h
    refine g_iload C dX10_readImage_44 1 rfl ?_
    refine g_if_le C 99 dX10_readImage_46 rfl (fun q => ?_) (fun q => ?_)
    · replace h := ip q h
      exact g_lv [5, 6, 4, 3, 2, 1, 0] rfl (wX10_readImage_L99 C _ _ _ _ _ _ _ _ s_a0 h)
    · replace h := iq q h
      refine g_iload C dX10_readImage_49 0 rfl ?_
      refine g_if_le C 99 dX10_readImage_51 rfl (fun q => ?_) (fun q => ?_)
      · replace h := ip q h
        exact g_lv [5, 6, 4, 3, 2, 1, 0] rfl (wX10_readImage_L99 C _ _ _ _ _ _ _ _ s_a0 h)
      · replace h := iq q h
        refine g_iload_n C dX10_readImage_54 3 rfl ?_
        refine g_iload C dX10_readImage_55 1 rfl ?_
        refine g_iadd C dX10_readImage_57 ?_
        refine g_aload_n C dX10_readImage_58 5 rfl ?_
        refine g_wt (fun hT_q9_2 => ?_)
        refine g_getr (j := 7) C s_a0 (by decide) rfl uwX10 (by decide) rfl lfX10_23 rfl dX10_readImage_59 ?_
        refine g_bipush (v := 6) C dX10_readImage_62 (by decide) ?_
        refine g_aload_n C dX10_readImage_64 5 rfl ?_
        refine g_geti (j := 14) C s_a0 (by decide) rfl uwX10 (by decide) rfl lfX10_103 rfl dX10_readImage_65 ?_
        refine g_imul C dX10_readImage_68 ?_
        obtain ⟨hg11, h⟩ := gs h
        refine g_iald C (hT_q9_2.1 _ _ 7 _ s_a0 rfl) (ib_in hg11) dX10_readImage_69 ?_
        refine g_icmp_gt C 99 dX10_readImage_70 rfl (fun q => ?_) (fun q => ?_)
        · replace h := ip q h
          exact g_lv [5, 6, 4, 3, 2, 1, 0] rfl (wX10_readImage_L99 C _ _ _ _ _ _ _ _ s_a0 h)
        · replace h := iq q h
          refine g_iload C dX10_readImage_73 2 rfl ?_
          refine g_iload C dX10_readImage_75 0 rfl ?_
          refine g_iadd C dX10_readImage_77 ?_
          refine g_aload_n C dX10_readImage_78 5 rfl ?_
          refine g_getr (j := 7) C s_a0 (by decide) rfl uwX10 (by decide) rfl lfX10_23 rfl dX10_readImage_79 ?_
          refine g_bipush (v := 6) C dX10_readImage_82 (by decide) ?_
          refine g_aload_n C dX10_readImage_84 5 rfl ?_
          refine g_geti (j := 14) C s_a0 (by decide) rfl uwX10 (by decide) rfl lfX10_103 rfl dX10_readImage_85 ?_
          refine g_imul C dX10_readImage_88 ?_
          refine g_iconst (v := 1) C dX10_readImage_89 (by decide) ?_
          refine g_iadd C dX10_readImage_90 ?_
          obtain ⟨hg12, h⟩ := gs h
          refine g_iald C (hT_q9_2.1 _ _ 7 _ s_a0 rfl) (ib_in hg12) dX10_readImage_91 ?_
          refine g_icmp_gt C 99 dX10_readImage_92 rfl (fun q => ?_) (fun q => ?_)
          · replace h := ip q h
            exact g_lv [5, 6, 4, 3, 2, 1, 0] rfl (wX10_readImage_L99 C _ _ _ _ _ _ _ _ s_a0 h)
          · replace h := iq q h
            refine g_iconst (v := 1) C dX10_readImage_95 (by decide) ?_
            refine g_goto C 100 dX10_readImage_96 rfl ?_
            exact g_lv [5, 6, 4, 3, 2, 1, 0] rfl (wX10_readImage_L100 C _ _ _ _ _ _ _ _ _ s_a0 h)
theorem miX10_readImage : MI yX10_readImage cX10_readImage 12 none RX10 1 := ⟨wcX10_readImage, wmX10_readImage, wsX10_readImage, wiX10, by decide +kernel⟩
theorem kX10_readImage {l : Launch} {D : va_G} {cA : Nat → ClassId} {tS : Nat → Nat} {σ : Sg} {a0 : Nat} {v1 : Int32} {μ : Mm} {fu : Nat} {q : Mm} (s_a0 : σ a0 = some (10, 0)) (h : fX10_readImage fu a0 v1 μ = some q) : Ct l D cA tS σ yX10_readImage cX10_readImage 12 none (rmO 4 106) [.ref a0, .int v1] μ (QV D cA σ q) :=
  Ct.of (by decide) (Nat.le_of_ble_eq_true rfl) (fun _ _ _ _ _ _ _ _ C => wX10_readImage C _ _ _ s_a0 h)
