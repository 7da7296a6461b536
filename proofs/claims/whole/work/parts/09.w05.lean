set_option maxRecDepth 100000 in
set_option maxHeartbeats 4000000 in
theorem wX10_length {p : Program} {l : Launch} {e : Env} {s : State} {m : MethodId} {args : Array Value} {below : List Frame} {meth : Method} {c : Code} {D : va_G} {cA : Nat → ClassId} {tS : Nat → Nat} {σ : Sg} {q : Mm} (C : Cx p s m args meth c (dm σ) D cA tS σ cX10_length none 3 RX10) (a0 : Nat) (v1 : Int32) (μ : Mm) (s_a0 : σ a0 = some (10, 0)) (h : fX10_length a0 v1 μ = some q) : GG p l e (rmO 2 42) s m args below meth c 0 0 (dm σ) D cA σ 3 (MQ below (QV D cA σ q) args s 0 0 (dm σ)) 0 [(0, .ref a0), (1, .int v1)] [] μ := by
  unfold fX10_length at h
  refine g_aload_n C dX10_length_0 0 rfl ?_
  refine g_geti (j := 12) C s_a0 (by decide) rfl uwX10 (by decide) rfl lfX10_90 rfl dX10_length_1 ?_
  obtain ⟨x1, e_x1, h⟩ := nm h
  refine g_topi e_x1 ?_
  refine g_istore_n (lv' := [(2, .int x1), (0, .ref a0), (1, .int v1)]) C dX10_length_4 (by decide) rfl ?_
  refine g_aload_n C dX10_length_5 1 rfl ?_
  obtain ⟨q2, e_q2, h⟩ := bs h
  refine g_callVI C (kX10_one s_a0 e_q2) miX10_one lmX10_100 s_a0 (by decide) rfl rfl rfl (Nat.le_of_ble_eq_true rfl) dX10_length_6 ⟨by decide, by decide⟩ ⟨Nat.zero_le _, Nat.zero_le _⟩ ?_
  refine g_iload_n C dX10_length_9 2 rfl ?_
  refine g_icmp_eq C 19 dX10_length_10 rfl (fun q => ?_) (fun q => ?_)
  · replace h := ip q h
    cases h
    exact g_return C dX10_length_19
  · replace h := iq q h
    refine g_aload_n C dX10_length_13 1 rfl ?_
    refine g_iconst (v := 5) C dX10_length_14 (by decide) ?_
    refine g_iload_n C dX10_length_15 0 rfl ?_
    obtain ⟨μ3, e_μ3, h⟩ := nm h
    refine g_callVV C (kX10_wrong s_a0 e_μ3.symm) miX10_wrong lmX10_96 s_a0 (by decide) rfl rfl rfl (Nat.le_of_ble_eq_true rfl) dX10_length_16 ⟨by decide, by decide⟩ ⟨Nat.zero_le _, Nat.zero_le _⟩ ?_
    cases h
    exact g_return C dX10_length_19
theorem miX10_length : MI yX10_length cX10_length 3 none RX10 1 := ⟨wcX10_length, wmX10_length, wsX10_length, wiX10, by decide +kernel⟩
theorem kX10_length {l : Launch} {D : va_G} {cA : Nat → ClassId} {tS : Nat → Nat} {σ : Sg} {a0 : Nat} {v1 : Int32} {μ : Mm} {q : Mm} (s_a0 : σ a0 = some (10, 0)) (h : fX10_length a0 v1 μ = some q) : Ct l D cA tS σ yX10_length cX10_length 3 none (rmO 2 42) [.ref a0, .int v1] μ (QV D cA σ q) :=
  Ct.of (by decide) (Nat.le_of_ble_eq_true rfl) (fun _ _ _ _ _ _ _ _ C => wX10_length C _ _ _ s_a0 h)
set_option maxRecDepth 100000 in
set_option maxHeartbeats 4000000 in
theorem wX10_skip_B2 {p : Program} {l : Launch} {e : Env} {s : State} {m : MethodId} {args : Array Value} {below : List Frame} {meth : Method} {c : Code} {D : va_G} {cA : Nat → ClassId} {tS : Nat → Nat} {σ : Sg} {rec2 : Nat → Int32 → Int32 → Mm → Option (Mm)} {fu : Nat} {q : Mm} (C : Cx p s m args meth c (dm σ) D cA tS σ cX10_skip none 3 RX10) (hrec2 : ∀ (y0 : Nat) (y1 : Int32) (y2 : Int32) (μ : Mm), σ y0 = some (10, 0) → rec2 y0 y1 y2 μ = some q → GG p l e (rmO 2 42) s m args below meth c 0 0 (dm σ) D cA σ 3 (MQ below (QV D cA σ q) args s 0 0 (dm σ)) 2 [(0, .ref y0), (1, .int y1), (2, .int y2)] [] μ) (a0 : Nat) (v1 : Int32) (v2 : Int32) (μ : Mm) (s_a0 : σ a0 = some (10, 0)) (h : fX10_skip_B2 rec2 fu a0 v1 v2 μ = some q) : GG p l e (rmO 2 42) s m args below meth c 0 0 (dm σ) D cA σ 3 (MQ below (QV D cA σ q) args s 0 0 (dm σ)) 2 [(0, .ref a0), (1, .int v1), (2, .int v2)] [] μ := by
  unfold fX10_skip_B2 at h
  refine g_iload_n C dX10_skip_2 2 rfl ?_
  refine g_iload_n C dX10_skip_3 1 rfl ?_
  refine g_icmp_ge C 18 dX10_skip_4 rfl (fun q => ?_) (fun q => ?_)
  · replace h := ip q h
    cases h
    exact g_return C dX10_skip_18
  · replace h := iq q h
    refine g_aload_n C dX10_skip_7 0 rfl ?_
    obtain ⟨q1, e_q1, h⟩ := bs h
    refine g_callVI C (kX10_one s_a0 e_q1) miX10_one lmX10_100 s_a0 (by decide) rfl rfl rfl (Nat.le_of_ble_eq_true rfl) dX10_skip_8 ⟨by decide, by decide⟩ ⟨Nat.zero_le _, Nat.zero_le _⟩ ?_
    refine g_pop C dX10_skip_11 rfl ?_
    obtain ⟨x2, e_x2, h⟩ := nm h
    refine g_iinc (v := x2) (lv' := [(2, .int x2), (0, .ref a0), (1, .int v1)]) C dX10_skip_12 (by decide) 2 rfl 1 (by decide) e_x2.symm rfl ?_
    refine g_goto C 2 dX10_skip_15 rfl ?_
    exact g_lv [1, 2, 0] rfl (hrec2 _ _ _ _ s_a0 h)
theorem wX10_skip_L2 {p : Program} {l : Launch} {e : Env} {s : State} {m : MethodId} {args : Array Value} {below : List Frame} {meth : Method} {c : Code} {D : va_G} {cA : Nat → ClassId} {tS : Nat → Nat} {σ : Sg} {fu : Nat} {q : Mm} (C : Cx p s m args meth c (dm σ) D cA tS σ cX10_skip none 3 RX10) : ∀ (n : Nat) (a0 : Nat) (v1 : Int32) (v2 : Int32) (μ : Mm), (σ a0 = some (10, 0)) → fX10_skip_L2 fu n a0 v1 v2 μ = some q → GG p l e (rmO 2 42) s m args below meth c 0 0 (dm σ) D cA σ 3 (MQ below (QV D cA σ q) args s 0 0 (dm σ)) 2 [(0, .ref a0), (1, .int v1), (2, .int v2)] [] μ := by
  intro n
  induction n with
  | zero => intro a0 v1 v2 μ s_a0 h; cases h
  | succ n ih => intro a0 v1 v2 μ s_a0 h; exact wX10_skip_B2 C (fun _ _ _ _ k0 h => ih _ _ _ _ k0 h) _ _ _ _ s_a0 h
set_option maxRecDepth 100000 in
set_option maxHeartbeats 4000000 in
theorem wX10_skip {p : Program} {l : Launch} {e : Env} {s : State} {m : MethodId} {args : Array Value} {below : List Frame} {meth : Method} {c : Code} {D : va_G} {cA : Nat → ClassId} {tS : Nat → Nat} {σ : Sg} {fu : Nat} {q : Mm} (C : Cx p s m args meth c (dm σ) D cA tS σ cX10_skip none 3 RX10) (a0 : Nat) (v1 : Int32) (μ : Mm) (s_a0 : σ a0 = some (10, 0)) (h : fX10_skip fu a0 v1 μ = some q) : GG p l e (rmO 2 42) s m args below meth c 0 0 (dm σ) D cA σ 3 (MQ below (QV D cA σ q) args s 0 0 (dm σ)) 0 [(0, .ref a0), (1, .int v1)] [] μ := by
  unfold fX10_skip at h
  refine g_iconst (v := 0) C dX10_skip_0 (by decide) ?_
  refine g_istore_n (lv' := [(2, .int 0), (0, .ref a0), (1, .int v1)]) C dX10_skip_1 (by decide) rfl ?_
  exact g_lv [1, 2, 0] rfl (wX10_skip_L2 C fu _ _ _ _ s_a0 h)
theorem miX10_skip : MI yX10_skip cX10_skip 3 none RX10 1 := ⟨wcX10_skip, wmX10_skip, wsX10_skip, wiX10, by decide +kernel⟩
theorem kX10_skip {l : Launch} {D : va_G} {cA : Nat → ClassId} {tS : Nat → Nat} {σ : Sg} {a0 : Nat} {v1 : Int32} {μ : Mm} {fu : Nat} {q : Mm} (s_a0 : σ a0 = some (10, 0)) (h : fX10_skip fu a0 v1 μ = some q) : Ct l D cA tS σ yX10_skip cX10_skip 3 none (rmO 2 42) [.ref a0, .int v1] μ (QV D cA σ q) :=
  Ct.of (by decide) (Nat.le_of_ble_eq_true rfl) (fun _ _ _ _ _ _ _ _ C => wX10_skip C _ _ _ s_a0 h)
set_option maxRecDepth 100000 in
set_option maxHeartbeats 4000000 in
theorem wX10_rows_B5 {p : Program} {l : Launch} {e : Env} {s : State} {m : MethodId} {args : Array Value} {below : List Frame} {meth : Method} {c : Code} {D : va_G} {cA : Nat → ClassId} {tS : Nat → Nat} {σ : Sg} {rec5 : Nat → Int32 → Mm → Option (Mm)} {fu : Nat} {q : Mm} (C : Cx p s m args meth c (dm σ) D cA tS σ cX10_rows none 2 RX10) (hrec5 : ∀ (y0 : Nat) (y1 : Int32) (μ : Mm), σ y0 = some (10, 0) → rec5 y0 y1 μ = some q → GG p l e (rmO 3 64) s m args below meth c 0 0 (dm σ) D cA σ 2 (MQ below (QV D cA σ q) args s 0 0 (dm σ)) 5 [(0, .ref y0), (1, .int y1)] [] μ) (a0 : Nat) (v1 : Int32) (μ : Mm) (s_a0 : σ a0 = some (10, 0)) (h : fX10_rows_B5 rec5 fu a0 v1 μ = some q) : GG p l e (rmO 3 64) s m args below meth c 0 0 (dm σ) D cA σ 2 (MQ below (QV D cA σ q) args s 0 0 (dm σ)) 5 [(0, .ref a0), (1, .int v1)] [] μ := by
  unfold fX10_rows_B5 at h
  refine g_aload_n C dX10_rows_5 0 rfl ?_
  obtain ⟨x1, e_x1, h⟩ := nm h
  refine g_callVI C (kX10_good s_a0 e_x1.symm) miX10_good lmX10_86 s_a0 (by decide) rfl rfl rfl (Nat.le_of_ble_eq_true rfl) dX10_rows_6 ⟨by decide, by decide⟩ ⟨Nat.zero_le _, Nat.zero_le _⟩ ?_
  refine g_if_eq C 29 dX10_rows_9 rfl (fun q => ?_) (fun q => ?_)
  · replace h := ip q h
    cases h
    exact g_return C dX10_rows_29
  · replace h := iq q h
    refine g_iload_n C dX10_rows_12 1 rfl ?_
    refine g_if_le C 29 dX10_rows_13 rfl (fun q => ?_) (fun q => ?_)
    · replace h := ip q h
      cases h
      exact g_return C dX10_rows_29
    · replace h := iq q h
      refine g_aload_n C dX10_rows_16 0 rfl ?_
      refine g_iload_n C dX10_rows_17 1 rfl ?_
      obtain ⟨μ2, e_μ2, h⟩ := bs h
      refine g_callVV C (kX10_skip s_a0 e_μ2) miX10_skip lmX10_151 s_a0 (by decide) rfl rfl rfl (Nat.le_of_ble_eq_true rfl) dX10_rows_18 ⟨by decide, by decide⟩ ⟨Nat.zero_le _, Nat.zero_le _⟩ ?_
      refine g_aload_n C dX10_rows_21 0 rfl ?_
      obtain ⟨q3, e_q3, h⟩ := bs h
      refine g_callVI C (kX10_one s_a0 e_q3) miX10_one lmX10_100 s_a0 (by decide) rfl rfl rfl (Nat.le_of_ble_eq_true rfl) dX10_rows_22 ⟨by decide, by decide⟩ ⟨Nat.zero_le _, Nat.zero_le _⟩ ?_
      obtain ⟨x4, e_x4, h⟩ := nm h
      refine g_topi e_x4 ?_
      refine g_istore_n (lv' := [(1, .int x4), (0, .ref a0)]) C dX10_rows_25 (by decide) rfl ?_
      refine g_goto C 5 dX10_rows_26 rfl ?_
      exact g_lv [1, 0] rfl (hrec5 _ _ _ s_a0 h)
theorem wX10_rows_L5 {p : Program} {l : Launch} {e : Env} {s : State} {m : MethodId} {args : Array Value} {below : List Frame} {meth : Method} {c : Code} {D : va_G} {cA : Nat → ClassId} {tS : Nat → Nat} {σ : Sg} {fu : Nat} {q : Mm} (C : Cx p s m args meth c (dm σ) D cA tS σ cX10_rows none 2 RX10) : ∀ (n : Nat) (a0 : Nat) (v1 : Int32) (μ : Mm), (σ a0 = some (10, 0)) → fX10_rows_L5 fu n a0 v1 μ = some q → GG p l e (rmO 3 64) s m args below meth c 0 0 (dm σ) D cA σ 2 (MQ below (QV D cA σ q) args s 0 0 (dm σ)) 5 [(0, .ref a0), (1, .int v1)] [] μ := by
  intro n
  induction n with
  | zero => intro a0 v1 μ s_a0 h; cases h
  | succ n ih => intro a0 v1 μ s_a0 h; exact wX10_rows_B5 C (fun _ _ _ k0 h => ih _ _ _ k0 h) _ _ _ s_a0 h
set_option maxRecDepth 100000 in
set_option maxHeartbeats 4000000 in
theorem wX10_rows {p : Program} {l : Launch} {e : Env} {s : State} {m : MethodId} {args : Array Value} {below : List Frame} {meth : Method} {c : Code} {D : va_G} {cA : Nat → ClassId} {tS : Nat → Nat} {σ : Sg} {fu : Nat} {q : Mm} (C : Cx p s m args meth c (dm σ) D cA tS σ cX10_rows none 2 RX10) (a0 : Nat) (μ : Mm) (s_a0 : σ a0 = some (10, 0)) (h : fX10_rows fu a0 μ = some q) : GG p l e (rmO 3 64) s m args below meth c 0 0 (dm σ) D cA σ 2 (MQ below (QV D cA σ q) args s 0 0 (dm σ)) 0 [(0, .ref a0)] [] μ := by
  unfold fX10_rows at h
  refine g_aload_n C dX10_rows_0 0 rfl ?_
  obtain ⟨q1, e_q1, h⟩ := bs h
  refine g_callVI C (kX10_one s_a0 e_q1) miX10_one lmX10_100 s_a0 (by decide) rfl rfl rfl (Nat.le_of_ble_eq_true rfl) dX10_rows_1 ⟨by decide, by decide⟩ ⟨Nat.zero_le _, Nat.zero_le _⟩ ?_
  obtain ⟨x2, e_x2, h⟩ := nm h
  refine g_topi e_x2 ?_
  refine g_istore_n (lv' := [(1, .int x2), (0, .ref a0)]) C dX10_rows_4 (by decide) rfl ?_
  exact g_lv [1, 0] rfl (wX10_rows_L5 C fu _ _ _ s_a0 h)
theorem miX10_rows : MI yX10_rows cX10_rows 2 none RX10 0 := ⟨wcX10_rows, wmX10_rows, wsX10_rows, wiX10, by decide +kernel⟩
theorem kX10_rows {l : Launch} {D : va_G} {cA : Nat → ClassId} {tS : Nat → Nat} {σ : Sg} {a0 : Nat} {μ : Mm} {fu : Nat} {q : Mm} (s_a0 : σ a0 = some (10, 0)) (h : fX10_rows fu a0 μ = some q) : Ct l D cA tS σ yX10_rows cX10_rows 2 none (rmO 3 64) [.ref a0] μ (QV D cA σ q) :=
  Ct.of (by decide) (Nat.le_of_ble_eq_true rfl) (fun _ _ _ _ _ _ _ _ C => wX10_rows C _ _ s_a0 h)
set_option maxRecDepth 100000 in
set_option maxHeartbeats 4000000 in
theorem wX10_readMore_L179 {p : Program} {l : Launch} {e : Env} {s : State} {m : MethodId} {args : Array Value} {below : List Frame} {meth : Method} {c : Code} {D : va_G} {cA : Nat → ClassId} {tS : Nat → Nat} {σ : Sg} {fu : Nat} {q : Mm} (C : Cx p s m args meth c (dm σ) D cA tS σ cX10_readMore none 5 RX10) (a0 : Nat) (v1 : Int32) (μ : Mm) (s_a0 : σ a0 = some (10, 0)) (h : fX10_readMore_L179 fu a0 v1 μ = some q) : GG p l e (rmO 4 85) s m args below meth c 0 0 (dm σ) D cA σ 5 (MQ below (QV D cA σ q) args s 0 0 (dm σ)) 179 [(0, .ref a0), (1, .int v1)] [] μ := by
  unfold fX10_readMore_L179 at h
  refine g_aload_n C dX10_readMore_179 0 rfl ?_
  refine g_iconst (v := 4) C dX10_readMore_180 (by decide) ?_
  refine g_iload_n C dX10_readMore_181 1 rfl ?_
  obtain ⟨μ1, e_μ1, h⟩ := nm h
  refine g_callVV C (kX10_wrong s_a0 e_μ1.symm) miX10_wrong lmX10_96 s_a0 (by decide) rfl rfl rfl (Nat.le_of_ble_eq_true rfl) dX10_readMore_182 ⟨by decide, by decide⟩ ⟨Nat.zero_le _, Nat.zero_le _⟩ ?_
  cases h
  exact g_return C dX10_readMore_185
set_option maxRecDepth 100000 in
set_option maxHeartbeats 4000000 in
theorem wX10_readMore_L172 {p : Program} {l : Launch} {e : Env} {s : State} {m : MethodId} {args : Array Value} {below : List Frame} {meth : Method} {c : Code} {D : va_G} {cA : Nat → ClassId} {tS : Nat → Nat} {σ : Sg} {fu : Nat} {q : Mm} (C : Cx p s m args meth c (dm σ) D cA tS σ cX10_readMore none 5 RX10) (a0 : Nat) (μ : Mm) (s_a0 : σ a0 = some (10, 0)) (h : fX10_readMore_L172 fu a0 μ = some q) : GG p l e (rmO 4 85) s m args below meth c 0 0 (dm σ) D cA σ 5 (MQ below (QV D cA σ q) args s 0 0 (dm σ)) 172 [(0, .ref a0)] [] μ := by
  unfold fX10_readMore_L172 at h
  refine g_aload_n C dX10_readMore_172 0 rfl ?_
  obtain ⟨μ1, e_μ1, h⟩ := bs h
  refine g_callVV C (kX10_rows s_a0 e_μ1) miX10_rows lmX10_157 s_a0 (by decide) rfl rfl rfl (Nat.le_of_ble_eq_true rfl) dX10_readMore_173 ⟨by decide, by decide⟩ ⟨Nat.zero_le _, Nat.zero_le _⟩ ?_
  refine g_goto C 185 dX10_readMore_176 rfl ?_
  cases h
  exact g_return C dX10_readMore_185
set_option maxRecDepth 100000 in
set_option maxHeartbeats 4000000 in
theorem wX10_readMore_L159 {p : Program} {l : Launch} {e : Env} {s : State} {m : MethodId} {args : Array Value} {below : List Frame} {meth : Method} {c : Code} {D : va_G} {cA : Nat → ClassId} {tS : Nat → Nat} {σ : Sg} {fu : Nat} {q : Mm} (C : Cx p s m args meth c (dm σ) D cA tS σ cX10_readMore none 5 RX10) (a0 : Nat) (v2 : Int32) (μ : Mm) (s_a0 : σ a0 = some (10, 0)) (h : fX10_readMore_L159 fu a0 v2 μ = some q) : GG p l e (rmO 4 85) s m args below meth c 0 0 (dm σ) D cA σ 5 (MQ below (QV D cA σ q) args s 0 0 (dm σ)) 159 [(0, .ref a0), (2, .int v2)] [] μ := by
  unfold fX10_readMore_L159 at h
  refine g_iload_n C dX10_readMore_159 1 rfl ?_
  refine g_sipush (v := 255) C dX10_readMore_160 (by decide) ?_
  refine g_icmp_ne C 172 dX10_readMore_163 rfl (fun q => ?_) (fun q => ?_)
  · replace h := iq q h
    exact g_lv [0] rfl (wX10_readMore_L172 C _ _ s_a0 h)
  · replace h := ip q h
    refine g_aload_n C dX10_readMore_166 0 rfl ?_
    refine g_bipush (v := 11) C dX10_readMore_167 (by decide) ?_
    obtain ⟨μ1, e_μ1, h⟩ := bs h
    refine g_callVV C (kX10_skip s_a0 e_μ1) miX10_skip lmX10_151 s_a0 (by decide) rfl rfl rfl (Nat.le_of_ble_eq_true rfl) dX10_readMore_169 ⟨by decide, by decide⟩ ⟨Nat.zero_le _, Nat.zero_le _⟩ ?_
    exact g_lv [0] rfl (wX10_readMore_L172 C _ _ s_a0 h)
set_option maxRecDepth 100000 in
set_option maxHeartbeats 4000000 in
theorem wX10_readMore_L139 {p : Program} {l : Launch} {e : Env} {s : State} {m : MethodId} {args : Array Value} {below : List Frame} {meth : Method} {c : Code} {D : va_G} {cA : Nat → ClassId} {tS : Nat → Nat} {σ : Sg} {fu : Nat} {q : Mm} (C : Cx p s m args meth c (dm σ) D cA tS σ cX10_readMore none 5 RX10) (a0 : Nat) (v1 : Int32) (v2 : Int32) (μ : Mm) (s_a0 : σ a0 = some (10, 0)) (h : fX10_readMore_L139 fu a0 v1 v2 μ = some q) : GG p l e (rmO 4 85) s m args below meth c 0 0 (dm σ) D cA σ 5 (MQ below (QV D cA σ q) args s 0 0 (dm σ)) 139 [(0, .ref a0), (1, .int v1), (2, .int v2)] [] μ := by
  unfold fX10_readMore_L139 at h
  refine g_aload_n C dX10_readMore_139 0 rfl ?_
  refine g_geti (j := 16) C s_a0 (by decide) rfl uwX10 (by decide) rfl lfX10_126 rfl dX10_readMore_140 ?_
  refine g_if_ne C 179 dX10_readMore_143 rfl (fun q => ?_) (fun q => ?_)
  · replace h := iq q h
    exact g_lv [0, 1] rfl (wX10_readMore_L179 C _ _ _ s_a0 h)
  · replace h := ip q h
    refine g_iload_n C dX10_readMore_146 2 rfl ?_
    refine g_sipush (v := 255) C dX10_readMore_147 (by decide) ?_
    refine g_icmp_ne C 159 dX10_readMore_150 rfl (fun q => ?_) (fun q => ?_)
    · replace h := iq q h
      exact g_lv [0, 2] rfl (wX10_readMore_L159 C _ _ _ s_a0 h)
    · replace h := ip q h
      refine g_aload_n C dX10_readMore_153 0 rfl ?_
      refine g_bipush (v := 11) C dX10_readMore_154 (by decide) ?_
      obtain ⟨μ1, e_μ1, h⟩ := bs h
      refine g_callVV C (kX10_length s_a0 e_μ1) miX10_length lmX10_154 s_a0 (by decide) rfl rfl rfl (Nat.le_of_ble_eq_true rfl) dX10_readMore_156 ⟨by decide, by decide⟩ ⟨Nat.zero_le _, Nat.zero_le _⟩ ?_
      exact g_lv [0, 2] rfl (wX10_readMore_L159 C _ _ _ s_a0 h)
set_option maxRecDepth 100000 in
set_option maxHeartbeats 4000000 in
theorem wX10_readMore_L97 {p : Program} {l : Launch} {e : Env} {s : State} {m : MethodId} {args : Array Value} {below : List Frame} {meth : Method} {c : Code} {D : va_G} {cA : Nat → ClassId} {tS : Nat → Nat} {σ : Sg} {fu : Nat} {q : Mm} (C : Cx p s m args meth c (dm σ) D cA tS σ cX10_readMore none 5 RX10) (a0 : Nat) (v1 : Int32) (v2 : Int32) (μ : Mm) (s_a0 : σ a0 = some (10, 0)) (h : fX10_readMore_L97 fu a0 v1 v2 μ = some q) : GG p l e (rmO 4 85) s m args below meth c 0 0 (dm σ) D cA σ 5 (MQ below (QV D cA σ q) args s 0 0 (dm σ)) 97 [(0, .ref a0), (1, .int v1), (2, .int v2)] [] μ := by
  unfold fX10_readMore_L97 at h
  refine g_iload_n C dX10_readMore_97 2 rfl ?_
  refine g_iconst (v := 1) C dX10_readMore_98 (by decide) ?_
  refine g_icmp_ne C 125 dX10_readMore_99 rfl (fun q => ?_) (fun q => ?_)
  · replace h := iq q h
    refine g_iload_n C dX10_readMore_125 2 rfl ?_
    refine g_sipush (v := 254) C dX10_readMore_126 (by decide) ?_
    refine g_icmp_eq C 139 dX10_readMore_129 rfl (fun q => ?_) (fun q => ?_)
    · replace h := ip q h
      exact g_lv [0, 1, 2] rfl (wX10_readMore_L139 C _ _ _ _ s_a0 h)
    · replace h := iq q h
      refine g_iload_n C dX10_readMore_132 2 rfl ?_
      refine g_sipush (v := 255) C dX10_readMore_133 (by decide) ?_
      refine g_icmp_ne C 179 dX10_readMore_136 rfl (fun q => ?_) (fun q => ?_)
      · replace h := iq q h
        exact g_lv [0, 1] rfl (wX10_readMore_L179 C _ _ _ s_a0 h)
      · replace h := ip q h
        exact g_lv [0, 1, 2] rfl (wX10_readMore_L139 C _ _ _ _ s_a0 h)
  · replace h := ip q h
    refine g_aload_n C dX10_readMore_102 0 rfl ?_
    refine g_bipush (v := 12) C dX10_readMore_103 (by decide) ?_
    obtain ⟨μ1, e_μ1, h⟩ := bs h
    refine g_callVV C (kX10_length s_a0 e_μ1) miX10_length lmX10_154 s_a0 (by decide) rfl rfl rfl (Nat.le_of_ble_eq_true rfl) dX10_readMore_105 ⟨by decide, by decide⟩ ⟨Nat.zero_le _, Nat.zero_le _⟩ ?_
    refine g_aload_n C dX10_readMore_108 0 rfl ?_
    refine g_bipush (v := 12) C dX10_readMore_109 (by decide) ?_
    obtain ⟨μ2, e_μ2, h⟩ := bs h
    refine g_callVV C (kX10_skip s_a0 e_μ2) miX10_skip lmX10_151 s_a0 (by decide) rfl rfl rfl (Nat.le_of_ble_eq_true rfl) dX10_readMore_111 ⟨by decide, by decide⟩ ⟨Nat.zero_le _, Nat.zero_le _⟩ ?_
    refine g_aload_n C dX10_readMore_114 0 rfl ?_
    obtain ⟨μ3, e_μ3, h⟩ := bs h
    refine g_callVV C (kX10_rows s_a0 e_μ3) miX10_rows lmX10_157 s_a0 (by decide) rfl rfl rfl (Nat.le_of_ble_eq_true rfl) dX10_readMore_115 ⟨by decide, by decide⟩ ⟨Nat.zero_le _, Nat.zero_le _⟩ ?_
    refine g_aload_n C dX10_readMore_118 0 rfl ?_
    obtain ⟨μ4, e_μ4, h⟩ := nm h
    refine g_callVV C (kX10_forget s_a0 e_μ4.symm) miX10_forget lmX10_141 s_a0 (by decide) rfl rfl rfl (Nat.le_of_ble_eq_true rfl) dX10_readMore_119 ⟨by decide, by decide⟩ ⟨Nat.zero_le _, Nat.zero_le _⟩ ?_
    refine g_goto C 185 dX10_readMore_122 rfl ?_
    cases h
    exact g_return C dX10_readMore_185
set_option maxRecDepth 100000 in
set_option maxHeartbeats 4000000 in
theorem wX10_readMore {p : Program} {l : Launch} {e : Env} {s : State} {m : MethodId} {args : Array Value} {below : List Frame} {meth : Method} {c : Code} {D : va_G} {cA : Nat → ClassId} {tS : Nat → Nat} {σ : Sg} {fu : Nat} {q : Mm} (C : Cx p s m args meth c (dm σ) D cA tS σ cX10_readMore none 5 RX10) (a0 : Nat) (μ : Mm) (s_a0 : σ a0 = some (10, 0)) (h : fX10_readMore fu a0 μ = some q) : GG p l e (rmO 4 85) s m args below meth c 0 0 (dm σ) D cA σ 5 (MQ below (QV D cA σ q) args s 0 0 (dm σ)) 0 [(0, .ref a0)] [] μ := by
  unfold fX10_readMore at h
  refine g_aload_n C dX10_readMore_0 0 rfl ?_
  refine g_geti (j := 12) C s_a0 (by decide) rfl uwX10 (by decide) rfl lfX10_90 rfl dX10_readMore_1 ?_
  obtain ⟨x1, e_x1, h⟩ := nm h
  refine g_topi e_x1 ?_
  refine g_istore_n (lv' := [(1, .int x1), (0, .ref a0)]) C dX10_readMore_4 (by decide) rfl ?_
  refine g_aload_n C dX10_readMore_5 1 rfl ?_
  obtain ⟨q2, e_q2, h⟩ := bs h
  refine g_callVI C (kX10_one s_a0 e_q2) miX10_one lmX10_100 s_a0 (by decide) rfl rfl rfl (Nat.le_of_ble_eq_true rfl) dX10_readMore_6 ⟨by decide, by decide⟩ ⟨Nat.zero_le _, Nat.zero_le _⟩ ?_
  obtain ⟨x3, e_x3, h⟩ := nm h
  refine g_topi e_x3 ?_
  refine g_istore_n (lv' := [(2, .int x3), (1, .int x1), (0, .ref a0)]) C dX10_readMore_9 (by decide) rfl ?_
  refine g_iload_n C dX10_readMore_10 0 rfl ?_
  refine g_sipush (v := 249) C dX10_readMore_11 (by decide) ?_
  refine g_icmp_ne C 97 dX10_readMore_14 rfl (fun q => ?_) (fun q => ?_)
  · replace h := iq q h
    exact g_lv [2, 1, 0] rfl (wX10_readMore_L97 C _ _ _ _ s_a0 h)
  · replace h := ip q h
    refine g_aload_n C dX10_readMore_17 2 rfl ?_
    refine g_geti (j := 16) C s_a0 (by decide) rfl uwX10 (by decide) rfl lfX10_126 rfl dX10_readMore_18 ?_
    refine g_if_ne C 97 dX10_readMore_21 rfl (fun q => ?_) (fun q => ?_)
    · replace h := iq q h
      exact g_lv [2, 1, 0] rfl (wX10_readMore_L97 C _ _ _ _ s_a0 h)
    · replace h := ip q h
      refine g_aload_n C dX10_readMore_24 2 rfl ?_
      refine g_iconst (v := 4) C dX10_readMore_25 (by decide) ?_
      obtain ⟨μ4, e_μ4, h⟩ := bs h
      refine g_callVV C (kX10_length s_a0 e_μ4) miX10_length lmX10_154 s_a0 (by decide) rfl rfl rfl (Nat.le_of_ble_eq_true rfl) dX10_readMore_26 ⟨by decide, by decide⟩ ⟨Nat.zero_le _, Nat.zero_le _⟩ ?_
      refine g_aload_n C dX10_readMore_29 2 rfl ?_
      obtain ⟨q5, e_q5, h⟩ := bs h
      refine g_callVI C (kX10_one s_a0 e_q5) miX10_one lmX10_100 s_a0 (by decide) rfl rfl rfl (Nat.le_of_ble_eq_true rfl) dX10_readMore_30 ⟨by decide, by decide⟩ ⟨Nat.zero_le _, Nat.zero_le _⟩ ?_
      obtain ⟨x6, e_x6, h⟩ := nm h
      refine g_topi e_x6 ?_
      refine g_istore_n (lv' := [(3, .int x6), (2, .int x3), (1, .int x1), (0, .ref a0)]) C dX10_readMore_33 (by decide) rfl ?_
      refine g_aload_n C dX10_readMore_34 3 rfl ?_
      refine g_aload_n C dX10_readMore_35 3 rfl ?_
      obtain ⟨q7, e_q7, h⟩ := bs h
      refine g_callVI C (kX10_two s_a0 e_q7) miX10_two lmX10_119 s_a0 (by decide) rfl rfl rfl (Nat.le_of_ble_eq_true rfl) dX10_readMore_36 ⟨by decide, by decide⟩ ⟨Nat.zero_le _, Nat.zero_le _⟩ ?_
      refine g_puti (j := 19) C s_a0 (by decide) rfl uwX10 tyX10_ok nmX10 (by decide) rfl lfX10_135 rfl rfl rfl (fun _ _ => rfl) (fun _ _ => Nat.le_of_ble_eq_true rfl) dX10_readMore_39 ?_
      obtain ⟨μ8, e_μ8, h⟩ := nm h
      refine g_mu e_μ8 ?_
      refine g_aload_n C dX10_readMore_42 3 rfl ?_
      obtain ⟨q9, e_q9, h⟩ := bs h
      refine g_callVI C (kX10_one s_a0 e_q9) miX10_one lmX10_100 s_a0 (by decide) rfl rfl rfl (Nat.le_of_ble_eq_true rfl) dX10_readMore_43 ⟨by decide, by decide⟩ ⟨Nat.zero_le _, Nat.zero_le _⟩ ?_
      obtain ⟨x10, e_x10, h⟩ := nm h
      refine g_topi e_x10 ?_
      refine g_istore (lv' := [(4, .int x10), (3, .int x6), (2, .int x3), (1, .int x1), (0, .ref a0)]) C dX10_readMore_46 (by decide) rfl ?_
      refine g_aload_n C dX10_readMore_48 4 rfl ?_
      refine g_iconst (v := 0) C dX10_readMore_49 (by decide) ?_
      obtain ⟨μ11, e_μ11, h⟩ := bs h
      refine g_callVV C (kX10_length s_a0 e_μ11) miX10_length lmX10_154 s_a0 (by decide) rfl rfl rfl (Nat.le_of_ble_eq_true rfl) dX10_readMore_50 ⟨by decide, by decide⟩ ⟨Nat.zero_le _, Nat.zero_le _⟩ ?_
      refine g_aload_n C dX10_readMore_53 4 rfl ?_
      refine g_iconst (v := 1) C dX10_readMore_54 (by decide) ?_
      refine g_puti (j := 16) C s_a0 (by decide) rfl uwX10 tyX10_ok nmX10 (by decide) rfl lfX10_126 rfl rfl rfl (fun _ _ => rfl) (fun _ _ => Nat.le_of_ble_eq_true rfl) dX10_readMore_55 ?_
      obtain ⟨μ12, e_μ12, h⟩ := nm h
      refine g_mu e_μ12 ?_
      refine g_aload_n C dX10_readMore_58 4 rfl ?_
      refine g_iload_n C dX10_readMore_59 1 rfl ?_
      refine g_iconst (v := 2) C dX10_readMore_60 (by decide) ?_
      refine g_ishr C dX10_readMore_61 ?_
      refine g_bipush (v := 7) C dX10_readMore_62 (by decide) ?_
      refine g_iand C dX10_readMore_64 ?_
      refine g_puti (j := 17) C s_a0 (by decide) rfl uwX10 tyX10_ok nmX10 (by decide) rfl lfX10_129 rfl rfl rfl (fun _ _ => rfl) (fun _ _ => Nat.le_of_ble_eq_true rfl) dX10_readMore_65 ?_
      obtain ⟨μ13, e_μ13, h⟩ := nm h
      refine g_mu e_μ13 ?_
      refine g_aload_n C dX10_readMore_68 4 rfl ?_
      refine g_iload_n C dX10_readMore_69 1 rfl ?_
      refine g_iconst (v := 1) C dX10_readMore_70 (by decide) ?_
      refine g_ishr C dX10_readMore_71 ?_
      refine g_iconst (v := 1) C dX10_readMore_72 (by decide) ?_
      refine g_iand C dX10_readMore_73 ?_
      refine g_puti (j := 20) C s_a0 (by decide) rfl uwX10 tyX10_ok nmX10 (by decide) rfl lfX10_138 rfl rfl rfl (fun _ _ => rfl) (fun _ _ => Nat.le_of_ble_eq_true rfl) dX10_readMore_74 ?_
      obtain ⟨μ14, e_μ14, h⟩ := nm h
      refine g_mu e_μ14 ?_
      refine g_aload_n C dX10_readMore_77 4 rfl ?_
      refine g_iload_n C dX10_readMore_78 1 rfl ?_
      refine g_iconst (v := 1) C dX10_readMore_79 (by decide) ?_
      refine g_iand C dX10_readMore_80 ?_
      refine g_iconst (v := 1) C dX10_readMore_81 (by decide) ?_
      refine g_icmp_ne C 90 dX10_readMore_82 rfl (fun q => ?_) (fun q => ?_)
      · replace h := iq q h
        refine g_iconst (v := -1) C dX10_readMore_90 (by decide) ?_
        refine g_puti (j := 18) C s_a0 (by decide) rfl uwX10 tyX10_ok nmX10 (by decide) rfl lfX10_132 rfl rfl rfl (fun _ _ => rfl) (fun _ _ => Nat.le_of_ble_eq_true rfl) dX10_readMore_91 ?_
        obtain ⟨μ15, e_μ15, h⟩ := nm h
        refine g_mu e_μ15 ?_
        refine g_goto C 185 dX10_readMore_94 rfl ?_
        cases h
        exact g_return C dX10_readMore_185
      · replace h := ip q h
        refine g_iload C dX10_readMore_85 0 rfl ?_
        refine g_goto C 91 dX10_readMore_87 rfl ?_
        refine g_puti (j := 18) C s_a0 (by decide) rfl uwX10 tyX10_ok nmX10 (by decide) rfl lfX10_132 rfl rfl rfl (fun _ _ => rfl) (fun _ _ => Nat.le_of_ble_eq_true rfl) dX10_readMore_91 ?_
        obtain ⟨μ16, e_μ16, h⟩ := nm h
        refine g_mu e_μ16 ?_
        refine g_goto C 185 dX10_readMore_94 rfl ?_
        cases h
        exact g_return C dX10_readMore_185
theorem miX10_readMore : MI yX10_readMore cX10_readMore 5 none RX10 0 := ⟨wcX10_readMore, wmX10_readMore, wsX10_readMore, wiX10, by decide +kernel⟩
theorem kX10_readMore {l : Launch} {D : va_G} {cA : Nat → ClassId} {tS : Nat → Nat} {σ : Sg} {a0 : Nat} {μ : Mm} {fu : Nat} {q : Mm} (s_a0 : σ a0 = some (10, 0)) (h : fX10_readMore fu a0 μ = some q) : Ct l D cA tS σ yX10_readMore cX10_readMore 5 none (rmO 4 85) [.ref a0] μ (QV D cA σ q) :=
  Ct.of (by decide) (Nat.le_of_ble_eq_true rfl) (fun _ _ _ _ _ _ _ _ C => wX10_readMore C _ _ s_a0 h)
set_option maxRecDepth 100000 in
set_option maxHeartbeats 4000000 in
theorem wX10_readBlocks_L89 {p : Program} {l : Launch} {e : Env} {s : State} {m : MethodId} {args : Array Value} {below : List Frame} {meth : Method} {c : Code} {D : va_G} {cA : Nat → ClassId} {tS : Nat → Nat} {σ : Sg} {rec9 : Nat → Int32 → Mm → Option (Mm)} {fu : Nat} {q : Mm} (C : Cx p s m args meth c (dm σ) D cA tS σ cX10_readBlocks none 4 RX10) (hrec9 : ∀ (y0 : Nat) (y1 : Int32) (μ : Mm), σ y0 = some (10, 0) → rec9 y0 y1 μ = some q → GG p l e (rmO 5 137) s m args below meth c 0 0 (dm σ) D cA σ 4 (MQ below (QV D cA σ q) args s 0 0 (dm σ)) 9 [(0, .ref y0), (1, .int y1)] [] μ) (a0 : Nat) (v1 : Int32) (μ : Mm) (s_a0 : σ a0 = some (10, 0)) (h : fX10_readBlocks_L89 rec9 fu a0 v1 μ = some q) : GG p l e (rmO 5 137) s m args below meth c 0 0 (dm σ) D cA σ 4 (MQ below (QV D cA σ q) args s 0 0 (dm σ)) 89 [(0, .ref a0), (1, .int v1)] [] μ := by
  unfold fX10_readBlocks_L89 at h
  refine g_iload_n C dX10_readBlocks_89 1 rfl ?_
  refine g_if_eq C 104 dX10_readBlocks_90 rfl (fun q => ?_) (fun q => ?_)
  · replace h := ip q h
    refine g_iconst (v := 0) C dX10_readBlocks_104 (by decide) ?_
    refine g_istore_n (lv' := [(1, .int 0), (0, .ref a0)]) C dX10_readBlocks_105 (by decide) rfl ?_
    refine g_goto C 9 dX10_readBlocks_106 rfl ?_
    exact g_lv [1, 0] rfl (hrec9 _ _ _ s_a0 h)
  · replace h := iq q h
    refine g_aload_n C dX10_readBlocks_93 0 rfl ?_
    obtain ⟨x1, e_x1, h⟩ := nm h
    refine g_callVI C (kX10_good s_a0 e_x1.symm) miX10_good lmX10_86 s_a0 (by decide) rfl rfl rfl (Nat.le_of_ble_eq_true rfl) dX10_readBlocks_94 ⟨by decide, by decide⟩ ⟨Nat.zero_le _, Nat.zero_le _⟩ ?_
    refine g_if_eq C 104 dX10_readBlocks_97 rfl (fun q => ?_) (fun q => ?_)
    · replace h := ip q h
      refine g_iconst (v := 0) C dX10_readBlocks_104 (by decide) ?_
      refine g_istore_n (lv' := [(1, .int 0), (0, .ref a0)]) C dX10_readBlocks_105 (by decide) rfl ?_
      refine g_goto C 9 dX10_readBlocks_106 rfl ?_
      exact g_lv [1, 0] rfl (hrec9 _ _ _ s_a0 h)
    · replace h := iq q h
      refine g_iconst (v := 1) C dX10_readBlocks_100 (by decide) ?_
      refine g_goto C 105 dX10_readBlocks_101 rfl ?_
      refine g_istore_n (lv' := [(1, .int 1), (0, .ref a0)]) C dX10_readBlocks_105 (by decide) rfl ?_
      refine g_goto C 9 dX10_readBlocks_106 rfl ?_
      exact g_lv [1, 0] rfl (hrec9 _ _ _ s_a0 h)
set_option maxRecDepth 100000 in
set_option maxHeartbeats 4000000 in
theorem wX10_readBlocks_L83 {p : Program} {l : Launch} {e : Env} {s : State} {m : MethodId} {args : Array Value} {below : List Frame} {meth : Method} {c : Code} {D : va_G} {cA : Nat → ClassId} {tS : Nat → Nat} {σ : Sg} {rec9 : Nat → Int32 → Mm → Option (Mm)} {fu : Nat} {q : Mm} (C : Cx p s m args meth c (dm σ) D cA tS σ cX10_readBlocks none 4 RX10) (hrec9 : ∀ (y0 : Nat) (y1 : Int32) (μ : Mm), σ y0 = some (10, 0) → rec9 y0 y1 μ = some q → GG p l e (rmO 5 137) s m args below meth c 0 0 (dm σ) D cA σ 4 (MQ below (QV D cA σ q) args s 0 0 (dm σ)) 9 [(0, .ref y0), (1, .int y1)] [] μ) (a0 : Nat) (v1 : Int32) (v2 : Int32) (μ : Mm) (s_a0 : σ a0 = some (10, 0)) (h : fX10_readBlocks_L83 rec9 fu a0 v1 v2 μ = some q) : GG p l e (rmO 5 137) s m args below meth c 0 0 (dm σ) D cA σ 4 (MQ below (QV D cA σ q) args s 0 0 (dm σ)) 83 [(0, .ref a0), (1, .int v1), (2, .int v2)] [] μ := by
  unfold fX10_readBlocks_L83 at h
  refine g_aload_n C dX10_readBlocks_83 0 rfl ?_
  refine g_iconst (v := 4) C dX10_readBlocks_84 (by decide) ?_
  refine g_iload_n C dX10_readBlocks_85 2 rfl ?_
  obtain ⟨μ1, e_μ1, h⟩ := nm h
  refine g_callVV C (kX10_wrong s_a0 e_μ1.symm) miX10_wrong lmX10_96 s_a0 (by decide) rfl rfl rfl (Nat.le_of_ble_eq_true rfl) dX10_readBlocks_86 ⟨by decide, by decide⟩ ⟨Nat.zero_le _, Nat.zero_le _⟩ ?_
  exact g_lv [0, 1] rfl (wX10_readBlocks_L89 C hrec9 _ _ _ s_a0 h)
set_option maxRecDepth 100000 in
set_option maxHeartbeats 4000000 in
theorem wX10_readBlocks_L65 {p : Program} {l : Launch} {e : Env} {s : State} {m : MethodId} {args : Array Value} {below : List Frame} {meth : Method} {c : Code} {D : va_G} {cA : Nat → ClassId} {tS : Nat → Nat} {σ : Sg} {rec9 : Nat → Int32 → Mm → Option (Mm)} {fu : Nat} {q : Mm} (C : Cx p s m args meth c (dm σ) D cA tS σ cX10_readBlocks none 4 RX10) (hrec9 : ∀ (y0 : Nat) (y1 : Int32) (μ : Mm), σ y0 = some (10, 0) → rec9 y0 y1 μ = some q → GG p l e (rmO 5 137) s m args below meth c 0 0 (dm σ) D cA σ 4 (MQ below (QV D cA σ q) args s 0 0 (dm σ)) 9 [(0, .ref y0), (1, .int y1)] [] μ) (a0 : Nat) (v1 : Int32) (v2 : Int32) (v3 : Int32) (μ : Mm) (s_a0 : σ a0 = some (10, 0)) (h : fX10_readBlocks_L65 rec9 fu a0 v1 v2 v3 μ = some q) : GG p l e (rmO 5 137) s m args below meth c 0 0 (dm σ) D cA σ 4 (MQ below (QV D cA σ q) args s 0 0 (dm σ)) 65 [(0, .ref a0), (1, .int v1), (2, .int v2), (3, .int v3)] [] μ := by
  unfold fX10_readBlocks_L65 at h
  refine g_iload_n C dX10_readBlocks_65 3 rfl ?_
  refine g_bipush (v := 59) C dX10_readBlocks_66 (by decide) ?_
  refine g_icmp_ne C 83 dX10_readBlocks_68 rfl (fun q => ?_) (fun q => ?_)
  · replace h := iq q h
    exact g_lv [0, 1, 2] rfl (wX10_readBlocks_L83 C hrec9 _ _ _ _ s_a0 h)
  · replace h := ip q h
    refine g_aload_n C dX10_readBlocks_71 0 rfl ?_
    refine g_geti (j := 16) C s_a0 (by decide) rfl uwX10 (by decide) rfl lfX10_126 rfl dX10_readBlocks_72 ?_
    refine g_if_ne C 83 dX10_readBlocks_75 rfl (fun q => ?_) (fun q => ?_)
    · replace h := iq q h
      exact g_lv [0, 1, 2] rfl (wX10_readBlocks_L83 C hrec9 _ _ _ _ s_a0 h)
    · replace h := ip q h
      refine g_iconst (v := 0) C dX10_readBlocks_78 (by decide) ?_
      refine g_istore_n (lv' := [(1, .int 0), (0, .ref a0), (2, .int v2), (3, .int v3)]) C dX10_readBlocks_79 (by decide) rfl ?_
      refine g_goto C 89 dX10_readBlocks_80 rfl ?_
      exact g_lv [1, 0] rfl (wX10_readBlocks_L89 C hrec9 _ _ _ s_a0 h)
set_option maxRecDepth 100000 in
set_option maxHeartbeats 4000000 in
theorem wX10_readBlocks_B9 {p : Program} {l : Launch} {e : Env} {s : State} {m : MethodId} {args : Array Value} {below : List Frame} {meth : Method} {c : Code} {D : va_G} {cA : Nat → ClassId} {tS : Nat → Nat} {σ : Sg} {rec9 : Nat → Int32 → Mm → Option (Mm)} {fu : Nat} {q : Mm} (C : Cx p s m args meth c (dm σ) D cA tS σ cX10_readBlocks none 4 RX10) (hrec9 : ∀ (y0 : Nat) (y1 : Int32) (μ : Mm), σ y0 = some (10, 0) → rec9 y0 y1 μ = some q → GG p l e (rmO 5 137) s m args below meth c 0 0 (dm σ) D cA σ 4 (MQ below (QV D cA σ q) args s 0 0 (dm σ)) 9 [(0, .ref y0), (1, .int y1)] [] μ) (a0 : Nat) (v1 : Int32) (μ : Mm) (s_a0 : σ a0 = some (10, 0)) (h : fX10_readBlocks_B9 rec9 fu a0 v1 μ = some q) : GG p l e (rmO 5 137) s m args below meth c 0 0 (dm σ) D cA σ 4 (MQ below (QV D cA σ q) args s 0 0 (dm σ)) 9 [(0, .ref a0), (1, .int v1)] [] μ := by
  unfold fX10_readBlocks_B9 at h
  refine g_iload_n C dX10_readBlocks_9 1 rfl ?_
  refine g_if_eq C 109 dX10_readBlocks_10 rfl (fun q => ?_) (fun q => ?_)
  · replace h := ip q h
    refine g_aload_n C dX10_readBlocks_109 0 rfl ?_
    obtain ⟨x1, e_x1, h⟩ := nm h
    refine g_callVI C (kX10_good s_a0 e_x1.symm) miX10_good lmX10_86 s_a0 (by decide) rfl rfl rfl (Nat.le_of_ble_eq_true rfl) dX10_readBlocks_110 ⟨by decide, by decide⟩ ⟨Nat.zero_le _, Nat.zero_le _⟩ ?_
    refine g_if_eq C 137 dX10_readBlocks_113 rfl (fun q => ?_) (fun q => ?_)
    · replace h := ip q h
      cases h
      exact g_return C dX10_readBlocks_137
    · replace h := iq q h
      refine g_aload_n C dX10_readBlocks_116 0 rfl ?_
      refine g_geti (j := 12) C s_a0 (by decide) rfl uwX10 (by decide) rfl lfX10_90 rfl dX10_readBlocks_117 ?_
      refine g_aload_n C dX10_readBlocks_120 0 rfl ?_
      refine g_geti (j := 13) C s_a0 (by decide) rfl uwX10 (by decide) rfl lfX10_93 rfl dX10_readBlocks_121 ?_
      refine g_icmp_ge C 137 dX10_readBlocks_124 rfl (fun q => ?_) (fun q => ?_)
      · replace h := ip q h
        cases h
        exact g_return C dX10_readBlocks_137
      · replace h := iq q h
        refine g_aload_n C dX10_readBlocks_127 0 rfl ?_
        refine g_bipush (v := 10) C dX10_readBlocks_128 (by decide) ?_
        refine g_aload_n C dX10_readBlocks_130 0 rfl ?_
        refine g_geti (j := 12) C s_a0 (by decide) rfl uwX10 (by decide) rfl lfX10_90 rfl dX10_readBlocks_131 ?_
        obtain ⟨μ2, e_μ2, h⟩ := nm h
        refine g_callVV C (kX10_wrong s_a0 e_μ2.symm) miX10_wrong lmX10_96 s_a0 (by decide) rfl rfl rfl (Nat.le_of_ble_eq_true rfl) dX10_readBlocks_134 ⟨by decide, by decide⟩ ⟨Nat.zero_le _, Nat.zero_le _⟩ ?_
        cases h
        exact g_return C dX10_readBlocks_137
  · replace h := iq q h
    refine g_aload_n C dX10_readBlocks_13 0 rfl ?_
    refine g_geti (j := 12) C s_a0 (by decide) rfl uwX10 (by decide) rfl lfX10_90 rfl dX10_readBlocks_14 ?_
    obtain ⟨x3, e_x3, h⟩ := nm h
    refine g_topi e_x3 ?_
    refine g_istore_n (lv' := [(2, .int x3), (0, .ref a0), (1, .int v1)]) C dX10_readBlocks_17 (by decide) rfl ?_
    refine g_aload_n C dX10_readBlocks_18 1 rfl ?_
    obtain ⟨q4, e_q4, h⟩ := bs h
    refine g_callVI C (kX10_one s_a0 e_q4) miX10_one lmX10_100 s_a0 (by decide) rfl rfl rfl (Nat.le_of_ble_eq_true rfl) dX10_readBlocks_19 ⟨by decide, by decide⟩ ⟨Nat.zero_le _, Nat.zero_le _⟩ ?_
    obtain ⟨x5, e_x5, h⟩ := nm h
    refine g_topi e_x5 ?_
    refine g_istore_n (lv' := [(3, .int x5), (2, .int x3), (0, .ref a0), (1, .int v1)]) C dX10_readBlocks_22 (by decide) rfl ?_
    refine g_aload_n C dX10_readBlocks_23 2 rfl ?_
    obtain ⟨x6, e_x6, h⟩ := nm h
    refine g_callVI C (kX10_good s_a0 e_x6.symm) miX10_good lmX10_86 s_a0 (by decide) rfl rfl rfl (Nat.le_of_ble_eq_true rfl) dX10_readBlocks_24 ⟨by decide, by decide⟩ ⟨Nat.zero_le _, Nat.zero_le _⟩ ?_
    refine g_if_ne C 31 dX10_readBlocks_27 rfl (fun q => ?_) (fun q => ?_)
    · replace h := iq q h
      refine g_iload_n C dX10_readBlocks_31 0 rfl ?_
      refine g_bipush (v := 44) C dX10_readBlocks_32 (by decide) ?_
      refine g_icmp_ne C 45 dX10_readBlocks_34 rfl (fun q => ?_) (fun q => ?_)
      · replace h := iq q h
        refine g_iload_n C dX10_readBlocks_45 0 rfl ?_
        refine g_bipush (v := 33) C dX10_readBlocks_46 (by decide) ?_
        refine g_icmp_ne C 65 dX10_readBlocks_48 rfl (fun q => ?_) (fun q => ?_)
        · replace h := iq q h
          exact g_lv [2, 3, 1, 0] rfl (wX10_readBlocks_L65 C hrec9 _ _ _ _ _ s_a0 h)
        · replace h := ip q h
          refine g_aload_n C dX10_readBlocks_51 2 rfl ?_
          refine g_geti (j := 15) C s_a0 (by decide) rfl uwX10 (by decide) rfl lfX10_115 rfl dX10_readBlocks_52 ?_
          refine g_if_ne C 65 dX10_readBlocks_55 rfl (fun q => ?_) (fun q => ?_)
          · replace h := iq q h
            exact g_lv [2, 3, 1, 0] rfl (wX10_readBlocks_L65 C hrec9 _ _ _ _ _ s_a0 h)
          · replace h := ip q h
            refine g_aload_n C dX10_readBlocks_58 2 rfl ?_
            obtain ⟨μ7, e_μ7, h⟩ := bs h
            refine g_callVV C (kX10_readMore s_a0 e_μ7) miX10_readMore lmX10_148 s_a0 (by decide) rfl rfl rfl (Nat.le_of_ble_eq_true rfl) dX10_readBlocks_59 ⟨by decide, by decide⟩ ⟨Nat.zero_le _, Nat.zero_le _⟩ ?_
            refine g_goto C 89 dX10_readBlocks_62 rfl ?_
            exact g_lv [2, 3] rfl (wX10_readBlocks_L89 C hrec9 _ _ _ s_a0 h)
      · replace h := ip q h
        refine g_aload_n C dX10_readBlocks_37 2 rfl ?_
        refine g_iload_n C dX10_readBlocks_38 1 rfl ?_
        obtain ⟨μ8, e_μ8, h⟩ := bs h
        refine g_callVV C (kX10_readImage s_a0 e_μ8) miX10_readImage lmX10_144 s_a0 (by decide) rfl rfl rfl (Nat.le_of_ble_eq_true rfl) dX10_readBlocks_39 ⟨by decide, by decide⟩ ⟨Nat.zero_le _, Nat.zero_le _⟩ ?_
        refine g_goto C 89 dX10_readBlocks_42 rfl ?_
        exact g_lv [2, 3] rfl (wX10_readBlocks_L89 C hrec9 _ _ _ s_a0 h)
    · replace h := ip q h
      cases h
      exact g_return C dX10_readBlocks_30
theorem wX10_readBlocks_L9 {p : Program} {l : Launch} {e : Env} {s : State} {m : MethodId} {args : Array Value} {below : List Frame} {meth : Method} {c : Code} {D : va_G} {cA : Nat → ClassId} {tS : Nat → Nat} {σ : Sg} {fu : Nat} {q : Mm} (C : Cx p s m args meth c (dm σ) D cA tS σ cX10_readBlocks none 4 RX10) : ∀ (n : Nat) (a0 : Nat) (v1 : Int32) (μ : Mm), (σ a0 = some (10, 0)) → fX10_readBlocks_L9 fu n a0 v1 μ = some q → GG p l e (rmO 5 137) s m args below meth c 0 0 (dm σ) D cA σ 4 (MQ below (QV D cA σ q) args s 0 0 (dm σ)) 9 [(0, .ref a0), (1, .int v1)] [] μ := by
  intro n
  induction n with
  | zero => intro a0 v1 μ s_a0 h; cases h
  | succ n ih => intro a0 v1 μ s_a0 h; exact wX10_readBlocks_B9 C (fun _ _ _ k0 h => ih _ _ _ k0 h) _ _ _ s_a0 h
set_option maxRecDepth 100000 in
set_option maxHeartbeats 4000000 in
theorem wX10_readBlocks {p : Program} {l : Launch} {e : Env} {s : State} {m : MethodId} {args : Array Value} {below : List Frame} {meth : Method} {c : Code} {D : va_G} {cA : Nat → ClassId} {tS : Nat → Nat} {σ : Sg} {fu : Nat} {q : Mm} (C : Cx p s m args meth c (dm σ) D cA tS σ cX10_readBlocks none 4 RX10) (a0 : Nat) (μ : Mm) (s_a0 : σ a0 = some (10, 0)) (h : fX10_readBlocks fu a0 μ = some q) : GG p l e (rmO 5 137) s m args below meth c 0 0 (dm σ) D cA σ 4 (MQ below (QV D cA σ q) args s 0 0 (dm σ)) 0 [(0, .ref a0)] [] μ := by
  unfold fX10_readBlocks at h
  refine g_aload_n C dX10_readBlocks_0 0 rfl ?_
  obtain ⟨μ1, e_μ1, h⟩ := nm h
  refine g_callVV C (kX10_forget s_a0 e_μ1.symm) miX10_forget lmX10_141 s_a0 (by decide) rfl rfl rfl (Nat.le_of_ble_eq_true rfl) dX10_readBlocks_1 ⟨by decide, by decide⟩ ⟨Nat.zero_le _, Nat.zero_le _⟩ ?_
  refine g_aload_n C dX10_readBlocks_4 0 rfl ?_
  obtain ⟨x2, e_x2, h⟩ := nm h
  refine g_callVI C (kX10_good s_a0 e_x2.symm) miX10_good lmX10_86 s_a0 (by decide) rfl rfl rfl (Nat.le_of_ble_eq_true rfl) dX10_readBlocks_5 ⟨by decide, by decide⟩ ⟨Nat.zero_le _, Nat.zero_le _⟩ ?_
  refine g_istore_n (lv' := [(1, .int x2), (0, .ref a0)]) C dX10_readBlocks_8 (by decide) rfl ?_
  exact g_lv [1, 0] rfl (wX10_readBlocks_L9 C fu _ _ _ s_a0 h)
theorem miX10_readBlocks : MI yX10_readBlocks cX10_readBlocks 4 none RX10 0 := ⟨wcX10_readBlocks, wmX10_readBlocks, wsX10_readBlocks, wiX10, by decide +kernel⟩
theorem kX10_readBlocks {l : Launch} {D : va_G} {cA : Nat → ClassId} {tS : Nat → Nat} {σ : Sg} {a0 : Nat} {μ : Mm} {fu : Nat} {q : Mm} (s_a0 : σ a0 = some (10, 0)) (h : fX10_readBlocks fu a0 μ = some q) : Ct l D cA tS σ yX10_readBlocks cX10_readBlocks 4 none (rmO 5 137) [.ref a0] μ (QV D cA σ q) :=
  Ct.of (by decide) (Nat.le_of_ble_eq_true rfl) (fun _ _ _ _ _ _ _ _ C => wX10_readBlocks C _ _ s_a0 h)
set_option maxRecDepth 100000 in
set_option maxHeartbeats 4000000 in
theorem wX10_must {p : Program} {l : Launch} {e : Env} {s : State} {m : MethodId} {args : Array Value} {below : List Frame} {meth : Method} {c : Code} {D : va_G} {cA : Nat → ClassId} {tS : Nat → Nat} {σ : Sg} {q : Mm} (C : Cx p s m args meth c (dm σ) D cA tS σ cX10_must none 3 RX10) (a0 : Nat) (v1 : Int32) (v2 : Int32) (μ : Mm) (s_a0 : σ a0 = some (10, 0)) (h : fX10_must a0 v1 v2 μ = some q) : GG p l e (rmO 2 42) s m args below meth c 0 0 (dm σ) D cA σ 3 (MQ below (QV D cA σ q) args s 0 0 (dm σ)) 0 [(0, .ref a0), (1, .int v1), (2, .int v2)] [] μ := by
  unfold fX10_must at h
  refine g_aload_n C dX10_must_0 0 rfl ?_
  obtain ⟨q1, e_q1, h⟩ := bs h
  refine g_callVI C (kX10_one s_a0 e_q1) miX10_one lmX10_100 s_a0 (by decide) rfl rfl rfl (Nat.le_of_ble_eq_true rfl) dX10_must_1 ⟨by decide, by decide⟩ ⟨Nat.zero_le _, Nat.zero_le _⟩ ?_
  refine g_iload_n C dX10_must_4 1 rfl ?_
  refine g_icmp_eq C 14 dX10_must_5 rfl (fun q => ?_) (fun q => ?_)
  · replace h := ip q h
    cases h
    exact g_return C dX10_must_14
  · replace h := iq q h
    refine g_aload_n C dX10_must_8 0 rfl ?_
    refine g_iconst (v := 1) C dX10_must_9 (by decide) ?_
    refine g_iload_n C dX10_must_10 2 rfl ?_
    obtain ⟨μ2, e_μ2, h⟩ := nm h
    refine g_callVV C (kX10_wrong s_a0 e_μ2.symm) miX10_wrong lmX10_96 s_a0 (by decide) rfl rfl rfl (Nat.le_of_ble_eq_true rfl) dX10_must_11 ⟨by decide, by decide⟩ ⟨Nat.zero_le _, Nat.zero_le _⟩ ?_
    cases h
    exact g_return C dX10_must_14
theorem miX10_must : MI yX10_must cX10_must 3 none RX10 2 := ⟨wcX10_must, wmX10_must, wsX10_must, wiX10, by decide +kernel⟩
theorem kX10_must {l : Launch} {D : va_G} {cA : Nat → ClassId} {tS : Nat → Nat} {σ : Sg} {a0 : Nat} {v1 : Int32} {v2 : Int32} {μ : Mm} {q : Mm} (s_a0 : σ a0 = some (10, 0)) (h : fX10_must a0 v1 v2 μ = some q) : Ct l D cA tS σ yX10_must cX10_must 3 none (rmO 2 42) [.ref a0, .int v1, .int v2] μ (QV D cA σ q) :=
  Ct.of (by decide) (Nat.le_of_ble_eq_true rfl) (fun _ _ _ _ _ _ _ _ C => wX10_must C _ _ _ _ s_a0 h)
set_option maxRecDepth 100000 in
set_option maxHeartbeats 4000000 in
theorem wX10_readHead_L217 {p : Program} {l : Launch} {e : Env} {s : State} {m : MethodId} {args : Array Value} {below : List Frame} {meth : Method} {c : Code} {D : va_G} {cA : Nat → ClassId} {tS : Nat → Nat} {σ : Sg} {fu : Nat} {q : Mm} (C : Cx p s m args meth c (dm σ) D cA tS σ cX10_readHead none 5 RX10) (a0 : Nat) (o0 : Nat) (t1 : Int32) (t2 : Int32) (μ : Mm) (s_a0 : σ a0 = some (10, 0)) (s_o0 : σ o0 = some (11, 12)) (h : fX10_readHead_L217 fu a0 o0 t1 t2 μ = some q) : GG p l e (rmO 3 67) s m args below meth c 0 0 (dm σ) D cA σ 5 (MQ below (QV D cA σ q) args s 0 0 (dm σ)) 217 [(0, .ref a0)] [.int t2, .int t1, .ref o0] μ := by
  unfold fX10_readHead_L217 at h
  obtain ⟨hg, h⟩ := gs h
  refine g_iast C s_o0 (ib_in hg) dX10_readHead_217 ?_
  obtain ⟨μ1, e_μ1, h⟩ := nm h
  refine g_mu e_μ1 ?_
  refine g_aload_n C dX10_readHead_218 0 rfl ?_
  refine g_aload_n C dX10_readHead_219 0 rfl ?_
  refine g_wt (fun hT_μ1 => ?_)
  refine g_getr (j := 8) C s_a0 (by decide) rfl uwX10 (by decide) rfl lfX10_27 rfl dX10_readHead_220 ?_
  refine g_sipush (v := 256) C dX10_readHead_223 (by decide) ?_
  refine g_aload_n C dX10_readHead_226 0 rfl ?_
  refine g_geti (j := 14) C s_a0 (by decide) rfl uwX10 (by decide) rfl lfX10_103 rfl dX10_readHead_227 ?_
  refine g_imul C dX10_readHead_230 ?_
  refine g_aload_n C dX10_readHead_231 0 rfl ?_
  refine g_getr (j := 7) C s_a0 (by decide) rfl uwX10 (by decide) rfl lfX10_23 rfl dX10_readHead_232 ?_
  refine g_bipush (v := 6) C dX10_readHead_235 (by decide) ?_
  refine g_aload_n C dX10_readHead_237 0 rfl ?_
  refine g_geti (j := 14) C s_a0 (by decide) rfl uwX10 (by decide) rfl lfX10_103 rfl dX10_readHead_238 ?_
  refine g_imul C dX10_readHead_241 ?_
  refine g_iconst (v := 2) C dX10_readHead_242 (by decide) ?_
  refine g_iadd C dX10_readHead_243 ?_
  obtain ⟨hg2, h⟩ := gs h
  refine g_iald C (hT_μ1.1 _ _ 7 _ s_a0 rfl) (ib_in hg2) dX10_readHead_244 ?_
  obtain ⟨μ3, e_μ3, h⟩ := bs h
  refine g_callVV C (kX10_readTable s_a0 (hT_μ1.1 _ _ 8 _ s_a0 rfl) e_μ3) miX10_readTable lmX10_122 s_a0 (by decide) rfl rfl rfl (Nat.le_of_ble_eq_true rfl) dX10_readHead_245 ⟨by decide, by decide⟩ ⟨Nat.zero_le _, Nat.zero_le _⟩ ?_
  cases h
  exact g_return C dX10_readHead_248
set_option maxRecDepth 100000 in
set_option maxHeartbeats 4000000 in
theorem wX10_readHead_L110 {p : Program} {l : Launch} {e : Env} {s : State} {m : MethodId} {args : Array Value} {below : List Frame} {meth : Method} {c : Code} {D : va_G} {cA : Nat → ClassId} {tS : Nat → Nat} {σ : Sg} {rec75 : Nat → Int32 → Mm → Option (Mm)} {fu : Nat} {q : Mm} (C : Cx p s m args meth c (dm σ) D cA tS σ cX10_readHead none 5 RX10) (hrec75 : ∀ (y0 : Nat) (y2 : Int32) (μ : Mm), σ y0 = some (10, 0) → rec75 y0 y2 μ = some q → GG p l e (rmO 3 67) s m args below meth c 0 0 (dm σ) D cA σ 5 (MQ below (QV D cA σ q) args s 0 0 (dm σ)) 75 [(0, .ref y0), (2, .int y2)] [] μ) (a0 : Nat) (v2 : Int32) (v4 : Int32) (μ : Mm) (s_a0 : σ a0 = some (10, 0)) (h : fX10_readHead_L110 rec75 fu a0 v2 v4 μ = some q) : GG p l e (rmO 3 67) s m args below meth c 0 0 (dm σ) D cA σ 5 (MQ below (QV D cA σ q) args s 0 0 (dm σ)) 110 [(0, .ref a0), (2, .int v2), (4, .int v4)] [] μ := by
  unfold fX10_readHead_L110 at h
  refine g_aload_n C dX10_readHead_110 0 rfl ?_
  refine g_wt (fun hT_μ => ?_)
  refine g_getr (j := 7) C s_a0 (by decide) rfl uwX10 (by decide) rfl lfX10_23 rfl dX10_readHead_111 ?_
  refine g_bipush (v := 6) C dX10_readHead_114 (by decide) ?_
  refine g_aload_n C dX10_readHead_116 0 rfl ?_
  refine g_geti (j := 14) C s_a0 (by decide) rfl uwX10 (by decide) rfl lfX10_103 rfl dX10_readHead_117 ?_
  refine g_imul C dX10_readHead_120 ?_
  refine g_iload_n C dX10_readHead_121 1 rfl ?_
  refine g_iadd C dX10_readHead_122 ?_
  refine g_iload C dX10_readHead_123 2 rfl ?_
  obtain ⟨hg, h⟩ := gs h
  refine g_iast C (hT_μ.1 _ _ 7 _ s_a0 rfl) (ib_in hg) dX10_readHead_125 ?_
  obtain ⟨μ1, e_μ1, h⟩ := nm h
  refine g_mu e_μ1 ?_
  obtain ⟨x2, e_x2, h⟩ := nm h
  refine g_iinc (v := x2) (lv' := [(2, .int x2), (0, .ref a0), (4, .int v4)]) C dX10_readHead_126 (by decide) 1 rfl 1 (by decide) e_x2.symm rfl ?_
  refine g_goto C 75 dX10_readHead_129 rfl ?_
  exact g_lv [1, 0] rfl (hrec75 _ _ _ s_a0 h)
set_option maxRecDepth 100000 in
set_option maxHeartbeats 4000000 in
theorem wX10_readHead_L104 {p : Program} {l : Launch} {e : Env} {s : State} {m : MethodId} {args : Array Value} {below : List Frame} {meth : Method} {c : Code} {D : va_G} {cA : Nat → ClassId} {tS : Nat → Nat} {σ : Sg} {rec75 : Nat → Int32 → Mm → Option (Mm)} {fu : Nat} {q : Mm} (C : Cx p s m args meth c (dm σ) D cA tS σ cX10_readHead none 5 RX10) (hrec75 : ∀ (y0 : Nat) (y2 : Int32) (μ : Mm), σ y0 = some (10, 0) → rec75 y0 y2 μ = some q → GG p l e (rmO 3 67) s m args below meth c 0 0 (dm σ) D cA σ 5 (MQ below (QV D cA σ q) args s 0 0 (dm σ)) 75 [(0, .ref y0), (2, .int y2)] [] μ) (a0 : Nat) (v2 : Int32) (v3 : Int32) (v4 : Int32) (μ : Mm) (s_a0 : σ a0 = some (10, 0)) (h : fX10_readHead_L104 rec75 fu a0 v2 v3 v4 μ = some q) : GG p l e (rmO 3 67) s m args below meth c 0 0 (dm σ) D cA σ 5 (MQ below (QV D cA σ q) args s 0 0 (dm σ)) 104 [(0, .ref a0), (2, .int v2), (3, .int v3), (4, .int v4)] [] μ := by
  unfold fX10_readHead_L104 at h
  refine g_aload_n C dX10_readHead_104 0 rfl ?_
  refine g_iconst (v := 3) C dX10_readHead_105 (by decide) ?_
  refine g_iload_n C dX10_readHead_106 2 rfl ?_
  obtain ⟨μ1, e_μ1, h⟩ := nm h
  refine g_callVV C (kX10_wrong s_a0 e_μ1.symm) miX10_wrong lmX10_96 s_a0 (by decide) rfl rfl rfl (Nat.le_of_ble_eq_true rfl) dX10_readHead_107 ⟨by decide, by decide⟩ ⟨Nat.zero_le _, Nat.zero_le _⟩ ?_
  exact g_lv [0, 1, 3] rfl (wX10_readHead_L110 C hrec75 _ _ _ _ s_a0 h)
set_option maxRecDepth 100000 in
set_option maxHeartbeats 4000000 in
theorem wX10_readHead_B75 {p : Program} {l : Launch} {e : Env} {s : State} {m : MethodId} {args : Array Value} {below : List Frame} {meth : Method} {c : Code} {D : va_G} {cA : Nat → ClassId} {tS : Nat → Nat} {σ : Sg} {rec75 : Nat → Int32 → Mm → Option (Mm)} {fu : Nat} {q : Mm} (C : Cx p s m args meth c (dm σ) D cA tS σ cX10_readHead none 5 RX10) (hrec75 : ∀ (y0 : Nat) (y2 : Int32) (μ : Mm), σ y0 = some (10, 0) → rec75 y0 y2 μ = some q → GG p l e (rmO 3 67) s m args below meth c 0 0 (dm σ) D cA σ 5 (MQ below (QV D cA σ q) args s 0 0 (dm σ)) 75 [(0, .ref y0), (2, .int y2)] [] μ) (a0 : Nat) (v2 : Int32) (μ : Mm) (s_a0 : σ a0 = some (10, 0)) (h : fX10_readHead_B75 rec75 fu a0 v2 μ = some q) : GG p l e (rmO 3 67) s m args below meth c 0 0 (dm σ) D cA σ 5 (MQ below (QV D cA σ q) args s 0 0 (dm σ)) 75 [(0, .ref a0), (2, .int v2)] [] μ := by
  unfold fX10_readHead_B75 at h
  refine g_iload_n C dX10_readHead_75 1 rfl ?_
  refine g_iconst (v := 2) C dX10_readHead_76 (by decide) ?_
  refine g_icmp_ge C 132 dX10_readHead_77 rfl (fun q => ?_) (fun q => ?_)
  · replace h := ip q h
    refine g_aload_n C dX10_readHead_132 0 rfl ?_
    obtain ⟨q1, e_q1, h⟩ := bs h
    refine g_callVI C (kX10_one s_a0 e_q1) miX10_one lmX10_100 s_a0 (by decide) rfl rfl rfl (Nat.le_of_ble_eq_true rfl) dX10_readHead_133 ⟨by decide, by decide⟩ ⟨Nat.zero_le _, Nat.zero_le _⟩ ?_
    obtain ⟨x2, e_x2, h⟩ := nm h
    refine g_topi e_x2 ?_
    refine g_istore_n (lv' := [(2, .int x2), (0, .ref a0)]) C dX10_readHead_136 (by decide) rfl ?_
    refine g_aload_n C dX10_readHead_137 1 rfl ?_
    refine g_wt (fun hT_q1_2 => ?_)
    refine g_getr (j := 7) C s_a0 (by decide) rfl uwX10 (by decide) rfl lfX10_23 rfl dX10_readHead_138 ?_
    refine g_bipush (v := 6) C dX10_readHead_141 (by decide) ?_
    refine g_aload_n C dX10_readHead_143 1 rfl ?_
    refine g_geti (j := 14) C s_a0 (by decide) rfl uwX10 (by decide) rfl lfX10_103 rfl dX10_readHead_144 ?_
    refine g_imul C dX10_readHead_147 ?_
    refine g_iconst (v := 3) C dX10_readHead_148 (by decide) ?_
    refine g_iadd C dX10_readHead_149 ?_
    refine g_aload_n C dX10_readHead_150 1 rfl ?_
    obtain ⟨q3, e_q3, h⟩ := bs h
    refine g_callVI C (kX10_one s_a0 e_q3) miX10_one lmX10_100 s_a0 (by decide) rfl rfl rfl (Nat.le_of_ble_eq_true rfl) dX10_readHead_151 ⟨by decide, by decide⟩ ⟨Nat.zero_le _, Nat.zero_le _⟩ ?_
    obtain ⟨hg, h⟩ := gs h
    refine g_iast C (hT_q1_2.1 _ _ 7 _ s_a0 rfl) (ib_in hg) dX10_readHead_154 ?_
    obtain ⟨μ4, e_μ4, h⟩ := nm h
    refine g_mu e_μ4 ?_
    refine g_aload_n C dX10_readHead_155 1 rfl ?_
    refine g_wt (fun hT_μ4 => ?_)
    refine g_getr (j := 7) C s_a0 (by decide) rfl uwX10 (by decide) rfl lfX10_23 rfl dX10_readHead_156 ?_
    refine g_bipush (v := 6) C dX10_readHead_159 (by decide) ?_
    refine g_aload_n C dX10_readHead_161 1 rfl ?_
    refine g_geti (j := 14) C s_a0 (by decide) rfl uwX10 (by decide) rfl lfX10_103 rfl dX10_readHead_162 ?_
    refine g_imul C dX10_readHead_165 ?_
    refine g_iconst (v := 4) C dX10_readHead_166 (by decide) ?_
    refine g_iadd C dX10_readHead_167 ?_
    refine g_aload_n C dX10_readHead_168 1 rfl ?_
    obtain ⟨q5, e_q5, h⟩ := bs h
    refine g_callVI C (kX10_one s_a0 e_q5) miX10_one lmX10_100 s_a0 (by decide) rfl rfl rfl (Nat.le_of_ble_eq_true rfl) dX10_readHead_169 ⟨by decide, by decide⟩ ⟨Nat.zero_le _, Nat.zero_le _⟩ ?_
    obtain ⟨hg, h⟩ := gs h
    refine g_iast C (hT_μ4.1 _ _ 7 _ s_a0 rfl) (ib_in hg) dX10_readHead_172 ?_
    obtain ⟨μ6, e_μ6, h⟩ := nm h
    refine g_mu e_μ6 ?_
    refine g_aload_n C dX10_readHead_173 1 rfl ?_
    refine g_wt (fun hT_μ6 => ?_)
    refine g_getr (j := 7) C s_a0 (by decide) rfl uwX10 (by decide) rfl lfX10_23 rfl dX10_readHead_174 ?_
    refine g_bipush (v := 6) C dX10_readHead_177 (by decide) ?_
    refine g_aload_n C dX10_readHead_179 1 rfl ?_
    refine g_geti (j := 14) C s_a0 (by decide) rfl uwX10 (by decide) rfl lfX10_103 rfl dX10_readHead_180 ?_
    refine g_imul C dX10_readHead_183 ?_
    refine g_iconst (v := 5) C dX10_readHead_184 (by decide) ?_
    refine g_iadd C dX10_readHead_185 ?_
    refine g_iconst (v := 0) C dX10_readHead_186 (by decide) ?_
    obtain ⟨hg, h⟩ := gs h
    refine g_iast C (hT_μ6.1 _ _ 7 _ s_a0 rfl) (ib_in hg) dX10_readHead_187 ?_
    obtain ⟨μ7, e_μ7, h⟩ := nm h
    refine g_mu e_μ7 ?_
    refine g_aload_n C dX10_readHead_188 1 rfl ?_
    refine g_wt (fun hT_μ7 => ?_)
    refine g_getr (j := 7) C s_a0 (by decide) rfl uwX10 (by decide) rfl lfX10_23 rfl dX10_readHead_189 ?_
    refine g_bipush (v := 6) C dX10_readHead_192 (by decide) ?_
    refine g_aload_n C dX10_readHead_194 1 rfl ?_
    refine g_geti (j := 14) C s_a0 (by decide) rfl uwX10 (by decide) rfl lfX10_103 rfl dX10_readHead_195 ?_
    refine g_imul C dX10_readHead_198 ?_
    refine g_iconst (v := 2) C dX10_readHead_199 (by decide) ?_
    refine g_iadd C dX10_readHead_200 ?_
    refine g_iload_n C dX10_readHead_201 0 rfl ?_
    refine g_bipush (v := 127) C dX10_readHead_202 (by decide) ?_
    refine g_icmp_le C 216 dX10_readHead_204 rfl (fun q => ?_) (fun q => ?_)
    · replace h := ip q h
      refine g_iconst (v := 0) C dX10_readHead_216 (by decide) ?_
      exact g_lv [1] rfl (wX10_readHead_L217 C _ _ _ _ _ s_a0 (hT_μ7.1 _ _ 7 _ s_a0 rfl) h)
    · replace h := iq q h
      refine g_iconst (v := 2) C dX10_readHead_207 (by decide) ?_
      refine g_iload_n C dX10_readHead_208 0 rfl ?_
      refine g_bipush (v := 7) C dX10_readHead_209 (by decide) ?_
      refine g_iand C dX10_readHead_211 ?_
      refine g_ishl C dX10_readHead_212 ?_
      refine g_goto C 217 dX10_readHead_213 rfl ?_
      exact g_lv [1] rfl (wX10_readHead_L217 C _ _ _ _ _ s_a0 (hT_μ7.1 _ _ 7 _ s_a0 rfl) h)
  · replace h := iq q h
    refine g_aload_n C dX10_readHead_80 0 rfl ?_
    refine g_geti (j := 12) C s_a0 (by decide) rfl uwX10 (by decide) rfl lfX10_90 rfl dX10_readHead_81 ?_
    obtain ⟨x8, e_x8, h⟩ := nm h
    refine g_topi e_x8 ?_
    refine g_istore_n (lv' := [(3, .int x8), (0, .ref a0), (2, .int v2)]) C dX10_readHead_84 (by decide) rfl ?_
    refine g_aload_n C dX10_readHead_85 1 rfl ?_
    obtain ⟨q9, e_q9, h⟩ := bs h
    refine g_callVI C (kX10_two s_a0 e_q9) miX10_two lmX10_119 s_a0 (by decide) rfl rfl rfl (Nat.le_of_ble_eq_true rfl) dX10_readHead_86 ⟨by decide, by decide⟩ ⟨Nat.zero_le _, Nat.zero_le _⟩ ?_
    obtain ⟨x10, e_x10, h⟩ := nm h
    refine g_topi e_x10 ?_
    refine g_istore (lv' := [(4, .int x10), (3, .int x8), (0, .ref a0), (2, .int v2)]) C dX10_readHead_89 (by decide) rfl ?_
    refine g_iload C dX10_readHead_91 0 rfl ?_
    refine g_iconst (v := 1) C dX10_readHead_93 (by decide) ?_
    refine g_icmp_lt C 104 dX10_readHead_94 rfl (fun q => ?_) (fun q => ?_)
    · replace h := ip q h
      exact g_lv [2, 3, 1, 0] rfl (wX10_readHead_L104 C hrec75 _ _ _ _ _ s_a0 h)
    · replace h := iq q h
      refine g_iload C dX10_readHead_97 0 rfl ?_
      refine g_bipush (v := 64) C dX10_readHead_99 (by decide) ?_
      refine g_icmp_le C 110 dX10_readHead_101 rfl (fun q => ?_) (fun q => ?_)
      · replace h := ip q h
        exact g_lv [2, 3, 0] rfl (wX10_readHead_L110 C hrec75 _ _ _ _ s_a0 h)
      · replace h := iq q h
        exact g_lv [2, 3, 1, 0] rfl (wX10_readHead_L104 C hrec75 _ _ _ _ _ s_a0 h)
theorem wX10_readHead_L75 {p : Program} {l : Launch} {e : Env} {s : State} {m : MethodId} {args : Array Value} {below : List Frame} {meth : Method} {c : Code} {D : va_G} {cA : Nat → ClassId} {tS : Nat → Nat} {σ : Sg} {fu : Nat} {q : Mm} (C : Cx p s m args meth c (dm σ) D cA tS σ cX10_readHead none 5 RX10) : ∀ (n : Nat) (a0 : Nat) (v2 : Int32) (μ : Mm), (σ a0 = some (10, 0)) → fX10_readHead_L75 fu n a0 v2 μ = some q → GG p l e (rmO 3 67) s m args below meth c 0 0 (dm σ) D cA σ 5 (MQ below (QV D cA σ q) args s 0 0 (dm σ)) 75 [(0, .ref a0), (2, .int v2)] [] μ := by
  intro n
  induction n with
  | zero => intro a0 v2 μ s_a0 h; cases h
  | succ n ih => intro a0 v2 μ s_a0 h; exact wX10_readHead_B75 C (fun _ _ _ k0 h => ih _ _ _ k0 h) _ _ _ s_a0 h
set_option maxRecDepth 100000 in
set_option maxHeartbeats 4000000 in
theorem wX10_readHead_L63 {p : Program} {l : Launch} {e : Env} {s : State} {m : MethodId} {args : Array Value} {below : List Frame} {meth : Method} {c : Code} {D : va_G} {cA : Nat → ClassId} {tS : Nat → Nat} {σ : Sg} {fu : Nat} {q : Mm} (C : Cx p s m args meth c (dm σ) D cA tS σ cX10_readHead none 5 RX10) (a0 : Nat) (o0 : Nat) (t1 : Int32) (μ : Mm) (s_a0 : σ a0 = some (10, 0)) (s_o0 : σ o0 = some (10, 0)) (h : fX10_readHead_L63 fu a0 o0 t1 μ = some q) : GG p l e (rmO 3 67) s m args below meth c 0 0 (dm σ) D cA σ 5 (MQ below (QV D cA σ q) args s 0 0 (dm σ)) 63 [(0, .ref a0)] [.int t1, .ref o0] μ := by
  unfold fX10_readHead_L63 at h
  obtain ⟨hg, h⟩ := gs h
  refine g_puti (j := 15) C s_o0 (by decide) rfl uwX10 tyX10_ok nmX10 (by decide) rfl lfX10_115 rfl (b01_n hg).1 (b01_n hg).2 (fun _ _ => rfl) (fun _ _ => Nat.le_of_ble_eq_true rfl) dX10_readHead_63 ?_
  obtain ⟨μ1, e_μ1, h⟩ := nm h
  refine g_mu e_μ1 ?_
  refine g_aload_n C dX10_readHead_66 0 rfl ?_
  refine g_bipush (v := 97) C dX10_readHead_67 (by decide) ?_
  refine g_iconst (v := 0) C dX10_readHead_69 (by decide) ?_
  obtain ⟨μ2, e_μ2, h⟩ := bs h
  refine g_callVV C (kX10_must s_a0 e_μ2) miX10_must lmX10_112 s_a0 (by decide) rfl rfl rfl (Nat.le_of_ble_eq_true rfl) dX10_readHead_70 ⟨by decide, by decide⟩ ⟨Nat.zero_le _, Nat.zero_le _⟩ ?_
  refine g_iconst (v := 0) C dX10_readHead_73 (by decide) ?_
  refine g_istore_n (lv' := [(2, .int 0), (0, .ref a0)]) C dX10_readHead_74 (by decide) rfl ?_
  exact g_lv [1, 0] rfl (wX10_readHead_L75 C fu _ _ _ s_a0 h)
set_option maxRecDepth 100000 in
set_option maxHeartbeats 4000000 in
theorem wX10_readHead_L51 {p : Program} {l : Launch} {e : Env} {s : State} {m : MethodId} {args : Array Value} {below : List Frame} {meth : Method} {c : Code} {D : va_G} {cA : Nat → ClassId} {tS : Nat → Nat} {σ : Sg} {fu : Nat} {q : Mm} (C : Cx p s m args meth c (dm σ) D cA tS σ cX10_readHead none 5 RX10) (a0 : Nat) (v1 : Int32) (μ : Mm) (s_a0 : σ a0 = some (10, 0)) (h : fX10_readHead_L51 fu a0 v1 μ = some q) : GG p l e (rmO 3 67) s m args below meth c 0 0 (dm σ) D cA σ 5 (MQ below (QV D cA σ q) args s 0 0 (dm σ)) 51 [(0, .ref a0), (1, .int v1)] [] μ := by
  unfold fX10_readHead_L51 at h
  refine g_aload_n C dX10_readHead_51 0 rfl ?_
  refine g_iload_n C dX10_readHead_52 1 rfl ?_
  refine g_bipush (v := 55) C dX10_readHead_53 (by decide) ?_
  refine g_icmp_ne C 62 dX10_readHead_55 rfl (fun q => ?_) (fun q => ?_)
  · replace h := iq q h
    refine g_iconst (v := 0) C dX10_readHead_62 (by decide) ?_
    exact g_lv [0] rfl (wX10_readHead_L63 C _ _ _ _ s_a0 s_a0 h)
  · replace h := ip q h
    refine g_iconst (v := 1) C dX10_readHead_58 (by decide) ?_
    refine g_goto C 63 dX10_readHead_59 rfl ?_
    exact g_lv [0] rfl (wX10_readHead_L63 C _ _ _ _ s_a0 s_a0 h)
set_option maxRecDepth 100000 in
set_option maxHeartbeats 4000000 in
theorem wX10_readHead {p : Program} {l : Launch} {e : Env} {s : State} {m : MethodId} {args : Array Value} {below : List Frame} {meth : Method} {c : Code} {D : va_G} {cA : Nat → ClassId} {tS : Nat → Nat} {σ : Sg} {fu : Nat} {q : Mm} (C : Cx p s m args meth c (dm σ) D cA tS σ cX10_readHead none 5 RX10) (a0 : Nat) (μ : Mm) (s_a0 : σ a0 = some (10, 0)) (h : fX10_readHead fu a0 μ = some q) : GG p l e (rmO 3 67) s m args below meth c 0 0 (dm σ) D cA σ 5 (MQ below (QV D cA σ q) args s 0 0 (dm σ)) 0 [(0, .ref a0)] [] μ := by
  unfold fX10_readHead at h
  refine g_aload_n C dX10_readHead_0 0 rfl ?_
  refine g_bipush (v := 71) C dX10_readHead_1 (by decide) ?_
  refine g_iconst (v := 0) C dX10_readHead_3 (by decide) ?_
  obtain ⟨μ1, e_μ1, h⟩ := bs h
  refine g_callVV C (kX10_must s_a0 e_μ1) miX10_must lmX10_112 s_a0 (by decide) rfl rfl rfl (Nat.le_of_ble_eq_true rfl) dX10_readHead_4 ⟨by decide, by decide⟩ ⟨Nat.zero_le _, Nat.zero_le _⟩ ?_
  refine g_aload_n C dX10_readHead_7 0 rfl ?_
  refine g_bipush (v := 73) C dX10_readHead_8 (by decide) ?_
  refine g_iconst (v := 0) C dX10_readHead_10 (by decide) ?_
  obtain ⟨μ2, e_μ2, h⟩ := bs h
  refine g_callVV C (kX10_must s_a0 e_μ2) miX10_must lmX10_112 s_a0 (by decide) rfl rfl rfl (Nat.le_of_ble_eq_true rfl) dX10_readHead_11 ⟨by decide, by decide⟩ ⟨Nat.zero_le _, Nat.zero_le _⟩ ?_
  refine g_aload_n C dX10_readHead_14 0 rfl ?_
  refine g_bipush (v := 70) C dX10_readHead_15 (by decide) ?_
  refine g_iconst (v := 0) C dX10_readHead_17 (by decide) ?_
  obtain ⟨μ3, e_μ3, h⟩ := bs h
  refine g_callVV C (kX10_must s_a0 e_μ3) miX10_must lmX10_112 s_a0 (by decide) rfl rfl rfl (Nat.le_of_ble_eq_true rfl) dX10_readHead_18 ⟨by decide, by decide⟩ ⟨Nat.zero_le _, Nat.zero_le _⟩ ?_
  refine g_aload_n C dX10_readHead_21 0 rfl ?_
  refine g_bipush (v := 56) C dX10_readHead_22 (by decide) ?_
  refine g_iconst (v := 0) C dX10_readHead_24 (by decide) ?_
  obtain ⟨μ4, e_μ4, h⟩ := bs h
  refine g_callVV C (kX10_must s_a0 e_μ4) miX10_must lmX10_112 s_a0 (by decide) rfl rfl rfl (Nat.le_of_ble_eq_true rfl) dX10_readHead_25 ⟨by decide, by decide⟩ ⟨Nat.zero_le _, Nat.zero_le _⟩ ?_
  refine g_aload_n C dX10_readHead_28 0 rfl ?_
  obtain ⟨q5, e_q5, h⟩ := bs h
  refine g_callVI C (kX10_one s_a0 e_q5) miX10_one lmX10_100 s_a0 (by decide) rfl rfl rfl (Nat.le_of_ble_eq_true rfl) dX10_readHead_29 ⟨by decide, by decide⟩ ⟨Nat.zero_le _, Nat.zero_le _⟩ ?_
  obtain ⟨x6, e_x6, h⟩ := nm h
  refine g_topi e_x6 ?_
  refine g_istore_n (lv' := [(1, .int x6), (0, .ref a0)]) C dX10_readHead_32 (by decide) rfl ?_
  refine g_iload_n C dX10_readHead_33 0 rfl ?_
  refine g_bipush (v := 55) C dX10_readHead_34 (by decide) ?_
  refine g_icmp_eq C 51 dX10_readHead_36 rfl (fun q => ?_) (fun q => ?_)
  · replace h := ip q h
    exact g_lv [1, 0] rfl (wX10_readHead_L51 C _ _ _ s_a0 h)
  · replace h := iq q h
    refine g_iload_n C dX10_readHead_39 0 rfl ?_
    refine g_bipush (v := 57) C dX10_readHead_40 (by decide) ?_
    refine g_icmp_eq C 51 dX10_readHead_42 rfl (fun q => ?_) (fun q => ?_)
    · replace h := ip q h
      exact g_lv [1, 0] rfl (wX10_readHead_L51 C _ _ _ s_a0 h)
    · replace h := iq q h
      refine g_aload_n C dX10_readHead_45 1 rfl ?_
      refine g_iconst (v := 1) C dX10_readHead_46 (by decide) ?_
      refine g_iconst (v := 0) C dX10_readHead_47 (by decide) ?_
      obtain ⟨μ7, e_μ7, h⟩ := nm h
      refine g_callVV C (kX10_wrong s_a0 e_μ7.symm) miX10_wrong lmX10_96 s_a0 (by decide) rfl rfl rfl (Nat.le_of_ble_eq_true rfl) dX10_readHead_48 ⟨by decide, by decide⟩ ⟨Nat.zero_le _, Nat.zero_le _⟩ ?_
      exact g_lv [1, 0] rfl (wX10_readHead_L51 C _ _ _ s_a0 h)
theorem miX10_readHead : MI yX10_readHead cX10_readHead 5 none RX10 0 := ⟨wcX10_readHead, wmX10_readHead, wsX10_readHead, wiX10, by decide +kernel⟩
theorem kX10_readHead {l : Launch} {D : va_G} {cA : Nat → ClassId} {tS : Nat → Nat} {σ : Sg} {a0 : Nat} {μ : Mm} {fu : Nat} {q : Mm} (s_a0 : σ a0 = some (10, 0)) (h : fX10_readHead fu a0 μ = some q) : Ct l D cA tS σ yX10_readHead cX10_readHead 5 none (rmO 3 67) [.ref a0] μ (QV D cA σ q) :=
  Ct.of (by decide) (Nat.le_of_ble_eq_true rfl) (fun _ _ _ _ _ _ _ _ C => wX10_readHead C _ _ s_a0 h)
set_option maxRecDepth 100000 in
set_option maxHeartbeats 4000000 in
theorem wX10_read {p : Program} {l : Launch} {e : Env} {s : State} {m : MethodId} {args : Array Value} {below : List Frame} {meth : Method} {c : Code} {D : va_G} {cA : Nat → ClassId} {tS : Nat → Nat} {σ : Sg} {fu : Nat} {q : Int32 × Mm} (C : Cx p s m args meth c (dm σ) D cA tS σ cX10_read (some .int) 2 RX10) (a0 : Nat) (v1 : Int32) (μ : Mm) (s_a0 : σ a0 = some (10, 0)) (h : fX10_read fu a0 v1 μ = some q) : GG p l e (rmO 6 160) s m args below meth c 0 0 (dm σ) D cA σ 2 (MQ below (QI D cA σ q.1 q.2) args s 0 0 (dm σ)) 0 [(0, .ref a0), (1, .int v1)] [] μ := by
  unfold fX10_read at h
  refine g_iload_n C dX10_read_0 1 rfl ?_
  refine g_if_lt C 12 dX10_read_1 rfl (fun q => ?_) (fun q => ?_)
  · replace h := ip q h
    refine g_bipush (v := -2) C dX10_read_12 (by decide) ?_
    cases h
    exact g_ireturn C rfl dX10_read_14
  · replace h := iq q h
    refine g_iload_n C dX10_read_4 1 rfl ?_
    refine g_aload_n C dX10_read_5 0 rfl ?_
    refine g_geti (j := 2) C s_a0 (by decide) rfl uwX10 (by decide) rfl lfX10_76 rfl dX10_read_6 ?_
    refine g_icmp_le C 15 dX10_read_9 rfl (fun q => ?_) (fun q => ?_)
    · replace h := ip q h
      refine g_aload_n C dX10_read_15 0 rfl ?_
      refine g_iconst (v := 0) C dX10_read_16 (by decide) ?_
      refine g_puti (j := 2) C s_a0 (by decide) rfl uwX10 tyX10_ok nmX10 (by decide) rfl lfX10_76 rfl rfl rfl (fun _ _ => rfl) (fun _ _ => Nat.le_of_ble_eq_true rfl) dX10_read_17 ?_
      obtain ⟨μ1, e_μ1, h⟩ := nm h
      refine g_mu e_μ1 ?_
      refine g_aload_n C dX10_read_20 0 rfl ?_
      refine g_iconst (v := 0) C dX10_read_21 (by decide) ?_
      refine g_puti (j := 4) C s_a0 (by decide) rfl uwX10 tyX10_ok nmX10 (by decide) rfl lfX10_16 rfl rfl rfl (fun _ _ => rfl) (fun _ _ => Nat.le_of_ble_eq_true rfl) dX10_read_22 ?_
      obtain ⟨μ2, e_μ2, h⟩ := nm h
      refine g_mu e_μ2 ?_
      refine g_aload_n C dX10_read_25 0 rfl ?_
      refine g_iconst (v := -1) C dX10_read_26 (by decide) ?_
      refine g_puti (j := 5) C s_a0 (by decide) rfl uwX10 tyX10_ok nmX10 (by decide) rfl lfX10_20 rfl rfl rfl (fun _ _ => rfl) (fun _ _ => Nat.le_of_ble_eq_true rfl) dX10_read_27 ?_
      obtain ⟨μ3, e_μ3, h⟩ := nm h
      refine g_mu e_μ3 ?_
      refine g_aload_n C dX10_read_30 0 rfl ?_
      refine g_iconst (v := 0) C dX10_read_31 (by decide) ?_
      refine g_puti (j := 12) C s_a0 (by decide) rfl uwX10 tyX10_ok nmX10 (by decide) rfl lfX10_90 rfl rfl rfl (fun _ _ => rfl) (fun _ _ => Nat.le_of_ble_eq_true rfl) dX10_read_32 ?_
      obtain ⟨μ4, e_μ4, h⟩ := nm h
      refine g_mu e_μ4 ?_
      refine g_aload_n C dX10_read_35 0 rfl ?_
      refine g_iload_n C dX10_read_36 1 rfl ?_
      refine g_puti (j := 13) C s_a0 (by decide) rfl uwX10 tyX10_ok nmX10 (by decide) rfl lfX10_93 rfl rfl rfl (fun _ _ => rfl) (fun _ _ => Nat.le_of_ble_eq_true rfl) dX10_read_37 ?_
      obtain ⟨μ5, e_μ5, h⟩ := nm h
      refine g_mu e_μ5 ?_
      refine g_aload_n C dX10_read_40 0 rfl ?_
      refine g_iconst (v := 1) C dX10_read_41 (by decide) ?_
      refine g_aload_n C dX10_read_42 0 rfl ?_
      refine g_geti (j := 6) C s_a0 (by decide) rfl uwX10 (by decide) rfl lfX10_66 rfl dX10_read_43 ?_
      refine g_isub C dX10_read_46 ?_
      refine g_puti (j := 14) C s_a0 (by decide) rfl uwX10 tyX10_ok nmX10 (by decide) rfl lfX10_103 rfl rfl rfl (fun _ _ => rfl) (fun _ _ => Nat.le_of_ble_eq_true rfl) dX10_read_47 ?_
      obtain ⟨μ6, e_μ6, h⟩ := nm h
      refine g_mu e_μ6 ?_
      refine g_aload_n C dX10_read_50 0 rfl ?_
      obtain ⟨μ7, e_μ7, h⟩ := bs h
      refine g_callVV C (kX10_readHead s_a0 e_μ7) miX10_readHead lmX10_106 s_a0 (by decide) rfl rfl rfl (Nat.le_of_ble_eq_true rfl) dX10_read_51 ⟨by decide, by decide⟩ ⟨Nat.zero_le _, Nat.zero_le _⟩ ?_
      refine g_aload_n C dX10_read_54 0 rfl ?_
      obtain ⟨μ8, e_μ8, h⟩ := bs h
      refine g_callVV C (kX10_readBlocks s_a0 e_μ8) miX10_readBlocks lmX10_109 s_a0 (by decide) rfl rfl rfl (Nat.le_of_ble_eq_true rfl) dX10_read_55 ⟨by decide, by decide⟩ ⟨Nat.zero_le _, Nat.zero_le _⟩ ?_
      refine g_aload_n C dX10_read_58 0 rfl ?_
      obtain ⟨x9, e_x9, h⟩ := nm h
      refine g_callVI C (kX10_good s_a0 e_x9.symm) miX10_good lmX10_86 s_a0 (by decide) rfl rfl rfl (Nat.le_of_ble_eq_true rfl) dX10_read_59 ⟨by decide, by decide⟩ ⟨Nat.zero_le _, Nat.zero_le _⟩ ?_
      refine g_if_ne C 67 dX10_read_62 rfl (fun q => ?_) (fun q => ?_)
      · replace h := iq q h
        refine g_aload_n C dX10_read_67 0 rfl ?_
        refine g_aload_n C dX10_read_68 0 rfl ?_
        refine g_geti (j := 14) C s_a0 (by decide) rfl uwX10 (by decide) rfl lfX10_103 rfl dX10_read_69 ?_
        refine g_puti (j := 6) C s_a0 (by decide) rfl uwX10 tyX10_ok nmX10 (by decide) rfl lfX10_66 rfl rfl rfl (fun _ _ => rfl) (fun _ _ => Nat.le_of_ble_eq_true rfl) dX10_read_72 ?_
        obtain ⟨μ10, e_μ10, h⟩ := nm h
        refine g_mu e_μ10 ?_
        refine g_aload_n C dX10_read_75 0 rfl ?_
        obtain ⟨x11, e_x11, h⟩ := bs h
        refine g_callVI C (kX10_frames s_a0 e_x11) miX10_frames lmX10_69 s_a0 (by decide) rfl rfl rfl (Nat.le_of_ble_eq_true rfl) dX10_read_76 ⟨by decide, by decide⟩ ⟨Nat.zero_le _, Nat.zero_le _⟩ ?_
        cases h
        exact g_ireturn C rfl dX10_read_79
      · replace h := ip q h
        refine g_iconst (v := -1) C dX10_read_65 (by decide) ?_
        cases h
        exact g_ireturn C rfl dX10_read_66
    · replace h := iq q h
      refine g_bipush (v := -2) C dX10_read_12 (by decide) ?_
      cases h
      exact g_ireturn C rfl dX10_read_14
theorem miX10_read : MI yX10_read cX10_read 2 (some .int) RX10 1 := ⟨wcX10_read, wmX10_read, wsX10_read, wiX10, by decide +kernel⟩
theorem kX10_read {l : Launch} {D : va_G} {cA : Nat → ClassId} {tS : Nat → Nat} {σ : Sg} {a0 : Nat} {v1 : Int32} {μ : Mm} {fu : Nat} {q : Int32 × Mm} (s_a0 : σ a0 = some (10, 0)) (h : fX10_read fu a0 v1 μ = some q) : Ct l D cA tS σ yX10_read cX10_read 2 (some .int) (rmO 6 160) [.ref a0, .int v1] μ (QI D cA σ q.1 q.2) :=
  Ct.of (by decide) (Nat.le_of_ble_eq_true rfl) (fun _ _ _ _ _ _ _ _ C => wX10_read C _ _ _ s_a0 h)
set_option maxRecDepth 100000 in
set_option maxHeartbeats 4000000 in
theorem wX10_fault {p : Program} {l : Launch} {e : Env} {s : State} {m : MethodId} {args : Array Value} {below : List Frame} {meth : Method} {c : Code} {D : va_G} {cA : Nat → ClassId} {tS : Nat → Nat} {σ : Sg} {q : Int32} (C : Cx p s m args meth c (dm σ) D cA tS σ cX10_fault (some .int) 2 RX10) (a0 : Nat) (v1 : Int32) (μ : Mm) (s_a0 : σ a0 = some (10, 0)) (h : fX10_fault a0 v1 μ = q) : GG p l e (rmO 0 0) s m args below meth c 0 0 (dm σ) D cA σ 2 (MQ below (QI D cA σ q μ) args s 0 0 (dm σ)) 0 [(0, .ref a0), (1, .int v1)] [] μ := by
  unfold fX10_fault at h
  refine g_iload_n C dX10_fault_0 1 rfl ?_
  refine g_if_ne C 11 dX10_fault_1 rfl (fun q => ?_) (fun q => ?_)
  · replace h := iq q h
    refine g_iload_n C dX10_fault_11 1 rfl ?_
    refine g_iconst (v := 1) C dX10_fault_12 (by decide) ?_
    refine g_icmp_ne C 23 dX10_fault_13 rfl (fun q => ?_) (fun q => ?_)
    · replace h := iq q h
      refine g_iconst (v := -1) C dX10_fault_23 (by decide) ?_
      subst h
      exact g_ireturn C rfl dX10_fault_24
    · replace h := ip q h
      refine g_aload_n C dX10_fault_16 0 rfl ?_
      refine g_geti (j := 5) C s_a0 (by decide) rfl uwX10 (by decide) rfl lfX10_20 rfl dX10_fault_17 ?_
      refine g_goto C 24 dX10_fault_20 rfl ?_
      subst h
      exact g_ireturn C rfl dX10_fault_24
  · replace h := ip q h
    refine g_aload_n C dX10_fault_4 0 rfl ?_
    refine g_geti (j := 4) C s_a0 (by decide) rfl uwX10 (by decide) rfl lfX10_16 rfl dX10_fault_5 ?_
    refine g_goto C 24 dX10_fault_8 rfl ?_
    subst h
    exact g_ireturn C rfl dX10_fault_24
theorem miX10_fault : MI yX10_fault cX10_fault 2 (some .int) RX10 1 := ⟨wcX10_fault, wmX10_fault, wsX10_fault, wiX10, by decide +kernel⟩
theorem kX10_fault {l : Launch} {D : va_G} {cA : Nat → ClassId} {tS : Nat → Nat} {σ : Sg} {a0 : Nat} {v1 : Int32} {μ : Mm} {q : Int32} (s_a0 : σ a0 = some (10, 0)) (h : fX10_fault a0 v1 μ = q) : Ct l D cA tS σ yX10_fault cX10_fault 2 (some .int) (rmO 0 0) [.ref a0, .int v1] μ (QI D cA σ q μ) :=
  Ct.of (by decide) (Nat.le_of_ble_eq_true rfl) (fun _ _ _ _ _ _ _ _ C => wX10_fault C _ _ _ s_a0 h)
set_option maxRecDepth 100000 in
set_option maxHeartbeats 4000000 in
theorem wX10_isTable {p : Program} {l : Launch} {e : Env} {s : State} {m : MethodId} {args : Array Value} {below : List Frame} {meth : Method} {c : Code} {D : va_G} {cA : Nat → ClassId} {tS : Nat → Nat} {σ : Sg} {μ0 : Mm} {q : Int32} (C : Cx p s m args meth c (dm σ) D cA tS σ cX10_isTable (some .boolean) 1 RX10) (v0 : Int32) (h : fX10_isTable v0 = q) : GG p l e (rmO 0 0) s m args below meth c 0 0 (dm σ) D cA σ 1 (MQ below (QI D cA σ q μ0) args s 0 0 (dm σ)) 0 [(0, .int v0)] [] μ0 := by
  unfold fX10_isTable at h
  refine g_iload_n C dX10_isTable_0 0 rfl ?_
  refine g_if_eq C 24 dX10_isTable_1 rfl (fun q => ?_) (fun q => ?_)
  · replace h := ip q h
    refine g_iconst (v := 1) C dX10_isTable_24 (by decide) ?_
    refine g_goto C 29 dX10_isTable_25 rfl ?_
    subst h
    exact g_zreturn (r := 1) C rfl dX10_isTable_29
  · replace h := iq q h
    refine g_iload_n C dX10_isTable_4 0 rfl ?_
    refine g_iconst (v := 2) C dX10_isTable_5 (by decide) ?_
    refine g_icmp_lt C 28 dX10_isTable_6 rfl (fun q => ?_) (fun q => ?_)
    · replace h := ip q h
      refine g_iconst (v := 0) C dX10_isTable_28 (by decide) ?_
      subst h
      exact g_zreturn (r := 0) C rfl dX10_isTable_29
    · replace h := iq q h
      refine g_iload_n C dX10_isTable_9 0 rfl ?_
      refine g_sipush (v := 256) C dX10_isTable_10 (by decide) ?_
      refine g_icmp_gt C 28 dX10_isTable_13 rfl (fun q => ?_) (fun q => ?_)
      · replace h := ip q h
        refine g_iconst (v := 0) C dX10_isTable_28 (by decide) ?_
        subst h
        exact g_zreturn (r := 0) C rfl dX10_isTable_29
      · replace h := iq q h
        refine g_iload_n C dX10_isTable_16 0 rfl ?_
        refine g_iload_n C dX10_isTable_17 0 rfl ?_
        refine g_iconst (v := 1) C dX10_isTable_18 (by decide) ?_
        refine g_isub C dX10_isTable_19 ?_
        refine g_iand C dX10_isTable_20 ?_
        refine g_if_ne C 28 dX10_isTable_21 rfl (fun q => ?_) (fun q => ?_)
        · replace h := iq q h
          refine g_iconst (v := 0) C dX10_isTable_28 (by decide) ?_
          subst h
          exact g_zreturn (r := 0) C rfl dX10_isTable_29
        · replace h := ip q h
          refine g_iconst (v := 1) C dX10_isTable_24 (by decide) ?_
          refine g_goto C 29 dX10_isTable_25 rfl ?_
          subst h
          exact g_zreturn (r := 1) C rfl dX10_isTable_29
theorem msX10_isTable : MS yX10_isTable cX10_isTable 1 (some .boolean) 1 := ⟨wcX10_isTable, wtX10_isTable, wiX10, by decide +kernel⟩
theorem kX10_isTable {l : Launch} {D : va_G} {cA : Nat → ClassId} {tS : Nat → Nat} {σ : Sg} {v0 : Int32} {μ0 : Mm} {q : Int32} (h : fX10_isTable v0 = q) : Ct l D cA tS σ yX10_isTable cX10_isTable 1 (some .boolean) (rmO 0 0) [.int v0] μ0 (QI D cA σ q μ0) :=
  Ct.of (by decide) (Nat.le_of_ble_eq_true rfl) (fun _ _ _ _ _ _ _ _ C => wX10_isTable C _  h)
set_option maxRecDepth 100000 in
set_option maxHeartbeats 4000000 in
theorem wX10_isWithin {p : Program} {l : Launch} {e : Env} {s : State} {m : MethodId} {args : Array Value} {below : List Frame} {meth : Method} {c : Code} {D : va_G} {cA : Nat → ClassId} {tS : Nat → Nat} {σ : Sg} {μ0 : Mm} {q : Int32} (C : Cx p s m args meth c (dm σ) D cA tS σ cX10_isWithin (some .boolean) 3 RX10) (v0 : Int32) (v1 : Int32) (v2 : Int32) (h : fX10_isWithin v0 v1 v2 = q) : GG p l e (rmO 0 0) s m args below meth c 0 0 (dm σ) D cA σ 3 (MQ below (QI D cA σ q μ0) args s 0 0 (dm σ)) 0 [(0, .int v0), (1, .int v1), (2, .int v2)] [] μ0 := by
  unfold fX10_isWithin at h
  refine g_iload_n C dX10_isWithin_0 0 rfl ?_
  refine g_iload_n C dX10_isWithin_1 1 rfl ?_
  refine g_icmp_lt C 14 dX10_isWithin_2 rfl (fun q => ?_) (fun q => ?_)
  · replace h := ip q h
    refine g_iconst (v := 0) C dX10_isWithin_14 (by decide) ?_
    subst h
    exact g_zreturn (r := 0) C rfl dX10_isWithin_15
  · replace h := iq q h
    refine g_iload_n C dX10_isWithin_5 0 rfl ?_
    refine g_iload_n C dX10_isWithin_6 2 rfl ?_
    refine g_icmp_gt C 14 dX10_isWithin_7 rfl (fun q => ?_) (fun q => ?_)
    · replace h := ip q h
      refine g_iconst (v := 0) C dX10_isWithin_14 (by decide) ?_
      subst h
      exact g_zreturn (r := 0) C rfl dX10_isWithin_15
    · replace h := iq q h
      refine g_iconst (v := 1) C dX10_isWithin_10 (by decide) ?_
      refine g_goto C 15 dX10_isWithin_11 rfl ?_
      subst h
      exact g_zreturn (r := 1) C rfl dX10_isWithin_15
theorem msX10_isWithin : MS yX10_isWithin cX10_isWithin 3 (some .boolean) 3 := ⟨wcX10_isWithin, wtX10_isWithin, wiX10, by decide +kernel⟩
theorem kX10_isWithin {l : Launch} {D : va_G} {cA : Nat → ClassId} {tS : Nat → Nat} {σ : Sg} {v0 : Int32} {v1 : Int32} {v2 : Int32} {μ0 : Mm} {q : Int32} (h : fX10_isWithin v0 v1 v2 = q) : Ct l D cA tS σ yX10_isWithin cX10_isWithin 3 (some .boolean) (rmO 0 0) [.int v0, .int v1, .int v2] μ0 (QI D cA σ q μ0) :=
  Ct.of (by decide) (Nat.le_of_ble_eq_true rfl) (fun _ _ _ _ _ _ _ _ C => wX10_isWithin C _ _ _  h)
set_option maxRecDepth 100000 in
set_option maxHeartbeats 4000000 in
theorem wX10_begin_B133 {p : Program} {l : Launch} {e : Env} {s : State} {m : MethodId} {args : Array Value} {below : List Frame} {meth : Method} {c : Code} {D : va_G} {cA : Nat → ClassId} {tS : Nat → Nat} {σ : Sg} {rec133 : Nat → Int32 → Mm → Option (Int32 × Mm)} {fu : Nat} {q : Int32 × Mm} (C : Cx p s m args meth c (dm σ) D cA tS σ cX10_begin (some .boolean) 6 RX10) (hrec133 : ∀ (y0 : Nat) (y5 : Int32) (μ : Mm), σ y0 = some (10, 0) → rec133 y0 y5 μ = some q → GG p l e (rmO 1 22) s m args below meth c 0 0 (dm σ) D cA σ 6 (MQ below (QI D cA σ q.1 q.2) args s 0 0 (dm σ)) 133 [(0, .ref y0), (5, .int y5)] [] μ) (a0 : Nat) (v5 : Int32) (μ : Mm) (s_a0 : σ a0 = some (10, 0)) (h : fX10_begin_B133 rec133 fu a0 v5 μ = some q) : GG p l e (rmO 1 22) s m args below meth c 0 0 (dm σ) D cA σ 6 (MQ below (QI D cA σ q.1 q.2) args s 0 0 (dm σ)) 133 [(0, .ref a0), (5, .int v5)] [] μ := by
  unfold fX10_begin_B133 at h
  refine g_iload C dX10_begin_133 1 rfl ?_
  refine g_sipush (v := 256) C dX10_begin_135 (by decide) ?_
  refine g_icmp_ge C 164 dX10_begin_138 rfl (fun q => ?_) (fun q => ?_)
  · replace h := ip q h
    refine g_iconst (v := 1) C dX10_begin_164 (by decide) ?_
    cases h
    exact g_zreturn (r := 1) C rfl dX10_begin_165
  · replace h := iq q h
    refine g_aload_n C dX10_begin_141 0 rfl ?_
    refine g_wt (fun hT_μ => ?_)
    refine g_getr (j := 8) C s_a0 (by decide) rfl uwX10 (by decide) rfl lfX10_27 rfl dX10_begin_142 ?_
    refine g_sipush (v := 256) C dX10_begin_145 (by decide) ?_
    refine g_aload_n C dX10_begin_148 0 rfl ?_
    refine g_geti (j := 6) C s_a0 (by decide) rfl uwX10 (by decide) rfl lfX10_66 rfl dX10_begin_149 ?_
    refine g_imul C dX10_begin_152 ?_
    refine g_iload C dX10_begin_153 1 rfl ?_
    refine g_iadd C dX10_begin_155 ?_
    refine g_iconst (v := 0) C dX10_begin_156 (by decide) ?_
    obtain ⟨hg, h⟩ := gs h
    refine g_iast C (hT_μ.1 _ _ 8 _ s_a0 rfl) (ib_in hg) dX10_begin_157 ?_
    obtain ⟨μ1, e_μ1, h⟩ := nm h
    refine g_mu e_μ1 ?_
    obtain ⟨x2, e_x2, h⟩ := nm h
    refine g_iinc (v := x2) (lv' := [(5, .int x2), (0, .ref a0)]) C dX10_begin_158 (by decide) 1 rfl 1 (by decide) e_x2.symm rfl ?_
    refine g_goto C 133 dX10_begin_161 rfl ?_
    exact g_lv [1, 0] rfl (hrec133 _ _ _ s_a0 h)
theorem wX10_begin_L133 {p : Program} {l : Launch} {e : Env} {s : State} {m : MethodId} {args : Array Value} {below : List Frame} {meth : Method} {c : Code} {D : va_G} {cA : Nat → ClassId} {tS : Nat → Nat} {σ : Sg} {fu : Nat} {q : Int32 × Mm} (C : Cx p s m args meth c (dm σ) D cA tS σ cX10_begin (some .boolean) 6 RX10) : ∀ (n : Nat) (a0 : Nat) (v5 : Int32) (μ : Mm), (σ a0 = some (10, 0)) → fX10_begin_L133 fu n a0 v5 μ = some q → GG p l e (rmO 1 22) s m args below meth c 0 0 (dm σ) D cA σ 6 (MQ below (QI D cA σ q.1 q.2) args s 0 0 (dm σ)) 133 [(0, .ref a0), (5, .int v5)] [] μ := by
  intro n
  induction n with
  | zero => intro a0 v5 μ s_a0 h; cases h
  | succ n ih => intro a0 v5 μ s_a0 h; exact wX10_begin_B133 C (fun _ _ _ k0 h => ih _ _ _ k0 h) _ _ _ s_a0 h
set_option maxRecDepth 100000 in
set_option maxHeartbeats 4000000 in
theorem wX10_begin {p : Program} {l : Launch} {e : Env} {s : State} {m : MethodId} {args : Array Value} {below : List Frame} {meth : Method} {c : Code} {D : va_G} {cA : Nat → ClassId} {tS : Nat → Nat} {σ : Sg} {fu : Nat} {q : Int32 × Mm} (C : Cx p s m args meth c (dm σ) D cA tS σ cX10_begin (some .boolean) 6 RX10) (a0 : Nat) (v1 : Int32) (v2 : Int32) (v3 : Int32) (v4 : Int32) (μ : Mm) (s_a0 : σ a0 = some (10, 0)) (h : fX10_begin fu a0 v1 v2 v3 v4 μ = some q) : GG p l e (rmO 1 22) s m args below meth c 0 0 (dm σ) D cA σ 6 (MQ below (QI D cA σ q.1 q.2) args s 0 0 (dm σ)) 0 [(0, .ref a0), (1, .int v1), (2, .int v2), (3, .int v3), (4, .int v4)] [] μ := by
  unfold fX10_begin at h
  refine g_iload_n C dX10_begin_0 1 rfl ?_
  refine g_iconst (v := 1) C dX10_begin_1 (by decide) ?_
  refine g_bipush (v := 64) C dX10_begin_2 (by decide) ?_
  obtain ⟨x1, e_x1, h⟩ := nm h
  refine g_callSI C (kX10_isWithin e_x1.symm) msX10_isWithin lmX10_221 rfl rfl (Nat.le_of_ble_eq_true rfl) dX10_begin_4 ⟨by decide, by decide⟩ ⟨Nat.zero_le _, Nat.zero_le _⟩ ?_
  refine g_if_eq C 39 dX10_begin_7 rfl (fun q => ?_) (fun q => ?_)
  · replace h := ip q h
    refine g_iconst (v := 0) C dX10_begin_39 (by decide) ?_
    cases h
    exact g_zreturn (r := 0) C rfl dX10_begin_40
  · replace h := iq q h
    refine g_iload_n C dX10_begin_10 2 rfl ?_
    refine g_iconst (v := 1) C dX10_begin_11 (by decide) ?_
    refine g_bipush (v := 64) C dX10_begin_12 (by decide) ?_
    obtain ⟨x2, e_x2, h⟩ := nm h
    refine g_callSI C (kX10_isWithin e_x2.symm) msX10_isWithin lmX10_221 rfl rfl (Nat.le_of_ble_eq_true rfl) dX10_begin_14 ⟨by decide, by decide⟩ ⟨Nat.zero_le _, Nat.zero_le _⟩ ?_
    refine g_if_eq C 39 dX10_begin_17 rfl (fun q => ?_) (fun q => ?_)
    · replace h := ip q h
      refine g_iconst (v := 0) C dX10_begin_39 (by decide) ?_
      cases h
      exact g_zreturn (r := 0) C rfl dX10_begin_40
    · replace h := iq q h
      refine g_iload_n C dX10_begin_20 3 rfl ?_
      obtain ⟨x3, e_x3, h⟩ := nm h
      refine g_callSI C (kX10_isTable e_x3.symm) msX10_isTable lmX10_225 rfl rfl (Nat.le_of_ble_eq_true rfl) dX10_begin_21 ⟨by decide, by decide⟩ ⟨Nat.zero_le _, Nat.zero_le _⟩ ?_
      refine g_if_eq C 39 dX10_begin_24 rfl (fun q => ?_) (fun q => ?_)
      · replace h := ip q h
        refine g_iconst (v := 0) C dX10_begin_39 (by decide) ?_
        cases h
        exact g_zreturn (r := 0) C rfl dX10_begin_40
      · replace h := iq q h
        refine g_iload C dX10_begin_27 4 rfl ?_
        refine g_iconst (v := 0) C dX10_begin_29 (by decide) ?_
        refine g_sipush (v := 255) C dX10_begin_30 (by decide) ?_
        obtain ⟨x4, e_x4, h⟩ := nm h
        refine g_callSI C (kX10_isWithin e_x4.symm) msX10_isWithin lmX10_221 rfl rfl (Nat.le_of_ble_eq_true rfl) dX10_begin_33 ⟨by decide, by decide⟩ ⟨Nat.zero_le _, Nat.zero_le _⟩ ?_
        refine g_if_ne C 41 dX10_begin_36 rfl (fun q => ?_) (fun q => ?_)
        · replace h := iq q h
          refine g_aload_n C dX10_begin_41 0 rfl ?_
          refine g_wt (fun hT_μ => ?_)
          refine g_getr (j := 7) C s_a0 (by decide) rfl uwX10 (by decide) rfl lfX10_23 rfl dX10_begin_42 ?_
          refine g_bipush (v := 6) C dX10_begin_45 (by decide) ?_
          refine g_aload_n C dX10_begin_47 0 rfl ?_
          refine g_geti (j := 6) C s_a0 (by decide) rfl uwX10 (by decide) rfl lfX10_66 rfl dX10_begin_48 ?_
          refine g_imul C dX10_begin_51 ?_
          refine g_iload_n C dX10_begin_52 1 rfl ?_
          obtain ⟨hg, h⟩ := gs h
          refine g_iast C (hT_μ.1 _ _ 7 _ s_a0 rfl) (ib_in hg) dX10_begin_53 ?_
          obtain ⟨μ5, e_μ5, h⟩ := nm h
          refine g_mu e_μ5 ?_
          refine g_aload_n C dX10_begin_54 0 rfl ?_
          refine g_wt (fun hT_μ5 => ?_)
          refine g_getr (j := 7) C s_a0 (by decide) rfl uwX10 (by decide) rfl lfX10_23 rfl dX10_begin_55 ?_
          refine g_bipush (v := 6) C dX10_begin_58 (by decide) ?_
          refine g_aload_n C dX10_begin_60 0 rfl ?_
          refine g_geti (j := 6) C s_a0 (by decide) rfl uwX10 (by decide) rfl lfX10_66 rfl dX10_begin_61 ?_
          refine g_imul C dX10_begin_64 ?_
          refine g_iconst (v := 1) C dX10_begin_65 (by decide) ?_
          refine g_iadd C dX10_begin_66 ?_
          refine g_iload_n C dX10_begin_67 2 rfl ?_
          obtain ⟨hg, h⟩ := gs h
          refine g_iast C (hT_μ5.1 _ _ 7 _ s_a0 rfl) (ib_in hg) dX10_begin_68 ?_
          obtain ⟨μ6, e_μ6, h⟩ := nm h
          refine g_mu e_μ6 ?_
          refine g_aload_n C dX10_begin_69 0 rfl ?_
          refine g_wt (fun hT_μ6 => ?_)
          refine g_getr (j := 7) C s_a0 (by decide) rfl uwX10 (by decide) rfl lfX10_23 rfl dX10_begin_70 ?_
          refine g_bipush (v := 6) C dX10_begin_73 (by decide) ?_
          refine g_aload_n C dX10_begin_75 0 rfl ?_
          refine g_geti (j := 6) C s_a0 (by decide) rfl uwX10 (by decide) rfl lfX10_66 rfl dX10_begin_76 ?_
          refine g_imul C dX10_begin_79 ?_
          refine g_iconst (v := 2) C dX10_begin_80 (by decide) ?_
          refine g_iadd C dX10_begin_81 ?_
          refine g_iload_n C dX10_begin_82 3 rfl ?_
          obtain ⟨hg, h⟩ := gs h
          refine g_iast C (hT_μ6.1 _ _ 7 _ s_a0 rfl) (ib_in hg) dX10_begin_83 ?_
          obtain ⟨μ7, e_μ7, h⟩ := nm h
          refine g_mu e_μ7 ?_
          refine g_aload_n C dX10_begin_84 0 rfl ?_
          refine g_wt (fun hT_μ7 => ?_)
          refine g_getr (j := 7) C s_a0 (by decide) rfl uwX10 (by decide) rfl lfX10_23 rfl dX10_begin_85 ?_
          refine g_bipush (v := 6) C dX10_begin_88 (by decide) ?_
          refine g_aload_n C dX10_begin_90 0 rfl ?_
          refine g_geti (j := 6) C s_a0 (by decide) rfl uwX10 (by decide) rfl lfX10_66 rfl dX10_begin_91 ?_
          refine g_imul C dX10_begin_94 ?_
          refine g_iconst (v := 3) C dX10_begin_95 (by decide) ?_
          refine g_iadd C dX10_begin_96 ?_
          refine g_iload C dX10_begin_97 4 rfl ?_
          obtain ⟨hg, h⟩ := gs h
          refine g_iast C (hT_μ7.1 _ _ 7 _ s_a0 rfl) (ib_in hg) dX10_begin_99 ?_
          obtain ⟨μ8, e_μ8, h⟩ := nm h
          refine g_mu e_μ8 ?_
          refine g_aload_n C dX10_begin_100 0 rfl ?_
          refine g_wt (fun hT_μ8 => ?_)
          refine g_getr (j := 7) C s_a0 (by decide) rfl uwX10 (by decide) rfl lfX10_23 rfl dX10_begin_101 ?_
          refine g_bipush (v := 6) C dX10_begin_104 (by decide) ?_
          refine g_aload_n C dX10_begin_106 0 rfl ?_
          refine g_geti (j := 6) C s_a0 (by decide) rfl uwX10 (by decide) rfl lfX10_66 rfl dX10_begin_107 ?_
          refine g_imul C dX10_begin_110 ?_
          refine g_iconst (v := 4) C dX10_begin_111 (by decide) ?_
          refine g_iadd C dX10_begin_112 ?_
          refine g_iconst (v := 0) C dX10_begin_113 (by decide) ?_
          obtain ⟨hg, h⟩ := gs h
          refine g_iast C (hT_μ8.1 _ _ 7 _ s_a0 rfl) (ib_in hg) dX10_begin_114 ?_
          obtain ⟨μ9, e_μ9, h⟩ := nm h
          refine g_mu e_μ9 ?_
          refine g_aload_n C dX10_begin_115 0 rfl ?_
          refine g_wt (fun hT_μ9 => ?_)
          refine g_getr (j := 7) C s_a0 (by decide) rfl uwX10 (by decide) rfl lfX10_23 rfl dX10_begin_116 ?_
          refine g_bipush (v := 6) C dX10_begin_119 (by decide) ?_
          refine g_aload_n C dX10_begin_121 0 rfl ?_
          refine g_geti (j := 6) C s_a0 (by decide) rfl uwX10 (by decide) rfl lfX10_66 rfl dX10_begin_122 ?_
          refine g_imul C dX10_begin_125 ?_
          refine g_iconst (v := 5) C dX10_begin_126 (by decide) ?_
          refine g_iadd C dX10_begin_127 ?_
          refine g_iconst (v := 0) C dX10_begin_128 (by decide) ?_
          obtain ⟨hg, h⟩ := gs h
          refine g_iast C (hT_μ9.1 _ _ 7 _ s_a0 rfl) (ib_in hg) dX10_begin_129 ?_
          obtain ⟨μ10, e_μ10, h⟩ := nm h
          refine g_mu e_μ10 ?_
          refine g_iconst (v := 0) C dX10_begin_130 (by decide) ?_
          refine g_istore (lv' := [(5, .int 0), (0, .ref a0), (1, .int v1), (2, .int v2), (3, .int v3), (4, .int v4)]) C dX10_begin_131 (by decide) rfl ?_
          exact g_lv [1, 0] rfl (wX10_begin_L133 C fu _ _ _ s_a0 h)
        · replace h := ip q h
          refine g_iconst (v := 0) C dX10_begin_39 (by decide) ?_
          cases h
          exact g_zreturn (r := 0) C rfl dX10_begin_40
theorem miX10_begin : MI yX10_begin cX10_begin 6 (some .boolean) RX10 4 := ⟨wcX10_begin, wmX10_begin, wsX10_begin, wiX10, by decide +kernel⟩
theorem kX10_begin {l : Launch} {D : va_G} {cA : Nat → ClassId} {tS : Nat → Nat} {σ : Sg} {a0 : Nat} {v1 : Int32} {v2 : Int32} {v3 : Int32} {v4 : Int32} {μ : Mm} {fu : Nat} {q : Int32 × Mm} (s_a0 : σ a0 = some (10, 0)) (h : fX10_begin fu a0 v1 v2 v3 v4 μ = some q) : Ct l D cA tS σ yX10_begin cX10_begin 6 (some .boolean) (rmO 1 22) [.ref a0, .int v1, .int v2, .int v3, .int v4] μ (QI D cA σ q.1 q.2) :=
  Ct.of (by decide) (Nat.le_of_ble_eq_true rfl) (fun _ _ _ _ _ _ _ _ C => wX10_begin C _ _ _ _ _ _ s_a0 h)
set_option maxRecDepth 100000 in
set_option maxHeartbeats 4000000 in
theorem wX10_isColour_L52 {p : Program} {l : Launch} {e : Env} {s : State} {m : MethodId} {args : Array Value} {below : List Frame} {meth : Method} {c : Code} {D : va_G} {cA : Nat → ClassId} {tS : Nat → Nat} {σ : Sg} {q : Int32} (C : Cx p s m args meth c (dm σ) D cA tS σ cX10_isColour (some .boolean) 3 RX10) (t0 : Int32) (t1 : Int32) (μ : Mm) (h : fX10_isColour_L52 t0 t1 μ = some q) : GG p l e (rmO 2 41) s m args below meth c 0 0 (dm σ) D cA σ 3 (MQ below (QI D cA σ q μ) args s 0 0 (dm σ)) 52 [] [.int t1, .int t0] μ := by
  unfold fX10_isColour_L52 at h
  refine g_icmp_ge C 59 dX10_isColour_52 rfl (fun q => ?_) (fun q => ?_)
  · replace h := ip q h
    refine g_iconst (v := 0) C dX10_isColour_59 (by decide) ?_
    cases h
    exact g_zreturn (r := 0) C rfl dX10_isColour_60
  · replace h := iq q h
    refine g_iconst (v := 1) C dX10_isColour_55 (by decide) ?_
    refine g_goto C 60 dX10_isColour_56 rfl ?_
    cases h
    exact g_zreturn (r := 1) C rfl dX10_isColour_60
set_option maxRecDepth 100000 in
set_option maxHeartbeats 4000000 in
theorem wX10_isColour_L15 {p : Program} {l : Launch} {e : Env} {s : State} {m : MethodId} {args : Array Value} {below : List Frame} {meth : Method} {c : Code} {D : va_G} {cA : Nat → ClassId} {tS : Nat → Nat} {σ : Sg} {q : Int32} (C : Cx p s m args meth c (dm σ) D cA tS σ cX10_isColour (some .boolean) 3 RX10) (a0 : Nat) (v1 : Int32) (v2 : Int32) (μ : Mm) (s_a0 : σ a0 = some (10, 0)) (h : fX10_isColour_L15 a0 v1 v2 μ = some q) : GG p l e (rmO 2 41) s m args below meth c 0 0 (dm σ) D cA σ 3 (MQ below (QI D cA σ q μ) args s 0 0 (dm σ)) 15 [(0, .ref a0), (1, .int v1), (2, .int v2)] [] μ := by
  unfold fX10_isColour_L15 at h
  refine g_iload_n C dX10_isColour_15 2 rfl ?_
  refine g_if_lt C 59 dX10_isColour_16 rfl (fun q => ?_) (fun q => ?_)
  · replace h := ip q h
    refine g_iconst (v := 0) C dX10_isColour_59 (by decide) ?_
    cases h
    exact g_zreturn (r := 0) C rfl dX10_isColour_60
  · replace h := iq q h
    refine g_iload_n C dX10_isColour_19 2 rfl ?_
    refine g_iload_n C dX10_isColour_20 1 rfl ?_
    refine g_iconst (v := -1) C dX10_isColour_21 (by decide) ?_
    refine g_icmp_ne C 42 dX10_isColour_22 rfl (fun q => ?_) (fun q => ?_)
    · replace h := iq q h
      refine g_aload_n C dX10_isColour_42 0 rfl ?_
      refine g_aload_n C dX10_isColour_43 0 rfl ?_
      refine g_geti (j := 6) C s_a0 (by decide) rfl uwX10 (by decide) rfl lfX10_66 rfl dX10_isColour_44 ?_
      refine g_iload_n C dX10_isColour_47 1 rfl ?_
      refine g_iconst (v := 4) C dX10_isColour_48 (by decide) ?_
      obtain ⟨x1, e_x1, h⟩ := bs h
      refine g_callVI C (kX10_field s_a0 e_x1) miX10_field lmX10_73 s_a0 (by decide) rfl rfl rfl (Nat.le_of_ble_eq_true rfl) dX10_isColour_49 ⟨by decide, by decide⟩ ⟨Nat.zero_le _, Nat.zero_le _⟩ ?_
      exact g_lv [] rfl (wX10_isColour_L52 C _ _ _ h)
    · replace h := ip q h
      refine g_aload_n C dX10_isColour_25 0 rfl ?_
      refine g_wt (fun hT_μ => ?_)
      refine g_getr (j := 7) C s_a0 (by decide) rfl uwX10 (by decide) rfl lfX10_23 rfl dX10_isColour_26 ?_
      refine g_bipush (v := 6) C dX10_isColour_29 (by decide) ?_
      refine g_aload_n C dX10_isColour_31 0 rfl ?_
      refine g_geti (j := 6) C s_a0 (by decide) rfl uwX10 (by decide) rfl lfX10_66 rfl dX10_isColour_32 ?_
      refine g_imul C dX10_isColour_35 ?_
      refine g_iconst (v := 2) C dX10_isColour_36 (by decide) ?_
      refine g_iadd C dX10_isColour_37 ?_
      obtain ⟨hg2, h⟩ := gs h
      refine g_iald C (hT_μ.1 _ _ 7 _ s_a0 rfl) (ib_in hg2) dX10_isColour_38 ?_
      refine g_goto C 52 dX10_isColour_39 rfl ?_
      exact g_lv [] rfl (wX10_isColour_L52 C _ _ _ h)
set_option maxRecDepth 100000 in
set_option maxHeartbeats 4000000 in
theorem wX10_isColour {p : Program} {l : Launch} {e : Env} {s : State} {m : MethodId} {args : Array Value} {below : List Frame} {meth : Method} {c : Code} {D : va_G} {cA : Nat → ClassId} {tS : Nat → Nat} {σ : Sg} {q : Int32} (C : Cx p s m args meth c (dm σ) D cA tS σ cX10_isColour (some .boolean) 3 RX10) (a0 : Nat) (v1 : Int32) (v2 : Int32) (μ : Mm) (s_a0 : σ a0 = some (10, 0)) (h : fX10_isColour a0 v1 v2 μ = some q) : GG p l e (rmO 2 41) s m args below meth c 0 0 (dm σ) D cA σ 3 (MQ below (QI D cA σ q μ) args s 0 0 (dm σ)) 0 [(0, .ref a0), (1, .int v1), (2, .int v2)] [] μ := by
  unfold fX10_isColour at h
  refine g_iload_n C dX10_isColour_0 1 rfl ?_
  refine g_iconst (v := -1) C dX10_isColour_1 (by decide) ?_
  refine g_icmp_eq C 15 dX10_isColour_2 rfl (fun q => ?_) (fun q => ?_)
  · replace h := ip q h
    exact g_lv [0, 1, 2] rfl (wX10_isColour_L15 C _ _ _ _ s_a0 h)
  · replace h := iq q h
    refine g_aload_n C dX10_isColour_5 0 rfl ?_
    refine g_iload_n C dX10_isColour_6 1 rfl ?_
    obtain ⟨x1, e_x1, h⟩ := bs h
    refine g_callVI C (kX10_isFrame s_a0 e_x1) miX10_isFrame lmX10_229 s_a0 (by decide) rfl rfl rfl (Nat.le_of_ble_eq_true rfl) dX10_isColour_7 ⟨by decide, by decide⟩ ⟨Nat.zero_le _, Nat.zero_le _⟩ ?_
    refine g_if_ne C 15 dX10_isColour_10 rfl (fun q => ?_) (fun q => ?_)
    · replace h := iq q h
      exact g_lv [0, 1, 2] rfl (wX10_isColour_L15 C _ _ _ _ s_a0 h)
    · replace h := ip q h
      refine g_iconst (v := 0) C dX10_isColour_13 (by decide) ?_
      cases h
      exact g_zreturn (r := 0) C rfl dX10_isColour_14
theorem miX10_isColour : MI yX10_isColour cX10_isColour 3 (some .boolean) RX10 2 := ⟨wcX10_isColour, wmX10_isColour, wsX10_isColour, wiX10, by decide +kernel⟩
theorem kX10_isColour {l : Launch} {D : va_G} {cA : Nat → ClassId} {tS : Nat → Nat} {σ : Sg} {a0 : Nat} {v1 : Int32} {v2 : Int32} {μ : Mm} {q : Int32} (s_a0 : σ a0 = some (10, 0)) (h : fX10_isColour a0 v1 v2 μ = some q) : Ct l D cA tS σ yX10_isColour cX10_isColour 3 (some .boolean) (rmO 2 41) [.ref a0, .int v1, .int v2] μ (QI D cA σ q μ) :=
  Ct.of (by decide) (Nat.le_of_ble_eq_true rfl) (fun _ _ _ _ _ _ _ _ C => wX10_isColour C _ _ _ _ s_a0 h)
set_option maxRecDepth 100000 in
set_option maxHeartbeats 4000000 in
theorem wX10_colour {p : Program} {l : Launch} {e : Env} {s : State} {m : MethodId} {args : Array Value} {below : List Frame} {meth : Method} {c : Code} {D : va_G} {cA : Nat → ClassId} {tS : Nat → Nat} {σ : Sg} {q : Int32 × Mm} (C : Cx p s m args meth c (dm σ) D cA tS σ cX10_colour (some .boolean) 4 RX10) (a0 : Nat) (v1 : Int32) (v2 : Int32) (v3 : Int32) (μ : Mm) (s_a0 : σ a0 = some (10, 0)) (h : fX10_colour a0 v1 v2 v3 μ = some q) : GG p l e (rmO 3 63) s m args below meth c 0 0 (dm σ) D cA σ 4 (MQ below (QI D cA σ q.1 q.2) args s 0 0 (dm σ)) 0 [(0, .ref a0), (1, .int v1), (2, .int v2), (3, .int v3)] [] μ := by
  unfold fX10_colour at h
  refine g_aload_n C dX10_colour_0 0 rfl ?_
  refine g_iload_n C dX10_colour_1 1 rfl ?_
  refine g_iload_n C dX10_colour_2 2 rfl ?_
  obtain ⟨x1, e_x1, h⟩ := bs h
  refine g_callVI C (kX10_isColour s_a0 e_x1) miX10_isColour lmX10_232 s_a0 (by decide) rfl rfl rfl (Nat.le_of_ble_eq_true rfl) dX10_colour_3 ⟨by decide, by decide⟩ ⟨Nat.zero_le _, Nat.zero_le _⟩ ?_
  refine g_if_eq C 19 dX10_colour_6 rfl (fun q => ?_) (fun q => ?_)
  · replace h := ip q h
    refine g_iconst (v := 0) C dX10_colour_19 (by decide) ?_
    cases h
    exact g_zreturn (r := 0) C rfl dX10_colour_20
  · replace h := iq q h
    refine g_iload_n C dX10_colour_9 3 rfl ?_
    refine g_iconst (v := 0) C dX10_colour_10 (by decide) ?_
    refine g_ldc C dX10_colour_11 lkX10_235 ?_
    obtain ⟨x2, e_x2, h⟩ := nm h
    refine g_callSI C (kX10_isWithin e_x2.symm) msX10_isWithin lmX10_221 rfl rfl (Nat.le_of_ble_eq_true rfl) dX10_colour_13 ⟨by decide, by decide⟩ ⟨Nat.zero_le _, Nat.zero_le _⟩ ?_
    refine g_if_ne C 21 dX10_colour_16 rfl (fun q => ?_) (fun q => ?_)
    · replace h := iq q h
      refine g_iload_n C dX10_colour_21 1 rfl ?_
      refine g_iconst (v := -1) C dX10_colour_22 (by decide) ?_
      refine g_icmp_ne C 45 dX10_colour_23 rfl (fun q => ?_) (fun q => ?_)
      · replace h := iq q h
        refine g_aload_n C dX10_colour_45 0 rfl ?_
        refine g_wt (fun hT_μ => ?_)
        refine g_getr (j := 10) C s_a0 (by decide) rfl uwX10 (by decide) rfl lfX10_33 rfl dX10_colour_46 ?_
        refine g_aload_n C dX10_colour_49 0 rfl ?_
        refine g_geti (j := 6) C s_a0 (by decide) rfl uwX10 (by decide) rfl lfX10_66 rfl dX10_colour_50 ?_
        refine g_iload_n C dX10_colour_53 1 rfl ?_
        refine g_iload_n C dX10_colour_54 2 rfl ?_
        obtain ⟨x3, e_x3, h⟩ := nm h
        refine g_callSI C (kX10_localAt e_x3.symm) msX10_localAt lmX10_160 rfl rfl (Nat.le_of_ble_eq_true rfl) dX10_colour_55 ⟨by decide, by decide⟩ ⟨Nat.zero_le _, Nat.zero_le _⟩ ?_
        refine g_iload_n C dX10_colour_58 3 rfl ?_
        obtain ⟨hg, h⟩ := gs h
        refine g_iast C (hT_μ.1 _ _ 10 _ s_a0 rfl) (ib_in hg) dX10_colour_59 ?_
        obtain ⟨μ4, e_μ4, h⟩ := nm h
        refine g_mu e_μ4 ?_
        refine g_iconst (v := 1) C dX10_colour_60 (by decide) ?_
        cases h
        exact g_zreturn (r := 1) C rfl dX10_colour_61
      · replace h := ip q h
        refine g_aload_n C dX10_colour_26 0 rfl ?_
        refine g_wt (fun hT_μ => ?_)
        refine g_getr (j := 8) C s_a0 (by decide) rfl uwX10 (by decide) rfl lfX10_27 rfl dX10_colour_27 ?_
        refine g_sipush (v := 256) C dX10_colour_30 (by decide) ?_
        refine g_aload_n C dX10_colour_33 0 rfl ?_
        refine g_geti (j := 6) C s_a0 (by decide) rfl uwX10 (by decide) rfl lfX10_66 rfl dX10_colour_34 ?_
        refine g_imul C dX10_colour_37 ?_
        refine g_iload_n C dX10_colour_38 2 rfl ?_
        refine g_iadd C dX10_colour_39 ?_
        refine g_iload_n C dX10_colour_40 3 rfl ?_
        obtain ⟨hg, h⟩ := gs h
        refine g_iast C (hT_μ.1 _ _ 8 _ s_a0 rfl) (ib_in hg) dX10_colour_41 ?_
        obtain ⟨μ5, e_μ5, h⟩ := nm h
        refine g_mu e_μ5 ?_
        refine g_goto C 60 dX10_colour_42 rfl ?_
        refine g_iconst (v := 1) C dX10_colour_60 (by decide) ?_
        cases h
        exact g_zreturn (r := 1) C rfl dX10_colour_61
    · replace h := ip q h
      refine g_iconst (v := 0) C dX10_colour_19 (by decide) ?_
      cases h
      exact g_zreturn (r := 0) C rfl dX10_colour_20
theorem miX10_colour : MI yX10_colour cX10_colour 4 (some .boolean) RX10 3 := ⟨wcX10_colour, wmX10_colour, wsX10_colour, wiX10, by decide +kernel⟩
theorem kX10_colour {l : Launch} {D : va_G} {cA : Nat → ClassId} {tS : Nat → Nat} {σ : Sg} {a0 : Nat} {v1 : Int32} {v2 : Int32} {v3 : Int32} {μ : Mm} {q : Int32 × Mm} (s_a0 : σ a0 = some (10, 0)) (h : fX10_colour a0 v1 v2 v3 μ = some q) : Ct l D cA tS σ yX10_colour cX10_colour 4 (some .boolean) (rmO 3 63) [.ref a0, .int v1, .int v2, .int v3] μ (QI D cA σ q.1 q.2) :=
  Ct.of (by decide) (Nat.le_of_ble_eq_true rfl) (fun _ _ _ _ _ _ _ _ C => wX10_colour C _ _ _ _ _ s_a0 h)
set_option maxRecDepth 100000 in
set_option maxHeartbeats 4000000 in
theorem wX10_frame_B293 {p : Program} {l : Launch} {e : Env} {s : State} {m : MethodId} {args : Array Value} {below : List Frame} {meth : Method} {c : Code} {D : va_G} {cA : Nat → ClassId} {tS : Nat → Nat} {σ : Sg} {rec293 : Nat → Int32 → Int32 → Int32 → Int32 → Mm → Option (Int32 × Mm)} {fu : Nat} {q : Int32 × Mm} (C : Cx p s m args meth c (dm σ) D cA tS σ cX10_frame (some .int) 11 RX10) (hrec293 : ∀ (y0 : Nat) (y3 : Int32) (y4 : Int32) (y7 : Int32) (y10 : Int32) (μ : Mm), σ y0 = some (10, 0) → rec293 y0 y3 y4 y7 y10 μ = some q → GG p l e (rmO 1 24) s m args below meth c 0 0 (dm σ) D cA σ 11 (MQ below (QI D cA σ q.1 q.2) args s 0 0 (dm σ)) 293 [(0, .ref y0), (3, .int y3), (4, .int y4), (7, .int y7), (10, .int y10)] [] μ) (a0 : Nat) (v3 : Int32) (v4 : Int32) (v7 : Int32) (v10 : Int32) (μ : Mm) (s_a0 : σ a0 = some (10, 0)) (h : fX10_frame_B293 rec293 fu a0 v3 v4 v7 v10 μ = some q) : GG p l e (rmO 1 24) s m args below meth c 0 0 (dm σ) D cA σ 11 (MQ below (QI D cA σ q.1 q.2) args s 0 0 (dm σ)) 293 [(0, .ref a0), (3, .int v3), (4, .int v4), (7, .int v7), (10, .int v10)] [] μ := by
  unfold fX10_frame_B293 at h
  refine g_iload C dX10_frame_293 4 rfl ?_
  refine g_iload_n C dX10_frame_295 1 rfl ?_
  refine g_iload C dX10_frame_296 2 rfl ?_
  refine g_imul C dX10_frame_298 ?_
  refine g_icmp_ge C 321 dX10_frame_299 rfl (fun q => ?_) (fun q => ?_)
  · replace h := ip q h
    refine g_aload_n C dX10_frame_321 0 rfl ?_
    refine g_wt (fun hT_μ => ?_)
    refine g_getr (j := 7) C s_a0 (by decide) rfl uwX10 (by decide) rfl lfX10_23 rfl dX10_frame_322 ?_
    refine g_bipush (v := 6) C dX10_frame_325 (by decide) ?_
    refine g_aload_n C dX10_frame_327 0 rfl ?_
    refine g_geti (j := 6) C s_a0 (by decide) rfl uwX10 (by decide) rfl lfX10_66 rfl dX10_frame_328 ?_
    refine g_imul C dX10_frame_331 ?_
    refine g_iconst (v := 5) C dX10_frame_332 (by decide) ?_
    refine g_iadd C dX10_frame_333 ?_
    obtain ⟨x1, e_x1, h⟩ := nm h
    refine g_topi e_x1 ?_
    obtain ⟨r2, e_r2, h⟩ := nm h
    refine g_top2r e_r2 ?_
    have s_r2 : σ r2 = some (11, 12) := by rw [e_r2]; exact (hT_μ.1 _ _ 7 _ s_a0 rfl)
    refine g_dup2 C dX10_frame_334 rfl rfl ?_
    obtain ⟨hg3, h⟩ := gs h
    refine g_iald C s_r2 (ib_in hg3) dX10_frame_335 ?_
    refine g_iconst (v := 1) C dX10_frame_336 (by decide) ?_
    refine g_iadd C dX10_frame_337 ?_
    obtain ⟨hg, h⟩ := gs h
    refine g_iast C s_r2 (ib_in hg) dX10_frame_338 ?_
    obtain ⟨μ4, e_μ4, h⟩ := nm h
    refine g_mu e_μ4 ?_
    refine g_iload C dX10_frame_339 3 rfl ?_
    cases h
    exact g_ireturn C rfl dX10_frame_341
  · replace h := iq q h
    refine g_aload_n C dX10_frame_302 0 rfl ?_
    refine g_aload_n C dX10_frame_303 0 rfl ?_
    refine g_geti (j := 6) C s_a0 (by decide) rfl uwX10 (by decide) rfl lfX10_66 rfl dX10_frame_304 ?_
    refine g_iload C dX10_frame_307 3 rfl ?_
    refine g_iload C dX10_frame_309 4 rfl ?_
    refine g_iconst (v := 0) C dX10_frame_311 (by decide) ?_
    obtain ⟨μ5, e_μ5, h⟩ := bs h
    refine g_callVV C (kX10_setIndex s_a0 e_μ5) miX10_setIndex lmX10_215 s_a0 (by decide) rfl rfl rfl (Nat.le_of_ble_eq_true rfl) dX10_frame_312 ⟨by decide, by decide⟩ ⟨Nat.zero_le _, Nat.zero_le _⟩ ?_
    obtain ⟨x6, e_x6, h⟩ := nm h
    refine g_iinc (v := x6) (lv' := [(10, .int x6), (0, .ref a0), (3, .int v3), (4, .int v4), (7, .int v7)]) C dX10_frame_315 (by decide) 4 rfl 1 (by decide) e_x6.symm rfl ?_
    refine g_goto C 293 dX10_frame_318 rfl ?_
    exact g_lv [1, 2, 3, 4, 0] rfl (hrec293 _ _ _ _ _ _ s_a0 h)
theorem wX10_frame_L293 {p : Program} {l : Launch} {e : Env} {s : State} {m : MethodId} {args : Array Value} {below : List Frame} {meth : Method} {c : Code} {D : va_G} {cA : Nat → ClassId} {tS : Nat → Nat} {σ : Sg} {fu : Nat} {q : Int32 × Mm} (C : Cx p s m args meth c (dm σ) D cA tS σ cX10_frame (some .int) 11 RX10) : ∀ (n : Nat) (a0 : Nat) (v3 : Int32) (v4 : Int32) (v7 : Int32) (v10 : Int32) (μ : Mm), (σ a0 = some (10, 0)) → fX10_frame_L293 fu n a0 v3 v4 v7 v10 μ = some q → GG p l e (rmO 1 24) s m args below meth c 0 0 (dm σ) D cA σ 11 (MQ below (QI D cA σ q.1 q.2) args s 0 0 (dm σ)) 293 [(0, .ref a0), (3, .int v3), (4, .int v4), (7, .int v7), (10, .int v10)] [] μ := by
  intro n
  induction n with
  | zero => intro a0 v3 v4 v7 v10 μ s_a0 h; cases h
  | succ n ih => intro a0 v3 v4 v7 v10 μ s_a0 h; exact wX10_frame_B293 C (fun _ _ _ _ _ _ k0 h => ih _ _ _ _ _ _ k0 h) _ _ _ _ _ _ s_a0 h
set_option maxRecDepth 100000 in
set_option maxHeartbeats 4000000 in
theorem wX10_frame_B260 {p : Program} {l : Launch} {e : Env} {s : State} {m : MethodId} {args : Array Value} {below : List Frame} {meth : Method} {c : Code} {D : va_G} {cA : Nat → ClassId} {tS : Nat → Nat} {σ : Sg} {rec260 : Nat → Int32 → Int32 → Int32 → Int32 → Int32 → Mm → Option (Int32 × Mm)} {fu : Nat} {q : Int32 × Mm} (C : Cx p s m args meth c (dm σ) D cA tS σ cX10_frame (some .int) 11 RX10) (hrec260 : ∀ (y0 : Nat) (y3 : Int32) (y4 : Int32) (y5 : Int32) (y7 : Int32) (y10 : Int32) (μ : Mm), σ y0 = some (10, 0) → rec260 y0 y3 y4 y5 y7 y10 μ = some q → GG p l e (rmO 1 24) s m args below meth c 0 0 (dm σ) D cA σ 11 (MQ below (QI D cA σ q.1 q.2) args s 0 0 (dm σ)) 260 [(0, .ref y0), (3, .int y3), (4, .int y4), (5, .int y5), (7, .int y7), (10, .int y10)] [] μ) (a0 : Nat) (v3 : Int32) (v4 : Int32) (v5 : Int32) (v7 : Int32) (v10 : Int32) (μ : Mm) (s_a0 : σ a0 = some (10, 0)) (h : fX10_frame_B260 rec260 fu a0 v3 v4 v5 v7 v10 μ = some q) : GG p l e (rmO 1 24) s m args below meth c 0 0 (dm σ) D cA σ 11 (MQ below (QI D cA σ q.1 q.2) args s 0 0 (dm σ)) 260 [(0, .ref a0), (3, .int v3), (4, .int v4), (5, .int v5), (7, .int v7), (10, .int v10)] [] μ := by
  unfold fX10_frame_B260 at h
  refine g_iload C dX10_frame_260 5 rfl ?_
  refine g_iload C dX10_frame_262 3 rfl ?_
  refine g_icmp_ge C 290 dX10_frame_264 rfl (fun q => ?_) (fun q => ?_)
  · replace h := ip q h
    refine g_iconst (v := 0) C dX10_frame_290 (by decide) ?_
    refine g_istore (lv' := [(10, .int 0), (0, .ref a0), (3, .int v3), (4, .int v4), (5, .int v5), (7, .int v7)]) C dX10_frame_291 (by decide) rfl ?_
    exact g_lv [1, 2, 3, 5, 0] rfl (wX10_frame_L293 C fu _ _ _ _ _ _ s_a0 h)
  · replace h := iq q h
    refine g_aload_n C dX10_frame_267 0 rfl ?_
    refine g_wt (fun hT_μ => ?_)
    refine g_getr (j := 10) C s_a0 (by decide) rfl uwX10 (by decide) rfl lfX10_33 rfl dX10_frame_268 ?_
    refine g_aload_n C dX10_frame_271 0 rfl ?_
    refine g_geti (j := 6) C s_a0 (by decide) rfl uwX10 (by decide) rfl lfX10_66 rfl dX10_frame_272 ?_
    refine g_iload C dX10_frame_275 4 rfl ?_
    refine g_iload C dX10_frame_277 5 rfl ?_
    obtain ⟨x1, e_x1, h⟩ := nm h
    refine g_callSI C (kX10_localAt e_x1.symm) msX10_localAt lmX10_160 rfl rfl (Nat.le_of_ble_eq_true rfl) dX10_frame_279 ⟨by decide, by decide⟩ ⟨Nat.zero_le _, Nat.zero_le _⟩ ?_
    refine g_iconst (v := 0) C dX10_frame_282 (by decide) ?_
    obtain ⟨hg, h⟩ := gs h
    refine g_iast C (hT_μ.1 _ _ 10 _ s_a0 rfl) (ib_in hg) dX10_frame_283 ?_
    obtain ⟨μ2, e_μ2, h⟩ := nm h
    refine g_mu e_μ2 ?_
    obtain ⟨x3, e_x3, h⟩ := nm h
    refine g_iinc (v := x3) (lv' := [(10, .int x3), (0, .ref a0), (3, .int v3), (4, .int v4), (5, .int v5), (7, .int v7)]) C dX10_frame_284 (by decide) 5 rfl 1 (by decide) e_x3.symm rfl ?_
    refine g_goto C 260 dX10_frame_287 rfl ?_
    exact g_lv [1, 2, 3, 4, 5, 0] rfl (hrec260 _ _ _ _ _ _ _ s_a0 h)
theorem wX10_frame_L260 {p : Program} {l : Launch} {e : Env} {s : State} {m : MethodId} {args : Array Value} {below : List Frame} {meth : Method} {c : Code} {D : va_G} {cA : Nat → ClassId} {tS : Nat → Nat} {σ : Sg} {fu : Nat} {q : Int32 × Mm} (C : Cx p s m args meth c (dm σ) D cA tS σ cX10_frame (some .int) 11 RX10) : ∀ (n : Nat) (a0 : Nat) (v3 : Int32) (v4 : Int32) (v5 : Int32) (v7 : Int32) (v10 : Int32) (μ : Mm), (σ a0 = some (10, 0)) → fX10_frame_L260 fu n a0 v3 v4 v5 v7 v10 μ = some q → GG p l e (rmO 1 24) s m args below meth c 0 0 (dm σ) D cA σ 11 (MQ below (QI D cA σ q.1 q.2) args s 0 0 (dm σ)) 260 [(0, .ref a0), (3, .int v3), (4, .int v4), (5, .int v5), (7, .int v7), (10, .int v10)] [] μ := by
  intro n
  induction n with
  | zero => intro a0 v3 v4 v5 v7 v10 μ s_a0 h; cases h
  | succ n ih => intro a0 v3 v4 v5 v7 v10 μ s_a0 h; exact wX10_frame_B260 C (fun _ _ _ _ _ _ _ k0 h => ih _ _ _ _ _ _ _ k0 h) _ _ _ _ _ _ _ s_a0 h
set_option maxRecDepth 100000 in
set_option maxHeartbeats 4000000 in
theorem wX10_frame_L202 {p : Program} {l : Launch} {e : Env} {s : State} {m : MethodId} {args : Array Value} {below : List Frame} {meth : Method} {c : Code} {D : va_G} {cA : Nat → ClassId} {tS : Nat → Nat} {σ : Sg} {fu : Nat} {q : Int32 × Mm} (C : Cx p s m args meth c (dm σ) D cA tS σ cX10_frame (some .int) 11 RX10) (a0 : Nat) (v3 : Int32) (v4 : Int32) (v5 : Int32) (v7 : Int32) (o0 : Nat) (t1 : Int32) (t2 : Int32) (t3 : Int32) (t4 : Int32) (μ : Mm) (s_a0 : σ a0 = some (10, 0)) (s_o0 : σ o0 = some (10, 0)) (h : fX10_frame_L202 fu a0 v3 v4 v5 v7 o0 t1 t2 t3 t4 μ = some q) : GG p l e (rmO 1 24) s m args below meth c 0 0 (dm σ) D cA σ 11 (MQ below (QI D cA σ q.1 q.2) args s 0 0 (dm σ)) 202 [(0, .ref a0), (3, .int v3), (4, .int v4), (5, .int v5), (7, .int v7)] [.int t4, .int t3, .int t2, .int t1, .ref o0] μ := by
  unfold fX10_frame_L202 at h
  obtain ⟨μ1, e_μ1, h⟩ := bs h
  refine g_callVV C (kX10_setField s_o0 e_μ1) miX10_setField lmX10_163 s_o0 (by decide) rfl rfl rfl (Nat.le_of_ble_eq_true rfl) dX10_frame_202 ⟨by decide, by decide⟩ ⟨Nat.zero_le _, Nat.zero_le _⟩ ?_
  refine g_aload_n C dX10_frame_205 0 rfl ?_
  refine g_aload_n C dX10_frame_206 0 rfl ?_
  refine g_geti (j := 6) C s_a0 (by decide) rfl uwX10 (by decide) rfl lfX10_66 rfl dX10_frame_207 ?_
  refine g_iload C dX10_frame_210 4 rfl ?_
  refine g_bipush (v := 6) C dX10_frame_212 (by decide) ?_
  refine g_iconst (v := 0) C dX10_frame_214 (by decide) ?_
  obtain ⟨μ2, e_μ2, h⟩ := bs h
  refine g_callVV C (kX10_setField s_a0 e_μ2) miX10_setField lmX10_163 s_a0 (by decide) rfl rfl rfl (Nat.le_of_ble_eq_true rfl) dX10_frame_215 ⟨by decide, by decide⟩ ⟨Nat.zero_le _, Nat.zero_le _⟩ ?_
  refine g_aload_n C dX10_frame_218 0 rfl ?_
  refine g_aload_n C dX10_frame_219 0 rfl ?_
  refine g_geti (j := 6) C s_a0 (by decide) rfl uwX10 (by decide) rfl lfX10_66 rfl dX10_frame_220 ?_
  refine g_iload C dX10_frame_223 4 rfl ?_
  refine g_bipush (v := 7) C dX10_frame_225 (by decide) ?_
  refine g_iconst (v := -1) C dX10_frame_227 (by decide) ?_
  obtain ⟨μ3, e_μ3, h⟩ := bs h
  refine g_callVV C (kX10_setField s_a0 e_μ3) miX10_setField lmX10_163 s_a0 (by decide) rfl rfl rfl (Nat.le_of_ble_eq_true rfl) dX10_frame_228 ⟨by decide, by decide⟩ ⟨Nat.zero_le _, Nat.zero_le _⟩ ?_
  refine g_aload_n C dX10_frame_231 0 rfl ?_
  refine g_aload_n C dX10_frame_232 0 rfl ?_
  refine g_geti (j := 6) C s_a0 (by decide) rfl uwX10 (by decide) rfl lfX10_66 rfl dX10_frame_233 ?_
  refine g_iload C dX10_frame_236 4 rfl ?_
  refine g_bipush (v := 8) C dX10_frame_238 (by decide) ?_
  refine g_iconst (v := 0) C dX10_frame_240 (by decide) ?_
  obtain ⟨μ4, e_μ4, h⟩ := bs h
  refine g_callVV C (kX10_setField s_a0 e_μ4) miX10_setField lmX10_163 s_a0 (by decide) rfl rfl rfl (Nat.le_of_ble_eq_true rfl) dX10_frame_241 ⟨by decide, by decide⟩ ⟨Nat.zero_le _, Nat.zero_le _⟩ ?_
  refine g_aload_n C dX10_frame_244 0 rfl ?_
  refine g_aload_n C dX10_frame_245 0 rfl ?_
  refine g_geti (j := 6) C s_a0 (by decide) rfl uwX10 (by decide) rfl lfX10_66 rfl dX10_frame_246 ?_
  refine g_iload C dX10_frame_249 4 rfl ?_
  refine g_bipush (v := 9) C dX10_frame_251 (by decide) ?_
  refine g_iconst (v := 0) C dX10_frame_253 (by decide) ?_
  obtain ⟨μ5, e_μ5, h⟩ := bs h
  refine g_callVV C (kX10_setField s_a0 e_μ5) miX10_setField lmX10_163 s_a0 (by decide) rfl rfl rfl (Nat.le_of_ble_eq_true rfl) dX10_frame_254 ⟨by decide, by decide⟩ ⟨Nat.zero_le _, Nat.zero_le _⟩ ?_
  refine g_iconst (v := 0) C dX10_frame_257 (by decide) ?_
  refine g_istore (lv' := [(10, .int 0), (0, .ref a0), (3, .int v3), (4, .int v4), (5, .int v5), (7, .int v7)]) C dX10_frame_258 (by decide) rfl ?_
  exact g_lv [1, 2, 3, 4, 5, 0] rfl (wX10_frame_L260 C fu _ _ _ _ _ _ _ s_a0 h)
set_option maxRecDepth 100000 in
set_option maxHeartbeats 4000000 in
theorem wX10_frame_L122 {p : Program} {l : Launch} {e : Env} {s : State} {m : MethodId} {args : Array Value} {below : List Frame} {meth : Method} {c : Code} {D : va_G} {cA : Nat → ClassId} {tS : Nat → Nat} {σ : Sg} {fu : Nat} {q : Int32 × Mm} (C : Cx p s m args meth c (dm σ) D cA tS σ cX10_frame (some .int) 11 RX10) (a0 : Nat) (v1 : Int32) (v2 : Int32) (v3 : Int32) (v4 : Int32) (v5 : Int32) (v6 : Int32) (v7 : Int32) (μ : Mm) (s_a0 : σ a0 = some (10, 0)) (h : fX10_frame_L122 fu a0 v1 v2 v3 v4 v5 v6 v7 μ = some q) : GG p l e (rmO 1 24) s m args below meth c 0 0 (dm σ) D cA σ 11 (MQ below (QI D cA σ q.1 q.2) args s 0 0 (dm σ)) 122 [(0, .ref a0), (1, .int v1), (2, .int v2), (3, .int v3), (4, .int v4), (5, .int v5), (6, .int v6), (7, .int v7)] [] μ := by
  unfold fX10_frame_L122 at h
  refine g_aload_n C dX10_frame_122 0 rfl ?_
  refine g_aload_n C dX10_frame_123 0 rfl ?_
  refine g_geti (j := 6) C s_a0 (by decide) rfl uwX10 (by decide) rfl lfX10_66 rfl dX10_frame_124 ?_
  refine g_iload C dX10_frame_127 7 rfl ?_
  refine g_iconst (v := 0) C dX10_frame_129 (by decide) ?_
  refine g_iload_n C dX10_frame_130 1 rfl ?_
  obtain ⟨μ1, e_μ1, h⟩ := bs h
  refine g_callVV C (kX10_setField s_a0 e_μ1) miX10_setField lmX10_163 s_a0 (by decide) rfl rfl rfl (Nat.le_of_ble_eq_true rfl) dX10_frame_131 ⟨by decide, by decide⟩ ⟨Nat.zero_le _, Nat.zero_le _⟩ ?_
  refine g_aload_n C dX10_frame_134 0 rfl ?_
  refine g_aload_n C dX10_frame_135 0 rfl ?_
  refine g_geti (j := 6) C s_a0 (by decide) rfl uwX10 (by decide) rfl lfX10_66 rfl dX10_frame_136 ?_
  refine g_iload C dX10_frame_139 7 rfl ?_
  refine g_iconst (v := 1) C dX10_frame_141 (by decide) ?_
  refine g_iload_n C dX10_frame_142 2 rfl ?_
  obtain ⟨μ2, e_μ2, h⟩ := bs h
  refine g_callVV C (kX10_setField s_a0 e_μ2) miX10_setField lmX10_163 s_a0 (by decide) rfl rfl rfl (Nat.le_of_ble_eq_true rfl) dX10_frame_143 ⟨by decide, by decide⟩ ⟨Nat.zero_le _, Nat.zero_le _⟩ ?_
  refine g_aload_n C dX10_frame_146 0 rfl ?_
  refine g_aload_n C dX10_frame_147 0 rfl ?_
  refine g_geti (j := 6) C s_a0 (by decide) rfl uwX10 (by decide) rfl lfX10_66 rfl dX10_frame_148 ?_
  refine g_iload C dX10_frame_151 7 rfl ?_
  refine g_iconst (v := 2) C dX10_frame_153 (by decide) ?_
  refine g_iload_n C dX10_frame_154 3 rfl ?_
  obtain ⟨μ3, e_μ3, h⟩ := bs h
  refine g_callVV C (kX10_setField s_a0 e_μ3) miX10_setField lmX10_163 s_a0 (by decide) rfl rfl rfl (Nat.le_of_ble_eq_true rfl) dX10_frame_155 ⟨by decide, by decide⟩ ⟨Nat.zero_le _, Nat.zero_le _⟩ ?_
  refine g_aload_n C dX10_frame_158 0 rfl ?_
  refine g_aload_n C dX10_frame_159 0 rfl ?_
  refine g_geti (j := 6) C s_a0 (by decide) rfl uwX10 (by decide) rfl lfX10_66 rfl dX10_frame_160 ?_
  refine g_iload C dX10_frame_163 7 rfl ?_
  refine g_iconst (v := 3) C dX10_frame_165 (by decide) ?_
  refine g_iload C dX10_frame_166 4 rfl ?_
  obtain ⟨μ4, e_μ4, h⟩ := bs h
  refine g_callVV C (kX10_setField s_a0 e_μ4) miX10_setField lmX10_163 s_a0 (by decide) rfl rfl rfl (Nat.le_of_ble_eq_true rfl) dX10_frame_168 ⟨by decide, by decide⟩ ⟨Nat.zero_le _, Nat.zero_le _⟩ ?_
  refine g_aload_n C dX10_frame_171 0 rfl ?_
  refine g_aload_n C dX10_frame_172 0 rfl ?_
  refine g_geti (j := 6) C s_a0 (by decide) rfl uwX10 (by decide) rfl lfX10_66 rfl dX10_frame_173 ?_
  refine g_iload C dX10_frame_176 7 rfl ?_
  refine g_iconst (v := 4) C dX10_frame_178 (by decide) ?_
  refine g_iload C dX10_frame_179 5 rfl ?_
  obtain ⟨μ5, e_μ5, h⟩ := bs h
  refine g_callVV C (kX10_setField s_a0 e_μ5) miX10_setField lmX10_163 s_a0 (by decide) rfl rfl rfl (Nat.le_of_ble_eq_true rfl) dX10_frame_181 ⟨by decide, by decide⟩ ⟨Nat.zero_le _, Nat.zero_le _⟩ ?_
  refine g_aload_n C dX10_frame_184 0 rfl ?_
  refine g_aload_n C dX10_frame_185 0 rfl ?_
  refine g_geti (j := 6) C s_a0 (by decide) rfl uwX10 (by decide) rfl lfX10_66 rfl dX10_frame_186 ?_
  refine g_iload C dX10_frame_189 7 rfl ?_
  refine g_iconst (v := 5) C dX10_frame_191 (by decide) ?_
  refine g_iload C dX10_frame_192 6 rfl ?_
  refine g_if_eq C 201 dX10_frame_194 rfl (fun q => ?_) (fun q => ?_)
  · replace h := ip q h
    refine g_iconst (v := 0) C dX10_frame_201 (by decide) ?_
    exact g_lv [0, 3, 4, 5, 7] rfl (wX10_frame_L202 C _ _ _ _ _ _ _ _ _ _ _ s_a0 s_a0 h)
  · replace h := iq q h
    refine g_iconst (v := 1) C dX10_frame_197 (by decide) ?_
    refine g_goto C 202 dX10_frame_198 rfl ?_
    exact g_lv [0, 3, 4, 5, 7] rfl (wX10_frame_L202 C _ _ _ _ _ _ _ _ _ _ _ s_a0 s_a0 h)
set_option maxRecDepth 100000 in
set_option maxHeartbeats 4000000 in
theorem wX10_frame {p : Program} {l : Launch} {e : Env} {s : State} {m : MethodId} {args : Array Value} {below : List Frame} {meth : Method} {c : Code} {D : va_G} {cA : Nat → ClassId} {tS : Nat → Nat} {σ : Sg} {fu : Nat} {q : Int32 × Mm} (C : Cx p s m args meth c (dm σ) D cA tS σ cX10_frame (some .int) 11 RX10) (a0 : Nat) (v1 : Int32) (v2 : Int32) (v3 : Int32) (v4 : Int32) (v5 : Int32) (v6 : Int32) (μ : Mm) (s_a0 : σ a0 = some (10, 0)) (h : fX10_frame fu a0 v1 v2 v3 v4 v5 v6 μ = some q) : GG p l e (rmO 1 24) s m args below meth c 0 0 (dm σ) D cA σ 11 (MQ below (QI D cA σ q.1 q.2) args s 0 0 (dm σ)) 0 [(0, .ref a0), (1, .int v1), (2, .int v2), (3, .int v3), (4, .int v4), (5, .int v5), (6, .int v6)] [] μ := by
  unfold fX10_frame at h
  refine g_aload_n C dX10_frame_0 0 rfl ?_
  obtain ⟨x1, e_x1, h⟩ := bs h
  refine g_callVI C (kX10_frames s_a0 e_x1) miX10_frames lmX10_69 s_a0 (by decide) rfl rfl rfl (Nat.le_of_ble_eq_true rfl) dX10_frame_1 ⟨by decide, by decide⟩ ⟨Nat.zero_le _, Nat.zero_le _⟩ ?_
  refine g_istore (lv' := [(7, .int x1), (0, .ref a0), (1, .int v1), (2, .int v2), (3, .int v3), (4, .int v4), (5, .int v5), (6, .int v6)]) C dX10_frame_4 (by decide) rfl ?_
  refine g_aload_n C dX10_frame_6 1 rfl ?_
  refine g_wt (fun hT_μ => ?_)
  refine g_getr (j := 7) C s_a0 (by decide) rfl uwX10 (by decide) rfl lfX10_23 rfl dX10_frame_7 ?_
  refine g_bipush (v := 6) C dX10_frame_10 (by decide) ?_
  refine g_aload_n C dX10_frame_12 1 rfl ?_
  refine g_geti (j := 6) C s_a0 (by decide) rfl uwX10 (by decide) rfl lfX10_66 rfl dX10_frame_13 ?_
  refine g_imul C dX10_frame_16 ?_
  obtain ⟨hg2, h⟩ := gs h
  refine g_iald C (hT_μ.1 _ _ 7 _ s_a0 rfl) (ib_in hg2) dX10_frame_17 ?_
  obtain ⟨x3, e_x3, h⟩ := nm h
  refine g_topi e_x3 ?_
  refine g_istore (lv' := [(8, .int x3), (7, .int x1), (0, .ref a0), (1, .int v1), (2, .int v2), (3, .int v3), (4, .int v4), (5, .int v5), (6, .int v6)]) C dX10_frame_18 (by decide) rfl ?_
  refine g_aload_n C dX10_frame_20 2 rfl ?_
  refine g_getr (j := 7) C s_a0 (by decide) rfl uwX10 (by decide) rfl lfX10_23 rfl dX10_frame_21 ?_
  refine g_bipush (v := 6) C dX10_frame_24 (by decide) ?_
  refine g_aload_n C dX10_frame_26 2 rfl ?_
  refine g_geti (j := 6) C s_a0 (by decide) rfl uwX10 (by decide) rfl lfX10_66 rfl dX10_frame_27 ?_
  refine g_imul C dX10_frame_30 ?_
  refine g_iconst (v := 1) C dX10_frame_31 (by decide) ?_
  refine g_iadd C dX10_frame_32 ?_
  obtain ⟨hg4, h⟩ := gs h
  refine g_iald C (hT_μ.1 _ _ 7 _ s_a0 rfl) (ib_in hg4) dX10_frame_33 ?_
  obtain ⟨x5, e_x5, h⟩ := nm h
  refine g_topi e_x5 ?_
  refine g_istore (lv' := [(9, .int x5), (8, .int x3), (7, .int x1), (0, .ref a0), (1, .int v1), (2, .int v2), (3, .int v3), (4, .int v4), (5, .int v5), (6, .int v6)]) C dX10_frame_34 (by decide) rfl ?_
  refine g_iload C dX10_frame_36 2 rfl ?_
  refine g_bipush (v := 24) C dX10_frame_38 (by decide) ?_
  refine g_icmp_eq C 88 dX10_frame_40 rfl (fun q => ?_) (fun q => ?_)
  · replace h := ip q h
    refine g_iconst (v := -1) C dX10_frame_88 (by decide) ?_
    cases h
    exact g_ireturn C rfl dX10_frame_89
  · replace h := iq q h
    refine g_iload_n C dX10_frame_43 4 rfl ?_
    refine g_iconst (v := 0) C dX10_frame_44 (by decide) ?_
    refine g_iload C dX10_frame_45 1 rfl ?_
    obtain ⟨x6, e_x6, h⟩ := nm h
    refine g_callSI C (kX10_isWithin e_x6.symm) msX10_isWithin lmX10_221 rfl rfl (Nat.le_of_ble_eq_true rfl) dX10_frame_47 ⟨by decide, by decide⟩ ⟨Nat.zero_le _, Nat.zero_le _⟩ ?_
    refine g_if_eq C 88 dX10_frame_50 rfl (fun q => ?_) (fun q => ?_)
    · replace h := ip q h
      refine g_iconst (v := -1) C dX10_frame_88 (by decide) ?_
      cases h
      exact g_ireturn C rfl dX10_frame_89
    · replace h := iq q h
      refine g_iload_n C dX10_frame_53 5 rfl ?_
      refine g_iconst (v := 0) C dX10_frame_54 (by decide) ?_
      refine g_iload C dX10_frame_55 0 rfl ?_
      obtain ⟨x7, e_x7, h⟩ := nm h
      refine g_callSI C (kX10_isWithin e_x7.symm) msX10_isWithin lmX10_221 rfl rfl (Nat.le_of_ble_eq_true rfl) dX10_frame_57 ⟨by decide, by decide⟩ ⟨Nat.zero_le _, Nat.zero_le _⟩ ?_
      refine g_if_eq C 88 dX10_frame_60 rfl (fun q => ?_) (fun q => ?_)
      · replace h := ip q h
        refine g_iconst (v := -1) C dX10_frame_88 (by decide) ?_
        cases h
        exact g_ireturn C rfl dX10_frame_89
      · replace h := iq q h
        refine g_iload_n C dX10_frame_63 6 rfl ?_
        refine g_iconst (v := 1) C dX10_frame_64 (by decide) ?_
        refine g_iload C dX10_frame_65 1 rfl ?_
        refine g_iload_n C dX10_frame_67 4 rfl ?_
        refine g_isub C dX10_frame_68 ?_
        obtain ⟨x8, e_x8, h⟩ := nm h
        refine g_callSI C (kX10_isWithin e_x8.symm) msX10_isWithin lmX10_221 rfl rfl (Nat.le_of_ble_eq_true rfl) dX10_frame_69 ⟨by decide, by decide⟩ ⟨Nat.zero_le _, Nat.zero_le _⟩ ?_
        refine g_if_eq C 88 dX10_frame_72 rfl (fun q => ?_) (fun q => ?_)
        · replace h := ip q h
          refine g_iconst (v := -1) C dX10_frame_88 (by decide) ?_
          cases h
          exact g_ireturn C rfl dX10_frame_89
        · replace h := iq q h
          refine g_iload C dX10_frame_75 7 rfl ?_
          refine g_iconst (v := 1) C dX10_frame_77 (by decide) ?_
          refine g_iload C dX10_frame_78 0 rfl ?_
          refine g_iload_n C dX10_frame_80 5 rfl ?_
          refine g_isub C dX10_frame_81 ?_
          obtain ⟨x9, e_x9, h⟩ := nm h
          refine g_callSI C (kX10_isWithin e_x9.symm) msX10_isWithin lmX10_221 rfl rfl (Nat.le_of_ble_eq_true rfl) dX10_frame_82 ⟨by decide, by decide⟩ ⟨Nat.zero_le _, Nat.zero_le _⟩ ?_
          refine g_if_ne C 90 dX10_frame_85 rfl (fun q => ?_) (fun q => ?_)
          · replace h := iq q h
            refine g_iload C dX10_frame_90 8 rfl ?_
            obtain ⟨x10, e_x10, h⟩ := nm h
            refine g_callSI C (kX10_isTable e_x10.symm) msX10_isTable lmX10_225 rfl rfl (Nat.le_of_ble_eq_true rfl) dX10_frame_92 ⟨by decide, by decide⟩ ⟨Nat.zero_le _, Nat.zero_le _⟩ ?_
            refine g_if_eq C 120 dX10_frame_95 rfl (fun q => ?_) (fun q => ?_)
            · replace h := ip q h
              refine g_iconst (v := -1) C dX10_frame_120 (by decide) ?_
              cases h
              exact g_ireturn C rfl dX10_frame_121
            · replace h := iq q h
              refine g_iload C dX10_frame_98 8 rfl ?_
              refine g_if_ne C 122 dX10_frame_100 rfl (fun q => ?_) (fun q => ?_)
              · replace h := iq q h
                exact g_lv [3, 4, 5, 6, 7, 8, 9, 2] rfl (wX10_frame_L122 C _ _ _ _ _ _ _ _ _ s_a0 h)
              · replace h := ip q h
                refine g_aload_n C dX10_frame_103 3 rfl ?_
                refine g_getr (j := 7) C s_a0 (by decide) rfl uwX10 (by decide) rfl lfX10_23 rfl dX10_frame_104 ?_
                refine g_bipush (v := 6) C dX10_frame_107 (by decide) ?_
                refine g_aload_n C dX10_frame_109 3 rfl ?_
                refine g_geti (j := 6) C s_a0 (by decide) rfl uwX10 (by decide) rfl lfX10_66 rfl dX10_frame_110 ?_
                refine g_imul C dX10_frame_113 ?_
                refine g_iconst (v := 2) C dX10_frame_114 (by decide) ?_
                refine g_iadd C dX10_frame_115 ?_
                obtain ⟨hg11, h⟩ := gs h
                refine g_iald C (hT_μ.1 _ _ 7 _ s_a0 rfl) (ib_in hg11) dX10_frame_116 ?_
                refine g_if_ne C 122 dX10_frame_117 rfl (fun q => ?_) (fun q => ?_)
                · replace h := iq q h
                  exact g_lv [3, 4, 5, 6, 7, 8, 9, 2] rfl (wX10_frame_L122 C _ _ _ _ _ _ _ _ _ s_a0 h)
                · replace h := ip q h
                  refine g_iconst (v := -1) C dX10_frame_120 (by decide) ?_
                  cases h
                  exact g_ireturn C rfl dX10_frame_121
          · replace h := ip q h
            refine g_iconst (v := -1) C dX10_frame_88 (by decide) ?_
            cases h
            exact g_ireturn C rfl dX10_frame_89
theorem miX10_frame : MI yX10_frame cX10_frame 11 (some .int) RX10 6 := ⟨wcX10_frame, wmX10_frame, wsX10_frame, wiX10, by decide +kernel⟩
theorem kX10_frame {l : Launch} {D : va_G} {cA : Nat → ClassId} {tS : Nat → Nat} {σ : Sg} {a0 : Nat} {v1 : Int32} {v2 : Int32} {v3 : Int32} {v4 : Int32} {v5 : Int32} {v6 : Int32} {μ : Mm} {fu : Nat} {q : Int32 × Mm} (s_a0 : σ a0 = some (10, 0)) (h : fX10_frame fu a0 v1 v2 v3 v4 v5 v6 μ = some q) : Ct l D cA tS σ yX10_frame cX10_frame 11 (some .int) (rmO 1 24) [.ref a0, .int v1, .int v2, .int v3, .int v4, .int v5, .int v6] μ (QI D cA σ q.1 q.2) :=
  Ct.of (by decide) (Nat.le_of_ble_eq_true rfl) (fun _ _ _ _ _ _ _ _ C => wX10_frame C _ _ _ _ _ _ _ _ s_a0 h)
