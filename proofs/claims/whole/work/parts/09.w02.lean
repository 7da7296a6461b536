set_option maxRecDepth 100000 in
set_option maxHeartbeats 4000000 in
theorem wX5_parseTable_B2 {p : Program} {l : Launch} {e : Env} {s : State} {m : MethodId} {args : Array Value} {below : List Frame} {meth : Method} {c : Code} {D : va_G} {cA : Nat → ClassId} {tS : Nat → Nat} {σ : Sg} {rec2 : Nat → Nat → Int32 → Mm → Option (Mm)} {fu : Nat} {q : Mm} (C : Cx p s m args meth c (dm σ) D cA tS σ cX5_parseTable none 6 RX5) (hrec2 : ∀ (y0 : Nat) (y1 : Nat) (y2 : Int32) (μ : Mm), σ y0 = some (5, 0) → σ y1 = some (7, 0) → rec2 y0 y1 y2 μ = some q → GG p l e (rmO 2 42) s m args below meth c 0 0 (dm σ) D cA σ 6 (MQ below (QV D cA σ q) args s 0 0 (dm σ)) 2 [(0, .ref y0), (1, .ref y1), (2, .int y2)] [] μ) (a0 : Nat) (a1 : Nat) (v2 : Int32) (μ : Mm) (s_a0 : σ a0 = some (5, 0)) (s_a1 : σ a1 = some (7, 0)) (h : fX5_parseTable_B2 rec2 fu a0 a1 v2 μ = some q) : GG p l e (rmO 2 42) s m args below meth c 0 0 (dm σ) D cA σ 6 (MQ below (QV D cA σ q) args s 0 0 (dm σ)) 2 [(0, .ref a0), (1, .ref a1), (2, .int v2)] [] μ := by
  unfold fX5_parseTable_B2 at h
  refine g_iload_n C dX5_parseTable_2 2 rfl ?_
  refine g_aload_n C dX5_parseTable_3 1 rfl ?_
  refine g_geti (j := 1) C s_a1 (by decide) rfl uwX7 (by decide) rfl lfX5_121 rfl dX5_parseTable_4 ?_
  refine g_icmp_ge C 52 dX5_parseTable_7 rfl (fun q => ?_) (fun q => ?_)
  · replace h := ip q h
    cases h
    exact g_return C dX5_parseTable_52
  · replace h := iq q h
    refine g_aload_n C dX5_parseTable_10 0 rfl ?_
    obtain ⟨q1, e_q1, h⟩ := bs h
    refine g_callVI C (kX5_nextByte s_a0 e_q1) miX5_nextByte lmX5_87 s_a0 (by decide) rfl rfl rfl (Nat.le_of_ble_eq_true rfl) dX5_parseTable_11 ⟨by decide, by decide⟩ ⟨Nat.zero_le _, Nat.zero_le _⟩ ?_
    obtain ⟨x2, e_x2, h⟩ := nm h
    refine g_topi e_x2 ?_
    refine g_istore_n (lv' := [(3, .int x2), (0, .ref a0), (1, .ref a1), (2, .int v2)]) C dX5_parseTable_14 (by decide) rfl ?_
    refine g_aload_n C dX5_parseTable_15 1 rfl ?_
    obtain ⟨q3, e_q3, h⟩ := bs h
    refine g_callVI C (kX5_nextByte s_a0 e_q3) miX5_nextByte lmX5_87 s_a0 (by decide) rfl rfl rfl (Nat.le_of_ble_eq_true rfl) dX5_parseTable_16 ⟨by decide, by decide⟩ ⟨Nat.zero_le _, Nat.zero_le _⟩ ?_
    obtain ⟨x4, e_x4, h⟩ := nm h
    refine g_topi e_x4 ?_
    refine g_istore (lv' := [(4, .int x4), (3, .int x2), (0, .ref a0), (1, .ref a1), (2, .int v2)]) C dX5_parseTable_19 (by decide) rfl ?_
    refine g_aload_n C dX5_parseTable_21 2 rfl ?_
    obtain ⟨q5, e_q5, h⟩ := bs h
    refine g_callVI C (kX5_nextByte s_a0 e_q5) miX5_nextByte lmX5_87 s_a0 (by decide) rfl rfl rfl (Nat.le_of_ble_eq_true rfl) dX5_parseTable_22 ⟨by decide, by decide⟩ ⟨Nat.zero_le _, Nat.zero_le _⟩ ?_
    obtain ⟨x6, e_x6, h⟩ := nm h
    refine g_topi e_x6 ?_
    refine g_istore (lv' := [(5, .int x6), (4, .int x4), (3, .int x2), (0, .ref a0), (1, .ref a1), (2, .int v2)]) C dX5_parseTable_25 (by decide) rfl ?_
    refine g_aload_n C dX5_parseTable_27 4 rfl ?_
    refine g_wt (fun hT_q5_2 => ?_)
    refine g_getr (j := 0) C s_a1 (by decide) rfl uwX7 (by decide) rfl lfX5_122 rfl dX5_parseTable_28 ?_
    refine g_iload_n C dX5_parseTable_31 5 rfl ?_
    refine g_iload_n C dX5_parseTable_32 2 rfl ?_
    refine g_bipush (v := 16) C dX5_parseTable_33 (by decide) ?_
    refine g_ishl C dX5_parseTable_35 ?_
    refine g_iload C dX5_parseTable_36 1 rfl ?_
    refine g_bipush (v := 8) C dX5_parseTable_38 (by decide) ?_
    refine g_ishl C dX5_parseTable_40 ?_
    refine g_ior C dX5_parseTable_41 ?_
    refine g_iload C dX5_parseTable_42 0 rfl ?_
    refine g_ior C dX5_parseTable_44 ?_
    obtain ⟨hg, h⟩ := gs h
    refine g_iast C (hT_q5_2.1 _ _ 0 _ s_a1 rfl) (ib_in hg) dX5_parseTable_45 ?_
    obtain ⟨μ7, e_μ7, h⟩ := nm h
    refine g_mu e_μ7 ?_
    obtain ⟨x8, e_x8, h⟩ := nm h
    refine g_iinc (v := x8) (lv' := [(2, .int x8), (5, .int x6), (4, .int x4), (3, .int x2), (0, .ref a0), (1, .ref a1)]) C dX5_parseTable_46 (by decide) 5 rfl 1 (by decide) e_x8.symm rfl ?_
    refine g_goto C 2 dX5_parseTable_49 rfl ?_
    exact g_lv [4, 5, 0] rfl (hrec2 _ _ _ _ s_a0 s_a1 h)
theorem wX5_parseTable_L2 {p : Program} {l : Launch} {e : Env} {s : State} {m : MethodId} {args : Array Value} {below : List Frame} {meth : Method} {c : Code} {D : va_G} {cA : Nat → ClassId} {tS : Nat → Nat} {σ : Sg} {fu : Nat} {q : Mm} (C : Cx p s m args meth c (dm σ) D cA tS σ cX5_parseTable none 6 RX5) : ∀ (n : Nat) (a0 : Nat) (a1 : Nat) (v2 : Int32) (μ : Mm), (σ a0 = some (5, 0)) → (σ a1 = some (7, 0)) → fX5_parseTable_L2 fu n a0 a1 v2 μ = some q → GG p l e (rmO 2 42) s m args below meth c 0 0 (dm σ) D cA σ 6 (MQ below (QV D cA σ q) args s 0 0 (dm σ)) 2 [(0, .ref a0), (1, .ref a1), (2, .int v2)] [] μ := by
  intro n
  induction n with
  | zero => intro a0 a1 v2 μ s_a0 s_a1 h; cases h
  | succ n ih => intro a0 a1 v2 μ s_a0 s_a1 h; exact wX5_parseTable_B2 C (fun _ _ _ _ k0 k1 h => ih _ _ _ _ k0 k1 h) _ _ _ _ s_a0 s_a1 h
set_option maxRecDepth 100000 in
set_option maxHeartbeats 4000000 in
theorem wX5_parseTable {p : Program} {l : Launch} {e : Env} {s : State} {m : MethodId} {args : Array Value} {below : List Frame} {meth : Method} {c : Code} {D : va_G} {cA : Nat → ClassId} {tS : Nat → Nat} {σ : Sg} {fu : Nat} {q : Mm} (C : Cx p s m args meth c (dm σ) D cA tS σ cX5_parseTable none 6 RX5) (a0 : Nat) (a1 : Nat) (μ : Mm) (s_a0 : σ a0 = some (5, 0)) (s_a1 : σ a1 = some (7, 0)) (h : fX5_parseTable fu a0 a1 μ = some q) : GG p l e (rmO 2 42) s m args below meth c 0 0 (dm σ) D cA σ 6 (MQ below (QV D cA σ q) args s 0 0 (dm σ)) 0 [(0, .ref a0), (1, .ref a1)] [] μ := by
  unfold fX5_parseTable at h
  refine g_iconst (v := 0) C dX5_parseTable_0 (by decide) ?_
  refine g_istore_n (lv' := [(2, .int 0), (0, .ref a0), (1, .ref a1)]) C dX5_parseTable_1 (by decide) rfl ?_
  exact g_lv [1, 2, 0] rfl (wX5_parseTable_L2 C fu _ _ _ _ s_a0 s_a1 h)
theorem miX5_parseTable : MI yX5_parseTable cX5_parseTable 6 none RX5 1 := ⟨wcX5_parseTable, wmX5_parseTable, wsX5_parseTable, wiX5, by decide +kernel⟩
theorem kX5_parseTable {l : Launch} {D : va_G} {cA : Nat → ClassId} {tS : Nat → Nat} {σ : Sg} {a0 : Nat} {a1 : Nat} {μ : Mm} {fu : Nat} {q : Mm} (s_a0 : σ a0 = some (5, 0)) (s_a1 : σ a1 = some (7, 0)) (h : fX5_parseTable fu a0 a1 μ = some q) : Ct l D cA tS σ yX5_parseTable cX5_parseTable 6 none (rmO 2 42) [.ref a0, .ref a1] μ (QV D cA σ q) :=
  Ct.of (by decide) (Nat.le_of_ble_eq_true rfl) (fun _ _ _ _ _ _ _ _ C => wX5_parseTable C _ _ _ s_a0 s_a1 h)
set_option maxRecDepth 100000 in
set_option maxHeartbeats 4000000 in
theorem wX7_sizeByMark {p : Program} {l : Launch} {e : Env} {s : State} {m : MethodId} {args : Array Value} {below : List Frame} {meth : Method} {c : Code} {D : va_G} {cA : Nat → ClassId} {tS : Nat → Nat} {σ : Sg} {μ0 : Mm} {q : Int32} (C : Cx p s m args meth c (dm σ) D cA tS σ cX7_sizeByMark (some .int) 1 RX7) (v0 : Int32) (h : fX7_sizeByMark v0 = q) : GG p l e (rmO 0 0) s m args below meth c 0 0 (dm σ) D cA σ 1 (MQ below (QI D cA σ q μ0) args s 0 0 (dm σ)) 0 [(0, .int v0)] [] μ0 := by
  unfold fX7_sizeByMark at h
  refine g_iload_n C dX7_sizeByMark_0 0 rfl ?_
  refine g_sipush (v := 128) C dX7_sizeByMark_1 (by decide) ?_
  refine g_iand C dX7_sizeByMark_4 ?_
  refine g_if_ne C 12 dX7_sizeByMark_5 rfl (fun q => ?_) (fun q => ?_)
  · replace h := iq q h
    refine g_iconst (v := 2) C dX7_sizeByMark_12 (by decide) ?_
    refine g_iload_n C dX7_sizeByMark_13 0 rfl ?_
    refine g_bipush (v := 7) C dX7_sizeByMark_14 (by decide) ?_
    refine g_iand C dX7_sizeByMark_16 ?_
    refine g_ishl C dX7_sizeByMark_17 ?_
    subst h
    exact g_ireturn C rfl dX7_sizeByMark_18
  · replace h := ip q h
    refine g_iconst (v := 0) C dX7_sizeByMark_8 (by decide) ?_
    refine g_goto C 18 dX7_sizeByMark_9 rfl ?_
    subst h
    exact g_ireturn C rfl dX7_sizeByMark_18
theorem msX7_sizeByMark : MS yX7_sizeByMark cX7_sizeByMark 1 (some .int) 1 := ⟨wcX7_sizeByMark, wtX7_sizeByMark, wiX7, by decide +kernel⟩
theorem kX7_sizeByMark {l : Launch} {D : va_G} {cA : Nat → ClassId} {tS : Nat → Nat} {σ : Sg} {v0 : Int32} {μ0 : Mm} {q : Int32} (h : fX7_sizeByMark v0 = q) : Ct l D cA tS σ yX7_sizeByMark cX7_sizeByMark 1 (some .int) (rmO 0 0) [.int v0] μ0 (QI D cA σ q μ0) :=
  Ct.of (by decide) (Nat.le_of_ble_eq_true rfl) (fun _ _ _ _ _ _ _ _ C => wX7_sizeByMark C _  h)
set_option maxRecDepth 100000 in
set_option maxHeartbeats 4000000 in
theorem wX8_copyFrom {p : Program} {l : Launch} {e : Env} {s : State} {m : MethodId} {args : Array Value} {below : List Frame} {meth : Method} {c : Code} {D : va_G} {cA : Nat → ClassId} {tS : Nat → Nat} {σ : Sg} {q : Mm} (C : Cx p s m args meth c (dm σ) D cA tS σ cX8_copyFrom none 2 RX8) (a0 : Nat) (a1 : Nat) (μ : Mm) (s_a0 : σ a0 = some (8, 0)) (s_a1 : σ a1 = some (8, 0)) (h : fX8_copyFrom a0 a1 μ = some q) : GG p l e (rmO 1 24) s m args below meth c 0 0 (dm σ) D cA σ 2 (MQ below (QV D cA σ q) args s 0 0 (dm σ)) 0 [(0, .ref a0), (1, .ref a1)] [] μ := by
  unfold fX8_copyFrom at h
  refine g_aload_n C dX8_copyFrom_0 0 rfl ?_
  refine g_aload_n C dX8_copyFrom_1 1 rfl ?_
  refine g_geti (j := 0) C s_a1 (by decide) rfl uwX8 (by decide) rfl lfX8_18 rfl dX8_copyFrom_2 ?_
  refine g_aload_n C dX8_copyFrom_5 1 rfl ?_
  refine g_geti (j := 1) C s_a1 (by decide) rfl uwX8 (by decide) rfl lfX8_22 rfl dX8_copyFrom_6 ?_
  refine g_aload_n C dX8_copyFrom_9 1 rfl ?_
  refine g_geti (j := 2) C s_a1 (by decide) rfl uwX8 (by decide) rfl lfX8_25 rfl dX8_copyFrom_10 ?_
  refine g_aload_n C dX8_copyFrom_13 1 rfl ?_
  refine g_geti (j := 3) C s_a1 (by decide) rfl uwX8 (by decide) rfl lfX8_28 rfl dX8_copyFrom_14 ?_
  obtain ⟨μ1, e_μ1, h⟩ := bs h
  refine g_callVV C (kX8_become s_a0 e_μ1) miX8_become lmX8_14 s_a0 (by decide) rfl rfl rfl (Nat.le_of_ble_eq_true rfl) dX8_copyFrom_17 ⟨by decide, by decide⟩ ⟨Nat.zero_le _, Nat.zero_le _⟩ ?_
  cases h
  exact g_return C dX8_copyFrom_20
theorem miX8_copyFrom : MI yX8_copyFrom cX8_copyFrom 2 none RX8 1 := ⟨wcX8_copyFrom, wmX8_copyFrom, wsX8_copyFrom, wiX8, by decide +kernel⟩
theorem kX8_copyFrom {l : Launch} {D : va_G} {cA : Nat → ClassId} {tS : Nat → Nat} {σ : Sg} {a0 : Nat} {a1 : Nat} {μ : Mm} {q : Mm} (s_a0 : σ a0 = some (8, 0)) (s_a1 : σ a1 = some (8, 0)) (h : fX8_copyFrom a0 a1 μ = some q) : Ct l D cA tS σ yX8_copyFrom cX8_copyFrom 2 none (rmO 1 24) [.ref a0, .ref a1] μ (QV D cA σ q) :=
  Ct.of (by decide) (Nat.le_of_ble_eq_true rfl) (fun _ _ _ _ _ _ _ _ C => wX8_copyFrom C _ _ _ s_a0 s_a1 h)
set_option maxRecDepth 100000 in
set_option maxHeartbeats 4000000 in
theorem wX5_parseFrame_L121 {p : Program} {l : Launch} {e : Env} {s : State} {m : MethodId} {args : Array Value} {below : List Frame} {meth : Method} {c : Code} {D : va_G} {cA : Nat → ClassId} {tS : Nat → Nat} {σ : Sg} {fu : Nat} {q : Option Nat × Mm} (C : Cx p s m args meth c (dm σ) D cA tS σ cX5_parseFrame (some (.object "PictureReel$Frame")) 9 RX5) (a0 : Nat) (o0 : Nat) (t1 : Int32) (t2 : Int32) (t3 : Int32) (t4 : Int32) (t5 : Int32) (t6 : Int32) (μ : Mm) (s_a0 : σ a0 = some (5, 0)) (s_o0 : σ o0 = some (4, 0)) (h : fX5_parseFrame_L121 fu a0 o0 t1 t2 t3 t4 t5 t6 μ = some q) : GG p l e (rmO 4 95) s m args below meth c 0 0 (dm σ) D cA σ 9 (MQ below (QR D cA σ (3, 0) q.1 q.2) args s 0 0 (dm σ)) 121 [(0, .ref a0)] [.int t6, .int t5, .int t4, .int t3, .int t2, .int t1, .ref o0] μ := by
  unfold fX5_parseFrame_L121 at h
  obtain ⟨q1, e_q1, h⟩ := bs h
  refine g_callVQ C (kX4_addFrame s_o0 e_q1) miX4_addFrame lmX5_190 s_o0 (by decide) rfl rfl rfl (Nat.le_of_ble_eq_true rfl) dX5_parseFrame_121 ⟨by decide, by decide⟩ ⟨Nat.zero_le _, Nat.zero_le _⟩ (fun hs_q1 => ?_)
  obtain ⟨r2, e_r2, h⟩ := nm h
  refine g_topr e_r2 ?_
  have s_r2 : σ r2 = some (3, 0) := by rw [e_r2]; exact (hs_q1 _ rfl)
  refine g_astore (lv' := [(8, .ref r2), (0, .ref a0)]) C dX5_parseFrame_124 (by decide) rfl ?_
  refine g_aload C dX5_parseFrame_126 0 rfl ?_
  refine g_wt (fun hT_q1_2 => ?_)
  refine g_getr (j := 6) C s_r2 (by decide) rfl uwX3 (by decide) rfl lfX5_194 rfl dX5_parseFrame_128 ?_
  refine g_aload_n C dX5_parseFrame_131 1 rfl ?_
  refine g_getr (j := 2) C s_a0 (by decide) rfl uwX5 (by decide) rfl lfX5_28 rfl dX5_parseFrame_132 ?_
  obtain ⟨μ3, e_μ3, h⟩ := bs h
  refine g_callVV C (kX8_copyFrom (hT_q1_2.1 _ _ 6 _ s_r2 rfl) (hT_q1_2.1 _ _ 2 _ s_a0 rfl) e_μ3) miX8_copyFrom lmX5_197 (hT_q1_2.1 _ _ 6 _ s_r2 rfl) (by decide) rfl rfl rfl (Nat.le_of_ble_eq_true rfl) dX5_parseFrame_135 ⟨by decide, by decide⟩ ⟨Nat.zero_le _, Nat.zero_le _⟩ ?_
  refine g_aload_n C dX5_parseFrame_138 1 rfl ?_
  obtain ⟨μ4, e_μ4, h⟩ := bs h
  refine g_callVV C (kX5_dropControl s_a0 e_μ4) miX5_dropControl lmX5_68 s_a0 (by decide) rfl rfl rfl (Nat.le_of_ble_eq_true rfl) dX5_parseFrame_139 ⟨by decide, by decide⟩ ⟨Nat.zero_le _, Nat.zero_le _⟩ ?_
  refine g_aload_n C dX5_parseFrame_142 1 rfl ?_
  refine g_aload C dX5_parseFrame_143 0 rfl ?_
  refine g_wt (fun hT_μ4 => ?_)
  refine g_getr (j := 5) C s_r2 (by decide) rfl uwX3 (by decide) rfl lfX5_201 rfl dX5_parseFrame_145 ?_
  obtain ⟨μ5, e_μ5, h⟩ := bs h
  refine g_callVV C (kX5_parseTable s_a0 (hT_μ4.1 _ _ 5 _ s_r2 rfl) e_μ5) miX5_parseTable lmX5_117 s_a0 (by decide) rfl rfl rfl (Nat.le_of_ble_eq_true rfl) dX5_parseFrame_148 ⟨by decide, by decide⟩ ⟨Nat.zero_le _, Nat.zero_le _⟩ ?_
  refine g_aload C dX5_parseFrame_151 0 rfl ?_
  cases h
  exact g_areturn C (Or.inl ⟨_, rfl⟩) (fun _ h => by cases h; exact s_r2) dX5_parseFrame_153
set_option maxRecDepth 100000 in
set_option maxHeartbeats 4000000 in
theorem wX5_parseFrame_L87 {p : Program} {l : Launch} {e : Env} {s : State} {m : MethodId} {args : Array Value} {below : List Frame} {meth : Method} {c : Code} {D : va_G} {cA : Nat → ClassId} {tS : Nat → Nat} {σ : Sg} {fu : Nat} {q : Option Nat × Mm} (C : Cx p s m args meth c (dm σ) D cA tS σ cX5_parseFrame (some (.object "PictureReel$Frame")) 9 RX5) (a0 : Nat) (v2 : Int32) (v3 : Int32) (v4 : Int32) (v5 : Int32) (v6 : Int32) (v7 : Int32) (μ : Mm) (s_a0 : σ a0 = some (5, 0)) (h : fX5_parseFrame_L87 fu a0 v2 v3 v4 v5 v6 v7 μ = some q) : GG p l e (rmO 4 95) s m args below meth c 0 0 (dm σ) D cA σ 9 (MQ below (QR D cA σ (3, 0) q.1 q.2) args s 0 0 (dm σ)) 87 [(0, .ref a0), (2, .int v2), (3, .int v3), (4, .int v4), (5, .int v5), (6, .int v6), (7, .int v7)] [] μ := by
  unfold fX5_parseFrame_L87 at h
  refine g_aload_n C dX5_parseFrame_87 0 rfl ?_
  refine g_geti (j := 9) C s_a0 (by decide) rfl uwX5 (by decide) rfl lfX5_39 rfl dX5_parseFrame_88 ?_
  refine g_if_eq C 96 dX5_parseFrame_91 rfl (fun q => ?_) (fun q => ?_)
  · replace h := ip q h
    refine g_aload_n C dX5_parseFrame_96 0 rfl ?_
    refine g_wt (fun hT_μ => ?_)
    refine g_getr (j := 3) C s_a0 (by decide) rfl uwX5 (by decide) rfl lfX5_35 rfl dX5_parseFrame_97 ?_
    refine g_iload_n C dX5_parseFrame_100 1 rfl ?_
    refine g_iload_n C dX5_parseFrame_101 2 rfl ?_
    refine g_iload C dX5_parseFrame_102 3 rfl ?_
    refine g_iload C dX5_parseFrame_104 4 rfl ?_
    refine g_iload C dX5_parseFrame_106 6 rfl ?_
    refine g_iload C dX5_parseFrame_108 5 rfl ?_
    refine g_bipush (v := 64) C dX5_parseFrame_110 (by decide) ?_
    refine g_iand C dX5_parseFrame_112 ?_
    refine g_if_eq C 120 dX5_parseFrame_113 rfl (fun q => ?_) (fun q => ?_)
    · replace h := ip q h
      refine g_iconst (v := 0) C dX5_parseFrame_120 (by decide) ?_
      exact g_lv [0] rfl (wX5_parseFrame_L121 C _ _ _ _ _ _ _ _ _ s_a0 (hT_μ.1 _ _ 3 _ s_a0 rfl) h)
    · replace h := iq q h
      refine g_iconst (v := 1) C dX5_parseFrame_116 (by decide) ?_
      refine g_goto C 121 dX5_parseFrame_117 rfl ?_
      exact g_lv [0] rfl (wX5_parseFrame_L121 C _ _ _ _ _ _ _ _ _ s_a0 (hT_μ.1 _ _ 3 _ s_a0 rfl) h)
  · replace h := iq q h
    refine g_null C dX5_parseFrame_94 ?_
    cases h
    exact g_areturn C (Or.inl ⟨_, rfl⟩) (fun _ h => by cases h) dX5_parseFrame_95
set_option maxRecDepth 100000 in
set_option maxHeartbeats 4000000 in
theorem wX5_parseFrame_L55 {p : Program} {l : Launch} {e : Env} {s : State} {m : MethodId} {args : Array Value} {below : List Frame} {meth : Method} {c : Code} {D : va_G} {cA : Nat → ClassId} {tS : Nat → Nat} {σ : Sg} {fu : Nat} {q : Option Nat × Mm} (C : Cx p s m args meth c (dm σ) D cA tS σ cX5_parseFrame (some (.object "PictureReel$Frame")) 9 RX5) (a0 : Nat) (v1 : Int32) (v2 : Int32) (v3 : Int32) (v4 : Int32) (v5 : Int32) (μ : Mm) (s_a0 : σ a0 = some (5, 0)) (h : fX5_parseFrame_L55 fu a0 v1 v2 v3 v4 v5 μ = some q) : GG p l e (rmO 4 95) s m args below meth c 0 0 (dm σ) D cA σ 9 (MQ below (QR D cA σ (3, 0) q.1 q.2) args s 0 0 (dm σ)) 55 [(0, .ref a0), (1, .int v1), (2, .int v2), (3, .int v3), (4, .int v4), (5, .int v5)] [] μ := by
  unfold fX5_parseFrame_L55 at h
  refine g_aload_n C dX5_parseFrame_55 0 rfl ?_
  obtain ⟨q1, e_q1, h⟩ := bs h
  refine g_callVI C (kX5_nextByte s_a0 e_q1) miX5_nextByte lmX5_87 s_a0 (by decide) rfl rfl rfl (Nat.le_of_ble_eq_true rfl) dX5_parseFrame_56 ⟨by decide, by decide⟩ ⟨Nat.zero_le _, Nat.zero_le _⟩ ?_
  obtain ⟨x2, e_x2, h⟩ := nm h
  refine g_topi e_x2 ?_
  refine g_istore (lv' := [(6, .int x2), (0, .ref a0), (1, .int v1), (2, .int v2), (3, .int v3), (4, .int v4), (5, .int v5)]) C dX5_parseFrame_59 (by decide) rfl ?_
  refine g_iload C dX5_parseFrame_61 0 rfl ?_
  obtain ⟨x3, e_x3, h⟩ := nm h
  refine g_callSI C (kX7_sizeByMark e_x3.symm) msX7_sizeByMark lmX5_104 rfl rfl (Nat.le_of_ble_eq_true rfl) dX5_parseFrame_63 ⟨by decide, by decide⟩ ⟨Nat.zero_le _, Nat.zero_le _⟩ ?_
  refine g_istore (lv' := [(7, .int x3), (6, .int x2), (0, .ref a0), (1, .int v1), (2, .int v2), (3, .int v3), (4, .int v4), (5, .int v5)]) C dX5_parseFrame_66 (by decide) rfl ?_
  refine g_aload_n C dX5_parseFrame_68 2 rfl ?_
  refine g_wt (fun hT_q1_2 => ?_)
  refine g_getr (j := 3) C s_a0 (by decide) rfl uwX5 (by decide) rfl lfX5_35 rfl dX5_parseFrame_69 ?_
  refine g_iload C dX5_parseFrame_72 0 rfl ?_
  obtain ⟨x4, e_x4, h⟩ := nm h
  refine g_callVI C (kX4_givesTable (hT_q1_2.1 _ _ 3 _ s_a0 rfl) e_x4.symm) miX4_givesTable lmX5_187 (hT_q1_2.1 _ _ 3 _ s_a0 rfl) (by decide) rfl rfl rfl (Nat.le_of_ble_eq_true rfl) dX5_parseFrame_74 ⟨by decide, by decide⟩ ⟨Nat.zero_le _, Nat.zero_le _⟩ ?_
  refine g_if_ne C 87 dX5_parseFrame_77 rfl (fun q => ?_) (fun q => ?_)
  · replace h := iq q h
    exact g_lv [2, 4, 5, 6, 7, 1, 0] rfl (wX5_parseFrame_L87 C _ _ _ _ _ _ _ _ s_a0 h)
  · replace h := ip q h
    refine g_aload_n C dX5_parseFrame_80 2 rfl ?_
    refine g_bipush (v := 7) C dX5_parseFrame_81 (by decide) ?_
    refine g_iload_n C dX5_parseFrame_83 3 rfl ?_
    obtain ⟨μ5, e_μ5, h⟩ := nm h
    refine g_callVV C (kX5_refuse s_a0 e_μ5.symm) miX5_refuse lmX5_80 s_a0 (by decide) rfl rfl rfl (Nat.le_of_ble_eq_true rfl) dX5_parseFrame_84 ⟨by decide, by decide⟩ ⟨Nat.zero_le _, Nat.zero_le _⟩ ?_
    exact g_lv [2, 4, 5, 6, 7, 1, 0] rfl (wX5_parseFrame_L87 C _ _ _ _ _ _ _ _ s_a0 h)
set_option maxRecDepth 100000 in
set_option maxHeartbeats 4000000 in
theorem wX5_parseFrame_L48 {p : Program} {l : Launch} {e : Env} {s : State} {m : MethodId} {args : Array Value} {below : List Frame} {meth : Method} {c : Code} {D : va_G} {cA : Nat → ClassId} {tS : Nat → Nat} {σ : Sg} {fu : Nat} {q : Option Nat × Mm} (C : Cx p s m args meth c (dm σ) D cA tS σ cX5_parseFrame (some (.object "PictureReel$Frame")) 9 RX5) (a0 : Nat) (v1 : Int32) (v2 : Int32) (v3 : Int32) (v4 : Int32) (v5 : Int32) (μ : Mm) (s_a0 : σ a0 = some (5, 0)) (h : fX5_parseFrame_L48 fu a0 v1 v2 v3 v4 v5 μ = some q) : GG p l e (rmO 4 95) s m args below meth c 0 0 (dm σ) D cA σ 9 (MQ below (QR D cA σ (3, 0) q.1 q.2) args s 0 0 (dm σ)) 48 [(0, .ref a0), (1, .int v1), (2, .int v2), (3, .int v3), (4, .int v4), (5, .int v5)] [] μ := by
  unfold fX5_parseFrame_L48 at h
  refine g_aload_n C dX5_parseFrame_48 0 rfl ?_
  refine g_bipush (v := 6) C dX5_parseFrame_49 (by decide) ?_
  refine g_iload_n C dX5_parseFrame_51 1 rfl ?_
  obtain ⟨μ1, e_μ1, h⟩ := nm h
  refine g_callVV C (kX5_refuse s_a0 e_μ1.symm) miX5_refuse lmX5_80 s_a0 (by decide) rfl rfl rfl (Nat.le_of_ble_eq_true rfl) dX5_parseFrame_52 ⟨by decide, by decide⟩ ⟨Nat.zero_le _, Nat.zero_le _⟩ ?_
  exact g_lv [0, 1, 2, 3, 4, 5] rfl (wX5_parseFrame_L55 C _ _ _ _ _ _ _ s_a0 h)
set_option maxRecDepth 100000 in
set_option maxHeartbeats 4000000 in
theorem wX5_parseFrame {p : Program} {l : Launch} {e : Env} {s : State} {m : MethodId} {args : Array Value} {below : List Frame} {meth : Method} {c : Code} {D : va_G} {cA : Nat → ClassId} {tS : Nat → Nat} {σ : Sg} {fu : Nat} {q : Option Nat × Mm} (C : Cx p s m args meth c (dm σ) D cA tS σ cX5_parseFrame (some (.object "PictureReel$Frame")) 9 RX5) (a0 : Nat) (v1 : Int32) (μ : Mm) (s_a0 : σ a0 = some (5, 0)) (h : fX5_parseFrame fu a0 v1 μ = some q) : GG p l e (rmO 4 95) s m args below meth c 0 0 (dm σ) D cA σ 9 (MQ below (QR D cA σ (3, 0) q.1 q.2) args s 0 0 (dm σ)) 0 [(0, .ref a0), (1, .int v1)] [] μ := by
  unfold fX5_parseFrame at h
  refine g_aload_n C dX5_parseFrame_0 0 rfl ?_
  obtain ⟨q1, e_q1, h⟩ := bs h
  refine g_callVI C (kX5_nextNumber s_a0 e_q1) miX5_nextNumber lmX5_97 s_a0 (by decide) rfl rfl rfl (Nat.le_of_ble_eq_true rfl) dX5_parseFrame_1 ⟨by decide, by decide⟩ ⟨Nat.zero_le _, Nat.zero_le _⟩ ?_
  obtain ⟨x2, e_x2, h⟩ := nm h
  refine g_topi e_x2 ?_
  refine g_istore_n (lv' := [(2, .int x2), (0, .ref a0), (1, .int v1)]) C dX5_parseFrame_4 (by decide) rfl ?_
  refine g_aload_n C dX5_parseFrame_5 1 rfl ?_
  obtain ⟨q3, e_q3, h⟩ := bs h
  refine g_callVI C (kX5_nextNumber s_a0 e_q3) miX5_nextNumber lmX5_97 s_a0 (by decide) rfl rfl rfl (Nat.le_of_ble_eq_true rfl) dX5_parseFrame_6 ⟨by decide, by decide⟩ ⟨Nat.zero_le _, Nat.zero_le _⟩ ?_
  obtain ⟨x4, e_x4, h⟩ := nm h
  refine g_topi e_x4 ?_
  refine g_istore_n (lv' := [(3, .int x4), (2, .int x2), (0, .ref a0), (1, .int v1)]) C dX5_parseFrame_9 (by decide) rfl ?_
  refine g_aload_n C dX5_parseFrame_10 2 rfl ?_
  obtain ⟨q5, e_q5, h⟩ := bs h
  refine g_callVI C (kX5_nextNumber s_a0 e_q5) miX5_nextNumber lmX5_97 s_a0 (by decide) rfl rfl rfl (Nat.le_of_ble_eq_true rfl) dX5_parseFrame_11 ⟨by decide, by decide⟩ ⟨Nat.zero_le _, Nat.zero_le _⟩ ?_
  obtain ⟨x6, e_x6, h⟩ := nm h
  refine g_topi e_x6 ?_
  refine g_istore (lv' := [(4, .int x6), (3, .int x4), (2, .int x2), (0, .ref a0), (1, .int v1)]) C dX5_parseFrame_14 (by decide) rfl ?_
  refine g_aload_n C dX5_parseFrame_16 3 rfl ?_
  obtain ⟨q7, e_q7, h⟩ := bs h
  refine g_callVI C (kX5_nextNumber s_a0 e_q7) miX5_nextNumber lmX5_97 s_a0 (by decide) rfl rfl rfl (Nat.le_of_ble_eq_true rfl) dX5_parseFrame_17 ⟨by decide, by decide⟩ ⟨Nat.zero_le _, Nat.zero_le _⟩ ?_
  obtain ⟨x8, e_x8, h⟩ := nm h
  refine g_topi e_x8 ?_
  refine g_istore (lv' := [(5, .int x8), (4, .int x6), (3, .int x4), (2, .int x2), (0, .ref a0), (1, .int v1)]) C dX5_parseFrame_20 (by decide) rfl ?_
  refine g_aload_n C dX5_parseFrame_22 4 rfl ?_
  refine g_wt (fun hT_q7_2 => ?_)
  refine g_getr (j := 3) C s_a0 (by decide) rfl uwX5 (by decide) rfl lfX5_35 rfl dX5_parseFrame_23 ?_
  obtain ⟨x9, e_x9, h⟩ := nm h
  refine g_callVI C (kX4_hasRoom (hT_q7_2.1 _ _ 3 _ s_a0 rfl) e_x9.symm) miX4_hasRoom lmX5_179 (hT_q7_2.1 _ _ 3 _ s_a0 rfl) (by decide) rfl rfl rfl (Nat.le_of_ble_eq_true rfl) dX5_parseFrame_26 ⟨by decide, by decide⟩ ⟨Nat.zero_le _, Nat.zero_le _⟩ ?_
  refine g_if_eq C 48 dX5_parseFrame_29 rfl (fun q => ?_) (fun q => ?_)
  · replace h := ip q h
    exact g_lv [4, 5, 3, 2, 1, 0] rfl (wX5_parseFrame_L48 C _ _ _ _ _ _ _ s_a0 h)
  · replace h := iq q h
    refine g_aload_n C dX5_parseFrame_32 4 rfl ?_
    refine g_getr (j := 3) C s_a0 (by decide) rfl uwX5 (by decide) rfl lfX5_35 rfl dX5_parseFrame_33 ?_
    refine g_iload_n C dX5_parseFrame_36 3 rfl ?_
    refine g_iload_n C dX5_parseFrame_37 2 rfl ?_
    refine g_iload C dX5_parseFrame_38 1 rfl ?_
    refine g_iload C dX5_parseFrame_40 0 rfl ?_
    obtain ⟨x10, e_x10, h⟩ := nm h
    refine g_callVI C (kX4_holds (hT_q7_2.1 _ _ 3 _ s_a0 rfl) e_x10.symm) miX4_holds lmX5_183 (hT_q7_2.1 _ _ 3 _ s_a0 rfl) (by decide) rfl rfl rfl (Nat.le_of_ble_eq_true rfl) dX5_parseFrame_42 ⟨by decide, by decide⟩ ⟨Nat.zero_le _, Nat.zero_le _⟩ ?_
    refine g_if_ne C 55 dX5_parseFrame_45 rfl (fun q => ?_) (fun q => ?_)
    · replace h := iq q h
      exact g_lv [4, 5, 3, 2, 1, 0] rfl (wX5_parseFrame_L55 C _ _ _ _ _ _ _ s_a0 h)
    · replace h := ip q h
      exact g_lv [4, 5, 3, 2, 1, 0] rfl (wX5_parseFrame_L48 C _ _ _ _ _ _ _ s_a0 h)
theorem miX5_parseFrame : MI yX5_parseFrame cX5_parseFrame 9 (some (.object "PictureReel$Frame")) RX5 1 := ⟨wcX5_parseFrame, wmX5_parseFrame, wsX5_parseFrame, wiX5, by decide +kernel⟩
theorem kX5_parseFrame {l : Launch} {D : va_G} {cA : Nat → ClassId} {tS : Nat → Nat} {σ : Sg} {a0 : Nat} {v1 : Int32} {μ : Mm} {fu : Nat} {q : Option Nat × Mm} (s_a0 : σ a0 = some (5, 0)) (h : fX5_parseFrame fu a0 v1 μ = some q) : Ct l D cA tS σ yX5_parseFrame cX5_parseFrame 9 (some (.object "PictureReel$Frame")) (rmO 4 95) [.ref a0, .int v1] μ (QR D cA σ (3, 0) q.1 q.2) :=
  Ct.of (by decide) (Nat.le_of_ble_eq_true rfl) (fun _ _ _ _ _ _ _ _ C => wX5_parseFrame C _ _ _ s_a0 h)
set_option maxRecDepth 100000 in
set_option maxHeartbeats 4000000 in
theorem wX5_parseImage_L37 {p : Program} {l : Launch} {e : Env} {s : State} {m : MethodId} {args : Array Value} {below : List Frame} {meth : Method} {c : Code} {D : va_G} {cA : Nat → ClassId} {tS : Nat → Nat} {σ : Sg} {fu : Nat} {q : Mm} (C : Cx p s m args meth c (dm σ) D cA tS σ cX5_parseImage none 5 RX5) (a0 : Nat) (n2 : Option Nat) (v3 : Int32) (v4 : Int32) (μ : Mm) (s_a0 : σ a0 = some (5, 0)) (s_n2 : ∀ b, n2 = some b → σ b = some (3, 0)) (h : fX5_parseImage_L37 fu a0 n2 v3 v4 μ = some q) : GG p l e (rmO 5 123) s m args below meth c 0 0 (dm σ) D cA σ 5 (MQ below (QV D cA σ q) args s 0 0 (dm σ)) 37 [(0, .ref a0), (2, va_rf n2), (3, .int v3), (4, .int v4)] [] μ := by
  unfold fX5_parseImage_L37 at h
  refine g_aload_n C dX5_parseImage_37 0 rfl ?_
  obtain ⟨μ1, e_μ1, h⟩ := bs h
  refine g_callVV C (kX5_gatherRows s_a0 e_μ1) miX5_gatherRows lmX5_144 s_a0 (by decide) rfl rfl rfl (Nat.le_of_ble_eq_true rfl) dX5_parseImage_38 ⟨by decide, by decide⟩ ⟨Nat.zero_le _, Nat.zero_le _⟩ ?_
  refine g_aload_n C dX5_parseImage_41 0 rfl ?_
  refine g_geti (j := 9) C s_a0 (by decide) rfl uwX5 (by decide) rfl lfX5_39 rfl dX5_parseImage_42 ?_
  refine g_if_ne C 52 dX5_parseImage_45 rfl (fun q => ?_) (fun q => ?_)
  · replace h := iq q h
    cases h
    exact g_return C dX5_parseImage_52
  · replace h := ip q h
    refine g_aload_nq C dX5_parseImage_48 1 rfl ?_
    rcases n2 with _ | b2
    · replace h := oc0 h
      refine g_ifnonnullN C dX5_parseImage_49 ?_
      cases h
      exact g_return C dX5_parseImage_52
    · replace h := oc1 h
      have s_b2 : σ b2 = some (3, 0) := s_n2 _ rfl
      refine g_ifnonnull C 53 dX5_parseImage_49 rfl ?_
      refine g_aload_n C dX5_parseImage_53 0 rfl ?_
      refine g_wt (fun hT_μ1 => ?_)
      refine g_getr (j := 1) C s_a0 (by decide) rfl uwX5 (by decide) rfl lfX5_21 rfl dX5_parseImage_54 ?_
      refine g_iload C dX5_parseImage_57 3 rfl ?_
      refine g_aload_n C dX5_parseImage_59 1 rfl ?_
      obtain ⟨x3, e_x3, h⟩ := nm h
      refine g_callVI C (kX3_size s_b2 e_x3.symm) miX3_size lmX5_160 s_b2 (by decide) rfl rfl rfl (Nat.le_of_ble_eq_true rfl) dX5_parseImage_60 ⟨by decide, by decide⟩ ⟨Nat.zero_le _, Nat.zero_le _⟩ ?_
      refine g_aload_n C dX5_parseImage_63 0 rfl ?_
      refine g_getr (j := 3) C s_a0 (by decide) rfl uwX5 (by decide) rfl lfX5_35 rfl dX5_parseImage_64 ?_
      refine g_aload_n C dX5_parseImage_67 1 rfl ?_
      obtain ⟨r4, e_r4, h⟩ := nm h
      refine g_callVQ C (kX4_tableOf (hT_μ1.1 _ _ 3 _ s_a0 rfl) s_b2 e_r4.symm) miX4_tableOf lmX5_164 (hT_μ1.1 _ _ 3 _ s_a0 rfl) (by decide) rfl rfl rfl (Nat.le_of_ble_eq_true rfl) dX5_parseImage_68 ⟨by decide, by decide⟩ ⟨Nat.zero_le _, Nat.zero_le _⟩ (fun hs_r4 => ?_)
      refine g_geti (j := 1) C (hs_r4 _ rfl) (by decide) rfl uwX7 (by decide) rfl lfX5_121 rfl dX5_parseImage_71 ?_
      obtain ⟨q5, e_q5, h⟩ := bs h
      refine g_callVI C (kX1_decode (hT_μ1.1 _ _ 1 _ s_a0 rfl) e_q5) miX1_decode lmX5_168 (hT_μ1.1 _ _ 1 _ s_a0 rfl) (by decide) rfl rfl rfl (Nat.le_of_ble_eq_true rfl) dX5_parseImage_74 ⟨by decide, by decide⟩ ⟨Nat.zero_le _, Nat.zero_le _⟩ ?_
      refine g_if_eq C 94 dX5_parseImage_77 rfl (fun q => ?_) (fun q => ?_)
      · replace h := ip q h
        refine g_aload_n C dX5_parseImage_94 0 rfl ?_
        refine g_bipush (v := 9) C dX5_parseImage_95 (by decide) ?_
        refine g_iload_n C dX5_parseImage_97 2 rfl ?_
        obtain ⟨μ6, e_μ6, h⟩ := nm h
        refine g_callVV C (kX5_refuse s_a0 e_μ6.symm) miX5_refuse lmX5_80 s_a0 (by decide) rfl rfl rfl (Nat.le_of_ble_eq_true rfl) dX5_parseImage_98 ⟨by decide, by decide⟩ ⟨Nat.zero_le _, Nat.zero_le _⟩ ?_
        cases h
        exact g_return C dX5_parseImage_101
      · replace h := iq q h
        refine g_aload_n C dX5_parseImage_80 1 rfl ?_
        refine g_aload_n C dX5_parseImage_81 0 rfl ?_
        refine g_wt (fun hT_q5_2 => ?_)
        refine g_getr (j := 1) C s_a0 (by decide) rfl uwX5 (by decide) rfl lfX5_21 rfl dX5_parseImage_82 ?_
        refine g_getr (j := 1) C (hT_q5_2.1 _ _ 1 _ s_a0 rfl) (by decide) rfl uwX1 (by decide) rfl lfX5_172 rfl dX5_parseImage_85 ?_
        obtain ⟨μ7, e_μ7, h⟩ := bs h
        refine g_callVV C (kX3_fromStreamOrder s_b2 (hT_q5_2.1 _ _ 1 _ (hT_q5_2.1 _ _ 1 _ s_a0 rfl) rfl) e_μ7) miX3_fromStreamOrder lmX5_175 s_b2 (by decide) rfl rfl rfl (Nat.le_of_ble_eq_true rfl) dX5_parseImage_88 ⟨by decide, by decide⟩ ⟨Nat.zero_le _, Nat.zero_le _⟩ ?_
        refine g_goto C 101 dX5_parseImage_91 rfl ?_
        cases h
        exact g_return C dX5_parseImage_101
set_option maxRecDepth 100000 in
set_option maxHeartbeats 4000000 in
theorem wX5_parseImage_L30 {p : Program} {l : Launch} {e : Env} {s : State} {m : MethodId} {args : Array Value} {below : List Frame} {meth : Method} {c : Code} {D : va_G} {cA : Nat → ClassId} {tS : Nat → Nat} {σ : Sg} {fu : Nat} {q : Mm} (C : Cx p s m args meth c (dm σ) D cA tS σ cX5_parseImage none 5 RX5) (a0 : Nat) (n2 : Option Nat) (v3 : Int32) (v4 : Int32) (μ : Mm) (s_a0 : σ a0 = some (5, 0)) (s_n2 : ∀ b, n2 = some b → σ b = some (3, 0)) (h : fX5_parseImage_L30 fu a0 n2 v3 v4 μ = some q) : GG p l e (rmO 5 123) s m args below meth c 0 0 (dm σ) D cA σ 5 (MQ below (QV D cA σ q) args s 0 0 (dm σ)) 30 [(0, .ref a0), (2, va_rf n2), (3, .int v3), (4, .int v4)] [] μ := by
  unfold fX5_parseImage_L30 at h
  refine g_aload_n C dX5_parseImage_30 0 rfl ?_
  refine g_bipush (v := 8) C dX5_parseImage_31 (by decide) ?_
  refine g_iload_n C dX5_parseImage_33 2 rfl ?_
  obtain ⟨μ1, e_μ1, h⟩ := nm h
  refine g_callVV C (kX5_refuse s_a0 e_μ1.symm) miX5_refuse lmX5_80 s_a0 (by decide) rfl rfl rfl (Nat.le_of_ble_eq_true rfl) dX5_parseImage_34 ⟨by decide, by decide⟩ ⟨Nat.zero_le _, Nat.zero_le _⟩ ?_
  exact g_lv [0, 1, 2, 3] rfl (wX5_parseImage_L37 C _ _ _ _ _ s_a0 s_n2 h)
set_option maxRecDepth 100000 in
set_option maxHeartbeats 4000000 in
theorem wX5_parseImage {p : Program} {l : Launch} {e : Env} {s : State} {m : MethodId} {args : Array Value} {below : List Frame} {meth : Method} {c : Code} {D : va_G} {cA : Nat → ClassId} {tS : Nat → Nat} {σ : Sg} {fu : Nat} {q : Mm} (C : Cx p s m args meth c (dm σ) D cA tS σ cX5_parseImage none 5 RX5) (a0 : Nat) (v1 : Int32) (μ : Mm) (s_a0 : σ a0 = some (5, 0)) (h : fX5_parseImage fu a0 v1 μ = some q) : GG p l e (rmO 5 123) s m args below meth c 0 0 (dm σ) D cA σ 5 (MQ below (QV D cA σ q) args s 0 0 (dm σ)) 0 [(0, .ref a0), (1, .int v1)] [] μ := by
  unfold fX5_parseImage at h
  refine g_aload_n C dX5_parseImage_0 0 rfl ?_
  refine g_iload_n C dX5_parseImage_1 1 rfl ?_
  obtain ⟨q1, e_q1, h⟩ := bs h
  refine g_callVQ C (kX5_parseFrame s_a0 e_q1) miX5_parseFrame lmX5_156 s_a0 (by decide) rfl rfl rfl (Nat.le_of_ble_eq_true rfl) dX5_parseImage_2 ⟨by decide, by decide⟩ ⟨Nat.zero_le _, Nat.zero_le _⟩ (fun hs_q1 => ?_)
  obtain ⟨n2, e_n2, h⟩ := nm h
  refine g_topq e_n2 ?_
  have s_n2 : ∀ b, n2 = some b → σ b = some (3, 0) := by rw [e_n2]; exact hs_q1
  refine g_astore_nq (lv' := [(2, va_rf n2), (0, .ref a0), (1, .int v1)]) C dX5_parseImage_5 (by decide) (by rcases n2 with _ | _ <;> rfl) ?_
  refine g_aload_n C dX5_parseImage_6 1 rfl ?_
  refine g_geti (j := 5) C s_a0 (by decide) rfl uwX5 (by decide) rfl lfX5_58 rfl dX5_parseImage_7 ?_
  obtain ⟨x3, e_x3, h⟩ := nm h
  refine g_topi e_x3 ?_
  refine g_istore_n (lv' := [(3, .int x3), (2, va_rf n2), (0, .ref a0), (1, .int v1)]) C dX5_parseImage_10 (by decide) (by rcases n2 with _ | _ <;> rfl) ?_
  refine g_aload_n C dX5_parseImage_11 2 rfl ?_
  obtain ⟨q4, e_q4, h⟩ := bs h
  refine g_callVI C (kX5_nextByte s_a0 e_q4) miX5_nextByte lmX5_87 s_a0 (by decide) rfl rfl rfl (Nat.le_of_ble_eq_true rfl) dX5_parseImage_12 ⟨by decide, by decide⟩ ⟨Nat.zero_le _, Nat.zero_le _⟩ ?_
  obtain ⟨x5, e_x5, h⟩ := nm h
  refine g_topi e_x5 ?_
  refine g_istore (lv' := [(4, .int x5), (3, .int x3), (2, va_rf n2), (0, .ref a0), (1, .int v1)]) C dX5_parseImage_15 (by decide) (by rcases n2 with _ | _ <;> rfl) ?_
  refine g_iload C dX5_parseImage_17 0 rfl ?_
  refine g_iconst (v := 2) C dX5_parseImage_19 (by decide) ?_
  refine g_icmp_lt C 30 dX5_parseImage_20 rfl (fun q => ?_) (fun q => ?_)
  · replace h := ip q h
    exact g_lv [3, 2, 1, 0] rfl (wX5_parseImage_L30 C _ _ _ _ _ s_a0 s_n2 h)
  · replace h := iq q h
    refine g_iload C dX5_parseImage_23 0 rfl ?_
    refine g_bipush (v := 8) C dX5_parseImage_25 (by decide) ?_
    refine g_icmp_le C 37 dX5_parseImage_27 rfl (fun q => ?_) (fun q => ?_)
    · replace h := ip q h
      exact g_lv [3, 2, 1, 0] rfl (wX5_parseImage_L37 C _ _ _ _ _ s_a0 s_n2 h)
    · replace h := iq q h
      exact g_lv [3, 2, 1, 0] rfl (wX5_parseImage_L30 C _ _ _ _ _ s_a0 s_n2 h)
theorem miX5_parseImage : MI yX5_parseImage cX5_parseImage 5 none RX5 1 := ⟨wcX5_parseImage, wmX5_parseImage, wsX5_parseImage, wiX5, by decide +kernel⟩
theorem kX5_parseImage {l : Launch} {D : va_G} {cA : Nat → ClassId} {tS : Nat → Nat} {σ : Sg} {a0 : Nat} {v1 : Int32} {μ : Mm} {fu : Nat} {q : Mm} (s_a0 : σ a0 = some (5, 0)) (h : fX5_parseImage fu a0 v1 μ = some q) : Ct l D cA tS σ yX5_parseImage cX5_parseImage 5 none (rmO 5 123) [.ref a0, .int v1] μ (QV D cA σ q) :=
  Ct.of (by decide) (Nat.le_of_ble_eq_true rfl) (fun _ _ _ _ _ _ _ _ C => wX5_parseImage C _ _ _ s_a0 h)
set_option maxRecDepth 100000 in
set_option maxHeartbeats 4000000 in
theorem wX5_parseBlock_L64 {p : Program} {l : Launch} {e : Env} {s : State} {m : MethodId} {args : Array Value} {below : List Frame} {meth : Method} {c : Code} {D : va_G} {cA : Nat → ClassId} {tS : Nat → Nat} {σ : Sg} {fu : Nat} {q : Mm} (C : Cx p s m args meth c (dm σ) D cA tS σ cX5_parseBlock none 3 RX5) (a0 : Nat) (v1 : Int32) (μ : Mm) (s_a0 : σ a0 = some (5, 0)) (h : fX5_parseBlock_L64 fu a0 v1 μ = some q) : GG p l e (rmO 6 147) s m args below meth c 0 0 (dm σ) D cA σ 3 (MQ below (QV D cA σ q) args s 0 0 (dm σ)) 64 [(0, .ref a0), (1, .int v1)] [] μ := by
  unfold fX5_parseBlock_L64 at h
  refine g_aload_n C dX5_parseBlock_64 0 rfl ?_
  refine g_iconst (v := 4) C dX5_parseBlock_65 (by decide) ?_
  refine g_iload_n C dX5_parseBlock_66 1 rfl ?_
  obtain ⟨μ1, e_μ1, h⟩ := nm h
  refine g_callVV C (kX5_refuse s_a0 e_μ1.symm) miX5_refuse lmX5_80 s_a0 (by decide) rfl rfl rfl (Nat.le_of_ble_eq_true rfl) dX5_parseBlock_67 ⟨by decide, by decide⟩ ⟨Nat.zero_le _, Nat.zero_le _⟩ ?_
  cases h
  exact g_return C dX5_parseBlock_70
set_option maxRecDepth 100000 in
set_option maxHeartbeats 4000000 in
theorem wX5_parseBlock_L44 {p : Program} {l : Launch} {e : Env} {s : State} {m : MethodId} {args : Array Value} {below : List Frame} {meth : Method} {c : Code} {D : va_G} {cA : Nat → ClassId} {tS : Nat → Nat} {σ : Sg} {fu : Nat} {q : Mm} (C : Cx p s m args meth c (dm σ) D cA tS σ cX5_parseBlock none 3 RX5) (a0 : Nat) (v1 : Int32) (v2 : Int32) (μ : Mm) (s_a0 : σ a0 = some (5, 0)) (h : fX5_parseBlock_L44 fu a0 v1 v2 μ = some q) : GG p l e (rmO 6 147) s m args below meth c 0 0 (dm σ) D cA σ 3 (MQ below (QV D cA σ q) args s 0 0 (dm σ)) 44 [(0, .ref a0), (1, .int v1), (2, .int v2)] [] μ := by
  unfold fX5_parseBlock_L44 at h
  refine g_iload_n C dX5_parseBlock_44 2 rfl ?_
  refine g_bipush (v := 59) C dX5_parseBlock_45 (by decide) ?_
  refine g_icmp_ne C 64 dX5_parseBlock_47 rfl (fun q => ?_) (fun q => ?_)
  · replace h := iq q h
    exact g_lv [0, 1] rfl (wX5_parseBlock_L64 C _ _ _ s_a0 h)
  · replace h := ip q h
    refine g_aload_n C dX5_parseBlock_50 0 rfl ?_
    refine g_geti (j := 7) C s_a0 (by decide) rfl uwX5 (by decide) rfl lfX5_132 rfl dX5_parseBlock_51 ?_
    refine g_if_ne C 64 dX5_parseBlock_54 rfl (fun q => ?_) (fun q => ?_)
    · replace h := iq q h
      exact g_lv [0, 1] rfl (wX5_parseBlock_L64 C _ _ _ s_a0 h)
    · replace h := ip q h
      refine g_aload_n C dX5_parseBlock_57 0 rfl ?_
      obtain ⟨μ1, e_μ1, h⟩ := nm h
      refine g_callVV C (kX5_parseEnd s_a0 e_μ1.symm) miX5_parseEnd lmX5_135 s_a0 (by decide) rfl rfl rfl (Nat.le_of_ble_eq_true rfl) dX5_parseBlock_58 ⟨by decide, by decide⟩ ⟨Nat.zero_le _, Nat.zero_le _⟩ ?_
      refine g_goto C 70 dX5_parseBlock_61 rfl ?_
      cases h
      exact g_return C dX5_parseBlock_70
set_option maxRecDepth 100000 in
set_option maxHeartbeats 4000000 in
theorem wX5_parseBlock {p : Program} {l : Launch} {e : Env} {s : State} {m : MethodId} {args : Array Value} {below : List Frame} {meth : Method} {c : Code} {D : va_G} {cA : Nat → ClassId} {tS : Nat → Nat} {σ : Sg} {fu : Nat} {q : Mm} (C : Cx p s m args meth c (dm σ) D cA tS σ cX5_parseBlock none 3 RX5) (a0 : Nat) (μ : Mm) (s_a0 : σ a0 = some (5, 0)) (h : fX5_parseBlock fu a0 μ = some q) : GG p l e (rmO 6 147) s m args below meth c 0 0 (dm σ) D cA σ 3 (MQ below (QV D cA σ q) args s 0 0 (dm σ)) 0 [(0, .ref a0)] [] μ := by
  unfold fX5_parseBlock at h
  refine g_aload_n C dX5_parseBlock_0 0 rfl ?_
  refine g_geti (j := 5) C s_a0 (by decide) rfl uwX5 (by decide) rfl lfX5_58 rfl dX5_parseBlock_1 ?_
  obtain ⟨x1, e_x1, h⟩ := nm h
  refine g_topi e_x1 ?_
  refine g_istore_n (lv' := [(1, .int x1), (0, .ref a0)]) C dX5_parseBlock_4 (by decide) rfl ?_
  refine g_aload_n C dX5_parseBlock_5 1 rfl ?_
  obtain ⟨q2, e_q2, h⟩ := bs h
  refine g_callVI C (kX5_nextByte s_a0 e_q2) miX5_nextByte lmX5_87 s_a0 (by decide) rfl rfl rfl (Nat.le_of_ble_eq_true rfl) dX5_parseBlock_6 ⟨by decide, by decide⟩ ⟨Nat.zero_le _, Nat.zero_le _⟩ ?_
  obtain ⟨x3, e_x3, h⟩ := nm h
  refine g_topi e_x3 ?_
  refine g_istore_n (lv' := [(2, .int x3), (1, .int x1), (0, .ref a0)]) C dX5_parseBlock_9 (by decide) rfl ?_
  refine g_iload_n C dX5_parseBlock_10 0 rfl ?_
  refine g_bipush (v := 44) C dX5_parseBlock_11 (by decide) ?_
  refine g_icmp_ne C 24 dX5_parseBlock_13 rfl (fun q => ?_) (fun q => ?_)
  · replace h := iq q h
    refine g_iload_n C dX5_parseBlock_24 0 rfl ?_
    refine g_bipush (v := 33) C dX5_parseBlock_25 (by decide) ?_
    refine g_icmp_ne C 44 dX5_parseBlock_27 rfl (fun q => ?_) (fun q => ?_)
    · replace h := iq q h
      exact g_lv [2, 1, 0] rfl (wX5_parseBlock_L44 C _ _ _ _ s_a0 h)
    · replace h := ip q h
      refine g_aload_n C dX5_parseBlock_30 2 rfl ?_
      refine g_geti (j := 6) C s_a0 (by decide) rfl uwX5 (by decide) rfl lfX5_61 rfl dX5_parseBlock_31 ?_
      refine g_if_ne C 44 dX5_parseBlock_34 rfl (fun q => ?_) (fun q => ?_)
      · replace h := iq q h
        exact g_lv [2, 1, 0] rfl (wX5_parseBlock_L44 C _ _ _ _ s_a0 h)
      · replace h := ip q h
        refine g_aload_n C dX5_parseBlock_37 2 rfl ?_
        obtain ⟨μ4, e_μ4, h⟩ := bs h
        refine g_callVV C (kX5_parseExtension s_a0 e_μ4) miX5_parseExtension lmX5_129 s_a0 (by decide) rfl rfl rfl (Nat.le_of_ble_eq_true rfl) dX5_parseBlock_38 ⟨by decide, by decide⟩ ⟨Nat.zero_le _, Nat.zero_le _⟩ ?_
        refine g_goto C 70 dX5_parseBlock_41 rfl ?_
        cases h
        exact g_return C dX5_parseBlock_70
  · replace h := ip q h
    refine g_aload_n C dX5_parseBlock_16 2 rfl ?_
    refine g_iload_n C dX5_parseBlock_17 1 rfl ?_
    obtain ⟨μ5, e_μ5, h⟩ := bs h
    refine g_callVV C (kX5_parseImage s_a0 e_μ5) miX5_parseImage lmX5_125 s_a0 (by decide) rfl rfl rfl (Nat.le_of_ble_eq_true rfl) dX5_parseBlock_18 ⟨by decide, by decide⟩ ⟨Nat.zero_le _, Nat.zero_le _⟩ ?_
    refine g_goto C 70 dX5_parseBlock_21 rfl ?_
    cases h
    exact g_return C dX5_parseBlock_70
theorem miX5_parseBlock : MI yX5_parseBlock cX5_parseBlock 3 none RX5 0 := ⟨wcX5_parseBlock, wmX5_parseBlock, wsX5_parseBlock, wiX5, by decide +kernel⟩
theorem kX5_parseBlock {l : Launch} {D : va_G} {cA : Nat → ClassId} {tS : Nat → Nat} {σ : Sg} {a0 : Nat} {μ : Mm} {fu : Nat} {q : Mm} (s_a0 : σ a0 = some (5, 0)) (h : fX5_parseBlock fu a0 μ = some q) : Ct l D cA tS σ yX5_parseBlock cX5_parseBlock 3 none (rmO 6 147) [.ref a0] μ (QV D cA σ q) :=
  Ct.of (by decide) (Nat.le_of_ble_eq_true rfl) (fun _ _ _ _ _ _ _ _ C => wX5_parseBlock C _ _ s_a0 h)
set_option maxRecDepth 100000 in
set_option maxHeartbeats 4000000 in
theorem wX9_isSide {p : Program} {l : Launch} {e : Env} {s : State} {m : MethodId} {args : Array Value} {below : List Frame} {meth : Method} {c : Code} {D : va_G} {cA : Nat → ClassId} {tS : Nat → Nat} {σ : Sg} {μ0 : Mm} {q : Int32} (C : Cx p s m args meth c (dm σ) D cA tS σ cX9_isSide (some .boolean) 1 RX9) (v0 : Int32) (h : fX9_isSide v0 = q) : GG p l e (rmO 0 0) s m args below meth c 0 0 (dm σ) D cA σ 1 (MQ below (QI D cA σ q μ0) args s 0 0 (dm σ)) 0 [(0, .int v0)] [] μ0 := by
  unfold fX9_isSide at h
  refine g_iload_n C dX9_isSide_0 0 rfl ?_
  refine g_iconst (v := 1) C dX9_isSide_1 (by decide) ?_
  refine g_icmp_lt C 15 dX9_isSide_2 rfl (fun q => ?_) (fun q => ?_)
  · replace h := ip q h
    refine g_iconst (v := 0) C dX9_isSide_15 (by decide) ?_
    subst h
    exact g_zreturn (r := 0) C rfl dX9_isSide_16
  · replace h := iq q h
    refine g_iload_n C dX9_isSide_5 0 rfl ?_
    refine g_bipush (v := 64) C dX9_isSide_6 (by decide) ?_
    refine g_icmp_gt C 15 dX9_isSide_8 rfl (fun q => ?_) (fun q => ?_)
    · replace h := ip q h
      refine g_iconst (v := 0) C dX9_isSide_15 (by decide) ?_
      subst h
      exact g_zreturn (r := 0) C rfl dX9_isSide_16
    · replace h := iq q h
      refine g_iconst (v := 1) C dX9_isSide_11 (by decide) ?_
      refine g_goto C 16 dX9_isSide_12 rfl ?_
      subst h
      exact g_zreturn (r := 1) C rfl dX9_isSide_16
theorem msX9_isSide : MS yX9_isSide cX9_isSide 1 (some .boolean) 1 := ⟨wcX9_isSide, wtX9_isSide, wiX9, by decide +kernel⟩
theorem kX9_isSide {l : Launch} {D : va_G} {cA : Nat → ClassId} {tS : Nat → Nat} {σ : Sg} {v0 : Int32} {μ0 : Mm} {q : Int32} (h : fX9_isSide v0 = q) : Ct l D cA tS σ yX9_isSide cX9_isSide 1 (some .boolean) (rmO 0 0) [.int v0] μ0 (QI D cA σ q μ0) :=
  Ct.of (by decide) (Nat.le_of_ble_eq_true rfl) (fun _ _ _ _ _ _ _ _ C => wX9_isSide C _  h)
set_option maxRecDepth 100000 in
set_option maxHeartbeats 4000000 in
theorem wX5_parseScreen_L38 {p : Program} {l : Launch} {e : Env} {s : State} {m : MethodId} {args : Array Value} {below : List Frame} {meth : Method} {c : Code} {D : va_G} {cA : Nat → ClassId} {tS : Nat → Nat} {σ : Sg} {fu : Nat} {q : Mm} (C : Cx p s m args meth c (dm σ) D cA tS σ cX5_parseScreen none 6 RX5) (a0 : Nat) (v1 : Int32) (v2 : Int32) (μ : Mm) (s_a0 : σ a0 = some (5, 0)) (h : fX5_parseScreen_L38 fu a0 v1 v2 μ = some q) : GG p l e (rmO 3 67) s m args below meth c 0 0 (dm σ) D cA σ 6 (MQ below (QV D cA σ q) args s 0 0 (dm σ)) 38 [(0, .ref a0), (1, .int v1), (2, .int v2)] [] μ := by
  unfold fX5_parseScreen_L38 at h
  refine g_aload_n C dX5_parseScreen_38 0 rfl ?_
  obtain ⟨q1, e_q1, h⟩ := bs h
  refine g_callVI C (kX5_nextByte s_a0 e_q1) miX5_nextByte lmX5_87 s_a0 (by decide) rfl rfl rfl (Nat.le_of_ble_eq_true rfl) dX5_parseScreen_39 ⟨by decide, by decide⟩ ⟨Nat.zero_le _, Nat.zero_le _⟩ ?_
  obtain ⟨x2, e_x2, h⟩ := nm h
  refine g_topi e_x2 ?_
  refine g_istore_n (lv' := [(3, .int x2), (0, .ref a0), (1, .int v1), (2, .int v2)]) C dX5_parseScreen_42 (by decide) rfl ?_
  refine g_aload_n C dX5_parseScreen_43 1 rfl ?_
  obtain ⟨q3, e_q3, h⟩ := bs h
  refine g_callVI C (kX5_nextByte s_a0 e_q3) miX5_nextByte lmX5_87 s_a0 (by decide) rfl rfl rfl (Nat.le_of_ble_eq_true rfl) dX5_parseScreen_44 ⟨by decide, by decide⟩ ⟨Nat.zero_le _, Nat.zero_le _⟩ ?_
  obtain ⟨x4, e_x4, h⟩ := nm h
  refine g_topi e_x4 ?_
  refine g_istore (lv' := [(4, .int x4), (3, .int x2), (0, .ref a0), (1, .int v1), (2, .int v2)]) C dX5_parseScreen_47 (by decide) rfl ?_
  refine g_aload_n C dX5_parseScreen_49 2 rfl ?_
  obtain ⟨q5, e_q5, h⟩ := bs h
  refine g_callVI C (kX5_nextByte s_a0 e_q5) miX5_nextByte lmX5_87 s_a0 (by decide) rfl rfl rfl (Nat.le_of_ble_eq_true rfl) dX5_parseScreen_50 ⟨by decide, by decide⟩ ⟨Nat.zero_le _, Nat.zero_le _⟩ ?_
  obtain ⟨x6, e_x6, h⟩ := nm h
  refine g_topi e_x6 ?_
  refine g_istore (lv' := [(5, .int x6), (4, .int x4), (3, .int x2), (0, .ref a0), (1, .int v1), (2, .int v2)]) C dX5_parseScreen_53 (by decide) rfl ?_
  refine g_aload_n C dX5_parseScreen_55 3 rfl ?_
  refine g_geti (j := 9) C s_a0 (by decide) rfl uwX5 (by decide) rfl lfX5_39 rfl dX5_parseScreen_56 ?_
  refine g_if_ne C 90 dX5_parseScreen_59 rfl (fun q => ?_) (fun q => ?_)
  · replace h := iq q h
    cases h
    exact g_return C dX5_parseScreen_90
  · replace h := ip q h
    refine g_aload_n C dX5_parseScreen_62 3 rfl ?_
    refine g_wt (fun hT_q5_2 => ?_)
    refine g_getr (j := 3) C s_a0 (by decide) rfl uwX5 (by decide) rfl lfX5_35 rfl dX5_parseScreen_63 ?_
    refine g_iload_n C dX5_parseScreen_66 4 rfl ?_
    refine g_iload_n C dX5_parseScreen_67 5 rfl ?_
    refine g_iload_n C dX5_parseScreen_68 2 rfl ?_
    obtain ⟨x7, e_x7, h⟩ := nm h
    refine g_callSI C (kX7_sizeByMark e_x7.symm) msX7_sizeByMark lmX5_104 rfl rfl (Nat.le_of_ble_eq_true rfl) dX5_parseScreen_69 ⟨by decide, by decide⟩ ⟨Nat.zero_le _, Nat.zero_le _⟩ ?_
    refine g_iload C dX5_parseScreen_72 1 rfl ?_
    refine g_iload C dX5_parseScreen_74 0 rfl ?_
    obtain ⟨μ8, e_μ8, h⟩ := bs h
    refine g_callVV C (kX4_reset (hT_q5_2.1 _ _ 3 _ s_a0 rfl) e_μ8) miX4_reset lmX5_109 (hT_q5_2.1 _ _ 3 _ s_a0 rfl) (by decide) rfl rfl rfl (Nat.le_of_ble_eq_true rfl) dX5_parseScreen_76 ⟨by decide, by decide⟩ ⟨Nat.zero_le _, Nat.zero_le _⟩ ?_
    refine g_aload_n C dX5_parseScreen_79 3 rfl ?_
    refine g_aload_n C dX5_parseScreen_80 3 rfl ?_
    refine g_wt (fun hT_μ8 => ?_)
    refine g_getr (j := 3) C s_a0 (by decide) rfl uwX5 (by decide) rfl lfX5_35 rfl dX5_parseScreen_81 ?_
    refine g_getr (j := 5) C (hT_μ8.1 _ _ 3 _ s_a0 rfl) (by decide) rfl uwX4 (by decide) rfl lfX5_113 rfl dX5_parseScreen_84 ?_
    obtain ⟨μ9, e_μ9, h⟩ := bs h
    refine g_callVV C (kX5_parseTable s_a0 (hT_μ8.1 _ _ 5 _ (hT_μ8.1 _ _ 3 _ s_a0 rfl) rfl) e_μ9) miX5_parseTable lmX5_117 s_a0 (by decide) rfl rfl rfl (Nat.le_of_ble_eq_true rfl) dX5_parseScreen_87 ⟨by decide, by decide⟩ ⟨Nat.zero_le _, Nat.zero_le _⟩ ?_
    cases h
    exact g_return C dX5_parseScreen_90
set_option maxRecDepth 100000 in
set_option maxHeartbeats 4000000 in
theorem wX5_parseScreen_L19 {p : Program} {l : Launch} {e : Env} {s : State} {m : MethodId} {args : Array Value} {below : List Frame} {meth : Method} {c : Code} {D : va_G} {cA : Nat → ClassId} {tS : Nat → Nat} {σ : Sg} {fu : Nat} {q : Mm} (C : Cx p s m args meth c (dm σ) D cA tS σ cX5_parseScreen none 6 RX5) (a0 : Nat) (v1 : Int32) (μ : Mm) (s_a0 : σ a0 = some (5, 0)) (h : fX5_parseScreen_L19 fu a0 v1 μ = some q) : GG p l e (rmO 3 67) s m args below meth c 0 0 (dm σ) D cA σ 6 (MQ below (QV D cA σ q) args s 0 0 (dm σ)) 19 [(0, .ref a0), (1, .int v1)] [] μ := by
  unfold fX5_parseScreen_L19 at h
  refine g_aload_n C dX5_parseScreen_19 0 rfl ?_
  obtain ⟨q1, e_q1, h⟩ := bs h
  refine g_callVI C (kX5_nextNumber s_a0 e_q1) miX5_nextNumber lmX5_97 s_a0 (by decide) rfl rfl rfl (Nat.le_of_ble_eq_true rfl) dX5_parseScreen_20 ⟨by decide, by decide⟩ ⟨Nat.zero_le _, Nat.zero_le _⟩ ?_
  obtain ⟨x2, e_x2, h⟩ := nm h
  refine g_topi e_x2 ?_
  refine g_istore_n (lv' := [(2, .int x2), (0, .ref a0), (1, .int v1)]) C dX5_parseScreen_23 (by decide) rfl ?_
  refine g_iload_n C dX5_parseScreen_24 0 rfl ?_
  obtain ⟨x3, e_x3, h⟩ := nm h
  refine g_callNI C (kX9_isSide e_x3.symm) msX9_isSide (fun k => k.2.2.1) rfl rfl (Nat.le_of_ble_eq_true rfl) dX5_parseScreen_25 ⟨by decide, by decide⟩ ⟨Nat.zero_le _, Nat.zero_le _⟩ ?_
  refine g_if_ne C 38 dX5_parseScreen_28 rfl (fun q => ?_) (fun q => ?_)
  · replace h := iq q h
    exact g_lv [1, 2, 0] rfl (wX5_parseScreen_L38 C _ _ _ _ s_a0 h)
  · replace h := ip q h
    refine g_aload_n C dX5_parseScreen_31 1 rfl ?_
    refine g_iconst (v := 3) C dX5_parseScreen_32 (by decide) ?_
    refine g_bipush (v := 8) C dX5_parseScreen_33 (by decide) ?_
    obtain ⟨μ4, e_μ4, h⟩ := nm h
    refine g_callVV C (kX5_refuse s_a0 e_μ4.symm) miX5_refuse lmX5_80 s_a0 (by decide) rfl rfl rfl (Nat.le_of_ble_eq_true rfl) dX5_parseScreen_35 ⟨by decide, by decide⟩ ⟨Nat.zero_le _, Nat.zero_le _⟩ ?_
    exact g_lv [1, 2, 0] rfl (wX5_parseScreen_L38 C _ _ _ _ s_a0 h)
set_option maxRecDepth 100000 in
set_option maxHeartbeats 4000000 in
theorem wX5_parseScreen {p : Program} {l : Launch} {e : Env} {s : State} {m : MethodId} {args : Array Value} {below : List Frame} {meth : Method} {c : Code} {D : va_G} {cA : Nat → ClassId} {tS : Nat → Nat} {σ : Sg} {fu : Nat} {q : Mm} (C : Cx p s m args meth c (dm σ) D cA tS σ cX5_parseScreen none 6 RX5) (a0 : Nat) (μ : Mm) (s_a0 : σ a0 = some (5, 0)) (h : fX5_parseScreen fu a0 μ = some q) : GG p l e (rmO 3 67) s m args below meth c 0 0 (dm σ) D cA σ 6 (MQ below (QV D cA σ q) args s 0 0 (dm σ)) 0 [(0, .ref a0)] [] μ := by
  unfold fX5_parseScreen at h
  refine g_aload_n C dX5_parseScreen_0 0 rfl ?_
  obtain ⟨q1, e_q1, h⟩ := bs h
  refine g_callVI C (kX5_nextNumber s_a0 e_q1) miX5_nextNumber lmX5_97 s_a0 (by decide) rfl rfl rfl (Nat.le_of_ble_eq_true rfl) dX5_parseScreen_1 ⟨by decide, by decide⟩ ⟨Nat.zero_le _, Nat.zero_le _⟩ ?_
  obtain ⟨x2, e_x2, h⟩ := nm h
  refine g_topi e_x2 ?_
  refine g_istore_n (lv' := [(1, .int x2), (0, .ref a0)]) C dX5_parseScreen_4 (by decide) rfl ?_
  refine g_iload_n C dX5_parseScreen_5 0 rfl ?_
  obtain ⟨x3, e_x3, h⟩ := nm h
  refine g_callNI C (kX9_isSide e_x3.symm) msX9_isSide (fun k => k.2.2.1) rfl rfl (Nat.le_of_ble_eq_true rfl) dX5_parseScreen_6 ⟨by decide, by decide⟩ ⟨Nat.zero_le _, Nat.zero_le _⟩ ?_
  refine g_if_ne C 19 dX5_parseScreen_9 rfl (fun q => ?_) (fun q => ?_)
  · replace h := iq q h
    exact g_lv [1, 0] rfl (wX5_parseScreen_L19 C _ _ _ s_a0 h)
  · replace h := ip q h
    refine g_aload_n C dX5_parseScreen_12 1 rfl ?_
    refine g_iconst (v := 3) C dX5_parseScreen_13 (by decide) ?_
    refine g_bipush (v := 6) C dX5_parseScreen_14 (by decide) ?_
    obtain ⟨μ4, e_μ4, h⟩ := nm h
    refine g_callVV C (kX5_refuse s_a0 e_μ4.symm) miX5_refuse lmX5_80 s_a0 (by decide) rfl rfl rfl (Nat.le_of_ble_eq_true rfl) dX5_parseScreen_16 ⟨by decide, by decide⟩ ⟨Nat.zero_le _, Nat.zero_le _⟩ ?_
    exact g_lv [1, 0] rfl (wX5_parseScreen_L19 C _ _ _ s_a0 h)
theorem miX5_parseScreen : MI yX5_parseScreen cX5_parseScreen 6 none RX5 0 := ⟨wcX5_parseScreen, wmX5_parseScreen, wsX5_parseScreen, wiX5, by decide +kernel⟩
theorem kX5_parseScreen {l : Launch} {D : va_G} {cA : Nat → ClassId} {tS : Nat → Nat} {σ : Sg} {a0 : Nat} {μ : Mm} {fu : Nat} {q : Mm} (s_a0 : σ a0 = some (5, 0)) (h : fX5_parseScreen fu a0 μ = some q) : Ct l D cA tS σ yX5_parseScreen cX5_parseScreen 6 none (rmO 3 67) [.ref a0] μ (QV D cA σ q) :=
  Ct.of (by decide) (Nat.le_of_ble_eq_true rfl) (fun _ _ _ _ _ _ _ _ C => wX5_parseScreen C _ _ s_a0 h)
set_option maxRecDepth 100000 in
set_option maxHeartbeats 4000000 in
theorem wX5_parseStart_L61 {p : Program} {l : Launch} {e : Env} {s : State} {m : MethodId} {args : Array Value} {below : List Frame} {meth : Method} {c : Code} {D : va_G} {cA : Nat → ClassId} {tS : Nat → Nat} {σ : Sg} {rec2 : Nat → Int32 → Mm → Option (Mm)} {fu : Nat} {q : Mm} (C : Cx p s m args meth c (dm σ) D cA tS σ cX5_parseStart none 4 RX5) (hrec2 : ∀ (y0 : Nat) (y1 : Int32) (μ : Mm), σ y0 = some (5, 0) → rec2 y0 y1 μ = some q → GG p l e (rmO 2 42) s m args below meth c 0 0 (dm σ) D cA σ 4 (MQ below (QV D cA σ q) args s 0 0 (dm σ)) 2 [(0, .ref y0), (1, .int y1)] [] μ) (a0 : Nat) (v1 : Int32) (o0 : Nat) (μ : Mm) (s_a0 : σ a0 = some (5, 0)) (s_o0 : σ o0 = some (5, 0)) (h : fX5_parseStart_L61 rec2 fu a0 v1 o0 μ = some q) : GG p l e (rmO 2 42) s m args below meth c 0 0 (dm σ) D cA σ 4 (MQ below (QV D cA σ q) args s 0 0 (dm σ)) 61 [(0, .ref a0), (1, .int v1)] [.ref o0] μ := by
  unfold fX5_parseStart_L61 at h
  refine g_iconst (v := 1) C dX5_parseStart_61 (by decide) ?_
  refine g_goto C 66 dX5_parseStart_62 rfl ?_
  refine g_puti (j := 6) C s_o0 (by decide) rfl uwX5 tyX5_ok nmX5 (by decide) rfl lfX5_61 rfl rfl rfl (fun _ _ => rfl) (fun _ _ => Nat.le_of_ble_eq_true rfl) dX5_parseStart_66 ?_
  obtain ⟨μ1, e_μ1, h⟩ := nm h
  refine g_mu e_μ1 ?_
  obtain ⟨x2, e_x2, h⟩ := nm h
  refine g_iinc (v := x2) (lv' := [(1, .int x2), (0, .ref a0)]) C dX5_parseStart_69 (by decide) 1 rfl 1 (by decide) e_x2.symm rfl ?_
  refine g_goto C 2 dX5_parseStart_72 rfl ?_
  exact g_lv [1, 0] rfl (hrec2 _ _ _ s_a0 h)
set_option maxRecDepth 100000 in
set_option maxHeartbeats 4000000 in
theorem wX5_parseStart_L49 {p : Program} {l : Launch} {e : Env} {s : State} {m : MethodId} {args : Array Value} {below : List Frame} {meth : Method} {c : Code} {D : va_G} {cA : Nat → ClassId} {tS : Nat → Nat} {σ : Sg} {rec2 : Nat → Int32 → Mm → Option (Mm)} {fu : Nat} {q : Mm} (C : Cx p s m args meth c (dm σ) D cA tS σ cX5_parseStart none 4 RX5) (hrec2 : ∀ (y0 : Nat) (y1 : Int32) (μ : Mm), σ y0 = some (5, 0) → rec2 y0 y1 μ = some q → GG p l e (rmO 2 42) s m args below meth c 0 0 (dm σ) D cA σ 4 (MQ below (QV D cA σ q) args s 0 0 (dm σ)) 2 [(0, .ref y0), (1, .int y1)] [] μ) (a0 : Nat) (v1 : Int32) (v3 : Int32) (μ : Mm) (s_a0 : σ a0 = some (5, 0)) (h : fX5_parseStart_L49 rec2 fu a0 v1 v3 μ = some q) : GG p l e (rmO 2 42) s m args below meth c 0 0 (dm σ) D cA σ 4 (MQ below (QV D cA σ q) args s 0 0 (dm σ)) 49 [(0, .ref a0), (1, .int v1), (3, .int v3)] [] μ := by
  unfold fX5_parseStart_L49 at h
  refine g_aload_n C dX5_parseStart_49 0 rfl ?_
  refine g_aload_n C dX5_parseStart_50 0 rfl ?_
  refine g_geti (j := 6) C s_a0 (by decide) rfl uwX5 (by decide) rfl lfX5_61 rfl dX5_parseStart_51 ?_
  refine g_if_ne C 61 dX5_parseStart_54 rfl (fun q => ?_) (fun q => ?_)
  · replace h := iq q h
    exact g_lv [0, 1] rfl (wX5_parseStart_L61 C hrec2 _ _ _ _ s_a0 s_a0 h)
  · replace h := ip q h
    refine g_iload_n C dX5_parseStart_57 2 rfl ?_
    refine g_if_eq C 65 dX5_parseStart_58 rfl (fun q => ?_) (fun q => ?_)
    · replace h := ip q h
      refine g_iconst (v := 0) C dX5_parseStart_65 (by decide) ?_
      refine g_puti (j := 6) C s_a0 (by decide) rfl uwX5 tyX5_ok nmX5 (by decide) rfl lfX5_61 rfl rfl rfl (fun _ _ => rfl) (fun _ _ => Nat.le_of_ble_eq_true rfl) dX5_parseStart_66 ?_
      obtain ⟨μ1, e_μ1, h⟩ := nm h
      refine g_mu e_μ1 ?_
      obtain ⟨x2, e_x2, h⟩ := nm h
      refine g_iinc (v := x2) (lv' := [(1, .int x2), (0, .ref a0), (3, .int v3)]) C dX5_parseStart_69 (by decide) 1 rfl 1 (by decide) e_x2.symm rfl ?_
      refine g_goto C 2 dX5_parseStart_72 rfl ?_
      exact g_lv [1, 0] rfl (hrec2 _ _ _ s_a0 h)
    · replace h := iq q h
      exact g_lv [0, 1] rfl (wX5_parseStart_L61 C hrec2 _ _ _ _ s_a0 s_a0 h)
set_option maxRecDepth 100000 in
set_option maxHeartbeats 4000000 in
theorem wX5_parseStart_L29 {p : Program} {l : Launch} {e : Env} {s : State} {m : MethodId} {args : Array Value} {below : List Frame} {meth : Method} {c : Code} {D : va_G} {cA : Nat → ClassId} {tS : Nat → Nat} {σ : Sg} {rec2 : Nat → Int32 → Mm → Option (Mm)} {fu : Nat} {q : Mm} (C : Cx p s m args meth c (dm σ) D cA tS σ cX5_parseStart none 4 RX5) (hrec2 : ∀ (y0 : Nat) (y1 : Int32) (μ : Mm), σ y0 = some (5, 0) → rec2 y0 y1 μ = some q → GG p l e (rmO 2 42) s m args below meth c 0 0 (dm σ) D cA σ 4 (MQ below (QV D cA σ q) args s 0 0 (dm σ)) 2 [(0, .ref y0), (1, .int y1)] [] μ) (a0 : Nat) (v1 : Int32) (v2 : Int32) (t0 : Int32) (μ : Mm) (s_a0 : σ a0 = some (5, 0)) (h : fX5_parseStart_L29 rec2 fu a0 v1 v2 t0 μ = some q) : GG p l e (rmO 2 42) s m args below meth c 0 0 (dm σ) D cA σ 4 (MQ below (QV D cA σ q) args s 0 0 (dm σ)) 29 [(0, .ref a0), (1, .int v1), (2, .int v2)] [.int t0] μ := by
  unfold fX5_parseStart_L29 at h
  refine g_istore_n (lv' := [(3, .int t0), (0, .ref a0), (1, .int v1), (2, .int v2)]) C dX5_parseStart_29 (by decide) rfl ?_
  refine g_iload_n C dX5_parseStart_30 3 rfl ?_
  refine g_getsN (x := 0) C (fun k => k.2.2.2.1.1) (fun k => k.2.1) dX5_parseStart_31 ?_
  refine g_iload_n C dX5_parseStart_34 2 rfl ?_
  obtain ⟨hg, h⟩ := gs h
  refine g_sald (x := 0) C (fun k => k.2.2.2.1.2) (ib_in hg) dX5_parseStart_35 ?_
  refine g_icmp_eq C 49 dX5_parseStart_36 rfl (fun q => ?_) (fun q => ?_)
  · replace h := ip q h
    exact g_lv [1, 2, 0] rfl (wX5_parseStart_L49 C hrec2 _ _ _ _ s_a0 h)
  · replace h := iq q h
    refine g_iload_n C dX5_parseStart_39 0 rfl ?_
    refine g_if_ne C 49 dX5_parseStart_40 rfl (fun q => ?_) (fun q => ?_)
    · replace h := iq q h
      exact g_lv [1, 2, 0] rfl (wX5_parseStart_L49 C hrec2 _ _ _ _ s_a0 h)
    · replace h := ip q h
      refine g_aload_n C dX5_parseStart_43 1 rfl ?_
      refine g_iconst (v := 1) C dX5_parseStart_44 (by decide) ?_
      refine g_iconst (v := 0) C dX5_parseStart_45 (by decide) ?_
      obtain ⟨μ1, e_μ1, h⟩ := nm h
      refine g_callVV C (kX5_refuse s_a0 e_μ1.symm) miX5_refuse lmX5_80 s_a0 (by decide) rfl rfl rfl (Nat.le_of_ble_eq_true rfl) dX5_parseStart_46 ⟨by decide, by decide⟩ ⟨Nat.zero_le _, Nat.zero_le _⟩ ?_
      exact g_lv [1, 2, 0] rfl (wX5_parseStart_L49 C hrec2 _ _ _ _ s_a0 h)
set_option maxRecDepth 100000 in
set_option maxHeartbeats 4000000 in
theorem wX5_parseStart_L28 {p : Program} {l : Launch} {e : Env} {s : State} {m : MethodId} {args : Array Value} {below : List Frame} {meth : Method} {c : Code} {D : va_G} {cA : Nat → ClassId} {tS : Nat → Nat} {σ : Sg} {rec2 : Nat → Int32 → Mm → Option (Mm)} {fu : Nat} {q : Mm} (C : Cx p s m args meth c (dm σ) D cA tS σ cX5_parseStart none 4 RX5) (hrec2 : ∀ (y0 : Nat) (y1 : Int32) (μ : Mm), σ y0 = some (5, 0) → rec2 y0 y1 μ = some q → GG p l e (rmO 2 42) s m args below meth c 0 0 (dm σ) D cA σ 4 (MQ below (QV D cA σ q) args s 0 0 (dm σ)) 2 [(0, .ref y0), (1, .int y1)] [] μ) (a0 : Nat) (v1 : Int32) (v2 : Int32) (μ : Mm) (s_a0 : σ a0 = some (5, 0)) (h : fX5_parseStart_L28 rec2 fu a0 v1 v2 μ = some q) : GG p l e (rmO 2 42) s m args below meth c 0 0 (dm σ) D cA σ 4 (MQ below (QV D cA σ q) args s 0 0 (dm σ)) 28 [(0, .ref a0), (1, .int v1), (2, .int v2)] [] μ := by
  unfold fX5_parseStart_L28 at h
  refine g_iconst (v := 0) C dX5_parseStart_28 (by decide) ?_
  exact g_lv [0, 1, 2] rfl (wX5_parseStart_L29 C hrec2 _ _ _ _ _ s_a0 h)
set_option maxRecDepth 100000 in
set_option maxHeartbeats 4000000 in
theorem wX5_parseStart_B2 {p : Program} {l : Launch} {e : Env} {s : State} {m : MethodId} {args : Array Value} {below : List Frame} {meth : Method} {c : Code} {D : va_G} {cA : Nat → ClassId} {tS : Nat → Nat} {σ : Sg} {rec2 : Nat → Int32 → Mm → Option (Mm)} {fu : Nat} {q : Mm} (C : Cx p s m args meth c (dm σ) D cA tS σ cX5_parseStart none 4 RX5) (hrec2 : ∀ (y0 : Nat) (y1 : Int32) (μ : Mm), σ y0 = some (5, 0) → rec2 y0 y1 μ = some q → GG p l e (rmO 2 42) s m args below meth c 0 0 (dm σ) D cA σ 4 (MQ below (QV D cA σ q) args s 0 0 (dm σ)) 2 [(0, .ref y0), (1, .int y1)] [] μ) (a0 : Nat) (v1 : Int32) (μ : Mm) (s_a0 : σ a0 = some (5, 0)) (h : fX5_parseStart_B2 rec2 fu a0 v1 μ = some q) : GG p l e (rmO 2 42) s m args below meth c 0 0 (dm σ) D cA σ 4 (MQ below (QV D cA σ q) args s 0 0 (dm σ)) 2 [(0, .ref a0), (1, .int v1)] [] μ := by
  unfold fX5_parseStart_B2 at h
  refine g_iload_n C dX5_parseStart_2 1 rfl ?_
  refine g_bipush (v := 6) C dX5_parseStart_3 (by decide) ?_
  refine g_icmp_ge C 75 dX5_parseStart_5 rfl (fun q => ?_) (fun q => ?_)
  · replace h := ip q h
    cases h
    exact g_return C dX5_parseStart_75
  · replace h := iq q h
    refine g_aload_n C dX5_parseStart_8 0 rfl ?_
    obtain ⟨q1, e_q1, h⟩ := bs h
    refine g_callVI C (kX5_nextByte s_a0 e_q1) miX5_nextByte lmX5_87 s_a0 (by decide) rfl rfl rfl (Nat.le_of_ble_eq_true rfl) dX5_parseStart_9 ⟨by decide, by decide⟩ ⟨Nat.zero_le _, Nat.zero_le _⟩ ?_
    obtain ⟨x2, e_x2, h⟩ := nm h
    refine g_topi e_x2 ?_
    refine g_istore_n (lv' := [(2, .int x2), (0, .ref a0), (1, .int v1)]) C dX5_parseStart_12 (by decide) rfl ?_
    refine g_iload_n C dX5_parseStart_13 2 rfl ?_
    refine g_iconst (v := 4) C dX5_parseStart_14 (by decide) ?_
    refine g_icmp_ne C 28 dX5_parseStart_15 rfl (fun q => ?_) (fun q => ?_)
    · replace h := iq q h
      exact g_lv [1, 2, 0] rfl (wX5_parseStart_L28 C hrec2 _ _ _ _ s_a0 h)
    · replace h := ip q h
      refine g_iload_n C dX5_parseStart_18 0 rfl ?_
      refine g_bipush (v := 55) C dX5_parseStart_19 (by decide) ?_
      refine g_icmp_ne C 28 dX5_parseStart_21 rfl (fun q => ?_) (fun q => ?_)
      · replace h := iq q h
        exact g_lv [1, 2, 0] rfl (wX5_parseStart_L28 C hrec2 _ _ _ _ s_a0 h)
      · replace h := ip q h
        refine g_iconst (v := 1) C dX5_parseStart_24 (by decide) ?_
        refine g_goto C 29 dX5_parseStart_25 rfl ?_
        exact g_lv [1, 2, 0] rfl (wX5_parseStart_L29 C hrec2 _ _ _ _ _ s_a0 h)
theorem wX5_parseStart_L2 {p : Program} {l : Launch} {e : Env} {s : State} {m : MethodId} {args : Array Value} {below : List Frame} {meth : Method} {c : Code} {D : va_G} {cA : Nat → ClassId} {tS : Nat → Nat} {σ : Sg} {fu : Nat} {q : Mm} (C : Cx p s m args meth c (dm σ) D cA tS σ cX5_parseStart none 4 RX5) : ∀ (n : Nat) (a0 : Nat) (v1 : Int32) (μ : Mm), (σ a0 = some (5, 0)) → fX5_parseStart_L2 fu n a0 v1 μ = some q → GG p l e (rmO 2 42) s m args below meth c 0 0 (dm σ) D cA σ 4 (MQ below (QV D cA σ q) args s 0 0 (dm σ)) 2 [(0, .ref a0), (1, .int v1)] [] μ := by
  intro n
  induction n with
  | zero => intro a0 v1 μ s_a0 h; cases h
  | succ n ih => intro a0 v1 μ s_a0 h; exact wX5_parseStart_B2 C (fun _ _ _ k0 h => ih _ _ _ k0 h) _ _ _ s_a0 h
set_option maxRecDepth 100000 in
set_option maxHeartbeats 4000000 in
theorem wX5_parseStart {p : Program} {l : Launch} {e : Env} {s : State} {m : MethodId} {args : Array Value} {below : List Frame} {meth : Method} {c : Code} {D : va_G} {cA : Nat → ClassId} {tS : Nat → Nat} {σ : Sg} {fu : Nat} {q : Mm} (C : Cx p s m args meth c (dm σ) D cA tS σ cX5_parseStart none 4 RX5) (a0 : Nat) (μ : Mm) (s_a0 : σ a0 = some (5, 0)) (h : fX5_parseStart fu a0 μ = some q) : GG p l e (rmO 2 42) s m args below meth c 0 0 (dm σ) D cA σ 4 (MQ below (QV D cA σ q) args s 0 0 (dm σ)) 0 [(0, .ref a0)] [] μ := by
  unfold fX5_parseStart at h
  refine g_iconst (v := 0) C dX5_parseStart_0 (by decide) ?_
  refine g_istore_n (lv' := [(1, .int 0), (0, .ref a0)]) C dX5_parseStart_1 (by decide) rfl ?_
  exact g_lv [1, 0] rfl (wX5_parseStart_L2 C fu _ _ _ s_a0 h)
theorem miX5_parseStart : MI yX5_parseStart cX5_parseStart 4 none RX5 0 := ⟨wcX5_parseStart, wmX5_parseStart, wsX5_parseStart, wiX5, by decide +kernel⟩
theorem kX5_parseStart {l : Launch} {D : va_G} {cA : Nat → ClassId} {tS : Nat → Nat} {σ : Sg} {a0 : Nat} {μ : Mm} {fu : Nat} {q : Mm} (s_a0 : σ a0 = some (5, 0)) (h : fX5_parseStart fu a0 μ = some q) : Ct l D cA tS σ yX5_parseStart cX5_parseStart 4 none (rmO 2 42) [.ref a0] μ (QV D cA σ q) :=
  Ct.of (by decide) (Nat.le_of_ble_eq_true rfl) (fun _ _ _ _ _ _ _ _ C => wX5_parseStart C _ _ s_a0 h)
set_option maxRecDepth 100000 in
set_option maxHeartbeats 4000000 in
theorem wX5_parse_B54 {p : Program} {l : Launch} {e : Env} {s : State} {m : MethodId} {args : Array Value} {below : List Frame} {meth : Method} {c : Code} {D : va_G} {cA : Nat → ClassId} {tS : Nat → Nat} {σ : Sg} {rec54 : Nat → Int32 → Mm → Option (Mm)} {fu : Nat} {q : Mm} (C : Cx p s m args meth c (dm σ) D cA tS σ cX5_parse none 3 RX5) (hrec54 : ∀ (y0 : Nat) (y2 : Int32) (μ : Mm), σ y0 = some (5, 0) → rec54 y0 y2 μ = some q → GG p l e (rmO 7 169) s m args below meth c 0 0 (dm σ) D cA σ 3 (MQ below (QV D cA σ q) args s 0 0 (dm σ)) 54 [(0, .ref y0), (2, .int y2)] [] μ) (a0 : Nat) (v2 : Int32) (μ : Mm) (s_a0 : σ a0 = some (5, 0)) (h : fX5_parse_B54 rec54 fu a0 v2 μ = some q) : GG p l e (rmO 7 169) s m args below meth c 0 0 (dm σ) D cA σ 3 (MQ below (QV D cA σ q) args s 0 0 (dm σ)) 54 [(0, .ref a0), (2, .int v2)] [] μ := by
  unfold fX5_parse_B54 at h
  refine g_iload_n C dX5_parse_54 1 rfl ?_
  refine g_aload_n C dX5_parse_55 0 rfl ?_
  refine g_geti (j := 4) C s_a0 (by decide) rfl uwX5 (by decide) rfl lfX5_55 rfl dX5_parse_56 ?_
  refine g_icmp_gt C 86 dX5_parse_59 rfl (fun q => ?_) (fun q => ?_)
  · replace h := ip q h
    cases h
    exact g_return C dX5_parse_86
  · replace h := iq q h
    refine g_aload_n C dX5_parse_62 0 rfl ?_
    refine g_geti (j := 9) C s_a0 (by decide) rfl uwX5 (by decide) rfl lfX5_39 rfl dX5_parse_63 ?_
    refine g_if_ne C 86 dX5_parse_66 rfl (fun q => ?_) (fun q => ?_)
    · replace h := iq q h
      cases h
      exact g_return C dX5_parse_86
    · replace h := ip q h
      refine g_aload_n C dX5_parse_69 0 rfl ?_
      refine g_geti (j := 8) C s_a0 (by decide) rfl uwX5 (by decide) rfl lfX5_65 rfl dX5_parse_70 ?_
      refine g_if_ne C 86 dX5_parse_73 rfl (fun q => ?_) (fun q => ?_)
      · replace h := iq q h
        cases h
        exact g_return C dX5_parse_86
      · replace h := ip q h
        refine g_aload_n C dX5_parse_76 0 rfl ?_
        obtain ⟨μ1, e_μ1, h⟩ := bs h
        refine g_callVV C (kX5_parseBlock s_a0 e_μ1) miX5_parseBlock lmX5_77 s_a0 (by decide) rfl rfl rfl (Nat.le_of_ble_eq_true rfl) dX5_parse_77 ⟨by decide, by decide⟩ ⟨Nat.zero_le _, Nat.zero_le _⟩ ?_
        obtain ⟨x2, e_x2, h⟩ := nm h
        refine g_iinc (v := x2) (lv' := [(2, .int x2), (0, .ref a0)]) C dX5_parse_80 (by decide) 1 rfl 1 (by decide) e_x2.symm rfl ?_
        refine g_goto C 54 dX5_parse_83 rfl ?_
        exact g_lv [1, 0] rfl (hrec54 _ _ _ s_a0 h)
theorem wX5_parse_L54 {p : Program} {l : Launch} {e : Env} {s : State} {m : MethodId} {args : Array Value} {below : List Frame} {meth : Method} {c : Code} {D : va_G} {cA : Nat → ClassId} {tS : Nat → Nat} {σ : Sg} {fu : Nat} {q : Mm} (C : Cx p s m args meth c (dm σ) D cA tS σ cX5_parse none 3 RX5) : ∀ (n : Nat) (a0 : Nat) (v2 : Int32) (μ : Mm), (σ a0 = some (5, 0)) → fX5_parse_L54 fu n a0 v2 μ = some q → GG p l e (rmO 7 169) s m args below meth c 0 0 (dm σ) D cA σ 3 (MQ below (QV D cA σ q) args s 0 0 (dm σ)) 54 [(0, .ref a0), (2, .int v2)] [] μ := by
  intro n
  induction n with
  | zero => intro a0 v2 μ s_a0 h; cases h
  | succ n ih => intro a0 v2 μ s_a0 h; exact wX5_parse_B54 C (fun _ _ _ k0 h => ih _ _ _ k0 h) _ _ _ s_a0 h
set_option maxRecDepth 100000 in
set_option maxHeartbeats 4000000 in
theorem wX5_parse {p : Program} {l : Launch} {e : Env} {s : State} {m : MethodId} {args : Array Value} {below : List Frame} {meth : Method} {c : Code} {D : va_G} {cA : Nat → ClassId} {tS : Nat → Nat} {σ : Sg} {fu : Nat} {q : Mm} (C : Cx p s m args meth c (dm σ) D cA tS σ cX5_parse none 3 RX5) (a0 : Nat) (v1 : Int32) (μ : Mm) (s_a0 : σ a0 = some (5, 0)) (h : fX5_parse fu a0 v1 μ = some q) : GG p l e (rmO 7 169) s m args below meth c 0 0 (dm σ) D cA σ 3 (MQ below (QV D cA σ q) args s 0 0 (dm σ)) 0 [(0, .ref a0), (1, .int v1)] [] μ := by
  unfold fX5_parse at h
  refine g_aload_n C dX5_parse_0 0 rfl ?_
  refine g_iload_n C dX5_parse_1 1 rfl ?_
  refine g_aload_n C dX5_parse_2 0 rfl ?_
  refine g_wt (fun hT_μ => ?_)
  refine g_getr (j := 0) C s_a0 (by decide) rfl uwX5 (by decide) rfl lfX5_12 rfl dX5_parse_3 ?_
  refine g_geti (j := 1) C (hT_μ.1 _ _ 0 _ s_a0 rfl) (by decide) rfl uwX0 (by decide) rfl lfX5_46 rfl dX5_parse_6 ?_
  refine g_mmin C lmX5_49 wcJ9_min_7cf53 wtJ9_min_7cf53 wiJ9 ⟨by decide, Nat.le_of_ble_eq_true rfl, Nat.zero_le _, Nat.zero_le _⟩ dX5_parse_9 ?_
  refine g_puti (j := 4) C s_a0 (by decide) rfl uwX5 tyX5_ok nmX5 (by decide) rfl lfX5_55 rfl rfl rfl (fun _ _ => rfl) (fun _ _ => Nat.le_of_ble_eq_true rfl) dX5_parse_12 ?_
  obtain ⟨μ1, e_μ1, h⟩ := nm h
  refine g_mu e_μ1 ?_
  refine g_aload_n C dX5_parse_15 0 rfl ?_
  refine g_iconst (v := 0) C dX5_parse_16 (by decide) ?_
  refine g_puti (j := 5) C s_a0 (by decide) rfl uwX5 tyX5_ok nmX5 (by decide) rfl lfX5_58 rfl rfl rfl (fun _ _ => rfl) (fun _ _ => Nat.le_of_ble_eq_true rfl) dX5_parse_17 ?_
  obtain ⟨μ2, e_μ2, h⟩ := nm h
  refine g_mu e_μ2 ?_
  refine g_aload_n C dX5_parse_20 0 rfl ?_
  refine g_iconst (v := 0) C dX5_parse_21 (by decide) ?_
  refine g_puti (j := 6) C s_a0 (by decide) rfl uwX5 tyX5_ok nmX5 (by decide) rfl lfX5_61 rfl rfl rfl (fun _ _ => rfl) (fun _ _ => Nat.le_of_ble_eq_true rfl) dX5_parse_22 ?_
  obtain ⟨μ3, e_μ3, h⟩ := nm h
  refine g_mu e_μ3 ?_
  refine g_aload_n C dX5_parse_25 0 rfl ?_
  refine g_iconst (v := 0) C dX5_parse_26 (by decide) ?_
  refine g_puti (j := 8) C s_a0 (by decide) rfl uwX5 tyX5_ok nmX5 (by decide) rfl lfX5_65 rfl rfl rfl (fun _ _ => rfl) (fun _ _ => Nat.le_of_ble_eq_true rfl) dX5_parse_27 ?_
  obtain ⟨μ4, e_μ4, h⟩ := nm h
  refine g_mu e_μ4 ?_
  refine g_aload_n C dX5_parse_30 0 rfl ?_
  refine g_iconst (v := 0) C dX5_parse_31 (by decide) ?_
  refine g_puti (j := 9) C s_a0 (by decide) rfl uwX5 tyX5_ok nmX5 (by decide) rfl lfX5_39 rfl rfl rfl (fun _ _ => rfl) (fun _ _ => Nat.le_of_ble_eq_true rfl) dX5_parse_32 ?_
  obtain ⟨μ5, e_μ5, h⟩ := nm h
  refine g_mu e_μ5 ?_
  refine g_aload_n C dX5_parse_35 0 rfl ?_
  refine g_iconst (v := -1) C dX5_parse_36 (by decide) ?_
  refine g_puti (j := 10) C s_a0 (by decide) rfl uwX5 tyX5_ok nmX5 (by decide) rfl lfX5_43 rfl rfl rfl (fun _ _ => rfl) (fun _ _ => Nat.le_of_ble_eq_true rfl) dX5_parse_37 ?_
  obtain ⟨μ6, e_μ6, h⟩ := nm h
  refine g_mu e_μ6 ?_
  refine g_aload_n C dX5_parse_40 0 rfl ?_
  obtain ⟨μ7, e_μ7, h⟩ := bs h
  refine g_callVV C (kX5_dropControl s_a0 e_μ7) miX5_dropControl lmX5_68 s_a0 (by decide) rfl rfl rfl (Nat.le_of_ble_eq_true rfl) dX5_parse_41 ⟨by decide, by decide⟩ ⟨Nat.zero_le _, Nat.zero_le _⟩ ?_
  refine g_aload_n C dX5_parse_44 0 rfl ?_
  obtain ⟨μ8, e_μ8, h⟩ := bs h
  refine g_callVV C (kX5_parseStart s_a0 e_μ8) miX5_parseStart lmX5_71 s_a0 (by decide) rfl rfl rfl (Nat.le_of_ble_eq_true rfl) dX5_parse_45 ⟨by decide, by decide⟩ ⟨Nat.zero_le _, Nat.zero_le _⟩ ?_
  refine g_aload_n C dX5_parse_48 0 rfl ?_
  obtain ⟨μ9, e_μ9, h⟩ := bs h
  refine g_callVV C (kX5_parseScreen s_a0 e_μ9) miX5_parseScreen lmX5_74 s_a0 (by decide) rfl rfl rfl (Nat.le_of_ble_eq_true rfl) dX5_parse_49 ⟨by decide, by decide⟩ ⟨Nat.zero_le _, Nat.zero_le _⟩ ?_
  refine g_iconst (v := 0) C dX5_parse_52 (by decide) ?_
  refine g_istore_n (lv' := [(2, .int 0), (0, .ref a0), (1, .int v1)]) C dX5_parse_53 (by decide) rfl ?_
  exact g_lv [1, 0] rfl (wX5_parse_L54 C fu _ _ _ s_a0 h)
theorem miX5_parse : MI yX5_parse cX5_parse 3 none RX5 1 := ⟨wcX5_parse, wmX5_parse, wsX5_parse, wiX5, by decide +kernel⟩
theorem kX5_parse {l : Launch} {D : va_G} {cA : Nat → ClassId} {tS : Nat → Nat} {σ : Sg} {a0 : Nat} {v1 : Int32} {μ : Mm} {fu : Nat} {q : Mm} (s_a0 : σ a0 = some (5, 0)) (h : fX5_parse fu a0 v1 μ = some q) : Ct l D cA tS σ yX5_parse cX5_parse 3 none (rmO 7 169) [.ref a0, .int v1] μ (QV D cA σ q) :=
  Ct.of (by decide) (Nat.le_of_ble_eq_true rfl) (fun _ _ _ _ _ _ _ _ C => wX5_parse C _ _ _ s_a0 h)
set_option maxRecDepth 100000 in
set_option maxHeartbeats 4000000 in
theorem wX6_exchange {p : Program} {l : Launch} {e : Env} {s : State} {m : MethodId} {args : Array Value} {below : List Frame} {meth : Method} {c : Code} {D : va_G} {cA : Nat → ClassId} {tS : Nat → Nat} {σ : Sg} {q : Nat × Mm} (C : Cx p s m args meth c (dm σ) D cA tS σ cX6_exchange (some (.object "PictureReel$ByteRow")) 3 RX6) (a0 : Nat) (a1 : Nat) (μ : Mm) (s_a0 : σ a0 = some (6, 0)) (s_a1 : σ a1 = some (0, 0)) (h : fX6_exchange a0 a1 μ = q) : GG p l e (rmO 0 0) s m args below meth c 0 0 (dm σ) D cA σ 3 (MQ below (QR D cA σ (0, 0) (some q.1) q.2) args s 0 0 (dm σ)) 0 [(0, .ref a0), (1, .ref a1)] [] μ := by
  unfold fX6_exchange at h
  refine g_aload_n C dX6_exchange_0 0 rfl ?_
  refine g_wt (fun hT_μ => ?_)
  refine g_getr (j := 1) C s_a0 (by decide) rfl uwX6 (by decide) rfl lfX6_21 rfl dX6_exchange_1 ?_
  obtain ⟨r1, e_r1, h⟩ := nm h
  refine g_topr e_r1 ?_
  have s_r1 : σ r1 = some (0, 0) := by rw [e_r1]; exact (hT_μ.1 _ _ 1 _ s_a0 rfl)
  refine g_astore_n (lv' := [(2, .ref r1), (0, .ref a0), (1, .ref a1)]) C dX6_exchange_4 (by decide) rfl ?_
  refine g_aload_n C dX6_exchange_5 1 rfl ?_
  refine g_aload_n C dX6_exchange_6 2 rfl ?_
  refine g_putr (j := 1) C s_a0 (by decide) rfl s_a1 rfl uwX6 tyX6_ok nmX6 (by decide) rfl lfX6_21 rfl rfl rfl (fun _ _ => rfl) (fun _ _ => Nat.le_of_ble_eq_true rfl) dX6_exchange_7 ?_
  obtain ⟨μ2, e_μ2, h⟩ := nm h
  refine g_mu e_μ2 ?_
  refine g_aload_n C dX6_exchange_10 0 rfl ?_
  subst h
  exact g_areturn C (Or.inl ⟨_, rfl⟩) (fun _ h => by cases h; exact s_r1) dX6_exchange_11
theorem miX6_exchange : MI yX6_exchange cX6_exchange 3 (some (.object "PictureReel$ByteRow")) RX6 1 := ⟨wcX6_exchange, wmX6_exchange, wsX6_exchange, wiX6, by decide +kernel⟩
theorem kX6_exchange {l : Launch} {D : va_G} {cA : Nat → ClassId} {tS : Nat → Nat} {σ : Sg} {a0 : Nat} {a1 : Nat} {μ : Mm} {q : Nat × Mm} (s_a0 : σ a0 = some (6, 0)) (s_a1 : σ a1 = some (0, 0)) (h : fX6_exchange a0 a1 μ = q) : Ct l D cA tS σ yX6_exchange cX6_exchange 3 (some (.object "PictureReel$ByteRow")) (rmO 0 0) [.ref a0, .ref a1] μ (QR D cA σ (0, 0) (some q.1) q.2) :=
  Ct.of (by decide) (Nat.le_of_ble_eq_true rfl) (fun _ _ _ _ _ _ _ _ C => wX6_exchange C _ _ _ s_a0 s_a1 h)
set_option maxRecDepth 100000 in
set_option maxHeartbeats 4000000 in
theorem wX6_putControl_L104 {p : Program} {l : Launch} {e : Env} {s : State} {m : MethodId} {args : Array Value} {below : List Frame} {meth : Method} {c : Code} {D : va_G} {cA : Nat → ClassId} {tS : Nat → Nat} {σ : Sg} {q : Mm} (C : Cx p s m args meth c (dm σ) D cA tS σ cX6_putControl none 3 RX6) (a0 : Nat) (o0 : Nat) (t1 : Int32) (μ : Mm) (s_a0 : σ a0 = some (6, 0)) (s_o0 : σ o0 = some (0, 0)) (h : fX6_putControl_L104 a0 o0 t1 μ = some q) : GG p l e (rmO 2 42) s m args below meth c 0 0 (dm σ) D cA σ 3 (MQ below (QV D cA σ q) args s 0 0 (dm σ)) 104 [(0, .ref a0)] [.int t1, .ref o0] μ := by
  unfold fX6_putControl_L104 at h
  obtain ⟨μ1, e_μ1, h⟩ := bs h
  refine g_callVV C (kX0_add s_o0 e_μ1) miX0_add lmX6_76 s_o0 (by decide) rfl rfl rfl (Nat.le_of_ble_eq_true rfl) dX6_putControl_104 ⟨by decide, by decide⟩ ⟨Nat.zero_le _, Nat.zero_le _⟩ ?_
  refine g_aload_n C dX6_putControl_107 0 rfl ?_
  refine g_wt (fun hT_μ1 => ?_)
  refine g_getr (j := 1) C s_a0 (by decide) rfl uwX6 (by decide) rfl lfX6_21 rfl dX6_putControl_108 ?_
  refine g_iconst (v := 0) C dX6_putControl_111 (by decide) ?_
  obtain ⟨μ2, e_μ2, h⟩ := bs h
  refine g_callVV C (kX0_add (hT_μ1.1 _ _ 1 _ s_a0 rfl) e_μ2) miX0_add lmX6_76 (hT_μ1.1 _ _ 1 _ s_a0 rfl) (by decide) rfl rfl rfl (Nat.le_of_ble_eq_true rfl) dX6_putControl_112 ⟨by decide, by decide⟩ ⟨Nat.zero_le _, Nat.zero_le _⟩ ?_
  cases h
  exact g_return C dX6_putControl_115
set_option maxRecDepth 100000 in
set_option maxHeartbeats 4000000 in
theorem wX6_putControl_L73 {p : Program} {l : Launch} {e : Env} {s : State} {m : MethodId} {args : Array Value} {below : List Frame} {meth : Method} {c : Code} {D : va_G} {cA : Nat → ClassId} {tS : Nat → Nat} {σ : Sg} {q : Mm} (C : Cx p s m args meth c (dm σ) D cA tS σ cX6_putControl none 3 RX6) (a0 : Nat) (a1 : Nat) (v2 : Int32) (o0 : Nat) (t1 : Int32) (t2 : Int32) (μ : Mm) (s_a0 : σ a0 = some (6, 0)) (s_a1 : σ a1 = some (8, 0)) (s_o0 : σ o0 = some (0, 0)) (h : fX6_putControl_L73 a0 a1 v2 o0 t1 t2 μ = some q) : GG p l e (rmO 2 42) s m args below meth c 0 0 (dm σ) D cA σ 3 (MQ below (QV D cA σ q) args s 0 0 (dm σ)) 73 [(0, .ref a0), (1, .ref a1), (2, .int v2)] [.int t2, .int t1, .ref o0] μ := by
  unfold fX6_putControl_L73 at h
  refine g_ior C dX6_putControl_73 ?_
  obtain ⟨μ1, e_μ1, h⟩ := bs h
  refine g_callVV C (kX0_add s_o0 e_μ1) miX0_add lmX6_76 s_o0 (by decide) rfl rfl rfl (Nat.le_of_ble_eq_true rfl) dX6_putControl_74 ⟨by decide, by decide⟩ ⟨Nat.zero_le _, Nat.zero_le _⟩ ?_
  refine g_aload_n C dX6_putControl_77 0 rfl ?_
  refine g_wt (fun hT_μ1 => ?_)
  refine g_getr (j := 1) C s_a0 (by decide) rfl uwX6 (by decide) rfl lfX6_21 rfl dX6_putControl_78 ?_
  refine g_aload_n C dX6_putControl_81 1 rfl ?_
  refine g_geti (j := 2) C s_a1 (by decide) rfl uwX8 (by decide) rfl lfX6_127 rfl dX6_putControl_82 ?_
  obtain ⟨μ2, e_μ2, h⟩ := bs h
  refine g_callVV C (kX0_addTwo (hT_μ1.1 _ _ 1 _ s_a0 rfl) e_μ2) miX0_addTwo lmX6_87 (hT_μ1.1 _ _ 1 _ s_a0 rfl) (by decide) rfl rfl rfl (Nat.le_of_ble_eq_true rfl) dX6_putControl_85 ⟨by decide, by decide⟩ ⟨Nat.zero_le _, Nat.zero_le _⟩ ?_
  refine g_aload_n C dX6_putControl_88 0 rfl ?_
  refine g_wt (fun hT_μ2 => ?_)
  refine g_getr (j := 1) C s_a0 (by decide) rfl uwX6 (by decide) rfl lfX6_21 rfl dX6_putControl_89 ?_
  refine g_iload_n C dX6_putControl_92 2 rfl ?_
  refine g_if_eq C 100 dX6_putControl_93 rfl (fun q => ?_) (fun q => ?_)
  · replace h := ip q h
    refine g_aload_n C dX6_putControl_100 1 rfl ?_
    refine g_geti (j := 1) C s_a1 (by decide) rfl uwX8 (by decide) rfl lfX6_116 rfl dX6_putControl_101 ?_
    exact g_lv [0] rfl (wX6_putControl_L104 C _ _ _ _ s_a0 (hT_μ2.1 _ _ 1 _ s_a0 rfl) h)
  · replace h := iq q h
    refine g_iconst (v := 0) C dX6_putControl_96 (by decide) ?_
    refine g_goto C 104 dX6_putControl_97 rfl ?_
    exact g_lv [0] rfl (wX6_putControl_L104 C _ _ _ _ s_a0 (hT_μ2.1 _ _ 1 _ s_a0 rfl) h)
set_option maxRecDepth 100000 in
set_option maxHeartbeats 4000000 in
theorem wX6_putControl_L63 {p : Program} {l : Launch} {e : Env} {s : State} {m : MethodId} {args : Array Value} {below : List Frame} {meth : Method} {c : Code} {D : va_G} {cA : Nat → ClassId} {tS : Nat → Nat} {σ : Sg} {q : Mm} (C : Cx p s m args meth c (dm σ) D cA tS σ cX6_putControl none 3 RX6) (a0 : Nat) (a1 : Nat) (v2 : Int32) (o0 : Nat) (t1 : Int32) (t2 : Int32) (μ : Mm) (s_a0 : σ a0 = some (6, 0)) (s_a1 : σ a1 = some (8, 0)) (s_o0 : σ o0 = some (0, 0)) (h : fX6_putControl_L63 a0 a1 v2 o0 t1 t2 μ = some q) : GG p l e (rmO 2 42) s m args below meth c 0 0 (dm σ) D cA σ 3 (MQ below (QV D cA σ q) args s 0 0 (dm σ)) 63 [(0, .ref a0), (1, .ref a1), (2, .int v2)] [.int t2, .int t1, .ref o0] μ := by
  unfold fX6_putControl_L63 at h
  refine g_ior C dX6_putControl_63 ?_
  refine g_iload_n C dX6_putControl_64 2 rfl ?_
  refine g_if_eq C 72 dX6_putControl_65 rfl (fun q => ?_) (fun q => ?_)
  · replace h := ip q h
    refine g_iconst (v := 1) C dX6_putControl_72 (by decide) ?_
    exact g_lv [0, 1, 2] rfl (wX6_putControl_L73 C _ _ _ _ _ _ _ s_a0 s_a1 s_o0 h)
  · replace h := iq q h
    refine g_iconst (v := 0) C dX6_putControl_68 (by decide) ?_
    refine g_goto C 73 dX6_putControl_69 rfl ?_
    exact g_lv [0, 1, 2] rfl (wX6_putControl_L73 C _ _ _ _ _ _ _ s_a0 s_a1 s_o0 h)
set_option maxRecDepth 100000 in
set_option maxHeartbeats 4000000 in
theorem wX6_putControl_L13 {p : Program} {l : Launch} {e : Env} {s : State} {m : MethodId} {args : Array Value} {below : List Frame} {meth : Method} {c : Code} {D : va_G} {cA : Nat → ClassId} {tS : Nat → Nat} {σ : Sg} {q : Mm} (C : Cx p s m args meth c (dm σ) D cA tS σ cX6_putControl none 3 RX6) (a0 : Nat) (a1 : Nat) (t0 : Int32) (μ : Mm) (s_a0 : σ a0 = some (6, 0)) (s_a1 : σ a1 = some (8, 0)) (h : fX6_putControl_L13 a0 a1 t0 μ = some q) : GG p l e (rmO 2 42) s m args below meth c 0 0 (dm σ) D cA σ 3 (MQ below (QV D cA σ q) args s 0 0 (dm σ)) 13 [(0, .ref a0), (1, .ref a1)] [.int t0] μ := by
  unfold fX6_putControl_L13 at h
  refine g_istore_n (lv' := [(2, .int t0), (0, .ref a0), (1, .ref a1)]) C dX6_putControl_13 (by decide) rfl ?_
  refine g_aload_n C dX6_putControl_14 1 rfl ?_
  refine g_wt (fun hT_μ => ?_)
  refine g_getr (j := 1) C s_a0 (by decide) rfl uwX6 (by decide) rfl lfX6_21 rfl dX6_putControl_15 ?_
  refine g_bipush (v := 33) C dX6_putControl_18 (by decide) ?_
  obtain ⟨μ1, e_μ1, h⟩ := bs h
  refine g_callVV C (kX0_add (hT_μ.1 _ _ 1 _ s_a0 rfl) e_μ1) miX0_add lmX6_76 (hT_μ.1 _ _ 1 _ s_a0 rfl) (by decide) rfl rfl rfl (Nat.le_of_ble_eq_true rfl) dX6_putControl_20 ⟨by decide, by decide⟩ ⟨Nat.zero_le _, Nat.zero_le _⟩ ?_
  refine g_aload_n C dX6_putControl_23 1 rfl ?_
  refine g_wt (fun hT_μ1 => ?_)
  refine g_getr (j := 1) C s_a0 (by decide) rfl uwX6 (by decide) rfl lfX6_21 rfl dX6_putControl_24 ?_
  refine g_sipush (v := 249) C dX6_putControl_27 (by decide) ?_
  obtain ⟨μ2, e_μ2, h⟩ := bs h
  refine g_callVV C (kX0_add (hT_μ1.1 _ _ 1 _ s_a0 rfl) e_μ2) miX0_add lmX6_76 (hT_μ1.1 _ _ 1 _ s_a0 rfl) (by decide) rfl rfl rfl (Nat.le_of_ble_eq_true rfl) dX6_putControl_30 ⟨by decide, by decide⟩ ⟨Nat.zero_le _, Nat.zero_le _⟩ ?_
  refine g_aload_n C dX6_putControl_33 1 rfl ?_
  refine g_wt (fun hT_μ2 => ?_)
  refine g_getr (j := 1) C s_a0 (by decide) rfl uwX6 (by decide) rfl lfX6_21 rfl dX6_putControl_34 ?_
  refine g_iconst (v := 4) C dX6_putControl_37 (by decide) ?_
  obtain ⟨μ3, e_μ3, h⟩ := bs h
  refine g_callVV C (kX0_add (hT_μ2.1 _ _ 1 _ s_a0 rfl) e_μ3) miX0_add lmX6_76 (hT_μ2.1 _ _ 1 _ s_a0 rfl) (by decide) rfl rfl rfl (Nat.le_of_ble_eq_true rfl) dX6_putControl_38 ⟨by decide, by decide⟩ ⟨Nat.zero_le _, Nat.zero_le _⟩ ?_
  refine g_aload_n C dX6_putControl_41 1 rfl ?_
  refine g_wt (fun hT_μ3 => ?_)
  refine g_getr (j := 1) C s_a0 (by decide) rfl uwX6 (by decide) rfl lfX6_21 rfl dX6_putControl_42 ?_
  refine g_aload_n C dX6_putControl_45 2 rfl ?_
  refine g_geti (j := 0) C s_a1 (by decide) rfl uwX8 (by decide) rfl lfX6_121 rfl dX6_putControl_46 ?_
  refine g_iconst (v := 2) C dX6_putControl_49 (by decide) ?_
  refine g_ishl C dX6_putControl_50 ?_
  refine g_aload_n C dX6_putControl_51 2 rfl ?_
  refine g_geti (j := 3) C s_a1 (by decide) rfl uwX8 (by decide) rfl lfX6_124 rfl dX6_putControl_52 ?_
  refine g_if_eq C 62 dX6_putControl_55 rfl (fun q => ?_) (fun q => ?_)
  · replace h := ip q h
    refine g_iconst (v := 0) C dX6_putControl_62 (by decide) ?_
    exact g_lv [1, 2, 0] rfl (wX6_putControl_L63 C _ _ _ _ _ _ _ s_a0 s_a1 (hT_μ3.1 _ _ 1 _ s_a0 rfl) h)
  · replace h := iq q h
    refine g_iconst (v := 2) C dX6_putControl_58 (by decide) ?_
    refine g_goto C 63 dX6_putControl_59 rfl ?_
    exact g_lv [1, 2, 0] rfl (wX6_putControl_L63 C _ _ _ _ _ _ _ s_a0 s_a1 (hT_μ3.1 _ _ 1 _ s_a0 rfl) h)
set_option maxRecDepth 100000 in
set_option maxHeartbeats 4000000 in
theorem wX6_putControl {p : Program} {l : Launch} {e : Env} {s : State} {m : MethodId} {args : Array Value} {below : List Frame} {meth : Method} {c : Code} {D : va_G} {cA : Nat → ClassId} {tS : Nat → Nat} {σ : Sg} {q : Mm} (C : Cx p s m args meth c (dm σ) D cA tS σ cX6_putControl none 3 RX6) (a0 : Nat) (a1 : Nat) (μ : Mm) (s_a0 : σ a0 = some (6, 0)) (s_a1 : σ a1 = some (8, 0)) (h : fX6_putControl a0 a1 μ = some q) : GG p l e (rmO 2 42) s m args below meth c 0 0 (dm σ) D cA σ 3 (MQ below (QV D cA σ q) args s 0 0 (dm σ)) 0 [(0, .ref a0), (1, .ref a1)] [] μ := by
  unfold fX6_putControl at h
  refine g_aload_n C dX6_putControl_0 1 rfl ?_
  refine g_geti (j := 1) C s_a1 (by decide) rfl uwX8 (by decide) rfl lfX6_116 rfl dX6_putControl_1 ?_
  refine g_iconst (v := -1) C dX6_putControl_4 (by decide) ?_
  refine g_icmp_ne C 12 dX6_putControl_5 rfl (fun q => ?_) (fun q => ?_)
  · replace h := iq q h
    refine g_iconst (v := 0) C dX6_putControl_12 (by decide) ?_
    exact g_lv [0, 1] rfl (wX6_putControl_L13 C _ _ _ _ s_a0 s_a1 h)
  · replace h := ip q h
    refine g_iconst (v := 1) C dX6_putControl_8 (by decide) ?_
    refine g_goto C 13 dX6_putControl_9 rfl ?_
    exact g_lv [0, 1] rfl (wX6_putControl_L13 C _ _ _ _ s_a0 s_a1 h)
theorem miX6_putControl : MI yX6_putControl cX6_putControl 3 none RX6 1 := ⟨wcX6_putControl, wmX6_putControl, wsX6_putControl, wiX6, by decide +kernel⟩
theorem kX6_putControl {l : Launch} {D : va_G} {cA : Nat → ClassId} {tS : Nat → Nat} {σ : Sg} {a0 : Nat} {a1 : Nat} {μ : Mm} {q : Mm} (s_a0 : σ a0 = some (6, 0)) (s_a1 : σ a1 = some (8, 0)) (h : fX6_putControl a0 a1 μ = some q) : Ct l D cA tS σ yX6_putControl cX6_putControl 3 none (rmO 2 42) [.ref a0, .ref a1] μ (QV D cA σ q) :=
  Ct.of (by decide) (Nat.le_of_ble_eq_true rfl) (fun _ _ _ _ _ _ _ _ C => wX6_putControl C _ _ _ s_a0 s_a1 h)
set_option maxRecDepth 100000 in
set_option maxHeartbeats 4000000 in
theorem wX6_putRows_B42 {p : Program} {l : Launch} {e : Env} {s : State} {m : MethodId} {args : Array Value} {below : List Frame} {meth : Method} {c : Code} {D : va_G} {cA : Nat → ClassId} {tS : Nat → Nat} {σ : Sg} {rec10 : Nat → Nat → Int32 → Mm → Option (Mm)} {rec42 : Nat → Nat → Int32 → Int32 → Int32 → Mm → Option (Mm)} {fu : Nat} {q : Mm} (C : Cx p s m args meth c (dm σ) D cA tS σ cX6_putRows none 5 RX6) (hrec10 : ∀ (y0 : Nat) (y1 : Nat) (y2 : Int32) (μ : Mm), σ y0 = some (6, 0) → σ y1 = some (0, 0) → rec10 y0 y1 y2 μ = some q → GG p l e (rmO 1 21) s m args below meth c 0 0 (dm σ) D cA σ 5 (MQ below (QV D cA σ q) args s 0 0 (dm σ)) 10 [(0, .ref y0), (1, .ref y1), (2, .int y2)] [] μ) (hrec42 : ∀ (y0 : Nat) (y1 : Nat) (y2 : Int32) (y3 : Int32) (y4 : Int32) (μ : Mm), σ y0 = some (6, 0) → σ y1 = some (0, 0) → rec42 y0 y1 y2 y3 y4 μ = some q → GG p l e (rmO 1 21) s m args below meth c 0 0 (dm σ) D cA σ 5 (MQ below (QV D cA σ q) args s 0 0 (dm σ)) 42 [(0, .ref y0), (1, .ref y1), (2, .int y2), (3, .int y3), (4, .int y4)] [] μ) (a0 : Nat) (a1 : Nat) (v2 : Int32) (v3 : Int32) (v4 : Int32) (μ : Mm) (s_a0 : σ a0 = some (6, 0)) (s_a1 : σ a1 = some (0, 0)) (h : fX6_putRows_B42 rec10 rec42 fu a0 a1 v2 v3 v4 μ = some q) : GG p l e (rmO 1 21) s m args below meth c 0 0 (dm σ) D cA σ 5 (MQ below (QV D cA σ q) args s 0 0 (dm σ)) 42 [(0, .ref a0), (1, .ref a1), (2, .int v2), (3, .int v3), (4, .int v4)] [] μ := by
  unfold fX6_putRows_B42 at h
  refine g_iload C dX6_putRows_42 4 rfl ?_
  refine g_iload_n C dX6_putRows_44 3 rfl ?_
  refine g_icmp_ge C 69 dX6_putRows_45 rfl (fun q => ?_) (fun q => ?_)
  · replace h := ip q h
    obtain ⟨x1, e_x1, h⟩ := nm h
    refine g_iincW (v := x1) (lv' := [(2, .int x1), (0, .ref a0), (1, .ref a1), (3, .int v3), (4, .int v4)]) C dX6_putRows_69 (by decide) 2 rfl 255 (by decide) e_x1.symm rfl ?_
    refine g_goto C 10 dX6_putRows_75 rfl ?_
    exact g_lv [1, 2, 0] rfl (hrec10 _ _ _ _ s_a0 s_a1 h)
  · replace h := iq q h
    refine g_aload_n C dX6_putRows_48 0 rfl ?_
    refine g_wt (fun hT_μ => ?_)
    refine g_getr (j := 1) C s_a0 (by decide) rfl uwX6 (by decide) rfl lfX6_21 rfl dX6_putRows_49 ?_
    refine g_aload_n C dX6_putRows_52 1 rfl ?_
    refine g_iload_n C dX6_putRows_53 2 rfl ?_
    refine g_iload C dX6_putRows_54 4 rfl ?_
    refine g_iadd C dX6_putRows_56 ?_
    obtain ⟨x2, e_x2, h⟩ := bs h
    refine g_callVI C (kX0_at s_a1 e_x2) miX0_at lmX6_167 s_a1 (by decide) rfl rfl rfl (Nat.le_of_ble_eq_true rfl) dX6_putRows_57 ⟨by decide, by decide⟩ ⟨Nat.zero_le _, Nat.zero_le _⟩ ?_
    obtain ⟨μ3, e_μ3, h⟩ := bs h
    refine g_callVV C (kX0_add (hT_μ.1 _ _ 1 _ s_a0 rfl) e_μ3) miX0_add lmX6_76 (hT_μ.1 _ _ 1 _ s_a0 rfl) (by decide) rfl rfl rfl (Nat.le_of_ble_eq_true rfl) dX6_putRows_60 ⟨by decide, by decide⟩ ⟨Nat.zero_le _, Nat.zero_le _⟩ ?_
    obtain ⟨x4, e_x4, h⟩ := nm h
    refine g_iinc (v := x4) (lv' := [(4, .int x4), (0, .ref a0), (1, .ref a1), (2, .int v2), (3, .int v3)]) C dX6_putRows_63 (by decide) 4 rfl 1 (by decide) e_x4.symm rfl ?_
    refine g_goto C 42 dX6_putRows_66 rfl ?_
    exact g_lv [1, 2, 3, 4, 0] rfl (hrec42 _ _ _ _ _ _ s_a0 s_a1 h)
theorem wX6_putRows_L42 {p : Program} {l : Launch} {e : Env} {s : State} {m : MethodId} {args : Array Value} {below : List Frame} {meth : Method} {c : Code} {D : va_G} {cA : Nat → ClassId} {tS : Nat → Nat} {σ : Sg} {rec10 : Nat → Nat → Int32 → Mm → Option (Mm)} {fu : Nat} {q : Mm} (C : Cx p s m args meth c (dm σ) D cA tS σ cX6_putRows none 5 RX6) (hrec10 : ∀ (y0 : Nat) (y1 : Nat) (y2 : Int32) (μ : Mm), σ y0 = some (6, 0) → σ y1 = some (0, 0) → rec10 y0 y1 y2 μ = some q → GG p l e (rmO 1 21) s m args below meth c 0 0 (dm σ) D cA σ 5 (MQ below (QV D cA σ q) args s 0 0 (dm σ)) 10 [(0, .ref y0), (1, .ref y1), (2, .int y2)] [] μ) : ∀ (n : Nat) (a0 : Nat) (a1 : Nat) (v2 : Int32) (v3 : Int32) (v4 : Int32) (μ : Mm), (σ a0 = some (6, 0)) → (σ a1 = some (0, 0)) → fX6_putRows_L42 rec10 fu n a0 a1 v2 v3 v4 μ = some q → GG p l e (rmO 1 21) s m args below meth c 0 0 (dm σ) D cA σ 5 (MQ below (QV D cA σ q) args s 0 0 (dm σ)) 42 [(0, .ref a0), (1, .ref a1), (2, .int v2), (3, .int v3), (4, .int v4)] [] μ := by
  intro n
  induction n with
  | zero => intro a0 a1 v2 v3 v4 μ s_a0 s_a1 h; cases h
  | succ n ih => intro a0 a1 v2 v3 v4 μ s_a0 s_a1 h; exact wX6_putRows_B42 C hrec10 (fun _ _ _ _ _ _ k0 k1 h => ih _ _ _ _ _ _ k0 k1 h) _ _ _ _ _ _ s_a0 s_a1 h
set_option maxRecDepth 100000 in
set_option maxHeartbeats 4000000 in
theorem wX6_putRows_B10 {p : Program} {l : Launch} {e : Env} {s : State} {m : MethodId} {args : Array Value} {below : List Frame} {meth : Method} {c : Code} {D : va_G} {cA : Nat → ClassId} {tS : Nat → Nat} {σ : Sg} {rec10 : Nat → Nat → Int32 → Mm → Option (Mm)} {fu : Nat} {q : Mm} (C : Cx p s m args meth c (dm σ) D cA tS σ cX6_putRows none 5 RX6) (hrec10 : ∀ (y0 : Nat) (y1 : Nat) (y2 : Int32) (μ : Mm), σ y0 = some (6, 0) → σ y1 = some (0, 0) → rec10 y0 y1 y2 μ = some q → GG p l e (rmO 1 21) s m args below meth c 0 0 (dm σ) D cA σ 5 (MQ below (QV D cA σ q) args s 0 0 (dm σ)) 10 [(0, .ref y0), (1, .ref y1), (2, .int y2)] [] μ) (a0 : Nat) (a1 : Nat) (v2 : Int32) (μ : Mm) (s_a0 : σ a0 = some (6, 0)) (s_a1 : σ a1 = some (0, 0)) (h : fX6_putRows_B10 rec10 fu a0 a1 v2 μ = some q) : GG p l e (rmO 1 21) s m args below meth c 0 0 (dm σ) D cA σ 5 (MQ below (QV D cA σ q) args s 0 0 (dm σ)) 10 [(0, .ref a0), (1, .ref a1), (2, .int v2)] [] μ := by
  unfold fX6_putRows_B10 at h
  refine g_iload_n C dX6_putRows_10 2 rfl ?_
  refine g_aload_n C dX6_putRows_11 1 rfl ?_
  refine g_geti (j := 1) C s_a1 (by decide) rfl uwX0 (by decide) rfl lfX6_163 rfl dX6_putRows_12 ?_
  refine g_icmp_ge C 78 dX6_putRows_15 rfl (fun q => ?_) (fun q => ?_)
  · replace h := ip q h
    refine g_aload_n C dX6_putRows_78 0 rfl ?_
    refine g_wt (fun hT_μ => ?_)
    refine g_getr (j := 1) C s_a0 (by decide) rfl uwX6 (by decide) rfl lfX6_21 rfl dX6_putRows_79 ?_
    refine g_iconst (v := 0) C dX6_putRows_82 (by decide) ?_
    obtain ⟨μ1, e_μ1, h⟩ := bs h
    refine g_callVV C (kX0_add (hT_μ.1 _ _ 1 _ s_a0 rfl) e_μ1) miX0_add lmX6_76 (hT_μ.1 _ _ 1 _ s_a0 rfl) (by decide) rfl rfl rfl (Nat.le_of_ble_eq_true rfl) dX6_putRows_83 ⟨by decide, by decide⟩ ⟨Nat.zero_le _, Nat.zero_le _⟩ ?_
    cases h
    exact g_return C dX6_putRows_86
  · replace h := iq q h
    refine g_sipush (v := 255) C dX6_putRows_18 (by decide) ?_
    refine g_aload_n C dX6_putRows_21 1 rfl ?_
    refine g_geti (j := 1) C s_a1 (by decide) rfl uwX0 (by decide) rfl lfX6_163 rfl dX6_putRows_22 ?_
    refine g_iload_n C dX6_putRows_25 2 rfl ?_
    refine g_isub C dX6_putRows_26 ?_
    refine g_mmin C lmX6_164 wcJ9_min_7cf53 wtJ9_min_7cf53 wiJ9 ⟨by decide, Nat.le_of_ble_eq_true rfl, Nat.zero_le _, Nat.zero_le _⟩ dX6_putRows_27 ?_
    obtain ⟨x2, e_x2, h⟩ := nm h
    refine g_topi e_x2 ?_
    refine g_istore_n (lv' := [(3, .int x2), (0, .ref a0), (1, .ref a1), (2, .int v2)]) C dX6_putRows_30 (by decide) rfl ?_
    refine g_aload_n C dX6_putRows_31 1 rfl ?_
    refine g_wt (fun hT_μ => ?_)
    refine g_getr (j := 1) C s_a0 (by decide) rfl uwX6 (by decide) rfl lfX6_21 rfl dX6_putRows_32 ?_
    refine g_iload_n C dX6_putRows_35 0 rfl ?_
    obtain ⟨μ3, e_μ3, h⟩ := bs h
    refine g_callVV C (kX0_add (hT_μ.1 _ _ 1 _ s_a0 rfl) e_μ3) miX0_add lmX6_76 (hT_μ.1 _ _ 1 _ s_a0 rfl) (by decide) rfl rfl rfl (Nat.le_of_ble_eq_true rfl) dX6_putRows_36 ⟨by decide, by decide⟩ ⟨Nat.zero_le _, Nat.zero_le _⟩ ?_
    refine g_iconst (v := 0) C dX6_putRows_39 (by decide) ?_
    refine g_istore (lv' := [(4, .int 0), (3, .int x2), (0, .ref a0), (1, .ref a1), (2, .int v2)]) C dX6_putRows_40 (by decide) rfl ?_
    exact g_lv [2, 3, 4, 1, 0] rfl (wX6_putRows_L42 C hrec10 fu _ _ _ _ _ _ s_a0 s_a1 h)
theorem wX6_putRows_L10 {p : Program} {l : Launch} {e : Env} {s : State} {m : MethodId} {args : Array Value} {below : List Frame} {meth : Method} {c : Code} {D : va_G} {cA : Nat → ClassId} {tS : Nat → Nat} {σ : Sg} {fu : Nat} {q : Mm} (C : Cx p s m args meth c (dm σ) D cA tS σ cX6_putRows none 5 RX6) : ∀ (n : Nat) (a0 : Nat) (a1 : Nat) (v2 : Int32) (μ : Mm), (σ a0 = some (6, 0)) → (σ a1 = some (0, 0)) → fX6_putRows_L10 fu n a0 a1 v2 μ = some q → GG p l e (rmO 1 21) s m args below meth c 0 0 (dm σ) D cA σ 5 (MQ below (QV D cA σ q) args s 0 0 (dm σ)) 10 [(0, .ref a0), (1, .ref a1), (2, .int v2)] [] μ := by
  intro n
  induction n with
  | zero => intro a0 a1 v2 μ s_a0 s_a1 h; cases h
  | succ n ih => intro a0 a1 v2 μ s_a0 s_a1 h; exact wX6_putRows_B10 C (fun _ _ _ _ k0 k1 h => ih _ _ _ _ k0 k1 h) _ _ _ _ s_a0 s_a1 h
set_option maxRecDepth 100000 in
set_option maxHeartbeats 4000000 in
theorem wX6_putRows {p : Program} {l : Launch} {e : Env} {s : State} {m : MethodId} {args : Array Value} {below : List Frame} {meth : Method} {c : Code} {D : va_G} {cA : Nat → ClassId} {tS : Nat → Nat} {σ : Sg} {fu : Nat} {q : Mm} (C : Cx p s m args meth c (dm σ) D cA tS σ cX6_putRows none 5 RX6) (a0 : Nat) (μ : Mm) (s_a0 : σ a0 = some (6, 0)) (h : fX6_putRows fu a0 μ = some q) : GG p l e (rmO 1 21) s m args below meth c 0 0 (dm σ) D cA σ 5 (MQ below (QV D cA σ q) args s 0 0 (dm σ)) 0 [(0, .ref a0)] [] μ := by
  unfold fX6_putRows at h
  refine g_aload_n C dX6_putRows_0 0 rfl ?_
  refine g_wt (fun hT_μ => ?_)
  refine g_getr (j := 0) C s_a0 (by decide) rfl uwX6 (by decide) rfl lfX6_12 rfl dX6_putRows_1 ?_
  refine g_getr (j := 0) C (hT_μ.1 _ _ 0 _ s_a0 rfl) (by decide) rfl uwX2 (by decide) rfl lfX6_160 rfl dX6_putRows_4 ?_
  obtain ⟨r1, e_r1, h⟩ := nm h
  refine g_topr e_r1 ?_
  have s_r1 : σ r1 = some (0, 0) := by rw [e_r1]; exact (hT_μ.1 _ _ 0 _ (hT_μ.1 _ _ 0 _ s_a0 rfl) rfl)
  refine g_astore_n (lv' := [(1, .ref r1), (0, .ref a0)]) C dX6_putRows_7 (by decide) rfl ?_
  refine g_iconst (v := 0) C dX6_putRows_8 (by decide) ?_
  refine g_istore_n (lv' := [(2, .int 0), (1, .ref r1), (0, .ref a0)]) C dX6_putRows_9 (by decide) rfl ?_
  exact g_lv [2, 1, 0] rfl (wX6_putRows_L10 C fu _ _ _ _ s_a0 s_r1 h)
theorem miX6_putRows : MI yX6_putRows cX6_putRows 5 none RX6 0 := ⟨wcX6_putRows, wmX6_putRows, wsX6_putRows, wiX6, by decide +kernel⟩
theorem kX6_putRows {l : Launch} {D : va_G} {cA : Nat → ClassId} {tS : Nat → Nat} {σ : Sg} {a0 : Nat} {μ : Mm} {fu : Nat} {q : Mm} (s_a0 : σ a0 = some (6, 0)) (h : fX6_putRows fu a0 μ = some q) : Ct l D cA tS σ yX6_putRows cX6_putRows 5 none (rmO 1 21) [.ref a0] μ (QV D cA σ q) :=
  Ct.of (by decide) (Nat.le_of_ble_eq_true rfl) (fun _ _ _ _ _ _ _ _ C => wX6_putRows C _ _ s_a0 h)
set_option maxRecDepth 100000 in
set_option maxHeartbeats 4000000 in
theorem wX6_putTable_B2 {p : Program} {l : Launch} {e : Env} {s : State} {m : MethodId} {args : Array Value} {below : List Frame} {meth : Method} {c : Code} {D : va_G} {cA : Nat → ClassId} {tS : Nat → Nat} {σ : Sg} {rec2 : Nat → Nat → Int32 → Mm → Option (Mm)} {fu : Nat} {q : Mm} (C : Cx p s m args meth c (dm σ) D cA tS σ cX6_putTable none 4 RX6) (hrec2 : ∀ (y0 : Nat) (y1 : Nat) (y2 : Int32) (μ : Mm), σ y0 = some (6, 0) → σ y1 = some (7, 0) → rec2 y0 y1 y2 μ = some q → GG p l e (rmO 1 21) s m args below meth c 0 0 (dm σ) D cA σ 4 (MQ below (QV D cA σ q) args s 0 0 (dm σ)) 2 [(0, .ref y0), (1, .ref y1), (2, .int y2)] [] μ) (a0 : Nat) (a1 : Nat) (v2 : Int32) (μ : Mm) (s_a0 : σ a0 = some (6, 0)) (s_a1 : σ a1 = some (7, 0)) (h : fX6_putTable_B2 rec2 fu a0 a1 v2 μ = some q) : GG p l e (rmO 1 21) s m args below meth c 0 0 (dm σ) D cA σ 4 (MQ below (QV D cA σ q) args s 0 0 (dm σ)) 2 [(0, .ref a0), (1, .ref a1), (2, .int v2)] [] μ := by
  unfold fX6_putTable_B2 at h
  refine g_iload_n C dX6_putTable_2 2 rfl ?_
  refine g_aload_n C dX6_putTable_3 1 rfl ?_
  refine g_geti (j := 1) C s_a1 (by decide) rfl uwX7 (by decide) rfl lfX6_110 rfl dX6_putTable_4 ?_
  refine g_icmp_ge C 53 dX6_putTable_7 rfl (fun q => ?_) (fun q => ?_)
  · replace h := ip q h
    cases h
    exact g_return C dX6_putTable_53
  · replace h := iq q h
    refine g_aload_n C dX6_putTable_10 1 rfl ?_
    refine g_wt (fun hT_μ => ?_)
    refine g_getr (j := 0) C s_a1 (by decide) rfl uwX7 (by decide) rfl lfX6_113 rfl dX6_putTable_11 ?_
    refine g_iload_n C dX6_putTable_14 2 rfl ?_
    obtain ⟨hg1, h⟩ := gs h
    refine g_iald C (hT_μ.1 _ _ 0 _ s_a1 rfl) (ib_in hg1) dX6_putTable_15 ?_
    obtain ⟨x2, e_x2, h⟩ := nm h
    refine g_topi e_x2 ?_
    refine g_istore_n (lv' := [(3, .int x2), (0, .ref a0), (1, .ref a1), (2, .int v2)]) C dX6_putTable_16 (by decide) rfl ?_
    refine g_aload_n C dX6_putTable_17 1 rfl ?_
    refine g_getr (j := 1) C s_a0 (by decide) rfl uwX6 (by decide) rfl lfX6_21 rfl dX6_putTable_18 ?_
    refine g_iload_n C dX6_putTable_21 0 rfl ?_
    refine g_bipush (v := 16) C dX6_putTable_22 (by decide) ?_
    refine g_ishr C dX6_putTable_24 ?_
    obtain ⟨μ3, e_μ3, h⟩ := bs h
    refine g_callVV C (kX0_add (hT_μ.1 _ _ 1 _ s_a0 rfl) e_μ3) miX0_add lmX6_76 (hT_μ.1 _ _ 1 _ s_a0 rfl) (by decide) rfl rfl rfl (Nat.le_of_ble_eq_true rfl) dX6_putTable_25 ⟨by decide, by decide⟩ ⟨Nat.zero_le _, Nat.zero_le _⟩ ?_
    refine g_aload_n C dX6_putTable_28 1 rfl ?_
    refine g_wt (fun hT_μ3 => ?_)
    refine g_getr (j := 1) C s_a0 (by decide) rfl uwX6 (by decide) rfl lfX6_21 rfl dX6_putTable_29 ?_
    refine g_iload_n C dX6_putTable_32 0 rfl ?_
    refine g_bipush (v := 8) C dX6_putTable_33 (by decide) ?_
    refine g_ishr C dX6_putTable_35 ?_
    obtain ⟨μ4, e_μ4, h⟩ := bs h
    refine g_callVV C (kX0_add (hT_μ3.1 _ _ 1 _ s_a0 rfl) e_μ4) miX0_add lmX6_76 (hT_μ3.1 _ _ 1 _ s_a0 rfl) (by decide) rfl rfl rfl (Nat.le_of_ble_eq_true rfl) dX6_putTable_36 ⟨by decide, by decide⟩ ⟨Nat.zero_le _, Nat.zero_le _⟩ ?_
    refine g_aload_n C dX6_putTable_39 1 rfl ?_
    refine g_wt (fun hT_μ4 => ?_)
    refine g_getr (j := 1) C s_a0 (by decide) rfl uwX6 (by decide) rfl lfX6_21 rfl dX6_putTable_40 ?_
    refine g_iload_n C dX6_putTable_43 0 rfl ?_
    obtain ⟨μ5, e_μ5, h⟩ := bs h
    refine g_callVV C (kX0_add (hT_μ4.1 _ _ 1 _ s_a0 rfl) e_μ5) miX0_add lmX6_76 (hT_μ4.1 _ _ 1 _ s_a0 rfl) (by decide) rfl rfl rfl (Nat.le_of_ble_eq_true rfl) dX6_putTable_44 ⟨by decide, by decide⟩ ⟨Nat.zero_le _, Nat.zero_le _⟩ ?_
    obtain ⟨x6, e_x6, h⟩ := nm h
    refine g_iinc (v := x6) (lv' := [(2, .int x6), (3, .int x2), (0, .ref a0), (1, .ref a1)]) C dX6_putTable_47 (by decide) 3 rfl 1 (by decide) e_x6.symm rfl ?_
    refine g_goto C 2 dX6_putTable_50 rfl ?_
    exact g_lv [2, 3, 0] rfl (hrec2 _ _ _ _ s_a0 s_a1 h)
theorem wX6_putTable_L2 {p : Program} {l : Launch} {e : Env} {s : State} {m : MethodId} {args : Array Value} {below : List Frame} {meth : Method} {c : Code} {D : va_G} {cA : Nat → ClassId} {tS : Nat → Nat} {σ : Sg} {fu : Nat} {q : Mm} (C : Cx p s m args meth c (dm σ) D cA tS σ cX6_putTable none 4 RX6) : ∀ (n : Nat) (a0 : Nat) (a1 : Nat) (v2 : Int32) (μ : Mm), (σ a0 = some (6, 0)) → (σ a1 = some (7, 0)) → fX6_putTable_L2 fu n a0 a1 v2 μ = some q → GG p l e (rmO 1 21) s m args below meth c 0 0 (dm σ) D cA σ 4 (MQ below (QV D cA σ q) args s 0 0 (dm σ)) 2 [(0, .ref a0), (1, .ref a1), (2, .int v2)] [] μ := by
  intro n
  induction n with
  | zero => intro a0 a1 v2 μ s_a0 s_a1 h; cases h
  | succ n ih => intro a0 a1 v2 μ s_a0 s_a1 h; exact wX6_putTable_B2 C (fun _ _ _ _ k0 k1 h => ih _ _ _ _ k0 k1 h) _ _ _ _ s_a0 s_a1 h
set_option maxRecDepth 100000 in
set_option maxHeartbeats 4000000 in
theorem wX6_putTable {p : Program} {l : Launch} {e : Env} {s : State} {m : MethodId} {args : Array Value} {below : List Frame} {meth : Method} {c : Code} {D : va_G} {cA : Nat → ClassId} {tS : Nat → Nat} {σ : Sg} {fu : Nat} {q : Mm} (C : Cx p s m args meth c (dm σ) D cA tS σ cX6_putTable none 4 RX6) (a0 : Nat) (a1 : Nat) (μ : Mm) (s_a0 : σ a0 = some (6, 0)) (s_a1 : σ a1 = some (7, 0)) (h : fX6_putTable fu a0 a1 μ = some q) : GG p l e (rmO 1 21) s m args below meth c 0 0 (dm σ) D cA σ 4 (MQ below (QV D cA σ q) args s 0 0 (dm σ)) 0 [(0, .ref a0), (1, .ref a1)] [] μ := by
  unfold fX6_putTable at h
  refine g_iconst (v := 0) C dX6_putTable_0 (by decide) ?_
  refine g_istore_n (lv' := [(2, .int 0), (0, .ref a0), (1, .ref a1)]) C dX6_putTable_1 (by decide) rfl ?_
  exact g_lv [1, 2, 0] rfl (wX6_putTable_L2 C fu _ _ _ _ s_a0 s_a1 h)
theorem miX6_putTable : MI yX6_putTable cX6_putTable 4 none RX6 1 := ⟨wcX6_putTable, wmX6_putTable, wsX6_putTable, wiX6, by decide +kernel⟩
theorem kX6_putTable {l : Launch} {D : va_G} {cA : Nat → ClassId} {tS : Nat → Nat} {σ : Sg} {a0 : Nat} {a1 : Nat} {μ : Mm} {fu : Nat} {q : Mm} (s_a0 : σ a0 = some (6, 0)) (s_a1 : σ a1 = some (7, 0)) (h : fX6_putTable fu a0 a1 μ = some q) : Ct l D cA tS σ yX6_putTable cX6_putTable 4 none (rmO 1 21) [.ref a0, .ref a1] μ (QV D cA σ q) :=
  Ct.of (by decide) (Nat.le_of_ble_eq_true rfl) (fun _ _ _ _ _ _ _ _ C => wX6_putTable C _ _ _ s_a0 s_a1 h)
set_option maxRecDepth 100000 in
set_option maxHeartbeats 4000000 in
theorem wJ6_numberOfTrailingZeros_0f7a4_L74 {p : Program} {l : Launch} {e : Env} {s : State} {m : MethodId} {args : Array Value} {below : List Frame} {meth : Method} {c : Code} {D : va_G} {cA : Nat → ClassId} {tS : Nat → Nat} {σ : Sg} {μ0 : Mm} {q : Int32} (C : Cx p s m args meth c (dm σ) D cA tS σ cJ6_numberOfTrailingZeros_0f7a4 (some .int) 2 RJ6) (v0 : Int32) (v1 : Int32) (h : fJ6_numberOfTrailingZeros_0f7a4_L74 v0 v1 = q) : GG p l e (rmO 0 0) s m args below meth c 0 0 (dm σ) D cA σ 2 (MQ below (QI D cA σ q μ0) args s 0 0 (dm σ)) 74 [(0, .int v0), (1, .int v1)] [] μ0 := by
  unfold fJ6_numberOfTrailingZeros_0f7a4_L74 at h
  refine g_iload_n C dJ6_numberOfTrailingZeros_0f7a4_74 1 rfl ?_
  refine g_iload_n C dJ6_numberOfTrailingZeros_0f7a4_75 0 rfl ?_
  refine g_iconst (v := 1) C dJ6_numberOfTrailingZeros_0f7a4_76 (by decide) ?_
  refine g_iushr C dJ6_numberOfTrailingZeros_0f7a4_77 ?_
  refine g_iadd C dJ6_numberOfTrailingZeros_0f7a4_78 ?_
  subst h
  exact g_ireturn C rfl dJ6_numberOfTrailingZeros_0f7a4_79
set_option maxRecDepth 100000 in
set_option maxHeartbeats 4000000 in
theorem wJ6_numberOfTrailingZeros_0f7a4_L62 {p : Program} {l : Launch} {e : Env} {s : State} {m : MethodId} {args : Array Value} {below : List Frame} {meth : Method} {c : Code} {D : va_G} {cA : Nat → ClassId} {tS : Nat → Nat} {σ : Sg} {μ0 : Mm} {q : Int32} (C : Cx p s m args meth c (dm σ) D cA tS σ cJ6_numberOfTrailingZeros_0f7a4 (some .int) 2 RJ6) (v0 : Int32) (v1 : Int32) (h : fJ6_numberOfTrailingZeros_0f7a4_L62 v0 v1 = q) : GG p l e (rmO 0 0) s m args below meth c 0 0 (dm σ) D cA σ 2 (MQ below (QI D cA σ q μ0) args s 0 0 (dm σ)) 62 [(0, .int v0), (1, .int v1)] [] μ0 := by
  unfold fJ6_numberOfTrailingZeros_0f7a4_L62 at h
  refine g_iload_n C dJ6_numberOfTrailingZeros_0f7a4_62 0 rfl ?_
  refine g_iconst (v := 4) C dJ6_numberOfTrailingZeros_0f7a4_63 (by decide) ?_
  refine g_icmp_le C 74 dJ6_numberOfTrailingZeros_0f7a4_64 rfl (fun q => ?_) (fun q => ?_)
  · replace h := ip q h
    exact g_lv [0, 1] rfl (wJ6_numberOfTrailingZeros_0f7a4_L74 C _ _ h)
  · replace h := iq q h
    obtain ⟨x1, e_x1, h⟩ := nm h
    refine g_iinc (v := x1) (lv' := [(1, .int x1), (0, .int v0)]) C dJ6_numberOfTrailingZeros_0f7a4_67 (by decide) 1 rfl 2 (by decide) e_x1.symm rfl ?_
    refine g_iload_n C dJ6_numberOfTrailingZeros_0f7a4_70 1 rfl ?_
    refine g_iconst (v := 2) C dJ6_numberOfTrailingZeros_0f7a4_71 (by decide) ?_
    refine g_iushr C dJ6_numberOfTrailingZeros_0f7a4_72 ?_
    obtain ⟨x2, e_x2, h⟩ := nm h
    refine g_topi e_x2 ?_
    refine g_istore_n (lv' := [(0, .int x2), (1, .int x1)]) C dJ6_numberOfTrailingZeros_0f7a4_73 (by decide) rfl ?_
    exact g_lv [0, 1] rfl (wJ6_numberOfTrailingZeros_0f7a4_L74 C _ _ h)
set_option maxRecDepth 100000 in
set_option maxHeartbeats 4000000 in
theorem wJ6_numberOfTrailingZeros_0f7a4_L49 {p : Program} {l : Launch} {e : Env} {s : State} {m : MethodId} {args : Array Value} {below : List Frame} {meth : Method} {c : Code} {D : va_G} {cA : Nat → ClassId} {tS : Nat → Nat} {σ : Sg} {μ0 : Mm} {q : Int32} (C : Cx p s m args meth c (dm σ) D cA tS σ cJ6_numberOfTrailingZeros_0f7a4 (some .int) 2 RJ6) (v0 : Int32) (v1 : Int32) (h : fJ6_numberOfTrailingZeros_0f7a4_L49 v0 v1 = q) : GG p l e (rmO 0 0) s m args below meth c 0 0 (dm σ) D cA σ 2 (MQ below (QI D cA σ q μ0) args s 0 0 (dm σ)) 49 [(0, .int v0), (1, .int v1)] [] μ0 := by
  unfold fJ6_numberOfTrailingZeros_0f7a4_L49 at h
  refine g_iload_n C dJ6_numberOfTrailingZeros_0f7a4_49 0 rfl ?_
  refine g_bipush (v := 16) C dJ6_numberOfTrailingZeros_0f7a4_50 (by decide) ?_
  refine g_icmp_le C 62 dJ6_numberOfTrailingZeros_0f7a4_52 rfl (fun q => ?_) (fun q => ?_)
  · replace h := ip q h
    exact g_lv [0, 1] rfl (wJ6_numberOfTrailingZeros_0f7a4_L62 C _ _ h)
  · replace h := iq q h
    obtain ⟨x1, e_x1, h⟩ := nm h
    refine g_iinc (v := x1) (lv' := [(1, .int x1), (0, .int v0)]) C dJ6_numberOfTrailingZeros_0f7a4_55 (by decide) 1 rfl 4 (by decide) e_x1.symm rfl ?_
    refine g_iload_n C dJ6_numberOfTrailingZeros_0f7a4_58 1 rfl ?_
    refine g_iconst (v := 4) C dJ6_numberOfTrailingZeros_0f7a4_59 (by decide) ?_
    refine g_iushr C dJ6_numberOfTrailingZeros_0f7a4_60 ?_
    obtain ⟨x2, e_x2, h⟩ := nm h
    refine g_topi e_x2 ?_
    refine g_istore_n (lv' := [(0, .int x2), (1, .int x1)]) C dJ6_numberOfTrailingZeros_0f7a4_61 (by decide) rfl ?_
    exact g_lv [0, 1] rfl (wJ6_numberOfTrailingZeros_0f7a4_L62 C _ _ h)
set_option maxRecDepth 100000 in
set_option maxHeartbeats 4000000 in
theorem wJ6_numberOfTrailingZeros_0f7a4_L34 {p : Program} {l : Launch} {e : Env} {s : State} {m : MethodId} {args : Array Value} {below : List Frame} {meth : Method} {c : Code} {D : va_G} {cA : Nat → ClassId} {tS : Nat → Nat} {σ : Sg} {μ0 : Mm} {q : Int32} (C : Cx p s m args meth c (dm σ) D cA tS σ cJ6_numberOfTrailingZeros_0f7a4 (some .int) 2 RJ6) (v0 : Int32) (v1 : Int32) (h : fJ6_numberOfTrailingZeros_0f7a4_L34 v0 v1 = q) : GG p l e (rmO 0 0) s m args below meth c 0 0 (dm σ) D cA σ 2 (MQ below (QI D cA σ q μ0) args s 0 0 (dm σ)) 34 [(0, .int v0), (1, .int v1)] [] μ0 := by
  unfold fJ6_numberOfTrailingZeros_0f7a4_L34 at h
  refine g_iload_n C dJ6_numberOfTrailingZeros_0f7a4_34 0 rfl ?_
  refine g_sipush (v := 256) C dJ6_numberOfTrailingZeros_0f7a4_35 (by decide) ?_
  refine g_icmp_le C 49 dJ6_numberOfTrailingZeros_0f7a4_38 rfl (fun q => ?_) (fun q => ?_)
  · replace h := ip q h
    exact g_lv [0, 1] rfl (wJ6_numberOfTrailingZeros_0f7a4_L49 C _ _ h)
  · replace h := iq q h
    obtain ⟨x1, e_x1, h⟩ := nm h
    refine g_iinc (v := x1) (lv' := [(1, .int x1), (0, .int v0)]) C dJ6_numberOfTrailingZeros_0f7a4_41 (by decide) 1 rfl 8 (by decide) e_x1.symm rfl ?_
    refine g_iload_n C dJ6_numberOfTrailingZeros_0f7a4_44 1 rfl ?_
    refine g_bipush (v := 8) C dJ6_numberOfTrailingZeros_0f7a4_45 (by decide) ?_
    refine g_iushr C dJ6_numberOfTrailingZeros_0f7a4_47 ?_
    obtain ⟨x2, e_x2, h⟩ := nm h
    refine g_topi e_x2 ?_
    refine g_istore_n (lv' := [(0, .int x2), (1, .int x1)]) C dJ6_numberOfTrailingZeros_0f7a4_48 (by decide) rfl ?_
    exact g_lv [0, 1] rfl (wJ6_numberOfTrailingZeros_0f7a4_L49 C _ _ h)
set_option maxRecDepth 100000 in
set_option maxHeartbeats 4000000 in
theorem wJ6_numberOfTrailingZeros_0f7a4 {p : Program} {l : Launch} {e : Env} {s : State} {m : MethodId} {args : Array Value} {below : List Frame} {meth : Method} {c : Code} {D : va_G} {cA : Nat → ClassId} {tS : Nat → Nat} {σ : Sg} {μ0 : Mm} {q : Int32} (C : Cx p s m args meth c (dm σ) D cA tS σ cJ6_numberOfTrailingZeros_0f7a4 (some .int) 2 RJ6) (v0 : Int32) (h : fJ6_numberOfTrailingZeros_0f7a4 v0 = q) : GG p l e (rmO 0 0) s m args below meth c 0 0 (dm σ) D cA σ 2 (MQ below (QI D cA σ q μ0) args s 0 0 (dm σ)) 0 [(0, .int v0)] [] μ0 := by
  unfold fJ6_numberOfTrailingZeros_0f7a4 at h
  refine g_iload_n C dJ6_numberOfTrailingZeros_0f7a4_0 0 rfl ?_
  refine g_iconst (v := -1) C dJ6_numberOfTrailingZeros_0f7a4_1 (by decide) ?_
  refine g_ixor C dJ6_numberOfTrailingZeros_0f7a4_2 ?_
  refine g_iload_n C dJ6_numberOfTrailingZeros_0f7a4_3 0 rfl ?_
  refine g_iconst (v := 1) C dJ6_numberOfTrailingZeros_0f7a4_4 (by decide) ?_
  refine g_isub C dJ6_numberOfTrailingZeros_0f7a4_5 ?_
  refine g_iand C dJ6_numberOfTrailingZeros_0f7a4_6 ?_
  obtain ⟨x1, e_x1, h⟩ := nm h
  refine g_topi e_x1 ?_
  refine g_istore_n (lv' := [(0, .int x1)]) C dJ6_numberOfTrailingZeros_0f7a4_7 (by decide) rfl ?_
  refine g_iload_n C dJ6_numberOfTrailingZeros_0f7a4_8 0 rfl ?_
  refine g_if_gt C 17 dJ6_numberOfTrailingZeros_0f7a4_9 rfl (fun q => ?_) (fun q => ?_)
  · replace h := ip q h
    refine g_iconst (v := 1) C dJ6_numberOfTrailingZeros_0f7a4_17 (by decide) ?_
    refine g_istore_n (lv' := [(1, .int 1), (0, .int x1)]) C dJ6_numberOfTrailingZeros_0f7a4_18 (by decide) rfl ?_
    refine g_iload_n C dJ6_numberOfTrailingZeros_0f7a4_19 1 rfl ?_
    refine g_ldc_w C dJ6_numberOfTrailingZeros_0f7a4_20 lkJ6_264 ?_
    refine g_icmp_le C 34 dJ6_numberOfTrailingZeros_0f7a4_23 rfl (fun q => ?_) (fun q => ?_)
    · replace h := ip q h
      exact g_lv [1, 0] rfl (wJ6_numberOfTrailingZeros_0f7a4_L34 C _ _ h)
    · replace h := iq q h
      obtain ⟨x2, e_x2, h⟩ := nm h
      refine g_iinc (v := x2) (lv' := [(1, .int x2), (0, .int x1)]) C dJ6_numberOfTrailingZeros_0f7a4_26 (by decide) 0 rfl 16 (by decide) e_x2.symm rfl ?_
      refine g_iload_n C dJ6_numberOfTrailingZeros_0f7a4_29 1 rfl ?_
      refine g_bipush (v := 16) C dJ6_numberOfTrailingZeros_0f7a4_30 (by decide) ?_
      refine g_iushr C dJ6_numberOfTrailingZeros_0f7a4_32 ?_
      obtain ⟨x3, e_x3, h⟩ := nm h
      refine g_topi e_x3 ?_
      refine g_istore_n (lv' := [(0, .int x3), (1, .int x2)]) C dJ6_numberOfTrailingZeros_0f7a4_33 (by decide) rfl ?_
      exact g_lv [0, 1] rfl (wJ6_numberOfTrailingZeros_0f7a4_L34 C _ _ h)
  · replace h := iq q h
    refine g_iload_n C dJ6_numberOfTrailingZeros_0f7a4_12 0 rfl ?_
    refine g_bipush (v := 32) C dJ6_numberOfTrailingZeros_0f7a4_13 (by decide) ?_
    refine g_iand C dJ6_numberOfTrailingZeros_0f7a4_15 ?_
    subst h
    exact g_ireturn C rfl dJ6_numberOfTrailingZeros_0f7a4_16
theorem msJ6_numberOfTrailingZeros_0f7a4 : MS yJ6_numberOfTrailingZeros_0f7a4 cJ6_numberOfTrailingZeros_0f7a4 2 (some .int) 1 := ⟨wcJ6_numberOfTrailingZeros_0f7a4, wtJ6_numberOfTrailingZeros_0f7a4, wiJ6, by decide +kernel⟩
theorem kJ6_numberOfTrailingZeros_0f7a4 {l : Launch} {D : va_G} {cA : Nat → ClassId} {tS : Nat → Nat} {σ : Sg} {v0 : Int32} {μ0 : Mm} {q : Int32} (h : fJ6_numberOfTrailingZeros_0f7a4 v0 = q) : Ct l D cA tS σ yJ6_numberOfTrailingZeros_0f7a4 cJ6_numberOfTrailingZeros_0f7a4 2 (some .int) (rmO 0 0) [.int v0] μ0 (QI D cA σ q μ0) :=
  Ct.of (by decide) (Nat.le_of_ble_eq_true rfl) (fun _ _ _ _ _ _ _ _ C => wJ6_numberOfTrailingZeros_0f7a4 C _  h)
set_option maxRecDepth 100000 in
set_option maxHeartbeats 4000000 in
theorem wX7_power {p : Program} {l : Launch} {e : Env} {s : State} {m : MethodId} {args : Array Value} {below : List Frame} {meth : Method} {c : Code} {D : va_G} {cA : Nat → ClassId} {tS : Nat → Nat} {σ : Sg} {q : Int32} (C : Cx p s m args meth c (dm σ) D cA tS σ cX7_power (some .int) 1 RX7) (a0 : Nat) (μ : Mm) (s_a0 : σ a0 = some (7, 0)) (h : fX7_power a0 μ = q) : GG p l e (rmO 1 21) s m args below meth c 0 0 (dm σ) D cA σ 1 (MQ below (QI D cA σ q μ) args s 0 0 (dm σ)) 0 [(0, .ref a0)] [] μ := by
  unfold fX7_power at h
  refine g_aload_n C dX7_power_0 0 rfl ?_
  refine g_geti (j := 1) C s_a0 (by decide) rfl uwX7 (by decide) rfl lfX7_15 rfl dX7_power_1 ?_
  obtain ⟨x1, e_x1, h⟩ := nm h
  refine g_callSI C (kJ6_numberOfTrailingZeros_0f7a4 e_x1.symm) msJ6_numberOfTrailingZeros_0f7a4 lmX7_19 rfl rfl (Nat.le_of_ble_eq_true rfl) dX7_power_4 ⟨by decide, by decide⟩ ⟨Nat.zero_le _, Nat.zero_le _⟩ ?_
  subst h
  exact g_ireturn C rfl dX7_power_7
theorem miX7_power : MI yX7_power cX7_power 1 (some .int) RX7 0 := ⟨wcX7_power, wmX7_power, wsX7_power, wiX7, by decide +kernel⟩
theorem kX7_power {l : Launch} {D : va_G} {cA : Nat → ClassId} {tS : Nat → Nat} {σ : Sg} {a0 : Nat} {μ : Mm} {q : Int32} (s_a0 : σ a0 = some (7, 0)) (h : fX7_power a0 μ = q) : Ct l D cA tS σ yX7_power cX7_power 1 (some .int) (rmO 1 21) [.ref a0] μ (QI D cA σ q μ) :=
  Ct.of (by decide) (Nat.le_of_ble_eq_true rfl) (fun _ _ _ _ _ _ _ _ C => wX7_power C _ _ s_a0 h)
set_option maxRecDepth 100000 in
set_option maxHeartbeats 4000000 in
theorem wX7_mark {p : Program} {l : Launch} {e : Env} {s : State} {m : MethodId} {args : Array Value} {below : List Frame} {meth : Method} {c : Code} {D : va_G} {cA : Nat → ClassId} {tS : Nat → Nat} {σ : Sg} {q : Int32} (C : Cx p s m args meth c (dm σ) D cA tS σ cX7_mark (some .int) 1 RX7) (a0 : Nat) (μ : Mm) (s_a0 : σ a0 = some (7, 0)) (h : fX7_mark a0 μ = q) : GG p l e (rmO 2 41) s m args below meth c 0 0 (dm σ) D cA σ 1 (MQ below (QI D cA σ q μ) args s 0 0 (dm σ)) 0 [(0, .ref a0)] [] μ := by
  unfold fX7_mark at h
  refine g_aload_n C dX7_mark_0 0 rfl ?_
  refine g_geti (j := 1) C s_a0 (by decide) rfl uwX7 (by decide) rfl lfX7_15 rfl dX7_mark_1 ?_
  refine g_if_ne C 11 dX7_mark_4 rfl (fun q => ?_) (fun q => ?_)
  · replace h := iq q h
    refine g_sipush (v := 128) C dX7_mark_11 (by decide) ?_
    refine g_aload_n C dX7_mark_14 0 rfl ?_
    obtain ⟨x1, e_x1, h⟩ := nm h
    refine g_callVI C (kX7_power s_a0 e_x1.symm) miX7_power lmX7_25 s_a0 (by decide) rfl rfl rfl (Nat.le_of_ble_eq_true rfl) dX7_mark_15 ⟨by decide, by decide⟩ ⟨Nat.zero_le _, Nat.zero_le _⟩ ?_
    refine g_iadd C dX7_mark_18 ?_
    refine g_iconst (v := 1) C dX7_mark_19 (by decide) ?_
    refine g_isub C dX7_mark_20 ?_
    subst h
    exact g_ireturn C rfl dX7_mark_21
  · replace h := ip q h
    refine g_iconst (v := 0) C dX7_mark_7 (by decide) ?_
    refine g_goto C 21 dX7_mark_8 rfl ?_
    subst h
    exact g_ireturn C rfl dX7_mark_21
theorem miX7_mark : MI yX7_mark cX7_mark 1 (some .int) RX7 0 := ⟨wcX7_mark, wmX7_mark, wsX7_mark, wiX7, by decide +kernel⟩
theorem kX7_mark {l : Launch} {D : va_G} {cA : Nat → ClassId} {tS : Nat → Nat} {σ : Sg} {a0 : Nat} {μ : Mm} {q : Int32} (s_a0 : σ a0 = some (7, 0)) (h : fX7_mark a0 μ = q) : Ct l D cA tS σ yX7_mark cX7_mark 1 (some .int) (rmO 2 41) [.ref a0] μ (QI D cA σ q μ) :=
  Ct.of (by decide) (Nat.le_of_ble_eq_true rfl) (fun _ _ _ _ _ _ _ _ C => wX7_mark C _ _ s_a0 h)
set_option maxRecDepth 100000 in
set_option maxHeartbeats 4000000 in
theorem wX6_putImage_L77 {p : Program} {l : Launch} {e : Env} {s : State} {m : MethodId} {args : Array Value} {below : List Frame} {meth : Method} {c : Code} {D : va_G} {cA : Nat → ClassId} {tS : Nat → Nat} {σ : Sg} {fu : Nat} {q : Mm} (C : Cx p s m args meth c (dm σ) D cA tS σ cX6_putImage none 3 RX6) (a0 : Nat) (a1 : Nat) (v2 : Int32) (o0 : Nat) (t1 : Int32) (t2 : Int32) (μ : Mm) (s_a0 : σ a0 = some (6, 0)) (s_a1 : σ a1 = some (3, 0)) (s_o0 : σ o0 = some (0, 0)) (h : fX6_putImage_L77 fu a0 a1 v2 o0 t1 t2 μ = some q) : GG p l e (rmO 4 92) s m args below meth c 0 0 (dm σ) D cA σ 3 (MQ below (QV D cA σ q) args s 0 0 (dm σ)) 77 [(0, .ref a0), (1, .ref a1), (2, .int v2)] [.int t2, .int t1, .ref o0] μ := by
  unfold fX6_putImage_L77 at h
  refine g_iadd C dX6_putImage_77 ?_
  obtain ⟨μ1, e_μ1, h⟩ := bs h
  refine g_callVV C (kX0_add s_o0 e_μ1) miX0_add lmX6_76 s_o0 (by decide) rfl rfl rfl (Nat.le_of_ble_eq_true rfl) dX6_putImage_78 ⟨by decide, by decide⟩ ⟨Nat.zero_le _, Nat.zero_le _⟩ ?_
  refine g_aload_n C dX6_putImage_81 0 rfl ?_
  refine g_aload_n C dX6_putImage_82 1 rfl ?_
  refine g_wt (fun hT_μ1 => ?_)
  refine g_getr (j := 5) C s_a1 (by decide) rfl uwX3 (by decide) rfl lfX6_138 rfl dX6_putImage_83 ?_
  obtain ⟨μ2, e_μ2, h⟩ := bs h
  refine g_callVV C (kX6_putTable s_a0 (hT_μ1.1 _ _ 5 _ s_a1 rfl) e_μ2) miX6_putTable lmX6_106 s_a0 (by decide) rfl rfl rfl (Nat.le_of_ble_eq_true rfl) dX6_putImage_86 ⟨by decide, by decide⟩ ⟨Nat.zero_le _, Nat.zero_le _⟩ ?_
  refine g_aload_n C dX6_putImage_89 0 rfl ?_
  refine g_wt (fun hT_μ2 => ?_)
  refine g_getr (j := 1) C s_a0 (by decide) rfl uwX6 (by decide) rfl lfX6_21 rfl dX6_putImage_90 ?_
  refine g_iload_n C dX6_putImage_93 2 rfl ?_
  obtain ⟨μ3, e_μ3, h⟩ := bs h
  refine g_callVV C (kX0_add (hT_μ2.1 _ _ 1 _ s_a0 rfl) e_μ3) miX0_add lmX6_76 (hT_μ2.1 _ _ 1 _ s_a0 rfl) (by decide) rfl rfl rfl (Nat.le_of_ble_eq_true rfl) dX6_putImage_94 ⟨by decide, by decide⟩ ⟨Nat.zero_le _, Nat.zero_le _⟩ ?_
  refine g_aload_n C dX6_putImage_97 1 rfl ?_
  refine g_aload_n C dX6_putImage_98 0 rfl ?_
  refine g_wt (fun hT_μ3 => ?_)
  refine g_getr (j := 0) C s_a0 (by decide) rfl uwX6 (by decide) rfl lfX6_12 rfl dX6_putImage_99 ?_
  refine g_getr (j := 1) C (hT_μ3.1 _ _ 0 _ s_a0 rfl) (by decide) rfl uwX2 (by decide) rfl lfX6_144 rfl dX6_putImage_102 ?_
  obtain ⟨μ4, e_μ4, h⟩ := bs h
  refine g_callVV C (kX3_toStreamOrder s_a1 (hT_μ3.1 _ _ 1 _ (hT_μ3.1 _ _ 0 _ s_a0 rfl) rfl) e_μ4) miX3_toStreamOrder lmX6_147 s_a1 (by decide) rfl rfl rfl (Nat.le_of_ble_eq_true rfl) dX6_putImage_105 ⟨by decide, by decide⟩ ⟨Nat.zero_le _, Nat.zero_le _⟩ ?_
  refine g_aload_n C dX6_putImage_108 0 rfl ?_
  refine g_wt (fun hT_μ4 => ?_)
  refine g_getr (j := 0) C s_a0 (by decide) rfl uwX6 (by decide) rfl lfX6_12 rfl dX6_putImage_109 ?_
  refine g_aload_n C dX6_putImage_112 1 rfl ?_
  obtain ⟨x5, e_x5, h⟩ := nm h
  refine g_callVI C (kX3_size s_a1 e_x5.symm) miX3_size lmX6_151 s_a1 (by decide) rfl rfl rfl (Nat.le_of_ble_eq_true rfl) dX6_putImage_113 ⟨by decide, by decide⟩ ⟨Nat.zero_le _, Nat.zero_le _⟩ ?_
  refine g_iload_n C dX6_putImage_116 2 rfl ?_
  obtain ⟨μ6, e_μ6, h⟩ := bs h
  refine g_callVV C (kX2_encode (hT_μ4.1 _ _ 0 _ s_a0 rfl) e_μ6) miX2_encode lmX6_153 (hT_μ4.1 _ _ 0 _ s_a0 rfl) (by decide) rfl rfl rfl (Nat.le_of_ble_eq_true rfl) dX6_putImage_117 ⟨by decide, by decide⟩ ⟨Nat.zero_le _, Nat.zero_le _⟩ ?_
  refine g_aload_n C dX6_putImage_120 0 rfl ?_
  obtain ⟨μ7, e_μ7, h⟩ := bs h
  refine g_callVV C (kX6_putRows s_a0 e_μ7) miX6_putRows lmX6_157 s_a0 (by decide) rfl rfl rfl (Nat.le_of_ble_eq_true rfl) dX6_putImage_121 ⟨by decide, by decide⟩ ⟨Nat.zero_le _, Nat.zero_le _⟩ ?_
  cases h
  exact g_return C dX6_putImage_124
set_option maxRecDepth 100000 in
set_option maxHeartbeats 4000000 in
theorem wX6_putImage {p : Program} {l : Launch} {e : Env} {s : State} {m : MethodId} {args : Array Value} {below : List Frame} {meth : Method} {c : Code} {D : va_G} {cA : Nat → ClassId} {tS : Nat → Nat} {σ : Sg} {fu : Nat} {q : Mm} (C : Cx p s m args meth c (dm σ) D cA tS σ cX6_putImage none 3 RX6) (a0 : Nat) (a1 : Nat) (v2 : Int32) (μ : Mm) (s_a0 : σ a0 = some (6, 0)) (s_a1 : σ a1 = some (3, 0)) (h : fX6_putImage fu a0 a1 v2 μ = some q) : GG p l e (rmO 4 92) s m args below meth c 0 0 (dm σ) D cA σ 3 (MQ below (QV D cA σ q) args s 0 0 (dm σ)) 0 [(0, .ref a0), (1, .ref a1), (2, .int v2)] [] μ := by
  unfold fX6_putImage at h
  refine g_aload_n C dX6_putImage_0 0 rfl ?_
  refine g_wt (fun hT_μ => ?_)
  refine g_getr (j := 1) C s_a0 (by decide) rfl uwX6 (by decide) rfl lfX6_21 rfl dX6_putImage_1 ?_
  refine g_bipush (v := 44) C dX6_putImage_4 (by decide) ?_
  obtain ⟨μ1, e_μ1, h⟩ := bs h
  refine g_callVV C (kX0_add (hT_μ.1 _ _ 1 _ s_a0 rfl) e_μ1) miX0_add lmX6_76 (hT_μ.1 _ _ 1 _ s_a0 rfl) (by decide) rfl rfl rfl (Nat.le_of_ble_eq_true rfl) dX6_putImage_6 ⟨by decide, by decide⟩ ⟨Nat.zero_le _, Nat.zero_le _⟩ ?_
  refine g_aload_n C dX6_putImage_9 0 rfl ?_
  refine g_wt (fun hT_μ1 => ?_)
  refine g_getr (j := 1) C s_a0 (by decide) rfl uwX6 (by decide) rfl lfX6_21 rfl dX6_putImage_10 ?_
  refine g_aload_n C dX6_putImage_13 1 rfl ?_
  refine g_geti (j := 0) C s_a1 (by decide) rfl uwX3 (by decide) rfl lfX6_130 rfl dX6_putImage_14 ?_
  obtain ⟨μ2, e_μ2, h⟩ := bs h
  refine g_callVV C (kX0_addTwo (hT_μ1.1 _ _ 1 _ s_a0 rfl) e_μ2) miX0_addTwo lmX6_87 (hT_μ1.1 _ _ 1 _ s_a0 rfl) (by decide) rfl rfl rfl (Nat.le_of_ble_eq_true rfl) dX6_putImage_17 ⟨by decide, by decide⟩ ⟨Nat.zero_le _, Nat.zero_le _⟩ ?_
  refine g_aload_n C dX6_putImage_20 0 rfl ?_
  refine g_wt (fun hT_μ2 => ?_)
  refine g_getr (j := 1) C s_a0 (by decide) rfl uwX6 (by decide) rfl lfX6_21 rfl dX6_putImage_21 ?_
  refine g_aload_n C dX6_putImage_24 1 rfl ?_
  refine g_geti (j := 1) C s_a1 (by decide) rfl uwX3 (by decide) rfl lfX6_133 rfl dX6_putImage_25 ?_
  obtain ⟨μ3, e_μ3, h⟩ := bs h
  refine g_callVV C (kX0_addTwo (hT_μ2.1 _ _ 1 _ s_a0 rfl) e_μ3) miX0_addTwo lmX6_87 (hT_μ2.1 _ _ 1 _ s_a0 rfl) (by decide) rfl rfl rfl (Nat.le_of_ble_eq_true rfl) dX6_putImage_28 ⟨by decide, by decide⟩ ⟨Nat.zero_le _, Nat.zero_le _⟩ ?_
  refine g_aload_n C dX6_putImage_31 0 rfl ?_
  refine g_wt (fun hT_μ3 => ?_)
  refine g_getr (j := 1) C s_a0 (by decide) rfl uwX6 (by decide) rfl lfX6_21 rfl dX6_putImage_32 ?_
  refine g_aload_n C dX6_putImage_35 1 rfl ?_
  refine g_geti (j := 2) C s_a1 (by decide) rfl uwX3 (by decide) rfl lfX6_136 rfl dX6_putImage_36 ?_
  obtain ⟨μ4, e_μ4, h⟩ := bs h
  refine g_callVV C (kX0_addTwo (hT_μ3.1 _ _ 1 _ s_a0 rfl) e_μ4) miX0_addTwo lmX6_87 (hT_μ3.1 _ _ 1 _ s_a0 rfl) (by decide) rfl rfl rfl (Nat.le_of_ble_eq_true rfl) dX6_putImage_39 ⟨by decide, by decide⟩ ⟨Nat.zero_le _, Nat.zero_le _⟩ ?_
  refine g_aload_n C dX6_putImage_42 0 rfl ?_
  refine g_wt (fun hT_μ4 => ?_)
  refine g_getr (j := 1) C s_a0 (by decide) rfl uwX6 (by decide) rfl lfX6_21 rfl dX6_putImage_43 ?_
  refine g_aload_n C dX6_putImage_46 1 rfl ?_
  refine g_geti (j := 3) C s_a1 (by decide) rfl uwX3 (by decide) rfl lfX6_137 rfl dX6_putImage_47 ?_
  obtain ⟨μ5, e_μ5, h⟩ := bs h
  refine g_callVV C (kX0_addTwo (hT_μ4.1 _ _ 1 _ s_a0 rfl) e_μ5) miX0_addTwo lmX6_87 (hT_μ4.1 _ _ 1 _ s_a0 rfl) (by decide) rfl rfl rfl (Nat.le_of_ble_eq_true rfl) dX6_putImage_50 ⟨by decide, by decide⟩ ⟨Nat.zero_le _, Nat.zero_le _⟩ ?_
  refine g_aload_n C dX6_putImage_53 0 rfl ?_
  refine g_wt (fun hT_μ5 => ?_)
  refine g_getr (j := 1) C s_a0 (by decide) rfl uwX6 (by decide) rfl lfX6_21 rfl dX6_putImage_54 ?_
  refine g_aload_n C dX6_putImage_57 1 rfl ?_
  refine g_getr (j := 5) C s_a1 (by decide) rfl uwX3 (by decide) rfl lfX6_138 rfl dX6_putImage_58 ?_
  obtain ⟨x6, e_x6, h⟩ := nm h
  refine g_callVI C (kX7_mark (hT_μ5.1 _ _ 5 _ s_a1 rfl) e_x6.symm) miX7_mark lmX6_97 (hT_μ5.1 _ _ 5 _ s_a1 rfl) (by decide) rfl rfl rfl (Nat.le_of_ble_eq_true rfl) dX6_putImage_61 ⟨by decide, by decide⟩ ⟨Nat.zero_le _, Nat.zero_le _⟩ ?_
  refine g_aload_n C dX6_putImage_64 1 rfl ?_
  refine g_geti (j := 4) C s_a1 (by decide) rfl uwX3 (by decide) rfl lfX6_141 rfl dX6_putImage_65 ?_
  refine g_if_eq C 76 dX6_putImage_68 rfl (fun q => ?_) (fun q => ?_)
  · replace h := ip q h
    refine g_iconst (v := 0) C dX6_putImage_76 (by decide) ?_
    exact g_lv [0, 1, 2] rfl (wX6_putImage_L77 C _ _ _ _ _ _ _ s_a0 s_a1 (hT_μ5.1 _ _ 1 _ s_a0 rfl) h)
  · replace h := iq q h
    refine g_bipush (v := 64) C dX6_putImage_71 (by decide) ?_
    refine g_goto C 77 dX6_putImage_73 rfl ?_
    exact g_lv [0, 1, 2] rfl (wX6_putImage_L77 C _ _ _ _ _ _ _ s_a0 s_a1 (hT_μ5.1 _ _ 1 _ s_a0 rfl) h)
theorem miX6_putImage : MI yX6_putImage cX6_putImage 3 none RX6 2 := ⟨wcX6_putImage, wmX6_putImage, wsX6_putImage, wiX6, by decide +kernel⟩
theorem kX6_putImage {l : Launch} {D : va_G} {cA : Nat → ClassId} {tS : Nat → Nat} {σ : Sg} {a0 : Nat} {a1 : Nat} {v2 : Int32} {μ : Mm} {fu : Nat} {q : Mm} (s_a0 : σ a0 = some (6, 0)) (s_a1 : σ a1 = some (3, 0)) (h : fX6_putImage fu a0 a1 v2 μ = some q) : Ct l D cA tS σ yX6_putImage cX6_putImage 3 none (rmO 4 92) [.ref a0, .ref a1, .int v2] μ (QV D cA σ q) :=
  Ct.of (by decide) (Nat.le_of_ble_eq_true rfl) (fun _ _ _ _ _ _ _ _ C => wX6_putImage C _ _ _ _ s_a0 s_a1 h)
