set_option maxRecDepth 100000 in
set_option maxHeartbeats 4000000 in
theorem wX10_write_B207 {p : Program} {l : Launch} {e : Env} {s : State} {m : MethodId} {args : Array Value} {below : List Frame} {meth : Method} {c : Code} {D : va_G} {cA : Nat → ClassId} {tS : Nat → Nat} {σ : Sg} {rec207 : Nat → Int32 → Mm → Option (Int32 × Mm)} {fu : Nat} {q : Int32 × Mm} (C : Cx p s m args meth c (dm σ) D cA tS σ cX10_write (some .int) 3 RX10) (hrec207 : ∀ (y0 : Nat) (y2 : Int32) (μ : Mm), σ y0 = some (10, 0) → rec207 y0 y2 μ = some q → GG p l e (rmO 7 175) s m args below meth c 0 0 (dm σ) D cA σ 3 (MQ below (QI D cA σ q.1 q.2) args s 0 0 (dm σ)) 207 [(0, .ref y0), (2, .int y2)] [] μ) (a0 : Nat) (v2 : Int32) (μ : Mm) (s_a0 : σ a0 = some (10, 0)) (h : fX10_write_B207 rec207 fu a0 v2 μ = some q) : GG p l e (rmO 7 175) s m args below meth c 0 0 (dm σ) D cA σ 3 (MQ below (QI D cA σ q.1 q.2) args s 0 0 (dm σ)) 207 [(0, .ref a0), (2, .int v2)] [] μ := by
  unfold fX10_write_B207 at h
  refine g_iload_n C dX10_write_207 1 rfl ?_
  refine g_aload_n C dX10_write_208 0 rfl ?_
  refine g_geti (j := 31) C s_a0 (by decide) rfl uwX10 (by decide) rfl lfX10_237 rfl dX10_write_209 ?_
  refine g_icmp_ge C 233 dX10_write_212 rfl (fun q => ?_) (fun q => ?_)
  · replace h := ip q h
    refine g_aload_n C dX10_write_233 0 rfl ?_
    refine g_aload_n C dX10_write_234 0 rfl ?_
    refine g_geti (j := 31) C s_a0 (by decide) rfl uwX10 (by decide) rfl lfX10_237 rfl dX10_write_235 ?_
    refine g_puti (j := 3) C s_a0 (by decide) rfl uwX10 tyX10_ok nmX10 (by decide) rfl lfX10_83 rfl rfl rfl (fun _ _ => rfl) (fun _ _ => Nat.le_of_ble_eq_true rfl) dX10_write_238 ?_
    obtain ⟨μ1, e_μ1, h⟩ := nm h
    refine g_mu e_μ1 ?_
    refine g_aload_n C dX10_write_241 0 rfl ?_
    refine g_geti (j := 3) C s_a0 (by decide) rfl uwX10 (by decide) rfl lfX10_83 rfl dX10_write_242 ?_
    cases h
    exact g_ireturn C rfl dX10_write_245
  · replace h := iq q h
    refine g_aload_n C dX10_write_215 0 rfl ?_
    refine g_wt (fun hT_μ => ?_)
    refine g_getr (j := 1) C s_a0 (by decide) rfl uwX10 (by decide) rfl lfX10_13 rfl dX10_write_216 ?_
    refine g_iload_n C dX10_write_219 1 rfl ?_
    refine g_aload_n C dX10_write_220 0 rfl ?_
    refine g_getr (j := 21) C s_a0 (by decide) rfl uwX10 (by decide) rfl lfX10_41 rfl dX10_write_221 ?_
    refine g_iload_n C dX10_write_224 1 rfl ?_
    obtain ⟨hg2, h⟩ := gs h
    refine g_bald C (hT_μ.1 _ _ 21 _ s_a0 rfl) (ib_in hg2) dX10_write_225 ?_
    obtain ⟨hg, h⟩ := gs h
    refine g_bast C (hT_μ.1 _ _ 1 _ s_a0 rfl) (ib_in hg) dX10_write_226 ?_
    obtain ⟨μ3, e_μ3, h⟩ := nm h
    refine g_mu e_μ3 ?_
    obtain ⟨x4, e_x4, h⟩ := nm h
    refine g_iinc (v := x4) (lv' := [(2, .int x4), (0, .ref a0)]) C dX10_write_227 (by decide) 1 rfl 1 (by decide) e_x4.symm rfl ?_
    refine g_goto C 207 dX10_write_230 rfl ?_
    exact g_lv [1, 0] rfl (hrec207 _ _ _ s_a0 h)
theorem wX10_write_L207 {p : Program} {l : Launch} {e : Env} {s : State} {m : MethodId} {args : Array Value} {below : List Frame} {meth : Method} {c : Code} {D : va_G} {cA : Nat → ClassId} {tS : Nat → Nat} {σ : Sg} {fu : Nat} {q : Int32 × Mm} (C : Cx p s m args meth c (dm σ) D cA tS σ cX10_write (some .int) 3 RX10) : ∀ (n : Nat) (a0 : Nat) (v2 : Int32) (μ : Mm), (σ a0 = some (10, 0)) → fX10_write_L207 fu n a0 v2 μ = some q → GG p l e (rmO 7 175) s m args below meth c 0 0 (dm σ) D cA σ 3 (MQ below (QI D cA σ q.1 q.2) args s 0 0 (dm σ)) 207 [(0, .ref a0), (2, .int v2)] [] μ := by
  intro n
  induction n with
  | zero => intro a0 v2 μ s_a0 h; cases h
  | succ n ih => intro a0 v2 μ s_a0 h; exact wX10_write_B207 C (fun _ _ _ k0 h => ih _ _ _ k0 h) _ _ _ s_a0 h
set_option maxRecDepth 100000 in
set_option maxHeartbeats 4000000 in
theorem wX10_write_B168 {p : Program} {l : Launch} {e : Env} {s : State} {m : MethodId} {args : Array Value} {below : List Frame} {meth : Method} {c : Code} {D : va_G} {cA : Nat → ClassId} {tS : Nat → Nat} {σ : Sg} {rec168 : Nat → Int32 → Mm → Option (Int32 × Mm)} {fu : Nat} {q : Int32 × Mm} (C : Cx p s m args meth c (dm σ) D cA tS σ cX10_write (some .int) 3 RX10) (hrec168 : ∀ (y0 : Nat) (y2 : Int32) (μ : Mm), σ y0 = some (10, 0) → rec168 y0 y2 μ = some q → GG p l e (rmO 7 175) s m args below meth c 0 0 (dm σ) D cA σ 3 (MQ below (QI D cA σ q.1 q.2) args s 0 0 (dm σ)) 168 [(0, .ref y0), (2, .int y2)] [] μ) (a0 : Nat) (v2 : Int32) (μ : Mm) (s_a0 : σ a0 = some (10, 0)) (h : fX10_write_B168 rec168 fu a0 v2 μ = some q) : GG p l e (rmO 7 175) s m args below meth c 0 0 (dm σ) D cA σ 3 (MQ below (QI D cA σ q.1 q.2) args s 0 0 (dm σ)) 168 [(0, .ref a0), (2, .int v2)] [] μ := by
  unfold fX10_write_B168 at h
  refine g_iload_n C dX10_write_168 1 rfl ?_
  refine g_aload_n C dX10_write_169 0 rfl ?_
  obtain ⟨x1, e_x1, h⟩ := bs h
  refine g_callVI C (kX10_frames s_a0 e_x1) miX10_frames lmX10_69 s_a0 (by decide) rfl rfl rfl (Nat.le_of_ble_eq_true rfl) dX10_write_170 ⟨by decide, by decide⟩ ⟨Nat.zero_le _, Nat.zero_le _⟩ ?_
  refine g_icmp_ge C 187 dX10_write_173 rfl (fun q => ?_) (fun q => ?_)
  · replace h := ip q h
    refine g_aload_n C dX10_write_187 0 rfl ?_
    refine g_bipush (v := 59) C dX10_write_188 (by decide) ?_
    obtain ⟨μ2, e_μ2, h⟩ := bs h
    refine g_callVV C (kX10_say s_a0 e_μ2) miX10_say lmX10_240 s_a0 (by decide) rfl rfl rfl (Nat.le_of_ble_eq_true rfl) dX10_write_190 ⟨by decide, by decide⟩ ⟨Nat.zero_le _, Nat.zero_le _⟩ ?_
    refine g_aload_n C dX10_write_193 0 rfl ?_
    refine g_geti (j := 31) C s_a0 (by decide) rfl uwX10 (by decide) rfl lfX10_237 rfl dX10_write_194 ?_
    refine g_sipush (v := 12000) C dX10_write_197 (by decide) ?_
    refine g_icmp_le C 205 dX10_write_200 rfl (fun q => ?_) (fun q => ?_)
    · replace h := ip q h
      refine g_iconst (v := 0) C dX10_write_205 (by decide) ?_
      refine g_istore_n (lv' := [(2, .int 0), (0, .ref a0)]) C dX10_write_206 (by decide) rfl ?_
      exact g_lv [1, 0] rfl (wX10_write_L207 C fu _ _ _ s_a0 h)
    · replace h := iq q h
      refine g_iconst (v := -1) C dX10_write_203 (by decide) ?_
      cases h
      exact g_ireturn C rfl dX10_write_204
  · replace h := iq q h
    refine g_aload_n C dX10_write_176 0 rfl ?_
    refine g_iload_n C dX10_write_177 1 rfl ?_
    obtain ⟨μ3, e_μ3, h⟩ := bs h
    refine g_callVV C (kX10_sayFrame s_a0 e_μ3) miX10_sayFrame lmX10_253 s_a0 (by decide) rfl rfl rfl (Nat.le_of_ble_eq_true rfl) dX10_write_178 ⟨by decide, by decide⟩ ⟨Nat.zero_le _, Nat.zero_le _⟩ ?_
    obtain ⟨x4, e_x4, h⟩ := nm h
    refine g_iinc (v := x4) (lv' := [(2, .int x4), (0, .ref a0)]) C dX10_write_181 (by decide) 1 rfl 1 (by decide) e_x4.symm rfl ?_
    refine g_goto C 168 dX10_write_184 rfl ?_
    exact g_lv [1, 0] rfl (hrec168 _ _ _ s_a0 h)
theorem wX10_write_L168 {p : Program} {l : Launch} {e : Env} {s : State} {m : MethodId} {args : Array Value} {below : List Frame} {meth : Method} {c : Code} {D : va_G} {cA : Nat → ClassId} {tS : Nat → Nat} {σ : Sg} {fu : Nat} {q : Int32 × Mm} (C : Cx p s m args meth c (dm σ) D cA tS σ cX10_write (some .int) 3 RX10) : ∀ (n : Nat) (a0 : Nat) (v2 : Int32) (μ : Mm), (σ a0 = some (10, 0)) → fX10_write_L168 fu n a0 v2 μ = some q → GG p l e (rmO 7 175) s m args below meth c 0 0 (dm σ) D cA σ 3 (MQ below (QI D cA σ q.1 q.2) args s 0 0 (dm σ)) 168 [(0, .ref a0), (2, .int v2)] [] μ := by
  intro n
  induction n with
  | zero => intro a0 v2 μ s_a0 h; cases h
  | succ n ih => intro a0 v2 μ s_a0 h; exact wX10_write_B168 C (fun _ _ _ k0 h => ih _ _ _ k0 h) _ _ _ s_a0 h
set_option maxRecDepth 100000 in
set_option maxHeartbeats 4000000 in
theorem wX10_write_L104 {p : Program} {l : Launch} {e : Env} {s : State} {m : MethodId} {args : Array Value} {below : List Frame} {meth : Method} {c : Code} {D : va_G} {cA : Nat → ClassId} {tS : Nat → Nat} {σ : Sg} {fu : Nat} {q : Int32 × Mm} (C : Cx p s m args meth c (dm σ) D cA tS σ cX10_write (some .int) 3 RX10) (a0 : Nat) (v1 : Int32) (o0 : Nat) (t1 : Int32) (t2 : Int32) (μ : Mm) (s_a0 : σ a0 = some (10, 0)) (s_o0 : σ o0 = some (10, 0)) (h : fX10_write_L104 fu a0 v1 o0 t1 t2 μ = some q) : GG p l e (rmO 7 175) s m args below meth c 0 0 (dm σ) D cA σ 3 (MQ below (QI D cA σ q.1 q.2) args s 0 0 (dm σ)) 104 [(0, .ref a0), (1, .int v1)] [.int t2, .int t1, .ref o0] μ := by
  unfold fX10_write_L104 at h
  refine g_iadd C dX10_write_104 ?_
  refine g_iload_n C dX10_write_105 1 rfl ?_
  obtain ⟨x1, e_x1, h⟩ := bs h
  refine g_callSI C (kX10_bitsOf e_x1) msX10_bitsOf lmX10_246 rfl rfl (Nat.le_of_ble_eq_true rfl) dX10_write_106 ⟨by decide, by decide⟩ ⟨Nat.zero_le _, Nat.zero_le _⟩ ?_
  refine g_iadd C dX10_write_109 ?_
  obtain ⟨μ2, e_μ2, h⟩ := bs h
  refine g_callVV C (kX10_say s_o0 e_μ2) miX10_say lmX10_240 s_o0 (by decide) rfl rfl rfl (Nat.le_of_ble_eq_true rfl) dX10_write_110 ⟨by decide, by decide⟩ ⟨Nat.zero_le _, Nat.zero_le _⟩ ?_
  refine g_aload_n C dX10_write_113 0 rfl ?_
  refine g_aload_n C dX10_write_114 0 rfl ?_
  refine g_wt (fun hT_μ2 => ?_)
  refine g_getr (j := 7) C s_a0 (by decide) rfl uwX10 (by decide) rfl lfX10_23 rfl dX10_write_115 ?_
  refine g_bipush (v := 6) C dX10_write_118 (by decide) ?_
  refine g_aload_n C dX10_write_120 0 rfl ?_
  refine g_geti (j := 6) C s_a0 (by decide) rfl uwX10 (by decide) rfl lfX10_66 rfl dX10_write_121 ?_
  refine g_imul C dX10_write_124 ?_
  refine g_iconst (v := 3) C dX10_write_125 (by decide) ?_
  refine g_iadd C dX10_write_126 ?_
  obtain ⟨hg3, h⟩ := gs h
  refine g_iald C (hT_μ2.1 _ _ 7 _ s_a0 rfl) (ib_in hg3) dX10_write_127 ?_
  obtain ⟨μ4, e_μ4, h⟩ := bs h
  refine g_callVV C (kX10_say s_a0 e_μ4) miX10_say lmX10_240 s_a0 (by decide) rfl rfl rfl (Nat.le_of_ble_eq_true rfl) dX10_write_128 ⟨by decide, by decide⟩ ⟨Nat.zero_le _, Nat.zero_le _⟩ ?_
  refine g_aload_n C dX10_write_131 0 rfl ?_
  refine g_aload_n C dX10_write_132 0 rfl ?_
  refine g_wt (fun hT_μ4 => ?_)
  refine g_getr (j := 7) C s_a0 (by decide) rfl uwX10 (by decide) rfl lfX10_23 rfl dX10_write_133 ?_
  refine g_bipush (v := 6) C dX10_write_136 (by decide) ?_
  refine g_aload_n C dX10_write_138 0 rfl ?_
  refine g_geti (j := 6) C s_a0 (by decide) rfl uwX10 (by decide) rfl lfX10_66 rfl dX10_write_139 ?_
  refine g_imul C dX10_write_142 ?_
  refine g_iconst (v := 4) C dX10_write_143 (by decide) ?_
  refine g_iadd C dX10_write_144 ?_
  obtain ⟨hg5, h⟩ := gs h
  refine g_iald C (hT_μ4.1 _ _ 7 _ s_a0 rfl) (ib_in hg5) dX10_write_145 ?_
  obtain ⟨μ6, e_μ6, h⟩ := bs h
  refine g_callVV C (kX10_say s_a0 e_μ6) miX10_say lmX10_240 s_a0 (by decide) rfl rfl rfl (Nat.le_of_ble_eq_true rfl) dX10_write_146 ⟨by decide, by decide⟩ ⟨Nat.zero_le _, Nat.zero_le _⟩ ?_
  refine g_aload_n C dX10_write_149 0 rfl ?_
  refine g_aload_n C dX10_write_150 0 rfl ?_
  refine g_wt (fun hT_μ6 => ?_)
  refine g_getr (j := 8) C s_a0 (by decide) rfl uwX10 (by decide) rfl lfX10_27 rfl dX10_write_151 ?_
  refine g_sipush (v := 256) C dX10_write_154 (by decide) ?_
  refine g_aload_n C dX10_write_157 0 rfl ?_
  refine g_geti (j := 6) C s_a0 (by decide) rfl uwX10 (by decide) rfl lfX10_66 rfl dX10_write_158 ?_
  refine g_imul C dX10_write_161 ?_
  refine g_iload_n C dX10_write_162 1 rfl ?_
  obtain ⟨μ7, e_μ7, h⟩ := bs h
  refine g_callVV C (kX10_sayTable s_a0 (hT_μ6.1 _ _ 8 _ s_a0 rfl) e_μ7) miX10_sayTable lmX10_250 s_a0 (by decide) rfl rfl rfl (Nat.le_of_ble_eq_true rfl) dX10_write_163 ⟨by decide, by decide⟩ ⟨Nat.zero_le _, Nat.zero_le _⟩ ?_
  refine g_iconst (v := 0) C dX10_write_166 (by decide) ?_
  refine g_istore_n (lv' := [(2, .int 0), (0, .ref a0), (1, .int v1)]) C dX10_write_167 (by decide) rfl ?_
  exact g_lv [1, 0] rfl (wX10_write_L168 C fu _ _ _ s_a0 h)
set_option maxRecDepth 100000 in
set_option maxHeartbeats 4000000 in
theorem wX10_write {p : Program} {l : Launch} {e : Env} {s : State} {m : MethodId} {args : Array Value} {below : List Frame} {meth : Method} {c : Code} {D : va_G} {cA : Nat → ClassId} {tS : Nat → Nat} {σ : Sg} {fu : Nat} {q : Int32 × Mm} (C : Cx p s m args meth c (dm σ) D cA tS σ cX10_write (some .int) 3 RX10) (a0 : Nat) (μ : Mm) (s_a0 : σ a0 = some (10, 0)) (h : fX10_write fu a0 μ = some q) : GG p l e (rmO 7 175) s m args below meth c 0 0 (dm σ) D cA σ 3 (MQ below (QI D cA σ q.1 q.2) args s 0 0 (dm σ)) 0 [(0, .ref a0)] [] μ := by
  unfold fX10_write at h
  refine g_aload_n C dX10_write_0 0 rfl ?_
  refine g_iconst (v := 0) C dX10_write_1 (by decide) ?_
  refine g_puti (j := 31) C s_a0 (by decide) rfl uwX10 tyX10_ok nmX10 (by decide) rfl lfX10_237 rfl rfl rfl (fun _ _ => rfl) (fun _ _ => Nat.le_of_ble_eq_true rfl) dX10_write_2 ?_
  obtain ⟨μ1, e_μ1, h⟩ := nm h
  refine g_mu e_μ1 ?_
  refine g_aload_n C dX10_write_5 0 rfl ?_
  refine g_bipush (v := 71) C dX10_write_6 (by decide) ?_
  obtain ⟨μ2, e_μ2, h⟩ := bs h
  refine g_callVV C (kX10_say s_a0 e_μ2) miX10_say lmX10_240 s_a0 (by decide) rfl rfl rfl (Nat.le_of_ble_eq_true rfl) dX10_write_8 ⟨by decide, by decide⟩ ⟨Nat.zero_le _, Nat.zero_le _⟩ ?_
  refine g_aload_n C dX10_write_11 0 rfl ?_
  refine g_bipush (v := 73) C dX10_write_12 (by decide) ?_
  obtain ⟨μ3, e_μ3, h⟩ := bs h
  refine g_callVV C (kX10_say s_a0 e_μ3) miX10_say lmX10_240 s_a0 (by decide) rfl rfl rfl (Nat.le_of_ble_eq_true rfl) dX10_write_14 ⟨by decide, by decide⟩ ⟨Nat.zero_le _, Nat.zero_le _⟩ ?_
  refine g_aload_n C dX10_write_17 0 rfl ?_
  refine g_bipush (v := 70) C dX10_write_18 (by decide) ?_
  obtain ⟨μ4, e_μ4, h⟩ := bs h
  refine g_callVV C (kX10_say s_a0 e_μ4) miX10_say lmX10_240 s_a0 (by decide) rfl rfl rfl (Nat.le_of_ble_eq_true rfl) dX10_write_20 ⟨by decide, by decide⟩ ⟨Nat.zero_le _, Nat.zero_le _⟩ ?_
  refine g_aload_n C dX10_write_23 0 rfl ?_
  refine g_bipush (v := 56) C dX10_write_24 (by decide) ?_
  obtain ⟨μ5, e_μ5, h⟩ := bs h
  refine g_callVV C (kX10_say s_a0 e_μ5) miX10_say lmX10_240 s_a0 (by decide) rfl rfl rfl (Nat.le_of_ble_eq_true rfl) dX10_write_26 ⟨by decide, by decide⟩ ⟨Nat.zero_le _, Nat.zero_le _⟩ ?_
  refine g_aload_n C dX10_write_29 0 rfl ?_
  refine g_bipush (v := 57) C dX10_write_30 (by decide) ?_
  obtain ⟨μ6, e_μ6, h⟩ := bs h
  refine g_callVV C (kX10_say s_a0 e_μ6) miX10_say lmX10_240 s_a0 (by decide) rfl rfl rfl (Nat.le_of_ble_eq_true rfl) dX10_write_32 ⟨by decide, by decide⟩ ⟨Nat.zero_le _, Nat.zero_le _⟩ ?_
  refine g_aload_n C dX10_write_35 0 rfl ?_
  refine g_bipush (v := 97) C dX10_write_36 (by decide) ?_
  obtain ⟨μ7, e_μ7, h⟩ := bs h
  refine g_callVV C (kX10_say s_a0 e_μ7) miX10_say lmX10_240 s_a0 (by decide) rfl rfl rfl (Nat.le_of_ble_eq_true rfl) dX10_write_38 ⟨by decide, by decide⟩ ⟨Nat.zero_le _, Nat.zero_le _⟩ ?_
  refine g_aload_n C dX10_write_41 0 rfl ?_
  refine g_aload_n C dX10_write_42 0 rfl ?_
  refine g_wt (fun hT_μ7 => ?_)
  refine g_getr (j := 7) C s_a0 (by decide) rfl uwX10 (by decide) rfl lfX10_23 rfl dX10_write_43 ?_
  refine g_bipush (v := 6) C dX10_write_46 (by decide) ?_
  refine g_aload_n C dX10_write_48 0 rfl ?_
  refine g_geti (j := 6) C s_a0 (by decide) rfl uwX10 (by decide) rfl lfX10_66 rfl dX10_write_49 ?_
  refine g_imul C dX10_write_52 ?_
  obtain ⟨hg8, h⟩ := gs h
  refine g_iald C (hT_μ7.1 _ _ 7 _ s_a0 rfl) (ib_in hg8) dX10_write_53 ?_
  obtain ⟨μ9, e_μ9, h⟩ := bs h
  refine g_callVV C (kX10_sayTwo s_a0 e_μ9) miX10_sayTwo lmX10_243 s_a0 (by decide) rfl rfl rfl (Nat.le_of_ble_eq_true rfl) dX10_write_54 ⟨by decide, by decide⟩ ⟨Nat.zero_le _, Nat.zero_le _⟩ ?_
  refine g_aload_n C dX10_write_57 0 rfl ?_
  refine g_aload_n C dX10_write_58 0 rfl ?_
  refine g_wt (fun hT_μ9 => ?_)
  refine g_getr (j := 7) C s_a0 (by decide) rfl uwX10 (by decide) rfl lfX10_23 rfl dX10_write_59 ?_
  refine g_bipush (v := 6) C dX10_write_62 (by decide) ?_
  refine g_aload_n C dX10_write_64 0 rfl ?_
  refine g_geti (j := 6) C s_a0 (by decide) rfl uwX10 (by decide) rfl lfX10_66 rfl dX10_write_65 ?_
  refine g_imul C dX10_write_68 ?_
  refine g_iconst (v := 1) C dX10_write_69 (by decide) ?_
  refine g_iadd C dX10_write_70 ?_
  obtain ⟨hg10, h⟩ := gs h
  refine g_iald C (hT_μ9.1 _ _ 7 _ s_a0 rfl) (ib_in hg10) dX10_write_71 ?_
  obtain ⟨μ11, e_μ11, h⟩ := bs h
  refine g_callVV C (kX10_sayTwo s_a0 e_μ11) miX10_sayTwo lmX10_243 s_a0 (by decide) rfl rfl rfl (Nat.le_of_ble_eq_true rfl) dX10_write_72 ⟨by decide, by decide⟩ ⟨Nat.zero_le _, Nat.zero_le _⟩ ?_
  refine g_aload_n C dX10_write_75 0 rfl ?_
  refine g_wt (fun hT_μ11 => ?_)
  refine g_getr (j := 7) C s_a0 (by decide) rfl uwX10 (by decide) rfl lfX10_23 rfl dX10_write_76 ?_
  refine g_bipush (v := 6) C dX10_write_79 (by decide) ?_
  refine g_aload_n C dX10_write_81 0 rfl ?_
  refine g_geti (j := 6) C s_a0 (by decide) rfl uwX10 (by decide) rfl lfX10_66 rfl dX10_write_82 ?_
  refine g_imul C dX10_write_85 ?_
  refine g_iconst (v := 2) C dX10_write_86 (by decide) ?_
  refine g_iadd C dX10_write_87 ?_
  obtain ⟨hg12, h⟩ := gs h
  refine g_iald C (hT_μ11.1 _ _ 7 _ s_a0 rfl) (ib_in hg12) dX10_write_88 ?_
  obtain ⟨x13, e_x13, h⟩ := nm h
  refine g_topi e_x13 ?_
  refine g_istore_n (lv' := [(1, .int x13), (0, .ref a0)]) C dX10_write_89 (by decide) rfl ?_
  refine g_aload_n C dX10_write_90 1 rfl ?_
  refine g_bipush (v := 112) C dX10_write_91 (by decide) ?_
  refine g_iload_n C dX10_write_93 0 rfl ?_
  refine g_if_le C 103 dX10_write_94 rfl (fun q => ?_) (fun q => ?_)
  · replace h := ip q h
    refine g_iconst (v := 0) C dX10_write_103 (by decide) ?_
    exact g_lv [1, 0] rfl (wX10_write_L104 C _ _ _ _ _ _ s_a0 s_a0 h)
  · replace h := iq q h
    refine g_sipush (v := 128) C dX10_write_97 (by decide) ?_
    refine g_goto C 104 dX10_write_100 rfl ?_
    exact g_lv [1, 0] rfl (wX10_write_L104 C _ _ _ _ _ _ s_a0 s_a0 h)
theorem miX10_write : MI yX10_write cX10_write 3 (some .int) RX10 0 := ⟨wcX10_write, wmX10_write, wsX10_write, wiX10, by decide +kernel⟩
theorem kX10_write {l : Launch} {D : va_G} {cA : Nat → ClassId} {tS : Nat → Nat} {σ : Sg} {a0 : Nat} {μ : Mm} {fu : Nat} {q : Int32 × Mm} (s_a0 : σ a0 = some (10, 0)) (h : fX10_write fu a0 μ = some q) : Ct l D cA tS σ yX10_write cX10_write 3 (some .int) (rmO 7 175) [.ref a0] μ (QI D cA σ q.1 q.2) :=
  Ct.of (by decide) (Nat.le_of_ble_eq_true rfl) (fun _ _ _ _ _ _ _ _ C => wX10_write C _ _ s_a0 h)
set_option maxRecDepth 100000 in
set_option maxHeartbeats 4000000 in
theorem wX10_out {p : Program} {l : Launch} {e : Env} {s : State} {m : MethodId} {args : Array Value} {below : List Frame} {meth : Method} {c : Code} {D : va_G} {cA : Nat → ClassId} {tS : Nat → Nat} {σ : Sg} {q : Int32} (C : Cx p s m args meth c (dm σ) D cA tS σ cX10_out (some .int) 2 RX10) (a0 : Nat) (v1 : Int32) (μ : Mm) (s_a0 : σ a0 = some (10, 0)) (h : fX10_out a0 v1 μ = some q) : GG p l e (rmO 0 0) s m args below meth c 0 0 (dm σ) D cA σ 2 (MQ below (QI D cA σ q μ) args s 0 0 (dm σ)) 0 [(0, .ref a0), (1, .int v1)] [] μ := by
  unfold fX10_out at h
  refine g_iload_n C dX10_out_0 1 rfl ?_
  refine g_if_lt C 25 dX10_out_1 rfl (fun q => ?_) (fun q => ?_)
  · replace h := ip q h
    refine g_iconst (v := -1) C dX10_out_25 (by decide) ?_
    cases h
    exact g_ireturn C rfl dX10_out_26
  · replace h := iq q h
    refine g_iload_n C dX10_out_4 1 rfl ?_
    refine g_aload_n C dX10_out_5 0 rfl ?_
    refine g_geti (j := 3) C s_a0 (by decide) rfl uwX10 (by decide) rfl lfX10_83 rfl dX10_out_6 ?_
    refine g_icmp_ge C 25 dX10_out_9 rfl (fun q => ?_) (fun q => ?_)
    · replace h := ip q h
      refine g_iconst (v := -1) C dX10_out_25 (by decide) ?_
      cases h
      exact g_ireturn C rfl dX10_out_26
    · replace h := iq q h
      refine g_aload_n C dX10_out_12 0 rfl ?_
      refine g_wt (fun hT_μ => ?_)
      refine g_getr (j := 1) C s_a0 (by decide) rfl uwX10 (by decide) rfl lfX10_13 rfl dX10_out_13 ?_
      refine g_iload_n C dX10_out_16 1 rfl ?_
      obtain ⟨hg1, h⟩ := gs h
      refine g_bald C (hT_μ.1 _ _ 1 _ s_a0 rfl) (ib_in hg1) dX10_out_17 ?_
      refine g_sipush (v := 255) C dX10_out_18 (by decide) ?_
      refine g_iand C dX10_out_21 ?_
      refine g_goto C 26 dX10_out_22 rfl ?_
      cases h
      exact g_ireturn C rfl dX10_out_26
theorem miX10_out : MI yX10_out cX10_out 2 (some .int) RX10 1 := ⟨wcX10_out, wmX10_out, wsX10_out, wiX10, by decide +kernel⟩
theorem kX10_out {l : Launch} {D : va_G} {cA : Nat → ClassId} {tS : Nat → Nat} {σ : Sg} {a0 : Nat} {v1 : Int32} {μ : Mm} {q : Int32} (s_a0 : σ a0 = some (10, 0)) (h : fX10_out a0 v1 μ = some q) : Ct l D cA tS σ yX10_out cX10_out 2 (some .int) (rmO 0 0) [.ref a0, .int v1] μ (QI D cA σ q μ) :=
  Ct.of (by decide) (Nat.le_of_ble_eq_true rfl) (fun _ _ _ _ _ _ _ _ C => wX10_out C _ _ _ s_a0 h)
set_option maxRecDepth 100000 in
set_option maxHeartbeats 4000000 in
theorem wX10_about {p : Program} {l : Launch} {e : Env} {s : State} {m : MethodId} {args : Array Value} {below : List Frame} {meth : Method} {c : Code} {D : va_G} {cA : Nat → ClassId} {tS : Nat → Nat} {σ : Sg} {q : Int32} (C : Cx p s m args meth c (dm σ) D cA tS σ cX10_about (some .int) 2 RX10) (a0 : Nat) (v1 : Int32) (μ : Mm) (s_a0 : σ a0 = some (10, 0)) (h : fX10_about a0 v1 μ = some q) : GG p l e (rmO 0 0) s m args below meth c 0 0 (dm σ) D cA σ 2 (MQ below (QI D cA σ q μ) args s 0 0 (dm σ)) 0 [(0, .ref a0), (1, .int v1)] [] μ := by
  unfold fX10_about at h
  refine g_iload_n C dX10_about_0 1 rfl ?_
  refine g_bipush (v := 6) C dX10_about_1 (by decide) ?_
  refine g_icmp_ne C 11 dX10_about_3 rfl (fun q => ?_) (fun q => ?_)
  · replace h := iq q h
    refine g_iload_n C dX10_about_11 1 rfl ?_
    refine g_bipush (v := 7) C dX10_about_12 (by decide) ?_
    refine g_icmp_ne C 22 dX10_about_14 rfl (fun q => ?_) (fun q => ?_)
    · replace h := iq q h
      refine g_iload_n C dX10_about_22 1 rfl ?_
      refine g_if_lt C 49 dX10_about_23 rfl (fun q => ?_) (fun q => ?_)
      · replace h := ip q h
        refine g_iconst (v := -1) C dX10_about_49 (by decide) ?_
        cases h
        exact g_ireturn C rfl dX10_about_50
      · replace h := iq q h
        refine g_iload_n C dX10_about_26 1 rfl ?_
        refine g_bipush (v := 6) C dX10_about_27 (by decide) ?_
        refine g_icmp_ge C 49 dX10_about_29 rfl (fun q => ?_) (fun q => ?_)
        · replace h := ip q h
          refine g_iconst (v := -1) C dX10_about_49 (by decide) ?_
          cases h
          exact g_ireturn C rfl dX10_about_50
        · replace h := iq q h
          refine g_aload_n C dX10_about_32 0 rfl ?_
          refine g_wt (fun hT_μ => ?_)
          refine g_getr (j := 7) C s_a0 (by decide) rfl uwX10 (by decide) rfl lfX10_23 rfl dX10_about_33 ?_
          refine g_bipush (v := 6) C dX10_about_36 (by decide) ?_
          refine g_aload_n C dX10_about_38 0 rfl ?_
          refine g_geti (j := 6) C s_a0 (by decide) rfl uwX10 (by decide) rfl lfX10_66 rfl dX10_about_39 ?_
          refine g_imul C dX10_about_42 ?_
          refine g_iload_n C dX10_about_43 1 rfl ?_
          refine g_iadd C dX10_about_44 ?_
          obtain ⟨hg1, h⟩ := gs h
          refine g_iald C (hT_μ.1 _ _ 7 _ s_a0 rfl) (ib_in hg1) dX10_about_45 ?_
          refine g_goto C 50 dX10_about_46 rfl ?_
          cases h
          exact g_ireturn C rfl dX10_about_50
    · replace h := ip q h
      refine g_aload_n C dX10_about_17 0 rfl ?_
      refine g_geti (j := 3) C s_a0 (by decide) rfl uwX10 (by decide) rfl lfX10_83 rfl dX10_about_18 ?_
      cases h
      exact g_ireturn C rfl dX10_about_21
  · replace h := ip q h
    refine g_aload_n C dX10_about_6 0 rfl ?_
    refine g_geti (j := 2) C s_a0 (by decide) rfl uwX10 (by decide) rfl lfX10_76 rfl dX10_about_7 ?_
    cases h
    exact g_ireturn C rfl dX10_about_10
theorem miX10_about : MI yX10_about cX10_about 2 (some .int) RX10 1 := ⟨wcX10_about, wmX10_about, wsX10_about, wiX10, by decide +kernel⟩
theorem kX10_about {l : Launch} {D : va_G} {cA : Nat → ClassId} {tS : Nat → Nat} {σ : Sg} {a0 : Nat} {v1 : Int32} {μ : Mm} {q : Int32} (s_a0 : σ a0 = some (10, 0)) (h : fX10_about a0 v1 μ = some q) : Ct l D cA tS σ yX10_about cX10_about 2 (some .int) (rmO 0 0) [.ref a0, .int v1] μ (QI D cA σ q μ) :=
  Ct.of (by decide) (Nat.le_of_ble_eq_true rfl) (fun _ _ _ _ _ _ _ _ C => wX10_about C _ _ _ s_a0 h)
set_option maxRecDepth 100000 in
set_option maxHeartbeats 4000000 in
theorem wX10_frameOf {p : Program} {l : Launch} {e : Env} {s : State} {m : MethodId} {args : Array Value} {below : List Frame} {meth : Method} {c : Code} {D : va_G} {cA : Nat → ClassId} {tS : Nat → Nat} {σ : Sg} {q : Int32} (C : Cx p s m args meth c (dm σ) D cA tS σ cX10_frameOf (some .int) 3 RX10) (a0 : Nat) (v1 : Int32) (v2 : Int32) (μ : Mm) (s_a0 : σ a0 = some (10, 0)) (h : fX10_frameOf a0 v1 v2 μ = some q) : GG p l e (rmO 2 41) s m args below meth c 0 0 (dm σ) D cA σ 3 (MQ below (QI D cA σ q μ) args s 0 0 (dm σ)) 0 [(0, .ref a0), (1, .int v1), (2, .int v2)] [] μ := by
  unfold fX10_frameOf at h
  refine g_aload_n C dX10_frameOf_0 0 rfl ?_
  refine g_iload_n C dX10_frameOf_1 1 rfl ?_
  obtain ⟨x1, e_x1, h⟩ := bs h
  refine g_callVI C (kX10_isFrame s_a0 e_x1) miX10_isFrame lmX10_229 s_a0 (by decide) rfl rfl rfl (Nat.le_of_ble_eq_true rfl) dX10_frameOf_2 ⟨by decide, by decide⟩ ⟨Nat.zero_le _, Nat.zero_le _⟩ ?_
  refine g_if_eq C 31 dX10_frameOf_5 rfl (fun q => ?_) (fun q => ?_)
  · replace h := ip q h
    refine g_iconst (v := -1) C dX10_frameOf_31 (by decide) ?_
    cases h
    exact g_ireturn C rfl dX10_frameOf_32
  · replace h := iq q h
    refine g_iload_n C dX10_frameOf_8 2 rfl ?_
    refine g_if_lt C 31 dX10_frameOf_9 rfl (fun q => ?_) (fun q => ?_)
    · replace h := ip q h
      refine g_iconst (v := -1) C dX10_frameOf_31 (by decide) ?_
      cases h
      exact g_ireturn C rfl dX10_frameOf_32
    · replace h := iq q h
      refine g_iload_n C dX10_frameOf_12 2 rfl ?_
      refine g_bipush (v := 10) C dX10_frameOf_13 (by decide) ?_
      refine g_icmp_ge C 31 dX10_frameOf_15 rfl (fun q => ?_) (fun q => ?_)
      · replace h := ip q h
        refine g_iconst (v := -1) C dX10_frameOf_31 (by decide) ?_
        cases h
        exact g_ireturn C rfl dX10_frameOf_32
      · replace h := iq q h
        refine g_aload_n C dX10_frameOf_18 0 rfl ?_
        refine g_aload_n C dX10_frameOf_19 0 rfl ?_
        refine g_geti (j := 6) C s_a0 (by decide) rfl uwX10 (by decide) rfl lfX10_66 rfl dX10_frameOf_20 ?_
        refine g_iload_n C dX10_frameOf_23 1 rfl ?_
        refine g_iload_n C dX10_frameOf_24 2 rfl ?_
        obtain ⟨x2, e_x2, h⟩ := bs h
        refine g_callVI C (kX10_field s_a0 e_x2) miX10_field lmX10_73 s_a0 (by decide) rfl rfl rfl (Nat.le_of_ble_eq_true rfl) dX10_frameOf_25 ⟨by decide, by decide⟩ ⟨Nat.zero_le _, Nat.zero_le _⟩ ?_
        refine g_goto C 32 dX10_frameOf_28 rfl ?_
        cases h
        exact g_ireturn C rfl dX10_frameOf_32
theorem miX10_frameOf : MI yX10_frameOf cX10_frameOf 3 (some .int) RX10 2 := ⟨wcX10_frameOf, wmX10_frameOf, wsX10_frameOf, wiX10, by decide +kernel⟩
theorem kX10_frameOf {l : Launch} {D : va_G} {cA : Nat → ClassId} {tS : Nat → Nat} {σ : Sg} {a0 : Nat} {v1 : Int32} {v2 : Int32} {μ : Mm} {q : Int32} (s_a0 : σ a0 = some (10, 0)) (h : fX10_frameOf a0 v1 v2 μ = some q) : Ct l D cA tS σ yX10_frameOf cX10_frameOf 3 (some .int) (rmO 2 41) [.ref a0, .int v1, .int v2] μ (QI D cA σ q μ) :=
  Ct.of (by decide) (Nat.le_of_ble_eq_true rfl) (fun _ _ _ _ _ _ _ _ C => wX10_frameOf C _ _ _ _ s_a0 h)
set_option maxRecDepth 100000 in
set_option maxHeartbeats 4000000 in
theorem wX10_colourOf {p : Program} {l : Launch} {e : Env} {s : State} {m : MethodId} {args : Array Value} {below : List Frame} {meth : Method} {c : Code} {D : va_G} {cA : Nat → ClassId} {tS : Nat → Nat} {σ : Sg} {q : Int32} (C : Cx p s m args meth c (dm σ) D cA tS σ cX10_colourOf (some .int) 3 RX10) (a0 : Nat) (v1 : Int32) (v2 : Int32) (μ : Mm) (s_a0 : σ a0 = some (10, 0)) (h : fX10_colourOf a0 v1 v2 μ = some q) : GG p l e (rmO 3 63) s m args below meth c 0 0 (dm σ) D cA σ 3 (MQ below (QI D cA σ q μ) args s 0 0 (dm σ)) 0 [(0, .ref a0), (1, .int v1), (2, .int v2)] [] μ := by
  unfold fX10_colourOf at h
  refine g_aload_n C dX10_colourOf_0 0 rfl ?_
  refine g_iload_n C dX10_colourOf_1 1 rfl ?_
  refine g_iload_n C dX10_colourOf_2 2 rfl ?_
  obtain ⟨x1, e_x1, h⟩ := bs h
  refine g_callVI C (kX10_isColour s_a0 e_x1) miX10_isColour lmX10_232 s_a0 (by decide) rfl rfl rfl (Nat.le_of_ble_eq_true rfl) dX10_colourOf_3 ⟨by decide, by decide⟩ ⟨Nat.zero_le _, Nat.zero_le _⟩ ?_
  refine g_if_ne C 11 dX10_colourOf_6 rfl (fun q => ?_) (fun q => ?_)
  · replace h := iq q h
    refine g_iload_n C dX10_colourOf_11 1 rfl ?_
    refine g_iconst (v := -1) C dX10_colourOf_12 (by decide) ?_
    refine g_icmp_ne C 34 dX10_colourOf_13 rfl (fun q => ?_) (fun q => ?_)
    · replace h := iq q h
      refine g_aload_n C dX10_colourOf_34 0 rfl ?_
      refine g_wt (fun hT_μ => ?_)
      refine g_getr (j := 10) C s_a0 (by decide) rfl uwX10 (by decide) rfl lfX10_33 rfl dX10_colourOf_35 ?_
      refine g_aload_n C dX10_colourOf_38 0 rfl ?_
      refine g_geti (j := 6) C s_a0 (by decide) rfl uwX10 (by decide) rfl lfX10_66 rfl dX10_colourOf_39 ?_
      refine g_iload_n C dX10_colourOf_42 1 rfl ?_
      refine g_iload_n C dX10_colourOf_43 2 rfl ?_
      obtain ⟨x2, e_x2, h⟩ := nm h
      refine g_callSI C (kX10_localAt e_x2.symm) msX10_localAt lmX10_160 rfl rfl (Nat.le_of_ble_eq_true rfl) dX10_colourOf_44 ⟨by decide, by decide⟩ ⟨Nat.zero_le _, Nat.zero_le _⟩ ?_
      obtain ⟨hg3, h⟩ := gs h
      refine g_iald C (hT_μ.1 _ _ 10 _ s_a0 rfl) (ib_in hg3) dX10_colourOf_47 ?_
      cases h
      exact g_ireturn C rfl dX10_colourOf_48
    · replace h := ip q h
      refine g_aload_n C dX10_colourOf_16 0 rfl ?_
      refine g_wt (fun hT_μ => ?_)
      refine g_getr (j := 8) C s_a0 (by decide) rfl uwX10 (by decide) rfl lfX10_27 rfl dX10_colourOf_17 ?_
      refine g_sipush (v := 256) C dX10_colourOf_20 (by decide) ?_
      refine g_aload_n C dX10_colourOf_23 0 rfl ?_
      refine g_geti (j := 6) C s_a0 (by decide) rfl uwX10 (by decide) rfl lfX10_66 rfl dX10_colourOf_24 ?_
      refine g_imul C dX10_colourOf_27 ?_
      refine g_iload_n C dX10_colourOf_28 2 rfl ?_
      refine g_iadd C dX10_colourOf_29 ?_
      obtain ⟨hg4, h⟩ := gs h
      refine g_iald C (hT_μ.1 _ _ 8 _ s_a0 rfl) (ib_in hg4) dX10_colourOf_30 ?_
      refine g_goto C 48 dX10_colourOf_31 rfl ?_
      cases h
      exact g_ireturn C rfl dX10_colourOf_48
  · replace h := ip q h
    refine g_iconst (v := -1) C dX10_colourOf_9 (by decide) ?_
    cases h
    exact g_ireturn C rfl dX10_colourOf_10
theorem miX10_colourOf : MI yX10_colourOf cX10_colourOf 3 (some .int) RX10 2 := ⟨wcX10_colourOf, wmX10_colourOf, wsX10_colourOf, wiX10, by decide +kernel⟩
theorem kX10_colourOf {l : Launch} {D : va_G} {cA : Nat → ClassId} {tS : Nat → Nat} {σ : Sg} {a0 : Nat} {v1 : Int32} {v2 : Int32} {μ : Mm} {q : Int32} (s_a0 : σ a0 = some (10, 0)) (h : fX10_colourOf a0 v1 v2 μ = some q) : Ct l D cA tS σ yX10_colourOf cX10_colourOf 3 (some .int) (rmO 3 63) [.ref a0, .int v1, .int v2] μ (QI D cA σ q μ) :=
  Ct.of (by decide) (Nat.le_of_ble_eq_true rfl) (fun _ _ _ _ _ _ _ _ C => wX10_colourOf C _ _ _ _ s_a0 h)
set_option maxRecDepth 100000 in
set_option maxHeartbeats 4000000 in
theorem wX10_index {p : Program} {l : Launch} {e : Env} {s : State} {m : MethodId} {args : Array Value} {below : List Frame} {meth : Method} {c : Code} {D : va_G} {cA : Nat → ClassId} {tS : Nat → Nat} {σ : Sg} {q : Int32} (C : Cx p s m args meth c (dm σ) D cA tS σ cX10_index (some .int) 3 RX10) (a0 : Nat) (v1 : Int32) (v2 : Int32) (μ : Mm) (s_a0 : σ a0 = some (10, 0)) (h : fX10_index a0 v1 v2 μ = some q) : GG p l e (rmO 2 45) s m args below meth c 0 0 (dm σ) D cA σ 3 (MQ below (QI D cA σ q μ) args s 0 0 (dm σ)) 0 [(0, .ref a0), (1, .int v1), (2, .int v2)] [] μ := by
  unfold fX10_index at h
  refine g_aload_n C dX10_index_0 0 rfl ?_
  refine g_iload_n C dX10_index_1 1 rfl ?_
  obtain ⟨x1, e_x1, h⟩ := bs h
  refine g_callVI C (kX10_isFrame s_a0 e_x1) miX10_isFrame lmX10_229 s_a0 (by decide) rfl rfl rfl (Nat.le_of_ble_eq_true rfl) dX10_index_2 ⟨by decide, by decide⟩ ⟨Nat.zero_le _, Nat.zero_le _⟩ ?_
  refine g_if_eq C 38 dX10_index_5 rfl (fun q => ?_) (fun q => ?_)
  · replace h := ip q h
    refine g_iconst (v := -1) C dX10_index_38 (by decide) ?_
    cases h
    exact g_ireturn C rfl dX10_index_39
  · replace h := iq q h
    refine g_iload_n C dX10_index_8 2 rfl ?_
    refine g_if_lt C 38 dX10_index_9 rfl (fun q => ?_) (fun q => ?_)
    · replace h := ip q h
      refine g_iconst (v := -1) C dX10_index_38 (by decide) ?_
      cases h
      exact g_ireturn C rfl dX10_index_39
    · replace h := iq q h
      refine g_iload_n C dX10_index_12 2 rfl ?_
      refine g_aload_n C dX10_index_13 0 rfl ?_
      refine g_aload_n C dX10_index_14 0 rfl ?_
      refine g_geti (j := 6) C s_a0 (by decide) rfl uwX10 (by decide) rfl lfX10_66 rfl dX10_index_15 ?_
      refine g_iload_n C dX10_index_18 1 rfl ?_
      obtain ⟨x2, e_x2, h⟩ := bs h
      refine g_callVI C (kX10_places s_a0 e_x2) miX10_places lmX10_189 s_a0 (by decide) rfl rfl rfl (Nat.le_of_ble_eq_true rfl) dX10_index_19 ⟨by decide, by decide⟩ ⟨Nat.zero_le _, Nat.zero_le _⟩ ?_
      refine g_icmp_ge C 38 dX10_index_22 rfl (fun q => ?_) (fun q => ?_)
      · replace h := ip q h
        refine g_iconst (v := -1) C dX10_index_38 (by decide) ?_
        cases h
        exact g_ireturn C rfl dX10_index_39
      · replace h := iq q h
        refine g_aload_n C dX10_index_25 0 rfl ?_
        refine g_aload_n C dX10_index_26 0 rfl ?_
        refine g_geti (j := 6) C s_a0 (by decide) rfl uwX10 (by decide) rfl lfX10_66 rfl dX10_index_27 ?_
        refine g_iload_n C dX10_index_30 1 rfl ?_
        refine g_iload_n C dX10_index_31 2 rfl ?_
        obtain ⟨x3, e_x3, h⟩ := bs h
        refine g_callVI C (kX10_indexAt s_a0 e_x3) miX10_indexAt lmX10_271 s_a0 (by decide) rfl rfl rfl (Nat.le_of_ble_eq_true rfl) dX10_index_32 ⟨by decide, by decide⟩ ⟨Nat.zero_le _, Nat.zero_le _⟩ ?_
        refine g_goto C 39 dX10_index_35 rfl ?_
        cases h
        exact g_ireturn C rfl dX10_index_39
theorem miX10_index : MI yX10_index cX10_index 3 (some .int) RX10 2 := ⟨wcX10_index, wmX10_index, wsX10_index, wiX10, by decide +kernel⟩
theorem kX10_index {l : Launch} {D : va_G} {cA : Nat → ClassId} {tS : Nat → Nat} {σ : Sg} {a0 : Nat} {v1 : Int32} {v2 : Int32} {μ : Mm} {q : Int32} (s_a0 : σ a0 = some (10, 0)) (h : fX10_index a0 v1 v2 μ = some q) : Ct l D cA tS σ yX10_index cX10_index 3 (some .int) (rmO 2 45) [.ref a0, .int v1, .int v2] μ (QI D cA σ q μ) :=
  Ct.of (by decide) (Nat.le_of_ble_eq_true rfl) (fun _ _ _ _ _ _ _ _ C => wX10_index C _ _ _ _ s_a0 h)
set_option maxRecDepth 100000 in
set_option maxHeartbeats 4000000 in
theorem wX10_covers {p : Program} {l : Launch} {e : Env} {s : State} {m : MethodId} {args : Array Value} {below : List Frame} {meth : Method} {c : Code} {D : va_G} {cA : Nat → ClassId} {tS : Nat → Nat} {σ : Sg} {q : Int32} (C : Cx p s m args meth c (dm σ) D cA tS σ cX10_covers (some .int) 7 RX10) (a0 : Nat) (v1 : Int32) (v2 : Int32) (v3 : Int32) (μ : Mm) (s_a0 : σ a0 = some (10, 0)) (h : fX10_covers a0 v1 v2 v3 μ = some q) : GG p l e (rmO 1 23) s m args below meth c 0 0 (dm σ) D cA σ 7 (MQ below (QI D cA σ q μ) args s 0 0 (dm σ)) 0 [(0, .ref a0), (1, .int v1), (2, .int v2), (3, .int v3)] [] μ := by
  unfold fX10_covers at h
  refine g_iload_n C dX10_covers_0 2 rfl ?_
  refine g_aload_n C dX10_covers_1 0 rfl ?_
  refine g_aload_n C dX10_covers_2 0 rfl ?_
  refine g_geti (j := 6) C s_a0 (by decide) rfl uwX10 (by decide) rfl lfX10_66 rfl dX10_covers_3 ?_
  refine g_iload_n C dX10_covers_6 1 rfl ?_
  refine g_iconst (v := 0) C dX10_covers_7 (by decide) ?_
  obtain ⟨x1, e_x1, h⟩ := bs h
  refine g_callVI C (kX10_field s_a0 e_x1) miX10_field lmX10_73 s_a0 (by decide) rfl rfl rfl (Nat.le_of_ble_eq_true rfl) dX10_covers_8 ⟨by decide, by decide⟩ ⟨Nat.zero_le _, Nat.zero_le _⟩ ?_
  refine g_isub C dX10_covers_11 ?_
  obtain ⟨x2, e_x2, h⟩ := nm h
  refine g_topi e_x2 ?_
  refine g_istore (lv' := [(4, .int x2), (0, .ref a0), (1, .int v1), (2, .int v2), (3, .int v3)]) C dX10_covers_12 (by decide) rfl ?_
  refine g_iload_n C dX10_covers_14 4 rfl ?_
  refine g_aload_n C dX10_covers_15 1 rfl ?_
  refine g_aload_n C dX10_covers_16 1 rfl ?_
  refine g_geti (j := 6) C s_a0 (by decide) rfl uwX10 (by decide) rfl lfX10_66 rfl dX10_covers_17 ?_
  refine g_iload_n C dX10_covers_20 2 rfl ?_
  refine g_iconst (v := 1) C dX10_covers_21 (by decide) ?_
  obtain ⟨x3, e_x3, h⟩ := bs h
  refine g_callVI C (kX10_field s_a0 e_x3) miX10_field lmX10_73 s_a0 (by decide) rfl rfl rfl (Nat.le_of_ble_eq_true rfl) dX10_covers_22 ⟨by decide, by decide⟩ ⟨Nat.zero_le _, Nat.zero_le _⟩ ?_
  refine g_isub C dX10_covers_25 ?_
  obtain ⟨x4, e_x4, h⟩ := nm h
  refine g_topi e_x4 ?_
  refine g_istore (lv' := [(5, .int x4), (4, .int x2), (0, .ref a0), (1, .int v1), (2, .int v2), (3, .int v3)]) C dX10_covers_26 (by decide) rfl ?_
  refine g_aload_n C dX10_covers_28 2 rfl ?_
  refine g_aload_n C dX10_covers_29 2 rfl ?_
  refine g_geti (j := 6) C s_a0 (by decide) rfl uwX10 (by decide) rfl lfX10_66 rfl dX10_covers_30 ?_
  refine g_iload_n C dX10_covers_33 3 rfl ?_
  refine g_iconst (v := 2) C dX10_covers_34 (by decide) ?_
  obtain ⟨x5, e_x5, h⟩ := bs h
  refine g_callVI C (kX10_field s_a0 e_x5) miX10_field lmX10_73 s_a0 (by decide) rfl rfl rfl (Nat.le_of_ble_eq_true rfl) dX10_covers_35 ⟨by decide, by decide⟩ ⟨Nat.zero_le _, Nat.zero_le _⟩ ?_
  refine g_istore (lv' := [(6, .int x5), (5, .int x4), (4, .int x2), (0, .ref a0), (1, .int v1), (2, .int v2), (3, .int v3)]) C dX10_covers_38 (by decide) rfl ?_
  refine g_iload C dX10_covers_40 2 rfl ?_
  refine g_if_lt C 72 dX10_covers_42 rfl (fun q => ?_) (fun q => ?_)
  · replace h := ip q h
    refine g_iconst (v := -1) C dX10_covers_72 (by decide) ?_
    cases h
    exact g_ireturn C rfl dX10_covers_73
  · replace h := iq q h
    refine g_iload C dX10_covers_45 1 rfl ?_
    refine g_if_lt C 72 dX10_covers_47 rfl (fun q => ?_) (fun q => ?_)
    · replace h := ip q h
      refine g_iconst (v := -1) C dX10_covers_72 (by decide) ?_
      cases h
      exact g_ireturn C rfl dX10_covers_73
    · replace h := iq q h
      refine g_iload C dX10_covers_50 2 rfl ?_
      refine g_iload C dX10_covers_52 0 rfl ?_
      refine g_icmp_ge C 72 dX10_covers_54 rfl (fun q => ?_) (fun q => ?_)
      · replace h := ip q h
        refine g_iconst (v := -1) C dX10_covers_72 (by decide) ?_
        cases h
        exact g_ireturn C rfl dX10_covers_73
      · replace h := iq q h
        refine g_iload C dX10_covers_57 1 rfl ?_
        refine g_aload_n C dX10_covers_59 3 rfl ?_
        refine g_aload_n C dX10_covers_60 3 rfl ?_
        refine g_geti (j := 6) C s_a0 (by decide) rfl uwX10 (by decide) rfl lfX10_66 rfl dX10_covers_61 ?_
        refine g_iload_n C dX10_covers_64 4 rfl ?_
        refine g_iconst (v := 3) C dX10_covers_65 (by decide) ?_
        obtain ⟨x6, e_x6, h⟩ := bs h
        refine g_callVI C (kX10_field s_a0 e_x6) miX10_field lmX10_73 s_a0 (by decide) rfl rfl rfl (Nat.le_of_ble_eq_true rfl) dX10_covers_66 ⟨by decide, by decide⟩ ⟨Nat.zero_le _, Nat.zero_le _⟩ ?_
        refine g_icmp_lt C 74 dX10_covers_69 rfl (fun q => ?_) (fun q => ?_)
        · replace h := ip q h
          refine g_aload_n C dX10_covers_74 3 rfl ?_
          refine g_aload_n C dX10_covers_75 3 rfl ?_
          refine g_geti (j := 6) C s_a0 (by decide) rfl uwX10 (by decide) rfl lfX10_66 rfl dX10_covers_76 ?_
          refine g_iload_n C dX10_covers_79 4 rfl ?_
          refine g_iload C dX10_covers_80 0 rfl ?_
          refine g_iload C dX10_covers_82 1 rfl ?_
          refine g_imul C dX10_covers_84 ?_
          refine g_iload C dX10_covers_85 2 rfl ?_
          refine g_iadd C dX10_covers_87 ?_
          obtain ⟨x7, e_x7, h⟩ := bs h
          refine g_callVI C (kX10_indexAt s_a0 e_x7) miX10_indexAt lmX10_271 s_a0 (by decide) rfl rfl rfl (Nat.le_of_ble_eq_true rfl) dX10_covers_88 ⟨by decide, by decide⟩ ⟨Nat.zero_le _, Nat.zero_le _⟩ ?_
          cases h
          exact g_ireturn C rfl dX10_covers_91
        · replace h := iq q h
          refine g_iconst (v := -1) C dX10_covers_72 (by decide) ?_
          cases h
          exact g_ireturn C rfl dX10_covers_73
theorem miX10_covers : MI yX10_covers cX10_covers 7 (some .int) RX10 3 := ⟨wcX10_covers, wmX10_covers, wsX10_covers, wiX10, by decide +kernel⟩
theorem kX10_covers {l : Launch} {D : va_G} {cA : Nat → ClassId} {tS : Nat → Nat} {σ : Sg} {a0 : Nat} {v1 : Int32} {v2 : Int32} {v3 : Int32} {μ : Mm} {q : Int32} (s_a0 : σ a0 = some (10, 0)) (h : fX10_covers a0 v1 v2 v3 μ = some q) : Ct l D cA tS σ yX10_covers cX10_covers 7 (some .int) (rmO 1 23) [.ref a0, .int v1, .int v2, .int v3] μ (QI D cA σ q μ) :=
  Ct.of (by decide) (Nat.le_of_ble_eq_true rfl) (fun _ _ _ _ _ _ _ _ C => wX10_covers C _ _ _ _ _ s_a0 h)
set_option maxRecDepth 100000 in
set_option maxHeartbeats 4000000 in
theorem wX10_canvas_L258 {p : Program} {l : Launch} {e : Env} {s : State} {m : MethodId} {args : Array Value} {below : List Frame} {meth : Method} {c : Code} {D : va_G} {cA : Nat → ClassId} {tS : Nat → Nat} {σ : Sg} {rec133 : Nat → Int32 → Int32 → Int32 → Int32 → Int32 → Int32 → Int32 → Mm → Option (Int32)} {fu : Nat} {q : Int32} (C : Cx p s m args meth c (dm σ) D cA tS σ cX10_canvas (some .int) 10 RX10) (hrec133 : ∀ (y0 : Nat) (y1 : Int32) (y2 : Int32) (y3 : Int32) (y4 : Int32) (y5 : Int32) (y6 : Int32) (y7 : Int32) (μ : Mm), σ y0 = some (10, 0) → rec133 y0 y1 y2 y3 y4 y5 y6 y7 μ = some q → GG p l e (rmO 2 49) s m args below meth c 0 0 (dm σ) D cA σ 10 (MQ below (QI D cA σ q μ) args s 0 0 (dm σ)) 133 [(0, .ref y0), (1, .int y1), (2, .int y2), (3, .int y3), (4, .int y4), (5, .int y5), (6, .int y6), (7, .int y7)] [] μ) (a0 : Nat) (v1 : Int32) (v2 : Int32) (v3 : Int32) (v4 : Int32) (v5 : Int32) (v6 : Int32) (v7 : Int32) (v9 : Int32) (μ : Mm) (s_a0 : σ a0 = some (10, 0)) (h : fX10_canvas_L258 rec133 fu a0 v1 v2 v3 v4 v5 v6 v7 v9 μ = some q) : GG p l e (rmO 2 49) s m args below meth c 0 0 (dm σ) D cA σ 10 (MQ below (QI D cA σ q μ) args s 0 0 (dm σ)) 258 [(0, .ref a0), (1, .int v1), (2, .int v2), (3, .int v3), (4, .int v4), (5, .int v5), (6, .int v6), (7, .int v7), (9, .int v9)] [] μ := by
  unfold fX10_canvas_L258 at h
  refine g_iload C dX10_canvas_258 8 rfl ?_
  refine g_iconst (v := 3) C dX10_canvas_260 (by decide) ?_
  refine g_icmp_eq C 268 dX10_canvas_261 rfl (fun q => ?_) (fun q => ?_)
  · replace h := ip q h
    obtain ⟨x1, e_x1, h⟩ := nm h
    refine g_iinc (v := x1) (lv' := [(7, .int x1), (0, .ref a0), (1, .int v1), (2, .int v2), (3, .int v3), (4, .int v4), (5, .int v5), (6, .int v6), (9, .int v9)]) C dX10_canvas_268 (by decide) 7 rfl 1 (by decide) e_x1.symm rfl ?_
    refine g_goto C 133 dX10_canvas_271 rfl ?_
    exact g_lv [1, 2, 3, 4, 5, 6, 7, 0] rfl (hrec133 _ _ _ _ _ _ _ _ _ s_a0 h)
  · replace h := iq q h
    refine g_iload C dX10_canvas_264 6 rfl ?_
    refine g_istore (lv' := [(5, .int v6), (0, .ref a0), (1, .int v1), (2, .int v2), (3, .int v3), (4, .int v4), (6, .int v6), (7, .int v7), (9, .int v9)]) C dX10_canvas_266 (by decide) rfl ?_
    obtain ⟨x2, e_x2, h⟩ := nm h
    refine g_iinc (v := x2) (lv' := [(7, .int x2), (5, .int v6), (0, .ref a0), (1, .int v1), (2, .int v2), (3, .int v3), (4, .int v4), (6, .int v6), (9, .int v9)]) C dX10_canvas_268 (by decide) 7 rfl 1 (by decide) e_x2.symm rfl ?_
    refine g_goto C 133 dX10_canvas_271 rfl ?_
    exact g_lv [2, 3, 4, 5, 6, 1, 7, 0] rfl (hrec133 _ _ _ _ _ _ _ _ _ s_a0 h)
set_option maxRecDepth 100000 in
set_option maxHeartbeats 4000000 in
theorem wX10_canvas_L226 {p : Program} {l : Launch} {e : Env} {s : State} {m : MethodId} {args : Array Value} {below : List Frame} {meth : Method} {c : Code} {D : va_G} {cA : Nat → ClassId} {tS : Nat → Nat} {σ : Sg} {rec133 : Nat → Int32 → Int32 → Int32 → Int32 → Int32 → Int32 → Int32 → Mm → Option (Int32)} {fu : Nat} {q : Int32} (C : Cx p s m args meth c (dm σ) D cA tS σ cX10_canvas (some .int) 10 RX10) (hrec133 : ∀ (y0 : Nat) (y1 : Int32) (y2 : Int32) (y3 : Int32) (y4 : Int32) (y5 : Int32) (y6 : Int32) (y7 : Int32) (μ : Mm), σ y0 = some (10, 0) → rec133 y0 y1 y2 y3 y4 y5 y6 y7 μ = some q → GG p l e (rmO 2 49) s m args below meth c 0 0 (dm σ) D cA σ 10 (MQ below (QI D cA σ q μ) args s 0 0 (dm σ)) 133 [(0, .ref y0), (1, .int y1), (2, .int y2), (3, .int y3), (4, .int y4), (5, .int y5), (6, .int y6), (7, .int y7)] [] μ) (a0 : Nat) (v1 : Int32) (v2 : Int32) (v3 : Int32) (v4 : Int32) (v5 : Int32) (v6 : Int32) (v7 : Int32) (v8 : Int32) (μ : Mm) (s_a0 : σ a0 = some (10, 0)) (h : fX10_canvas_L226 rec133 fu a0 v1 v2 v3 v4 v5 v6 v7 v8 μ = some q) : GG p l e (rmO 2 49) s m args below meth c 0 0 (dm σ) D cA σ 10 (MQ below (QI D cA σ q μ) args s 0 0 (dm σ)) 226 [(0, .ref a0), (1, .int v1), (2, .int v2), (3, .int v3), (4, .int v4), (5, .int v5), (6, .int v6), (7, .int v7), (8, .int v8)] [] μ := by
  unfold fX10_canvas_L226 at h
  refine g_aload_n C dX10_canvas_226 0 rfl ?_
  refine g_aload_n C dX10_canvas_227 0 rfl ?_
  refine g_geti (j := 6) C s_a0 (by decide) rfl uwX10 (by decide) rfl lfX10_66 rfl dX10_canvas_228 ?_
  refine g_iload C dX10_canvas_231 7 rfl ?_
  refine g_bipush (v := 6) C dX10_canvas_233 (by decide) ?_
  obtain ⟨x1, e_x1, h⟩ := bs h
  refine g_callVI C (kX10_field s_a0 e_x1) miX10_field lmX10_73 s_a0 (by decide) rfl rfl rfl (Nat.le_of_ble_eq_true rfl) dX10_canvas_235 ⟨by decide, by decide⟩ ⟨Nat.zero_le _, Nat.zero_le _⟩ ?_
  refine g_istore (lv' := [(9, .int x1), (0, .ref a0), (1, .int v1), (2, .int v2), (3, .int v3), (4, .int v4), (5, .int v5), (6, .int v6), (7, .int v7), (8, .int v8)]) C dX10_canvas_238 (by decide) rfl ?_
  refine g_iload C dX10_canvas_240 0 rfl ?_
  refine g_iconst (v := 2) C dX10_canvas_242 (by decide) ?_
  refine g_icmp_ne C 258 dX10_canvas_243 rfl (fun q => ?_) (fun q => ?_)
  · replace h := iq q h
    exact g_lv [1, 2, 3, 4, 5, 6, 7, 8, 0] rfl (wX10_canvas_L258 C hrec133 _ _ _ _ _ _ _ _ _ _ s_a0 h)
  · replace h := ip q h
    refine g_iload C dX10_canvas_246 9 rfl ?_
    refine g_if_lt C 258 dX10_canvas_248 rfl (fun q => ?_) (fun q => ?_)
    · replace h := ip q h
      exact g_lv [1, 2, 3, 4, 5, 6, 7, 8, 0] rfl (wX10_canvas_L258 C hrec133 _ _ _ _ _ _ _ _ _ _ s_a0 h)
    · replace h := iq q h
      refine g_iload C dX10_canvas_251 5 rfl ?_
      refine g_istore (lv' := [(5, .int v4), (9, .int x1), (0, .ref a0), (1, .int v1), (2, .int v2), (3, .int v3), (4, .int v4), (6, .int v6), (7, .int v7), (8, .int v8)]) C dX10_canvas_253 (by decide) rfl ?_
      refine g_goto C 268 dX10_canvas_255 rfl ?_
      obtain ⟨x2, e_x2, h⟩ := nm h
      refine g_iinc (v := x2) (lv' := [(7, .int x2), (5, .int v4), (9, .int x1), (0, .ref a0), (1, .int v1), (2, .int v2), (3, .int v3), (4, .int v4), (6, .int v6), (8, .int v8)]) C dX10_canvas_268 (by decide) 8 rfl 1 (by decide) e_x2.symm rfl ?_
      refine g_goto C 133 dX10_canvas_271 rfl ?_
      exact g_lv [3, 4, 5, 6, 7, 1, 8, 0] rfl (hrec133 _ _ _ _ _ _ _ _ _ s_a0 h)
set_option maxRecDepth 100000 in
set_option maxHeartbeats 4000000 in
theorem wX10_canvas_L224 {p : Program} {l : Launch} {e : Env} {s : State} {m : MethodId} {args : Array Value} {below : List Frame} {meth : Method} {c : Code} {D : va_G} {cA : Nat → ClassId} {tS : Nat → Nat} {σ : Sg} {rec133 : Nat → Int32 → Int32 → Int32 → Int32 → Int32 → Int32 → Int32 → Mm → Option (Int32)} {fu : Nat} {q : Int32} (C : Cx p s m args meth c (dm σ) D cA tS σ cX10_canvas (some .int) 10 RX10) (hrec133 : ∀ (y0 : Nat) (y1 : Int32) (y2 : Int32) (y3 : Int32) (y4 : Int32) (y5 : Int32) (y6 : Int32) (y7 : Int32) (μ : Mm), σ y0 = some (10, 0) → rec133 y0 y1 y2 y3 y4 y5 y6 y7 μ = some q → GG p l e (rmO 2 49) s m args below meth c 0 0 (dm σ) D cA σ 10 (MQ below (QI D cA σ q μ) args s 0 0 (dm σ)) 133 [(0, .ref y0), (1, .int y1), (2, .int y2), (3, .int y3), (4, .int y4), (5, .int y5), (6, .int y6), (7, .int y7)] [] μ) (a0 : Nat) (v1 : Int32) (v2 : Int32) (v3 : Int32) (v4 : Int32) (v5 : Int32) (v7 : Int32) (v8 : Int32) (t0 : Int32) (μ : Mm) (s_a0 : σ a0 = some (10, 0)) (h : fX10_canvas_L224 rec133 fu a0 v1 v2 v3 v4 v5 v7 v8 t0 μ = some q) : GG p l e (rmO 2 49) s m args below meth c 0 0 (dm σ) D cA σ 10 (MQ below (QI D cA σ q μ) args s 0 0 (dm σ)) 224 [(0, .ref a0), (1, .int v1), (2, .int v2), (3, .int v3), (4, .int v4), (5, .int v5), (7, .int v7), (8, .int v8)] [.int t0] μ := by
  unfold fX10_canvas_L224 at h
  refine g_istore (lv' := [(6, .int t0), (0, .ref a0), (1, .int v1), (2, .int v2), (3, .int v3), (4, .int v4), (5, .int v5), (7, .int v7), (8, .int v8)]) C dX10_canvas_224 (by decide) rfl ?_
  exact g_lv [1, 2, 3, 4, 5, 6, 0, 7, 8] rfl (wX10_canvas_L226 C hrec133 _ _ _ _ _ _ _ _ _ _ s_a0 h)
set_option maxRecDepth 100000 in
set_option maxHeartbeats 4000000 in
theorem wX10_canvas_B133 {p : Program} {l : Launch} {e : Env} {s : State} {m : MethodId} {args : Array Value} {below : List Frame} {meth : Method} {c : Code} {D : va_G} {cA : Nat → ClassId} {tS : Nat → Nat} {σ : Sg} {rec133 : Nat → Int32 → Int32 → Int32 → Int32 → Int32 → Int32 → Int32 → Mm → Option (Int32)} {fu : Nat} {q : Int32} (C : Cx p s m args meth c (dm σ) D cA tS σ cX10_canvas (some .int) 10 RX10) (hrec133 : ∀ (y0 : Nat) (y1 : Int32) (y2 : Int32) (y3 : Int32) (y4 : Int32) (y5 : Int32) (y6 : Int32) (y7 : Int32) (μ : Mm), σ y0 = some (10, 0) → rec133 y0 y1 y2 y3 y4 y5 y6 y7 μ = some q → GG p l e (rmO 2 49) s m args below meth c 0 0 (dm σ) D cA σ 10 (MQ below (QI D cA σ q μ) args s 0 0 (dm σ)) 133 [(0, .ref y0), (1, .int y1), (2, .int y2), (3, .int y3), (4, .int y4), (5, .int y5), (6, .int y6), (7, .int y7)] [] μ) (a0 : Nat) (v1 : Int32) (v2 : Int32) (v3 : Int32) (v4 : Int32) (v5 : Int32) (v6 : Int32) (v7 : Int32) (μ : Mm) (s_a0 : σ a0 = some (10, 0)) (h : fX10_canvas_B133 rec133 fu a0 v1 v2 v3 v4 v5 v6 v7 μ = some q) : GG p l e (rmO 2 49) s m args below meth c 0 0 (dm σ) D cA σ 10 (MQ below (QI D cA σ q μ) args s 0 0 (dm σ)) 133 [(0, .ref a0), (1, .int v1), (2, .int v2), (3, .int v3), (4, .int v4), (5, .int v5), (6, .int v6), (7, .int v7)] [] μ := by
  unfold fX10_canvas_B133 at h
  refine g_iload C dX10_canvas_133 7 rfl ?_
  refine g_iload_n C dX10_canvas_135 1 rfl ?_
  refine g_icmp_gt C 274 dX10_canvas_136 rfl (fun q => ?_) (fun q => ?_)
  · replace h := ip q h
    refine g_iload C dX10_canvas_274 6 rfl ?_
    cases h
    exact g_ireturn C rfl dX10_canvas_276
  · replace h := iq q h
    refine g_aload_n C dX10_canvas_139 0 rfl ?_
    refine g_iload C dX10_canvas_140 7 rfl ?_
    refine g_iload_n C dX10_canvas_142 2 rfl ?_
    refine g_iload_n C dX10_canvas_143 3 rfl ?_
    obtain ⟨x1, e_x1, h⟩ := bs h
    refine g_callVI C (kX10_covers s_a0 e_x1) miX10_covers lmX10_287 s_a0 (by decide) rfl rfl rfl (Nat.le_of_ble_eq_true rfl) dX10_canvas_144 ⟨by decide, by decide⟩ ⟨Nat.zero_le _, Nat.zero_le _⟩ ?_
    refine g_istore (lv' := [(8, .int x1), (0, .ref a0), (1, .int v1), (2, .int v2), (3, .int v3), (4, .int v4), (5, .int v5), (6, .int v6), (7, .int v7)]) C dX10_canvas_147 (by decide) rfl ?_
    refine g_iload C dX10_canvas_149 6 rfl ?_
    refine g_istore (lv' := [(6, .int v5), (8, .int x1), (0, .ref a0), (1, .int v1), (2, .int v2), (3, .int v3), (4, .int v4), (5, .int v5), (7, .int v7)]) C dX10_canvas_151 (by decide) rfl ?_
    refine g_iload C dX10_canvas_153 1 rfl ?_
    refine g_if_lt C 226 dX10_canvas_155 rfl (fun q => ?_) (fun q => ?_)
    · replace h := ip q h
      exact g_lv [2, 3, 4, 5, 6, 7, 0, 8, 1] rfl (wX10_canvas_L226 C hrec133 _ _ _ _ _ _ _ _ _ _ s_a0 h)
    · replace h := iq q h
      refine g_iload C dX10_canvas_158 1 rfl ?_
      refine g_aload_n C dX10_canvas_160 2 rfl ?_
      refine g_aload_n C dX10_canvas_161 2 rfl ?_
      refine g_geti (j := 6) C s_a0 (by decide) rfl uwX10 (by decide) rfl lfX10_66 rfl dX10_canvas_162 ?_
      refine g_iload C dX10_canvas_165 8 rfl ?_
      refine g_bipush (v := 7) C dX10_canvas_167 (by decide) ?_
      obtain ⟨x2, e_x2, h⟩ := bs h
      refine g_callVI C (kX10_field s_a0 e_x2) miX10_field lmX10_73 s_a0 (by decide) rfl rfl rfl (Nat.le_of_ble_eq_true rfl) dX10_canvas_169 ⟨by decide, by decide⟩ ⟨Nat.zero_le _, Nat.zero_le _⟩ ?_
      refine g_icmp_eq C 226 dX10_canvas_172 rfl (fun q => ?_) (fun q => ?_)
      · replace h := ip q h
        exact g_lv [2, 3, 4, 5, 6, 7, 0, 8, 1] rfl (wX10_canvas_L226 C hrec133 _ _ _ _ _ _ _ _ _ _ s_a0 h)
      · replace h := iq q h
        refine g_aload_n C dX10_canvas_175 2 rfl ?_
        refine g_aload_n C dX10_canvas_176 2 rfl ?_
        refine g_geti (j := 6) C s_a0 (by decide) rfl uwX10 (by decide) rfl lfX10_66 rfl dX10_canvas_177 ?_
        refine g_iload C dX10_canvas_180 8 rfl ?_
        refine g_iconst (v := 4) C dX10_canvas_182 (by decide) ?_
        obtain ⟨x3, e_x3, h⟩ := bs h
        refine g_callVI C (kX10_field s_a0 e_x3) miX10_field lmX10_73 s_a0 (by decide) rfl rfl rfl (Nat.le_of_ble_eq_true rfl) dX10_canvas_183 ⟨by decide, by decide⟩ ⟨Nat.zero_le _, Nat.zero_le _⟩ ?_
        refine g_if_le C 208 dX10_canvas_186 rfl (fun q => ?_) (fun q => ?_)
        · replace h := ip q h
          refine g_aload_n C dX10_canvas_208 2 rfl ?_
          refine g_wt (fun hT_μ => ?_)
          refine g_getr (j := 8) C s_a0 (by decide) rfl uwX10 (by decide) rfl lfX10_27 rfl dX10_canvas_209 ?_
          refine g_sipush (v := 256) C dX10_canvas_212 (by decide) ?_
          refine g_aload_n C dX10_canvas_215 2 rfl ?_
          refine g_geti (j := 6) C s_a0 (by decide) rfl uwX10 (by decide) rfl lfX10_66 rfl dX10_canvas_216 ?_
          refine g_imul C dX10_canvas_219 ?_
          refine g_iload C dX10_canvas_220 1 rfl ?_
          refine g_iadd C dX10_canvas_222 ?_
          obtain ⟨hg4, h⟩ := gs h
          refine g_iald C (hT_μ.1 _ _ 8 _ s_a0 rfl) (ib_in hg4) dX10_canvas_223 ?_
          exact g_lv [2, 3, 4, 5, 6, 7, 8, 1] rfl (wX10_canvas_L224 C hrec133 _ _ _ _ _ _ _ _ _ _ s_a0 h)
        · replace h := iq q h
          refine g_aload_n C dX10_canvas_189 2 rfl ?_
          refine g_wt (fun hT_μ => ?_)
          refine g_getr (j := 10) C s_a0 (by decide) rfl uwX10 (by decide) rfl lfX10_33 rfl dX10_canvas_190 ?_
          refine g_aload_n C dX10_canvas_193 2 rfl ?_
          refine g_geti (j := 6) C s_a0 (by decide) rfl uwX10 (by decide) rfl lfX10_66 rfl dX10_canvas_194 ?_
          refine g_iload C dX10_canvas_197 8 rfl ?_
          refine g_iload C dX10_canvas_199 1 rfl ?_
          obtain ⟨x5, e_x5, h⟩ := nm h
          refine g_callSI C (kX10_localAt e_x5.symm) msX10_localAt lmX10_160 rfl rfl (Nat.le_of_ble_eq_true rfl) dX10_canvas_201 ⟨by decide, by decide⟩ ⟨Nat.zero_le _, Nat.zero_le _⟩ ?_
          obtain ⟨hg6, h⟩ := gs h
          refine g_iald C (hT_μ.1 _ _ 10 _ s_a0 rfl) (ib_in hg6) dX10_canvas_204 ?_
          refine g_goto C 224 dX10_canvas_205 rfl ?_
          exact g_lv [2, 3, 4, 5, 6, 7, 8, 1] rfl (wX10_canvas_L224 C hrec133 _ _ _ _ _ _ _ _ _ _ s_a0 h)
theorem wX10_canvas_L133 {p : Program} {l : Launch} {e : Env} {s : State} {m : MethodId} {args : Array Value} {below : List Frame} {meth : Method} {c : Code} {D : va_G} {cA : Nat → ClassId} {tS : Nat → Nat} {σ : Sg} {fu : Nat} {q : Int32} (C : Cx p s m args meth c (dm σ) D cA tS σ cX10_canvas (some .int) 10 RX10) : ∀ (n : Nat) (a0 : Nat) (v1 : Int32) (v2 : Int32) (v3 : Int32) (v4 : Int32) (v5 : Int32) (v6 : Int32) (v7 : Int32) (μ : Mm), (σ a0 = some (10, 0)) → fX10_canvas_L133 fu n a0 v1 v2 v3 v4 v5 v6 v7 μ = some q → GG p l e (rmO 2 49) s m args below meth c 0 0 (dm σ) D cA σ 10 (MQ below (QI D cA σ q μ) args s 0 0 (dm σ)) 133 [(0, .ref a0), (1, .int v1), (2, .int v2), (3, .int v3), (4, .int v4), (5, .int v5), (6, .int v6), (7, .int v7)] [] μ := by
  intro n
  induction n with
  | zero => intro a0 v1 v2 v3 v4 v5 v6 v7 μ s_a0 h; cases h
  | succ n ih => intro a0 v1 v2 v3 v4 v5 v6 v7 μ s_a0 h; exact wX10_canvas_B133 C (fun _ _ _ _ _ _ _ _ _ k0 h => ih _ _ _ _ _ _ _ _ _ k0 h) _ _ _ _ _ _ _ _ _ s_a0 h
set_option maxRecDepth 100000 in
set_option maxHeartbeats 4000000 in
theorem wX10_canvas_L120 {p : Program} {l : Launch} {e : Env} {s : State} {m : MethodId} {args : Array Value} {below : List Frame} {meth : Method} {c : Code} {D : va_G} {cA : Nat → ClassId} {tS : Nat → Nat} {σ : Sg} {fu : Nat} {q : Int32} (C : Cx p s m args meth c (dm σ) D cA tS σ cX10_canvas (some .int) 10 RX10) (a0 : Nat) (v1 : Int32) (v2 : Int32) (v3 : Int32) (t0 : Int32) (μ : Mm) (s_a0 : σ a0 = some (10, 0)) (h : fX10_canvas_L120 fu a0 v1 v2 v3 t0 μ = some q) : GG p l e (rmO 2 49) s m args below meth c 0 0 (dm σ) D cA σ 10 (MQ below (QI D cA σ q μ) args s 0 0 (dm σ)) 120 [(0, .ref a0), (1, .int v1), (2, .int v2), (3, .int v3)] [.int t0] μ := by
  unfold fX10_canvas_L120 at h
  refine g_istore (lv' := [(4, .int t0), (0, .ref a0), (1, .int v1), (2, .int v2), (3, .int v3)]) C dX10_canvas_120 (by decide) rfl ?_
  refine g_iload C dX10_canvas_122 0 rfl ?_
  refine g_istore (lv' := [(5, .int t0), (4, .int t0), (0, .ref a0), (1, .int v1), (2, .int v2), (3, .int v3)]) C dX10_canvas_124 (by decide) rfl ?_
  refine g_iload C dX10_canvas_126 1 rfl ?_
  refine g_istore (lv' := [(6, .int t0), (5, .int t0), (4, .int t0), (0, .ref a0), (1, .int v1), (2, .int v2), (3, .int v3)]) C dX10_canvas_128 (by decide) rfl ?_
  refine g_iconst (v := 0) C dX10_canvas_130 (by decide) ?_
  refine g_istore (lv' := [(7, .int 0), (6, .int t0), (5, .int t0), (4, .int t0), (0, .ref a0), (1, .int v1), (2, .int v2), (3, .int v3)]) C dX10_canvas_131 (by decide) rfl ?_
  exact g_lv [4, 5, 6, 7, 3, 2, 1, 0] rfl (wX10_canvas_L133 C fu _ _ _ _ _ _ _ _ _ s_a0 h)
set_option maxRecDepth 100000 in
set_option maxHeartbeats 4000000 in
theorem wX10_canvas {p : Program} {l : Launch} {e : Env} {s : State} {m : MethodId} {args : Array Value} {below : List Frame} {meth : Method} {c : Code} {D : va_G} {cA : Nat → ClassId} {tS : Nat → Nat} {σ : Sg} {fu : Nat} {q : Int32} (C : Cx p s m args meth c (dm σ) D cA tS σ cX10_canvas (some .int) 10 RX10) (a0 : Nat) (v1 : Int32) (v2 : Int32) (v3 : Int32) (μ : Mm) (s_a0 : σ a0 = some (10, 0)) (h : fX10_canvas fu a0 v1 v2 v3 μ = some q) : GG p l e (rmO 2 49) s m args below meth c 0 0 (dm σ) D cA σ 10 (MQ below (QI D cA σ q μ) args s 0 0 (dm σ)) 0 [(0, .ref a0), (1, .int v1), (2, .int v2), (3, .int v3)] [] μ := by
  unfold fX10_canvas at h
  refine g_aload_n C dX10_canvas_0 0 rfl ?_
  refine g_iload_n C dX10_canvas_1 1 rfl ?_
  obtain ⟨x1, e_x1, h⟩ := bs h
  refine g_callVI C (kX10_isFrame s_a0 e_x1) miX10_isFrame lmX10_229 s_a0 (by decide) rfl rfl rfl (Nat.le_of_ble_eq_true rfl) dX10_canvas_2 ⟨by decide, by decide⟩ ⟨Nat.zero_le _, Nat.zero_le _⟩ ?_
  refine g_if_eq C 54 dX10_canvas_5 rfl (fun q => ?_) (fun q => ?_)
  · replace h := ip q h
    refine g_bipush (v := -2) C dX10_canvas_54 (by decide) ?_
    cases h
    exact g_ireturn C rfl dX10_canvas_56
  · replace h := iq q h
    refine g_iload_n C dX10_canvas_8 2 rfl ?_
    refine g_iconst (v := 0) C dX10_canvas_9 (by decide) ?_
    refine g_aload_n C dX10_canvas_10 0 rfl ?_
    refine g_wt (fun hT_μ => ?_)
    refine g_getr (j := 7) C s_a0 (by decide) rfl uwX10 (by decide) rfl lfX10_23 rfl dX10_canvas_11 ?_
    refine g_bipush (v := 6) C dX10_canvas_14 (by decide) ?_
    refine g_aload_n C dX10_canvas_16 0 rfl ?_
    refine g_geti (j := 6) C s_a0 (by decide) rfl uwX10 (by decide) rfl lfX10_66 rfl dX10_canvas_17 ?_
    refine g_imul C dX10_canvas_20 ?_
    obtain ⟨hg2, h⟩ := gs h
    refine g_iald C (hT_μ.1 _ _ 7 _ s_a0 rfl) (ib_in hg2) dX10_canvas_21 ?_
    refine g_iconst (v := 1) C dX10_canvas_22 (by decide) ?_
    refine g_isub C dX10_canvas_23 ?_
    obtain ⟨x3, e_x3, h⟩ := nm h
    refine g_callSI C (kX10_isWithin e_x3.symm) msX10_isWithin lmX10_221 rfl rfl (Nat.le_of_ble_eq_true rfl) dX10_canvas_24 ⟨by decide, by decide⟩ ⟨Nat.zero_le _, Nat.zero_le _⟩ ?_
    refine g_if_eq C 54 dX10_canvas_27 rfl (fun q => ?_) (fun q => ?_)
    · replace h := ip q h
      refine g_bipush (v := -2) C dX10_canvas_54 (by decide) ?_
      cases h
      exact g_ireturn C rfl dX10_canvas_56
    · replace h := iq q h
      refine g_iload_n C dX10_canvas_30 3 rfl ?_
      refine g_iconst (v := 0) C dX10_canvas_31 (by decide) ?_
      refine g_aload_n C dX10_canvas_32 0 rfl ?_
      refine g_getr (j := 7) C s_a0 (by decide) rfl uwX10 (by decide) rfl lfX10_23 rfl dX10_canvas_33 ?_
      refine g_bipush (v := 6) C dX10_canvas_36 (by decide) ?_
      refine g_aload_n C dX10_canvas_38 0 rfl ?_
      refine g_geti (j := 6) C s_a0 (by decide) rfl uwX10 (by decide) rfl lfX10_66 rfl dX10_canvas_39 ?_
      refine g_imul C dX10_canvas_42 ?_
      refine g_iconst (v := 1) C dX10_canvas_43 (by decide) ?_
      refine g_iadd C dX10_canvas_44 ?_
      obtain ⟨hg4, h⟩ := gs h
      refine g_iald C (hT_μ.1 _ _ 7 _ s_a0 rfl) (ib_in hg4) dX10_canvas_45 ?_
      refine g_iconst (v := 1) C dX10_canvas_46 (by decide) ?_
      refine g_isub C dX10_canvas_47 ?_
      obtain ⟨x5, e_x5, h⟩ := nm h
      refine g_callSI C (kX10_isWithin e_x5.symm) msX10_isWithin lmX10_221 rfl rfl (Nat.le_of_ble_eq_true rfl) dX10_canvas_48 ⟨by decide, by decide⟩ ⟨Nat.zero_le _, Nat.zero_le _⟩ ?_
      refine g_if_ne C 57 dX10_canvas_51 rfl (fun q => ?_) (fun q => ?_)
      · replace h := iq q h
        refine g_aload_n C dX10_canvas_57 0 rfl ?_
        refine g_getr (j := 7) C s_a0 (by decide) rfl uwX10 (by decide) rfl lfX10_23 rfl dX10_canvas_58 ?_
        refine g_bipush (v := 6) C dX10_canvas_61 (by decide) ?_
        refine g_aload_n C dX10_canvas_63 0 rfl ?_
        refine g_geti (j := 6) C s_a0 (by decide) rfl uwX10 (by decide) rfl lfX10_66 rfl dX10_canvas_64 ?_
        refine g_imul C dX10_canvas_67 ?_
        refine g_iconst (v := 3) C dX10_canvas_68 (by decide) ?_
        refine g_iadd C dX10_canvas_69 ?_
        obtain ⟨hg6, h⟩ := gs h
        refine g_iald C (hT_μ.1 _ _ 7 _ s_a0 rfl) (ib_in hg6) dX10_canvas_70 ?_
        refine g_aload_n C dX10_canvas_71 0 rfl ?_
        refine g_getr (j := 7) C s_a0 (by decide) rfl uwX10 (by decide) rfl lfX10_23 rfl dX10_canvas_72 ?_
        refine g_bipush (v := 6) C dX10_canvas_75 (by decide) ?_
        refine g_aload_n C dX10_canvas_77 0 rfl ?_
        refine g_geti (j := 6) C s_a0 (by decide) rfl uwX10 (by decide) rfl lfX10_66 rfl dX10_canvas_78 ?_
        refine g_imul C dX10_canvas_81 ?_
        refine g_iconst (v := 2) C dX10_canvas_82 (by decide) ?_
        refine g_iadd C dX10_canvas_83 ?_
        obtain ⟨hg7, h⟩ := gs h
        refine g_iald C (hT_μ.1 _ _ 7 _ s_a0 rfl) (ib_in hg7) dX10_canvas_84 ?_
        refine g_icmp_ge C 119 dX10_canvas_85 rfl (fun q => ?_) (fun q => ?_)
        · replace h := ip q h
          refine g_iconst (v := -1) C dX10_canvas_119 (by decide) ?_
          exact g_lv [0, 1, 2, 3] rfl (wX10_canvas_L120 C _ _ _ _ _ _ s_a0 h)
        · replace h := iq q h
          refine g_aload_n C dX10_canvas_88 0 rfl ?_
          refine g_getr (j := 8) C s_a0 (by decide) rfl uwX10 (by decide) rfl lfX10_27 rfl dX10_canvas_89 ?_
          refine g_sipush (v := 256) C dX10_canvas_92 (by decide) ?_
          refine g_aload_n C dX10_canvas_95 0 rfl ?_
          refine g_geti (j := 6) C s_a0 (by decide) rfl uwX10 (by decide) rfl lfX10_66 rfl dX10_canvas_96 ?_
          refine g_imul C dX10_canvas_99 ?_
          refine g_aload_n C dX10_canvas_100 0 rfl ?_
          refine g_getr (j := 7) C s_a0 (by decide) rfl uwX10 (by decide) rfl lfX10_23 rfl dX10_canvas_101 ?_
          refine g_bipush (v := 6) C dX10_canvas_104 (by decide) ?_
          refine g_aload_n C dX10_canvas_106 0 rfl ?_
          refine g_geti (j := 6) C s_a0 (by decide) rfl uwX10 (by decide) rfl lfX10_66 rfl dX10_canvas_107 ?_
          refine g_imul C dX10_canvas_110 ?_
          refine g_iconst (v := 3) C dX10_canvas_111 (by decide) ?_
          refine g_iadd C dX10_canvas_112 ?_
          obtain ⟨hg8, h⟩ := gs h
          refine g_iald C (hT_μ.1 _ _ 7 _ s_a0 rfl) (ib_in hg8) dX10_canvas_113 ?_
          refine g_iadd C dX10_canvas_114 ?_
          obtain ⟨hg9, h⟩ := gs h
          refine g_iald C (hT_μ.1 _ _ 8 _ s_a0 rfl) (ib_in hg9) dX10_canvas_115 ?_
          refine g_goto C 120 dX10_canvas_116 rfl ?_
          exact g_lv [0, 1, 2, 3] rfl (wX10_canvas_L120 C _ _ _ _ _ _ s_a0 h)
      · replace h := ip q h
        refine g_bipush (v := -2) C dX10_canvas_54 (by decide) ?_
        cases h
        exact g_ireturn C rfl dX10_canvas_56
theorem miX10_canvas : MI yX10_canvas cX10_canvas 10 (some .int) RX10 3 := ⟨wcX10_canvas, wmX10_canvas, wsX10_canvas, wiX10, by decide +kernel⟩
theorem kX10_canvas {l : Launch} {D : va_G} {cA : Nat → ClassId} {tS : Nat → Nat} {σ : Sg} {a0 : Nat} {v1 : Int32} {v2 : Int32} {v3 : Int32} {μ : Mm} {fu : Nat} {q : Int32} (s_a0 : σ a0 = some (10, 0)) (h : fX10_canvas fu a0 v1 v2 v3 μ = some q) : Ct l D cA tS σ yX10_canvas cX10_canvas 10 (some .int) (rmO 2 49) [.ref a0, .int v1, .int v2, .int v3] μ (QI D cA σ q μ) :=
  Ct.of (by decide) (Nat.le_of_ble_eq_true rfl) (fun _ _ _ _ _ _ _ _ C => wX10_canvas C _ _ _ _ _ s_a0 h)
