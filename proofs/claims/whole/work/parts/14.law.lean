/-! THE CLAIM OUT OF ONE WALK OF THE LAW'S BODY. Your part is whole_start (and what it stands on); all else here is the same for every law, but numbers. -/
abbrev R_law : String := RL
def lw_P (b : Addr) (xs : List Int32) (args : Array Value) (s : State) : Prop := args = #[.ref b] ∧ s.IntsAt b xs ∧ xs.length ≤ 3584 ∧ (Jvm.Cond.and given_1 narrow_1).before args s = true
def lw_Q (_ : Array Value) (s : State) (o : Outcome) (t : State) : Prop := o = .returned (some (.int 1)) ∧ Framed s o t [] 600000 7302250
def lw_Z (below : List Frame) (a : Array Value) (s : State) : State → Prop := fun t => ∃ o, t.status = .running ∧ Ended t below o ∧ lw_Q a s o t
/-- the law's own end, with 1 on the stack, nothing written that was there before, its room as the claim has it -/
theorem lw_ret {p : Program} {l : Launch} {e : Env} {s : State} {m : MethodId} {below : List Frame} {meth : Method} {c : Code} {b : Nat} (hx : p.tables.exec = Jvm.exec) (hb : c.code = code) (hr : meth.sig.returnType = ret) (hlocks : meth.locks = false) {pc : Nat} {H : Heap} {ls : Array Slot} (hdg : decode code pc = .ok (.ireturn, 1)) : W p l e room_1 s m #[Value.ref b] below meth c H [] 600000 7302250 (lw_Z below #[Value.ref b] s) (F0 m pc ls [.int 1]) := by
  intro T hT X
  obtain ⟨fs, hret, hrun, hended, hW, hframe⟩ := X.leave (v := some (.int 1)) (hlocks := hlocks) (fun h => by rw [hr] at h; cases h)
  have hmeth' : T.vm.method? m = some meth := X.method'
  refine ⟨T.setFrames fs, ?_, .returned (some (.int 1)), hrun, hended, rfl, ⟨_, rfl⟩, hW, hframe⟩
  jvm_step X.here [X.here.top, hx, hb, hdg, hmeth', hr, ret, narrow_b1]
  (try refine ⟨rfl, ?_⟩); (try refine ⟨rfl, ?_⟩)
  first | (intro acts; rw [hret _ acts rfl rfl rfl]) | rw [hret _ _ rfl rfl rfl]
  exact Steps.refl _
/-- what holds at the law's entry: the machine, the code, the tables' words (any of lw_tbl by 'hts w (by decide +kernel)'), the script of L ints xs at the cell b, what the Statement gives of the start (any of its parts by flat_of_before) -/
def lw_At (p : Program) (s : State) (m : MethodId) (meth : Method) (c : Code) (b L : Nat) (xs : Nat → Int32) : Prop :=
  p.tables.exec = Jvm.exec ∧ c.code = code ∧ meth.sig.returnType = ret ∧ c.maxLocals = 4 ∧ s.vm.findClass R_law = some m.cls ∧ (∀ w ∈ lw_tbl, w.before #[Value.ref b] s = true) ∧ va_X b L xs s s.heap ∧ b < s.heap.size ∧ meth.locks = false ∧ (Jvm.Cond.and given_1 narrow_1).before #[Value.ref b] s = true
def AL (s : State) : Nat → Prop := fun q => s.heap.size ≤ q
section GLW
variable {p : Program} {l : Launch} {e : Env} {R : Room} {s : State} {m : MethodId} {below : List Frame} {meth : Method} {c : Code} {cl sl : Nat} {D : va_G} {cA : Nat → ClassId} {tS : Nat → Nat} {σ : Sg} {cc : ByteArray} {rt : Option FieldType} {nL : Nat} {own : String} {Q : State → Prop} {pc : Nat} {lv : List (Nat × Value)} {st : List Value} {μ : Mm} {b L : Nat} {xs : Nat → Int32} {args : Array Value}
theorem g_xlen (C : Cx p s m args meth c (AL s) D cA tS σ cc rt nL own) (hX : va_X b L xs s s.heap) (hbl : b < s.heap.size) (hd : decode cc pc = .ok (.arraylength, 1)) (k : GG p l e R s m args below meth c cl sl (AL s) D cA σ nL Q (pc + 1) lv (.int (Int32.ofNat L) :: st) μ) : GG p l e R s m args below meth c cl sl (AL s) D cA σ nL Q pc lv (.ref b :: st) μ := fun H locs ls hM hz hS hl => va_slen C.1 C.2.1 hX hbl (Nat.not_le.mpr hbl) hS hd (k H locs ls hM hz hS hl)
theorem g_xld (C : Cx p s m args meth c (AL s) D cA tS σ cc rt nL own) (hX : va_X b L xs s s.heap) (hbl : b < s.heap.size) {i : Int32} (hin : vp_in i L) (hd : decode cc pc = .ok (.iaload, 1)) (k : GG p l e R s m args below meth c cl sl (AL s) D cA σ nL Q (pc + 1) lv (.int (xs i.toNatClampNeg) :: st) μ) : GG p l e R s m args below meth c cl sl (AL s) D cA σ nL Q pc lv (.int i :: .ref b :: st) μ := fun H locs ls hM hz hS hl => va_sld C.1 C.2.1 hX hbl (Nat.not_le.mpr hbl) hS hin hd (k H locs ls hM hz hS hl)
theorem g_fin (C : Cx p s m #[Value.ref b] meth c (AL s) D cA tS σ cL_law ret nL own) {cl sl : Nat} (hd : decode cL_law pc = .ok (.ireturn, 1)) (hc : cl ≤ 600000 := by decide) (hs : sl ≤ 7302250 := by decide) : GG p l e room_1 s m #[Value.ref b] below meth c cl sl (AL s) D cA σ nL (lw_Z below #[Value.ref b] s) pc lv [.int 1] μ := fun H locs ls hM hz hS hl => va_forget (fun q hq => hS.2.2 q hq) (W.widen (k := 600000) (n := 7302250) hc hs (lw_ret C.1 C.2.1 C.2.2.1 C.2.2.2.2.2.2.1 hd))
end GLW

set_option maxRecDepth 100000 in
set_option maxHeartbeats 4000000 in
theorem wL_law_L413 {p : Program} {l : Launch} {e : Env} {s : State} {m : MethodId} {below : List Frame} {meth : Method} {c : Code} {D : va_G} {cA : Nat → ClassId} {tS : Nat → Nat} {σ : Sg} {rec18 : Nat → Nat → Int32 → Mm → Option (Int32)} {fu : Nat} {L b : Nat} {xs : Nat → Int32} (C : Cx p s m #[Value.ref b] meth c (AL s) D cA tS σ cL_law ret 4 RL) (hX : va_X b L xs s s.heap) (hbl : b < s.heap.size) (hrec18 : ∀ (y1 : Nat) (y2 : Nat) (y3 : Int32) (μ : Mm), σ y1 = some (9, 0) → σ y2 = some (10, 0) → rec18 y1 y2 y3 μ = some 1 → GG p l e room_1 s m #[Value.ref b] below meth c 289 577902 (AL s) D cA σ 4 (lw_Z below #[Value.ref b] s) 18 [(0, .ref b), (1, .ref y1), (2, .ref y2), (3, .int y3)] [] μ) (a1 : Nat) (a2 : Nat) (v3 : Int32) (t0 : Int32) (o1 : Nat) (t2 : Int32) (t3 : Int32) (t4 : Int32) (t5 : Int32) (t6 : Int32) (t7 : Int32) (μ : Mm) (s_a1 : σ a1 = some (9, 0)) (s_a2 : σ a2 = some (10, 0)) (s_o1 : σ o1 = some (10, 0)) (h : fL_law_L413 rec18 fu L xs a1 a2 v3 t0 o1 t2 t3 t4 t5 t6 t7 μ = some 1) : GG p l e room_1 s m #[Value.ref b] below meth c 289 577902 (AL s) D cA σ 4 (lw_Z below #[Value.ref b] s) 413 [(0, .ref b), (1, .ref a1), (2, .ref a2), (3, .int v3)] [.int t7, .int t6, .int t5, .int t4, .int t3, .int t2, .ref o1, .int t0] μ := by
  unfold fL_law_L413 at h
  obtain ⟨q1, e_q1, h⟩ := bs h
  refine g_callVI C (kX10_frame s_o1 e_q1) miX10_frame lmL_46 s_o1 (by decide) rfl rfl rfl (Nat.le_of_ble_eq_true rfl) dL_law_413 ⟨by decide, by decide⟩ ⟨by decide, by decide⟩ ?_
  refine g_icmp_eq C 754 dL_law_416 rfl (fun q => ?_) (fun q => ?_)
  · replace h := ip q h
    obtain ⟨x2, e_x2, h⟩ := nm h
    refine g_iinc (v := x2) (lv' := [(3, .int x2), (0, .ref b), (1, .ref a1), (2, .ref a2)]) C dL_law_754 (by decide) 3 rfl 7 (by decide) e_x2.symm rfl ?_
    refine g_goto C 18 dL_law_757 rfl ?_
    exact g_lv [1, 2, 3, 0] rfl (hrec18 _ _ _ _ s_a1 s_a2 h)
  · replace h := iq q h
    refine g_iconst (v := 0) C dL_law_419 (by decide) ?_
    exact absurd h (by decide)
set_option maxRecDepth 100000 in
set_option maxHeartbeats 4000000 in
theorem wL_law_L370 {p : Program} {l : Launch} {e : Env} {s : State} {m : MethodId} {below : List Frame} {meth : Method} {c : Code} {D : va_G} {cA : Nat → ClassId} {tS : Nat → Nat} {σ : Sg} {rec18 : Nat → Nat → Int32 → Mm → Option (Int32)} {fu : Nat} {L b : Nat} {xs : Nat → Int32} (C : Cx p s m #[Value.ref b] meth c (AL s) D cA tS σ cL_law ret 4 RL) (hX : va_X b L xs s s.heap) (hbl : b < s.heap.size) (hrec18 : ∀ (y1 : Nat) (y2 : Nat) (y3 : Int32) (μ : Mm), σ y1 = some (9, 0) → σ y2 = some (10, 0) → rec18 y1 y2 y3 μ = some 1 → GG p l e room_1 s m #[Value.ref b] below meth c 289 577902 (AL s) D cA σ 4 (lw_Z below #[Value.ref b] s) 18 [(0, .ref b), (1, .ref y1), (2, .ref y2), (3, .int y3)] [] μ) (a1 : Nat) (a2 : Nat) (v3 : Int32) (o0 : Nat) (t1 : Int32) (t2 : Int32) (t3 : Int32) (t4 : Int32) (t5 : Int32) (t6 : Int32) (μ : Mm) (s_a1 : σ a1 = some (9, 0)) (s_a2 : σ a2 = some (10, 0)) (s_o0 : σ o0 = some (9, 0)) (h : fL_law_L370 rec18 fu L xs a1 a2 v3 o0 t1 t2 t3 t4 t5 t6 μ = some 1) : GG p l e room_1 s m #[Value.ref b] below meth c 289 577902 (AL s) D cA σ 4 (lw_Z below #[Value.ref b] s) 370 [(0, .ref b), (1, .ref a1), (2, .ref a2), (3, .int v3)] [.int t6, .int t5, .int t4, .int t3, .int t2, .int t1, .ref o0] μ := by
  unfold fL_law_L370 at h
  obtain ⟨q1, e_q1, h⟩ := bs h
  refine g_callVI C (kX9_frame s_o0 e_q1) miX9_frame lmL_42 s_o0 (by decide) rfl rfl rfl (Nat.le_of_ble_eq_true rfl) dL_law_370 ⟨by decide, by decide⟩ ⟨by decide, by decide⟩ ?_
  refine g_aload_n C dL_law_373 2 rfl ?_
  refine g_aload_n C dL_law_374 0 rfl ?_
  refine g_iload_n C dL_law_375 3 rfl ?_
  refine g_iconst (v := 1) C dL_law_376 (by decide) ?_
  refine g_iadd C dL_law_377 ?_
  obtain ⟨hg, h⟩ := gs h
  refine g_xld C hX hbl (ib_in hg) dL_law_378 ?_
  refine g_aload_n C dL_law_379 0 rfl ?_
  refine g_iload_n C dL_law_380 3 rfl ?_
  refine g_iconst (v := 2) C dL_law_381 (by decide) ?_
  refine g_iadd C dL_law_382 ?_
  obtain ⟨hg, h⟩ := gs h
  refine g_xld C hX hbl (ib_in hg) dL_law_383 ?_
  refine g_aload_n C dL_law_384 0 rfl ?_
  refine g_iload_n C dL_law_385 3 rfl ?_
  refine g_iconst (v := 3) C dL_law_386 (by decide) ?_
  refine g_iadd C dL_law_387 ?_
  obtain ⟨hg, h⟩ := gs h
  refine g_xld C hX hbl (ib_in hg) dL_law_388 ?_
  refine g_aload_n C dL_law_389 0 rfl ?_
  refine g_iload_n C dL_law_390 3 rfl ?_
  refine g_iconst (v := 4) C dL_law_391 (by decide) ?_
  refine g_iadd C dL_law_392 ?_
  obtain ⟨hg, h⟩ := gs h
  refine g_xld C hX hbl (ib_in hg) dL_law_393 ?_
  refine g_aload_n C dL_law_394 0 rfl ?_
  refine g_iload_n C dL_law_395 3 rfl ?_
  refine g_iconst (v := 5) C dL_law_396 (by decide) ?_
  refine g_iadd C dL_law_397 ?_
  obtain ⟨hg, h⟩ := gs h
  refine g_xld C hX hbl (ib_in hg) dL_law_398 ?_
  refine g_aload_n C dL_law_399 0 rfl ?_
  refine g_iload_n C dL_law_400 3 rfl ?_
  refine g_bipush (v := 6) C dL_law_401 (by decide) ?_
  refine g_iadd C dL_law_403 ?_
  obtain ⟨hg, h⟩ := gs h
  refine g_xld C hX hbl (ib_in hg) dL_law_404 ?_
  refine g_if_eq C 412 dL_law_405 rfl (fun q => ?_) (fun q => ?_)
  · replace h := ip q h
    refine g_iconst (v := 0) C dL_law_412 (by decide) ?_
    exact g_lv [0, 1, 2, 3] rfl (wL_law_L413 C hX hbl hrec18 _ _ _ _ _ _ _ _ _ _ _ _ s_a1 s_a2 s_a2 h)
  · replace h := iq q h
    refine g_iconst (v := 1) C dL_law_408 (by decide) ?_
    refine g_goto C 413 dL_law_409 rfl ?_
    exact g_lv [0, 1, 2, 3] rfl (wL_law_L413 C hX hbl hrec18 _ _ _ _ _ _ _ _ _ _ _ _ s_a1 s_a2 s_a2 h)
set_option maxRecDepth 100000 in
set_option maxHeartbeats 4000000 in
theorem wL_law_L492 {p : Program} {l : Launch} {e : Env} {s : State} {m : MethodId} {below : List Frame} {meth : Method} {c : Code} {D : va_G} {cA : Nat → ClassId} {tS : Nat → Nat} {σ : Sg} {rec18 : Nat → Nat → Int32 → Mm → Option (Int32)} {fu : Nat} {L b : Nat} {xs : Nat → Int32} (C : Cx p s m #[Value.ref b] meth c (AL s) D cA tS σ cL_law ret 4 RL) (hX : va_X b L xs s s.heap) (hbl : b < s.heap.size) (hrec18 : ∀ (y1 : Nat) (y2 : Nat) (y3 : Int32) (μ : Mm), σ y1 = some (9, 0) → σ y2 = some (10, 0) → rec18 y1 y2 y3 μ = some 1 → GG p l e room_1 s m #[Value.ref b] below meth c 289 577902 (AL s) D cA σ 4 (lw_Z below #[Value.ref b] s) 18 [(0, .ref b), (1, .ref y1), (2, .ref y2), (3, .int y3)] [] μ) (a1 : Nat) (a2 : Nat) (v3 : Int32) (t0 : Int32) (o1 : Nat) (t2 : Int32) (t3 : Int32) (t4 : Int32) (t5 : Int32) (t6 : Int32) (μ : Mm) (s_a1 : σ a1 = some (9, 0)) (s_a2 : σ a2 = some (10, 0)) (s_o1 : σ o1 = some (10, 0)) (h : fL_law_L492 rec18 fu L xs a1 a2 v3 t0 o1 t2 t3 t4 t5 t6 μ = some 1) : GG p l e room_1 s m #[Value.ref b] below meth c 289 577902 (AL s) D cA σ 4 (lw_Z below #[Value.ref b] s) 492 [(0, .ref b), (1, .ref a1), (2, .ref a2), (3, .int v3)] [.int t6, .int t5, .int t4, .int t3, .int t2, .ref o1, .int t0] μ := by
  unfold fL_law_L492 at h
  obtain ⟨q1, e_q1, h⟩ := bs h
  refine g_callVI C (kX10_control s_o1 e_q1) miX10_control lmL_51 s_o1 (by decide) rfl rfl rfl (Nat.le_of_ble_eq_true rfl) dL_law_492 ⟨by decide, by decide⟩ ⟨by decide, by decide⟩ ?_
  refine g_icmp_eq C 754 dL_law_495 rfl (fun q => ?_) (fun q => ?_)
  · replace h := ip q h
    obtain ⟨x2, e_x2, h⟩ := nm h
    refine g_iinc (v := x2) (lv' := [(3, .int x2), (0, .ref b), (1, .ref a1), (2, .ref a2)]) C dL_law_754 (by decide) 3 rfl 7 (by decide) e_x2.symm rfl ?_
    refine g_goto C 18 dL_law_757 rfl ?_
    exact g_lv [1, 2, 3, 0] rfl (hrec18 _ _ _ _ s_a1 s_a2 h)
  · replace h := iq q h
    refine g_iconst (v := 0) C dL_law_498 (by decide) ?_
    exact absurd h (by decide)
set_option maxRecDepth 100000 in
set_option maxHeartbeats 4000000 in
theorem wL_law_L455 {p : Program} {l : Launch} {e : Env} {s : State} {m : MethodId} {below : List Frame} {meth : Method} {c : Code} {D : va_G} {cA : Nat → ClassId} {tS : Nat → Nat} {σ : Sg} {rec18 : Nat → Nat → Int32 → Mm → Option (Int32)} {fu : Nat} {L b : Nat} {xs : Nat → Int32} (C : Cx p s m #[Value.ref b] meth c (AL s) D cA tS σ cL_law ret 4 RL) (hX : va_X b L xs s s.heap) (hbl : b < s.heap.size) (hrec18 : ∀ (y1 : Nat) (y2 : Nat) (y3 : Int32) (μ : Mm), σ y1 = some (9, 0) → σ y2 = some (10, 0) → rec18 y1 y2 y3 μ = some 1 → GG p l e room_1 s m #[Value.ref b] below meth c 289 577902 (AL s) D cA σ 4 (lw_Z below #[Value.ref b] s) 18 [(0, .ref b), (1, .ref y1), (2, .ref y2), (3, .int y3)] [] μ) (a1 : Nat) (a2 : Nat) (v3 : Int32) (o0 : Nat) (t1 : Int32) (t2 : Int32) (t3 : Int32) (t4 : Int32) (t5 : Int32) (μ : Mm) (s_a1 : σ a1 = some (9, 0)) (s_a2 : σ a2 = some (10, 0)) (s_o0 : σ o0 = some (9, 0)) (h : fL_law_L455 rec18 fu L xs a1 a2 v3 o0 t1 t2 t3 t4 t5 μ = some 1) : GG p l e room_1 s m #[Value.ref b] below meth c 289 577902 (AL s) D cA σ 4 (lw_Z below #[Value.ref b] s) 455 [(0, .ref b), (1, .ref a1), (2, .ref a2), (3, .int v3)] [.int t5, .int t4, .int t3, .int t2, .int t1, .ref o0] μ := by
  unfold fL_law_L455 at h
  obtain ⟨q1, e_q1, h⟩ := bs h
  refine g_callVI C (kX9_control s_o0 e_q1) miX9_control lmL_47 s_o0 (by decide) rfl rfl rfl (Nat.le_of_ble_eq_true rfl) dL_law_455 ⟨by decide, by decide⟩ ⟨by decide, by decide⟩ ?_
  refine g_aload_n C dL_law_458 2 rfl ?_
  refine g_aload_n C dL_law_459 0 rfl ?_
  refine g_iload_n C dL_law_460 3 rfl ?_
  refine g_iconst (v := 1) C dL_law_461 (by decide) ?_
  refine g_iadd C dL_law_462 ?_
  obtain ⟨hg, h⟩ := gs h
  refine g_xld C hX hbl (ib_in hg) dL_law_463 ?_
  refine g_aload_n C dL_law_464 0 rfl ?_
  refine g_iload_n C dL_law_465 3 rfl ?_
  refine g_iconst (v := 2) C dL_law_466 (by decide) ?_
  refine g_iadd C dL_law_467 ?_
  obtain ⟨hg, h⟩ := gs h
  refine g_xld C hX hbl (ib_in hg) dL_law_468 ?_
  refine g_aload_n C dL_law_469 0 rfl ?_
  refine g_iload_n C dL_law_470 3 rfl ?_
  refine g_iconst (v := 3) C dL_law_471 (by decide) ?_
  refine g_iadd C dL_law_472 ?_
  obtain ⟨hg, h⟩ := gs h
  refine g_xld C hX hbl (ib_in hg) dL_law_473 ?_
  refine g_aload_n C dL_law_474 0 rfl ?_
  refine g_iload_n C dL_law_475 3 rfl ?_
  refine g_iconst (v := 4) C dL_law_476 (by decide) ?_
  refine g_iadd C dL_law_477 ?_
  obtain ⟨hg, h⟩ := gs h
  refine g_xld C hX hbl (ib_in hg) dL_law_478 ?_
  refine g_aload_n C dL_law_479 0 rfl ?_
  refine g_iload_n C dL_law_480 3 rfl ?_
  refine g_iconst (v := 5) C dL_law_481 (by decide) ?_
  refine g_iadd C dL_law_482 ?_
  obtain ⟨hg, h⟩ := gs h
  refine g_xld C hX hbl (ib_in hg) dL_law_483 ?_
  refine g_if_eq C 491 dL_law_484 rfl (fun q => ?_) (fun q => ?_)
  · replace h := ip q h
    refine g_iconst (v := 0) C dL_law_491 (by decide) ?_
    exact g_lv [0, 1, 2, 3] rfl (wL_law_L492 C hX hbl hrec18 _ _ _ _ _ _ _ _ _ _ _ s_a1 s_a2 s_a2 h)
  · replace h := iq q h
    refine g_iconst (v := 1) C dL_law_487 (by decide) ?_
    refine g_goto C 492 dL_law_488 rfl ?_
    exact g_lv [0, 1, 2, 3] rfl (wL_law_L492 C hX hbl hrec18 _ _ _ _ _ _ _ _ _ _ _ s_a1 s_a2 s_a2 h)
set_option maxRecDepth 100000 in
set_option maxHeartbeats 4000000 in
theorem wL_law_B18 {p : Program} {l : Launch} {e : Env} {s : State} {m : MethodId} {below : List Frame} {meth : Method} {c : Code} {D : va_G} {cA : Nat → ClassId} {tS : Nat → Nat} {σ : Sg} {rec18 : Nat → Nat → Int32 → Mm → Option (Int32)} {fu : Nat} {L b : Nat} {xs : Nat → Int32} (C : Cx p s m #[Value.ref b] meth c (AL s) D cA tS σ cL_law ret 4 RL) (hX : va_X b L xs s s.heap) (hbl : b < s.heap.size) (hrec18 : ∀ (y1 : Nat) (y2 : Nat) (y3 : Int32) (μ : Mm), σ y1 = some (9, 0) → σ y2 = some (10, 0) → rec18 y1 y2 y3 μ = some 1 → GG p l e room_1 s m #[Value.ref b] below meth c 289 577902 (AL s) D cA σ 4 (lw_Z below #[Value.ref b] s) 18 [(0, .ref b), (1, .ref y1), (2, .ref y2), (3, .int y3)] [] μ) (a1 : Nat) (a2 : Nat) (v3 : Int32) (μ : Mm) (s_a1 : σ a1 = some (9, 0)) (s_a2 : σ a2 = some (10, 0)) (h : fL_law_B18 rec18 fu L xs a1 a2 v3 μ = some 1) : GG p l e room_1 s m #[Value.ref b] below meth c 289 577902 (AL s) D cA σ 4 (lw_Z below #[Value.ref b] s) 18 [(0, .ref b), (1, .ref a1), (2, .ref a2), (3, .int v3)] [] μ := by
  unfold fL_law_B18 at h
  refine g_iload_n C dL_law_18 3 rfl ?_
  refine g_aload_n C dL_law_19 0 rfl ?_
  refine g_xlen C hX hbl dL_law_20 ?_
  refine g_bipush (v := 7) C dL_law_21 (by decide) ?_
  refine g_isub C dL_law_23 ?_
  refine g_icmp_gt C 760 dL_law_24 rfl (fun q => ?_) (fun q => ?_)
  · replace h := ip q h
    refine g_iconst (v := 1) C dL_law_760 (by decide) ?_
    exact g_fin C dL_law_761
  · replace h := iq q h
    refine g_aload_n C dL_law_27 0 rfl ?_
    refine g_iload_n C dL_law_28 3 rfl ?_
    obtain ⟨hg, h⟩ := gs h
    refine g_xld C hX hbl (ib_in hg) dL_law_29 ?_
    refine g_bipush (v := 15) C dL_law_30 (by decide) ?_
    refine g_iand C dL_law_32 ?_
    obtain ⟨x1, e_x1, h⟩ := nm h
    refine g_topi e_x1 ?_
    by_cases q33_0 : x1 = 0
    · replace h := ip q33_0 h
      refine g_tabIn C 112 0 dL_law_33 (sw_in q33_0 rfl) (by decide) (by decide) rfl rfl ?_
      refine g_aload_n C dL_law_112 1 rfl ?_
      refine g_aload_n C dL_law_113 0 rfl ?_
      refine g_iload_n C dL_law_114 3 rfl ?_
      refine g_iconst (v := 1) C dL_law_115 (by decide) ?_
      refine g_iadd C dL_law_116 ?_
      obtain ⟨hg, h⟩ := gs h
      refine g_xld C hX hbl (ib_in hg) dL_law_117 ?_
      refine g_aload_n C dL_law_118 0 rfl ?_
      refine g_iload_n C dL_law_119 3 rfl ?_
      refine g_iconst (v := 2) C dL_law_120 (by decide) ?_
      refine g_iadd C dL_law_121 ?_
      obtain ⟨hg, h⟩ := gs h
      refine g_xld C hX hbl (ib_in hg) dL_law_122 ?_
      refine g_aload_n C dL_law_123 0 rfl ?_
      refine g_iload_n C dL_law_124 3 rfl ?_
      refine g_iconst (v := 3) C dL_law_125 (by decide) ?_
      refine g_iadd C dL_law_126 ?_
      obtain ⟨hg, h⟩ := gs h
      refine g_xld C hX hbl (ib_in hg) dL_law_127 ?_
      refine g_aload_n C dL_law_128 0 rfl ?_
      refine g_iload_n C dL_law_129 3 rfl ?_
      refine g_iconst (v := 4) C dL_law_130 (by decide) ?_
      refine g_iadd C dL_law_131 ?_
      obtain ⟨hg, h⟩ := gs h
      refine g_xld C hX hbl (ib_in hg) dL_law_132 ?_
      refine g_aload_n C dL_law_133 0 rfl ?_
      refine g_iload_n C dL_law_134 3 rfl ?_
      refine g_iconst (v := 5) C dL_law_135 (by decide) ?_
      refine g_iadd C dL_law_136 ?_
      obtain ⟨hg, h⟩ := gs h
      refine g_xld C hX hbl (ib_in hg) dL_law_137 ?_
      obtain ⟨q2, e_q2, h⟩ := bs h
      refine g_callVI C (kX9_feed s_a1 e_q2) miX9_feed lmL_13 s_a1 (by decide) rfl rfl rfl (Nat.le_of_ble_eq_true rfl) dL_law_138 ⟨by decide, by decide⟩ ⟨by decide, by decide⟩ ?_
      refine g_aload_n C dL_law_141 2 rfl ?_
      refine g_aload_n C dL_law_142 0 rfl ?_
      refine g_iload_n C dL_law_143 3 rfl ?_
      refine g_iconst (v := 1) C dL_law_144 (by decide) ?_
      refine g_iadd C dL_law_145 ?_
      obtain ⟨hg, h⟩ := gs h
      refine g_xld C hX hbl (ib_in hg) dL_law_146 ?_
      refine g_aload_n C dL_law_147 0 rfl ?_
      refine g_iload_n C dL_law_148 3 rfl ?_
      refine g_iconst (v := 2) C dL_law_149 (by decide) ?_
      refine g_iadd C dL_law_150 ?_
      obtain ⟨hg, h⟩ := gs h
      refine g_xld C hX hbl (ib_in hg) dL_law_151 ?_
      refine g_aload_n C dL_law_152 0 rfl ?_
      refine g_iload_n C dL_law_153 3 rfl ?_
      refine g_iconst (v := 3) C dL_law_154 (by decide) ?_
      refine g_iadd C dL_law_155 ?_
      obtain ⟨hg, h⟩ := gs h
      refine g_xld C hX hbl (ib_in hg) dL_law_156 ?_
      refine g_aload_n C dL_law_157 0 rfl ?_
      refine g_iload_n C dL_law_158 3 rfl ?_
      refine g_iconst (v := 4) C dL_law_159 (by decide) ?_
      refine g_iadd C dL_law_160 ?_
      obtain ⟨hg, h⟩ := gs h
      refine g_xld C hX hbl (ib_in hg) dL_law_161 ?_
      refine g_aload_n C dL_law_162 0 rfl ?_
      refine g_iload_n C dL_law_163 3 rfl ?_
      refine g_iconst (v := 5) C dL_law_164 (by decide) ?_
      refine g_iadd C dL_law_165 ?_
      obtain ⟨hg, h⟩ := gs h
      refine g_xld C hX hbl (ib_in hg) dL_law_166 ?_
      obtain ⟨q3, e_q3, h⟩ := bs h
      refine g_callVI C (kX10_feed s_a2 e_q3) miX10_feed lmL_17 s_a2 (by decide) rfl rfl rfl (Nat.le_of_ble_eq_true rfl) dL_law_167 ⟨by decide, by decide⟩ ⟨by decide, by decide⟩ ?_
      refine g_icmp_eq C 754 dL_law_170 rfl (fun q => ?_) (fun q => ?_)
      · replace h := ip q h
        obtain ⟨x4, e_x4, h⟩ := nm h
        refine g_iinc (v := x4) (lv' := [(3, .int x4), (0, .ref b), (1, .ref a1), (2, .ref a2)]) C dL_law_754 (by decide) 3 rfl 7 (by decide) e_x4.symm rfl ?_
        refine g_goto C 18 dL_law_757 rfl ?_
        exact g_lv [1, 2, 3, 0] rfl (hrec18 _ _ _ _ s_a1 s_a2 h)
      · replace h := iq q h
        refine g_iconst (v := 0) C dL_law_173 (by decide) ?_
        exact absurd h (by decide)
    · replace h := iq q33_0 h
      by_cases q33_1 : x1 = 1
      · replace h := ip q33_1 h
        refine g_tabIn C 175 1 dL_law_33 (sw_in q33_1 rfl) (by decide) (by decide) rfl rfl ?_
        refine g_aload_n C dL_law_175 1 rfl ?_
        obtain ⟨q5, e_q5, h⟩ := bs h
        refine g_callVI C (kX9_take s_a1 e_q5) miX9_take lmL_18 s_a1 (by decide) rfl rfl rfl (Nat.le_of_ble_eq_true rfl) dL_law_176 ⟨by decide, by decide⟩ ⟨by decide, by decide⟩ ?_
        refine g_aload_n C dL_law_179 2 rfl ?_
        obtain ⟨q6, e_q6, h⟩ := bs h
        refine g_callVI C (kX10_take s_a2 e_q6) miX10_take lmL_22 s_a2 (by decide) rfl rfl rfl (Nat.le_of_ble_eq_true rfl) dL_law_180 ⟨by decide, by decide⟩ ⟨by decide, by decide⟩ ?_
        refine g_icmp_eq C 754 dL_law_183 rfl (fun q => ?_) (fun q => ?_)
        · replace h := ip q h
          obtain ⟨x7, e_x7, h⟩ := nm h
          refine g_iinc (v := x7) (lv' := [(3, .int x7), (0, .ref b), (1, .ref a1), (2, .ref a2)]) C dL_law_754 (by decide) 3 rfl 7 (by decide) e_x7.symm rfl ?_
          refine g_goto C 18 dL_law_757 rfl ?_
          exact g_lv [1, 2, 3, 0] rfl (hrec18 _ _ _ _ s_a1 s_a2 h)
        · replace h := iq q h
          refine g_iconst (v := 0) C dL_law_186 (by decide) ?_
          exact absurd h (by decide)
      · replace h := iq q33_1 h
        by_cases q33_2 : x1 = 2
        · replace h := ip q33_2 h
          refine g_tabIn C 188 2 dL_law_33 (sw_in q33_2 rfl) (by decide) (by decide) rfl rfl ?_
          refine g_aload_n C dL_law_188 1 rfl ?_
          refine g_aload_n C dL_law_189 0 rfl ?_
          refine g_iload_n C dL_law_190 3 rfl ?_
          refine g_iconst (v := 1) C dL_law_191 (by decide) ?_
          refine g_iadd C dL_law_192 ?_
          obtain ⟨hg, h⟩ := gs h
          refine g_xld C hX hbl (ib_in hg) dL_law_193 ?_
          obtain ⟨q8, e_q8, h⟩ := bs h
          refine g_callVI C (kX9_read s_a1 e_q8) miX9_read lmL_23 s_a1 (by decide) rfl rfl rfl (Nat.le_of_ble_eq_true rfl) dL_law_194 ⟨by decide, by decide⟩ ⟨by decide, by decide⟩ ?_
          refine g_aload_n C dL_law_197 2 rfl ?_
          refine g_aload_n C dL_law_198 0 rfl ?_
          refine g_iload_n C dL_law_199 3 rfl ?_
          refine g_iconst (v := 1) C dL_law_200 (by decide) ?_
          refine g_iadd C dL_law_201 ?_
          obtain ⟨hg, h⟩ := gs h
          refine g_xld C hX hbl (ib_in hg) dL_law_202 ?_
          obtain ⟨q9, e_q9, h⟩ := bs h
          refine g_callVI C (kX10_read s_a2 e_q9) miX10_read lmL_27 s_a2 (by decide) rfl rfl rfl (Nat.le_of_ble_eq_true rfl) dL_law_203 ⟨by decide, by decide⟩ ⟨by decide, by decide⟩ ?_
          refine g_icmp_eq C 754 dL_law_206 rfl (fun q => ?_) (fun q => ?_)
          · replace h := ip q h
            obtain ⟨x10, e_x10, h⟩ := nm h
            refine g_iinc (v := x10) (lv' := [(3, .int x10), (0, .ref b), (1, .ref a1), (2, .ref a2)]) C dL_law_754 (by decide) 3 rfl 7 (by decide) e_x10.symm rfl ?_
            refine g_goto C 18 dL_law_757 rfl ?_
            exact g_lv [1, 2, 3, 0] rfl (hrec18 _ _ _ _ s_a1 s_a2 h)
          · replace h := iq q h
            refine g_iconst (v := 0) C dL_law_209 (by decide) ?_
            exact absurd h (by decide)
        · replace h := iq q33_2 h
          by_cases q33_3 : x1 = 3
          · replace h := ip q33_3 h
            refine g_tabIn C 211 3 dL_law_33 (sw_in q33_3 rfl) (by decide) (by decide) rfl rfl ?_
            refine g_aload_n C dL_law_211 1 rfl ?_
            refine g_aload_n C dL_law_212 0 rfl ?_
            refine g_iload_n C dL_law_213 3 rfl ?_
            refine g_iconst (v := 1) C dL_law_214 (by decide) ?_
            refine g_iadd C dL_law_215 ?_
            obtain ⟨hg, h⟩ := gs h
            refine g_xld C hX hbl (ib_in hg) dL_law_216 ?_
            obtain ⟨x11, e_x11, h⟩ := nm h
            refine g_callVI C (kX9_fault s_a1 e_x11.symm) miX9_fault lmL_28 s_a1 (by decide) rfl rfl rfl (Nat.le_of_ble_eq_true rfl) dL_law_217 ⟨by decide, by decide⟩ ⟨by decide, by decide⟩ ?_
            refine g_aload_n C dL_law_220 2 rfl ?_
            refine g_aload_n C dL_law_221 0 rfl ?_
            refine g_iload_n C dL_law_222 3 rfl ?_
            refine g_iconst (v := 1) C dL_law_223 (by decide) ?_
            refine g_iadd C dL_law_224 ?_
            obtain ⟨hg, h⟩ := gs h
            refine g_xld C hX hbl (ib_in hg) dL_law_225 ?_
            obtain ⟨x12, e_x12, h⟩ := nm h
            refine g_callVI C (kX10_fault s_a2 e_x12.symm) miX10_fault lmL_31 s_a2 (by decide) rfl rfl rfl (Nat.le_of_ble_eq_true rfl) dL_law_226 ⟨by decide, by decide⟩ ⟨by decide, by decide⟩ ?_
            refine g_icmp_eq C 754 dL_law_229 rfl (fun q => ?_) (fun q => ?_)
            · replace h := ip q h
              obtain ⟨x13, e_x13, h⟩ := nm h
              refine g_iinc (v := x13) (lv' := [(3, .int x13), (0, .ref b), (1, .ref a1), (2, .ref a2)]) C dL_law_754 (by decide) 3 rfl 7 (by decide) e_x13.symm rfl ?_
              refine g_goto C 18 dL_law_757 rfl ?_
              exact g_lv [1, 2, 3, 0] rfl (hrec18 _ _ _ _ s_a1 s_a2 h)
            · replace h := iq q h
              refine g_iconst (v := 0) C dL_law_232 (by decide) ?_
              exact absurd h (by decide)
          · replace h := iq q33_3 h
            by_cases q33_4 : x1 = 4
            · replace h := ip q33_4 h
              refine g_tabIn C 234 4 dL_law_33 (sw_in q33_4 rfl) (by decide) (by decide) rfl rfl ?_
              refine g_aload_n C dL_law_234 1 rfl ?_
              refine g_aload_n C dL_law_235 0 rfl ?_
              refine g_iload_n C dL_law_236 3 rfl ?_
              refine g_iconst (v := 1) C dL_law_237 (by decide) ?_
              refine g_iadd C dL_law_238 ?_
              obtain ⟨hg, h⟩ := gs h
              refine g_xld C hX hbl (ib_in hg) dL_law_239 ?_
              refine g_aload_n C dL_law_240 0 rfl ?_
              refine g_iload_n C dL_law_241 3 rfl ?_
              refine g_iconst (v := 2) C dL_law_242 (by decide) ?_
              refine g_iadd C dL_law_243 ?_
              obtain ⟨hg, h⟩ := gs h
              refine g_xld C hX hbl (ib_in hg) dL_law_244 ?_
              refine g_aload_n C dL_law_245 0 rfl ?_
              refine g_iload_n C dL_law_246 3 rfl ?_
              refine g_iconst (v := 3) C dL_law_247 (by decide) ?_
              refine g_iadd C dL_law_248 ?_
              obtain ⟨hg, h⟩ := gs h
              refine g_xld C hX hbl (ib_in hg) dL_law_249 ?_
              refine g_aload_n C dL_law_250 0 rfl ?_
              refine g_iload_n C dL_law_251 3 rfl ?_
              refine g_iconst (v := 4) C dL_law_252 (by decide) ?_
              refine g_iadd C dL_law_253 ?_
              obtain ⟨hg, h⟩ := gs h
              refine g_xld C hX hbl (ib_in hg) dL_law_254 ?_
              obtain ⟨q14, e_q14, h⟩ := bs h
              refine g_callVI C (kX9_begin s_a1 e_q14) miX9_begin lmL_32 s_a1 (by decide) rfl rfl rfl (Nat.le_of_ble_eq_true rfl) dL_law_255 ⟨by decide, by decide⟩ ⟨by decide, by decide⟩ ?_
              refine g_aload_n C dL_law_258 2 rfl ?_
              refine g_aload_n C dL_law_259 0 rfl ?_
              refine g_iload_n C dL_law_260 3 rfl ?_
              refine g_iconst (v := 1) C dL_law_261 (by decide) ?_
              refine g_iadd C dL_law_262 ?_
              obtain ⟨hg, h⟩ := gs h
              refine g_xld C hX hbl (ib_in hg) dL_law_263 ?_
              refine g_aload_n C dL_law_264 0 rfl ?_
              refine g_iload_n C dL_law_265 3 rfl ?_
              refine g_iconst (v := 2) C dL_law_266 (by decide) ?_
              refine g_iadd C dL_law_267 ?_
              obtain ⟨hg, h⟩ := gs h
              refine g_xld C hX hbl (ib_in hg) dL_law_268 ?_
              refine g_aload_n C dL_law_269 0 rfl ?_
              refine g_iload_n C dL_law_270 3 rfl ?_
              refine g_iconst (v := 3) C dL_law_271 (by decide) ?_
              refine g_iadd C dL_law_272 ?_
              obtain ⟨hg, h⟩ := gs h
              refine g_xld C hX hbl (ib_in hg) dL_law_273 ?_
              refine g_aload_n C dL_law_274 0 rfl ?_
              refine g_iload_n C dL_law_275 3 rfl ?_
              refine g_iconst (v := 4) C dL_law_276 (by decide) ?_
              refine g_iadd C dL_law_277 ?_
              obtain ⟨hg, h⟩ := gs h
              refine g_xld C hX hbl (ib_in hg) dL_law_278 ?_
              obtain ⟨q15, e_q15, h⟩ := bs h
              refine g_callVI C (kX10_begin s_a2 e_q15) miX10_begin lmL_36 s_a2 (by decide) rfl rfl rfl (Nat.le_of_ble_eq_true rfl) dL_law_279 ⟨by decide, by decide⟩ ⟨by decide, by decide⟩ ?_
              refine g_icmp_eq C 754 dL_law_282 rfl (fun q => ?_) (fun q => ?_)
              · replace h := ip q h
                obtain ⟨x16, e_x16, h⟩ := nm h
                refine g_iinc (v := x16) (lv' := [(3, .int x16), (0, .ref b), (1, .ref a1), (2, .ref a2)]) C dL_law_754 (by decide) 3 rfl 7 (by decide) e_x16.symm rfl ?_
                refine g_goto C 18 dL_law_757 rfl ?_
                exact g_lv [1, 2, 3, 0] rfl (hrec18 _ _ _ _ s_a1 s_a2 h)
              · replace h := iq q h
                refine g_iconst (v := 0) C dL_law_285 (by decide) ?_
                exact absurd h (by decide)
            · replace h := iq q33_4 h
              by_cases q33_5 : x1 = 5
              · replace h := ip q33_5 h
                refine g_tabIn C 287 5 dL_law_33 (sw_in q33_5 rfl) (by decide) (by decide) rfl rfl ?_
                refine g_aload_n C dL_law_287 1 rfl ?_
                refine g_aload_n C dL_law_288 0 rfl ?_
                refine g_iload_n C dL_law_289 3 rfl ?_
                refine g_iconst (v := 1) C dL_law_290 (by decide) ?_
                refine g_iadd C dL_law_291 ?_
                obtain ⟨hg, h⟩ := gs h
                refine g_xld C hX hbl (ib_in hg) dL_law_292 ?_
                refine g_aload_n C dL_law_293 0 rfl ?_
                refine g_iload_n C dL_law_294 3 rfl ?_
                refine g_iconst (v := 2) C dL_law_295 (by decide) ?_
                refine g_iadd C dL_law_296 ?_
                obtain ⟨hg, h⟩ := gs h
                refine g_xld C hX hbl (ib_in hg) dL_law_297 ?_
                refine g_aload_n C dL_law_298 0 rfl ?_
                refine g_iload_n C dL_law_299 3 rfl ?_
                refine g_iconst (v := 3) C dL_law_300 (by decide) ?_
                refine g_iadd C dL_law_301 ?_
                obtain ⟨hg, h⟩ := gs h
                refine g_xld C hX hbl (ib_in hg) dL_law_302 ?_
                obtain ⟨q17, e_q17, h⟩ := bs h
                refine g_callVI C (kX9_colour s_a1 e_q17) miX9_colour lmL_37 s_a1 (by decide) rfl rfl rfl (Nat.le_of_ble_eq_true rfl) dL_law_303 ⟨by decide, by decide⟩ ⟨by decide, by decide⟩ ?_
                refine g_aload_n C dL_law_306 2 rfl ?_
                refine g_aload_n C dL_law_307 0 rfl ?_
                refine g_iload_n C dL_law_308 3 rfl ?_
                refine g_iconst (v := 1) C dL_law_309 (by decide) ?_
                refine g_iadd C dL_law_310 ?_
                obtain ⟨hg, h⟩ := gs h
                refine g_xld C hX hbl (ib_in hg) dL_law_311 ?_
                refine g_aload_n C dL_law_312 0 rfl ?_
                refine g_iload_n C dL_law_313 3 rfl ?_
                refine g_iconst (v := 2) C dL_law_314 (by decide) ?_
                refine g_iadd C dL_law_315 ?_
                obtain ⟨hg, h⟩ := gs h
                refine g_xld C hX hbl (ib_in hg) dL_law_316 ?_
                refine g_aload_n C dL_law_317 0 rfl ?_
                refine g_iload_n C dL_law_318 3 rfl ?_
                refine g_iconst (v := 3) C dL_law_319 (by decide) ?_
                refine g_iadd C dL_law_320 ?_
                obtain ⟨hg, h⟩ := gs h
                refine g_xld C hX hbl (ib_in hg) dL_law_321 ?_
                obtain ⟨q18, e_q18, h⟩ := bs h
                refine g_callVI C (kX10_colour s_a2 e_q18) miX10_colour lmL_41 s_a2 (by decide) rfl rfl rfl (Nat.le_of_ble_eq_true rfl) dL_law_322 ⟨by decide, by decide⟩ ⟨by decide, by decide⟩ ?_
                refine g_icmp_eq C 754 dL_law_325 rfl (fun q => ?_) (fun q => ?_)
                · replace h := ip q h
                  obtain ⟨x19, e_x19, h⟩ := nm h
                  refine g_iinc (v := x19) (lv' := [(3, .int x19), (0, .ref b), (1, .ref a1), (2, .ref a2)]) C dL_law_754 (by decide) 3 rfl 7 (by decide) e_x19.symm rfl ?_
                  refine g_goto C 18 dL_law_757 rfl ?_
                  exact g_lv [1, 2, 3, 0] rfl (hrec18 _ _ _ _ s_a1 s_a2 h)
                · replace h := iq q h
                  refine g_iconst (v := 0) C dL_law_328 (by decide) ?_
                  exact absurd h (by decide)
              · replace h := iq q33_5 h
                by_cases q33_6 : x1 = 6
                · replace h := ip q33_6 h
                  refine g_tabIn C 330 6 dL_law_33 (sw_in q33_6 rfl) (by decide) (by decide) rfl rfl ?_
                  refine g_aload_n C dL_law_330 1 rfl ?_
                  refine g_aload_n C dL_law_331 0 rfl ?_
                  refine g_iload_n C dL_law_332 3 rfl ?_
                  refine g_iconst (v := 1) C dL_law_333 (by decide) ?_
                  refine g_iadd C dL_law_334 ?_
                  obtain ⟨hg, h⟩ := gs h
                  refine g_xld C hX hbl (ib_in hg) dL_law_335 ?_
                  refine g_aload_n C dL_law_336 0 rfl ?_
                  refine g_iload_n C dL_law_337 3 rfl ?_
                  refine g_iconst (v := 2) C dL_law_338 (by decide) ?_
                  refine g_iadd C dL_law_339 ?_
                  obtain ⟨hg, h⟩ := gs h
                  refine g_xld C hX hbl (ib_in hg) dL_law_340 ?_
                  refine g_aload_n C dL_law_341 0 rfl ?_
                  refine g_iload_n C dL_law_342 3 rfl ?_
                  refine g_iconst (v := 3) C dL_law_343 (by decide) ?_
                  refine g_iadd C dL_law_344 ?_
                  obtain ⟨hg, h⟩ := gs h
                  refine g_xld C hX hbl (ib_in hg) dL_law_345 ?_
                  refine g_aload_n C dL_law_346 0 rfl ?_
                  refine g_iload_n C dL_law_347 3 rfl ?_
                  refine g_iconst (v := 4) C dL_law_348 (by decide) ?_
                  refine g_iadd C dL_law_349 ?_
                  obtain ⟨hg, h⟩ := gs h
                  refine g_xld C hX hbl (ib_in hg) dL_law_350 ?_
                  refine g_aload_n C dL_law_351 0 rfl ?_
                  refine g_iload_n C dL_law_352 3 rfl ?_
                  refine g_iconst (v := 5) C dL_law_353 (by decide) ?_
                  refine g_iadd C dL_law_354 ?_
                  obtain ⟨hg, h⟩ := gs h
                  refine g_xld C hX hbl (ib_in hg) dL_law_355 ?_
                  refine g_aload_n C dL_law_356 0 rfl ?_
                  refine g_iload_n C dL_law_357 3 rfl ?_
                  refine g_bipush (v := 6) C dL_law_358 (by decide) ?_
                  refine g_iadd C dL_law_360 ?_
                  obtain ⟨hg, h⟩ := gs h
                  refine g_xld C hX hbl (ib_in hg) dL_law_361 ?_
                  refine g_if_eq C 369 dL_law_362 rfl (fun q => ?_) (fun q => ?_)
                  · replace h := ip q h
                    refine g_iconst (v := 0) C dL_law_369 (by decide) ?_
                    exact g_lv [0, 1, 2, 3] rfl (wL_law_L370 C hX hbl hrec18 _ _ _ _ _ _ _ _ _ _ _ s_a1 s_a2 s_a1 h)
                  · replace h := iq q h
                    refine g_iconst (v := 1) C dL_law_365 (by decide) ?_
                    refine g_goto C 370 dL_law_366 rfl ?_
                    exact g_lv [0, 1, 2, 3] rfl (wL_law_L370 C hX hbl hrec18 _ _ _ _ _ _ _ _ _ _ _ s_a1 s_a2 s_a1 h)
                · replace h := iq q33_6 h
                  by_cases q33_7 : x1 = 7
                  · replace h := ip q33_7 h
                    refine g_tabIn C 421 7 dL_law_33 (sw_in q33_7 rfl) (by decide) (by decide) rfl rfl ?_
                    refine g_aload_n C dL_law_421 1 rfl ?_
                    refine g_aload_n C dL_law_422 0 rfl ?_
                    refine g_iload_n C dL_law_423 3 rfl ?_
                    refine g_iconst (v := 1) C dL_law_424 (by decide) ?_
                    refine g_iadd C dL_law_425 ?_
                    obtain ⟨hg, h⟩ := gs h
                    refine g_xld C hX hbl (ib_in hg) dL_law_426 ?_
                    refine g_aload_n C dL_law_427 0 rfl ?_
                    refine g_iload_n C dL_law_428 3 rfl ?_
                    refine g_iconst (v := 2) C dL_law_429 (by decide) ?_
                    refine g_iadd C dL_law_430 ?_
                    obtain ⟨hg, h⟩ := gs h
                    refine g_xld C hX hbl (ib_in hg) dL_law_431 ?_
                    refine g_aload_n C dL_law_432 0 rfl ?_
                    refine g_iload_n C dL_law_433 3 rfl ?_
                    refine g_iconst (v := 3) C dL_law_434 (by decide) ?_
                    refine g_iadd C dL_law_435 ?_
                    obtain ⟨hg, h⟩ := gs h
                    refine g_xld C hX hbl (ib_in hg) dL_law_436 ?_
                    refine g_aload_n C dL_law_437 0 rfl ?_
                    refine g_iload_n C dL_law_438 3 rfl ?_
                    refine g_iconst (v := 4) C dL_law_439 (by decide) ?_
                    refine g_iadd C dL_law_440 ?_
                    obtain ⟨hg, h⟩ := gs h
                    refine g_xld C hX hbl (ib_in hg) dL_law_441 ?_
                    refine g_aload_n C dL_law_442 0 rfl ?_
                    refine g_iload_n C dL_law_443 3 rfl ?_
                    refine g_iconst (v := 5) C dL_law_444 (by decide) ?_
                    refine g_iadd C dL_law_445 ?_
                    obtain ⟨hg, h⟩ := gs h
                    refine g_xld C hX hbl (ib_in hg) dL_law_446 ?_
                    refine g_if_eq C 454 dL_law_447 rfl (fun q => ?_) (fun q => ?_)
                    · replace h := ip q h
                      refine g_iconst (v := 0) C dL_law_454 (by decide) ?_
                      exact g_lv [0, 1, 2, 3] rfl (wL_law_L455 C hX hbl hrec18 _ _ _ _ _ _ _ _ _ _ s_a1 s_a2 s_a1 h)
                    · replace h := iq q h
                      refine g_iconst (v := 1) C dL_law_450 (by decide) ?_
                      refine g_goto C 455 dL_law_451 rfl ?_
                      exact g_lv [0, 1, 2, 3] rfl (wL_law_L455 C hX hbl hrec18 _ _ _ _ _ _ _ _ _ _ s_a1 s_a2 s_a1 h)
                  · replace h := iq q33_7 h
                    by_cases q33_8 : x1 = 8
                    · replace h := ip q33_8 h
                      refine g_tabIn C 500 8 dL_law_33 (sw_in q33_8 rfl) (by decide) (by decide) rfl rfl ?_
                      refine g_aload_n C dL_law_500 1 rfl ?_
                      refine g_aload_n C dL_law_501 0 rfl ?_
                      refine g_iload_n C dL_law_502 3 rfl ?_
                      refine g_iconst (v := 1) C dL_law_503 (by decide) ?_
                      refine g_iadd C dL_law_504 ?_
                      obtain ⟨hg, h⟩ := gs h
                      refine g_xld C hX hbl (ib_in hg) dL_law_505 ?_
                      refine g_aload_n C dL_law_506 0 rfl ?_
                      refine g_iload_n C dL_law_507 3 rfl ?_
                      refine g_iconst (v := 2) C dL_law_508 (by decide) ?_
                      refine g_iadd C dL_law_509 ?_
                      obtain ⟨hg, h⟩ := gs h
                      refine g_xld C hX hbl (ib_in hg) dL_law_510 ?_
                      refine g_aload_n C dL_law_511 0 rfl ?_
                      refine g_iload_n C dL_law_512 3 rfl ?_
                      refine g_iconst (v := 3) C dL_law_513 (by decide) ?_
                      refine g_iadd C dL_law_514 ?_
                      obtain ⟨hg, h⟩ := gs h
                      refine g_xld C hX hbl (ib_in hg) dL_law_515 ?_
                      refine g_aload_n C dL_law_516 0 rfl ?_
                      refine g_iload_n C dL_law_517 3 rfl ?_
                      refine g_iconst (v := 4) C dL_law_518 (by decide) ?_
                      refine g_iadd C dL_law_519 ?_
                      obtain ⟨hg, h⟩ := gs h
                      refine g_xld C hX hbl (ib_in hg) dL_law_520 ?_
                      obtain ⟨q20, e_q20, h⟩ := bs h
                      refine g_callVI C (kX9_paint s_a1 e_q20) miX9_paint lmL_52 s_a1 (by decide) rfl rfl rfl (Nat.le_of_ble_eq_true rfl) dL_law_521 ⟨by decide, by decide⟩ ⟨by decide, by decide⟩ ?_
                      refine g_aload_n C dL_law_524 2 rfl ?_
                      refine g_aload_n C dL_law_525 0 rfl ?_
                      refine g_iload_n C dL_law_526 3 rfl ?_
                      refine g_iconst (v := 1) C dL_law_527 (by decide) ?_
                      refine g_iadd C dL_law_528 ?_
                      obtain ⟨hg, h⟩ := gs h
                      refine g_xld C hX hbl (ib_in hg) dL_law_529 ?_
                      refine g_aload_n C dL_law_530 0 rfl ?_
                      refine g_iload_n C dL_law_531 3 rfl ?_
                      refine g_iconst (v := 2) C dL_law_532 (by decide) ?_
                      refine g_iadd C dL_law_533 ?_
                      obtain ⟨hg, h⟩ := gs h
                      refine g_xld C hX hbl (ib_in hg) dL_law_534 ?_
                      refine g_aload_n C dL_law_535 0 rfl ?_
                      refine g_iload_n C dL_law_536 3 rfl ?_
                      refine g_iconst (v := 3) C dL_law_537 (by decide) ?_
                      refine g_iadd C dL_law_538 ?_
                      obtain ⟨hg, h⟩ := gs h
                      refine g_xld C hX hbl (ib_in hg) dL_law_539 ?_
                      refine g_aload_n C dL_law_540 0 rfl ?_
                      refine g_iload_n C dL_law_541 3 rfl ?_
                      refine g_iconst (v := 4) C dL_law_542 (by decide) ?_
                      refine g_iadd C dL_law_543 ?_
                      obtain ⟨hg, h⟩ := gs h
                      refine g_xld C hX hbl (ib_in hg) dL_law_544 ?_
                      obtain ⟨q21, e_q21, h⟩ := bs h
                      refine g_callVI C (kX10_paint s_a2 e_q21) miX10_paint lmL_55 s_a2 (by decide) rfl rfl rfl (Nat.le_of_ble_eq_true rfl) dL_law_545 ⟨by decide, by decide⟩ ⟨by decide, by decide⟩ ?_
                      refine g_icmp_eq C 754 dL_law_548 rfl (fun q => ?_) (fun q => ?_)
                      · replace h := ip q h
                        obtain ⟨x22, e_x22, h⟩ := nm h
                        refine g_iinc (v := x22) (lv' := [(3, .int x22), (0, .ref b), (1, .ref a1), (2, .ref a2)]) C dL_law_754 (by decide) 3 rfl 7 (by decide) e_x22.symm rfl ?_
                        refine g_goto C 18 dL_law_757 rfl ?_
                        exact g_lv [1, 2, 3, 0] rfl (hrec18 _ _ _ _ s_a1 s_a2 h)
                      · replace h := iq q h
                        refine g_iconst (v := 0) C dL_law_551 (by decide) ?_
                        exact absurd h (by decide)
                    · replace h := iq q33_8 h
                      by_cases q33_9 : x1 = 9
                      · replace h := ip q33_9 h
                        refine g_tabIn C 553 9 dL_law_33 (sw_in q33_9 rfl) (by decide) (by decide) rfl rfl ?_
                        refine g_aload_n C dL_law_553 1 rfl ?_
                        obtain ⟨q23, e_q23, h⟩ := bs h
                        refine g_callVI C (kX9_write s_a1 e_q23) miX9_write lmL_56 s_a1 (by decide) rfl rfl rfl (Nat.le_of_ble_eq_true rfl) dL_law_554 ⟨by decide, by decide⟩ ⟨by decide, by decide⟩ ?_
                        refine g_aload_n C dL_law_557 2 rfl ?_
                        obtain ⟨q24, e_q24, h⟩ := bs h
                        refine g_callVI C (kX10_write s_a2 e_q24) miX10_write lmL_59 s_a2 (by decide) rfl rfl rfl (Nat.le_of_ble_eq_true rfl) dL_law_558 ⟨by decide, by decide⟩ ⟨by decide, by decide⟩ ?_
                        refine g_icmp_eq C 754 dL_law_561 rfl (fun q => ?_) (fun q => ?_)
                        · replace h := ip q h
                          obtain ⟨x25, e_x25, h⟩ := nm h
                          refine g_iinc (v := x25) (lv' := [(3, .int x25), (0, .ref b), (1, .ref a1), (2, .ref a2)]) C dL_law_754 (by decide) 3 rfl 7 (by decide) e_x25.symm rfl ?_
                          refine g_goto C 18 dL_law_757 rfl ?_
                          exact g_lv [1, 2, 3, 0] rfl (hrec18 _ _ _ _ s_a1 s_a2 h)
                        · replace h := iq q h
                          refine g_iconst (v := 0) C dL_law_564 (by decide) ?_
                          exact absurd h (by decide)
                      · replace h := iq q33_9 h
                        by_cases q33_10 : x1 = 10
                        · replace h := ip q33_10 h
                          refine g_tabIn C 566 10 dL_law_33 (sw_in q33_10 rfl) (by decide) (by decide) rfl rfl ?_
                          refine g_aload_n C dL_law_566 1 rfl ?_
                          refine g_aload_n C dL_law_567 0 rfl ?_
                          refine g_iload_n C dL_law_568 3 rfl ?_
                          refine g_iconst (v := 1) C dL_law_569 (by decide) ?_
                          refine g_iadd C dL_law_570 ?_
                          obtain ⟨hg, h⟩ := gs h
                          refine g_xld C hX hbl (ib_in hg) dL_law_571 ?_
                          obtain ⟨x26, e_x26, h⟩ := bs h
                          refine g_callVI C (kX9_out s_a1 e_x26) miX9_out lmL_60 s_a1 (by decide) rfl rfl rfl (Nat.le_of_ble_eq_true rfl) dL_law_572 ⟨by decide, by decide⟩ ⟨by decide, by decide⟩ ?_
                          refine g_aload_n C dL_law_575 2 rfl ?_
                          refine g_aload_n C dL_law_576 0 rfl ?_
                          refine g_iload_n C dL_law_577 3 rfl ?_
                          refine g_iconst (v := 1) C dL_law_578 (by decide) ?_
                          refine g_iadd C dL_law_579 ?_
                          obtain ⟨hg, h⟩ := gs h
                          refine g_xld C hX hbl (ib_in hg) dL_law_580 ?_
                          obtain ⟨x27, e_x27, h⟩ := bs h
                          refine g_callVI C (kX10_out s_a2 e_x27) miX10_out lmL_63 s_a2 (by decide) rfl rfl rfl (Nat.le_of_ble_eq_true rfl) dL_law_581 ⟨by decide, by decide⟩ ⟨by decide, by decide⟩ ?_
                          refine g_icmp_eq C 754 dL_law_584 rfl (fun q => ?_) (fun q => ?_)
                          · replace h := ip q h
                            obtain ⟨x28, e_x28, h⟩ := nm h
                            refine g_iinc (v := x28) (lv' := [(3, .int x28), (0, .ref b), (1, .ref a1), (2, .ref a2)]) C dL_law_754 (by decide) 3 rfl 7 (by decide) e_x28.symm rfl ?_
                            refine g_goto C 18 dL_law_757 rfl ?_
                            exact g_lv [1, 2, 3, 0] rfl (hrec18 _ _ _ _ s_a1 s_a2 h)
                          · replace h := iq q h
                            refine g_iconst (v := 0) C dL_law_587 (by decide) ?_
                            exact absurd h (by decide)
                        · replace h := iq q33_10 h
                          by_cases q33_11 : x1 = 11
                          · replace h := ip q33_11 h
                            refine g_tabIn C 589 11 dL_law_33 (sw_in q33_11 rfl) (by decide) (by decide) rfl rfl ?_
                            refine g_aload_n C dL_law_589 1 rfl ?_
                            refine g_aload_n C dL_law_590 0 rfl ?_
                            refine g_iload_n C dL_law_591 3 rfl ?_
                            refine g_iconst (v := 1) C dL_law_592 (by decide) ?_
                            refine g_iadd C dL_law_593 ?_
                            obtain ⟨hg, h⟩ := gs h
                            refine g_xld C hX hbl (ib_in hg) dL_law_594 ?_
                            obtain ⟨x29, e_x29, h⟩ := nm h
                            refine g_callVI C (kX9_about s_a1 e_x29.symm) miX9_about lmL_64 s_a1 (by decide) rfl rfl rfl (Nat.le_of_ble_eq_true rfl) dL_law_595 ⟨by decide, by decide⟩ ⟨by decide, by decide⟩ ?_
                            refine g_aload_n C dL_law_598 2 rfl ?_
                            refine g_aload_n C dL_law_599 0 rfl ?_
                            refine g_iload_n C dL_law_600 3 rfl ?_
                            refine g_iconst (v := 1) C dL_law_601 (by decide) ?_
                            refine g_iadd C dL_law_602 ?_
                            obtain ⟨hg, h⟩ := gs h
                            refine g_xld C hX hbl (ib_in hg) dL_law_603 ?_
                            obtain ⟨x30, e_x30, h⟩ := bs h
                            refine g_callVI C (kX10_about s_a2 e_x30) miX10_about lmL_67 s_a2 (by decide) rfl rfl rfl (Nat.le_of_ble_eq_true rfl) dL_law_604 ⟨by decide, by decide⟩ ⟨by decide, by decide⟩ ?_
                            refine g_icmp_eq C 754 dL_law_607 rfl (fun q => ?_) (fun q => ?_)
                            · replace h := ip q h
                              obtain ⟨x31, e_x31, h⟩ := nm h
                              refine g_iinc (v := x31) (lv' := [(3, .int x31), (0, .ref b), (1, .ref a1), (2, .ref a2)]) C dL_law_754 (by decide) 3 rfl 7 (by decide) e_x31.symm rfl ?_
                              refine g_goto C 18 dL_law_757 rfl ?_
                              exact g_lv [1, 2, 3, 0] rfl (hrec18 _ _ _ _ s_a1 s_a2 h)
                            · replace h := iq q h
                              refine g_iconst (v := 0) C dL_law_610 (by decide) ?_
                              exact absurd h (by decide)
                          · replace h := iq q33_11 h
                            by_cases q33_12 : x1 = 12
                            · replace h := ip q33_12 h
                              refine g_tabIn C 612 12 dL_law_33 (sw_in q33_12 rfl) (by decide) (by decide) rfl rfl ?_
                              refine g_aload_n C dL_law_612 1 rfl ?_
                              refine g_aload_n C dL_law_613 0 rfl ?_
                              refine g_iload_n C dL_law_614 3 rfl ?_
                              refine g_iconst (v := 1) C dL_law_615 (by decide) ?_
                              refine g_iadd C dL_law_616 ?_
                              obtain ⟨hg, h⟩ := gs h
                              refine g_xld C hX hbl (ib_in hg) dL_law_617 ?_
                              refine g_aload_n C dL_law_618 0 rfl ?_
                              refine g_iload_n C dL_law_619 3 rfl ?_
                              refine g_iconst (v := 2) C dL_law_620 (by decide) ?_
                              refine g_iadd C dL_law_621 ?_
                              obtain ⟨hg, h⟩ := gs h
                              refine g_xld C hX hbl (ib_in hg) dL_law_622 ?_
                              obtain ⟨x32, e_x32, h⟩ := bs h
                              refine g_callVI C (kX9_frameOf s_a1 e_x32) miX9_frameOf lmL_68 s_a1 (by decide) rfl rfl rfl (Nat.le_of_ble_eq_true rfl) dL_law_623 ⟨by decide, by decide⟩ ⟨by decide, by decide⟩ ?_
                              refine g_aload_n C dL_law_626 2 rfl ?_
                              refine g_aload_n C dL_law_627 0 rfl ?_
                              refine g_iload_n C dL_law_628 3 rfl ?_
                              refine g_iconst (v := 1) C dL_law_629 (by decide) ?_
                              refine g_iadd C dL_law_630 ?_
                              obtain ⟨hg, h⟩ := gs h
                              refine g_xld C hX hbl (ib_in hg) dL_law_631 ?_
                              refine g_aload_n C dL_law_632 0 rfl ?_
                              refine g_iload_n C dL_law_633 3 rfl ?_
                              refine g_iconst (v := 2) C dL_law_634 (by decide) ?_
                              refine g_iadd C dL_law_635 ?_
                              obtain ⟨hg, h⟩ := gs h
                              refine g_xld C hX hbl (ib_in hg) dL_law_636 ?_
                              obtain ⟨x33, e_x33, h⟩ := bs h
                              refine g_callVI C (kX10_frameOf s_a2 e_x33) miX10_frameOf lmL_72 s_a2 (by decide) rfl rfl rfl (Nat.le_of_ble_eq_true rfl) dL_law_637 ⟨by decide, by decide⟩ ⟨by decide, by decide⟩ ?_
                              refine g_icmp_eq C 754 dL_law_640 rfl (fun q => ?_) (fun q => ?_)
                              · replace h := ip q h
                                obtain ⟨x34, e_x34, h⟩ := nm h
                                refine g_iinc (v := x34) (lv' := [(3, .int x34), (0, .ref b), (1, .ref a1), (2, .ref a2)]) C dL_law_754 (by decide) 3 rfl 7 (by decide) e_x34.symm rfl ?_
                                refine g_goto C 18 dL_law_757 rfl ?_
                                exact g_lv [1, 2, 3, 0] rfl (hrec18 _ _ _ _ s_a1 s_a2 h)
                              · replace h := iq q h
                                refine g_iconst (v := 0) C dL_law_643 (by decide) ?_
                                exact absurd h (by decide)
                            · replace h := iq q33_12 h
                              by_cases q33_13 : x1 = 13
                              · replace h := ip q33_13 h
                                refine g_tabIn C 645 13 dL_law_33 (sw_in q33_13 rfl) (by decide) (by decide) rfl rfl ?_
                                refine g_aload_n C dL_law_645 1 rfl ?_
                                refine g_aload_n C dL_law_646 0 rfl ?_
                                refine g_iload_n C dL_law_647 3 rfl ?_
                                refine g_iconst (v := 1) C dL_law_648 (by decide) ?_
                                refine g_iadd C dL_law_649 ?_
                                obtain ⟨hg, h⟩ := gs h
                                refine g_xld C hX hbl (ib_in hg) dL_law_650 ?_
                                refine g_aload_n C dL_law_651 0 rfl ?_
                                refine g_iload_n C dL_law_652 3 rfl ?_
                                refine g_iconst (v := 2) C dL_law_653 (by decide) ?_
                                refine g_iadd C dL_law_654 ?_
                                obtain ⟨hg, h⟩ := gs h
                                refine g_xld C hX hbl (ib_in hg) dL_law_655 ?_
                                obtain ⟨x35, e_x35, h⟩ := bs h
                                refine g_callVI C (kX9_colourOf s_a1 e_x35) miX9_colourOf lmL_73 s_a1 (by decide) rfl rfl rfl (Nat.le_of_ble_eq_true rfl) dL_law_656 ⟨by decide, by decide⟩ ⟨by decide, by decide⟩ ?_
                                refine g_aload_n C dL_law_659 2 rfl ?_
                                refine g_aload_n C dL_law_660 0 rfl ?_
                                refine g_iload_n C dL_law_661 3 rfl ?_
                                refine g_iconst (v := 1) C dL_law_662 (by decide) ?_
                                refine g_iadd C dL_law_663 ?_
                                obtain ⟨hg, h⟩ := gs h
                                refine g_xld C hX hbl (ib_in hg) dL_law_664 ?_
                                refine g_aload_n C dL_law_665 0 rfl ?_
                                refine g_iload_n C dL_law_666 3 rfl ?_
                                refine g_iconst (v := 2) C dL_law_667 (by decide) ?_
                                refine g_iadd C dL_law_668 ?_
                                obtain ⟨hg, h⟩ := gs h
                                refine g_xld C hX hbl (ib_in hg) dL_law_669 ?_
                                obtain ⟨x36, e_x36, h⟩ := bs h
                                refine g_callVI C (kX10_colourOf s_a2 e_x36) miX10_colourOf lmL_76 s_a2 (by decide) rfl rfl rfl (Nat.le_of_ble_eq_true rfl) dL_law_670 ⟨by decide, by decide⟩ ⟨by decide, by decide⟩ ?_
                                refine g_icmp_eq C 754 dL_law_673 rfl (fun q => ?_) (fun q => ?_)
                                · replace h := ip q h
                                  obtain ⟨x37, e_x37, h⟩ := nm h
                                  refine g_iinc (v := x37) (lv' := [(3, .int x37), (0, .ref b), (1, .ref a1), (2, .ref a2)]) C dL_law_754 (by decide) 3 rfl 7 (by decide) e_x37.symm rfl ?_
                                  refine g_goto C 18 dL_law_757 rfl ?_
                                  exact g_lv [1, 2, 3, 0] rfl (hrec18 _ _ _ _ s_a1 s_a2 h)
                                · replace h := iq q h
                                  refine g_iconst (v := 0) C dL_law_676 (by decide) ?_
                                  exact absurd h (by decide)
                              · replace h := iq q33_13 h
                                by_cases q33_14 : x1 = 14
                                · replace h := ip q33_14 h
                                  refine g_tabIn C 678 14 dL_law_33 (sw_in q33_14 rfl) (by decide) (by decide) rfl rfl ?_
                                  refine g_aload_n C dL_law_678 1 rfl ?_
                                  refine g_aload_n C dL_law_679 0 rfl ?_
                                  refine g_iload_n C dL_law_680 3 rfl ?_
                                  refine g_iconst (v := 1) C dL_law_681 (by decide) ?_
                                  refine g_iadd C dL_law_682 ?_
                                  obtain ⟨hg, h⟩ := gs h
                                  refine g_xld C hX hbl (ib_in hg) dL_law_683 ?_
                                  refine g_aload_n C dL_law_684 0 rfl ?_
                                  refine g_iload_n C dL_law_685 3 rfl ?_
                                  refine g_iconst (v := 2) C dL_law_686 (by decide) ?_
                                  refine g_iadd C dL_law_687 ?_
                                  obtain ⟨hg, h⟩ := gs h
                                  refine g_xld C hX hbl (ib_in hg) dL_law_688 ?_
                                  obtain ⟨x38, e_x38, h⟩ := bs h
                                  refine g_callVI C (kX9_index s_a1 e_x38) miX9_index lmL_77 s_a1 (by decide) rfl rfl rfl (Nat.le_of_ble_eq_true rfl) dL_law_689 ⟨by decide, by decide⟩ ⟨by decide, by decide⟩ ?_
                                  refine g_aload_n C dL_law_692 2 rfl ?_
                                  refine g_aload_n C dL_law_693 0 rfl ?_
                                  refine g_iload_n C dL_law_694 3 rfl ?_
                                  refine g_iconst (v := 1) C dL_law_695 (by decide) ?_
                                  refine g_iadd C dL_law_696 ?_
                                  obtain ⟨hg, h⟩ := gs h
                                  refine g_xld C hX hbl (ib_in hg) dL_law_697 ?_
                                  refine g_aload_n C dL_law_698 0 rfl ?_
                                  refine g_iload_n C dL_law_699 3 rfl ?_
                                  refine g_iconst (v := 2) C dL_law_700 (by decide) ?_
                                  refine g_iadd C dL_law_701 ?_
                                  obtain ⟨hg, h⟩ := gs h
                                  refine g_xld C hX hbl (ib_in hg) dL_law_702 ?_
                                  obtain ⟨x39, e_x39, h⟩ := bs h
                                  refine g_callVI C (kX10_index s_a2 e_x39) miX10_index lmL_80 s_a2 (by decide) rfl rfl rfl (Nat.le_of_ble_eq_true rfl) dL_law_703 ⟨by decide, by decide⟩ ⟨by decide, by decide⟩ ?_
                                  refine g_icmp_eq C 754 dL_law_706 rfl (fun q => ?_) (fun q => ?_)
                                  · replace h := ip q h
                                    obtain ⟨x40, e_x40, h⟩ := nm h
                                    refine g_iinc (v := x40) (lv' := [(3, .int x40), (0, .ref b), (1, .ref a1), (2, .ref a2)]) C dL_law_754 (by decide) 3 rfl 7 (by decide) e_x40.symm rfl ?_
                                    refine g_goto C 18 dL_law_757 rfl ?_
                                    exact g_lv [1, 2, 3, 0] rfl (hrec18 _ _ _ _ s_a1 s_a2 h)
                                  · replace h := iq q h
                                    refine g_iconst (v := 0) C dL_law_709 (by decide) ?_
                                    exact absurd h (by decide)
                                · replace h := iq q33_14 h
                                  by_cases q33_15 : x1 = 15
                                  · replace h := ip q33_15 h
                                    refine g_tabIn C 711 15 dL_law_33 (sw_in q33_15 rfl) (by decide) (by decide) rfl rfl ?_
                                    refine g_aload_n C dL_law_711 1 rfl ?_
                                    refine g_aload_n C dL_law_712 0 rfl ?_
                                    refine g_iload_n C dL_law_713 3 rfl ?_
                                    refine g_iconst (v := 1) C dL_law_714 (by decide) ?_
                                    refine g_iadd C dL_law_715 ?_
                                    obtain ⟨hg, h⟩ := gs h
                                    refine g_xld C hX hbl (ib_in hg) dL_law_716 ?_
                                    refine g_aload_n C dL_law_717 0 rfl ?_
                                    refine g_iload_n C dL_law_718 3 rfl ?_
                                    refine g_iconst (v := 2) C dL_law_719 (by decide) ?_
                                    refine g_iadd C dL_law_720 ?_
                                    obtain ⟨hg, h⟩ := gs h
                                    refine g_xld C hX hbl (ib_in hg) dL_law_721 ?_
                                    refine g_aload_n C dL_law_722 0 rfl ?_
                                    refine g_iload_n C dL_law_723 3 rfl ?_
                                    refine g_iconst (v := 3) C dL_law_724 (by decide) ?_
                                    refine g_iadd C dL_law_725 ?_
                                    obtain ⟨hg, h⟩ := gs h
                                    refine g_xld C hX hbl (ib_in hg) dL_law_726 ?_
                                    obtain ⟨x41, e_x41, h⟩ := bs h
                                    refine g_callVI C (kX9_canvas s_a1 e_x41) miX9_canvas lmL_81 s_a1 (by decide) rfl rfl rfl (Nat.le_of_ble_eq_true rfl) dL_law_727 ⟨by decide, by decide⟩ ⟨by decide, by decide⟩ ?_
                                    refine g_aload_n C dL_law_730 2 rfl ?_
                                    refine g_aload_n C dL_law_731 0 rfl ?_
                                    refine g_iload_n C dL_law_732 3 rfl ?_
                                    refine g_iconst (v := 1) C dL_law_733 (by decide) ?_
                                    refine g_iadd C dL_law_734 ?_
                                    obtain ⟨hg, h⟩ := gs h
                                    refine g_xld C hX hbl (ib_in hg) dL_law_735 ?_
                                    refine g_aload_n C dL_law_736 0 rfl ?_
                                    refine g_iload_n C dL_law_737 3 rfl ?_
                                    refine g_iconst (v := 2) C dL_law_738 (by decide) ?_
                                    refine g_iadd C dL_law_739 ?_
                                    obtain ⟨hg, h⟩ := gs h
                                    refine g_xld C hX hbl (ib_in hg) dL_law_740 ?_
                                    refine g_aload_n C dL_law_741 0 rfl ?_
                                    refine g_iload_n C dL_law_742 3 rfl ?_
                                    refine g_iconst (v := 3) C dL_law_743 (by decide) ?_
                                    refine g_iadd C dL_law_744 ?_
                                    obtain ⟨hg, h⟩ := gs h
                                    refine g_xld C hX hbl (ib_in hg) dL_law_745 ?_
                                    obtain ⟨x42, e_x42, h⟩ := bs h
                                    refine g_callVI C (kX10_canvas s_a2 e_x42) miX10_canvas lmL_85 s_a2 (by decide) rfl rfl rfl (Nat.le_of_ble_eq_true rfl) dL_law_746 ⟨by decide, by decide⟩ ⟨by decide, by decide⟩ ?_
                                    refine g_icmp_eq C 754 dL_law_749 rfl (fun q => ?_) (fun q => ?_)
                                    · replace h := ip q h
                                      obtain ⟨x43, e_x43, h⟩ := nm h
                                      refine g_iinc (v := x43) (lv' := [(3, .int x43), (0, .ref b), (1, .ref a1), (2, .ref a2)]) C dL_law_754 (by decide) 3 rfl 7 (by decide) e_x43.symm rfl ?_
                                      refine g_goto C 18 dL_law_757 rfl ?_
                                      exact g_lv [1, 2, 3, 0] rfl (hrec18 _ _ _ _ s_a1 s_a2 h)
                                    · replace h := iq q h
                                      refine g_iconst (v := 0) C dL_law_752 (by decide) ?_
                                      exact absurd h (by decide)
                                  · replace h := iq q33_15 h
                                    refine g_tabOut C 754 dL_law_33 (by have := lv_neT q33_0 (show Int32.toInt 0 = 0 from rfl); have := lv_neT q33_1 (show Int32.toInt 1 = 1 from rfl); have := lv_neT q33_2 (show Int32.toInt 2 = 2 from rfl); have := lv_neT q33_3 (show Int32.toInt 3 = 3 from rfl); have := lv_neT q33_4 (show Int32.toInt 4 = 4 from rfl); have := lv_neT q33_5 (show Int32.toInt 5 = 5 from rfl); have := lv_neT q33_6 (show Int32.toInt 6 = 6 from rfl); have := lv_neT q33_7 (show Int32.toInt 7 = 7 from rfl); have := lv_neT q33_8 (show Int32.toInt 8 = 8 from rfl); have := lv_neT q33_9 (show Int32.toInt 9 = 9 from rfl); have := lv_neT q33_10 (show Int32.toInt 10 = 10 from rfl); have := lv_neT q33_11 (show Int32.toInt 11 = 11 from rfl); have := lv_neT q33_12 (show Int32.toInt 12 = 12 from rfl); have := lv_neT q33_13 (show Int32.toInt 13 = 13 from rfl); have := lv_neT q33_14 (show Int32.toInt 14 = 14 from rfl); have := lv_neT q33_15 (show Int32.toInt 15 = 15 from rfl); omega) rfl ?_
                                    obtain ⟨x44, e_x44, h⟩ := nm h
                                    refine g_iinc (v := x44) (lv' := [(3, .int x44), (0, .ref b), (1, .ref a1), (2, .ref a2)]) C dL_law_754 (by decide) 3 rfl 7 (by decide) e_x44.symm rfl ?_
                                    refine g_goto C 18 dL_law_757 rfl ?_
                                    exact g_lv [1, 2, 3, 0] rfl (hrec18 _ _ _ _ s_a1 s_a2 h)
theorem wL_law_L18 {p : Program} {l : Launch} {e : Env} {s : State} {m : MethodId} {below : List Frame} {meth : Method} {c : Code} {D : va_G} {cA : Nat → ClassId} {tS : Nat → Nat} {σ : Sg} {fu : Nat} {L b : Nat} {xs : Nat → Int32} (C : Cx p s m #[Value.ref b] meth c (AL s) D cA tS σ cL_law ret 4 RL) (hX : va_X b L xs s s.heap) (hbl : b < s.heap.size) : ∀ (n : Nat) (a1 : Nat) (a2 : Nat) (v3 : Int32) (μ : Mm), (σ a1 = some (9, 0)) → (σ a2 = some (10, 0)) → fL_law_L18 fu L xs n a1 a2 v3 μ = some 1 → GG p l e room_1 s m #[Value.ref b] below meth c 289 577902 (AL s) D cA σ 4 (lw_Z below #[Value.ref b] s) 18 [(0, .ref b), (1, .ref a1), (2, .ref a2), (3, .int v3)] [] μ := by
  intro n
  induction n with
  | zero => intro a1 a2 v3 μ s_a1 s_a2 h; cases h
  | succ n ih => intro a1 a2 v3 μ s_a1 s_a2 h; exact wL_law_B18 C hX hbl (fun _ _ _ _ k0 k1 h => ih _ _ _ _ k0 k1 h) _ _ _ _ s_a1 s_a2 h
