def lt' {α β : Type} (e : α) (f : α → β) : β := f e
theorem nm {α β : Type} {e : α} {f : α → β} {r : β} (h : lt' e f = r) : ∃ x, x = e ∧ f x = r := ⟨e, rfl, h⟩
theorem ip {α : Type} {c : Prop} {d : Decidable c} {a b r : α} (q : c) (h : @ite α c d a b = r) : a = r := by rw [if_pos q] at h; exact h
theorem iq {α : Type} {c : Prop} {d : Decidable c} {a b r : α} (q : ¬ c) (h : @ite α c d a b = r) : b = r := by rw [if_neg q] at h; exact h
def gd {α : Type} (b : Bool) (x : Option α) : Option α := if b = true then x else none
theorem gs {α : Type} {b : Bool} {x : Option α} {r : α} (h : gd b x = some r) : b = true ∧ x = some r := by
  unfold gd at h
  split at h
  · exact ⟨by assumption, h⟩
  · cases h
def bd {α β : Type} (x : Option α) (f : α → Option β) : Option β := match x with
  | none => none
  | some y => f y
theorem bs {α β : Type} {x : Option α} {f : α → Option β} {r : β} (h : bd x f = some r) : ∃ y, x = some y ∧ f y = some r := by
  cases x with
  | none => cases h
  | some y => exact ⟨y, rfl, h⟩
def oc {α : Type} (x : Option Nat) (a : α) (b : Nat → α) : α := match x with
  | none => a
  | some y => b y
theorem oc0 {α : Type} {a : α} {b : Nat → α} {r : α} (h : oc none a b = r) : a = r := h
theorem oc1 {α : Type} {y : Nat} {a : α} {b : Nat → α} {r : α} (h : oc (some y) a b = r) : b y = r := h
def ib (i : Int32) (n : Nat) : Bool := !(decide (i < 0)) && decide (i.toNatClampNeg < n)
theorem ib_in {i : Int32} {n : Nat} (h : ib i n = true) : vp_in i n := by
  simp only [ib, Bool.and_eq_true, Bool.not_eq_true', decide_eq_false_iff_not, decide_eq_true_eq] at h
  rintro (q | q)
  · exact h.1 q
  · omega
theorem ib_lt {i : Int32} {n : Nat} (h : ib i n = true) : i.toNatClampNeg < n := by
  simp only [ib, Bool.and_eq_true, decide_eq_true_eq] at h
  exact h.2
def nz (x : Int32) : Bool := !(decide (x = 0))
theorem nz_ne {x : Int32} (h : nz x = true) : ¬ x = 0 := by simpa [nz] using h
def b01 (x : Int32) : Bool := decide (x = 0) || decide (x = 1)
theorem b01_n {x : Int32} (h : b01 x = true) : narrow .boolean (.int x) = .int x ∧ fits .boolean (.int x) = true := by
  simp only [b01, Bool.or_eq_true, decide_eq_true_eq] at h
  rcases h with rfl | rfl <;> exact ⟨rfl, rfl⟩
def cpk (sp dp n : Int32) (n0 n1 : Nat) : Bool := !(decide (sp < 0)) && !(decide (dp < 0)) && !(decide (n < 0)) && decide (sp.toNatClampNeg + n.toNatClampNeg ≤ n0) && decide (dp.toNatClampNeg + n.toNatClampNeg ≤ n1)
def rmO (f lo : Nat) : Room := { frames := f, cells := 0, slots := 0, locals := lo }
def MI (y : MethodName) (bytes : ByteArray) (mL : Nat) (rt : Option FieldType) (Cn : String) (n : Nat) : Prop :=
  Cond.code y bytes mL rt ∈ lw_big ∧ Cond.instanceMethod y ∈ lw_big ∧ Cond.selects Cn y y ∈ lw_big ∧ Cond.initialized Cn ∈ lw_big ∧ (y.cls = Cn ∧ y.cls ≠ "java/lang/invoke/MethodHandle" ∧ y.cls ≠ "java/lang/invoke/VarHandle" ∧ (parseMethodDescriptor y.desc).map (fun d => d.parameters.length) = some n)
def MS (y : MethodName) (bytes : ByteArray) (mL : Nat) (rt : Option FieldType) (n : Nat) : Prop :=
  Cond.code y bytes mL rt ∈ lw_big ∧ Cond.static y ∈ lw_big ∧ Cond.initialized y.cls ∈ lw_big ∧ (y.cls ≠ "java/lang/invoke/MethodHandle" ∧ y.cls ≠ "java/lang/invoke/VarHandle" ∧ (parseMethodDescriptor y.desc).map (fun d => d.parameters.length) = some n)
def QR (D : va_G) (cA : Nat → ClassId) (σ : Sg) (sh : Nat × Nat) (r : Option Nat) (μ : Mm) : Array Value → State → Outcome → State → Prop := va_Qq (fun (x : Option Nat) (_ : Unit) => x = r ∧ ∀ b, r = some b → σ b = some sh) (fun _ t => MW D cA σ μ t.heap) (dm σ)
section GC
variable {p : Program} {l : Launch} {e : Env} {R : Room} {s : State} {m : MethodId} {args : Array Value} {below : List Frame} {meth : Method} {c : Code} {cl sl : Nat} {A : Nat → Prop} {D : va_G} {cA : Nat → ClassId} {tS : Nat → Nat} {σ : Sg} {cc : ByteArray} {ret : Option FieldType} {nL : Nat} {own : String} {Q : State → Prop} {pc : Nat} {lv : List (Nat × Value)} {st : List Value} {μ : Mm}
theorem g_topi {x v : Int32} (hx : x = v) (k : GG p l e R s m args below meth c cl sl A D cA σ nL Q pc lv (.int x :: st) μ) : GG p l e R s m args below meth c cl sl A D cA σ nL Q pc lv (.int v :: st) μ := by subst hx; exact k
theorem g_topr {x v : Nat} (hx : x = v) (k : GG p l e R s m args below meth c cl sl A D cA σ nL Q pc lv (.ref x :: st) μ) : GG p l e R s m args below meth c cl sl A D cA σ nL Q pc lv (.ref v :: st) μ := by subst hx; exact k
theorem g_top2r {x v : Nat} {w : Value} (hx : x = v) (k : GG p l e R s m args below meth c cl sl A D cA σ nL Q pc lv (w :: .ref x :: st) μ) : GG p l e R s m args below meth c cl sl A D cA σ nL Q pc lv (w :: .ref v :: st) μ := by subst hx; exact k
theorem g_topq {x v : Option Nat} (hx : x = v) (k : GG p l e R s m args below meth c cl sl A D cA σ nL Q pc lv (va_rf x :: st) μ) : GG p l e R s m args below meth c cl sl A D cA σ nL Q pc lv (va_rf v :: st) μ := by subst hx; exact k
theorem g_mu {μ1 μ2 : Mm} (hx : μ1 = μ2) (k : GG p l e R s m args below meth c cl sl A D cA σ nL Q pc lv st μ1) : GG p l e R s m args below meth c cl sl A D cA σ nL Q pc lv st μ2 := by subst hx; exact k
theorem g_aload_nq (C : Cx p s m args meth c A D cA tS σ cc ret nL own) {k : Fin 4} {x : Option Nat} (hd : decode cc pc = .ok (.aload_n k, 1)) (j : Nat) (hj : lv[j]? = some ((k : Nat), va_rf x)) (k : GG p l e R s m args below meth c cl sl A D cA σ nL Q (pc + 1) lv (va_rf x :: st) μ) : GG p l e R s m args below meth c cl sl A D cA σ nL Q pc lv st μ := fun H locs ls hM hz hS hl => by
  cases x with
  | none => exact lv_aload_nN C.1 C.2.1 hd rfl (lv_at hl j hj) (k H locs ls hM hz hS hl)
  | some y => exact lv_aload_n C.1 C.2.1 hd rfl (lv_at hl j hj) (k H locs ls hM hz hS hl)
theorem g_aloadq (C : Cx p s m args meth c A D cA tS σ cc ret nL own) {i : Nat} {x : Option Nat} (hd : decode cc pc = .ok (.aload i, 2)) (j : Nat) (hj : lv[j]? = some (i, va_rf x)) (k : GG p l e R s m args below meth c cl sl A D cA σ nL Q (pc + 2) lv (va_rf x :: st) μ) : GG p l e R s m args below meth c cl sl A D cA σ nL Q pc lv st μ := fun H locs ls hM hz hS hl => by
  cases x with
  | none => exact lv_aloadN C.1 C.2.1 hd (lv_at hl j hj) (k H locs ls hM hz hS hl)
  | some y => exact lv_aload C.1 C.2.1 hd (lv_at hl j hj) (k H locs ls hM hz hS hl)
theorem g_astore_nq (C : Cx p s m args meth c A D cA tS σ cc ret nL own) {k : Fin 4} {x : Option Nat} {lv' : List (Nat × Value)} (hd : decode cc pc = .ok (.astore_n k, 1)) (hn : (k : Nat) < nL) (hl' : lset lv (k : Nat) (va_rf x) = lv') (k : GG p l e R s m args below meth c cl sl A D cA σ nL Q (pc + 1) lv' st μ) : GG p l e R s m args below meth c cl sl A D cA σ nL Q pc lv (va_rf x :: st) μ := fun H locs ls hM hz hS hl => by
  cases x with
  | none => exact lv_astore_nN C.1 C.2.1 hd rfl hl hn hl' (fun ls' hl2 => k H locs ls' hM hz hS hl2)
  | some y => exact lv_astore_n C.1 C.2.1 hd rfl hl hn hl' (fun ls' hl2 => k H locs ls' hM hz hS hl2)
theorem g_astoreq (C : Cx p s m args meth c A D cA tS σ cc ret nL own) {i : Nat} {x : Option Nat} {lv' : List (Nat × Value)} (hd : decode cc pc = .ok (.astore i, 2)) (hn : i < nL) (hl' : lset lv i (va_rf x) = lv') (k : GG p l e R s m args below meth c cl sl A D cA σ nL Q (pc + 2) lv' st μ) : GG p l e R s m args below meth c cl sl A D cA σ nL Q pc lv (va_rf x :: st) μ := fun H locs ls hM hz hS hl => by
  cases x with
  | none => exact lv_astoreN C.1 C.2.1 hd hl hn hl' (fun ls' hl2 => k H locs ls' hM hz hS hl2)
  | some y => exact lv_astore C.1 C.2.1 hd hl hn hl' (fun ls' hl2 => k H locs ls' hM hz hS hl2)
theorem g_dup2 (C : Cx p s m args meth c A D cA tS σ cc ret nL own) {v w : Value} (hd : decode cc pc = .ok (.dup2, 1)) (hv : v.category = 1) (hw : w.category = 1) (k : GG p l e R s m args below meth c cl sl A D cA σ nL Q (pc + 1) lv (v :: w :: v :: w :: st) μ) : GG p l e R s m args below meth c cl sl A D cA σ nL Q pc lv (v :: w :: st) μ := fun H locs ls hM hz hS hl => lv_dup2_11 C.1 C.2.1 hd hv hw (k H locs ls hM hz hS hl)
theorem g_areturn {r : Option Nat} {μ' : Mm} {sh : Nat × Nat} {rt : FieldType} (C : Cx p s m args meth c (dm σ) D cA tS σ cc (some rt) nL own) (hrt : (∃ n, rt = .object n) ∨ ∃ t, rt = .array t) (hr : ∀ b, r = some b → σ b = some sh) (hd : decode cc pc = .ok (.areturn, 1)) : GG p l e R s m args below meth c 0 0 (dm σ) D cA σ nL (MQ below (QR D cA σ sh r μ') args s 0 0 (dm σ)) pc lv [va_rf r] μ' := fun H locs ls hM hz hS hl => W.aret (hlocks := C.2.2.2.2.2.2.1) C.1 C.2.1 C.2.2.1 hrt (va_rf_or r) (fun t ht hW => ⟨⟨r, (), rfl, ⟨rfl, hr⟩, by show MW D cA σ μ' t.heap; rw [ht]; exact hM⟩, hS.F ht⟩) hS.2.2 hd
theorem g_ldc_w (C : Cx p s m args meth c A D cA tS σ cc ret nL own) {i : Nat} {v : Int32} (hd : decode cc pc = .ok (.ldc_w i, 3)) (hw : Cond.constant own i v ∈ lw_big) (k : GG p l e R s m args below meth c cl sl A D cA σ nL Q (pc + 3) lv (.int v :: st) μ) : GG p l e R s m args below meth c cl sl A D cA σ nL Q pc lv st μ := fun H locs ls hM hz hS hl => lv_ldcw C.1 C.2.1 C.2.2.2.2.1 (C.2.2.2.2.2.1 _ hw) hd (k H locs ls hM hz hS hl)
theorem g_getsN {x : Nat} {Cn fn host : String} (C : Cx p s m args meth c A D cA tS σ cc ret nL own) {ix : Nat} (hZ : Kx D cA tS A s → va_Z Cn fn "[I" (.ref (tS x)) A s s.heap) (hw : Kx D cA tS A s → va_Nw (.fieldLinkNest own ix Cn fn "[I" host) s) (hd : decode cc pc = .ok (.getstatic ix, 3)) (k : GG p l e R s m args below meth c cl sl A D cA σ nL Q (pc + 3) lv (.ref (tS x) :: st) μ) : GG p l e R s m args below meth c cl sl A D cA σ nL Q pc lv st μ := fun H locs ls hM hz hS hl => va_getsN C.1 C.2.1 (hZ C.2.2.2.2.2.2.2.1) hS C.2.2.2.2.1 (va_Nw.use rfl (hw C.2.2.2.2.2.2.2.1)) (fun _ h => h) hd (k H locs ls hM hz hS hl)
theorem g_iincW (C : Cx p s m args meth c A D cA tS σ cc ret nL own) {i : Nat} {n : Int} {x v : Int32} {lv' : List (Nat × Value)} (hd : decode cc pc = .ok (.iinc i n, 6)) (hn : i < nL) (j : Nat) (hj : lv[j]? = some (i, .int x)) (w : Int32) (hw : Int32.ofInt n = w) (hv : x + w = v) (hl' : lset lv i (.int v) = lv') (k : GG p l e R s m args below meth c cl sl A D cA σ nL Q (pc + 6) lv' st μ) : GG p l e R s m args below meth c cl sl A D cA σ nL Q pc lv st μ := fun H locs ls hM hz hS hl => lv_iincW C.1 C.2.1 hd hl hj (by rw [hw]; exact hv) hn hl' (fun ls' hl2 => k H locs ls' hM hz hS hl2)
theorem goodV {ix : Nat} {y : MethodName} {Cn : String} {bytes : ByteArray} {mL n : Nat} {rt : Option FieldType} (hm : MI y bytes mL rt Cn n) (hlk : Cond.methodLink own ix y ∈ lw_big) : GoodIn lw_big (wsV own ix Cn y (.code y bytes mL rt :: lw_big)) := by
  have key : ∀ w, w ∈ lw_big → w ∈ lw_big ∧ ((w.onTables && w.keeps) = true ∨ ∃ ty, w = .arrayClass ty) := fun w h => ⟨h, big_good h⟩
  intro w hw
  simp only [wsV, List.mem_append, List.mem_cons, List.not_mem_nil, or_false] at hw
  rcases hw with (rfl | rfl | rfl | rfl) | (rfl | h)
  · exact key _ hlk
  · exact key _ hm.2.1
  · exact key _ hm.2.2.1
  · exact key _ hm.2.2.2.1
  · exact key _ hm.1
  · exact key _ h
theorem goodS {ix : Nat} {y : MethodName} {bytes : ByteArray} {mL n : Nat} {rt : Option FieldType} (hm : MS y bytes mL rt n) (hlk : Cond.methodLink own ix y ∈ lw_big) : GoodIn lw_big (va_wsS own ix y (.code y bytes mL rt :: lw_big)) := by
  have key : ∀ w, w ∈ lw_big → w ∈ lw_big ∧ ((w.onTables && w.keeps) = true ∨ ∃ ty, w = .arrayClass ty) := fun w h => ⟨h, big_good h⟩
  intro w hw
  simp only [va_wsS, List.mem_append, List.mem_cons, List.not_mem_nil, or_false] at hw
  rcases hw with (rfl | rfl | rfl) | (rfl | h)
  · exact key _ hlk
  · exact key _ hm.2.1
  · exact key _ hm.2.2.1
  · exact key _ hm.1
  · exact key _ h
variable {y : MethodName} {bytes : ByteArray} {mL n ix b t N f lo : Nat} {rt : Option FieldType} {As rest : List Value} {Qc : Array Value → State → Outcome → State → Prop} {Cn : String} {T : u_T} {μ' : Mm}
theorem g_runV (C : Cx p s m args meth c A D cA tS σ cc ret nL own) (hc : Ct l D cA tS σ y bytes mL rt (rmO f lo) (.ref b :: As) μ Qc) (hm : MI y bytes mL rt Cn n) (hlk : Cond.methodLink own ix y ∈ lw_big) (hb : σ b = some (t, 0)) (ht : t < 11) (hcl : vwCl[t]? = some (Cn, T, N)) (hn : As.length = n) (hst : st = As.reverse ++ .ref b :: rest) (hw8 : (rest.map fun v => v.category).sum ≤ 8) (hd : decode cc pc = .ok (.invokevirtual ix, 3)) (hR : f + 1 ≤ R.frames ∧ 8 + (mL + 11) + lo ≤ R.locals) {H : Heap} {locs : List Loc} {ls : Array Slot} (hcs : cl ≤ R.cells ∧ sl ≤ R.slots) (hM : MW D cA σ μ H) (hS : va_S A s.heap H locs) (hl : lv_has ls nL lv) :
    va_Run p l e R s m args below meth c H locs cl sl 0 0 (F0 m pc ls st) rest (Qc (Value.ref b :: As).toArray) (dm σ) := by
  obtain ⟨hT, L, hL, hP, hD⟩ := id hM
  obtain ⟨q, hq⟩ := pl_at (cA := cA) (μ := μ) hL hb
  have he : ce cA (t, 0) (μ.1 b) (μ.2 b) = .inr (t, fl t (μ.1 b) (μ.2 b)) := by simp only [ce]; rw [if_neg (by omega), if_neg (by omega), if_neg (by omega), if_neg (by omega), if_neg (by omega), if_neg (by omega)]
  rw [he] at hq
  exact va_runV (g := F0 m pc ls st) (As := As) ⟨C.1, C.2.1, C.2.2.2.1, C.2.2.2.2.1, C.2.2.2.2.2.1⟩ hc (cwV n C.2.2.2.2.2.1 (goodV hm hlk) rfl rfl rfl hm.2.2.2.2 hR) ⟨PcM.blind, va_recv C.2.2.2.2.2.2.2.1.1 hP hcl hq, PcM.at hM C.2.2.2.2.2.2.2.2 C.2.2.2.2.2.2.2.1 hS⟩ rfl hn hl.1 hst (lv_room hw8) hd hcs
theorem g_runS (C : Cx p s m args meth c A D cA tS σ cc ret nL own) (hc : Ct l D cA tS σ y bytes mL rt (rmO f lo) As μ Qc) (hm : MS y bytes mL rt n) (hlk : Cond.methodLink own ix y ∈ lw_big) (hn : As.length = n) (hst : st = As.reverse ++ rest) (hw8 : (rest.map fun v => v.category).sum ≤ 8) (hd : decode cc pc = .ok (.invokestatic ix, 3)) (hR : f + 1 ≤ R.frames ∧ 8 + (mL + 11) + lo ≤ R.locals) {H : Heap} {locs : List Loc} {ls : Array Slot} (hcs : cl ≤ R.cells ∧ sl ≤ R.slots) (hM : MW D cA σ μ H) (hS : va_S A s.heap H locs) (hl : lv_has ls nL lv) :
    va_Run p l e R s m args below meth c H locs cl sl 0 0 (F0 m pc ls st) rest (Qc As.toArray) (dm σ) :=
  va_runS (g := F0 m pc ls st) (As := As) ⟨C.1, C.2.1, C.2.2.2.1, C.2.2.2.2.1, C.2.2.2.2.2.1⟩ hc (va_cwS n C.2.2.2.2.2.1 (goodS hm hlk) rfl rfl rfl hm.2.2.2 hR) ⟨PcM.blind, PcM.at hM C.2.2.2.2.2.2.2.2 C.2.2.2.2.2.2.2.1 hS⟩ rfl hn hl.1 hst (lv_room hw8) hd hcs
theorem g_runN {host : String} (C : Cx p s m args meth c A D cA tS σ cc ret nL own) (hc : Ct l D cA tS σ y bytes mL rt (rmO f lo) As μ Qc) (hm : MS y bytes mL rt n) (hlk : Kx D cA tS A s → va_Nw (.methodLinkNest own ix y host) s) (hn : As.length = n) (hst : st = As.reverse ++ rest) (hw8 : (rest.map fun v => v.category).sum ≤ 8) (hd : decode cc pc = .ok (.invokestatic ix, 3)) (hR : f + 1 ≤ R.frames ∧ 8 + (mL + 11) + lo ≤ R.locals) {H : Heap} {locs : List Loc} {ls : Array Slot} (hcs : cl ≤ R.cells ∧ sl ≤ R.slots) (hM : MW D cA σ μ H) (hS : va_S A s.heap H locs) (hl : lv_has ls nL lv) :
    va_Run p l e R s m args below meth c H locs cl sl 0 0 (F0 m pc ls st) rest (Qc As.toArray) (dm σ) :=
  va_runSN (g := F0 m pc ls st) (As := As) (host := host) ⟨C.1, C.2.1, C.2.2.2.1, C.2.2.2.2.1, C.2.2.2.2.2.1⟩ hc ⟨va_cnB n C.2.2.2.2.2.1 (big_gi (fun _ h => h) hm.1) rfl rfl rfl (hlk C.2.2.2.2.2.2.2.1) (C.2.2.2.2.2.1 _ hm.2.2.1) hm.2.2.2 hR, C.2.2.2.2.2.1 _ hm.2.1, trivial⟩ ⟨PcM.blind, PcM.at hM C.2.2.2.2.2.2.2.2 C.2.2.2.2.2.2.2.1 hS⟩ rfl hn hl.1 hst (lv_room hw8) hd hcs
theorem g_callVI {r : Int32} (C : Cx p s m args meth c A D cA tS σ cc ret nL own) (hc : Ct l D cA tS σ y bytes mL rt (rmO f lo) (.ref b :: As) μ (QI D cA σ r μ')) (hm : MI y bytes mL rt Cn n) (hlk : Cond.methodLink own ix y ∈ lw_big) (hb : σ b = some (t, 0)) (ht : t < 11) (hcl : vwCl[t]? = some (Cn, T, N)) (hn : As.length = n) (hst : st = As.reverse ++ .ref b :: rest) (hw8 : (rest.map fun v => v.category).sum ≤ 8) (hd : decode cc pc = .ok (.invokevirtual ix, 3)) (hR : f + 1 ≤ R.frames ∧ 8 + (mL + 11) + lo ≤ R.locals) (hcs : cl ≤ R.cells ∧ sl ≤ R.slots)
    (k : GG p l e R s m args below meth c cl sl A D cA σ nL Q (pc + 3) lv (.int r :: rest) μ') : GG p l e R s m args below meth c cl sl A D cA σ nL Q pc lv st μ := fun H locs ls hM hz hS hl => va_calli (g_runV C hc hm hlk hb ht hcl hn hst hw8 hd hR hcs hM hS hl) hS (fun _ _ h => C.2.2.2.2.2.2.2.2 _ h) (fun _ h => C.2.2.2.2.2.2.2.2 _ h) (fun x u t H1 locs1 ht hvm hp hB hz hk hS1 => by rw [show x = r from hp]; exact wsz (fun hle => k H1 locs1 ls (ht ▸ hB) (by omega) hS1 hl))
theorem g_callVV  (C : Cx p s m args meth c A D cA tS σ cc ret nL own) (hc : Ct l D cA tS σ y bytes mL rt (rmO f lo) (.ref b :: As) μ (QV D cA σ μ')) (hm : MI y bytes mL rt Cn n) (hlk : Cond.methodLink own ix y ∈ lw_big) (hb : σ b = some (t, 0)) (ht : t < 11) (hcl : vwCl[t]? = some (Cn, T, N)) (hn : As.length = n) (hst : st = As.reverse ++ .ref b :: rest) (hw8 : (rest.map fun v => v.category).sum ≤ 8) (hd : decode cc pc = .ok (.invokevirtual ix, 3)) (hR : f + 1 ≤ R.frames ∧ 8 + (mL + 11) + lo ≤ R.locals) (hcs : cl ≤ R.cells ∧ sl ≤ R.slots)
    (k : GG p l e R s m args below meth c cl sl A D cA σ nL Q (pc + 3) lv rest μ') : GG p l e R s m args below meth c cl sl A D cA σ nL Q pc lv st μ := fun H locs ls hM hz hS hl => va_callv (g_runV C hc hm hlk hb ht hcl hn hst hw8 hd hR hcs hM hS hl) hS (fun _ _ h => C.2.2.2.2.2.2.2.2 _ h) (fun _ h => C.2.2.2.2.2.2.2.2 _ h) (fun u t H1 locs1 ht hvm hp hB hz hk hS1 => wsz (fun hle => k H1 locs1 ls (ht ▸ hB) (by omega) hS1 hl))
theorem g_callVQ {r : Option Nat} {sh : Nat × Nat} (C : Cx p s m args meth c A D cA tS σ cc ret nL own) (hc : Ct l D cA tS σ y bytes mL rt (rmO f lo) (.ref b :: As) μ (QR D cA σ sh r μ')) (hm : MI y bytes mL rt Cn n) (hlk : Cond.methodLink own ix y ∈ lw_big) (hb : σ b = some (t, 0)) (ht : t < 11) (hcl : vwCl[t]? = some (Cn, T, N)) (hn : As.length = n) (hst : st = As.reverse ++ .ref b :: rest) (hw8 : (rest.map fun v => v.category).sum ≤ 8) (hd : decode cc pc = .ok (.invokevirtual ix, 3)) (hR : f + 1 ≤ R.frames ∧ 8 + (mL + 11) + lo ≤ R.locals) (hcs : cl ≤ R.cells ∧ sl ≤ R.slots)
    (k : (∀ b, r = some b → σ b = some sh) → GG p l e R s m args below meth c cl sl A D cA σ nL Q (pc + 3) lv (va_rf r :: rest) μ') : GG p l e R s m args below meth c cl sl A D cA σ nL Q pc lv st μ := fun H locs ls hM hz hS hl => va_callq (g_runV C hc hm hlk hb ht hcl hn hst hw8 hd hR hcs hM hS hl) hS (fun _ _ h => C.2.2.2.2.2.2.2.2 _ h) (fun _ h => C.2.2.2.2.2.2.2.2 _ h) (fun x u t H1 locs1 ht hvm hp hB hz hk hS1 => by rw [show x = r from hp.1]; exact wsz (fun hle => k hp.2 H1 locs1 ls (ht ▸ hB) (by omega) hS1 hl))
theorem g_callSI {r : Int32} (C : Cx p s m args meth c A D cA tS σ cc ret nL own) (hc : Ct l D cA tS σ y bytes mL rt (rmO f lo) As μ (QI D cA σ r μ')) (hm : MS y bytes mL rt n) (hlk : Cond.methodLink own ix y ∈ lw_big) (hn : As.length = n) (hst : st = As.reverse ++ rest) (hw8 : (rest.map fun v => v.category).sum ≤ 8) (hd : decode cc pc = .ok (.invokestatic ix, 3)) (hR : f + 1 ≤ R.frames ∧ 8 + (mL + 11) + lo ≤ R.locals) (hcs : cl ≤ R.cells ∧ sl ≤ R.slots)
    (k : GG p l e R s m args below meth c cl sl A D cA σ nL Q (pc + 3) lv (.int r :: rest) μ') : GG p l e R s m args below meth c cl sl A D cA σ nL Q pc lv st μ := fun H locs ls hM hz hS hl => va_calli (g_runS C hc hm hlk hn hst hw8 hd hR hcs hM hS hl) hS (fun _ _ h => C.2.2.2.2.2.2.2.2 _ h) (fun _ h => C.2.2.2.2.2.2.2.2 _ h) (fun x u t H1 locs1 ht hvm hp hB hz hk hS1 => by rw [show x = r from hp]; exact wsz (fun hle => k H1 locs1 ls (ht ▸ hB) (by omega) hS1 hl))
theorem g_callSV  (C : Cx p s m args meth c A D cA tS σ cc ret nL own) (hc : Ct l D cA tS σ y bytes mL rt (rmO f lo) As μ (QV D cA σ μ')) (hm : MS y bytes mL rt n) (hlk : Cond.methodLink own ix y ∈ lw_big) (hn : As.length = n) (hst : st = As.reverse ++ rest) (hw8 : (rest.map fun v => v.category).sum ≤ 8) (hd : decode cc pc = .ok (.invokestatic ix, 3)) (hR : f + 1 ≤ R.frames ∧ 8 + (mL + 11) + lo ≤ R.locals) (hcs : cl ≤ R.cells ∧ sl ≤ R.slots)
    (k : GG p l e R s m args below meth c cl sl A D cA σ nL Q (pc + 3) lv rest μ') : GG p l e R s m args below meth c cl sl A D cA σ nL Q pc lv st μ := fun H locs ls hM hz hS hl => va_callv (g_runS C hc hm hlk hn hst hw8 hd hR hcs hM hS hl) hS (fun _ _ h => C.2.2.2.2.2.2.2.2 _ h) (fun _ h => C.2.2.2.2.2.2.2.2 _ h) (fun u t H1 locs1 ht hvm hp hB hz hk hS1 => wsz (fun hle => k H1 locs1 ls (ht ▸ hB) (by omega) hS1 hl))
theorem g_callSQ {r : Option Nat} {sh : Nat × Nat} (C : Cx p s m args meth c A D cA tS σ cc ret nL own) (hc : Ct l D cA tS σ y bytes mL rt (rmO f lo) As μ (QR D cA σ sh r μ')) (hm : MS y bytes mL rt n) (hlk : Cond.methodLink own ix y ∈ lw_big) (hn : As.length = n) (hst : st = As.reverse ++ rest) (hw8 : (rest.map fun v => v.category).sum ≤ 8) (hd : decode cc pc = .ok (.invokestatic ix, 3)) (hR : f + 1 ≤ R.frames ∧ 8 + (mL + 11) + lo ≤ R.locals) (hcs : cl ≤ R.cells ∧ sl ≤ R.slots)
    (k : (∀ b, r = some b → σ b = some sh) → GG p l e R s m args below meth c cl sl A D cA σ nL Q (pc + 3) lv (va_rf r :: rest) μ') : GG p l e R s m args below meth c cl sl A D cA σ nL Q pc lv st μ := fun H locs ls hM hz hS hl => va_callq (g_runS C hc hm hlk hn hst hw8 hd hR hcs hM hS hl) hS (fun _ _ h => C.2.2.2.2.2.2.2.2 _ h) (fun _ h => C.2.2.2.2.2.2.2.2 _ h) (fun x u t H1 locs1 ht hvm hp hB hz hk hS1 => by rw [show x = r from hp.1]; exact wsz (fun hle => k hp.2 H1 locs1 ls (ht ▸ hB) (by omega) hS1 hl))
theorem g_callNI {r : Int32} (C : Cx p s m args meth c A D cA tS σ cc ret nL own) {host : String} (hc : Ct l D cA tS σ y bytes mL rt (rmO f lo) As μ (QI D cA σ r μ')) (hm : MS y bytes mL rt n) (hlk : Kx D cA tS A s → va_Nw (.methodLinkNest own ix y host) s) (hn : As.length = n) (hst : st = As.reverse ++ rest) (hw8 : (rest.map fun v => v.category).sum ≤ 8) (hd : decode cc pc = .ok (.invokestatic ix, 3)) (hR : f + 1 ≤ R.frames ∧ 8 + (mL + 11) + lo ≤ R.locals) (hcs : cl ≤ R.cells ∧ sl ≤ R.slots)
    (k : GG p l e R s m args below meth c cl sl A D cA σ nL Q (pc + 3) lv (.int r :: rest) μ') : GG p l e R s m args below meth c cl sl A D cA σ nL Q pc lv st μ := fun H locs ls hM hz hS hl => va_calli (g_runN C hc hm hlk hn hst hw8 hd hR hcs hM hS hl) hS (fun _ _ h => C.2.2.2.2.2.2.2.2 _ h) (fun _ h => C.2.2.2.2.2.2.2.2 _ h) (fun x u t H1 locs1 ht hvm hp hB hz hk hS1 => by rw [show x = r from hp]; exact wsz (fun hle => k H1 locs1 ls (ht ▸ hB) (by omega) hS1 hl))
theorem g_callNV  (C : Cx p s m args meth c A D cA tS σ cc ret nL own) {host : String} (hc : Ct l D cA tS σ y bytes mL rt (rmO f lo) As μ (QV D cA σ μ')) (hm : MS y bytes mL rt n) (hlk : Kx D cA tS A s → va_Nw (.methodLinkNest own ix y host) s) (hn : As.length = n) (hst : st = As.reverse ++ rest) (hw8 : (rest.map fun v => v.category).sum ≤ 8) (hd : decode cc pc = .ok (.invokestatic ix, 3)) (hR : f + 1 ≤ R.frames ∧ 8 + (mL + 11) + lo ≤ R.locals) (hcs : cl ≤ R.cells ∧ sl ≤ R.slots)
    (k : GG p l e R s m args below meth c cl sl A D cA σ nL Q (pc + 3) lv rest μ') : GG p l e R s m args below meth c cl sl A D cA σ nL Q pc lv st μ := fun H locs ls hM hz hS hl => va_callv (g_runN C hc hm hlk hn hst hw8 hd hR hcs hM hS hl) hS (fun _ _ h => C.2.2.2.2.2.2.2.2 _ h) (fun _ h => C.2.2.2.2.2.2.2.2 _ h) (fun u t H1 locs1 ht hvm hp hB hz hk hS1 => wsz (fun hle => k H1 locs1 ls (ht ▸ hB) (by omega) hS1 hl))
theorem g_callNQ {r : Option Nat} {sh : Nat × Nat} (C : Cx p s m args meth c A D cA tS σ cc ret nL own) {host : String} (hc : Ct l D cA tS σ y bytes mL rt (rmO f lo) As μ (QR D cA σ sh r μ')) (hm : MS y bytes mL rt n) (hlk : Kx D cA tS A s → va_Nw (.methodLinkNest own ix y host) s) (hn : As.length = n) (hst : st = As.reverse ++ rest) (hw8 : (rest.map fun v => v.category).sum ≤ 8) (hd : decode cc pc = .ok (.invokestatic ix, 3)) (hR : f + 1 ≤ R.frames ∧ 8 + (mL + 11) + lo ≤ R.locals) (hcs : cl ≤ R.cells ∧ sl ≤ R.slots)
    (k : (∀ b, r = some b → σ b = some sh) → GG p l e R s m args below meth c cl sl A D cA σ nL Q (pc + 3) lv (va_rf r :: rest) μ') : GG p l e R s m args below meth c cl sl A D cA σ nL Q pc lv st μ := fun H locs ls hM hz hS hl => va_callq (g_runN C hc hm hlk hn hst hw8 hd hR hcs hM hS hl) hS (fun _ _ h => C.2.2.2.2.2.2.2.2 _ h) (fun _ h => C.2.2.2.2.2.2.2.2 _ h) (fun x u t H1 locs1 ht hvm hp hB hz hk hS1 => by rw [show x = r from hp.1]; exact wsz (fun hle => k hp.2 H1 locs1 ls (ht ▸ hB) (by omega) hS1 hl))
def mmax (x y : Int32) : Int32 := if x < y then y else x
def mmin (x y : Int32) : Int32 := if y < x then y else x
theorem g_mmax (C : Cx p s m args meth c A D cA tS σ cc ret nL own) (hlk : Cond.methodLink own ix Lib.Math.max.name ∈ lw_big) (hcode : Cond.code Lib.Math.max.name Lib.Math.max.code 2 (some .int) ∈ lw_big) (hst : Cond.static Lib.Math.max.name ∈ lw_big) (hini : Cond.initialized "java/lang/Math" ∈ lw_big) (hR : 1 ≤ R.frames ∧ (rest.map fun v => v.category).sum + 13 ≤ R.locals ∧ cl ≤ R.cells ∧ sl ≤ R.slots) {x y : Int32} (hd : decode cc pc = .ok (.invokestatic ix, 3)) (k : GG p l e R s m args below meth c cl sl A D cA σ nL Q (pc + 3) lv (.int (mmax x y) :: rest) μ) : GG p l e R s m args below meth c cl sl A D cA σ nL Q pc lv (.int y :: .int x :: rest) μ := fun H locs ls hM hz hS hl => va_mmax C.1 C.2.1 (by rw [C.2.2.2.1]; exact hl.1.symm) C.2.2.2.2.1 (C.2.2.2.2.2.1 _ hlk) (C.2.2.2.2.2.1 _ hst) (C.2.2.2.2.2.1 _ hini) (C.2.2.2.2.2.1 _ hcode) hR.1 hR.2.1 hR.2.2.1 hR.2.2.2 hd (k H locs ls hM hz hS hl)
theorem g_mmin (C : Cx p s m args meth c A D cA tS σ cc ret nL own) (hlk : Cond.methodLink own ix Lib.Math.min.name ∈ lw_big) (hcode : Cond.code Lib.Math.min.name Lib.Math.min.code 2 (some .int) ∈ lw_big) (hst : Cond.static Lib.Math.min.name ∈ lw_big) (hini : Cond.initialized "java/lang/Math" ∈ lw_big) (hR : 1 ≤ R.frames ∧ (rest.map fun v => v.category).sum + 13 ≤ R.locals ∧ cl ≤ R.cells ∧ sl ≤ R.slots) {x y : Int32} (hd : decode cc pc = .ok (.invokestatic ix, 3)) (k : GG p l e R s m args below meth c cl sl A D cA σ nL Q (pc + 3) lv (.int (mmin x y) :: rest) μ) : GG p l e R s m args below meth c cl sl A D cA σ nL Q pc lv (.int y :: .int x :: rest) μ := fun H locs ls hM hz hS hl => va_mmin C.1 C.2.1 (by rw [C.2.2.2.1]; exact hl.1.symm) C.2.2.2.2.1 (C.2.2.2.2.2.1 _ hlk) (C.2.2.2.2.2.1 _ hst) (C.2.2.2.2.2.1 _ hini) (C.2.2.2.2.2.1 _ hcode) hR.1 hR.2.1 hR.2.2.1 hR.2.2.2 hd (k H locs ls hM hz hS hl)
theorem g_copy (C : Cx p s m args meth c A D cA tS σ cc ret nL own) {a0 a1 n0 n1 : Nat} {sp dp k : Int32} (h0 : σ a0 = some (11, n0)) (h1 : σ a1 = some (11, n1)) (hk : cpk sp dp k n0 n1 = true) (hlk : Cond.methodLink own ix arraycopyName ∈ lw_big) (hini : Cond.initialized "java/lang/System" ∈ lw_big) (hR : 1 ≤ R.frames ∧ (rest.map fun v => v.category).sum + (nativeFrameWords "java/lang/System" "arraycopy" 5 + 11) ≤ R.locals) (hd : decode cc pc = .ok (.invokestatic ix, 3))
    (kk : GG p l e R s m args below meth c cl sl A D cA σ nL Q (pc + 3) lv rest (sa μ a1 (va_cpy (μ.1 a0) (μ.1 a1) sp.toNatClampNeg dp.toNatClampNeg k.toNatClampNeg))) : GG p l e R s m args below meth c cl sl A D cA σ nL Q pc lv (.int k :: .int dp :: .ref a1 :: .int sp :: .ref a0 :: rest) μ := by
  intro H locs ls hM hz hS hl
  obtain ⟨hT, L, hL, hP, hD⟩ := hM
  obtain ⟨q0, hq0⟩ := pl_at (cA := cA) (μ := μ) hL h0
  obtain ⟨q1, hq1⟩ := pl_at (cA := cA) (μ := μ) hL h1
  simp only [cpk, Bool.and_eq_true, Bool.not_eq_true', decide_eq_false_iff_not, decide_eq_true_eq] at hk
  obtain ⟨⟨⟨⟨k1, k2⟩, k3⟩, k4⟩, k5⟩ := hk
  have hset := pl_set (μ' := sa μ a1 (va_cpy (μ.1 a0) (μ.1 a1) sp.toNatClampNeg dp.toNatClampNeg k.toNatClampNeg)) (e := .inl (cA 0, n1, .inl (va_cpy (μ.1 a0) (μ.1 a1) sp.toNatClampNeg dp.toNatClampNeg k.toNatClampNeg))) hL hD h1 hq1 (by simp only [sa, s2_s]; rfl) (fun b hb => ⟨by simp only [sa]; exact s2_o hb, rfl⟩)
  refine va_copyi C.1 C.2.1 (by rw [C.2.2.2.1]; exact hl.1.symm) C.2.2.2.2.1 (C.2.2.2.2.2.1 _ hlk) (C.2.2.2.2.2.1 _ wvC) (C.2.2.2.2.2.1 _ wtC) (C.2.2.2.2.2.1 _ hini) C.2.2.2.2.2.2.2.1.1 hP (pl_D hL C.2.2.2.2.2.2.2.2 hD) (S_self hS) q0 q1 0 0 (f := μ.1 a0) (g := μ.1 a1) hq0 hq1 rfl rfl rfl k1 k2 k3 k4 k5 (fun _ _ => rfl) hR.1 hR.2 hd (fun H1 locs1 hP1 hD1 hS1 => ?_)
  rw [hset] at hP1 hD1
  exact wsz (fun hle => kk H1 locs1 ls ⟨hT, L, hL, hP1, D_true hD1⟩ (by have := hS1.1; omega) (S_trans hS hS1) hl)
end GC
