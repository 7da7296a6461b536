/-! the memory: ints and references by address and place; shapes; the world that holds them -/
abbrev Mm : Type := (Nat → Nat → Int32) × (Nat → Nat → Nat)
def u1 {α : Type} (f : Nat → α) (k : Nat) (v : α) : Nat → α := fun j => if j = k then v else f j
def u2 {α : Type} (f : Nat → Nat → α) (a k : Nat) (v : α) : Nat → Nat → α := fun b => if b = a then u1 (f a) k v else f b
def s2 {α : Type} (f : Nat → α) (a : Nat) (v : α) : Nat → α := fun b => if b = a then v else f b
def si (μ : Mm) (a k : Nat) (v : Int32) : Mm := (u2 μ.1 a k v, μ.2)
def sr (μ : Mm) (a k : Nat) (v : Nat) : Mm := (μ.1, u2 μ.2 a k v)
def sa (μ : Mm) (a : Nat) (f : Nat → Int32) : Mm := (s2 μ.1 a f, μ.2)
abbrev Sg : Type := Nat → Option (Nat × Nat)
def dm (σ : Sg) : Nat → Prop := fun q => σ q ≠ none
theorem dm_of {σ : Sg} {a : Nat} {sh : Nat × Nat} (h : σ a = some sh) : dm σ a := by unfold dm; rw [h]; exact fun q => by cases q
def fl (t : Nat) (ri : Nat → Int32) (rr : Nat → Nat) : List Value := match t with
  | 0 => [.ref (rr 0), .int (ri 1), .int (ri 2)]
  | 1 => [.ref (rr 0), .ref (rr 1), .ref (rr 2), .ref (rr 3), .ref (rr 4), .ref (rr 5), .int (ri 6), .int (ri 7), .int (ri 8), .int (ri 9), .int (ri 10), .int (ri 11)]
  | 2 => [.ref (rr 0), .ref (rr 1), .ref (rr 2), .ref (rr 3), .ref (rr 4), .int (ri 5), .int (ri 6), .int (ri 7), .int (ri 8), .int (ri 9), .int (ri 10), .int (ri 11)]
  | 3 => [.int (ri 0), .int (ri 1), .int (ri 2), .int (ri 3), .int (ri 4), .ref (rr 5), .ref (rr 6), .ref (rr 7)]
  | 4 => [.int (ri 0), .int (ri 1), .int (ri 2), .int (ri 3), .int (ri 4), .ref (rr 5), .ref (rr 6)]
  | 5 => [.ref (rr 0), .ref (rr 1), .ref (rr 2), .ref (rr 3), .int (ri 4), .int (ri 5), .int (ri 6), .int (ri 7), .int (ri 8), .int (ri 9), .int (ri 10)]
  | 6 => [.ref (rr 0), .ref (rr 1)]
  | 7 => [.ref (rr 0), .int (ri 1)]
  | 8 => [.int (ri 0), .int (ri 1), .int (ri 2), .int (ri 3)]
  | 9 => [.ref (rr 0), .ref (rr 1), .ref (rr 2), .ref (rr 3), .ref (rr 4), .int (ri 5)]
  | 10 => [.ref (rr 0), .ref (rr 1), .int (ri 2), .int (ri 3), .int (ri 4), .int (ri 5), .int (ri 6), .ref (rr 7), .ref (rr 8), .ref (rr 9), .ref (rr 10), .ref (rr 11), .int (ri 12), .int (ri 13), .int (ri 14), .int (ri 15), .int (ri 16), .int (ri 17), .int (ri 18), .int (ri 19), .int (ri 20), .ref (rr 21), .int (ri 22), .int (ri 23), .ref (rr 24), .ref (rr 25), .ref (rr 26), .ref (rr 27), .int (ri 28), .int (ri 29), .int (ri 30), .int (ri 31), .int (ri 32), .int (ri 33), .int (ri 34), .ref (rr 35), .ref (rr 36), .ref (rr 37)]
  | _ => []
/-- what a reference at a place of an object leads to: the number of its kind, its length -/
def ex (t k : Nat) : Option (Nat × Nat) := match t, k with
  | 0, 0 => some (11, 12000)
  | 1, 0 => some (0, 0)
  | 1, 1 => some (11, 4096)
  | 1, 2 => some (11, 4096)
  | 1, 3 => some (11, 4096)
  | 1, 4 => some (11, 4096)
  | 1, 5 => some (11, 4096)
  | 2, 0 => some (0, 0)
  | 2, 1 => some (11, 4096)
  | 2, 2 => some (11, 4096)
  | 2, 3 => some (11, 4096)
  | 2, 4 => some (11, 4096)
  | 3, 5 => some (7, 0)
  | 3, 6 => some (8, 0)
  | 3, 7 => some (11, 4096)
  | 4, 5 => some (7, 0)
  | 4, 6 => some (14, 24)
  | 5, 0 => some (0, 0)
  | 5, 1 => some (1, 0)
  | 5, 2 => some (8, 0)
  | 5, 3 => some (4, 0)
  | 6, 0 => some (2, 0)
  | 6, 1 => some (0, 0)
  | 7, 0 => some (11, 256)
  | 9, 0 => some (0, 0)
  | 9, 1 => some (5, 0)
  | 9, 2 => some (6, 0)
  | 9, 3 => some (4, 0)
  | 9, 4 => some (0, 0)
  | 10, 0 => some (12, 12020)
  | 10, 1 => some (12, 12020)
  | 10, 7 => some (11, 12)
  | 10, 8 => some (11, 512)
  | 10, 9 => some (11, 480)
  | 10, 10 => some (11, 12288)
  | 10, 11 => some (13, 196608)
  | 10, 21 => some (12, 12020)
  | 10, 24 => some (13, 4096)
  | 10, 25 => some (13, 4096)
  | 10, 26 => some (13, 4096)
  | 10, 27 => some (13, 4096)
  | 10, 35 => some (12, 256)
  | 10, 36 => some (13, 4096)
  | 10, 37 => some (13, 4096)
  | _, _ => none
def nv (b : Bool) (a : Nat) : Value := if b = true then .ref a else .null
def flp (t mk : Nat) (ri : Nat → Int32) (rr : Nat → Nat) : List Value := match t with
  | 0 => [nv (mk.testBit 0) (rr 0), .int (ri 1), .int (ri 2)]
  | 1 => [nv (mk.testBit 0) (rr 0), nv (mk.testBit 1) (rr 1), nv (mk.testBit 2) (rr 2), nv (mk.testBit 3) (rr 3), nv (mk.testBit 4) (rr 4), nv (mk.testBit 5) (rr 5), .int (ri 6), .int (ri 7), .int (ri 8), .int (ri 9), .int (ri 10), .int (ri 11)]
  | 2 => [nv (mk.testBit 0) (rr 0), nv (mk.testBit 1) (rr 1), nv (mk.testBit 2) (rr 2), nv (mk.testBit 3) (rr 3), nv (mk.testBit 4) (rr 4), .int (ri 5), .int (ri 6), .int (ri 7), .int (ri 8), .int (ri 9), .int (ri 10), .int (ri 11)]
  | 3 => [.int (ri 0), .int (ri 1), .int (ri 2), .int (ri 3), .int (ri 4), nv (mk.testBit 5) (rr 5), nv (mk.testBit 6) (rr 6), nv (mk.testBit 7) (rr 7)]
  | 4 => [.int (ri 0), .int (ri 1), .int (ri 2), .int (ri 3), .int (ri 4), nv (mk.testBit 5) (rr 5), nv (mk.testBit 6) (rr 6)]
  | 5 => [nv (mk.testBit 0) (rr 0), nv (mk.testBit 1) (rr 1), nv (mk.testBit 2) (rr 2), nv (mk.testBit 3) (rr 3), .int (ri 4), .int (ri 5), .int (ri 6), .int (ri 7), .int (ri 8), .int (ri 9), .int (ri 10)]
  | 6 => [nv (mk.testBit 0) (rr 0), nv (mk.testBit 1) (rr 1)]
  | 7 => [nv (mk.testBit 0) (rr 0), .int (ri 1)]
  | 8 => [.int (ri 0), .int (ri 1), .int (ri 2), .int (ri 3)]
  | 9 => [nv (mk.testBit 0) (rr 0), nv (mk.testBit 1) (rr 1), nv (mk.testBit 2) (rr 2), nv (mk.testBit 3) (rr 3), nv (mk.testBit 4) (rr 4), .int (ri 5)]
  | 10 => [nv (mk.testBit 0) (rr 0), nv (mk.testBit 1) (rr 1), .int (ri 2), .int (ri 3), .int (ri 4), .int (ri 5), .int (ri 6), nv (mk.testBit 7) (rr 7), nv (mk.testBit 8) (rr 8), nv (mk.testBit 9) (rr 9), nv (mk.testBit 10) (rr 10), nv (mk.testBit 11) (rr 11), .int (ri 12), .int (ri 13), .int (ri 14), .int (ri 15), .int (ri 16), .int (ri 17), .int (ri 18), .int (ri 19), .int (ri 20), nv (mk.testBit 21) (rr 21), .int (ri 22), .int (ri 23), nv (mk.testBit 24) (rr 24), nv (mk.testBit 25) (rr 25), nv (mk.testBit 26) (rr 26), nv (mk.testBit 27) (rr 27), .int (ri 28), .int (ri 29), .int (ri 30), .int (ri 31), .int (ri 32), .int (ri 33), .int (ri 34), nv (mk.testBit 35) (rr 35), nv (mk.testBit 36) (rr 36), nv (mk.testBit 37) (rr 37)]
  | _ => []
def ce (cA : Nat → ClassId) (sh : Nat × Nat) (ri : Nat → Int32) (rr : Nat → Nat) : va_E :=
  if sh.1 = 11 then .inl (cA 0, sh.2, .inl ri) else if sh.1 = 12 then .inl (cA 1, sh.2, .inl ri) else if sh.1 = 13 then .inl (cA 2, sh.2, .inl ri)
  else if sh.1 = 14 then .inl (cA 3, sh.2, .inr (.inr (.inr (.inr (fun j => some (rr j)))))) else if sh.1 = 15 then .inl (cA 3, 24, .inr (.inr (.inr (.inr (fun j => if j < sh.2 then some (rr j) else none))))) else if 20 ≤ sh.1 then .inr (sh.1 - 20, flp (sh.1 - 20) sh.2 ri rr) else .inr (sh.1, fl sh.1 ri rr)
def cf (cA : Nat → ClassId) (σ : Sg) (μ : Mm) : Nat → va_E := fun a => ce cA ((σ a).getD (99, 0)) (μ.1 a) (μ.2 a)
/-- references hold what their places say -/
def WT (σ : Sg) (rr : Nat → Nat → Nat) : Prop := (∀ a t k sh, σ a = some (t, 0) → ex t k = some sh → σ (rr a k) = some sh) ∧ (∀ a n k, σ a = some (14, n) → k < n → σ (rr a k) = some (3, 0))
def MW (D : va_G) (cA : Nat → ClassId) (σ : Sg) (μ : Mm) (H : Heap) : Prop := WT σ μ.2 ∧ ∃ L : List Nat, (∀ a, a ∈ L ↔ dm σ a) ∧ va_P D vwCl (va_pl L (cf cA σ μ)) H ∧ va_D (fun _ => True) (va_pl L (cf cA σ μ))
theorem cf_at {cA : Nat → ClassId} {σ : Sg} {μ : Mm} {a : Nat} {sh : Nat × Nat} (h : σ a = some sh) : cf cA σ μ a = ce cA sh (μ.1 a) (μ.2 a) := by simp [cf, h]
theorem pl_at {cA : Nat → ClassId} {σ : Sg} {μ : Mm} {L : List Nat} (hL : ∀ a, a ∈ L ↔ dm σ a) {a : Nat} {sh : Nat × Nat} (h : σ a = some sh) : ∃ k : Nat, (va_pl L (cf cA σ μ))[k]? = some (a, ce cA sh (μ.1 a) (μ.2 a)) := by
  obtain ⟨k, hk⟩ := va_pl_get (X := []) (f := cf cA σ μ) ((hL a).mpr (dm_of h))
  rw [cf_at h] at hk
  exact ⟨k, hk⟩
theorem pl_set {cA : Nat → ClassId} {σ : Sg} {μ μ' : Mm} {L : List Nat} (hL : ∀ a, a ∈ L ↔ dm σ a) (hD : va_D (fun _ => True) (va_pl L (cf cA σ μ))) {a k : Nat} {sh : Nat × Nat} {e : va_E} (h : σ a = some sh) (hk : (va_pl L (cf cA σ μ))[k]? = some (a, ce cA sh (μ.1 a) (μ.2 a)))
    (he : e = ce cA sh (μ'.1 a) (μ'.2 a)) (ho : ∀ b, b ≠ a → μ'.1 b = μ.1 b ∧ μ'.2 b = μ.2 b) : (va_pl L (cf cA σ μ)).set k (a, e) = va_pl L (cf cA σ μ') := by
  have h1 := va_pl_set (X := []) (f := cf cA σ μ) (e := e) hD ((hL a).mpr (dm_of h)) (by rw [cf_at h]; exact hk)
  have h2 : va_up (cf cA σ μ) a e = cf cA σ μ' := by
    funext b
    by_cases hb : b = a
    · subst hb
      simp only [va_up, if_pos, cf_at h]
      exact he
    · simp only [va_up, if_neg hb, cf]
      rw [(ho b hb).1, (ho b hb).2]
  rw [h2] at h1
  exact h1
theorem pl_D {A : Nat → Prop} {σ : Sg} {f : Nat → va_E} {L : List Nat} (hL : ∀ a, a ∈ L ↔ dm σ a) (hA : ∀ q, dm σ q → A q) (hD : va_D (fun _ => True) (va_pl L f)) : va_D A (va_pl L f) := by
  refine ⟨hD.1, fun k q hk => hA _ ((hL _).mp ?_)⟩
  obtain ⟨a, ha, he⟩ := List.mem_map.mp (List.mem_of_getElem? hk)
  rw [← he]
  exact ha
theorem D_true {A : Nat → Prop} {ws : va_W} (h : va_D A ws) : va_D (fun _ => True) ws := h.weaken (fun _ _ _ _ => trivial)
theorem S_self {A : Nat → Prop} {H0 H : Heap} {locs : List Loc} (h : va_S A H0 H locs) : va_S A H H locs := ⟨Nat.le_refl _, fun _ _ _ => rfl, h.2.2⟩
theorem S_trans {A : Nat → Prop} {H0 H H1 : Heap} {locs locs1 : List Loc} (h : va_S A H0 H locs) (h1 : va_S A H H1 locs1) : va_S A H0 H1 locs1 := ⟨Nat.le_trans h.1 h1.1, fun q g1 g2 => (h1.2.1 q (Nat.lt_of_lt_of_le g1 h.1) g2).trans (h.2.1 q g1 g2), h1.2.2⟩
theorem wsz {p : Program} {l : Launch} {e : Env} {R : Room} {s : State} {m : MethodId} {args : Array Value} {below : List Frame} {meth : Method} {c : Code} {H : Heap} {locs : List Loc} {cells slots : Nat} {Q : State → Prop} {g : JFrame} (k : H.size ≤ s.heap.size + cells → W p l e R s m args below meth c H locs cells slots Q g) : W p l e R s m args below meth c H locs cells slots Q g :=
  fun T hT X => k (by rw [← hT]; exact X.same.2.2.1) T hT X
theorem u2_o {α : Type} {f : Nat → Nat → α} {a k : Nat} {v : α} {b : Nat} (h : b ≠ a) : u2 f a k v b = f b := by simp [u2, h]
theorem u2_s {α : Type} {f : Nat → Nat → α} {a k : Nat} {v : α} : u2 f a k v a = u1 (f a) k v := by simp [u2]
theorem s2_o {α : Type} {f : Nat → α} {a : Nat} {v : α} {b : Nat} (h : b ≠ a) : s2 f a v b = f b := by simp [s2, h]
theorem s2_s {α : Type} {f : Nat → α} {a : Nat} {v : α} : s2 f a v a = v := by simp [s2]
abbrev tyA (cA : Nat → ClassId) : List (ClassId × FieldType) := [(cA 0, .int), (cA 1, .byte), (cA 2, .short), (cA 3, .object RX3)]
/-- static arrays that nobody writes -/
def sT (k : Nat) : Nat → Int32 := fun j => match k with
  | 0 => ([71, 73, 70, 56, 57, 97] : List Int32).getD j 0
  | 1 => ([0, 4, 2, 1] : List Int32).getD j 0
  | _ => ([3, 3, 2, 1] : List Int32).getD j 0
abbrev nwF : Cond := .fieldLinkNest RX5 91 RX6 "START" "[I" RX9
abbrev nwM : Cond := .methodLinkNest RX5 100 yX9_isSide RX9
def Kx (D : va_G) (cA : Nat → ClassId) (tS : Nat → Nat) (A : Nat → Prop) (U : State) : Prop :=
  va_K D vwCl (tyA cA) U ∧ va_Nw nwF U ∧ va_Nw nwM U ∧
  (va_Z RX6 "START" "[I" (.ref (tS 0)) A U U.heap ∧ va_T .int (tS 0) 6 (fun j => .int (sT 0 j)) A U U.heap) ∧
  (va_Z RX3 "PASS_STARTS" "[I" (.ref (tS 1)) A U U.heap ∧ va_T .int (tS 1) 4 (fun j => .int (sT 1 j)) A U U.heap) ∧
  (va_Z RX3 "PASS_SHIFTS" "[I" (.ref (tS 2)) A U U.heap ∧ va_T .int (tS 2) 4 (fun j => .int (sT 2 j)) A U U.heap)
theorem Kx.go {D : va_G} {cA : Nat → ClassId} {tS : Nat → Nat} {A : Nat → Prop} {s U : State} {H : Heap} {locs : List Loc} (h : Kx D cA tS A s) (hS : va_S A s.heap H locs) (hU : U.heap = H) (hW : s.WarmedH U.vm) : Kx D cA tS A U := by
  obtain ⟨h1, h2, h3, ⟨z0, t0⟩, ⟨z1, t1⟩, ⟨z2, t2⟩⟩ := h
  have hk := hS.2.1
  refine ⟨va_K.moved hW.alike h1, va_Nw.warmF hW h2, va_Nw.warmM hW h3, ⟨?_, ?_⟩, ⟨?_, ?_⟩, ⟨?_, ?_⟩⟩ <;> rw [hU]
  · exact (z0.kept hk).moved hW.alike
  · exact (t0.kept hk).moved hW.alike
  · exact (z1.kept hk).moved hW.alike
  · exact (t1.kept hk).moved hW.alike
  · exact (z2.kept hk).moved hW.alike
  · exact (t2.kept hk).moved hW.alike
theorem Kx.blind {D : va_G} {cA : Nat → ClassId} {tS : Nat → Nat} {A : Nat → Prop} {U : State} (g : JFrame) (mk : MethodId) (a : Array Value) (h : Kx D cA tS A U) : Kx D cA tS A (U.calling g mk a) := by
  obtain ⟨h1, h2, h3, ⟨z0, t0⟩, ⟨z1, t1⟩, ⟨z2, t2⟩⟩ := h
  have al : U.vm.Alike (U.calling g mk a).vm := Vm.Alike.refl U.vm
  exact ⟨va_K.moved (u := U) al h1, va_Nw.same rfl rfl h2, va_Nw.same rfl rfl h3, ⟨va_Z.moved (u := U) al z0, va_T.moved (u := U) al t0⟩, ⟨va_Z.moved (u := U) al z1, va_T.moved (u := U) al t1⟩, ⟨va_Z.moved (u := U) al z2, va_T.moved (u := U) al t2⟩⟩
theorem Kx.narrow {D : va_G} {cA : Nat → ClassId} {tS : Nat → Nat} {A B : Nat → Prop} {U : State} (h : Kx D cA tS A U) (hAB : ∀ q, B q → A q) : Kx D cA tS B U := by
  obtain ⟨h1, h2, h3, ⟨z0, t0⟩, ⟨z1, t1⟩, ⟨z2, t2⟩⟩ := h
  exact ⟨h1, h2, h3, ⟨z0.narrow hAB, t0.narrow hAB⟩, ⟨z1.narrow hAB, t1.narrow hAB⟩, ⟨z2.narrow hAB, t2.narrow hAB⟩⟩
/-! a method's body: what stays the same, and what runs -/
def Cx (p : Program) (s : State) (m : MethodId) (args : Array Value) (meth : Method) (c : Code) (A : Nat → Prop) (D : va_G) (cA : Nat → ClassId) (tS : Nat → Nat) (σ : Sg) (cc : ByteArray) (ret : Option FieldType) (nL : Nat) (own : String) : Prop :=
  p.tables.exec = Jvm.exec ∧ c.code = cc ∧ meth.sig.returnType = ret ∧ c.maxLocals = nL ∧ s.vm.findClass own = some m.cls ∧ (∀ w ∈ lw_big, w.before args s = true) ∧ meth.locks = false ∧ Kx D cA tS A s ∧ ∀ q, dm σ q → A q
def GG (p : Program) (l : Launch) (e : Env) (R : Room) (s : State) (m : MethodId) (args : Array Value) (below : List Frame) (meth : Method) (c : Code) (cl sl : Nat) (A : Nat → Prop) (D : va_G) (cA : Nat → ClassId) (σ : Sg) (nL : Nat) (Q : State → Prop) (pc : Nat) (lv : List (Nat × Value)) (st : List Value) (μ : Mm) : Prop :=
  ∀ (H : Heap) (locs : List Loc) (ls : Array Slot), MW D cA σ μ H → H.size = s.heap.size + cl → va_S A s.heap H locs → lv_has ls nL lv → W p l e R s m args below meth c H locs cl sl Q (F0 m pc ls st)
def PcM (D : va_G) (cA : Nat → ClassId) (tS : Nat → Nat) (σ : Sg) (As : List Value) (μ : Mm) : Array Value → State → Prop := va_Pc As (fun U => MW D cA σ μ U.heap ∧ Kx D cA tS (dm σ) U)
def Ct (l : Launch) (D : va_G) (cA : Nat → ClassId) (tS : Nat → Nat) (σ : Sg) (y : MethodName) (cc : ByteArray) (mL : Nat) (rt : Option FieldType) (rm : Room) (As : List Value) (μ : Mm) (Qc : Array Value → State → Outcome → State → Prop) : Prop :=
  Met l y (.code y cc mL rt :: lw_big) rm (PcM D cA tS σ As μ) Qc 0 0 (dm σ)
def QI (D : va_G) (cA : Nat → ClassId) (σ : Sg) (r : Int32) (μ : Mm) : Array Value → State → Outcome → State → Prop := va_Qi (fun (x : Int32) (_ : Unit) => x = r) (fun _ t => MW D cA σ μ t.heap) (dm σ)
def QV (D : va_G) (cA : Nat → ClassId) (σ : Sg) (μ : Mm) : Array Value → State → Outcome → State → Prop := va_Qv (fun (_ : Unit) => True) (fun _ t => MW D cA σ μ t.heap) (dm σ)
def QQ (D : va_G) (cA : Nat → ClassId) (σ : Sg) (r : Option Nat) (μ : Mm) : Array Value → State → Outcome → State → Prop := va_Qq (fun (x : Option Nat) (_ : Unit) => x = r) (fun _ t => MW D cA σ μ t.heap) (dm σ)
theorem PcM.blind {D : va_G} {cA : Nat → ClassId} {tS : Nat → Nat} {σ : Sg} {As : List Value} {μ : Mm} : FrameBlind (PcM D cA tS σ As μ) := fun a U g mk q => ⟨q.1, q.2.1, Kx.blind g mk a q.2.2⟩
theorem PcM.at {D : va_G} {cA : Nat → ClassId} {tS : Nat → Nat} {σ : Sg} {As : List Value} {μ : Mm} {s : State} {H : Heap} {locs : List Loc} {A : Nat → Prop} (hM : MW D cA σ μ H) (hA : ∀ q, dm σ q → A q) (hK : Kx D cA tS A s) (hS : va_S A s.heap H locs) : ∀ U : State, U.heap = H → s.WarmedH U.vm → PcM D cA tS σ As μ As.toArray U := fun U hU hW => ⟨rfl, by rw [hU]; exact hM, (hK.go hS hU hW).narrow hA⟩
theorem Ct.of {l : Launch} {D : va_G} {cA : Nat → ClassId} {tS : Nat → Nat} {σ : Sg} {y : MethodName} {cc : ByteArray} {mL : Nat} {rt : Option FieldType} {rm : Room} {As : List Value} {μ : Mm} {Qc : Array Value → State → Outcome → State → Prop} (hy : plainName y.cls = true) (hn : (lg_sl As).length ≤ mL)
    (body : ∀ (p : Program) (e : Env) (s : State) (m : MethodId) (args : Array Value) (below : List Frame) (meth : Method) (c : Code), Cx p s m args meth c (dm σ) D cA tS σ cc rt mL y.cls → GG p l e rm s m args below meth c 0 0 (dm σ) D cA σ mL (MQ below Qc args s 0 0 (dm σ)) 0 (lv_args 0 As) [] μ) : Ct l D cA tS σ y cc mL rt rm As μ Qc := by
  refine Met.ofW (cc := cc) (maxL := mL) (ret := rt) hy rfl ?_
  intro p e s m args below meth c s₁ B hml hv
  obtain ⟨rfl, hM, hK⟩ := hv
  have hts := atoms_spec (ws := .code y cc mL rt :: lw_big) B.pre
  have hown : s.vm.findClass y.cls = some m.cls := findClass_of_methodNamed B.named
  have hl := lv_entry As (n := mL) hn
  rw [lg_entry_eq]
  exact body p e s m As.toArray below meth c ⟨B.exec, B.bytes, B.returns, hml, hown, fun w h => hts w (List.mem_cons_of_mem _ h), B.notSynchronized, hK, fun _ h => h⟩ s.heap [] _ hM rfl va_S.rf hl
