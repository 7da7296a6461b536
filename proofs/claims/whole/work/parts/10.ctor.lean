/-! constructors: objects that are being made; the world grows -/
abbrev Zt : Type := Sg × Mm
def zN (Z : Zt) (a t : Nat) : Zt := (s2 Z.1 a (some (20 + t, 0)), (s2 Z.2.1 a (fun _ => 0), Z.2.2))
def zA (Z : Zt) (a t n : Nat) : Zt := (s2 Z.1 a (some (t, n)), (s2 Z.2.1 a (fun _ => 0), Z.2.2))
def zR (Z : Zt) (a t mk k v : Nat) : Zt := (s2 Z.1 a (some (20 + t, mk)), sr Z.2 a k v)
def zI (Z : Zt) (a k : Nat) (v : Int32) : Zt := (Z.1, si Z.2 a k v)
def zD (Z : Zt) (a t n : Nat) : Zt := (s2 Z.1 a (some (t, n)), Z.2)
def zF (Z : Zt) (a j v : Nat) : Zt := (s2 Z.1 a (some (15, j + 1)), sr Z.2 a j v)
def zM (Z : Zt) (μ : Mm) : Zt := (Z.1, μ)
def FrZ (Z Z' : Zt) (q : Nat) : Prop := ∀ b, b < q → Z'.1 b = Z.1 b ∧ Z'.2.1 b = Z.2.1 b ∧ Z'.2.2 b = Z.2.2 b
theorem FrZ.rf {Z : Zt} {q : Nat} : FrZ Z Z q := fun _ _ => ⟨rfl, rfl, rfl⟩
theorem FrZ.tr {Z Z1 Z2 : Zt} {q : Nat} (h : FrZ Z Z1 q) (h1 : FrZ Z1 Z2 q) : FrZ Z Z2 q := fun b hb => ⟨(h1 b hb).1.trans (h b hb).1, (h1 b hb).2.1.trans (h b hb).2.1, (h1 b hb).2.2.trans (h b hb).2.2⟩
theorem FrZ.le {Z Z1 : Zt} {q q' : Nat} (h : FrZ Z Z1 q) (hq : q' ≤ q) : FrZ Z Z1 q' := fun b hb => h b (by omega)
theorem FrZ.N {Z : Zt} {a t q : Nat} (h : q ≤ a) : FrZ Z (zN Z a t) q := fun b hb => ⟨s2_o (by omega), s2_o (by omega), rfl⟩
theorem FrZ.A {Z : Zt} {a t n q : Nat} (h : q ≤ a) : FrZ Z (zA Z a t n) q := fun b hb => ⟨s2_o (by omega), s2_o (by omega), rfl⟩
theorem FrZ.R {Z : Zt} {a t mk k v q : Nat} (h : q ≤ a) : FrZ Z (zR Z a t mk k v) q := fun b hb => ⟨s2_o (by omega), rfl, u2_o (by omega)⟩
theorem FrZ.I {Z : Zt} {a k q : Nat} {v : Int32} (h : q ≤ a) : FrZ Z (zI Z a k v) q := fun b hb => ⟨rfl, u2_o (by omega), rfl⟩
theorem FrZ.D {Z : Zt} {a t n q : Nat} (h : q ≤ a) : FrZ Z (zD Z a t n) q := fun b hb => ⟨s2_o (by omega), rfl, rfl⟩
theorem FrZ.F {Z : Zt} {a j v q : Nat} (h : q ≤ a) : FrZ Z (zF Z a j v) q := fun b hb => ⟨s2_o (by omega), rfl, u2_o (by omega)⟩
theorem ex_lt {t k : Nat} {sh : Nat × Nat} (h : ex t k = some sh) : t < 11 ∧ sh.1 < 15 := by
  unfold ex at h
  split at h <;> first | (cases h; exact ⟨by decide, by decide⟩) | cases h
theorem WT.new {σ : Sg} {rr : Nat → Nat → Nat} {a : Nat} {sh : Nat × Nat} (h : WT σ rr) (ha : σ a = none) (hs : 11 ≤ sh.1 ∧ sh.1 ≠ 14) : WT (s2 σ a (some sh)) rr := by
  have key : ∀ b sh', σ b = some sh' → s2 σ a (some sh) b = some sh' := fun b sh' hb => by
    rw [s2_o (fun e => by rw [e, ha] at hb; cases hb)]; exact hb
  refine ⟨fun b t k sh' h1 h2 => ?_, fun b n k h1 h2 => ?_⟩
  · by_cases hb : b = a
    · subst hb
      rw [s2_s] at h1
      cases h1
      have := (ex_lt h2).1
      exact absurd hs.1 (by simp; omega)
    · rw [s2_o hb] at h1
      exact key _ _ (h.1 b t k sh' h1 h2)
  · by_cases hb : b = a
    · subst hb
      rw [s2_s] at h1
      cases h1
      exact absurd rfl hs.2
    · rw [s2_o hb] at h1
      exact key _ _ (h.2 b n k h1 h2)
/-- a cell that no complete one leads to may turn, and its references -/
theorem WT.turn {σ : Sg} {rr rr' : Nat → Nat → Nat} {a : Nat} {s0 sh : Nat × Nat} (h : WT σ rr) (ha : σ a = some s0) (h0 : 15 ≤ s0.1) (ho : ∀ b, b ≠ a → rr' b = rr b)
    (hn : ∀ t k sh', sh = (t, 0) → ex t k = some sh' → rr' a k ≠ a ∧ σ (rr' a k) = some sh') (hm : ∀ n k, sh = (14, n) → k < n → rr' a k ≠ a ∧ σ (rr' a k) = some (3, 0)) : WT (s2 σ a (some sh)) rr' := by
  have key : ∀ b sh', σ b = some sh' → sh'.1 < 15 → s2 σ a (some sh) b = some sh' := fun b sh' hb hl => by
    rw [s2_o (fun e => by rw [e, ha] at hb; cases hb; omega)]; exact hb
  refine ⟨fun b t k sh' h1 h2 => ?_, fun b n k h1 h2 => ?_⟩
  · by_cases hb : b = a
    · subst hb
      rw [s2_s] at h1
      obtain ⟨g1, g2⟩ := hn t k sh' (Option.some.inj h1) h2
      rw [s2_o g1]
      exact g2
    · rw [s2_o hb] at h1
      rw [ho b hb]
      exact key _ _ (h.1 b t k sh' h1 h2) (ex_lt h2).2
  · by_cases hb : b = a
    · subst hb
      rw [s2_s] at h1
      obtain ⟨g1, g2⟩ := hm n k (Option.some.inj h1) h2
      rw [s2_o g1]
      exact g2
    · rw [s2_o hb] at h1
      rw [ho b hb]
      exact key _ _ (h.2 b n k h1 h2) (by decide)
theorem pl_push {cA : Nat → ClassId} {σ : Sg} {μ μ' : Mm} {L : List Nat} {a : Nat} {sh : Nat × Nat} {e : va_E} (h : a ∉ L) (he : e = ce cA sh (μ'.1 a) (μ'.2 a)) (ho : ∀ b, b ≠ a → μ'.1 b = μ.1 b ∧ μ'.2 b = μ.2 b) : va_pl L (cf cA σ μ) ++ [(a, e)] = va_pl (L ++ [a]) (cf cA (s2 σ a (some sh)) μ') := by
  rw [va_pl_push h]
  refine va_pl_congr (fun b => ?_)
  by_cases hb : b = a
  · subst hb
    simp only [va_up, if_pos, cf, s2_s]
    exact he
  · simp only [va_up, if_neg hb, cf, s2_o hb]
    rw [(ho b hb).1, (ho b hb).2]
theorem L_push {σ : Sg} {L : List Nat} {a : Nat} {sh : Nat × Nat} (hL : ∀ b, b ∈ L ↔ dm σ b) : ∀ b, b ∈ L ++ [a] ↔ dm (s2 σ a (some sh)) b := by
  intro b
  rw [List.mem_append, List.mem_singleton, hL]
  by_cases hb : b = a
  · subst hb
    exact ⟨fun _ => dm_of s2_s, fun _ => Or.inr rfl⟩
  · unfold dm
    rw [s2_o hb]
    exact ⟨fun h => h.elim id (fun h => absurd h hb), Or.inl⟩
theorem L_turn {σ : Sg} {L : List Nat} {a : Nat} {s0 sh : Nat × Nat} (ha : σ a = some s0) (hL : ∀ b, b ∈ L ↔ dm σ b) : ∀ b, b ∈ L ↔ dm (s2 σ a (some sh)) b := by
  intro b
  rw [hL]
  by_cases hb : b = a
  · subst hb
    exact ⟨fun _ => dm_of s2_s, fun _ => dm_of ha⟩
  · unfold dm
    rw [s2_o hb]
theorem dm_up {A : Nat → Prop} {σ : Sg} {a : Nat} {x : Option (Nat × Nat)} (h : ∀ q, dm σ q → A q) (ha : A a) : ∀ q, dm (s2 σ a x) q → A q := by
  intro q hq
  by_cases hb : q = a
  · subst hb; exact ha
  · unfold dm at hq; rw [s2_o hb] at hq; exact h q hq
/-- a cell turns: another shape, other contents -/
theorem pl_turn {cA : Nat → ClassId} {σ : Sg} {μ μ' : Mm} {L : List Nat} (hL : ∀ a, a ∈ L ↔ dm σ a) (hD : va_D (fun _ => True) (va_pl L (cf cA σ μ))) {a k : Nat} {s0 sh : Nat × Nat} {e : va_E} (h : σ a = some s0) (hk : (va_pl L (cf cA σ μ))[k]? = some (a, ce cA s0 (μ.1 a) (μ.2 a)))
    (he : e = ce cA sh (μ'.1 a) (μ'.2 a)) (ho : ∀ b, b ≠ a → μ'.1 b = μ.1 b ∧ μ'.2 b = μ.2 b) : (va_pl L (cf cA σ μ)).set k (a, e) = va_pl L (cf cA (s2 σ a (some sh)) μ') := by
  have h1 := va_pl_set (X := []) (f := cf cA σ μ) (e := e) hD ((hL a).mpr (dm_of h)) (by rw [cf_at h]; exact hk)
  have h2 : va_up (cf cA σ μ) a e = cf cA (s2 σ a (some sh)) μ' := by
    funext b
    by_cases hb : b = a
    · subst hb
      simp only [va_up, if_pos, cf, s2_s]
      exact he
    · simp only [va_up, if_neg hb, cf, s2_o hb]
      rw [(ho b hb).1, (ho b hb).2]
  rw [h2] at h1
  exact h1
theorem ce_obj {cA : Nat → ClassId} {t mk : Nat} (ht : t < 11) (ri : Nat → Int32) (rr : Nat → Nat) : ce cA (20 + t, mk) ri rr = .inr (t, flp t mk ri rr) := by
  simp only [ce]
  rw [if_neg (by omega), if_neg (by omega), if_neg (by omega), if_neg (by omega), if_neg (by omega), if_pos (by omega), Nat.add_sub_cancel_left]
theorem ce_full {cA : Nat → ClassId} {t : Nat} (ht : t < 11) (ri : Nat → Int32) (rr : Nat → Nat) : ce cA (t, 0) ri rr = .inr (t, fl t ri rr) := by
  simp only [ce]
  rw [if_neg (by omega), if_neg (by omega), if_neg (by omega), if_neg (by omega), if_neg (by omega), if_neg (by omega)]
section GN
variable {p : Program} {l : Launch} {e : Env} {R : Room} {s : State} {m : MethodId} {args : Array Value} {below : List Frame} {meth : Method} {c : Code} {cl sl : Nat} {A : Nat → Prop} {D : va_G} {cA : Nat → ClassId} {tS : Nat → Nat} {Z : Zt} {cc : ByteArray} {ret : Option FieldType} {nL : Nat} {own : String} {Q : State → Prop} {pc : Nat} {lv : List (Nat × Value)} {st : List Value}
theorem Cx.up {σ : Sg} (C : Cx p s m args meth c A D cA tS σ cc ret nL own) {σ' : Sg} (h : ∀ q, dm σ' q → A q) : Cx p s m args meth c A D cA tS σ' cc ret nL own := ⟨C.1, C.2.1, C.2.2.1, C.2.2.2.1, C.2.2.2.2.1, C.2.2.2.2.2.1, C.2.2.2.2.2.2.1, C.2.2.2.2.2.2.2.1, h⟩
theorem Cx.dm {σ : Sg} (C : Cx p s m args meth c A D cA tS σ cc ret nL own) : ∀ q, dm σ q → A q := C.2.2.2.2.2.2.2.2
theorem g_z {Z' : Zt} (hx : Z' = Z) (k : GG p l e R s m args below meth c cl sl A D cA Z'.1 nL Q pc lv st Z'.2) : GG p l e R s m args below meth c cl sl A D cA Z.1 nL Q pc lv st Z.2 := by subst hx; exact k
theorem g_new (C : Cx p s m args meth c A D cA tS Z.1 cc ret nL own) {t N ix : Nat} {Cn : String} {T : u_T} {ty0 : Nat → FieldType} (a : Nat) (ha : a = s.heap.size + cl) (ht : t < 11) (hcl : vwCl[t]? = some (Cn, T, N)) (hu : ∀ w ∈ u_ws Cn T N, w ∈ lw_big) (hty : ∀ k, k < N → parseFieldDescriptor (T k).2.2.1 = some (ty0 k)) (hlk : Cond.classLink own ix Cn ∈ lw_big) (hin : Cond.instantiable Cn N ∈ lw_big) (hini : Cond.initialized Cn ∈ lw_big)
    (hdf : ∀ rr j, j < N → defaultValue (ty0 j) = vp_V (flp t 0 (fun _ => 0) rr) j) (hcs : cl + 1 ≤ R.cells ∧ sl + N ≤ R.slots) (hd : decode cc pc = .ok (.new ix, 3))
    (k : GG p l e R s m args below meth c (cl + 1) (sl + N) A D cA (zN Z a t).1 nL Q (pc + 3) lv (.ref a :: st) (zN Z a t).2) : GG p l e R s m args below meth c cl sl A D cA Z.1 nL Q pc lv st Z.2 := by
  intro H locs ls hM hz hS hl
  obtain ⟨hT, L, hL, hP, hD⟩ := hM
  have hKn := C.2.2.2.2.2.2.2.1.1.1 t _ hcl
  refine W.newcK C.1 C.2.1 C.2.2.2.2.1 (C.2.2.2.2.2.1 _ hlk) (C.2.2.2.2.2.1 _ hin) (C.2.2.2.2.2.1 _ hini) rfl hd hcs.1 hcs.2 hKn.2.1 (h := a) (by rw [ha]; exact hz) fun H1 kC hkC e1 z1 o1 => ?_
  have haH : a = H.size := by omega
  have fresh : a ∉ L := va_pl_fresh (X := []) hP (by omega)
  have hσ : Z.1 a = none := by
    cases hh : Z.1 a with
    | none => rfl
    | some x => exact absurd ((hL a).mpr (dm_of hh)) fresh
  have hpl := pl_push (cA := cA) (σ := Z.1) (μ := Z.2) (μ' := (zN Z a t).2) (sh := (20 + t, 0)) (e := .inr (t, flp t 0 (fun _ => 0) (Z.2.2 a))) fresh (by rw [ce_obj ht]; simp only [zN, s2_s]) (fun b hb => ⟨by simp only [zN]; exact s2_o hb, rfl⟩)
  have hk : ∀ (k : Nat) (x : Nat × va_E), (va_pl L (cf cA Z.1 Z.2))[k]? = some x → H1[x.1]? = H[x.1]? := fun k x hx => o1 x.1 (by rw [haH]; exact (hP k x hx).lt)
  refine k H1 locs ls ⟨hT.new hσ ⟨by simp; omega, by simp; omega⟩, L ++ [a], L_push hL, ?_, ?_⟩ (by rw [z1]; omega) ⟨Nat.le_trans hS.1 (by omega), fun x h1 h2 => (o1 x (by rw [haH]; exact Nat.lt_of_lt_of_le h1 hS.1)).trans (hS.2.1 x h1 h2), hS.2.2⟩ hl
  · rw [show va_pl (L ++ [a]) (cf cA (zN Z a t).1 (zN Z a t).2) = _ from hpl.symm]
    refine (hP.kept hk).app (fun k x hx => ?_)
    have hz : k < 1 := (List.getElem?_eq_some_iff.mp hx).1
    rw [show k = 0 by omega] at hx
    cases hx
    exact ⟨_, hcl, (u_born ty0 C.2.2.2.2.2.1 hu hKn hkC e1 hty).to (hdf _)⟩
  · rw [show va_pl (L ++ [a]) (cf cA (zN Z a t).1 (zN Z a t).2) = _ from hpl.symm]
    exact hD.push hP haH trivial
theorem arr_id {U : State} {D : va_G} {cl : List vw_C} {tys : List (ClassId × FieldType)} (hK : va_K D cl tys U) {k : Nat} {cB cA' : ClassId} {ty : FieldType} (hk : tys[k]? = some (cB, ty)) (hf : U.vm.findClass ("[" ++ ty.toString) = some cA') : cA' = cB := by
  have h := (hK.2 k _ hk).2
  cases ty with
  | object C =>
    obtain ⟨kA, comp, h1, h2, h3, h4⟩ := h
    exact Option.some.inj (hf.symm.trans h4)
  | _ => exact Option.some.inj (hf.symm.trans h)
theorem g_newa (C : Cx p s m args meth c A D cA tS Z.1 cc ret nL own) {t N k0 : Nat} {n : Int32} {at0 : ArrayType} {ty : FieldType} (a : Nat) (ha : a = s.heap.size + cl) (ht : 11 ≤ t ∧ t < 14) (hk0 : (tyA cA)[k0]? = some (cA k0, ty)) (hty : newarray.typeOf at0 = ty) (hce : ∀ rr, ce cA (t, N) (fun _ => 0) rr = .inl (cA k0, N, .inl (fun _ => 0))) (hdv : defaultValue ty = .int 0) (hw : Cond.arrayClass (newarray.typeOf at0) ∈ lw_big) (hn : ¬ n < 0) (hN : n.toNatClampNeg = N) (hby : N * componentBytes (newarray.typeOf at0) ≤ 536870912) (hcs : cl + 1 ≤ R.cells ∧ sl + N ≤ R.slots) (hd : decode cc pc = .ok (.newarray at0, 2))
    (k : GG p l e R s m args below meth c (cl + 1) (sl + N) A D cA (zA Z a t N).1 nL Q (pc + 2) lv (.ref a :: st) (zA Z a t N).2) : GG p l e R s m args below meth c cl sl A D cA Z.1 nL Q pc lv (.int n :: st) Z.2 := by
  intro H locs ls hM hz hS hl
  obtain ⟨hT, L, hL, hP, hD⟩ := hM
  subst hty
  refine va_newaK C.1 C.2.1 (C.2.2.2.2.2.1 _ hw) rfl hd rfl hn hN hby hcs.1 hcs.2 (h := a) (by rw [ha]; exact hz) fun H1 cB e1 z1 o1 hAr hNm => ?_
  have hid : cB = cA k0 := arr_id C.2.2.2.2.2.2.2.1.1 hk0 hNm
  have haH : a = H.size := by omega
  have fresh : a ∉ L := va_pl_fresh (X := []) hP (by omega)
  have hσ : Z.1 a = none := by
    cases hh : Z.1 a with
    | none => rfl
    | some x => exact absurd ((hL a).mpr (dm_of hh)) fresh
  have hpl := pl_push (cA := cA) (σ := Z.1) (μ := Z.2) (μ' := (zA Z a t N).2) (sh := (t, N)) (e := .inl (cA k0, N, .inl (fun _ => 0))) fresh (by simp only [zA, s2_s]; exact (hce _).symm) (fun b hb => ⟨by simp only [zA]; exact s2_o hb, rfl⟩)
  have hk : ∀ (k : Nat) (x : Nat × va_E), (va_pl L (cf cA Z.1 Z.2))[k]? = some x → H1[x.1]? = H[x.1]? := fun k x hx => o1 x.1 (by rw [haH]; exact (hP k x hx).lt)
  refine k H1 locs ls ⟨hT.new hσ ⟨ht.1, by simp; omega⟩, L ++ [a], L_push hL, ?_, ?_⟩ (by rw [z1]; omega) ⟨Nat.le_trans hS.1 (by omega), fun x h1 h2 => (o1 x (by rw [haH]; exact Nat.lt_of_lt_of_le h1 hS.1)).trans (hS.2.1 x h1 h2), hS.2.2⟩ hl
  · rw [show va_pl (L ++ [a]) (cf cA (zA Z a t N).1 (zA Z a t N).2) = _ from hpl.symm]
    refine (hP.kept hk).app (fun k x hx => ?_)
    have hz : k < 1 := (List.getElem?_eq_some_iff.mp hx).1
    rw [show k = 0 by omega] at hx
    cases hx
    show H1[a]? = some (vp_cell _ _)
    rw [e1, hid, vp_cell_i, hdv]
  · rw [show va_pl (L ++ [a]) (cf cA (zA Z a t N).1 (zA Z a t N).2) = _ from hpl.symm]
    exact hD.push hP haH trivial
theorem g_anew (C : Cx p s m args meth c A D cA tS Z.1 cc ret nL own) {ix : Nat} {n : Int32} (a : Nat) (ha : a = s.heap.size + cl) (hlk : Cond.classLink own ix RX3 ∈ lw_big) (hov : va_AO RX3 s) (hn : n = 24) (hcs : cl + 1 ≤ R.cells ∧ sl + 24 ≤ R.slots) (hd : decode cc pc = .ok (.anewarray ix, 3))
    (k : GG p l e R s m args below meth c (cl + 1) (sl + 24) A D cA (zA Z a 15 0).1 nL Q (pc + 3) lv (.ref a :: st) (zA Z a 15 0).2) : GG p l e R s m args below meth c cl sl A D cA Z.1 nL Q pc lv (.int n :: st) Z.2 := by
  intro H locs ls hM hz hS hl
  obtain ⟨hT, L, hL, hP, hD⟩ := hM
  subst hn
  have h24 : (24 : Int32).toNatClampNeg = 24 := by decide
  refine W.anew C.1 C.2.1 C.2.2.2.2.1 (C.2.2.2.2.2.1 _ hlk) (va_AO.use hov) rfl hd rfl (by decide) (by rw [h24]; decide) hcs.1 (by rw [h24]; exact hcs.2) fun cB kA comp f1 f2 f3 f4 => ?_
  rw [h24]
  generalize hH1 : H.push ({ cls := cB, slots := Array.replicate 24 .null, vm := .none } : Cell) = H1
  have z1 : H1.size = H.size + 1 := by rw [← hH1, Array.size_push]
  have e1 : H1[H.size]? = some (arrV cB 24 (fun _ => .null)) := by rw [← hH1, Array.getElem?_push_size, ← arrV_new]
  have o1 : ∀ q : Nat, q < H.size → H1[q]? = H[q]? := fun q hq => by rw [← hH1, Array.getElem?_push, if_neg (Nat.ne_of_lt hq)]
  have hid : cB = cA 3 := arr_id C.2.2.2.2.2.2.2.1.1 (k := 3) rfl f1
  have haH : a = H.size := by omega
  have fresh : a ∉ L := va_pl_fresh (X := []) hP (by omega)
  have hσ : Z.1 a = none := by
    cases hh : Z.1 a with
    | none => rfl
    | some x => exact absurd ((hL a).mpr (dm_of hh)) fresh
  have hpl := pl_push (cA := cA) (σ := Z.1) (μ := Z.2) (μ' := (zA Z a 15 0).2) (sh := (15, 0)) (e := .inl (cA 3, 24, .inr (.inr (.inr (.inr (fun _ => none)))))) fresh (by simp [zA, s2_s, ce]) (fun b hb => ⟨by simp only [zA]; exact s2_o hb, rfl⟩)
  have hk : ∀ (k : Nat) (x : Nat × va_E), (va_pl L (cf cA Z.1 Z.2))[k]? = some x → H1[x.1]? = H[x.1]? := fun k x hx => o1 x.1 ((hP k x hx).lt)
  rw [← haH]
  refine k H1 locs ls ⟨hT.new hσ ⟨by decide, by decide⟩, L ++ [a], L_push hL, ?_, ?_⟩ (by rw [z1]; omega) ⟨Nat.le_trans hS.1 (by omega), fun x h1 h2 => (o1 x (Nat.lt_of_lt_of_le h1 hS.1)).trans (hS.2.1 x h1 h2), hS.2.2⟩ hl
  · rw [show va_pl (L ++ [a]) (cf cA (zA Z a 15 0).1 (zA Z a 15 0).2) = _ from hpl.symm]
    refine (hP.kept hk).app (fun k x hx => ?_)
    have hz : k < 1 := (List.getElem?_eq_some_iff.mp hx).1
    rw [show k = 0 by omega] at hx
    cases hx
    show H1[a]? = some (vp_cell _ _)
    rw [haH, e1, hid]
    rfl
  · rw [show va_pl (L ++ [a]) (cf cA (zA Z a 15 0).1 (zA Z a 15 0).2) = _ from hpl.symm]
    exact hD.push hP haH trivial
theorem g_pIi (C : Cx p s m args meth c A D cA tS Z.1 cc ret nL own) {a t mk N ix j : Nat} {v : Int32} {ref fn fd Cn : String} {T : u_T} {ty0 : Nat → FieldType} {ty : FieldType} (ha : Z.1 a = some (20 + t, mk)) (ht : t < 11) (hc : vwCl[t]? = some (Cn, T, N)) (hu : ∀ w ∈ u_ws Cn T N, w ∈ lw_big) (hty : ∀ k, k < N → parseFieldDescriptor (T k).2.2.1 = some (ty0 k)) (hnm : ∀ a, a < N → ∀ b, b < N → a ≠ b → (T a).2.1 ≠ (T b).2.1) (hj : j < N) (hf : T j = (ref, fn, fd, false)) (hw : Cond.fieldLink own ix ref fn fd ∈ lw_big) (hp : ty0 j = ty) (hn : narrow ty (.int v) = .int v) (hfit : fits ty (.int v) = true) (hs : ∀ ri rr, (flp t mk ri rr).set j (.int v) = flp t mk (u1 ri j v) rr) (hlen : ∀ ri rr, j < (flp t mk ri rr).length) (hd : decode cc pc = .ok (.putfield ix, 3))
    (k : GG p l e R s m args below meth c cl sl A D cA (zI Z a j v).1 nL Q (pc + 3) lv st (zI Z a j v).2) : GG p l e R s m args below meth c cl sl A D cA Z.1 nL Q pc lv (.int v :: .ref a :: st) Z.2 := by
  intro H locs ls hM hz hS hl
  obtain ⟨hT, L, hL, hP, hD⟩ := hM
  obtain ⟨q, hq⟩ := pl_at (cA := cA) (μ := Z.2) hL ha
  have hset := pl_set (μ' := si Z.2 a j v) (e := .inr (t, (flp t mk (Z.2.1 a) (Z.2.2 a)).set j (.int v))) hL hD ha hq (by rw [ce_obj ht, hs]; simp only [si, u2_s]) (fun b hb => ⟨by simp only [si]; exact u2_o hb, rfl⟩)
  rw [ce_obj ht] at hq
  refine va_put (ref := ref) C.1 C.2.1 C.2.2.2.2.2.1 hu ty0 hty hnm C.2.2.2.2.1 C.2.2.2.2.2.2.2.1.1 hP (pl_D hL C.2.2.2.2.2.2.2.2 hD) (S_self hS) q hq hc j hj (C.2.2.2.2.2.1 _ ?_) (fun x hx => ?_) (by rw [hf]) (by rw [hty j hj, hp]) hn hfit (hlen _ _) hd (fun H1 locs1 hP1 hD1 hS1 => ?_)
  · rw [hf]; exact hw
  · rw [hf] at hx ⊢; exact hx
  · rw [hset] at hP1 hD1
    exact wsz (fun hle => k H1 locs1 ls ⟨hT, L, hL, hP1, D_true hD1⟩ (by have := hS1.1; omega) (S_trans hS hS1) hl)
theorem g_pRr (C : Cx p s m args meth c A D cA tS Z.1 cc ret nL own) {a t mk mk' N ix j v : Nat} {ref fn fd Cn : String} {T : u_T} {ty0 : Nat → FieldType} {ty : FieldType} (ha : Z.1 a = some (20 + t, mk)) (ht : t < 11) (hc : vwCl[t]? = some (Cn, T, N)) (hu : ∀ w ∈ u_ws Cn T N, w ∈ lw_big) (hty : ∀ k, k < N → parseFieldDescriptor (T k).2.2.1 = some (ty0 k)) (hnm : ∀ a, a < N → ∀ b, b < N → a ≠ b → (T a).2.1 ≠ (T b).2.1) (hj : j < N) (hf : T j = (ref, fn, fd, true)) (hin : meth.name = "<init>") (hrf : ref = own) (hw : Cond.fieldLink own ix ref fn fd ∈ lw_big) (hp : ty0 j = ty) (hn : narrow ty (.ref v) = .ref v) (hfit : fits ty (.ref v) = true) (hs : ∀ ri rr, (flp t mk ri rr).set j (.ref v) = flp t mk' ri (u1 rr j v)) (hlen : ∀ ri rr, j < (flp t mk ri rr).length) (hd : decode cc pc = .ok (.putfield ix, 3))
    (k : GG p l e R s m args below meth c cl sl A D cA (zR Z a t mk' j v).1 nL Q (pc + 3) lv st (zR Z a t mk' j v).2) : GG p l e R s m args below meth c cl sl A D cA Z.1 nL Q pc lv (.ref v :: .ref a :: st) Z.2 := by
  intro H locs ls hM hz hS hl
  obtain ⟨hT, L, hL, hP, hD⟩ := hM
  obtain ⟨q, hq⟩ := pl_at (cA := cA) (μ := Z.2) hL ha
  have hset := pl_turn (μ' := sr Z.2 a j v) (sh := (20 + t, mk')) (e := .inr (t, (flp t mk (Z.2.1 a) (Z.2.2 a)).set j (.ref v))) hL hD ha hq (by rw [ce_obj ht, hs]; simp only [sr, u2_s]) (fun b hb => ⟨rfl, by simp only [sr]; exact u2_o hb⟩)
  rw [ce_obj ht] at hq
  refine va_putF (ref := ref) C.1 C.2.1 C.2.2.2.2.2.1 hu ty0 hty hnm C.2.2.2.2.1 C.2.2.2.2.2.2.2.1.1 hP (pl_D hL C.2.2.2.2.2.2.2.2 hD) (S_self hS) q hq hc j hj (C.2.2.2.2.2.1 _ ?_) (fun x hx => ?_) (by rw [hf]) hin (by rw [hf]; exact hrf) (by rw [hty j hj, hp]) hn hfit (hlen _ _) hd (fun H1 locs1 hP1 hD1 hS1 => ?_)
  · rw [hf]; exact hw
  · rw [hf] at hx ⊢; exact hx
  · rw [hset] at hP1 hD1
    exact wsz (fun hle => k H1 locs1 ls ⟨hT.turn ha (by simp; omega) (fun b hb => by simp only [zR, sr]; exact u2_o hb) (fun t' k' sh' h1 h2 => by have := (ex_lt h2).1; cases h1; omega) (fun n k' h1 _ => by have := (Prod.mk.inj h1).1; omega), L, L_turn ha hL, hP1, D_true hD1⟩ (by have := hS1.1; omega) (S_trans hS hS1) hl)
theorem g_pRn (C : Cx p s m args meth c A D cA tS Z.1 cc ret nL own) {a t mk mk' N ix j v : Nat} {ref fn fd Cn : String} {T : u_T} {ty0 : Nat → FieldType} {ty : FieldType} (ha : Z.1 a = some (20 + t, mk)) (ht : t < 11) (hc : vwCl[t]? = some (Cn, T, N)) (hu : ∀ w ∈ u_ws Cn T N, w ∈ lw_big) (hty : ∀ k, k < N → parseFieldDescriptor (T k).2.2.1 = some (ty0 k)) (hnm : ∀ a, a < N → ∀ b, b < N → a ≠ b → (T a).2.1 ≠ (T b).2.1) (hj : j < N) (hf : T j = (ref, fn, fd, false)) (hw : Cond.fieldLink own ix ref fn fd ∈ lw_big) (hp : ty0 j = ty) (hn : narrow ty (.ref v) = .ref v) (hfit : fits ty (.ref v) = true) (hs : ∀ ri rr, (flp t mk ri rr).set j (.ref v) = flp t mk' ri (u1 rr j v)) (hlen : ∀ ri rr, j < (flp t mk ri rr).length) (hd : decode cc pc = .ok (.putfield ix, 3))
    (k : GG p l e R s m args below meth c cl sl A D cA (zR Z a t mk' j v).1 nL Q (pc + 3) lv st (zR Z a t mk' j v).2) : GG p l e R s m args below meth c cl sl A D cA Z.1 nL Q pc lv (.ref v :: .ref a :: st) Z.2 := by
  intro H locs ls hM hz hS hl
  obtain ⟨hT, L, hL, hP, hD⟩ := hM
  obtain ⟨q, hq⟩ := pl_at (cA := cA) (μ := Z.2) hL ha
  have hset := pl_turn (μ' := sr Z.2 a j v) (sh := (20 + t, mk')) (e := .inr (t, (flp t mk (Z.2.1 a) (Z.2.2 a)).set j (.ref v))) hL hD ha hq (by rw [ce_obj ht, hs]; simp only [sr, u2_s]) (fun b hb => ⟨rfl, by simp only [sr]; exact u2_o hb⟩)
  rw [ce_obj ht] at hq
  refine va_put (ref := ref) C.1 C.2.1 C.2.2.2.2.2.1 hu ty0 hty hnm C.2.2.2.2.1 C.2.2.2.2.2.2.2.1.1 hP (pl_D hL C.2.2.2.2.2.2.2.2 hD) (S_self hS) q hq hc j hj (C.2.2.2.2.2.1 _ ?_) (fun x hx => ?_) (by rw [hf]) (by rw [hty j hj, hp]) hn hfit (hlen _ _) hd (fun H1 locs1 hP1 hD1 hS1 => ?_)
  · rw [hf]; exact hw
  · rw [hf] at hx ⊢; exact hx
  · rw [hset] at hP1 hD1
    exact wsz (fun hle => k H1 locs1 ls ⟨hT.turn ha (by simp; omega) (fun b hb => by simp only [zR, sr]; exact u2_o hb) (fun t' k' sh' h1 h2 => by have := (ex_lt h2).1; cases h1; omega) (fun n k' h1 _ => by have := (Prod.mk.inj h1).1; omega), L, L_turn ha hL, hP1, D_true hD1⟩ (by have := hS1.1; omega) (S_trans hS hS1) hl)
theorem g_gRr (C : Cx p s m args meth c A D cA tS Z.1 cc ret nL own) {a t mk N ix j : Nat} {ref fn fd Cn : String} {T : u_T} (ha : Z.1 a = some (20 + t, mk)) (ht : t < 11) (hc : vwCl[t]? = some (Cn, T, N)) (hu : ∀ w ∈ u_ws Cn T N, w ∈ lw_big) (hj : j < N) (hf : T j = (ref, fn, fd, (T j).2.2.2)) (hw : Cond.fieldLink own ix ref fn fd ∈ lw_big) (hv : ∀ ri rr, (flp t mk ri rr)[j]? = some (.ref (rr j))) (hd : decode cc pc = .ok (.getfield ix, 3))
    (k : GG p l e R s m args below meth c cl sl A D cA Z.1 nL Q (pc + 3) lv (.ref (Z.2.2 a j) :: st) Z.2) : GG p l e R s m args below meth c cl sl A D cA Z.1 nL Q pc lv (.ref a :: st) Z.2 := by
  intro H locs ls hM hz hS hl
  obtain ⟨hT, L, hL, hP, hD⟩ := id hM
  obtain ⟨q, hq⟩ := pl_at (cA := cA) (μ := Z.2) hL ha
  rw [ce_obj ht] at hq
  refine va_get (ref := ref) C.1 C.2.1 C.2.2.2.2.2.1 hu C.2.2.2.2.1 C.2.2.2.2.2.2.2.1.1 hP q hq hc j hj (C.2.2.2.2.2.1 _ ?_) (fun x hx => ?_) (hv _ _) hd (k H locs ls hM hz hS hl)
  · rw [hf]; exact hw
  · rw [hf] at hx ⊢; exact hx
/-- an object that is being made is whole -/
theorem g_done {a t mk : Nat} (ha : Z.1 a = some (20 + t, mk)) (ht : t < 11) (hfl : ∀ ri rr, flp t mk ri rr = fl t ri rr) (hr : ∀ k sh, ex t k = some sh → Z.2.2 a k ≠ a ∧ Z.1 (Z.2.2 a k) = some sh)
    (k : GG p l e R s m args below meth c cl sl A D cA (zD Z a t 0).1 nL Q pc lv st (zD Z a t 0).2) : GG p l e R s m args below meth c cl sl A D cA Z.1 nL Q pc lv st Z.2 := by
  intro H locs ls hM hz hS hl
  obtain ⟨hT, L, hL, hP, hD⟩ := hM
  have hcf : cf cA (zD Z a t 0).1 (zD Z a t 0).2 = cf cA Z.1 Z.2 := by
    funext b
    by_cases hb : b = a
    · subst hb
      simp only [cf, zD, s2_s, ha, Option.getD]
      rw [ce_obj ht, ce_full ht, hfl]
    · simp only [cf, zD, s2_o hb]
  exact k H locs ls ⟨hT.turn ha (by simp; omega) (fun _ _ => rfl) (fun t' k' sh' h1 h2 => by cases h1; exact hr k' sh' h2) (fun n k' h1 _ => by cases h1; omega), L, L_turn ha hL, by rw [hcf]; exact hP, by rw [hcf]; exact hD⟩ hz hS hl
theorem g_doneA {a : Nat} (ha : Z.1 a = some (15, 24)) (hr : ∀ k, k < 24 → Z.2.2 a k ≠ a ∧ Z.1 (Z.2.2 a k) = some (3, 0))
    (hlast : ∀ j, 24 ≤ j → True) (k : GG p l e R s m args below meth c cl sl A D cA (zD Z a 14 24).1 nL Q pc lv st (zD Z a 14 24).2) : GG p l e R s m args below meth c cl sl A D cA Z.1 nL Q pc lv st Z.2 := by
  intro H locs ls hM hz hS hl
  obtain ⟨hT, L, hL, hP, hD⟩ := hM
  have hcell : ∀ cA' : ClassId, vp_cell cA' (24, .inr (.inr (.inr (.inr (fun j => if j < 24 then some (Z.2.2 a j) else none))))) = vp_cell cA' (24, .inr (.inr (.inr (.inr (fun j => some (Z.2.2 a j)))))) := by
    intro cA'
    rw [vp_cell_q, vp_cell_q]
    unfold arrV
    congr 1
  have hat : ∀ (k : Nat) (q : Nat × va_E), (va_pl L (cf cA (zD Z a 14 24).1 (zD Z a 14 24).2))[k]? = some q → va_at D vwCl q H := by
    intro k q hk
    obtain ⟨b, hb, he⟩ := List.mem_map.mp (List.mem_of_getElem? hk)
    obtain ⟨k2, hk2⟩ := va_pl_get (X := []) (f := cf cA Z.1 Z.2) hb
    have h2 := hP k2 _ hk2
    rw [← he]
    by_cases hba : b = a
    · subst hba
      have e1 : cf cA Z.1 Z.2 b = .inl (cA 3, 24, .inr (.inr (.inr (.inr (fun j => if j < 24 then some (Z.2.2 b j) else none))))) := by rw [cf_at ha]; rfl
      have e2 : cf cA (zD Z b 14 24).1 (zD Z b 14 24).2 b = .inl (cA 3, 24, .inr (.inr (.inr (.inr (fun j => some (Z.2.2 b j)))))) := by rw [cf_at (sh := (14, 24)) (by simp only [zD]; exact s2_s)]; rfl
      rw [e1] at h2
      rw [e2]
      show H[b]? = some (vp_cell _ _)
      rw [← hcell]
      exact h2
    · have e3 : cf cA (zD Z a 14 24).1 (zD Z a 14 24).2 b = cf cA Z.1 Z.2 b := by simp only [cf, zD, s2_o hba]
      rw [e3]
      exact h2
  have hD' : va_D (fun _ => True) (va_pl L (cf cA (zD Z a 14 24).1 (zD Z a 14 24).2)) := by
    refine ⟨fun i j x y hi hj hxy => ?_, fun _ _ _ => trivial⟩
    have key : ∀ (f g : Nat → va_E) (i : Nat) (x : Nat × va_E), (va_pl L f)[i]? = some x → (va_pl L g)[i]? = some (x.1, g x.1) := by
      intro f g i x h
      simp only [va_pl, List.getElem?_map] at h ⊢
      cases hh : L[i]? with
      | none => rw [hh] at h; cases h
      | some z => rw [hh] at h; cases h; rfl
    exact hD.1 i j _ _ (key _ (cf cA Z.1 Z.2) i x hi) (key _ (cf cA Z.1 Z.2) j y hj) hxy
  exact k H locs ls ⟨hT.turn ha (by decide) (fun _ _ => rfl) (fun t' k' sh' h1 h2 => by cases h1) (fun n k' h1 h2 => by cases h1; exact hr k' h2), L, L_turn ha hL, hat, hD'⟩ hz hS hl
theorem g_aast (C : Cx p s m args meth c A D cA tS Z.1 cc ret nL own) {a j v : Nat} {i : Int32} (ha : Z.1 a = some (15, j)) (hj : j < 24) (hi : i = nI j) (hv : Z.1 v = some (3, 0)) (hd : decode cc pc = .ok (.aastore, 1))
    (k : GG p l e R s m args below meth c cl sl A D cA (zF Z a j v).1 nL Q (pc + 1) lv st (zF Z a j v).2) : GG p l e R s m args below meth c cl sl A D cA Z.1 nL Q pc lv (.ref v :: .int i :: .ref a :: st) Z.2 := by
  intro H locs ls hM hz hS hl
  obtain ⟨hT, L, hL, hP, hD⟩ := hM
  obtain ⟨q, hq⟩ := pl_at (cA := cA) (μ := Z.2) hL ha
  obtain ⟨q2, hq2⟩ := pl_at (cA := cA) (μ := Z.2) hL hv
  have hnc : (nI j).toNatClampNeg = j := nI_clamp (by omega)
  subst hi
  have hfe : va_up (fun x => if x < j then some (Z.2.2 a x) else none) (nI j).toNatClampNeg (some v) = fun x => if x < j + 1 then some ((zF Z a j v).2.2 a x) else none := by
    funext x
    simp only [va_up, zF, sr, u2_s, u1, hnc]
    by_cases hx : x = j
    · subst hx; simp
    · by_cases hlt : x < j
      · simp [hx, hlt, Nat.lt_succ_of_lt hlt]
      · have : ¬ x < j + 1 := by omega
        simp [hx, hlt, this]
  have hset := pl_turn (μ' := (zF Z a j v).2) (sh := (15, j + 1)) (e := .inl (cA 3, 24, .inr (.inr (.inr (.inr (va_up (fun x => if x < j then some (Z.2.2 a x) else none) (nI j).toNatClampNeg (some v))))))) hL hD ha hq (by rw [hfe]; rfl) (fun b hb => ⟨rfl, by simp only [zF, sr]; exact u2_o hb⟩)
  rw [ce_full (by decide)] at hq2
  refine va_astq C.1 C.2.1 C.2.2.2.2.2.2.2.1.1 hP (pl_D hL C.2.2.2.2.2.2.2.2 hD) (S_self hS) q 3 q2 3 (f := fun x => if x < j then some (Z.2.2 a x) else none) hq (r := (RX3, TX3, 8)) rfl hq2 rfl (vp_in_nI hj (by decide)) hd (fun H1 locs1 hP1 hD1 hS1 => ?_)
  rw [hset] at hP1 hD1
  exact wsz (fun hle => k H1 locs1 ls ⟨hT.turn ha (Nat.le_refl _) (fun b hb => by simp only [zF, sr]; exact u2_o hb) (fun t' k' sh' h1 h2 => by cases h1) (fun n k' h1 _ => by cases h1), L, L_turn ha hL, hP1, D_true hD1⟩ (by have := hS1.1; omega) (S_trans hS hS1) hl)
theorem g_objInit (C : Cx p s m args meth c A D cA tS Z.1 cc ret nL own) {ix a : Nat} (hlk : Cond.methodLink own ix objectInit ∈ lw_big) (hR : 1 ≤ R.frames ∧ (st.map fun v => v.category).sum + 12 ≤ R.locals) (hcs : cl ≤ R.cells ∧ sl ≤ R.slots) (hd : decode cc pc = .ok (.invokespecial ix, 3))
    (k : GG p l e R s m args below meth c cl sl A D cA Z.1 nL Q (pc + 3) lv st Z.2) : GG p l e R s m args below meth c cl sl A D cA Z.1 nL Q pc lv (.ref a :: st) Z.2 := fun H locs ls hM hz hS hl =>
  W.objInit C.1 C.2.1 C.2.2.2.2.1 (C.2.2.2.2.2.1 _ hlk) (C.2.2.2.2.2.1 _ wmO) (C.2.2.2.2.2.1 _ wcO) rfl (by rw [C.2.2.2.1]; exact hl.1) rfl hd hR.1 (by show 2 * 0 + _ + 12 ≤ _; omega) (k H locs ls hM hz hS hl)
end GN
/-- a constructor's contract: from a world with the blank object to the world with it made -/
def KtP (D : va_G) (cA : Nat → ClassId) (tS : Nat → Nat) (A : Nat → Prop) (n : Nat) (As : List Value) (Z : Zt) : Array Value → State → Prop := va_Pc As (fun U => U.heap.size = n ∧ MW D cA Z.1 Z.2 U.heap ∧ Kx D cA tS A U ∧ va_AO RX3 U)
def KtQ (D : va_G) (cA : Nat → ClassId) (A : Nat → Prop) (Z' : Zt) : Array Value → State → Outcome → State → Prop := va_Qv (fun (_ : Unit) => True) (fun _ t => MW D cA Z'.1 Z'.2 t.heap) A
def Kt (l : Launch) (D : va_G) (cA : Nat → ClassId) (tS : Nat → Nat) (A : Nat → Prop) (y : MethodName) (cc : ByteArray) (mL : Nat) (f lo mc ms : Nat) (n : Nat) (As : List Value) (Z Z' : Zt) : Prop :=
  Met l y (.code y cc mL none :: lw_big) { frames := f, cells := mc, slots := ms, locals := lo } (KtP D cA tS A n As Z) (KtQ D cA A Z') mc ms A
theorem KtP.blind {D : va_G} {cA : Nat → ClassId} {tS : Nat → Nat} {A : Nat → Prop} {n : Nat} {As : List Value} {Z : Zt} : FrameBlind (KtP D cA tS A n As Z) := fun a U g mk q => ⟨q.1, q.2.1, q.2.2.1, Kx.blind g mk a q.2.2.2.1, va_AO.moved (u := U) (U := U.calling g mk a) (Vm.Alike.refl U.vm) q.2.2.2.2⟩
theorem Kt.of {l : Launch} {D : va_G} {cA : Nat → ClassId} {tS : Nat → Nat} {A : Nat → Prop} {y : MethodName} {cc : ByteArray} {mL f lo mc ms n : Nat} {As : List Value} {Z Z' : Zt} (hy : plainName y.cls = true) (hyn : y.name = "<init>") (hn : (lg_sl As).length ≤ mL) (hA : ∀ q, dm Z.1 q → A q)
    (body : ∀ (p : Program) (e : Env) (s : State) (m : MethodId) (args : Array Value) (below : List Frame) (meth : Method) (c : Code), s.heap.size = n → meth.name = "<init>" → va_AO RX3 s → Cx p s m args meth c A D cA tS Z.1 cc none mL y.cls → GG p l e { frames := f, cells := mc, slots := ms, locals := lo } s m args below meth c 0 0 A D cA Z.1 mL (MQ below (KtQ D cA A Z') args s mc ms A) 0 (lv_args 0 As) [] Z.2) : Kt l D cA tS A y cc mL f lo mc ms n As Z Z' := by
  refine Met.ofW (cc := cc) (maxL := mL) (ret := none) hy rfl ?_
  intro p e s m args below meth c s₁ B hml hv
  obtain ⟨rfl, hsz, hM, hK, hAO⟩ := hv
  have hts := atoms_spec (ws := .code y cc mL none :: lw_big) B.pre
  have hown : s.vm.findClass y.cls = some m.cls := findClass_of_methodNamed B.named
  have hin : meth.name = "<init>" := (name_of_methodNamed B.named B.method).1.trans hyn
  have hl := lv_entry As (n := mL) hn
  rw [lg_entry_eq]
  exact body p e s m As.toArray below meth c hsz hin hAO ⟨B.exec, B.bytes, B.returns, hml, hown, fun w h => hts w (List.mem_cons_of_mem _ h), B.notSynchronized, hK, hA⟩ s.heap [] _ hM rfl va_S.rf hl
section GK
variable {p : Program} {l : Launch} {e : Env} {R : Room} {s : State} {m : MethodId} {args : Array Value} {below : List Frame} {meth : Method} {c : Code} {cl sl : Nat} {A : Nat → Prop} {D : va_G} {cA : Nat → ClassId} {tS : Nat → Nat} {Z : Zt} {cc : ByteArray} {ret : Option FieldType} {nL : Nat} {own : String} {Q : State → Prop} {pc : Nat} {lv : List (Nat × Value)} {st : List Value}
theorem g_kret {mc ms : Nat} (C : Cx p s m args meth c A D cA tS Z.1 cc none nL own) (hc : cl = mc ∧ sl = ms) (hd : decode cc pc = .ok (.return_, 1)) : GG p l e R s m args below meth c cl sl A D cA Z.1 nL (MQ below (KtQ D cA A Z) args s mc ms A) pc lv [] Z.2 := fun H locs ls hM hz hS hl => by
  obtain ⟨rfl, rfl⟩ := hc
  exact W.vret (hlocks := C.2.2.2.2.2.2.1) C.1 C.2.1 C.2.2.1 (fun t ht hW => ⟨⟨(), rfl, trivial, by show MW D cA Z.1 Z.2 t.heap; rw [ht]; exact hM⟩, hS.F ht⟩) hS.2.2 hd
theorem g_callK {y : MethodName} {bytes : ByteArray} {mL f lo mc ms n ix b : Nat} {rest : List Value} {Z' : Zt} (C : Cx p s m args meth c A D cA tS Z.1 cc ret nL own) (hAO : va_AO RX3 s) (hn : s.heap.size + cl = n) (hc : Kt l D cA tS A y bytes mL f lo mc ms n [.ref b] Z Z')
    (hcode : Cond.code y bytes mL none ∈ lw_big) (hinst : Cond.instanceMethod y ∈ lw_big) (hini : Cond.initialized y.cls ∈ lw_big) (hyn : y.name = "<init>") (hy : y.cls ≠ "java/lang/invoke/MethodHandle" ∧ y.cls ≠ "java/lang/invoke/VarHandle" ∧ (parseMethodDescriptor y.desc).map (fun d => d.parameters.length) = some 0) (hlk : Cond.methodLink own ix y ∈ lw_big) (hw8 : (rest.map fun v => v.category).sum ≤ 8) (hd : decode cc pc = .ok (.invokespecial ix, 3)) (hR : f + 1 ≤ R.frames ∧ 8 + (mL + 11) + lo ≤ R.locals) (hcs : cl + mc ≤ R.cells ∧ sl + ms ≤ R.slots) (hlast : ∃ sh, Z'.1 (s.heap.size + cl + mc - 1) = some sh)
    (k : GG p l e R s m args below meth c (cl + mc) (sl + ms) A D cA Z'.1 nL Q (pc + 3) lv rest Z'.2) : GG p l e R s m args below meth c cl sl A D cA Z.1 nL Q pc lv (.ref b :: rest) Z.2 := by
  intro H locs ls hM hz hS hl
  have hrun := va_runI (g := F0 m pc ls (.ref b :: rest)) (As := []) (rest := rest) (locs := locs) (below := below) (meth := meth) (e := e) (cells := cl) (slots := sl) (R := R) (H := H) ⟨C.1, C.2.1, C.2.2.2.1, C.2.2.2.2.1, C.2.2.2.2.2.1⟩ hc (cwI 0 C.2.2.2.2.2.1 (big_gi (fun _ h => h) hcode) rfl rfl rfl (C.2.2.2.2.2.1 _ hini) (C.2.2.2.2.2.1 _ hlk) (C.2.2.2.2.2.1 _ hinst) hyn hy hR) ⟨KtP.blind, fun U hU hW => ⟨rfl, by rw [hU]; omega, by rw [hU]; exact hM, C.2.2.2.2.2.2.2.1.go hS hU hW, va_AO.moved hW.alike hAO⟩⟩ rfl rfl hl.1 rfl (lv_room hw8) hd hcs
  refine va_callv hrun hS (fun _ _ h => h) (fun _ h => h) (fun u t H1 locs1 ht hvm hp hB hz1 hk hS1 => wsz (fun hle => ?_))
  have hM1 : MW D cA Z'.1 Z'.2 H1 := ht ▸ hB
  refine k H1 locs1 ls hM1 ?_ hS1 hl
  obtain ⟨sh, hsh⟩ := hlast
  obtain ⟨hT1, L1, hL1, hP1, hD1⟩ := hM1
  have := va_pl_lt (X := []) hP1 ((hL1 _).mpr (dm_of hsh))
  by_cases h0 : mc = 0
  · subst h0; omega
  · omega
end GK

/-! what an object that is being made holds, and what its making leaves alone -/
def PO (Z : Zt) (a0 t mk n : Nat) (l : List (Nat × Nat × (Nat × Nat))) : Prop := Z.1 a0 = some (20 + t, mk) ∧ a0 < n ∧ ∀ e ∈ l, Z.2.2 a0 e.1 = e.2.1 ∧ Z.1 e.2.1 = some e.2.2 ∧ a0 < e.2.1 ∧ e.2.1 < n
theorem PO.fr {Z Z' : Zt} {a0 t mk n n' : Nat} {l : List (Nat × Nat × (Nat × Nat))} (h : PO Z a0 t mk n l) (hf : FrZ Z Z' n) (hn : n ≤ n') : PO Z' a0 t mk n' l := by
  obtain ⟨h1, h2, h3⟩ := h
  refine ⟨(hf a0 h2).1.trans h1, by omega, fun e he => ?_⟩
  obtain ⟨g1, g2, g3, g4⟩ := h3 e he
  exact ⟨by rw [(hf a0 h2).2.2]; exact g1, (hf _ g4).1.trans g2, g3, by omega⟩
theorem PO.i {Z : Zt} {a0 t mk n k : Nat} {v : Int32} {l : List (Nat × Nat × (Nat × Nat))} (h : PO Z a0 t mk n l) : PO (zI Z a0 k v) a0 t mk n l := h
theorem PO.r {Z : Zt} {a0 t mk mk' n k v : Nat} {sh : Nat × Nat} {l : List (Nat × Nat × (Nat × Nat))} (h : PO Z a0 t mk n l) (hk : (l.all fun e => !(e.1 == k)) = true) (hv : Z.1 v = some sh) (h1 : a0 < v) (h2 : v < n) : PO (zR Z a0 t mk' k v) a0 t mk' n ((k, v, sh) :: l) := by
  obtain ⟨g1, g2, g3⟩ := h
  refine ⟨s2_s, g2, fun e he => ?_⟩
  rcases List.mem_cons.mp he with rfl | he
  · exact ⟨by simp [zR, sr, u2, u1], by simp only [zR]; rw [s2_o (by omega)]; exact hv, h1, h2⟩
  · obtain ⟨q1, q2, q3, q4⟩ := g3 e he
    have hne : e.1 ≠ k := by
      have := List.all_eq_true.mp hk e he
      simpa using this
    exact ⟨by simp only [zR, sr, u2_s, u1, if_neg hne]; exact q1, by simp only [zR]; rw [s2_o (by omega)]; exact q2, q3, q4⟩
theorem PO.sh {Z : Zt} {a0 t mk n : Nat} {l : List (Nat × Nat × (Nat × Nat))} (h : PO Z a0 t mk n l) (e : Nat × Nat × (Nat × Nat)) (he : e ∈ l) : Z.2.2 a0 e.1 ≠ a0 ∧ Z.1 (Z.2.2 a0 e.1) = some e.2.2 := by
  obtain ⟨q1, q2, q3, q4⟩ := h.2.2 e he
  rw [q1]
  exact ⟨by omega, q2⟩
def exl (t : Nat) : List (Nat × (Nat × Nat)) := match t with
  | 0 => [(0, (11, 12000))]
  | 1 => [(0, (0, 0)), (1, (11, 4096)), (2, (11, 4096)), (3, (11, 4096)), (4, (11, 4096)), (5, (11, 4096))]
  | 2 => [(0, (0, 0)), (1, (11, 4096)), (2, (11, 4096)), (3, (11, 4096)), (4, (11, 4096))]
  | 3 => [(5, (7, 0)), (6, (8, 0)), (7, (11, 4096))]
  | 4 => [(5, (7, 0)), (6, (14, 24))]
  | 5 => [(0, (0, 0)), (1, (1, 0)), (2, (8, 0)), (3, (4, 0))]
  | 6 => [(0, (2, 0)), (1, (0, 0))]
  | 7 => [(0, (11, 256))]
  | 8 => []
  | 9 => [(0, (0, 0)), (1, (5, 0)), (2, (6, 0)), (3, (4, 0)), (4, (0, 0))]
  | 10 => [(0, (12, 12020)), (1, (12, 12020)), (7, (11, 12)), (8, (11, 512)), (9, (11, 480)), (10, (11, 12288)), (11, (13, 196608)), (21, (12, 12020)), (24, (13, 4096)), (25, (13, 4096)), (26, (13, 4096)), (27, (13, 4096)), (35, (12, 256)), (36, (13, 4096)), (37, (13, 4096))]
  | _ => []
theorem ex_mem {t k : Nat} {sh : Nat × Nat} (h : ex t k = some sh) : (k, sh) ∈ exl t := by
  unfold ex at h
  split at h <;> first | (cases h; decide) | cases h
theorem PO.done {Z : Zt} {a0 t mk n : Nat} {l : List (Nat × Nat × (Nat × Nat))} (h : PO Z a0 t mk n l) (hl : ∀ q ∈ exl t, ∃ v, (q.1, v, q.2) ∈ l) : ∀ k sh, ex t k = some sh → Z.2.2 a0 k ≠ a0 ∧ Z.1 (Z.2.2 a0 k) = some sh := by
  intro k sh hx
  obtain ⟨v, hv⟩ := hl _ (ex_mem hx)
  exact h.sh _ hv
/-- from Z to Z' behind the object a0, the cells from n on being new, c of them -/
def Ev (Z Z' : Zt) (a0 n c : Nat) : Prop := FrZ Z Z' a0 ∧ (∀ j, n ≤ j → j < n + c → dm Z'.1 j) ∧ (∀ j, dm Z'.1 j → dm Z.1 j ∨ n ≤ j) ∧ ∀ j, dm Z.1 j → dm Z'.1 j
theorem Ev.rf {Z : Zt} {a0 n : Nat} : Ev Z Z a0 n 0 := ⟨FrZ.rf, fun j h1 h2 => by omega, fun j h => Or.inl h, fun _ h => h⟩
theorem dm_s2 {σ : Sg} {a b : Nat} {x : Nat × Nat} : dm (s2 σ a (some x)) b ↔ b = a ∨ dm σ b := by
  by_cases hb : b = a
  · subst hb; exact ⟨fun _ => Or.inl rfl, fun _ => dm_of s2_s⟩
  · unfold dm; rw [s2_o hb]; simp [hb]
theorem Ev.N {Z Z1 : Zt} {a0 n c t : Nat} (h : Ev Z Z1 a0 n c) (ha : a0 ≤ n) : Ev Z (zN Z1 (n + c) t) a0 n (c + 1) := by
  obtain ⟨h1, h2, h3, h4⟩ := h
  refine ⟨h1.tr (FrZ.N (by omega)), fun j g1 g2 => ?_, fun j hj => ?_, fun j hj => ?_⟩
  · refine dm_s2.mpr ?_
    by_cases hjc : j = n + c
    · exact Or.inl hjc
    · exact Or.inr (h2 j g1 (by omega))
  · rcases dm_s2.mp hj with rfl | hj
    · right; omega
    · exact h3 j hj
  · exact dm_s2.mpr (Or.inr (h4 j hj))
theorem Ev.A {Z Z1 : Zt} {a0 n c t N : Nat} (h : Ev Z Z1 a0 n c) (ha : a0 ≤ n) : Ev Z (zA Z1 (n + c) t N) a0 n (c + 1) := by
  obtain ⟨h1, h2, h3, h4⟩ := h
  refine ⟨h1.tr (FrZ.A (by omega)), fun j g1 g2 => ?_, fun j hj => ?_, fun j hj => ?_⟩
  · refine dm_s2.mpr ?_
    by_cases hjc : j = n + c
    · exact Or.inl hjc
    · exact Or.inr (h2 j g1 (by omega))
  · rcases dm_s2.mp hj with rfl | hj
    · right; omega
    · exact h3 j hj
  · exact dm_s2.mpr (Or.inr (h4 j hj))
theorem Ev.S {Z Z1 Z2 : Zt} {a0 n c a : Nat} {x : Nat × Nat} (h : Ev Z Z1 a0 n c) (hs : Z2.1 = s2 Z1.1 a (some x)) (hf : FrZ Z1 Z2 a0) (ha : dm Z1.1 a) : Ev Z Z2 a0 n c := by
  obtain ⟨h1, h2, h3, h4⟩ := h
  refine ⟨h1.tr hf, fun j g1 g2 => ?_, fun j hj => ?_, fun j hj => ?_⟩
  · rw [hs]; exact dm_s2.mpr (Or.inr (h2 j g1 g2))
  · rw [hs] at hj
    rcases dm_s2.mp hj with rfl | hj
    · exact h3 _ ha
    · exact h3 j hj
  · rw [hs]; exact dm_s2.mpr (Or.inr (h4 j hj))
theorem Ev.M {Z Z1 Z2 : Zt} {a0 n c : Nat} (h : Ev Z Z1 a0 n c) (hs : Z2.1 = Z1.1) (hf : FrZ Z1 Z2 a0) : Ev Z Z2 a0 n c := by
  obtain ⟨h1, h2, h3, h4⟩ := h
  exact ⟨h1.tr hf, fun j g1 g2 => by rw [hs]; exact h2 j g1 g2, fun j hj => by rw [hs] at hj; exact h3 j hj, fun j hj => by rw [hs]; exact h4 j hj⟩
theorem Ev.K {Z Z1 Z2 : Zt} {a0 n c q mc : Nat} (h : Ev Z Z1 a0 n c) (hk : Ev Z1 Z2 q (n + c) mc) (hq : a0 ≤ q) : Ev Z Z2 a0 n (c + mc) := by
  obtain ⟨h1, h2, h3, h4⟩ := h
  obtain ⟨k1, k2, k3, k4⟩ := hk
  refine ⟨h1.tr (k1.le hq), fun j g1 g2 => ?_, fun j hj => ?_, fun j hj => k4 j (h4 j hj)⟩
  · by_cases hjc : j < n + c
    · exact k4 j (h2 j g1 hjc)
    · exact k2 j (by omega) (by omega)
  · rcases k3 j hj with hj | hj
    · exact h3 j hj
    · right; omega
theorem Ev.A' {Z Z1 : Zt} {a0 n c : Nat} {A : Nat → Prop} (h : Ev Z Z1 a0 n c) (hA : ∀ q, dm Z.1 q → A q) (hn : ∀ q, n ≤ q → A q) : ∀ q, dm Z1.1 q → A q := fun q hq => (h.2.2.1 q hq).elim (hA q) (hn q)

def LK (Z : Zt) (a0 : Nat) (l : List (Nat × Nat × (Nat × Nat))) : Prop := ∀ e ∈ l, Z.2.2 a0 e.1 = e.2.1 ∧ Z.1 e.2.1 = some e.2.2
theorem PO.lk {Z : Zt} {a0 t mk n t' n' : Nat} {l : List (Nat × Nat × (Nat × Nat))} (h : PO Z a0 t mk n l) : LK (zD Z a0 t' n') a0 l := fun e he => ⟨(h.2.2 e he).1, by have := (h.2.2 e he).2.2.1; simp only [zD]; rw [s2_o (by omega)]; exact (h.2.2 e he).2.1⟩
theorem zR_o {Z : Zt} {a t mk k v b : Nat} (h : b ≠ a) : (zR Z a t mk k v).2.2 b = Z.2.2 b := u2_o h
theorem Ev.c {Z Z1 : Zt} {a0 n c c' : Nat} (h : Ev Z Z1 a0 n c) (e : c = c') : Ev Z Z1 a0 n c' := e ▸ h
