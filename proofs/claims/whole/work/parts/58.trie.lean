/-! WRITING: rows that are known, as lists of children -/
abbrev Nl : Type := Nat → List Nat
def fnd (T : Nf) (v : Nat) : List Nat → Option Nat
  | [] => none
  | y :: ys => if T y = v then some y else fnd T v ys
def lg (ch : Nl) (T o : Nf) (pl : Nat) : Nat → Nat → Nat → Nat × Nat
  | 0, c, k => (c, k)
  | f + 1, c, k => if k < pl then (match fnd T (o k) (ch c) with | some y => lg ch T o pl f y (k + 1) | none => (c, k)) else (c, k)
def tch (ch : Nl) (nx p : Nat) : Nl := u1 (u1 ch nx []) p (nx :: ch p)
def std (A T o : Nf) (a : Nat) : Nat → Nat → Prop
  | 0, _ => True
  | r + 1, x => T x = o (a + r) ∧ std A T o a r (A x)
/-- no two have the same value -/
def ndT (T : Nf) : List Nat → Prop
  | [] => True
  | y :: ys => (∀ z, z ∈ ys → T z ≠ T y) ∧ ndT T ys
def TI (e nx : Nat) (ch : Nl) (A F T : Nf) : Prop := (∀ c, DK (2 ^ e) nx c → (∀ y, y ∈ ch c → 2 ^ e + 2 ≤ y ∧ y < nx ∧ A y = c) ∧ ndT T (ch c)) ∧ (∀ y, 2 ^ e + 2 ≤ y → y < nx → y ∈ ch (A y)) ∧ (∀ y, 2 ^ e + 2 ≤ y → y < nx → F y = F (A y))
theorem fnd_s {T : Nf} {v y : Nat} : ∀ l, fnd T v l = some y → y ∈ l ∧ T y = v := by
  intro l
  induction l with
  | nil => intro h; cases h
  | cons x xs ih =>
    intro h
    have h' : (if T x = v then some x else fnd T v xs) = some y := h
    by_cases q : T x = v
    · rw [if_pos q] at h'
      have : x = y := by injection h'
      rw [← this]
      exact ⟨by simp, q⟩
    · rw [if_neg q] at h'
      obtain ⟨a, b⟩ := ih h'
      exact ⟨by simp [a], b⟩
theorem fnd_m {T : Nf} {y : Nat} : ∀ l, ndT T l → y ∈ l → fnd T (T y) l = some y := by
  intro l
  induction l with
  | nil => intro _ h; cases h
  | cons x xs ih =>
    intro hn hy
    show (if T x = T y then some x else fnd T (T y) xs) = some y
    by_cases q : y = x
    · rw [q, if_pos rfl]
    · have hy' : y ∈ xs := by
        rcases List.mem_cons.mp hy with w | w
        · exact absurd w q
        · exact w
      rw [if_neg (fun w => hn.1 y hy' w.symm)]
      exact ih hn.2 hy'
theorem fnd_c {T T' : Nf} {v : Nat} : ∀ l, (∀ y, y ∈ l → T' y = T y) → fnd T' v l = fnd T v l := by
  intro l
  induction l with
  | nil => intro _; rfl
  | cons x xs ih =>
    intro h
    show (if T' x = v then some x else fnd T' v xs) = (if T x = v then some x else fnd T v xs)
    rw [h x (by simp), ih (fun y hy => h y (by simp [hy]))]
theorem ndT_c {T T' : Nf} : ∀ l, (∀ y, y ∈ l → T' y = T y) → ndT T l → ndT T' l := by
  intro l
  induction l with
  | nil => intro _ _; trivial
  | cons x xs ih =>
    intro h hn
    refine ⟨fun z hz => ?_, ih (fun y hy => h y (by simp [hy])) hn.2⟩
    rw [h x (by simp), h z (by simp [hz])]
    exact hn.1 z hz
theorem fnd_n {T : Nf} {v : Nat} : ∀ l, fnd T v l = none → ∀ y, y ∈ l → T y ≠ v := by
  intro l
  induction l with
  | nil => intro _ y hy; cases hy
  | cons x xs ih =>
    intro h y hy
    have h' : (if T x = v then some x else fnd T v xs) = none := h
    by_cases q : T x = v
    · rw [if_pos q] at h'; cases h'
    · rw [if_neg q] at h'
      rcases List.mem_cons.mp hy with w | w
      · rw [w]; exact q
      · exact ih h' y w
/-- at most as many as there are values -/
def flt (T : Nf) (v : Nat) : List Nat → List Nat
  | [] => []
  | y :: ys => if T y = v then flt T v ys else y :: flt T v ys
theorem flt_m {T : Nf} {v z : Nat} : ∀ l, z ∈ flt T v l → z ∈ l ∧ T z ≠ v := by
  intro l
  induction l with
  | nil => intro h; cases h
  | cons x xs ih =>
    intro h
    have h' : z ∈ (if T x = v then flt T v xs else x :: flt T v xs) := h
    by_cases q : T x = v
    · rw [if_pos q] at h'
      obtain ⟨a, b⟩ := ih h'
      exact ⟨by simp [a], b⟩
    · rw [if_neg q] at h'
      rcases List.mem_cons.mp h' with w | w
      · rw [w]; exact ⟨by simp, q⟩
      · obtain ⟨a, b⟩ := ih w
        exact ⟨by simp [a], b⟩
theorem flt_id {T : Nf} {v : Nat} : ∀ l, (∀ z, z ∈ l → T z ≠ v) → flt T v l = l := by
  intro l
  induction l with
  | nil => intro _; rfl
  | cons x xs ih =>
    intro h
    show (if T x = v then flt T v xs else x :: flt T v xs) = x :: xs
    rw [if_neg (h x (by simp)), ih (fun z hz => h z (by simp [hz]))]
theorem flt_nd {T : Nf} {v : Nat} : ∀ l, ndT T l → ndT T (flt T v l) := by
  intro l
  induction l with
  | nil => intro h; exact h
  | cons x xs ih =>
    intro h
    show ndT T (if T x = v then flt T v xs else x :: flt T v xs)
    by_cases q : T x = v
    · rw [if_pos q]; exact ih h.2
    · rw [if_neg q]
      exact ⟨fun z hz => h.1 z (flt_m xs hz).1, ih h.2⟩
theorem flt_len {T : Nf} {v : Nat} : ∀ l, ndT T l → l.length ≤ (flt T v l).length + 1 := by
  intro l
  induction l with
  | nil => intro _; exact Nat.zero_le _
  | cons x xs ih =>
    intro h
    show (x :: xs).length ≤ (if T x = v then flt T v xs else x :: flt T v xs).length + 1
    by_cases q : T x = v
    · rw [if_pos q, flt_id xs (fun z hz => by rw [← q]; exact h.1 z hz), List.length_cons]
      omega
    · rw [if_neg q, List.length_cons, List.length_cons]
      have := ih h.2
      omega
theorem nd_len {T : Nf} : ∀ m l, ndT T l → (∀ y, y ∈ l → T y < m) → l.length ≤ m := by
  intro m
  induction m with
  | zero =>
    intro l _ h
    cases l with
    | nil => exact Nat.le_refl _
    | cons x xs => exact absurd (h x (by simp)) (by omega)
  | succ m ih =>
    intro l hn h
    have h1 := flt_len (v := m) l hn
    have h2 := ih (flt T m l) (flt_nd l hn) (fun y hy => by
      obtain ⟨a, b⟩ := flt_m l hy
      have := h y a
      omega)
    omega
section TR
variable {e nx a pl : Nat} {fm : Option Nat} {ch : Nl} {A F T N o : Nf}
/-- a child is one longer -/
theorem ch_N (hD : DI e nx fm A F T N) (hT : TI e nx ch A F T) {c y : Nat} (hc : DK (2 ^ e) nx c) (hy : y ∈ ch c) : DK (2 ^ e) nx y ∧ N y = N c + 1 ∧ A y = c := by
  obtain ⟨h1, h2, h3⟩ := (hT.1 c hc).1 y hy
  obtain ⟨w1, w2, w3, w4⟩ := hD.2.2.2.2 y h1 h2
  exact ⟨Or.inr ⟨h1, h2⟩, by rw [w2, h3], h3⟩
theorem lg_i (hD : DI e nx fm A F T N) (hT : TI e nx ch A F T) : ∀ f c k, DK (2 ^ e) nx c → std A T o a (N c) c → k = a + N c → k ≤ pl → DK (2 ^ e) nx (lg ch T o pl f c k).1 ∧ std A T o a (N (lg ch T o pl f c k).1) (lg ch T o pl f c k).1 ∧ (lg ch T o pl f c k).2 = a + N (lg ch T o pl f c k).1 ∧ (lg ch T o pl f c k).2 ≤ pl := by
  intro f
  induction f with
  | zero => intro c k h1 h2 h3 h4; exact ⟨h1, h2, h3, h4⟩
  | succ f ih =>
    intro c k h1 h2 h3 h4
    have er : lg ch T o pl (f + 1) c k = if k < pl then (match fnd T (o k) (ch c) with | some y => lg ch T o pl f y (k + 1) | none => (c, k)) else (c, k) := rfl
    rw [er]
    by_cases q : k < pl
    · rw [if_pos q]
      cases hq : fnd T (o k) (ch c) with
      | none => exact ⟨h1, h2, h3, h4⟩
      | some y =>
        obtain ⟨y1, y2⟩ := fnd_s _ hq
        obtain ⟨z1, z2, z3⟩ := ch_N hD hT h1 y1
        exact ih y (k + 1) z1 (by rw [z2]; exact ⟨by rw [y2, h3], by rw [z3]; exact h2⟩) (by omega) (by omega)
    · rw [if_neg q]; exact ⟨h1, h2, h3, h4⟩
theorem lg_e : ∀ f c k, pl - k ≤ f → (lg ch T o pl f c k).2 < pl → fnd T (o (lg ch T o pl f c k).2) (ch (lg ch T o pl f c k).1) = none := by
  intro f
  induction f with
  | zero => intro c k h1 h2; exact absurd h2 (by show ¬ k < pl; omega)
  | succ f ih =>
    intro c k h1
    have er : lg ch T o pl (f + 1) c k = if k < pl then (match fnd T (o k) (ch c) with | some y => lg ch T o pl f y (k + 1) | none => (c, k)) else (c, k) := rfl
    rw [er]
    by_cases q : k < pl
    · rw [if_pos q]
      cases hq : fnd T (o k) (ch c) with
      | none => intro _; exact hq
      | some y => exact ih y (k + 1) (by omega)
    · rw [if_neg q]; intro h2; exact absurd h2 q
theorem std_F (hD : DI e nx fm A F T N) (hT : TI e nx ch A F T) : ∀ x, DK (2 ^ e) nx x → std A T o a (N x) x → F x = o a := by
  intro x
  induction x using Nat.strongRecOn with
  | ind x ih =>
    intro hx hs
    rcases hx with q | ⟨q1, q2⟩
    · obtain ⟨f1, f2, f3⟩ := hD.2.2.2.1 x q
      rw [f3] at hs
      have : T x = o (a + 0) := hs.1
      rw [f1, ← f2, this]; rfl
    · obtain ⟨w1, w2, w3, w4⟩ := hD.2.2.2.2 x q1 q2
      rw [w2] at hs
      have hA : A x < x := by rcases w1 with w | w <;> omega
      rw [hT.2.2 x q1 q2]
      exact ih (A x) hA (w1.up (by omega)) hs.2
/-- the search passes every row that stands -/
theorem reach (hD : DI e nx fm A F T N) (hT : TI e nx ch A F T) : ∀ x, DK (2 ^ e) nx x → std A T o a (N x) x → a + N x ≤ pl → ∀ f, lg ch T o pl (f + (N x - 1)) (o a) (a + 1) = lg ch T o pl f x (a + N x) := by
  intro x
  induction x using Nat.strongRecOn with
  | ind x ih =>
    intro hx hs hp f
    rcases hx with q | ⟨q1, q2⟩
    · obtain ⟨f1, f2, f3⟩ := hD.2.2.2.1 x q
      rw [f3] at hs ⊢
      have : T x = o (a + 0) := hs.1
      rw [show o a = x by rw [← f2, this]; rfl]
      rfl
    · obtain ⟨w1, w2, w3, w4⟩ := hD.2.2.2.2 x q1 q2
      rw [w2] at hs hp ⊢
      have hA : A x < x := by rcases w1 with w | w <;> omega
      have hk := w1.up (show x ≤ nx by omega)
      obtain ⟨n1, n2⟩ := hD.n (A x) hk
      have i := ih (A x) hA hk hs.2 (by omega) (f + 1)
      rw [show f + (N (A x) + 1 - 1) = f + 1 + (N (A x) - 1) by omega, i]
      have er : lg ch T o pl (f + 1) (A x) (a + N (A x)) = if a + N (A x) < pl then (match fnd T (o (a + N (A x))) (ch (A x)) with | some y => lg ch T o pl f y (a + N (A x) + 1) | none => (A x, a + N (A x))) else (A x, a + N (A x)) := rfl
      rw [er, if_pos (by omega), ← hs.1, fnd_m _ (hT.1 (A x) hk).2 (hT.2.1 x q1 q2)]
      rfl
/-- the table behind a row that is told -/
theorem TI.tell {p v : Nat} (hD : DI e nx (some p) A F T N) (hT : TI e nx ch A F T) (hv : fnd T v (ch p) = none) : TI e (nx + 1) (tch ch nx p) (u1 A nx p) (u1 F nx (F p)) (u1 T nx v) := by
  have hp := hD.2.2.1 p rfl
  have hnx := hD.2.1.1
  have hpn : p ≠ nx := by rcases hp with q | q <;> omega
  have cn : tch ch nx p nx = [] := by unfold tch; rw [u1_j (fun w => hpn w.symm), u1_k]
  have cp : tch ch nx p p = nx :: ch p := by unfold tch; rw [u1_k]
  have co : ∀ c, c ≠ nx → c ≠ p → tch ch nx p c = ch c := fun c h1 h2 => by unfold tch; rw [u1_j h2, u1_j h1]
  have ol : ∀ c, DK (2 ^ e) nx c → ∀ y, y ∈ ch c → y ≠ nx := fun c hc y hy => by have := (hT.1 c hc).1 y hy; omega
  refine ⟨fun c hc => ?_, fun y h1 h2 => ?_, fun y h1 h2 => ?_⟩
  · by_cases q1 : c = nx
    · rw [q1, cn]
      exact ⟨fun y hy => (by cases hy), trivial⟩
    · have hc' : DK (2 ^ e) nx c := by
        rcases hc with w | w
        · exact Or.inl w
        · exact Or.inr ⟨w.1, by omega⟩
      have ho : (∀ y, y ∈ ch c → 2 ^ e + 2 ≤ y ∧ y < nx + 1 ∧ u1 A nx p y = c) ∧ ndT (u1 T nx v) (ch c) := by
        refine ⟨fun y hy => ?_, ndT_c _ (fun y hy => u1_j (ol c hc' y hy)) (hT.1 c hc').2⟩
        obtain ⟨w1, w2, w3⟩ := (hT.1 c hc').1 y hy
        exact ⟨w1, by omega, by rw [u1_j (by omega)]; exact w3⟩
      by_cases q2 : c = p
      · rw [q2, cp]
        rw [q2] at ho hc'
        refine ⟨fun y hy => ?_, fun z hz => ?_, ho.2⟩
        · rcases List.mem_cons.mp hy with w | w
          · rw [w, u1_k]; exact ⟨by omega, by omega, rfl⟩
          · exact ho.1 y w
        · rw [u1_k, u1_j (ol p hc' z hz)]
          exact fnd_n _ hv z hz
      · rw [co c q1 q2]; exact ho
  · by_cases q1 : y = nx
    · rw [q1, u1_k, cp]; simp
    · rw [u1_j q1]
      have hm := hT.2.1 y h1 (by omega)
      have hk := (hD.2.2.2.2 y h1 (by omega)).1
      have hAn : A y ≠ nx := by rcases hk with w | w <;> omega
      by_cases q2 : A y = p
      · rw [q2, cp]
        rw [q2] at hm
        simp [hm]
      · rw [co _ hAn q2]; exact hm
  · by_cases q1 : y = nx
    · rw [q1, u1_k, u1_k, u1_j hpn]
    · have hk := (hD.2.2.2.2 y h1 (by omega)).1
      have hAn : A y ≠ nx := by rcases hk with w | w <;> omega
      rw [u1_j q1, u1_j q1, u1_j hAn]
      exact hT.2.2 y h1 (by omega)
/-- the search with the row that is told now, and without it -/
theorem lg_2 {p : Nat} (hD : DI e nx (some p) A F T N) (hT : TI e nx ch A F T) (hv : fnd T (o a) (ch p) = none) : ∀ f c k, DK (2 ^ e) nx c → std A T o a (N c) c → k = a + N c → pl - k ≤ f → (lg (tch ch nx p) (u1 T nx (o a)) o pl f c k = lg ch T o pl f c k ∧ ¬ ((lg ch T o pl f c k).1 = p ∧ (lg ch T o pl f c k).2 < pl ∧ o (lg ch T o pl f c k).2 = o a)) ∨ (lg ch T o pl f c k = (p, a + N p) ∧ a + N p < pl ∧ o (a + N p) = o a ∧ lg (tch ch nx p) (u1 T nx (o a)) o pl f c k = (nx, a + N p + 1)) := by
  have hp := hD.2.2.1 p rfl
  have hnx := hD.2.1.1
  have hpn : p ≠ nx := by rcases hp with q | q <;> omega
  have cn : tch ch nx p nx = [] := by unfold tch; rw [u1_j (fun w => hpn w.symm), u1_k]
  have cp : tch ch nx p p = nx :: ch p := by unfold tch; rw [u1_k]
  have co : ∀ c, c ≠ nx → c ≠ p → tch ch nx p c = ch c := fun c h1 h2 => by unfold tch; rw [u1_j h2, u1_j h1]
  have ol : ∀ c, DK (2 ^ e) nx c → ∀ y, y ∈ ch c → y ≠ nx := fun c hc y hy => by have := (hT.1 c hc).1 y hy; omega
  have lgn : ∀ f k, lg (tch ch nx p) (u1 T nx (o a)) o pl f nx k = (nx, k) := by
    intro f k
    cases f with
    | zero => rfl
    | succ f =>
      show (if k < pl then (match fnd (u1 T nx (o a)) (o k) (tch ch nx p nx) with | some y => lg (tch ch nx p) (u1 T nx (o a)) o pl f y (k + 1) | none => (nx, k)) else (nx, k)) = _
      rw [cn]
      split
      · rfl
      · rfl
  intro f
  induction f with
  | zero =>
    intro c k h1 h2 h3 h4
    exact Or.inl ⟨rfl, fun w => by
      have : k < pl := w.2.1
      omega⟩
  | succ f ih =>
    intro c k h1 h2 h3 h4
    have e0 : lg ch T o pl (f + 1) c k = if k < pl then (match fnd T (o k) (ch c) with | some y => lg ch T o pl f y (k + 1) | none => (c, k)) else (c, k) := rfl
    have e1 : lg (tch ch nx p) (u1 T nx (o a)) o pl (f + 1) c k = if k < pl then (match fnd (u1 T nx (o a)) (o k) (tch ch nx p c) with | some y => lg (tch ch nx p) (u1 T nx (o a)) o pl f y (k + 1) | none => (c, k)) else (c, k) := rfl
    rw [e0, e1]
    by_cases q : k < pl
    · rw [if_pos q, if_pos q]
      have fo : fnd (u1 T nx (o a)) (o k) (ch c) = fnd T (o k) (ch c) := fnd_c _ (fun y hy => u1_j (ol c h1 y hy))
      by_cases qs : c = p ∧ o k = o a
      · have hk : k = a + N p := by rw [h3, qs.1]
        have f0 : fnd T (o k) (ch c) = none := by rw [qs.1, qs.2]; exact hv
        have f1 : fnd (u1 T nx (o a)) (o k) (tch ch nx p c) = some nx := by
          rw [qs.1, cp]
          show (if u1 T nx (o a) nx = o k then some nx else _) = some nx
          rw [u1_k, if_pos qs.2.symm]
        rw [f0, f1]
        refine Or.inr ⟨?_, by omega, by rw [← hk]; exact qs.2, ?_⟩
        · show (c, k) = _
          rw [qs.1, hk]
        · show lg (tch ch nx p) (u1 T nx (o a)) o pl f nx (k + 1) = _
          rw [lgn, hk]
      · have f1 : fnd (u1 T nx (o a)) (o k) (tch ch nx p c) = fnd T (o k) (ch c) := by
          by_cases w : c = p
          · rw [w, cp]
            show (if u1 T nx (o a) nx = o k then some nx else fnd (u1 T nx (o a)) (o k) (ch p)) = _
            rw [u1_k, if_neg (fun x => qs ⟨w, x.symm⟩)]
            rw [w] at fo
            exact fo
          · have hcn : c ≠ nx := by rcases h1 with x | x <;> omega
            rw [co c hcn w]; exact fo
        rw [f1]
        cases hq : fnd T (o k) (ch c) with
        | none => exact Or.inl ⟨rfl, fun w => qs ⟨w.1, w.2.2⟩⟩
        | some y =>
          obtain ⟨y1, y2⟩ := fnd_s _ hq
          obtain ⟨z1, z2, z3⟩ := ch_N hD hT h1 y1
          exact ih y (k + 1) z1 (by rw [z2]; exact ⟨by rw [y2, h3], by rw [z3]; exact h2⟩) (by omega) (by omega)
    · rw [if_neg q, if_neg q]
      exact Or.inl ⟨rfl, fun w => q w.2.1⟩
end TR
