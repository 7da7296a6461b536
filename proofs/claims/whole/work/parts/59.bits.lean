/-! WRITING: bits of codes into bytes -/
abbrev Bt : Type := Nf × Nat × Nat × Nat
def pcL : Nat → Bt → Bt
  | 0, b => b
  | f + 1, b => if b.2.2.2 < 8 then b else pcL f (u1 b.1 b.2.1 (b.2.2.1 % 256), b.2.1 + 1, b.2.2.1 / 256, b.2.2.2 - 8)
def pc (b : Bt) (c sz : Nat) : Bt := pcL 3 (b.1, b.2.1, b.2.2.1 + c * 2 ^ b.2.2.2, b.2.2.2 + sz)
def BtO (b : Bt) : Prop := b.2.2.1 < 2 ^ b.2.2.2 ∧ b.2.2.2 < 8
theorem pcL_o : ∀ f (b : Bt), b.2.2.1 < 2 ^ b.2.2.2 → b.2.2.2 < 8 * (f + 1) → BtO (pcL f b) ∧ 8 * (pcL f b).2.1 + (pcL f b).2.2.2 = 8 * b.2.1 + b.2.2.2 ∧ b.2.1 ≤ (pcL f b).2.1 := by
  intro f
  induction f with
  | zero => intro b h1 h2; exact ⟨⟨h1, by show b.2.2.2 < 8; omega⟩, rfl, Nat.le_refl _⟩
  | succ f ih =>
    intro b h1 h2
    have er : pcL (f + 1) b = if b.2.2.2 < 8 then b else pcL f (u1 b.1 b.2.1 (b.2.2.1 % 256), b.2.1 + 1, b.2.2.1 / 256, b.2.2.2 - 8) := rfl
    rw [er]
    by_cases q : b.2.2.2 < 8
    · rw [if_pos q]; exact ⟨⟨h1, q⟩, rfl, Nat.le_refl _⟩
    · rw [if_neg q]
      have hp : 2 ^ b.2.2.2 = 256 * 2 ^ (b.2.2.2 - 8) := by
        rw [show (256 : Nat) = 2 ^ 8 from rfl, ← Nat.pow_add]
        congr 1
        omega
      have hd : b.2.2.1 / 256 < 2 ^ (b.2.2.2 - 8) := Nat.div_lt_of_lt_mul (by rw [← hp]; exact h1)
      obtain ⟨a1, a2, a3⟩ := ih (u1 b.1 b.2.1 (b.2.2.1 % 256), b.2.1 + 1, b.2.2.1 / 256, b.2.2.2 - 8) hd (by show b.2.2.2 - 8 < _; omega)
      refine ⟨a1, ?_, ?_⟩
      · rw [a2]
        show 8 * (b.2.1 + 1) + (b.2.2.2 - 8) = _
        omega
      · have a3' : b.2.1 + 1 ≤ _ := a3
        omega
theorem pc_in {b : Bt} {c sz : Nat} (hb : BtO b) (hc : c < 2 ^ sz) (hs : sz ≤ 12) : b.2.2.1 + c * 2 ^ b.2.2.2 < 2 ^ (b.2.2.2 + sz) ∧ b.2.2.2 + sz < 20 ∧ 2 ^ (b.2.2.2 + sz) ≤ 2 ^ 19 := by
  have h7 := hb.2
  have h2 : (c + 1) * 2 ^ b.2.2.2 ≤ 2 ^ sz * 2 ^ b.2.2.2 := Nat.mul_le_mul_right _ hc
  rw [Nat.add_mul, Nat.one_mul, ← Nat.pow_add, Nat.add_comm sz] at h2
  have h1 := hb.1
  exact ⟨by omega, by omega, Nat.pow_le_pow_right (by decide) (by omega)⟩
theorem pc_o {b : Bt} {c sz : Nat} (hb : BtO b) (hc : c < 2 ^ sz) (hs : sz ≤ 12) : BtO (pc b c sz) ∧ 8 * (pc b c sz).2.1 + (pc b c sz).2.2.2 = 8 * b.2.1 + b.2.2.2 + sz ∧ b.2.1 ≤ (pc b c sz).2.1 := by
  obtain ⟨q1, q2, q3⟩ := pc_in hb hc hs
  obtain ⟨a1, a2, a3⟩ := pcL_o 3 (b.1, b.2.1, b.2.2.1 + c * 2 ^ b.2.2.2, b.2.2.2 + sz) q1 (by show b.2.2.2 + sz < _; omega)
  refine ⟨a1, ?_, a3⟩
  have : 8 * (pc b c sz).2.1 + (pc b c sz).2.2.2 = 8 * b.2.1 + (b.2.2.2 + sz) := a2
  omega
theorem by8_m {k : Nat} (h : k < 2 ^ 31) : by8 (nI k) = k % 256 := by
  unfold by8
  rw [pk_tn (by omega)]
theorem ushr8 {k : Nat} (h : k < 2 ^ 31) : ((nI k).toUInt32 >>> ((8 : Int32).toUInt32 &&& Int32.toUInt32 31)).toInt32 = nI (k / 256) := by
  rw [show ((8 : Int32).toUInt32 &&& Int32.toUInt32 31) = (8 : UInt32) by decide]
  apply Int32.toBitVec_inj.mp
  apply BitVec.eq_of_toNat_eq
  rw [pk_tn (by omega)]
  show ((nI k).toUInt32 >>> (8 : UInt32)).toNat = k / 256
  rw [UInt32.toNat_shiftRight]
  have e : (nI k).toUInt32.toNat = k := pk_tn (by omega)
  rw [e]
  exact Nat.shiftRight_eq_div_pow k 8
theorem shlN {c h : Nat} (hc : c < 4096) (hh : h < 8) : nI c <<< (nI h &&& 31) = nI (c * 2 ^ h) := by
  apply Int32.toBitVec_inj.mp
  apply BitVec.eq_of_toNat_eq
  have h7 : 2 ^ h ≤ 2 ^ 7 := Nat.pow_le_pow_right (by decide) (by omega)
  have hm : c * 2 ^ h ≤ 4096 * 2 ^ 7 := Nat.mul_le_mul (by omega) h7
  rw [pk_tn (by omega), Int32.toBitVec_shiftLeft, BitVec.shiftLeft_eq', BitVec.toNat_shiftLeft]
  rw [sm_dec h (by omega), pk_tn (by omega), Nat.shiftLeft_eq, Nat.mod_eq_of_lt (by omega)]
/-! lists in memory -/
def hdI : List Nat → Int32
  | [] => m1
  | y :: _ => nI y
def lkd (b : Nat → Int32) : List Nat → Prop
  | [] => True
  | y :: ys => b y = hdI ys ∧ lkd b ys
theorem lkd_c {b b' : Nat → Int32} : ∀ l, (∀ y, y ∈ l → b' y = b y) → lkd b l → lkd b' l := by
  intro l
  induction l with
  | nil => intro _ _; trivial
  | cons x xs ih =>
    intro h hl
    exact ⟨by rw [h x (by simp)]; exact hl.1, ih (fun y hy => h y (by simp [hy])) hl.2⟩
/-- children and siblings in two arrays -/
def WTr (C B : Nat → Int32) (e nx : Nat) (ch : Nl) : Prop := ∀ c, DK (2 ^ e) nx c → C c = hdI (ch c) ∧ lkd B (ch c)
theorem WTr.tell {C B : Nat → Int32} {e nx p : Nat} {ch : Nl} {A F T N : Nf} (h : WTr C B e nx ch) (hD : DI e nx (some p) A F T N) (hT : TI e nx ch A F T) : WTr (u1 (u1 C nx m1) p (nI nx)) (u1 B nx (C p)) e (nx + 1) (tch ch nx p) := by
  have hp := hD.2.2.1 p rfl
  have hnx := hD.2.1.1
  have hpn : p ≠ nx := by rcases hp with q | q <;> omega
  have ol : ∀ c, DK (2 ^ e) nx c → ∀ y, y ∈ ch c → y ≠ nx := fun c hc y hy => by have := (hT.1 c hc).1 y hy; omega
  intro c hc
  unfold tch
  by_cases q1 : c = p
  · subst q1
    rw [u1_k, u1_k]
    refine ⟨rfl, ?_, lkd_c _ (fun y hy => u1_j (ol c hp y hy)) (h c hp).2⟩
    rw [u1_k]; exact (h c hp).1
  · rw [u1_j q1, u1_j q1]
    by_cases q2 : c = nx
    · rw [q2, u1_k, u1_k]; exact ⟨rfl, trivial⟩
    · have hc' : DK (2 ^ e) nx c := by
        rcases hc with w | w
        · exact Or.inl w
        · exact Or.inr ⟨w.1, by omega⟩
      rw [u1_j q2, u1_j q2]
      exact ⟨(h c hc').1, lkd_c _ (fun y hy => u1_j (ol c hc' y hy)) (h c hc').2⟩
theorem WTr.clr {C B : Nat → Int32} {e : Nat} (h : ∀ c, c < 2 ^ e → C c = m1) : WTr C B e (2 ^ e + 2) (fun _ => []) := fun c hc => ⟨h c (by rcases hc with q | q <;> omega), trivial⟩
theorem TI.clr {e : Nat} {A F T : Nf} : TI e (2 ^ e + 2) (fun _ => []) A F T := ⟨fun c _ => ⟨fun y hy => (by cases hy), trivial⟩, fun y h1 h2 => by omega, fun y h1 h2 => by omega⟩
/-! ENCODING, as a function of numbers -/
def eS (o : Nf) (pl : Nat) (rec : Nat → Nat → Nat → Option Nat → Nl → Nf → Nf → Nf → Nf → Bt → Bt) (a nx sz : Nat) (fm : Option Nat) (ch : Nl) (A F T N : Nf) (b : Bt) : Bt :=
  match fm with
  | none => rec (lg ch T o pl pl (o a) (a + 1)).2 nx sz (some (lg ch T o pl pl (o a) (a + 1)).1) ch A F T N (pc b (lg ch T o pl pl (o a) (a + 1)).1 sz)
  | some p => rec (lg (tch ch nx p) (u1 T nx (o a)) o pl pl (o a) (a + 1)).2 (nx + 1) (szT sz nx) (some (lg (tch ch nx p) (u1 T nx (o a)) o pl pl (o a) (a + 1)).1) (tch ch nx p) (u1 A nx p) (u1 F nx (F p)) (u1 T nx (o a)) (u1 N nx (N p + 1)) (pc b (lg (tch ch nx p) (u1 T nx (o a)) o pl pl (o a) (a + 1)).1 sz)
def eZ (e sz : Nat) (b : Bt) : Bt := if (pc b (2 ^ e + 1) sz).2.2.2 = 0 then pc b (2 ^ e + 1) sz else (u1 (pc b (2 ^ e + 1) sz).1 (pc b (2 ^ e + 1) sz).2.1 (pc b (2 ^ e + 1) sz).2.2.1, (pc b (2 ^ e + 1) sz).2.1 + 1, 0, 0)
def eM (o : Nf) (pl e : Nat) : Nat → Nat → Nat → Nat → Option Nat → Nl → Nf → Nf → Nf → Nf → Bt → Bt
  | 0 => fun _ _ _ _ _ _ _ _ _ b => b
  | f + 1 => fun a nx sz fm ch A F T N b => if a < pl then (if nx = 4096 then eS o pl (eM o pl e f) a (2 ^ e + 2) (e + 1) none (fun _ => []) A F T N (pc b (2 ^ e) sz) else eS o pl (eM o pl e f) a nx sz fm ch A F T N b) else eZ e sz b
def eA (o : Nf) (pl e : Nat) : Bt := eM o pl e (pl + 1) 0 (2 ^ e + 2) (e + 1) none (fun _ => []) (fun _ => 0) (fun x => x) (fun x => x) (fun _ => 1) (pc (fun _ => 0, 0, 0, 0) (2 ^ e) (e + 1))
/-- what holds between two codes: cl codes of CLEAR before the last -/
def EI (o : Nf) (pl e a nx sz cl : Nat) (fm : Option Nat) (ch : Nl) (A F T N : Nf) (b : Bt) : Prop :=
  DI e nx fm A F T N ∧ TI e nx ch A F T ∧ (e + 1 ≤ sz ∧ sz ≤ 12 ∧ (nx < 2 ^ sz ∨ sz = 12)) ∧ BtO b ∧ (a ≤ pl ∧ pl ≤ 4096) ∧ (8 * b.2.1 + b.2.2.2 ≤ 12 * (a + cl + 1) ∧ 3838 * cl + (nx - (2 ^ e + 2)) ≤ a) ∧ (∀ k, k < pl → o k < 2 ^ e) ∧ (∀ p, fm = some p → a < pl → fnd T (o a) (ch p) = none)
section ES
variable {o : Nf} {pl e a nx sz cl : Nat} {fm : Option Nat} {ch : Nl} {A F T N : Nf} {b : Bt}
theorem EI.szl (h : EI o pl e a nx sz cl fm ch A F T N b) (h4 : nx < 4096) : nx < 2 ^ sz := by
  rcases h.2.2.1.2.2 with q | q
  · exact q
  · rw [q]; exact h4
theorem EI.ec (h : EI o pl e a nx sz cl fm ch A F T N b) : 8 * b.2.1 + b.2.2.2 ≤ 49176 := by
  have h1 := h.2.2.2.2.2.1
  have h2 := h.2.2.2.2.1
  omega
/-- the start of the search -/
theorem EI.st (h : EI o pl e a nx sz cl fm ch A F T N b) (ha : a < pl) : DK (2 ^ e) nx (o a) ∧ N (o a) = 1 ∧ std A T o a (N (o a)) (o a) := by
  have hv := h.2.2.2.2.2.2.1 a ha
  obtain ⟨f1, f2, f3⟩ := h.1.2.2.2.1 (o a) hv
  refine ⟨Or.inl hv, f3, ?_⟩
  rw [f3]
  exact ⟨f2, trivial⟩
theorem EI.clr (h : EI o pl e a nx sz cl fm ch A F T N b) (h4 : nx = 4096) : EI o pl e a (2 ^ e + 2) (e + 1) (cl + 1) none (fun _ => []) A F T N (pc b (2 ^ e) sz) := by
  obtain ⟨h1, h2, h3, h5, h6, h7, h8, h9⟩ := h
  have h2e := two_e h1.1.2
  have he := h1.1
  have hc : 2 ^ e < 2 ^ sz := Nat.pow_lt_pow_right (by decide) (by omega)
  obtain ⟨o1, o2, o3⟩ := pc_o h5 hc h3.2.1
  have e4 : 4 ≤ 2 ^ e := by
    have : 2 ^ 2 ≤ 2 ^ e := Nat.pow_le_pow_right (by decide) he.1
    omega
  refine ⟨h1.re, TI.clr, ⟨Nat.le_refl _, by omega, Or.inl (by rw [Nat.pow_succ]; omega)⟩, o1, h6, ⟨by omega, by omega⟩, h8, fun p hp => by cases hp⟩
theorem EI.nxt {ch' : Nl} {A' F' T' N' : Nf} {fm' : Option Nat} {nx' : Nat} (h : EI o pl e a nx sz cl fm ch A F T N b) (ha : a < pl) (h4 : nx < 4096) (hD : DI e nx' fm' A' F' T' N') (hT : TI e nx' ch' A' F' T') (hx : (nx' = nx + 1) ∨ nx' = nx) (sz' : Nat) (hsz : sz ≤ sz' ∧ sz' ≤ 12 ∧ (nx' < 2 ^ sz' ∨ sz' = 12)) : ((lg ch' T' o pl pl (o a) (a + 1)).1 < 2 ^ sz ∧ a < (lg ch' T' o pl pl (o a) (a + 1)).2 ∧ (lg ch' T' o pl pl (o a) (a + 1)).2 ≤ pl ∧ DK (2 ^ e) nx' (lg ch' T' o pl pl (o a) (a + 1)).1) ∧ EI o pl e (lg ch' T' o pl pl (o a) (a + 1)).2 nx' sz' cl (some (lg ch' T' o pl pl (o a) (a + 1)).1) ch' A' F' T' N' (pc b (lg ch' T' o pl pl (o a) (a + 1)).1 sz) := by
  have hns := h.szl h4
  obtain ⟨h1, h2, h3, h5, h6, h7, h8, h9⟩ := h
  have hv := h8 a ha
  have h2e := two_e h1.1.2
  obtain ⟨f1, f2, f3⟩ := hD.2.2.2.1 (o a) hv
  have st : std A' T' o a (N' (o a)) (o a) := by rw [f3]; exact ⟨f2, trivial⟩
  obtain ⟨i1, i2, i3, i4⟩ := lg_i (pl := pl) hD hT pl (o a) (a + 1) (Or.inl hv) st (by omega) (by omega)
  have ie := lg_e (ch := ch') (T := T') (o := o) (pl := pl) pl (o a) (a + 1) (by omega)
  generalize lg ch' T' o pl pl (o a) (a + 1) = r at *
  obtain ⟨n1, n2, n3, n4⟩ := hD.n r.1 i1
  have rlt : r.1 < 2 ^ sz := by
    have e3 : 2 ^ e < 2 ^ sz := Nat.pow_lt_pow_right (by decide) (by omega)
    rcases i1 with q | q
    · omega
    · omega
  obtain ⟨o1, o2, o3⟩ := pc_o h5 rlt h3.2.1
  exact ⟨⟨rlt, by omega, i4, i1⟩, hD.fm r.1 i1, hT, ⟨by omega, hsz.2.1, hsz.2.2⟩, o1, ⟨i4, h6.2⟩, ⟨by omega, by omega⟩, h8, fun p hp hlt => by
    have : r.1 = p := by injection hp
    rw [← this]
    exact ie hlt⟩
theorem EI.tl {p : Nat} (h : EI o pl e a nx sz cl (some p) ch A F T N b) (ha : a < pl) (h4 : nx < 4096) : DI e (nx + 1) (some p) (u1 A nx p) (u1 F nx (F p)) (u1 T nx (o a)) (u1 N nx (N p + 1)) ∧ TI e (nx + 1) (tch ch nx p) (u1 A nx p) (u1 F nx (F p)) (u1 T nx (o a)) ∧ sz ≤ szT sz nx ∧ szT sz nx ≤ 12 ∧ (nx + 1 < 2 ^ szT sz nx ∨ szT sz nx = 12) := by
  have hns := h.szl h4
  obtain ⟨h1, h2, h3, h5, h6, h7, h8, h9⟩ := h
  have hp := h1.2.2.1 p rfl
  refine ⟨h1.tell h4 (h8 a ha) p (hp.up (by omega)), h2.tell h1 (h9 p rfl ha), ?_⟩
  unfold szT
  by_cases q : nx + 1 = 2 ^ sz ∧ sz < 12
  · rw [if_pos q]
    exact ⟨by omega, by omega, Or.inl (by rw [Nat.pow_succ]; omega)⟩
  · rw [if_neg q]
    exact ⟨by omega, by omega, by omega⟩
end ES
