/-! the law from its entry: the two objects are made; behind that, the law's loop over the memory -/
def Z00 : Zt := (fun _ => none, (fun _ _ => 0, fun _ _ => 0))
def Zfin (n : Nat) : Zt := fX10_init (n + 273) (n + 274) (zN (fX9_init (n + 0) (n + 1) (zN Z00 (n + 0) 9)) (n + 273) 10)
theorem nw_AO : Cond.arrayOver (.object RX3) ∈ lw_tbl := in1 (List.mem_of_getElem? (i := 163) rfl)
theorem nw_S0 : Cond.laysStatic RX6 "START" "[I" ∈ lw_tbl := in2 (List.mem_of_getElem? (i := 200) rfl)
theorem nw_S1 : Cond.laysStatic RX3 "PASS_STARTS" "[I" ∈ lw_tbl := in3 (List.mem_of_getElem? (i := 80) rfl)
theorem nw_S2 : Cond.laysStatic RX3 "PASS_SHIFTS" "[I" ∈ lw_tbl := in3 (List.mem_of_getElem? (i := 82) rfl)
theorem nw_F : nwF ∈ lw_tbl := in2 (List.mem_of_getElem? (i := 199) rfl)
theorem nw_M : nwM ∈ lw_tbl := in2 (List.mem_of_getElem? (i := 209) rfl)
theorem st_arr {args : Array Value} {s : State} {ty : FieldType} (h : (Cond.arrayClass ty).before args s = true) (hno : ∀ C, ty ≠ .object C) : ∃ cB, ArrOfT s cB ty ∧ va_RA s cB ty := by
  obtain ⟨cB, kB, comp, h1, h2, h3⟩ := Cond.arrayClass_spec h
  refine ⟨cB, fun n z => ⟨fun k hk => (by cases hk), kB, h2, comp, h3⟩, ?_⟩
  cases ty with
  | object C => exact absurd rfl (hno C)
  | _ => exact h1
theorem st_arrO {args : Array Value} {s : State} {C : String} (h : (Cond.arrayOver (.object C)).before args s = true) : ∃ cB, ArrOfT s cB (.object C) ∧ va_RA s cB (.object C) := by
  obtain ⟨comp, cB, kB, h1, h2, h3, h4, h5⟩ := Cond.arrayOver_spec h
  exact ⟨cB, fun n z => ⟨fun k hk => (by cases hk), kB, h3, comp, h4⟩, kB, comp, h3, h4, h1, h5⟩
theorem st_tab {args : Array Value} {s : State} {C n : String} {N : Nat} {f : Nat → Int32} (hN : N < 2 ^ 31) (harr : (Cond.arrayOf (.static C n "[I") .int).before args s = true) (hlen : (Cond.eq (.length (.static C n "[I")) (.int (Int32.ofNat N))).before args s = true)
    (hel : ∀ j, j < N → (Cond.eq (.elem (.static C n "[I") (.int (Int32.ofNat j))) (.int (f j))).before args s = true) (hl : (Cond.laysStatic C n "[I").before args s = true) (hini : (Cond.initialized C).before args s = true) : ∃ t, va_Z C n "[I" (.ref t) (AL s) s s.heap ∧ va_T .int t N (fun j => .int (f j)) (AL s) s s.heap := by
  have hA : ∀ a : Nat, a < s.heap.size → ¬ AL s a := fun a h => Nat.not_le.mpr h
  obtain ⟨t, h1, h2⟩ := va_Tof (f := fun j => .int (f j)) hN harr (va_eqt hlen) (fun j hj => va_eqt (hel j hj)) hA
  exact ⟨t, va_Zof hl hini h1 hA, h2⟩
theorem MW0 {D : va_G} {cA : Nat → ClassId} {H : Heap} : MW D cA Z00.1 Z00.2 H := by
  refine ⟨⟨fun a t k sh h => (by cases h), fun a n k h => (by cases h)⟩, [], fun a => ⟨fun h => (by cases h), fun h => absurd rfl h⟩, fun k q h => (by simp [va_pl] at h), fun i j p q h => (by simp [va_pl] at h), fun _ _ _ => trivial⟩
set_option maxRecDepth 100000 in
set_option maxHeartbeats 4000000 in
theorem start_K {s : State} {b : Nat} (hts : ∀ w ∈ lw_tbl, w.before #[Value.ref b] s = true) (hgv : (Jvm.Cond.and given_1 narrow_1).before #[Value.ref b] s = true) : ∃ (D : va_G) (cA : Nat → ClassId) (tS : Nat → Nat), Kx D cA tS (AL s) s := by
  have htb : ∀ w ∈ lw_big, w.before #[Value.ref b] s = true := fun w h => hts w (big_in h)
  obtain ⟨c0, iS0, hKn0⟩ := u_known (C := RX0) (T := TX0) (N := 3) (n := 3) htb uwX0 (htb _ wnX0)
  obtain ⟨c1, iS1, hKn1⟩ := u_known (C := RX1) (T := TX1) (N := 12) (n := 12) htb uwX1 (htb _ wnX1)
  obtain ⟨c2, iS2, hKn2⟩ := u_known (C := RX2) (T := TX2) (N := 12) (n := 12) htb uwX2 (htb _ wnX2)
  obtain ⟨c3, iS3, hKn3⟩ := u_known (C := RX3) (T := TX3) (N := 8) (n := 8) htb uwX3 (htb _ wnX3)
  obtain ⟨c4, iS4, hKn4⟩ := u_known (C := RX4) (T := TX4) (N := 7) (n := 7) htb uwX4 (htb _ wnX4)
  obtain ⟨c5, iS5, hKn5⟩ := u_known (C := RX5) (T := TX5) (N := 11) (n := 11) htb uwX5 (htb _ wnX5)
  obtain ⟨c6, iS6, hKn6⟩ := u_known (C := RX6) (T := TX6) (N := 2) (n := 2) htb uwX6 (htb _ wnX6)
  obtain ⟨c7, iS7, hKn7⟩ := u_known (C := RX7) (T := TX7) (N := 2) (n := 2) htb uwX7 (htb _ wnX7)
  obtain ⟨c8, iS8, hKn8⟩ := u_known (C := RX8) (T := TX8) (N := 4) (n := 4) htb uwX8 (htb _ wnX8)
  obtain ⟨c9, iS9, hKn9⟩ := u_known (C := RX9) (T := TX9) (N := 6) (n := 6) htb uwX9 (htb _ wnX9)
  obtain ⟨c10, iS10, hKn10⟩ := u_known (C := RX10) (T := TX10) (N := 38) (n := 38) htb uwX10 (htb _ wnX10)
  obtain ⟨dC, dI, hKc⟩ : ∃ (dC : Nat → ClassId) (dI : Nat → Nat → Nat), ∀ (k : Nat) (q : vw_C), vwCl[k]? = some q → u_Kn s q.1 q.2.1 q.2.2 (dC k) (dI k) := by
    refine ⟨fun k => match k with | 0 => c0 | 1 => c1 | 2 => c2 | 3 => c3 | 4 => c4 | 5 => c5 | 6 => c6 | 7 => c7 | 8 => c8 | 9 => c9 | _ => c10, fun k => match k with | 0 => iS0 | 1 => iS1 | 2 => iS2 | 3 => iS3 | 4 => iS4 | 5 => iS5 | 6 => iS6 | 7 => iS7 | 8 => iS8 | 9 => iS9 | _ => iS10, ?_⟩
    intro k q hq
    match k, hq with
    | 0, hq => cases hq; exact hKn0
    | 1, hq => cases hq; exact hKn1
    | 2, hq => cases hq; exact hKn2
    | 3, hq => cases hq; exact hKn3
    | 4, hq => cases hq; exact hKn4
    | 5, hq => cases hq; exact hKn5
    | 6, hq => cases hq; exact hKn6
    | 7, hq => cases hq; exact hKn7
    | 8, hq => cases hq; exact hKn8
    | 9, hq => cases hq; exact hKn9
    | 10, hq => cases hq; exact hKn10
    | k + 11, hq => simp [vwCl] at hq
  obtain ⟨cI, hI⟩ := st_arr (hts _ (big_in wa_int)) (by intro C h; cases h)
  obtain ⟨cB, hB⟩ := st_arr (hts _ (big_in wa_byte)) (by intro C h; cases h)
  obtain ⟨cS, hS⟩ := st_arr (hts _ (big_in wa_short)) (by intro C h; cases h)
  obtain ⟨cF, hF⟩ := st_arrO (hts _ nw_AO)
  have hs := flat_of_before _ hgv
  obtain ⟨t0, z0, a0⟩ := st_tab (f := sT 0) (N := 6) (C := RX6) (n := "START") (by decide) (hs _ (by decide +kernel)) (hs _ (by decide +kernel)) (fun j hj => by rcases (show j = 0 ∨ j = 1 ∨ j = 2 ∨ j = 3 ∨ j = 4 ∨ j = 5 by omega) with rfl | rfl | rfl | rfl | rfl | rfl <;> exact hs _ (by decide +kernel)) (hts _ nw_S0) (htb _ wiX6)
  obtain ⟨t1, z1, a1⟩ := st_tab (f := sT 1) (N := 4) (C := RX3) (n := "PASS_STARTS") (by decide) (hs _ (by decide +kernel)) (hs _ (by decide +kernel)) (fun j hj => by rcases (show j = 0 ∨ j = 1 ∨ j = 2 ∨ j = 3 by omega) with rfl | rfl | rfl | rfl <;> exact hs _ (by decide +kernel)) (hts _ nw_S1) (htb _ wiX3)
  obtain ⟨t2, z2, a2⟩ := st_tab (f := sT 2) (N := 4) (C := RX3) (n := "PASS_SHIFTS") (by decide) (hs _ (by decide +kernel)) (hs _ (by decide +kernel)) (fun j hj => by rcases (show j = 0 ∨ j = 1 ∨ j = 2 ∨ j = 3 by omega) with rfl | rfl | rfl | rfl <;> exact hs _ (by decide +kernel)) (hts _ nw_S2) (htb _ wiX3)
  refine ⟨(dC, dI), fun k => match k with | 0 => cI | 1 => cB | 2 => cS | _ => cF, fun k => match k with | 0 => t0 | 1 => t1 | _ => t2, ⟨hKc, fun k q h => ?_⟩, va_Nw.of rfl (hts _ nw_F), va_Nw.of rfl (hts _ nw_M), ⟨z0, a0⟩, ⟨z1, a1⟩, ⟨z2, a2⟩⟩
  match k, h with
  | 0, h => cases h; exact hI
  | 1, h => cases h; exact hB
  | 2, h => cases h; exact hS
  | 3, h => cases h; exact hF
  | k + 4, h => simp [tyA] at h
set_option maxRecDepth 100000 in
set_option maxHeartbeats 4000000 in
theorem start_of {p : Program} {e : Env} {s : State} {m : MethodId} {below : List Frame} {meth : Method} {c : Code} (l : Launch) {b L : Nat} {xs : Nat → Int32} (C0 : lw_At p s m meth c b L xs) (fu : Nat) (hp : fL_law_L18 fu L xs fu (s.heap.size + 0) (s.heap.size + 273) 0 (Zfin s.heap.size).2 = some 1) : W p l e room_1 s m #[Value.ref b] below meth c s.heap [] 0 0 (lw_Z below #[Value.ref b] s) (entryFrame m ([Value.ref b] : List Value).toArray 4) := by
  obtain ⟨hx, hb, hr, hml, hown, hts, hX, hbl, hlocks, hgv⟩ := C0
  obtain ⟨D, cA, tS, hK⟩ := start_K hts hgv
  have hAO : va_AO RX3 s := va_AO.of (hts _ nw_AO)
  obtain ⟨n, hn⟩ : ∃ n, n = s.heap.size := ⟨_, rfl⟩
  rw [← hn] at hp
  have hA : ∀ q, dm Z00.1 q → AL s q := fun q h => absurd rfl h
  have hAn : ∀ q, n ≤ q → AL s q := fun q h => by show s.heap.size ≤ q; omega
  have C : Cx p s m #[Value.ref b] meth c (AL s) D cA tS Z00.1 cL_law ret 4 RL := ⟨hx, hb, hr, hml, hown, fun w h => hts w (big_in h), hlocks, hK, hA⟩
  have hl := lv_entry ([.ref b]) (n := 4) (Nat.le_of_ble_eq_true rfl)
  rw [lg_entry_eq]
  have G : GG p l e room_1 s m #[Value.ref b] below meth c 0 0 (AL s) D cA Z00.1 4 (lw_Z below #[Value.ref b] s) 0 [(0, .ref b)] [] Z00.2 := by
    have hv : Ev Z00 Z00 n n 0 := Ev.rf
    obtain ⟨Z1, eZ1⟩ : ∃ Z1, Z1 = zN Z00 (n + 0) 9 := ⟨_, rfl⟩
    refine g_new (t := 9) C (n + 0) (by omega) (by decide) rfl uwX9 tyX9_ok lcL_7 wnX9 wiX9 (fun rr j hj => by rcases (show j = 0 ∨ j = 1 ∨ j = 2 ∨ j = 3 ∨ j = 4 ∨ j = 5 by omega) with rfl | rfl | rfl | rfl | rfl | rfl <;> rfl) ⟨by decide, by decide⟩ dL_law_0 ?_
    refine g_z eZ1 ?_
    have hv1 : Ev Z00 Z1 n n 1 := by rw [eZ1]; exact hv.N (Nat.le_refl _)
    have s_q : Z1.1 (n + 0) = some (20 + 9, 0) := by rw [eZ1]; exact s2_s
    have C := C.up (hv1.A' hA hAn)
    refine g_dup C dL_law_3 rfl ?_
    obtain ⟨Z2, eZ2⟩ : ∃ Z2, Z2 = fX9_init (n + 0) (n + 1) Z1 := ⟨_, rfl⟩
    have hX9 := pX9_init s_q (show n + 0 < n + 1 by omega) eZ2.symm
    refine g_callK C hAO (by omega) (kX9_init (hv1.A' hA hAn) (fun _ _ => hAn _ (by omega)) s_q (by omega) eZ2.symm) wcX9_init wmX9_init wiX9 rfl (by decide +kernel) lmL_9 (Nat.le_of_ble_eq_true rfl) dL_law_4 ⟨by decide, by decide⟩ ⟨by decide, by decide⟩ ?_ ?_
    · have hd9 : dm Z2.1 (s.heap.size + 1 + 272 - 1) := hX9.1.2.1 _ (by omega) (by omega)
      cases hh : Z2.1 (s.heap.size + 1 + 272 - 1) with
      | none => exact absurd hh hd9
      | some x => exact ⟨x, rfl⟩
    have hv2 : Ev Z00 Z2 n n (1 + 272) := hv1.K (q := n + 0) hX9.1 (by omega)
    have C := C.up (hv2.A' hA hAn)
    refine g_astore_n (lv' := [(1, .ref (n + 0)), (0, .ref b)]) C dL_law_7 (by decide) rfl ?_
    obtain ⟨Z3, eZ3⟩ : ∃ Z3, Z3 = zN Z2 (n + 273) 10 := ⟨_, rfl⟩
    refine g_new (t := 10) C (n + 273) (by omega) (by decide) rfl uwX10 tyX10_ok lcL_10 wnX10 wiX10 (fun rr j hj => by rcases (show j = 0 ∨ j = 1 ∨ j = 2 ∨ j = 3 ∨ j = 4 ∨ j = 5 ∨ j = 6 ∨ j = 7 ∨ j = 8 ∨ j = 9 ∨ j = 10 ∨ j = 11 ∨ j = 12 ∨ j = 13 ∨ j = 14 ∨ j = 15 ∨ j = 16 ∨ j = 17 ∨ j = 18 ∨ j = 19 ∨ j = 20 ∨ j = 21 ∨ j = 22 ∨ j = 23 ∨ j = 24 ∨ j = 25 ∨ j = 26 ∨ j = 27 ∨ j = 28 ∨ j = 29 ∨ j = 30 ∨ j = 31 ∨ j = 32 ∨ j = 33 ∨ j = 34 ∨ j = 35 ∨ j = 36 ∨ j = 37 by omega) with rfl | rfl | rfl | rfl | rfl | rfl | rfl | rfl | rfl | rfl | rfl | rfl | rfl | rfl | rfl | rfl | rfl | rfl | rfl | rfl | rfl | rfl | rfl | rfl | rfl | rfl | rfl | rfl | rfl | rfl | rfl | rfl | rfl | rfl | rfl | rfl | rfl | rfl <;> rfl) ⟨by decide, by decide⟩ dL_law_8 ?_
    refine g_z eZ3 ?_
    have hv3 : Ev Z00 Z3 n n 274 := by rw [eZ3]; exact hv2.N (Nat.le_refl _)
    have s_m : Z3.1 (n + 273) = some (20 + 10, 0) := by rw [eZ3]; exact s2_s
    have C := C.up (hv3.A' hA hAn)
    refine g_dup C dL_law_11 rfl ?_
    obtain ⟨Z4, eZ4⟩ : ∃ Z4, Z4 = fX10_init (n + 273) (n + 274) Z3 := ⟨_, rfl⟩
    have hX10 := pX10_init s_m (show n + 273 < n + 274 by omega) eZ4.symm
    refine g_callK C hAO (by omega) (kX10_init (hv3.A' hA hAn) (fun _ _ => hAn _ (by omega)) s_m (by omega) eZ4.symm) wcX10_init wmX10_init wiX10 rfl (by decide +kernel) lmL_12 (Nat.le_of_ble_eq_true rfl) dL_law_12 ⟨by decide, by decide⟩ ⟨by decide, by decide⟩ ?_ ?_
    · have hd9 : dm Z4.1 (s.heap.size + 274 + 15 - 1) := hX10.1.2.1 _ (by omega) (by omega)
      cases hh : Z4.1 (s.heap.size + 274 + 15 - 1) with
      | none => exact absurd hh hd9
      | some x => exact ⟨x, rfl⟩
    have hv4 : Ev Z00 Z4 n n (274 + 15) := hv3.K (q := n + 273) hX10.1 (by omega)
    have C := C.up (hv4.A' hA hAn)
    refine g_astore_n (lv' := [(2, .ref (n + 273)), (1, .ref (n + 0)), (0, .ref b)]) C dL_law_15 (by decide) rfl ?_
    refine g_iconst (v := 0) C dL_law_16 (by decide) ?_
    refine g_istore_n (lv' := [(3, .int 0), (2, .ref (n + 273)), (1, .ref (n + 0)), (0, .ref b)]) C dL_law_17 (by decide) rfl ?_
    have eZ : Z4 = Zfin n := by rw [eZ4, eZ3, eZ2, eZ1]; rfl
    have s_x : Z4.1 (n + 0) = some (9, 0) := by
      have hf3 : FrZ Z2 Z3 (n + 273) := by rw [eZ3]; exact FrZ.N (Nat.le_refl _)
      rw [((hf3.tr hX10.1.1) (n + 0) (by omega)).1]; exact hX9.2.1
    rw [← eZ] at hp
    exact g_lv [3, 2, 1, 0] rfl (wL_law_L18 C hX hbl fu _ _ _ _ s_x hX10.2.1 hp)
  exact G s.heap [] _ MW0 rfl va_S.rf hl
