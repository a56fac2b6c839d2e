/-! THE LAW FROM ITS ENTRY, out of the thirty facts and their start -/
theorem lw_arr {args : Array Value} {s : State} {ty : FieldType} (hp : ∀ C, ty ≠ .object C) (h : (Jvm.Cond.arrayClass ty).before args s = true) : ∃ cA : ClassId, ArrOfT s cA ty ∧ va_RA s cA ty := by
  obtain ⟨cA, kA, comp, h1, h2, h3⟩ := Cond.arrayClass_spec h
  refine ⟨cA, fun n z => ⟨fun k h => (by cases h), kA, h2, comp, h3⟩, ?_⟩
  cases ty with
  | object C => exact absurd rfl (hp C)
  | _ => exact h1
set_option maxHeartbeats 8000000 in
set_option maxRecDepth 100000 in
theorem lw_begin (I : si_M → Prop) (hI : I g0) (hf : lw_facts I) {p : Program} {e : Env} {s : State} {m : MethodId} {below : List Frame} {meth : Method} {c : Code} (l : Launch) {b L : Nat} {xs : Nat → Int32} (hL : L ≤ 1536) (C0 : lw_At p s m meth c b L xs) : W p l e room_1 s m #[Value.ref b] below meth c s.heap [] 0 0 (lw_Z below #[Value.ref b] s) (entryFrame m ([Value.ref b] : List Value).toArray 4) := by
  obtain ⟨hx, hb, hr, hml, hown, hts0, hX, hbl, hlocks, hgv⟩ := id C0
  have hts : ∀ w ∈ si_tb, w.before #[Value.ref b] s = true := fun w hw => hts0 w (List.mem_filter.mp hw).1
  have hNk : si_Nk s := by
    intro w hw
    have h1 := (List.mem_filter.mp hw).2
    have h2 := hts0 w (List.mem_filter.mp hw).1
    cases w with
    | methodLinkNest a i x hh => exact va_Nw.of rfl h2
    | _ => cases h1
  obtain ⟨cI, aI, rI⟩ := lw_arr (ty := .int) (fun C h => by cases h) (hts0 (.arrayClass .int) (by decide +kernel))
  obtain ⟨cJ, aJ, rJ⟩ := lw_arr (ty := .long) (fun C h => by cases h) (hts0 (.arrayClass .long) (by decide +kernel))
  obtain ⟨dA, hdI, hdJ⟩ : ∃ dA : Bool → ClassId, dA false = cI ∧ dA true = cJ := ⟨fun b => if b then cJ else cI, rfl, rfl⟩
  obtain ⟨c0, i0, k0⟩ := u_known (C := RX0) (T := TX0) (N := 3) (n := 3) hts gcw_0 (hts0 (.instantiable RX0 3) (by decide +kernel))
  obtain ⟨c1, i1, k1⟩ := u_known (C := RX1) (T := TX1) (N := 1) (n := 1) hts gcw_1 (hts0 (.instantiable RX1 1) (by decide +kernel))
  obtain ⟨c2, i2, k2⟩ := u_known (C := RX2) (T := TX2) (N := 3) (n := 3) hts gcw_2 (hts0 (.instantiable RX2 3) (by decide +kernel))
  obtain ⟨c3, i3, k3⟩ := u_known (C := RX3) (T := TX3) (N := 2) (n := 2) hts gcw_3 (hts0 (.instantiable RX3 2) (by decide +kernel))
  obtain ⟨c4, i4, k4⟩ := u_known (C := RX4) (T := TX4) (N := 8) (n := 8) hts gcw_4 (hts0 (.instantiable RX4 8) (by decide +kernel))
  obtain ⟨c6, i6, k6⟩ := u_known (C := RX6) (T := TX6) (N := 6) (n := 6) hts gcw_5 (hts0 (.instantiable RX6 6) (by decide +kernel))
  obtain ⟨c7, i7, k7⟩ := u_known (C := RX7) (T := TX7) (N := 2) (n := 2) hts gcw_6 (hts0 (.instantiable RX7 2) (by decide +kernel))
  obtain ⟨c8, i8, k8⟩ := u_known (C := RX8) (T := TX8) (N := 9) (n := 9) hts gcw_7 (hts0 (.instantiable RX8 9) (by decide +kernel))
  obtain ⟨c9, i9, k9⟩ := u_known (C := RX9) (T := TX9) (N := 29) (n := 29) hts gcw_8 (hts0 (.instantiable RX9 29) (by decide +kernel))
  obtain ⟨dC, dI, hKc⟩ : ∃ (dC : Nat → ClassId) (dI : Nat → Nat → Nat), ∀ (k : Nat) (q : vw_C), gcl[k]? = some q → u_Kn s q.1 q.2.1 q.2.2 (dC k) (dI k) := by
    refine ⟨fun k => [c0, c1, c2, c3, c4, c6, c7, c8, c9].getD k 0, fun k => [i0, i1, i2, i3, i4, i6, i7, i8, i9].getD k i0, ?_⟩
    intro k q hq
    match k, hq with
    | 0, hq => cases hq; exact k0
    | 1, hq => cases hq; exact k1
    | 2, hq => cases hq; exact k2
    | 3, hq => cases hq; exact k3
    | 4, hq => cases hq; exact k4
    | 5, hq => cases hq; exact k6
    | 6, hq => cases hq; exact k7
    | 7, hq => cases hq; exact k8
    | 8, hq => cases hq; exact k9
    | k + 9, hq => simp [gcl] at hq
  have hK : va_K (dC, dI) gcl [(dA false, .int), (dA true, .long)] s := by
    refine ⟨hKc, fun k q h => ?_⟩
    match k, h with
    | 0, h => cases h; rw [hdI]; exact ⟨aI, rI⟩
    | 1, h => cases h; rw [hdJ]; exact ⟨aJ, rJ⟩
    | k + 2, h => simp at h
  have hS : va_S (fun q : Nat => s.heap.size ≤ q) s.heap s.heap [] := va_S.rf
  have hP : va_P (dC, dI) gcl (sj_W dA s.heap.size []) s.heap := fun k q h => by simp [sj_W] at h
  have X : si_Ctx p s m #[Value.ref b] c (dC, dI) dA gcl code RL 4 := ⟨hx, hb, hml, hown, hts, hK, hNk⟩
  have hl := lv_entry ([.ref b]) (n := 4) (Nat.le_of_ble_eq_true rfl)
  rw [lg_entry_eq]
  generalize (lg_sl ([.ref b]) ++ List.replicate (4 - (lg_sl ([.ref b])).length) Slot.unset).toArray = ls at hl ⊢
  have hl : lv_has ls 4 [(0, .ref b)] := hl
  refine sj_new hx hb hts gcw_7 tyX8 tyX8_ok hown (hts0 (.classLink RL 7 RX8) (by decide +kernel)) (hts0 (.instantiable RX8 9) (by decide +kernel)) (hts0 (.initialized RX8) (by decide +kernel)) hK hP hS (ci := 7) rfl (fs := [.null, .null, .null, .int 0, .null, .null, .null, .null, .null]) (by decide) (Nat.le_of_ble_eq_true rfl) (Nat.le_of_ble_eq_true rfl) dL_0 (fun H z1 hP hS => ?_)
  have hB : sj_B (dC, dI) dA gcl s.heap.size gc0 H := ⟨hP, z1⟩
  refine lv_dup hx hb dL_3 rfl ?_
  refine sj_goes (va_runI (As := []) (rest := [.ref s.heap.size]) ⟨hx, hb, hml, hown, hts⟩ (sj_sim gTok l (dC, dI) dA s.heap.size 300 7 _ _ _ _ _ _ _ rfl 0 _ _ gcr1) ⟨callB_of 0 hts (si_goodw ggood (List.mem_filter.mpr (by decide +kernel))) rfl rfl rfl (hts0 (.initialized RX8) (by decide +kernel)) (hts0 (.methodLink RL 9 yX8_init) (by decide +kernel)) (by decide +kernel) ⟨Nat.le_of_ble_eq_true rfl, Nat.le_of_ble_eq_true rfl⟩, rfl, hts0 (.instanceMethod yX8_init) (by decide +kernel)⟩ ⟨sj_blind, fun U hU hW => ⟨rfl, by rw [hU]; exact hB, va_K.moved hW.alike hK, hNk.warm hW⟩⟩ rfl rfl hl.1 rfl (lv_room (m := m) (pc := 4) (ls := ls) (rest := []) (st := [.ref s.heap.size]) (Nat.le_of_ble_eq_true rfl)) dL_4 ⟨Nat.le_of_ble_eq_true rfl, Nat.le_of_ble_eq_true rfl⟩) hS (fun H1 locs1 hB1 hS1 => ?_)
  refine lv_astore_n (lv' := [(1, .ref (s.heap.size + 0)), (0, .ref b)]) hx hb dL_7 rfl hl (by decide) rfl (fun ls hl => ?_)
  obtain ⟨hP1, z2⟩ := hB1
  refine sj_new hx hb hts gcw_8 tyX9 tyX9_ok hown (hts0 (.classLink RL 10 RX9) (by decide +kernel)) (hts0 (.instantiable RX9 29) (by decide +kernel)) (hts0 (.initialized RX9) (by decide +kernel)) hK hP1 hS1 (ci := 8) rfl (fs := [.null, .int 0, .null, .int 0, .int 0, .int 0, .null, .int 0, .long 0, .int 0, .null, .int 0, .int 0, .null, .int 0, .null, .int 0, .null, .null, .null, .null, .null, .null, .null, .null, .null, .int 0, .int 0, .long 0]) (by decide) (Nat.le_of_ble_eq_true rfl) (Nat.le_of_ble_eq_true rfl) dL_8 (fun H2 z3 hP2 hS2 => ?_)
  rw [z2] at hP2 z3 ⊢
  have hB2 : sj_B (dC, dI) dA gcl s.heap.size (gc1 ++ [.inl (8, [.null, .int 0, .null, .int 0, .int 0, .int 0, .null, .int 0, .long 0, .int 0, .null, .int 0, .int 0, .null, .int 0, .null, .int 0, .null, .null, .null, .null, .null, .null, .null, .null, .null, .int 0, .int 0, .long 0])]) H2 := ⟨by rw [← sj_W_app]; exact hP2, z3⟩
  refine lv_dup hx hb dL_11 rfl ?_
  refine sj_goes (va_runI (As := []) (rest := [.ref (s.heap.size + 29)]) ⟨hx, hb, hml, hown, hts⟩ (sj_sim gTok l (dC, dI) dA s.heap.size 300 8 _ _ _ _ _ _ _ rfl 29 _ _ gcr2) ⟨callB_of 0 hts (si_goodw ggood (List.mem_filter.mpr (by decide +kernel))) rfl rfl rfl (hts0 (.initialized RX9) (by decide +kernel)) (hts0 (.methodLink RL 12 yX9_init) (by decide +kernel)) (by decide +kernel) ⟨Nat.le_of_ble_eq_true rfl, Nat.le_of_ble_eq_true rfl⟩, rfl, hts0 (.instanceMethod yX9_init) (by decide +kernel)⟩ ⟨sj_blind, fun U hU hW => ⟨rfl, by rw [hU]; exact hB2, va_K.moved hW.alike hK, hNk.warm hW⟩⟩ rfl rfl hl.1 rfl (lv_room (m := m) (pc := 12) (ls := ls) (rest := []) (st := [.ref (s.heap.size + 29)]) (Nat.le_of_ble_eq_true rfl)) dL_12 ⟨Nat.le_of_ble_eq_true rfl, Nat.le_of_ble_eq_true rfl⟩) hS2 (fun H3 locs3 hB3 hS3 => ?_)
  refine lv_astore_n (lv' := [(2, .ref (s.heap.size + 29)), (1, .ref (s.heap.size + 0)), (0, .ref b)]) hx hb dL_15 rfl hl (by decide) rfl (fun ls hl => ?_)
  refine lv_iconst (v := 0) hx hb dL_16 (by decide) ?_
  refine lv_istore_n (lv' := [(3, .int 0), (2, .ref (s.heap.size + 29)), (1, .ref (s.heap.size + 0)), (0, .ref b)]) hx hb dL_17 rfl hl (by decide) rfl (fun ls hl => ?_)
  obtain ⟨hP3, z4⟩ := hB3
  rw [gcW] at hP3
  refine W.widen (k := 45) (n := 5189) (Nat.le_of_ble_eq_true rfl) (Nat.le_of_ble_eq_true rfl) ?_
  exact lw_loop C0 X I hf hL (L + 4) 0 (by omega) (by omega) g0 hI H3 locs3 ls hP3 hS3 (lv_sub hl [3, 2, 1, 0] rfl)
