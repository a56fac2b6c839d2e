/-! CONSTRUCTORS: a second small machine, whose cells come one by one; and the theorem that the real machine follows it -/
abbrev sj_c : Type := (Nat × List Value) ⊕ (Bool × Nat)
def sj_ce (dA : Bool → ClassId) (sz : Nat) : sj_c → va_E
  | .inl (ct, vs) => .inr (ct, vs.map (si_v sz))
  | .inr (false, n) => .inl (dA false, n, .inl (fun _ => 0))
  | .inr (true, n) => .inl (dA true, n, .inr (.inl (fun _ => 0)))
def sj_W (dA : Bool → ClassId) (sz : Nat) (cs : List sj_c) : va_W := (List.range cs.length).map fun k => (sz + k, sj_ce dA sz (cs.getD k (.inl (0, []))))
theorem sj_W_at {dA : Bool → ClassId} {sz : Nat} {cs : List sj_c} {k : Nat} {d : sj_c} (h : cs[k]? = some d) : (sj_W dA sz cs)[k]? = some (sz + k, sj_ce dA sz d) := by
  have hk : k < cs.length := (List.getElem?_eq_some_iff.mp h).1
  unfold sj_W
  rw [List.getElem?_map, List.getElem?_range hk]
  simp [List.getD, h]
theorem sj_W_of {dA : Bool → ClassId} {sz : Nat} {cs : List sj_c} {k : Nat} {q : Nat × va_E} (h : (sj_W dA sz cs)[k]? = some q) : k < cs.length ∧ q.1 = sz + k := by
  unfold sj_W at h
  rw [List.getElem?_map] at h
  by_cases hk : k < cs.length
  · rw [List.getElem?_range hk] at h
    simp at h
    exact ⟨hk, by rw [← h]⟩
  · rw [List.getElem?_eq_none (by simpa using hk)] at h
    cases h
theorem sj_W_D (dA : Bool → ClassId) (sz : Nat) (cs : List sj_c) : va_D (fun q => sz ≤ q) (sj_W dA sz cs) := by
  refine ⟨fun i j p q hp hq hpq => ?_, fun k q hq => ?_⟩
  · have h1 := (sj_W_of hp).2
    have h2 := (sj_W_of hq).2
    omega
  · rw [(sj_W_of hq).2]; omega
theorem sj_W_app (dA : Bool → ClassId) (sz : Nat) (cs : List sj_c) (x : sj_c) : sj_W dA sz cs ++ [(sz + cs.length, sj_ce dA sz x)] = sj_W dA sz (cs ++ [x]) := by
  unfold sj_W
  rw [List.length_append, List.length_singleton, List.range_succ, List.map_append]
  congr 1
  · apply List.map_congr_left
    intro k hk
    have hk2 : k < cs.length := by simpa using hk
    simp [List.getD, List.getElem?_append_left hk2]
  · simp [List.getD]
theorem sj_W_set {dA : Bool → ClassId} {sz : Nat} {cs : List sj_c} {k : Nat} {d : sj_c} (hk : k < cs.length) : (sj_W dA sz cs).set k (sz + k, sj_ce dA sz d) = sj_W dA sz (cs.set k d) := by
  apply List.ext_getElem?
  intro j
  rw [List.getElem?_set]
  unfold sj_W
  by_cases hj : k = j
  · subst hj
    simp [hk, List.getD]
  · simp only [hj, if_false]
    rw [List.getElem?_map, List.getElem?_map, List.length_set]
    by_cases hl : j < cs.length
    · rw [List.getElem?_range hl]
      simp [List.getD, List.getElem?_set, hj]
    · rw [List.getElem?_eq_none (by simpa using hl)]
      rfl
section CTR
variable {p : Program} {l : Launch} {e : Env} {R : Room} {s : State} {m : MethodId} {args : Array Value} {below : List Frame} {meth : Method} {c : Code} {H : Heap} {locs : List Loc} {cells slots : Nat} {Q : State → Prop} {D : va_G} {cl : List vw_C} {tys : List (ClassId × FieldType)} {ws : va_W} {A : Nat → Prop} {H0 : Heap} {cc : ByteArray} {pc : Nat} {ls : Array Slot} {rest : List Value}
/-- a new row, its place told -/
theorem sj_newa (hexec : p.tables.exec = Jvm.exec) (hb : c.code = cc) {atype : ArrayType} (harr : (Jvm.Cond.arrayClass (newarray.typeOf atype)).before args s = true) {ty : FieldType} (hty : newarray.typeOf atype = ty) {cA : ClassId} (hcA : s.vm.findClass ("[" ++ ty.toString) = some cA) (hP : va_P D cl ws H) (hD : va_D A ws) (hS : va_S A H0 H locs)
    {n : Int32} {N' : Nat} {a0 : vp_A} (ha : ∀ cA : ClassId, vp_cell cA a0 = arrV cA N' (fun _ => defaultValue ty)) (hn : ¬ n < 0) (hN : n.toNatClampNeg = N') (hbytes : N' * componentBytes ty ≤ 536870912) (hcells : cells + 1 ≤ R.cells) (hslots : slots + N' ≤ R.slots) (hdg : decode cc pc = .ok (.newarray atype, 2))
    (kk : ∀ H1 : Heap, H1.size = H.size + 1 → va_P D cl (ws ++ [(H.size, .inl (cA, a0))]) H1 → va_S A H0 H1 locs →
      W p l e R s m args below meth c H1 locs (cells + 1) (slots + N') Q (F0 m (pc + 2) ls (.ref H.size :: rest))) : W p l e R s m args below meth c H locs cells slots Q (F0 m pc ls (.int n :: rest)) := by
  subst hty
  refine va_newaK hexec hb harr rfl hdg rfl hn hN hbytes hcells hslots rfl fun H1 cA2 e1 z1 o1 hAr hNm => ?_
  have hc2 : cA2 = cA := Option.some.inj (hNm.symm.trans hcA)
  subst hc2
  have hk : ∀ (k : Nat) (x : Nat × va_E), ws[k]? = some x → H1[x.1]? = H[x.1]? := fun k x hx => o1 x.1 ((hP k x hx).lt)
  refine kk H1 z1 ((hP.kept hk).app (fun k x hx => ?_)) ⟨Nat.le_trans hS.1 (by omega), fun x h1 h2 => (o1 x (Nat.lt_of_lt_of_le h1 hS.1)).trans (hS.2.1 x h1 h2), hS.2.2⟩
  have hz : k < 1 := (List.getElem?_eq_some_iff.mp hx).1
  rw [show k = 0 by omega] at hx
  cases hx
  show H1[H.size]? = some (vp_cell _ _)
  rw [ha]
  exact e1
theorem sj_new {c0 : Code} (hexec : p.tables.exec = Jvm.exec) (hb : c0.code = cc) {own C : String} {T : u_T} {N ci index : Nat} {Ts : List Jvm.Cond} (hts : ∀ w ∈ Ts, w.before args s = true) (hin : ∀ w ∈ u_ws C T N, w ∈ Ts) (ty : Nat → FieldType) (hty : ∀ k, k < N → parseFieldDescriptor (T k).2.2.1 = some (ty k)) (hown : s.vm.findClass own = some m.cls) (hcl : (Jvm.Cond.classLink own index C).before args s = true) (hinst : (Jvm.Cond.instantiable C N).before args s = true) (hini : (Jvm.Cond.initialized C).before args s = true)
    (hK : va_K D cl tys s) (hP : va_P D cl ws H) (hS : va_S A H0 H locs) (hc : cl[ci]? = some (C, T, N)) {fs : List Value} (hfs : ∀ j, j < N → defaultValue (ty j) = vp_V fs j) (hcells : cells + 1 ≤ R.cells) (hslots : slots + N ≤ R.slots) (hdg : decode cc pc = .ok (.new index, 3))
    (kk : ∀ H1 : Heap, H1.size = H.size + 1 → va_P D cl (ws ++ [(H.size, .inr (ci, fs))]) H1 → va_S A H0 H1 locs →
      W p l e R s m args below meth c0 H1 locs (cells + 1) (slots + N) Q (F0 m (pc + 3) ls (.ref H.size :: rest))) : W p l e R s m args below meth c0 H locs cells slots Q (F0 m pc ls rest) := by
  have hKn := hK.1 ci _ hc
  refine W.newcK hexec hb hown hcl hinst hini rfl hdg hcells hslots hKn.2.1 rfl fun H1 kC hkC e1 z1 o1 => ?_
  have hk : ∀ (k : Nat) (x : Nat × va_E), ws[k]? = some x → H1[x.1]? = H[x.1]? := fun k x hx => o1 x.1 ((hP k x hx).lt)
  refine kk H1 z1 ((hP.kept hk).app (fun k x hx => ?_)) ⟨Nat.le_trans hS.1 (by omega), fun x h1 h2 => (o1 x (Nat.lt_of_lt_of_le h1 hS.1)).trans (hS.2.1 x h1 h2), hS.2.2⟩
  have hz : k < 1 := (List.getElem?_eq_some_iff.mp hx).1
  rw [show k = 0 by omega] at hx
  cases hx
  exact ⟨_, hc, (u_born ty hts hin hKn hkC e1 hty).to hfs⟩
theorem sj_put (hexec : p.tables.exec = Jvm.exec) (hb : c.code = cc) {own ref C : String} {T : u_T} {N ci index a : Nat} {Ts : List Jvm.Cond} (hts : ∀ w ∈ Ts, w.before args s = true) (hin : ∀ w ∈ u_ws C T N, w ∈ Ts) (ty0 : Nat → FieldType) (hty : ∀ k, k < N → parseFieldDescriptor (T k).2.2.1 = some (ty0 k)) (hnm : ∀ a, a < N → ∀ b, b < N → a ≠ b → (T a).2.1 ≠ (T b).2.1) (hown : s.vm.findClass own = some m.cls) (hK : va_K D cl tys s) (hP : va_P D cl ws H) (hD : va_D A ws) (hS0 : va_S A H0 H locs) (q0 : Nat) {fs : List Value} (he : ws[q0]? = some (a, .inr (ci, fs))) (hc : cl[ci]? = some (C, T, N)) (k : Nat) (hk : k < N) (hlink : (Jvm.Cond.fieldLink own index ref (T k).2.1 (T k).2.2.1).before args s = true) (hsame : ∀ x, s.fieldFound? (T k).1 (T k).2.1 (T k).2.2.1 = some x → s.fieldFound? ref (T k).2.1 (T k).2.2.1 = some x) (hfin : (T k).2.2.2 = false ∨ ((T k).2.2.2 = true ∧ meth.name = "<init>" ∧ (T k).1 = own)) {ty : FieldType} {v : Value} (hd : parseFieldDescriptor (T k).2.2.1 = some ty) (hn : narrow ty v = v) (hfit : fits ty v = true) (hl : k < fs.length)
    (hdg : decode cc pc = .ok (.putfield index, 3)) (kk : ∀ (H1 : Heap) (locs1 : List Loc), H1.size = H.size → va_P D cl (ws.set q0 (a, .inr (ci, fs.set k v))) H1 → va_S A H0 H1 locs1 → W p l e R s m args below meth c H1 locs1 cells slots Q (F0 m (pc + 3) ls rest)) : W p l e R s m args below meth c H locs cells slots Q (F0 m pc ls (v :: .ref a :: rest)) := by
  have hap := va_apart (own := own) hts hin ty0 hty hnm hK hc
  obtain ⟨r, h1, cell, q1, q2, q3, q4⟩ := hP q0 _ he
  have hr : r = (C, T, N) := Option.some.inj (h1.symm.trans hc)
  subst hr
  obtain ⟨hS, hfc, kC, hkC, hkind⟩ := hK.1 ci _ hc
  obtain ⟨cf, kf, fi, f, hi, hsl⟩ := hS k hk
  have hlay := hts _ (hin _ (u_in_lay hk))
  have hst := (u_facts hfc hkC (u_lays hts hin hk) hi).1
  unfold u_lay at hlay
  rcases hfin with hfin | ⟨hfin, hin2, hdecl⟩
  · rw [if_neg (by rw [hfin]; decide)] at hlay
    have h6 := u_store hfc hkC hkind hlay hi hd hn hfit
    refine W.putK hexec hb (f := f) ⟨hown, hlink, ⟨_, _, _, hsame _ hi⟩, hst⟩ (by rw [q2]; exact h6) q1 q3 (by rw [hsl]; exact k2_hasslot (q4 k hk)) rfl rfl hdg fun H' e1 e2 e3 => ?_
    rw [hsl] at e1 ⊢
    exact kk H' _ e2 (hP.set hD he ⟨_, hc, t_OB.to (V := updV (vp_V fs) k v) ⟨_, e1, q2, q3, t_set q4 hap hk v⟩ (fun j _ => vp_updV_set hl v j)⟩ e3) (hS0.put e2 e3 (hD.2 q0 _ he))
  · rw [if_pos hfin] at hlay
    have hcf : m.cls = cf := by
      obtain ⟨_, _, c', _, _, _, -, -, hf', -, -, -, hown2, -⟩ := Cond.laysFinal_spec hlay
      have e1 : c' = cf := by have := hi.symm.trans hf'; simp at this; exact this.1.symm
      rw [hdecl] at hown2
      rw [← e1]; exact Option.some.inj (hown.symm.trans hown2)
    have h6 := u_fits hfc hkC hkind (Or.inr hlay) hi hd hn hfit
    refine W.putFinK hexec hb hown hlink (hsame _ hi) hst hcf hin2 (by rw [q2]; exact h6) q1 q3 (by rw [hsl]; exact k2_hasslot (q4 k hk)) rfl rfl hdg fun H' e1 e2 e3 => ?_
    rw [hsl] at e1 ⊢
    exact kk H' _ e2 (hP.set hD he ⟨_, hc, t_OB.to (V := updV (vp_V fs) k v) ⟨_, e1, q2, q3, t_set q4 hap hk v⟩ (fun j _ => vp_updV_set hl v j)⟩ e3) (hS0.put e2 e3 (hD.2 q0 _ he))
end CTR
/-- name, bytes, cells, slots, room for frames, room for words, rows -/
abbrev sj_mi : Type := MethodName × ByteArray × Nat × Nat × Nat × Nat × List si_row
def sj_df (c : Nat) : Value := match c with
  | 0 => .int 0
  | 1 => .long 0
  | 2 => .int 0
  | _ => .null
theorem sj_dfv (sz : Nat) (fc : List Nat) : (fc.map sj_df).map (si_v sz) = fc.map sj_df := by
  rw [List.map_map]
  apply List.map_congr_left
  intro c _
  simp only [Function.comp, sj_df]
  split <;> rfl
def sj_fit (c : Nat) (v : Value) : Bool := match c, v with
  | 0, .int _ => true
  | 1, .long _ => true
  | 2, .int x => decide (x = 0)
  | 3, .ref _ => true
  | _, _ => false
abbrev sj_S : Type := List Value × List sj_c × Nat × Nat
/-- an instruction; none: no such way -/
def sj_ins (mc ms this : Nat) (i : Instr) (xs : List Nat) (ci : Int32) (cL : Int64) (S : sj_S) : Option sj_S := match S with
  | (st, cs, nc, ns) => match i with
    | .aload_n k => match (k : Nat) with
      | 0 => some (.ref this :: st, cs, nc, ns)
      | _ => none
    | .dup => match st with
      | .ref q :: r => some (.ref q :: .ref q :: r, cs, nc, ns)
      | _ => none
    | .iconst _ => some (.int ci :: st, cs, nc, ns)
    | .bipush _ => some (.int ci :: st, cs, nc, ns)
    | .sipush _ => some (.int ci :: st, cs, nc, ns)
    | .lconst _ => some (.long cL :: st, cs, nc, ns)
    | .new _ => match xs with
      | ct :: _ :: _ :: _ :: fc => match Nat.ble (nc + 1) mc && Nat.ble (ns + fc.length) ms with
        | true => some (.ref cs.length :: st, cs ++ [.inl (ct, fc.map sj_df)], nc + 1, ns + fc.length)
        | false => none
      | _ => none
    | .newarray at_ => match st, xs with
      | .int n :: r, [b, _] => match Nat.ble (nc + 1) mc && Nat.ble (ns + n.toNatClampNeg) ms && decide (0 ≤ n) && Nat.ble (n.toNatClampNeg * 8) 536870912 with
        | true => match b with
          | 0 => some (.ref cs.length :: r, cs ++ [.inr (false, n.toNatClampNeg)], nc + 1, ns + n.toNatClampNeg)
          | 1 => some (.ref cs.length :: r, cs ++ [.inr (true, n.toNatClampNeg)], nc + 1, ns + n.toNatClampNeg)
          | _ => none
        | false => none
      | _, _ => none
    | .putfield _ => match st, xs with
      | v :: .ref q :: r, [ct, j, _, fc] => match cs[q]? with
        | some (.inl (ct', vs)) => match Nat.beq ct' ct && sj_fit fc v && Nat.blt j vs.length with
          | true => some (r, cs.set q (.inl (ct, vs.set j v)), nc, ns)
          | false => none
        | _ => none
      | _, _ => none
    | .invokespecial _ => match st, xs with
      | .ref _ :: r, [_, _, _] => match Nat.ble (si_cat r) 8 with
        | true => some (r, cs, nc, ns)
        | false => none
      | _, _ => none
    | _ => none
def sj_run (T : List sj_mi) : Nat → Nat → Nat → Nat → sj_S → Option (List sj_c)
  | 0, _, _, _, _ => none
  | n + 1, m, this, pc, S => match T[m]? with
    | none => none
    | some (_, _, mc, ms, _, _, rows) => match si_get rows pc with
      | none => none
      | some (p, i, len, xs, ci, cL, _) => match i with
        | .return_ => match S with
          | ([], cs, nc, ns) => match Nat.ble nc mc && Nat.ble ns ms with
            | true => some cs
            | false => none
          | _ => none
        | .invokespecial k => match xs with
          | [c, _, _, _, _] => match S, T[c]? with
            | (.ref q :: r, cs, nc, ns), some (_, _, mc2, ms2, _, _, _) => match Nat.ble (nc + mc2) mc && Nat.ble (ns + ms2) ms && Nat.ble (si_cat r) 8 with
              | true => match sj_run T n c q 0 ([], cs, 0, 0) with
                | some cs2 => sj_run T n m this (p + len) (r, cs2, nc + mc2, ns + ms2)
                | none => none
              | false => none
            | _, _ => none
          | _ => match sj_ins mc ms this i xs ci cL S with
            | some S2 => sj_run T n m this (p + len) S2
            | none => none
        | _ => match sj_ins mc ms this i xs ci cL S with
          | some S2 => sj_run T n m this (p + len) S2
          | none => none
def sj_pok (c : Nat) (ty : Option FieldType) : Bool := match c, ty with
  | 0, some .int => true
  | 1, some .long => true
  | 2, some .boolean => true
  | 3, some (.object _) => true
  | 3, some (.array _) => true
  | _, _ => false
theorem sj_fits {fc sz : Nat} {v : Value} {ty : FieldType} (b2 : sj_fit fc v = true) (q2 : sj_pok fc (some ty) = true) : narrow ty (si_v sz v) = si_v sz v ∧ fits ty (si_v sz v) = true := by
  match fc, v, ty, b2, q2 with
  | 0, .int x, .int, _, _ => exact ⟨rfl, rfl⟩
  | 1, .long x, .long, _, _ => exact ⟨rfl, rfl⟩
  | 2, .int x, .boolean, b2, _ =>
    have e : x = 0 := of_decide_eq_true b2
    subst e
    exact ⟨rfl, rfl⟩
  | 3, .ref q, .object _, _, _ => exact ⟨rfl, rfl⟩
  | 3, .ref q, .array _, _, _ => exact ⟨rfl, rfl⟩
def sj_len (i : Instr) : Nat := match i with
  | .bipush _ | .newarray _ => 2
  | .sipush _ | .new _ | .putfield _ | .invokespecial _ => 3
  | _ => 1
def sj_iok (T : List sj_mi) (cl : List vw_C) (own : String) (fr lo : Nat) (i : Instr) (xs : List Nat) (ci : Int32) (cL : Int64) : Bool := match i with
  | .iconst n => decide (Int32.ofInt n = ci)
  | .bipush n => decide ((Int8.ofInt n).toInt32 = ci)
  | .sipush n => decide ((Int16.ofInt n).toInt32 = ci)
  | .lconst n => decide (Int64.ofNat (n : Nat) = cL)
  | .new k => match xs with
    | ct :: w1 :: w2 :: w3 :: fc => match cl[ct]? with
      | some (C, F, N) => Nat.beq N fc.length && si_wi w1 (.classLink own k C) && si_wi w2 (.instantiable C N) && si_wi w3 (.initialized C) && (List.range N).all fun j => match parseFieldDescriptor (F j).2.2.1 with
        | some t => decide (defaultValue t = (fc.map sj_df).getD j .null)
        | none => false
      | none => false
    | _ => false
  | .newarray at_ => match xs with
    | [b, w] => (match b with
      | 0 => decide (newarray.typeOf at_ = .int) && si_wi w (.arrayClass .int)
      | 1 => decide (newarray.typeOf at_ = .long) && si_wi w (.arrayClass .long)
      | _ => false)
    | _ => false
  | .putfield k => match xs with
    | [ct, j, w, fc] => match cl[ct]? with
      | some (_, F, N) => Nat.blt j N && si_wi w (.fieldLink own k (F j).1 (F j).2.1 (F j).2.2.1) && sj_pok fc (parseFieldDescriptor (F j).2.2.1) && (!(F j).2.2.2 || decide ((F j).1 = own))
      | none => false
    | _ => false
  | .invokespecial k => match xs with
    | [w1, w2, w3] => si_wi w1 (.methodLink own k Lib.objectInit) && si_wi w2 (.instanceMethod Lib.objectInit) && si_wi w3 (.code Lib.objectInit ⟨#[0xb1]⟩ 1 none) && Nat.ble 1 fr && Nat.ble 20 lo
    | [c, w1, w2, w3, w4] => match T[c]? with
      | some (y, bs, _, _, fr2, lo2, _) => si_wi w1 (.methodLink own k y) && si_wi w2 (.instanceMethod y) && si_wi w3 (.initialized y.cls) && si_wi w4 (.code y bs 1 none) && decide (y.name = "<init>") && si_np y 0 && Nat.ble (fr2 + 1) fr && Nat.ble (8 + (1 + 11) + lo2) lo
      | none => false
    | _ => false
  | _ => true
def sj_rok (T : List sj_mi) (cl : List vw_C) (y : MethodName) (bs : ByteArray) (fr lo : Nat) (r : si_row) : Bool := match r with
  | (pc, i, len, xs, ci, cL, _) => decide (decode bs pc = .ok (i, len)) && Nat.beq len (sj_len i) && sj_iok T cl y.cls fr lo i xs ci cL
def sj_mok (T : List sj_mi) (cl : List vw_C) (m : sj_mi) : Bool := match m with
  | (y, bs, _, _, fr, lo, rows) => plainName y.cls && decide (y.name = "<init>") && rows.all (sj_rok T cl y bs fr lo)
def sj_rm (mc ms fr lo : Nat) : Room := { frames := fr, cells := mc, slots := ms, locals := lo }
def sj_B (D : va_G) (dA : Bool → ClassId) (cl : List vw_C) (sz : Nat) (cs : List sj_c) (H : Heap) : Prop := va_P D cl (sj_W dA sz cs) H ∧ H.size = sz + cs.length
def sj_KK (D : va_G) (dA : Bool → ClassId) (cl : List vw_C) (U : State) : Prop := va_K D cl [(dA false, .int), (dA true, .long)] U ∧ si_Nk U
def sj_Pc (D : va_G) (dA : Bool → ClassId) (cl : List vw_C) (sz this : Nat) (cs : List sj_c) : Array Value → State → Prop := va_Pc [.ref (sz + this)] (fun U => sj_B D dA cl sz cs U.heap ∧ sj_KK D dA cl U)
def sj_Qc (D : va_G) (dA : Bool → ClassId) (cl : List vw_C) (sz : Nat) (cs : List sj_c) : Array Value → State → Outcome → State → Prop := fun _ st oc t => oc = .returned none ∧ sj_B D dA cl sz cs t.heap ∧ va_F (fun q => sz ≤ q) st t
def sj_Met (l : Launch) (D : va_G) (dA : Bool → ClassId) (cl : List vw_C) (sz : Nat) (T : List sj_mi) (n : Nat) : Prop :=
  ∀ (m : Nat) (y : MethodName) (bs : ByteArray) (mc ms fr lo : Nat) (rows : List si_row), T[m]? = some (y, bs, mc, ms, fr, lo, rows) → ∀ (this : Nat) (cs cs2 : List sj_c), sj_run T n m this 0 ([], cs, 0, 0) = some cs2 →
    Met l y (Jvm.Cond.code y bs 1 none :: si_tb) (sj_rm mc ms fr lo) (sj_Pc D dA cl sz this cs) (sj_Qc D dA cl sz cs2) mc ms (si_fr sz)
theorem sj_blind {D : va_G} {dA : Bool → ClassId} {cl : List vw_C} {sz this : Nat} {cs : List sj_c} : FrameBlind (sj_Pc D dA cl sz this cs) := by
  intro a U g mk q
  obtain ⟨q0, q1, q2, q3⟩ := q
  exact ⟨q0, q1, va_K.moved (u := U) (U := U.calling g mk a) (Vm.Alike.refl U.vm) q2, si_Nk.same (u := U) rfl q3⟩
/-- a call of a constructor, goes on -/
theorem sj_goes {p : Program} {l : Launch} {e : Env} {R : Room} {s : State} {m : MethodId} {args : Array Value} {below : List Frame} {meth : Method} {c : Code} {H : Heap} {locs : List Loc} {cells slots mc ms : Nat} {Q : State → Prop} {pc : Nat} {ls : Array Slot} {rest st0 : List Value} {H0 : Heap} {D : va_G} {dA : Bool → ClassId} {cl : List vw_C} {sz : Nat} {cs : List sj_c} {a : Array Value}
    (hr : va_Run p l e R s m args below meth c H locs cells slots mc ms (F0 m pc ls st0) rest (sj_Qc D dA cl sz cs a) (si_fr sz)) (hS : va_S (fun q => sz ≤ q) H0 H locs)
    (kk : ∀ (H1 : Heap) (locs1 : List Loc), sj_B D dA cl sz cs H1 → va_S (fun q => sz ≤ q) H0 H1 locs1 → W p l e R s m args below meth c H1 locs1 (cells + mc) (slots + ms) Q (F0 m (pc + 3) ls rest)) : W p l e R s m args below meth c H locs cells slots Q (F0 m pc ls st0) := by
  intro T hT X
  obtain ⟨v, st₀, t, T', L, h0, X', hL, e1, e2, ⟨hv, hp, hz, hk⟩, st⟩ := hr T hT X
  cases hv
  rw [h0] at hz hk
  obtain ⟨t2, a1, b1⟩ := kk T'.heap (locs ++ L) (by rw [e1]; exact hp)
    ⟨Nat.le_trans hS.1 (by rw [e1]; exact hz), fun q h1 h2 => by rw [e1, hk q (Nat.lt_of_lt_of_le h1 hS.1) h2]; exact hS.2.1 q h1 h2, fun q hq => by
      rcases List.mem_append.mp hq with h | h
      · exact hS.2.2 q h
      · exact hL q h⟩ T' rfl X'
  exact ⟨t2, st t2 a1, b1⟩
/-- what is asked of the constructors -/
def sj_ok (T : List sj_mi) (cl : List vw_C) : Prop := (∀ mi ∈ T, sj_mok T cl mi = true) ∧ si_clok cl ∧ si_good
section CSIM
variable {p : Program} {l : Launch} {e : Env} {s : State} {m : MethodId} {args : Array Value} {below : List Frame} {meth : Method} {c : Code} {D : va_G} {dA : Bool → ClassId} {cl : List vw_C} {sz : Nat} {T : List sj_mi} {R : Room} {Q : State → Prop} {bs : ByteArray} {own : String} {H : Heap} {locs : List Loc} {ls : Array Slot} {H0 : Heap}
set_option maxHeartbeats 4000000 in
theorem sj_step (hcl : si_clok cl) (hx : p.tables.exec = Jvm.exec) (hb : c.code = bs) (hml : c.maxLocals = 1) (hown : s.vm.findClass own = some m.cls) (hts : ∀ w ∈ si_tb, w.before args s = true) (hK : va_K D cl [(dA false, .int), (dA true, .long)] s) (hin2 : meth.name = "<init>")
    {mc ms this pc len fr lo : Nat} {i : Instr} {xs : List Nat} {ci : Int32} {cL : Int64} {st : List Value} {cs : List sj_c} {nc ns : Nat} {S2 : sj_S} (hR : R.cells = mc ∧ R.slots = ms ∧ fr ≤ R.frames ∧ lo ≤ R.locals)
    (hd : decode bs pc = .ok (i, len)) (hlen : len = sj_len i) (hok : sj_iok T cl own fr lo i xs ci cL = true) (hB : sj_B D dA cl sz cs H) (hS : va_S (fun q => sz ≤ q) H0 H locs) (hl : lv_has ls 1 [(0, .ref (sz + this))])
    (h : sj_ins mc ms this i xs ci cL (st, cs, nc, ns) = some S2)
    (hk : ∀ (H' : Heap) (locs' : List Loc), sj_B D dA cl sz S2.2.1 H' → va_S (fun q => sz ≤ q) H0 H' locs' → W p l e R s m args below meth c H' locs' S2.2.2.1 S2.2.2.2 Q (F0 m (pc + len) ls (S2.1.map (si_v sz)))) :
    W p l e R s m args below meth c H locs nc ns Q (F0 m pc ls (st.map (si_v sz))) := by
  subst hlen
  obtain ⟨hP, hsz⟩ := hB
  have hD := sj_W_D dA sz cs
  obtain ⟨hRc, hRs, hRf, hRl⟩ := hR
  cases i with
  | aload_n k =>
    simp only [sj_ins] at h
    split at h
    · rename_i hk0
      cases h
      exact lv_aload_n hx hb hd hk0 (lv_at hl 0 rfl) (hk H locs ⟨hP, hsz⟩ hS)
    · cases h
  | dup =>
    simp only [sj_ins] at h
    split at h
    · cases h
      exact lv_dup hx hb hd rfl (hk H locs ⟨hP, hsz⟩ hS)
    · cases h
  | iconst n => cases h; exact lv_iconst hx hb hd (of_decide_eq_true hok) (hk H locs ⟨hP, hsz⟩ hS)
  | bipush n => cases h; exact lv_bipush hx hb hd (of_decide_eq_true hok) (hk H locs ⟨hP, hsz⟩ hS)
  | sipush n => cases h; exact lv_sipush hx hb hd (of_decide_eq_true hok) (hk H locs ⟨hP, hsz⟩ hS)
  | lconst n => cases h; exact lv_lconst hx hb hd (of_decide_eq_true hok) (hk H locs ⟨hP, hsz⟩ hS)
  | new k =>
    simp only [sj_ins] at h
    split at h
    · rename_i ct w1 w2 w3 fc
      split at h
      · rename_i hroom
        rw [Bool.and_eq_true] at hroom
        have r1 := Nat.le_of_ble_eq_true hroom.1
        have r2 := Nat.le_of_ble_eq_true hroom.2
        cases h
        simp only [sj_iok] at hok
        split at hok
        · rename_i C F N hct
          simp only [Bool.and_eq_true] at hok
          obtain ⟨⟨⟨⟨q0, q1⟩, q2⟩, q3⟩, q4⟩ := hok
          have e0 : N = fc.length := Nat.eq_of_beq_eq_true q0
          subst e0
          obtain ⟨hin, ⟨ty0, hty0⟩, hnm⟩ := hcl ct C F fc.length hct
          refine sj_new hx hb hts hin ty0 hty0 hown (hts _ (si_wi_mem q1)) (hts _ (si_wi_mem q2)) (hts _ (si_wi_mem q3)) hK hP hS hct (fs := (fc.map sj_df).map (si_v sz)) (fun j hj => ?_) (by rw [hRc]; exact r1) (by rw [hRs]; exact r2) hd (fun H1 z1 hP1 hS1 => ?_)
          · have q5 := List.all_eq_true.mp q4 j (List.mem_range.mpr hj)
            rw [hty0 j hj] at q5
            dsimp only at q5
            rw [of_decide_eq_true q5, sj_dfv]
            rfl
          · have hh := hk H1 locs ⟨by rw [hsz] at hP1; rw [← sj_W_app]; exact hP1, by rw [z1, hsz, List.length_append]; rfl⟩ hS1
            rw [hsz]
            exact hh
        · cases hok
      · cases h
    · cases h
  | newarray at_ =>
    simp only [sj_ins] at h
    split at h
    · rename_i n r b w
      split at h
      · rename_i hroom
        simp only [Bool.and_eq_true] at hroom
        obtain ⟨⟨⟨r1, r2⟩, r3⟩, r4⟩ := hroom
        have e1 := Nat.le_of_ble_eq_true r1
        have e2 := Nat.le_of_ble_eq_true r2
        have e3 : ¬ n < 0 := Int32.not_lt.mpr (of_decide_eq_true r3)
        have e4 := Nat.le_of_ble_eq_true r4
        simp only [sj_iok] at hok
        split at h
        · cases h
          simp only [Bool.and_eq_true] at hok
          refine sj_newa hx hb (by rw [of_decide_eq_true hok.1]; exact hts _ (si_wi_mem hok.2)) (of_decide_eq_true hok.1) (cA := dA false) (hK.2 0 _ rfl).2 hP hD hS (a0 := (n.toNatClampNeg, .inl (fun _ => 0))) (fun _ => rfl) e3 rfl (Nat.le_trans (Nat.mul_le_mul_left _ (by decide)) e4) (by rw [hRc]; exact e1) (by rw [hRs]; exact e2) hd (fun H1 z1 hP1 hS1 => ?_)
          have hh := hk H1 locs ⟨by rw [hsz] at hP1; rw [← sj_W_app]; exact hP1, by rw [z1, hsz, List.length_append]; rfl⟩ hS1
          rw [hsz]
          exact hh
        · cases h
          simp only [Bool.and_eq_true] at hok
          refine sj_newa hx hb (by rw [of_decide_eq_true hok.1]; exact hts _ (si_wi_mem hok.2)) (of_decide_eq_true hok.1) (cA := dA true) (hK.2 1 _ rfl).2 hP hD hS (a0 := (n.toNatClampNeg, .inr (.inl (fun _ => 0)))) (fun _ => rfl) e3 rfl (Nat.le_trans (Nat.mul_le_mul_left _ (by decide)) e4) (by rw [hRc]; exact e1) (by rw [hRs]; exact e2) hd (fun H1 z1 hP1 hS1 => ?_)
          have hh := hk H1 locs ⟨by rw [hsz] at hP1; rw [← sj_W_app]; exact hP1, by rw [z1, hsz, List.length_append]; rfl⟩ hS1
          rw [hsz]
          exact hh
        · cases h
      · cases h
    · cases h
  | putfield k =>
    simp only [sj_ins] at h
    split at h
    · rename_i v q r ct j w fc
      split at h
      · rename_i ct2 vs hq
        split at h
        · rename_i hb2
          simp only [Bool.and_eq_true] at hb2
          obtain ⟨⟨b1, b2⟩, b3⟩ := hb2
          have ect : ct2 = ct := Nat.eq_of_beq_eq_true b1
          subst ect
          have hjl : j < vs.length := Nat.le_of_ble_eq_true b3
          cases h
          simp only [sj_iok] at hok
          split at hok
          · rename_i C F N hct
            simp only [Bool.and_eq_true] at hok
            obtain ⟨⟨⟨q0, q1⟩, q2⟩, q3⟩ := hok
            have hjN : j < N := Nat.le_of_ble_eq_true q0
            obtain ⟨hin, ⟨ty0, hty0⟩, hnm⟩ := hcl ct2 C F N hct
            have hty := hty0 j hjN
            rw [hty] at q2
            have hfit : narrow (ty0 j) (si_v sz v) = si_v sz v ∧ fits (ty0 j) (si_v sz v) = true := sj_fits b2 q2
            have hcell : (sj_W dA sz cs)[q]? = some (sz + q, .inr (ct2, vs.map (si_v sz))) := sj_W_at hq
            have hset : ∀ H', va_P D cl ((sj_W dA sz cs).set q (sz + q, .inr (ct2, (vs.map (si_v sz)).set j (si_v sz v)))) H' → va_P D cl (sj_W dA sz (cs.set q (.inl (ct2, vs.set j v)))) H' := by
              intro H' hP'
              rw [← List.map_set] at hP'
              rw [← sj_W_set (List.getElem?_eq_some_iff.mp hq).1]
              exact hP'
            have hfin : (F j).2.2.2 = false ∨ ((F j).2.2.2 = true ∧ meth.name = "<init>" ∧ (F j).1 = own) := by
              cases hf : (F j).2.2.2 with
              | false => exact Or.inl rfl
              | true =>
                rw [hf] at q3
                exact Or.inr ⟨rfl, hin2, of_decide_eq_true (by simpa using q3)⟩
            exact sj_put hx hb hts hin ty0 hty0 hnm hown hK hP hD hS q hcell hct j hjN (hts _ (si_wi_mem q1)) (fun _ h9 => h9) hfin hty hfit.1 hfit.2 (by simp [hjl]) hd (fun H' locs' hz hP' hS' => hk H' locs' ⟨hset H' hP', by rw [hz, hsz, List.length_set]⟩ hS')
          · cases hok
        · cases h
      · cases h
    · cases h
  | invokespecial k =>
    simp only [sj_ins] at h
    split at h
    · rename_i q r w1 w2 w3
      split at h
      · rename_i hcat
        cases h
        simp only [sj_iok, Bool.and_eq_true] at hok
        obtain ⟨⟨⟨⟨q1, q2⟩, q3⟩, q4⟩, q5⟩ := hok
        have e4 : 1 ≤ fr := Nat.le_of_ble_eq_true q4
        have e5 : 20 ≤ lo := Nat.le_of_ble_eq_true q5
        have e6 : si_cat r ≤ 8 := Nat.le_of_ble_eq_true hcat
        have e7 := lv_room (m := m) (pc := pc) (ls := ls) (rest := (Value.ref q :: r).map (si_v sz)) (st := r.map (si_v sz)) (by rw [si_catm]; exact e6)
        refine W.objInit hx hb hown (hts _ (si_wi_mem q1)) (hts _ (si_wi_mem q2)) (hts _ (si_wi_mem q3)) rfl (by rw [hml]; exact hl.1) rfl hd (Nat.le_trans e4 hRf) (by omega) ?_
        exact hk H locs ⟨hP, hsz⟩ hS
      · cases h
    · cases h
  | _ => cases h
end CSIM
set_option maxHeartbeats 4000000 in
/-- THE THEOREM for constructors -/
theorem sj_sim {T : List sj_mi} {cl : List vw_C} (hT : sj_ok T cl) (l : Launch) (D : va_G) (dA : Bool → ClassId) (sz : Nat) : ∀ n, sj_Met l D dA cl sz T n := by
  have body : ∀ n, (∀ n', n' < n → sj_Met l D dA cl sz T n') → ∀ (m : Nat) (y : MethodName) (bs : ByteArray) (mc ms fr lo : Nat) (rows : List si_row), T[m]? = some (y, bs, mc, ms, fr, lo, rows) →
      ∀ (p : Program) (e : Env) (s : State) (mid : MethodId) (args : Array Value) (below : List Frame) (meth : Method) (c : Code), p.tables.exec = Jvm.exec → c.code = bs → c.maxLocals = 1 → s.vm.findClass y.cls = some mid.cls → (∀ w ∈ si_tb, w.before args s = true) → sj_KK D dA cl s → meth.name = "<init>" → meth.sig.returnType = none → meth.locks = false →
      ∀ (this pc : Nat) (st : List Value) (cs cs2 : List sj_c) (nc ns : Nat) (H : Heap) (locs : List Loc) (ls : Array Slot), sj_run T n m this pc (st, cs, nc, ns) = some cs2 → sj_B D dA cl sz cs H → va_S (fun q => sz ≤ q) s.heap H locs → lv_has ls 1 [(0, .ref (sz + this))] →
      W p l e (sj_rm mc ms fr lo) s mid args below meth c H locs nc ns (MQ below (sj_Qc D dA cl sz cs2) args s mc ms (si_fr sz)) (F0 mid pc ls (st.map (si_v sz))) := by
    intro n
    induction n with
    | zero =>
      intro hM m y bs mc ms fr lo rows hm p e s mid args below meth c hx hb hml hown hts hKK hin2 hr hlocks this pc st cs cs2 nc ns H locs ls h
      cases h
    | succ n ih =>
      intro hM m y bs mc ms fr lo rows hm p e s mid args below meth c hx hb hml hown hts hKK hin2 hr hlocks this pc st cs cs2 nc ns H locs ls h hB hS hl
      have hMn := hM n (Nat.lt_succ_self n)
      have ihn := ih (fun n' hn' => hM n' (Nat.lt_succ_of_lt hn')) m y bs mc ms fr lo rows hm p e s mid args below meth c hx hb hml hown hts hKK hin2 hr hlocks
      unfold sj_run at h
      rw [hm] at h
      dsimp only at h
      split at h
      · cases h
      · rename_i pc2 i len xs ci cL dead hrow
        obtain ⟨hmem, hpc⟩ := si_get_row hrow
        dsimp only at hpc
        subst hpc
        have hmok := hT.1 _ (List.mem_of_getElem? hm)
        simp only [sj_mok, Bool.and_eq_true] at hmok
        have hrok := List.all_eq_true.mp hmok.2 _ hmem
        simp only [sj_rok, Bool.and_eq_true] at hrok
        obtain ⟨⟨hd0, hlen0⟩, hok⟩ := hrok
        have hd := of_decide_eq_true hd0
        have hlen := Nat.eq_of_beq_eq_true hlen0
        have plain : (match sj_ins mc ms this i xs ci cL (st, cs, nc, ns) with
          | some S2 => sj_run T n m this (pc2 + len) S2
          | none => none) = some cs2 → W p l e (sj_rm mc ms fr lo) s mid args below meth c H locs nc ns (MQ below (sj_Qc D dA cl sz cs2) args s mc ms (si_fr sz)) (F0 mid pc2 ls (st.map (si_v sz))) := by
          intro h
          split at h
          · rename_i S2 hS2
            refine sj_step (T := T) hT.2.1 hx hb hml hown hts hKK.1 hin2 (R := sj_rm mc ms fr lo) ⟨rfl, rfl, Nat.le_refl _, Nat.le_refl _⟩ hd hlen hok hB hS hl hS2 (fun H' locs' hB' hS' => ?_)
            obtain ⟨st', cs', nc', ns'⟩ := S2
            exact ihn this _ st' cs' cs2 nc' ns' H' locs' ls h hB' hS' hl
          · cases h
        split at h
        · split at h
          · rename_i hS0
            cases hS0
            split at h
            · rename_i hroom
              rw [Bool.and_eq_true] at hroom
              have r1 := Nat.le_of_ble_eq_true hroom.1
              have r2 := Nat.le_of_ble_eq_true hroom.2
              cases h
              refine W.widen (k := mc) (n := ms) r1 r2 ?_
              exact W.vret hx hb hr (fun t ht hW => ⟨rfl, by rw [ht]; exact hB, hS.F ht⟩) hS.2.2 (by rw [hd, hlen]; rfl) hlocks
            · cases h
          · cases h
        · rename_i k
          split at h
          · rename_i c2 w1 w2 w3 w4
            split at h
            · rename_i q r cs0 nc0 ns0 y2 bs2 mc2 ms2 fr2 lo2 rows2 hS0 hc2
              cases hS0
              split at h
              · rename_i hroom
                simp only [Bool.and_eq_true] at hroom
                obtain ⟨⟨r1, r2⟩, r3⟩ := hroom
                have e1 := Nat.le_of_ble_eq_true r1
                have e2 := Nat.le_of_ble_eq_true r2
                have e3 : si_cat r ≤ 8 := Nat.le_of_ble_eq_true r3
                split at h
                · rename_i cs3 hrun
                  simp only [sj_iok, hc2, Bool.and_eq_true] at hok
                  obtain ⟨⟨⟨⟨⟨⟨⟨q1, q2⟩, q3⟩, q4⟩, q5⟩, q6⟩, q7⟩, q8⟩ := hok
                  have f7 : fr2 + 1 ≤ fr := Nat.le_of_ble_eq_true q7
                  have f8 : 8 + (1 + 11) + lo2 ≤ lo := Nat.le_of_ble_eq_true q8
                  have hMet := hMn c2 y2 bs2 mc2 ms2 fr2 lo2 rows2 hc2 q _ _ hrun
                  have hcw : Jvm.Cond.code y2 bs2 1 none ∈ si_tb := si_wi_mem q4
                  refine sj_goes (va_runI (As := []) ⟨hx, hb, hml, hown, hts⟩ hMet ⟨callB_of 0 hts (si_goodw hT.2.2 hcw) rfl rfl rfl (hts _ (si_wi_mem q3)) (hts _ (si_wi_mem q1)) (si_npw q6) ⟨f7, f8⟩, of_decide_eq_true q5, hts _ (si_wi_mem q2)⟩ ⟨sj_blind, fun U hU hW => ⟨rfl, by rw [hU]; exact hB, va_K.moved hW.alike hKK.1, hKK.2.warm hW⟩⟩ rfl rfl hl.1 rfl (lv_room (m := mid) (pc := pc2) (ls := ls) (rest := []) (st := r.map (si_v sz)) (by rw [si_catm]; exact e3)) (by rw [hd, hlen]; rfl) ⟨e1, e2⟩) hS (fun H1 locs1 hB1 hS1 => ?_)
                  have hh := ihn this _ r cs3 cs2 _ _ H1 locs1 ls h hB1 hS1 hl
                  rw [hlen] at hh
                  exact hh
                · cases h
              · cases h
            · cases h
          · exact plain h
        · exact plain h
  intro n
  induction n using Nat.strongRecOn with
  | _ n ihM =>
    intro m y bs mc ms fr lo rows hm this cs cs2 h
    have hmok := hT.1 _ (List.mem_of_getElem? hm)
    simp only [sj_mok, Bool.and_eq_true] at hmok
    refine Met.ofW (cc := bs) (maxL := 1) (ret := none) hmok.1.1 rfl ?_
    intro p e s mid args below meth c s₁ B hml hv
    obtain ⟨rfl, hB, hKK⟩ := hv
    have hts := atoms_spec (ws := Jvm.Cond.code y bs 1 none :: si_tb) B.pre
    have hl := lv_entry [.ref (sz + this)] (n := 1) (Nat.le_of_ble_eq_true rfl)
    rw [lg_entry_eq]
    generalize (lg_sl [.ref (sz + this)] ++ List.replicate (1 - (lg_sl [.ref (sz + this)]).length) Slot.unset).toArray = ls at hl ⊢
    have hnm : meth.name = "<init>" := (name_of_methodNamed B.named B.method).1.trans (of_decide_eq_true hmok.1.2)
    exact body n ihM m y bs mc ms fr lo rows hm p e s mid _ below meth c B.exec B.bytes hml (findClass_of_methodNamed B.named) (fun w hw => hts w (List.mem_cons_of_mem _ hw)) hKK hnm B.returns B.notSynchronized this 0 [] cs cs2 0 0 s.heap [] ls h hB va_S.rf hl
