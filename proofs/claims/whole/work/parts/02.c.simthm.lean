/-! THE CHECK OF A PROGRAM'S ROWS, AND THE THEOREM: the real machine follows the pure one -/
/-- the tables' words that stay true as the tables warm -/
def si_tb : List Jvm.Cond := lw_tbl.filter goodWord
/-- the links to nest mates' private methods -/
def si_isN : Jvm.Cond → Bool
  | .methodLinkNest _ _ _ _ => true
  | _ => false
def si_nb : List Jvm.Cond := lw_tbl.filter si_isN
def si_Nk (U : State) : Prop := ∀ w ∈ si_nb, va_Nw w U
theorem si_Nk.warm {s U : State} (hW : s.WarmedH U.vm) (h : si_Nk s) : si_Nk U := by
  intro w hw
  have h1 := (List.mem_filter.mp hw).2
  cases w with
  | methodLinkNest a i x hh => exact va_Nw.warmM hW (h _ hw)
  | _ => cases h1
theorem si_Nk.same {u U : State} (h : u.vm = U.vm) (hZ : si_Nk u) : si_Nk U := by
  intro w hw
  have h1 := (List.mem_filter.mp hw).2
  cases w with
  | methodLinkNest a i x hh => exact va_Nw.same rfl h (hZ _ hw)
  | _ => cases h1
def si_wi (i : Nat) (w : Jvm.Cond) : Bool := decide (lw_tbl[i]? = some w) && goodWord w
theorem si_wi_mem {i : Nat} {w : Jvm.Cond} (h : si_wi i w = true) : w ∈ si_tb := by
  unfold si_wi at h
  rw [Bool.and_eq_true] at h
  exact List.mem_filter.mpr ⟨List.mem_of_getElem? (of_decide_eq_true h.1), h.2⟩
/-- the link of a static call: plain, or to a nest mate's private method -/
def si_lk (own : String) (k : Nat) (y : MethodName) (i : Nat) : Bool := match lw_tbl[i]? with
  | some (.methodLink o j z) => decide (o = own ∧ j = k ∧ z = y) && goodWord (.methodLink o j z)
  | some (.methodLinkNest o j z _) => decide (o = own ∧ j = k ∧ z = y) 
  | _ => false
theorem si_lk_mem {own : String} {k i : Nat} {y : MethodName} (h : si_lk own k y i = true) : Jvm.Cond.methodLink own k y ∈ si_tb ∨ ∃ host, Jvm.Cond.methodLinkNest own k y host ∈ si_nb := by
  unfold si_lk at h
  split at h
  · rename_i o j z hw
    rw [Bool.and_eq_true] at h
    obtain ⟨rfl, rfl, rfl⟩ := of_decide_eq_true h.1
    exact Or.inl (List.mem_filter.mpr ⟨List.mem_of_getElem? hw, h.2⟩)
  · rename_i o j z host hw
    obtain ⟨rfl, rfl, rfl⟩ := of_decide_eq_true h
    exact Or.inr ⟨host, List.mem_filter.mpr ⟨List.mem_of_getElem? hw, rfl⟩⟩
  · cases h
def si_np (y : MethodName) (n : Nat) : Bool := decide (y.cls ≠ "java/lang/invoke/MethodHandle" ∧ y.cls ≠ "java/lang/invoke/VarHandle") && decide ((parseMethodDescriptor y.desc).map (fun d => d.parameters.length) = some n)
def si_cok (mt : List si_mi) (cl : List vw_C) (own : String) (fr lo k : Nat) (xs : List Nat) (virt : Bool) : Bool := match virt, xs with
  | false, [w1, w2, w3, w4] => si_wi w1 (.methodLink own k arraycopyName) && si_wi w2 (.native arraycopyName) && si_wi w3 (.static arraycopyName) && si_wi w4 (.initialized "java/lang/System") && Nat.ble 1 fr && Nat.ble (8 + (nativeFrameWords "java/lang/System" "arraycopy" 5 + 11)) lo
  | false, [w1, w2, w3, w4, _] => si_wi w1 (.methodLink own k Lib.Math.min.name) && si_wi w2 (.static Lib.Math.min.name) && si_wi w3 (.initialized "java/lang/Math") && si_wi w4 (.code Lib.Math.min.name Lib.Math.min.code 2 (some .int)) && Nat.ble 1 fr && Nat.ble 21 lo
  | false, [c, na, _, w1, w2, w3, w4] => match mt[c]? with
    | some (y, bs, mL, ret, fr2, lo2, _) => si_lk own k y w1 && si_wi w2 (.static y) && si_wi w3 (.initialized y.cls) && si_wi w4 (.code y bs mL ret) && si_np y na && Nat.ble (fr2 + 1) fr && Nat.ble (8 + (mL + 11) + lo2) lo
    | none => false
  | true, [c, na, _, ct, w1, w2, w3, w4, w5] => match mt[c]?, cl[ct]? with
    | some (y, bs, mL, ret, fr2, lo2, _), some (C, _, _) => decide (y.cls = C) && si_wi w1 (.methodLink own k y) && si_wi w2 (.instanceMethod y) && si_wi w3 (.initialized y.cls) && si_wi w4 (.code y bs mL ret) && si_wi w5 (.selects y.cls y y) && si_np y na && Nat.ble (fr2 + 1) fr && Nat.ble (8 + (mL + 11) + lo2) lo
    | _, _ => false
  | _, _ => false
def si_fok (cl : List vw_C) (own : String) (k : Nat) (xs : List Nat) (put : Bool) : Bool := match xs with
  | [ct, j, w] => match cl[ct]? with
    | some (_, T, N) => Nat.blt j N && si_wi w (.fieldLink own k (T j).1 (T j).2.1 (T j).2.2.1) && (!put || !(T j).2.2.2)
    | none => false
  | _ => false
def si_tok (pc : Nat) (off : Int) (xs : List Nat) : Bool := match xs with
  | [t] => decide ((pc : Int) + off = (t : Int))
  | _ => false
def si_kok (xs : List Nat) (w : Jvm.Cond) : Bool := match xs with
  | [i] => si_wi i w
  | _ => false
/-- what is asked of a row beside its decoding -/
def si_iok (mt : List si_mi) (cl : List vw_C) (own : String) (fr lo pc : Nat) (i : Instr) (xs : List Nat) (ci : Int32) (cL : Int64) : Bool := match i with
  | .iconst n => decide (Int32.ofInt n = ci)
  | .bipush n => decide ((Int8.ofInt n).toInt32 = ci)
  | .sipush n => decide ((Int16.ofInt n).toInt32 = ci)
  | .ldc k => si_kok xs (.constant own k ci)
  | .ldc_w k => si_kok xs (.constant own k ci)
  | .lconst n => decide (Int64.ofNat (n : Nat) = cL)
  | .ldc2_w k => si_kok xs (.constantLong own k cL)
  | .iinc _ n => decide (Int32.ofInt n = ci)
  | .goto off => si_tok pc off xs
  | .ifCond _ off => si_tok pc off xs
  | .if_icmp _ off => si_tok pc off xs
  | .getfield k => si_fok cl own k xs false
  | .putfield k => si_fok cl own k xs true
  | .invokestatic k => si_cok mt cl own fr lo k xs false
  | .invokevirtual k => si_cok mt cl own fr lo k xs true
  | _ => true
def si_len (i : Instr) : Nat := match i with
  | .bipush _ | .ldc _ | .iload _ | .lload _ | .aload _ | .istore _ | .lstore _ | .astore _ => 2
  | .sipush _ | .ldc_w _ | .ldc2_w _ | .iinc _ _ | .goto _ | .ifCond _ _ | .if_icmp _ _ | .getfield _ | .putfield _ | .invokestatic _ | .invokevirtual _ => 3
  | _ => 1
def si_rok (mt : List si_mi) (cl : List vw_C) (y : MethodName) (bs : ByteArray) (fr lo : Nat) (r : si_row) : Bool := match r with
  | (pc, i, len, xs, ci, cL, _) => decide (decode bs pc = .ok (i, len)) && Nat.beq len (si_len i) && si_iok mt cl y.cls fr lo pc i xs ci cL
def si_mok (mt : List si_mi) (cl : List vw_C) (m : si_mi) : Bool := match m with
  | (y, bs, _, _, fr, lo, rows) => plainName y.cls && rows.all (si_rok mt cl y bs fr lo)
/-- what the classes' tables must say -/
def si_clok (cl : List vw_C) : Prop := ∀ (ct : Nat) (C : String) (T : u_T) (N : Nat), cl[ct]? = some (C, T, N) → (∀ w ∈ u_ws C T N, w ∈ si_tb) ∧ (∃ ty : Nat → FieldType, ∀ k, k < N → parseFieldDescriptor (T k).2.2.1 = some (ty k)) ∧ ∀ a, a < N → ∀ b, b < N → a ≠ b → (T a).2.1 ≠ (T b).2.1
/-- the codes of the cells' fields are their types -/
def si_shok (cl : List vw_C) (sh : List si_kd) : Prop := ∀ (k ct : Nat) (cs : List Nat), sh[k]? = some (.inl (ct, cs)) → ∃ (C : String) (T : u_T), cl[ct]? = some (C, T, cs.length) ∧ ∀ (j c : Nat), cs[j]? = some c → parseFieldDescriptor (T j).2.2.1 = (match c with | 0 => some .int | 1 => some .long | 2 => some .boolean | _ => parseFieldDescriptor (T j).2.2.1)
def si_good : Prop := ∀ w ∈ si_tb, (w.onTables && w.keeps) = true ∨ ∃ ty, w = Jvm.Cond.arrayClass ty
def si_Pc (D : va_G) (dA : Bool → ClassId) (cl : List vw_C) (sz : Nat) (sh : List si_kd) (as : List Value) (σ : si_M) : Array Value → State → Prop := va_Pc (as.map (si_v sz)) (fun U => va_P D cl (si_W dA sz sh σ) U.heap ∧ va_K D cl [(dA false, .int), (dA true, .long)] U ∧ si_Nk U)
def si_Qc (D : va_G) (dA : Bool → ClassId) (cl : List vw_C) (sz : Nat) (sh : List si_kd) (o : si_O) : Array Value → State → Outcome → State → Prop := fun _ st oc t => oc = .returned (o.1.map (si_v sz)) ∧ va_P D cl (si_W dA sz sh o.2) t.heap ∧ va_F (fun q => sz ≤ q) st t
def si_fr (sz : Nat) : Addr → Prop := fun q => sz ≤ q
def si_rm (fr lo : Nat) : Room := { frames := fr, cells := 0, slots := 0, locals := lo }
/-- a call of a method that makes nothing, goes on -/
theorem si_goes {p : Program} {l : Launch} {e : Env} {R : Room} {s : State} {m : MethodId} {args : Array Value} {below : List Frame} {meth : Method} {c : Code} {H : Heap} {locs : List Loc} {cells slots : Nat} {Q : State → Prop} {pc : Nat} {ls : Array Slot} {rest st0 : List Value} {H0 : Heap} {D : va_G} {dA : Bool → ClassId} {cl : List vw_C} {sz : Nat} {sh : List si_kd} {o : si_O} {a : Array Value}
    (hr : va_Run p l e R s m args below meth c H locs cells slots 0 0 (F0 m pc ls st0) rest (si_Qc D dA cl sz sh o a) (si_fr sz)) (hS : va_S (fun q => sz ≤ q) H0 H locs)
    (kk : ∀ (H1 : Heap) (locs1 : List Loc), va_P D cl (si_W dA sz sh o.2) H1 → va_S (fun q => sz ≤ q) H0 H1 locs1 → W p l e R s m args below meth c H1 locs1 cells slots Q (F0 m (pc + 3) ls ((o.1.map (si_v sz)).toList ++ rest))) : W p l e R s m args below meth c H locs cells slots Q (F0 m pc ls st0) := by
  intro T hT X
  obtain ⟨v, st₀, t, T', L, h0, X', hL, e1, e2, ⟨hv, hp, hz, hk⟩, st⟩ := hr T hT X
  cases hv
  rw [h0] at hz hk
  obtain ⟨t2, a1, b1⟩ := kk T'.heap (locs ++ L) (by rw [e1]; exact hp)
    ⟨Nat.le_trans hS.1 (by rw [e1]; exact hz), fun q h1 h2 => by rw [e1, hk q (Nat.lt_of_lt_of_le h1 hS.1) h2]; exact hS.2.1 q h1 h2, fun q hq => by
      rcases List.mem_append.mp hq with h | h
      · exact hS.2.2 q h
      · exact hL q h⟩ T' rfl X'
  exact ⟨t2, st t2 a1, b1⟩
section SIM
variable {p : Program} {l : Launch} {e : Env} {s : State} {m : MethodId} {args : Array Value} {below : List Frame} {meth : Method} {c : Code} {D : va_G} {dA : Bool → ClassId} {cl : List vw_C} {sz : Nat} {sh : List si_kd} {mt : List si_mi} {R : Room} {cells slots : Nat} {Q : State → Prop} {bs : ByteArray} {own : String} {mL : Nat} {H0 : Heap}
/-- what holds all through a method's body -/
def si_Ctx (p : Program) (s : State) (m : MethodId) (args : Array Value) (c : Code) (D : va_G) (dA : Bool → ClassId) (cl : List vw_C) (bs : ByteArray) (own : String) (mL : Nat) : Prop := p.tables.exec = Jvm.exec ∧ c.code = bs ∧ c.maxLocals = mL ∧ s.vm.findClass own = some m.cls ∧ (∀ w ∈ si_tb, w.before args s = true) ∧ va_K D cl [(dA false, .int), (dA true, .long)] s ∧ si_Nk s
/-- what holds at a point of it -/
def si_At (s : State) (D : va_G) (dA : Bool → ClassId) (cl : List vw_C) (sz : Nat) (sh : List si_kd) (mL : Nat) (H0 : Heap) (σ : si_M) (L : List Value) (H : Heap) (locs : List Loc) (ls : Array Slot) : Prop := L.length = mL ∧ va_P D cl (si_W dA sz sh σ) H ∧ va_S (fun q => sz ≤ q) H0 H locs ∧ si_L sz L ls mL
theorem si_jw {call : Nat → List Value → si_M → Option si_O} {k : Nat → List Value → List Value → si_M → Option si_O} {o : si_O} {pc : Nat} {L st : List Value} {σ : si_M} (h : si_drv call k (si_j pc L st σ) = some o) : k pc L st σ = some o := h
theorem si_ifw {call : Nat → List Value → si_M → Option si_O} {k : Nat → List Value → List Value → si_M → Option si_O} {o : si_O} {c : Bool} {pc : Nat} {L st : List Value} {σ : si_M} (hk0 : ∀ L st σ, k 65535 L st σ = none) (h : si_drv call k (si_if c pc L st σ) = some o) : c = true ∧ k pc L st σ = some o := by
  cases c with
  | true => exact ⟨rfl, h⟩
  | false => exact absurd ((hk0 L st σ).symm.trans h) (by simp)
theorem si_brw {call : Nat → List Value → si_M → Option si_O} {k : Nat → List Value → List Value → si_M → Option si_O} {o : si_O} {c : Bool} {a b : Nat} {L st : List Value} {σ : si_M} (h : si_drv call k (si_br c a b L st σ) = some o) : (c = true → k a L st σ = some o) ∧ (c = false → k b L st σ = some o) := by
  cases c with
  | true => exact ⟨fun _ => h, (fun e => by cases e)⟩
  | false => exact ⟨(fun e => by cases e), fun _ => h⟩
theorem si_P_I {H : Heap} {σ : si_M} {k n : Nat} (h : sh[k]? = some (.inr (false, n))) : (si_W dA sz sh σ)[k]? = some (sz + k, .inl (dA false, n, .inl (σ.1 k))) := si_W_at h
theorem si_P_J {H : Heap} {σ : si_M} {k n : Nat} (h : sh[k]? = some (.inr (true, n))) : (si_W dA sz sh σ)[k]? = some (sz + k, .inl (dA true, n, .inr (.inl (σ.2 k)))) := si_W_at h
theorem si_P_O {H : Heap} {σ : si_M} {k ct : Nat} {cs : List Nat} (h : sh[k]? = some (.inl (ct, cs))) : (si_W dA sz sh σ)[k]? = some (sz + k, .inr (ct, (List.range cs.length).map fun j => si_v sz (si_pv σ k j (cs.getD j 0)))) := si_W_at h
theorem si_len1 {len : Nat} {n : Nat} (h : Nat.beq len n = true) : len = n := Nat.eq_of_beq_eq_true h
set_option maxHeartbeats 8000000 in
set_option maxRecDepth 100000 in
/-- one instruction that neither calls nor answers -/
theorem si_step {call : Nat → List Value → si_M → Option si_O} {k : Nat → List Value → List Value → si_M → Option si_O} {o : si_O} {ret : Option FieldType} {pc len : Nat} {i : Instr} {xs : List Nat} {ci : Int32} {cL : Int64} {L st : List Value} {σ : si_M} {fr lo : Nat} {H : Heap} {locs : List Loc} {ls : Array Slot}
    (hcl : si_clok cl) (hsh : si_shok cl sh) (X : si_Ctx p s m args c D dA cl bs own mL) (hR : Nat.ble 1 fr = true → 1 ≤ R.frames) (hR2 : lo ≤ R.locals) (hRc : cells ≤ R.cells) (hRs : slots ≤ R.slots)
    (hk0 : ∀ L st σ, k 65535 L st σ = none)
    (hk : ∀ pc' L' st' σ' H' locs' ls', k pc' L' st' σ' = some o → si_At s D dA cl sz sh mL H0 σ' L' H' locs' ls' → W p l e R s m args below meth c H' locs' cells slots Q (F0 m pc' ls' (st'.map (si_v sz))))
    (hcS : ∀ n c' na rc tl, i = .invokestatic n → xs = c' :: na :: rc :: tl → tl.length ≠ 1 ∧ tl.length ≠ 2 → na ≤ st.length → si_cat (st.drop na) ≤ 8 → si_ret rc (call c' (st.take na).reverse σ) (fun st τ => k (pc + 3) L st τ) (st.drop na) = some o → W p l e R s m args below meth c H locs cells slots Q (F0 m pc ls (st.map (si_v sz))))
    (hcV : ∀ n c' na rc ct tl q cs, i = .invokevirtual n → xs = c' :: na :: rc :: ct :: tl → st[na]? = some (.ref q) → sh[q]? = some (.inl (ct, cs)) → si_cat (st.drop (na + 1)) ≤ 8 → si_ret rc (call c' (.ref q :: (st.take na).reverse) σ) (fun st τ => k (pc + 3) L st τ) (st.drop (na + 1)) = some o → W p l e R s m args below meth c H locs cells slots Q (F0 m pc ls (st.map (si_v sz))))
    (hend : (i = .ireturn ∨ i = .lreturn ∨ i = .return_) → si_ins ret sh (pc + len) i xs ci cL L st σ = some (.inl o) → W p l e R s m args below meth c H locs cells slots Q (F0 m pc ls (st.map (si_v sz))))
    (hd : decode bs pc = .ok (i, len)) (hlen : len = si_len i) (hok : si_iok mt cl own fr lo pc i xs ci cL = true)
    (A : si_At s D dA cl sz sh mL H0 σ L H locs ls) (h : si_drv call k (si_ins ret sh (pc + len) i xs ci cL L st σ) = some o) :
    W p l e R s m args below meth c H locs cells slots Q (F0 m pc ls (st.map (si_v sz))) := by
  obtain ⟨hx, hb, hml, hown, hts, hK, hNk⟩ := X
  obtain ⟨hL, hP, hS, hl⟩ := id A
  have hD := si_W_D dA sz sh σ
  subst hlen
  cases i with
  | iconst n =>
    exact lv_iconst hx hb hd (of_decide_eq_true hok) (hk _ _ _ _ _ _ _ h A)
  | bipush n =>
    exact lv_bipush hx hb hd (of_decide_eq_true hok) (hk _ _ _ _ _ _ _ h A)
  | sipush n =>
    exact lv_sipush hx hb hd (of_decide_eq_true hok) (hk _ _ _ _ _ _ _ h A)
  | lconst n =>
    exact lv_lconst hx hb hd (of_decide_eq_true hok) (hk _ _ _ _ _ _ _ h A)
  | ldc n =>
    simp only [si_iok, si_kok] at hok
    split at hok
    · exact lv_ldc hx hb hown (hts _ (si_wi_mem hok)) hd (hk _ _ _ _ _ _ _ h A)
    · cases hok
  | ldc_w n =>
    simp only [si_iok, si_kok] at hok
    split at hok
    · exact lv_ldcw hx hb hown (hts _ (si_wi_mem hok)) hd (hk _ _ _ _ _ _ _ h A)
    · cases hok
  | ldc2_w n =>
    simp only [si_iok, si_kok] at hok
    split at hok
    · exact lv_ldc2 hx hb hown (hts _ (si_wi_mem hok)) hd (hk _ _ _ _ _ _ _ h A)
    · cases hok
  | iload_n n =>
    simp only [si_ins, si_ldI] at h
    split at h
    · rename_i x hx2
      exact lv_iload_n hx hb hd rfl (si_L_get hl hx2 (fun _ e => by cases e)) (hk _ _ _ _ _ _ _ h A)
    · cases h
  | iload n =>
    simp only [si_ins, si_ldI] at h
    split at h
    · rename_i x hx2
      exact lv_iload hx hb hd (si_L_get hl hx2 (fun _ e => by cases e)) (hk _ _ _ _ _ _ _ h A)
    · cases h
  | lload_n n =>
    simp only [si_ins, si_ldL] at h
    split at h
    · rename_i x hx2
      exact lv_lload_n hx hb hd rfl (si_L_get hl hx2 (fun _ e => by cases e)) (hk _ _ _ _ _ _ _ h A)
    · cases h
  | lload n =>
    simp only [si_ins, si_ldL] at h
    split at h
    · rename_i x hx2
      exact lv_lload hx hb hd (si_L_get hl hx2 (fun _ e => by cases e)) (hk _ _ _ _ _ _ _ h A)
    · cases h
  | aload_n n =>
    simp only [si_ins, si_ldA] at h
    split at h
    · rename_i x hx2
      exact lv_aload_n hx hb hd rfl (si_L_get hl hx2 (fun _ e => by cases e)) (hk _ _ _ _ _ _ _ h A)
    · cases h
  | aload n =>
    simp only [si_ins, si_ldA] at h
    split at h
    · rename_i x hx2
      exact lv_aload hx hb hd (si_L_get hl hx2 (fun _ e => by cases e)) (hk _ _ _ _ _ _ _ h A)
    · cases h
  | istore_n n =>
    simp only [si_ins, si_stI] at h
    split at h
    · rename_i x r
      split at h
      · rename_i hlt
        exact lv_istore_n hx hb hd rfl hl (by rw [hL] at hlt; exact hlt) rfl (fun ls' hl' => hk _ _ _ _ _ _ _ h ⟨by simp [si_put1, si_off_len]; exact hL, hP, hS, si_L_put1 (fun _ e => by cases e) hl'⟩)
      · cases h
    · cases h
  | istore n =>
    simp only [si_ins, si_stI] at h
    split at h
    · rename_i x r
      split at h
      · rename_i hlt
        exact lv_istore hx hb hd hl (by rw [hL] at hlt; exact hlt) rfl (fun ls' hl' => hk _ _ _ _ _ _ _ h ⟨by simp [si_put1, si_off_len]; exact hL, hP, hS, si_L_put1 (fun _ e => by cases e) hl'⟩)
      · cases h
    · cases h
  | astore_n n =>
    simp only [si_ins, si_stA] at h
    split at h
    · rename_i x r
      split at h
      · rename_i hlt
        exact lv_astore_n hx hb hd rfl hl (by rw [hL] at hlt; exact hlt) rfl (fun ls' hl' => hk _ _ _ _ _ _ _ h ⟨by simp [si_put1, si_off_len]; exact hL, hP, hS, si_L_put1 (fun _ e => by cases e) hl'⟩)
      · cases h
    · cases h
  | astore n =>
    simp only [si_ins, si_stA] at h
    split at h
    · rename_i x r
      split at h
      · rename_i hlt
        exact lv_astore hx hb hd hl (by rw [hL] at hlt; exact hlt) rfl (fun ls' hl' => hk _ _ _ _ _ _ _ h ⟨by simp [si_put1, si_off_len]; exact hL, hP, hS, si_L_put1 (fun _ e => by cases e) hl'⟩)
      · cases h
    · cases h
  | lstore_n n =>
    simp only [si_ins, si_stL] at h
    split at h
    · rename_i x r
      split at h
      · rename_i hlt
        exact lv_lstore_n hx hb hd rfl hl (by rw [hL] at hlt; exact hlt) rfl (fun ls' hl' => hk _ _ _ _ _ _ _ h ⟨by simp [si_put2, si_off_len]; exact hL, hP, hS, si_L_put2 (fun _ e => by cases e) hl'⟩)
      · cases h
    · cases h
  | lstore n =>
    simp only [si_ins, si_stL] at h
    split at h
    · rename_i x r
      split at h
      · rename_i hlt
        exact lv_lstore hx hb hd hl (by rw [hL] at hlt; exact hlt) rfl (fun ls' hl' => hk _ _ _ _ _ _ _ h ⟨by simp [si_put2, si_off_len]; exact hL, hP, hS, si_L_put2 (fun _ e => by cases e) hl'⟩)
      · cases h
    · cases h
  | iinc n d =>
    simp only [si_ins] at h
    split at h
    · rename_i x hx2
      have hlt : (n : Nat) < mL := by rw [← hL]; exact (List.getElem?_eq_some_iff.mp hx2).1
      obtain ⟨q, hq⟩ := List.getElem?_of_mem (si_as_mem.mpr ⟨n, .int x, hx2, (fun _ e => by cases e), rfl⟩ : _ ∈ si_as sz 0 L)
      rw [Nat.zero_add] at hq
      have hci : Int32.ofInt d = ci := of_decide_eq_true hok
      exact lv_iinc hx hb hd hl hq (by rw [hci]) hlt rfl (fun ls' hl' => hk _ _ _ _ _ _ _ h ⟨by simp [si_put1, si_off_len]; exact hL, hP, hS, si_L_put1 (fun _ e => by cases e) hl'⟩)
    · cases h
  | iadd =>
    simp only [si_ins, si_i2] at h
    split at h
    · exact lv_iadd hx hb hd (hk _ _ _ _ _ _ _ h A)
    · cases h
  | isub =>
    simp only [si_ins, si_i2] at h
    split at h
    · exact lv_isub hx hb hd (hk _ _ _ _ _ _ _ h A)
    · cases h
  | imul =>
    simp only [si_ins, si_i2] at h
    split at h
    · exact lv_imul hx hb hd (hk _ _ _ _ _ _ _ h A)
    · cases h
  | iand =>
    simp only [si_ins, si_i2] at h
    split at h
    · exact lv_iand hx hb hd (hk _ _ _ _ _ _ _ h A)
    · cases h
  | ior =>
    simp only [si_ins, si_i2] at h
    split at h
    · exact lv_ior hx hb hd (hk _ _ _ _ _ _ _ h A)
    · cases h
  | ixor =>
    simp only [si_ins, si_i2] at h
    split at h
    · exact lv_ixor hx hb hd (hk _ _ _ _ _ _ _ h A)
    · cases h
  | ishl =>
    simp only [si_ins, si_i2] at h
    split at h
    · exact lv_ishl hx hb hd (hk _ _ _ _ _ _ _ h A)
    · cases h
  | ishr =>
    simp only [si_ins, si_i2] at h
    split at h
    · exact lv_ishr hx hb hd (hk _ _ _ _ _ _ _ h A)
    · cases h
  | iushr =>
    simp only [si_ins, si_i2] at h
    split at h
    · exact lv_iushr hx hb hd rfl (hk _ _ _ _ _ _ _ h A)
    · cases h
  | ladd =>
    simp only [si_ins, si_l2] at h
    split at h
    · exact lv_ladd hx hb hd (hk _ _ _ _ _ _ _ h A)
    · cases h
  | lsub =>
    simp only [si_ins, si_l2] at h
    split at h
    · exact lv_lsub hx hb hd (hk _ _ _ _ _ _ _ h A)
    · cases h
  | lmul =>
    simp only [si_ins, si_l2] at h
    split at h
    · exact lv_lmul hx hb hd (hk _ _ _ _ _ _ _ h A)
    · cases h
  | land =>
    simp only [si_ins, si_l2] at h
    split at h
    · exact lv_land hx hb hd (hk _ _ _ _ _ _ _ h A)
    · cases h
  | lor =>
    simp only [si_ins, si_l2] at h
    split at h
    · exact lv_lor hx hb hd (hk _ _ _ _ _ _ _ h A)
    · cases h
  | lxor =>
    simp only [si_ins, si_l2] at h
    split at h
    · exact lv_lxor hx hb hd (hk _ _ _ _ _ _ _ h A)
    · cases h
  | lshl =>
    simp only [si_ins, si_ls] at h
    split at h
    · exact lv_lshl hx hb hd rfl (hk _ _ _ _ _ _ _ h A)
    · cases h
  | lshr =>
    simp only [si_ins, si_ls] at h
    split at h
    · exact lv_lshr hx hb hd rfl (hk _ _ _ _ _ _ _ h A)
    · cases h
  | lushr =>
    simp only [si_ins, si_ls] at h
    split at h
    · exact lv_lushr hx hb hd rfl (hk _ _ _ _ _ _ _ h A)
    · cases h
  | idiv =>
    simp only [si_ins] at h
    split at h
    · obtain ⟨h1, h2⟩ := si_ifw hk0 h
      exact lv_idiv hx hb hd (by simpa using h1) (hk _ _ _ _ _ _ _ h2 A)
    · cases h
  | irem =>
    simp only [si_ins] at h
    split at h
    · obtain ⟨h1, h2⟩ := si_ifw hk0 h
      exact lv_irem hx hb hd (by simpa using h1) (hk _ _ _ _ _ _ _ h2 A)
    · cases h
  | lcmp =>
    simp only [si_ins] at h
    split at h
    · exact W.lcmp hx hb hd (hk _ _ _ _ _ _ _ h A)
    · cases h
  | i2l =>
    simp only [si_ins] at h
    split at h
    · exact lv_i2l hx hb hd rfl (hk _ _ _ _ _ _ _ h A)
    · cases h
  | l2i =>
    simp only [si_ins] at h
    split at h
    · exact lv_l2i hx hb hd rfl (hk _ _ _ _ _ _ _ h A)
    · cases h
  | dup =>
    simp only [si_ins] at h
    split at h
    · exact lv_dup hx hb hd rfl (hk _ _ _ _ _ _ _ h A)
    · exact lv_dup hx hb hd rfl (hk _ _ _ _ _ _ _ h A)
    · cases h
  | dup2 =>
    simp only [si_ins] at h
    split at h
    · exact lv_dup2_2 hx hb hd rfl (hk _ _ _ _ _ _ _ h A)
    · exact lv_dup2_11 hx hb hd rfl rfl (hk _ _ _ _ _ _ _ h A)
    · cases h
  | pop =>
    simp only [si_ins] at h
    split at h
    · exact lv_pop hx hb hd rfl (hk _ _ _ _ _ _ _ h A)
    · cases h
  | goto off =>
    simp only [si_ins] at h
    simp only [si_iok, si_tok] at hok
    split at h
    · exact lv_goto hx hb hd (of_decide_eq_true hok) (hk _ _ _ _ _ _ _ h A)
    · cases h
  | ifCond cnd off =>
    cases cnd with
    | eq =>
      simp only [si_ins, si_i1] at h
      simp only [si_iok, si_tok] at hok
      split at h
      · have hh := si_brw h
        exact lv_if_eq hx hb hd (of_decide_eq_true hok) (fun hc => hk _ _ _ _ _ _ _ (hh.1 (decide_eq_true hc)) A) (fun hc => hk _ _ _ _ _ _ _ (hh.2 (decide_eq_false hc)) A)
      · cases h
    | ne =>
      simp only [si_ins, si_i1] at h
      simp only [si_iok, si_tok] at hok
      split at h
      · have hh := si_brw h
        exact lv_if_ne hx hb hd (of_decide_eq_true hok) (fun hc => hk _ _ _ _ _ _ _ (hh.1 (by simpa using hc)) A) (fun hc => hk _ _ _ _ _ _ _ (hh.2 (by simpa using hc)) A)
      · cases h
    | lt =>
      simp only [si_ins, si_i1] at h
      simp only [si_iok, si_tok] at hok
      split at h
      · have hh := si_brw h
        exact lv_if_lt hx hb hd (of_decide_eq_true hok) (fun hc => hk _ _ _ _ _ _ _ (hh.1 (decide_eq_true hc)) A) (fun hc => hk _ _ _ _ _ _ _ (hh.2 (decide_eq_false hc)) A)
      · cases h
    | ge =>
      simp only [si_ins, si_i1] at h
      simp only [si_iok, si_tok] at hok
      split at h
      · have hh := si_brw h
        exact lv_if_ge hx hb hd (of_decide_eq_true hok) (fun hc => hk _ _ _ _ _ _ _ (hh.1 (decide_eq_true hc)) A) (fun hc => hk _ _ _ _ _ _ _ (hh.2 (decide_eq_false hc)) A)
      · cases h
    | gt =>
      simp only [si_ins, si_i1] at h
      simp only [si_iok, si_tok] at hok
      split at h
      · have hh := si_brw h
        exact lv_if_gt hx hb hd (of_decide_eq_true hok) (fun hc => hk _ _ _ _ _ _ _ (hh.1 (decide_eq_true hc)) A) (fun hc => hk _ _ _ _ _ _ _ (hh.2 (decide_eq_false hc)) A)
      · cases h
    | le =>
      simp only [si_ins, si_i1] at h
      simp only [si_iok, si_tok] at hok
      split at h
      · have hh := si_brw h
        exact lv_if_le hx hb hd (of_decide_eq_true hok) (fun hc => hk _ _ _ _ _ _ _ (hh.1 (decide_eq_true hc)) A) (fun hc => hk _ _ _ _ _ _ _ (hh.2 (decide_eq_false hc)) A)
      · cases h
  | if_icmp cnd off =>
    cases cnd with
    | eq =>
      simp only [si_ins, si_ic] at h
      simp only [si_iok, si_tok] at hok
      split at h
      · have hh := si_brw h
        exact lv_icmp_eq hx hb hd (of_decide_eq_true hok) (fun hc => hk _ _ _ _ _ _ _ (hh.1 (decide_eq_true hc)) A) (fun hc => hk _ _ _ _ _ _ _ (hh.2 (decide_eq_false hc)) A)
      · cases h
    | ne =>
      simp only [si_ins, si_ic] at h
      simp only [si_iok, si_tok] at hok
      split at h
      · have hh := si_brw h
        exact lv_icmp_ne hx hb hd (of_decide_eq_true hok) (fun hc => hk _ _ _ _ _ _ _ (hh.1 (by simpa using hc)) A) (fun hc => hk _ _ _ _ _ _ _ (hh.2 (by simpa using hc)) A)
      · cases h
    | lt =>
      simp only [si_ins, si_ic] at h
      simp only [si_iok, si_tok] at hok
      split at h
      · have hh := si_brw h
        exact lv_icmp_lt hx hb hd (of_decide_eq_true hok) (fun hc => hk _ _ _ _ _ _ _ (hh.1 (decide_eq_true hc)) A) (fun hc => hk _ _ _ _ _ _ _ (hh.2 (decide_eq_false hc)) A)
      · cases h
    | ge =>
      simp only [si_ins, si_ic] at h
      simp only [si_iok, si_tok] at hok
      split at h
      · have hh := si_brw h
        exact lv_icmp_ge hx hb hd (of_decide_eq_true hok) (fun hc => hk _ _ _ _ _ _ _ (hh.1 (decide_eq_true hc)) A) (fun hc => hk _ _ _ _ _ _ _ (hh.2 (decide_eq_false hc)) A)
      · cases h
    | gt =>
      simp only [si_ins, si_ic] at h
      simp only [si_iok, si_tok] at hok
      split at h
      · have hh := si_brw h
        exact lv_icmp_gt hx hb hd (of_decide_eq_true hok) (fun hc => hk _ _ _ _ _ _ _ (hh.1 (decide_eq_true hc)) A) (fun hc => hk _ _ _ _ _ _ _ (hh.2 (decide_eq_false hc)) A)
      · cases h
    | le =>
      simp only [si_ins, si_ic] at h
      simp only [si_iok, si_tok] at hok
      split at h
      · have hh := si_brw h
        exact lv_icmp_le hx hb hd (of_decide_eq_true hok) (fun hc => hk _ _ _ _ _ _ _ (hh.1 (decide_eq_true hc)) A) (fun hc => hk _ _ _ _ _ _ _ (hh.2 (decide_eq_false hc)) A)
      · cases h
  | getfield n =>
    simp only [si_ins] at h
    split at h
    · rename_i q r ct j w3
      split at h
      · rename_i ct2 cs hsk
        split at h
        · rename_i cc he hj
          have ect : ct2 = ct := Nat.eq_of_beq_eq_true he
          subst ect
          simp only [si_iok, si_fok] at hok
          obtain ⟨C, T, hc, hty⟩ := hsh q ct2 cs hsk
          rw [hc] at hok
          simp only [Bool.and_eq_true] at hok
          obtain ⟨hin, -⟩ := hcl ct2 C T cs.length hc
          have hlt : j < cs.length := (List.getElem?_eq_some_iff.mp hj).1
          exact va_get hx hb hts hin hown hK hP q (si_P_O (H := H) hsk) hc j hlt (hts _ (si_wi_mem hok.1.2)) (fun _ h9 => h9) (by have e9 := (List.getElem?_eq_some_iff.mp hj).2; simp [hlt, e9]) hd (hk _ _ _ _ _ _ _ h A)
        · cases h
      · cases h
    · cases h
  | putfield n =>
    simp only [si_ins] at h
    split at h
    · rename_i v q r ct j w3
      split at h
      · rename_i ct2 cs hsk
        split at h
        · rename_i he hj
          have ect : ct2 = ct := Nat.eq_of_beq_eq_true he
          subst ect
          simp only [si_iok, si_fok] at hok
          obtain ⟨C, T, hc, hty⟩ := hsh q ct2 cs hsk
          rw [hc] at hok
          simp only [Bool.and_eq_true] at hok
          obtain ⟨hin, ⟨ty0, hty0⟩, hnm⟩ := hcl ct2 C T cs.length hc
          have hlt : j < cs.length := (List.getElem?_eq_some_iff.mp hj).1
          exact va_put hx hb hts hin ty0 hty0 hnm hown hK hP hD hS q (si_P_O (H := H) hsk) hc j hlt (hts _ (si_wi_mem hok.1.2)) (fun _ h9 => h9) (by simpa using hok.2) (ty := .int) (hty j _ hj) rfl rfl (by simp [hlt]) hd (fun H' locs' hP' hD' hS' => hk _ _ _ _ _ _ _ h ⟨hL, by
              rw [si_flds (τ := si_sI σ q j v) hlt (by simp [hj, si_pv, si_v, si_sI]) (fun a b hab => by unfold si_pv; split <;> simp [si_sI, hab])] at hP'
              rw [si_W_set (dA := dA) (sz := sz) (σ := σ) (τ := si_sI σ q j v) (x := .inr (ct2, List.map (fun i => si_v sz (si_pv (si_sI σ q j v) q i (cs.getD i 0))) (List.range cs.length))) hsk rfl (fun a d had => si_ce_ne (si_sI_o σ had j v).1 (si_sI_o σ had j v).2 d)] at hP'
              exact hP', hS', hl⟩)
        · rename_i he hj
          have ect : ct2 = ct := Nat.eq_of_beq_eq_true he
          subst ect
          simp only [si_iok, si_fok] at hok
          obtain ⟨C, T, hc, hty⟩ := hsh q ct2 cs hsk
          rw [hc] at hok
          simp only [Bool.and_eq_true] at hok
          obtain ⟨hin, ⟨ty0, hty0⟩, hnm⟩ := hcl ct2 C T cs.length hc
          have hlt : j < cs.length := (List.getElem?_eq_some_iff.mp hj).1
          obtain ⟨hv, h⟩ := si_ifw hk0 h
          have hv2 : v = 0 ∨ v = 1 := by simpa using hv
          exact va_put hx hb hts hin ty0 hty0 hnm hown hK hP hD hS q (si_P_O (H := H) hsk) hc j hlt (hts _ (si_wi_mem hok.1.2)) (fun _ h9 => h9) (by simpa using hok.2) (ty := .boolean) (hty j _ hj) (by rcases hv2 with rfl | rfl <;> rfl) (by rcases hv2 with rfl | rfl <;> rfl) (by simp [hlt]) hd (fun H' locs' hP' hD' hS' => hk _ _ _ _ _ _ _ h ⟨hL, by
              rw [si_flds (τ := si_sI σ q j v) hlt (by simp [hj, si_pv, si_v, si_sI]) (fun a b hab => by unfold si_pv; split <;> simp [si_sI, hab])] at hP'
              rw [si_W_set (dA := dA) (sz := sz) (σ := σ) (τ := si_sI σ q j v) (x := .inr (ct2, List.map (fun i => si_v sz (si_pv (si_sI σ q j v) q i (cs.getD i 0))) (List.range cs.length))) hsk rfl (fun a d had => si_ce_ne (si_sI_o σ had j v).1 (si_sI_o σ had j v).2 d)] at hP'
              exact hP', hS', hl⟩)
        · cases h
      · cases h
    · rename_i v q r ct j w3
      split at h
      · rename_i ct2 cs hsk
        split at h
        · rename_i he hj
          have ect : ct2 = ct := Nat.eq_of_beq_eq_true he
          subst ect
          simp only [si_iok, si_fok] at hok
          obtain ⟨C, T, hc, hty⟩ := hsh q ct2 cs hsk
          rw [hc] at hok
          simp only [Bool.and_eq_true] at hok
          obtain ⟨hin, ⟨ty0, hty0⟩, hnm⟩ := hcl ct2 C T cs.length hc
          have hlt : j < cs.length := (List.getElem?_eq_some_iff.mp hj).1
          exact va_put hx hb hts hin ty0 hty0 hnm hown hK hP hD hS q (si_P_O (H := H) hsk) hc j hlt (hts _ (si_wi_mem hok.1.2)) (fun _ h9 => h9) (by simpa using hok.2) (ty := .long) (hty j _ hj) rfl rfl (by simp [hlt]) hd (fun H' locs' hP' hD' hS' => hk _ _ _ _ _ _ _ h ⟨hL, by
              rw [si_flds (τ := si_sJ σ q j v) hlt (by simp [hj, si_pv, si_v, si_sJ]) (fun a b hab => by unfold si_pv; split <;> simp [si_sJ, hab])] at hP'
              rw [si_W_set (dA := dA) (sz := sz) (σ := σ) (τ := si_sJ σ q j v) (x := .inr (ct2, List.map (fun i => si_v sz (si_pv (si_sJ σ q j v) q i (cs.getD i 0))) (List.range cs.length))) hsk rfl (fun a d had => si_ce_ne (si_sJ_o σ had j v).1 (si_sJ_o σ had j v).2 d)] at hP'
              exact hP', hS', hl⟩)
        · cases h
      · cases h
    · cases h
  | iaload =>
    simp only [si_ins] at h
    split at h
    · split at h
      · rename_i n hsk
        obtain ⟨h1, h2⟩ := si_ifw hk0 h
        exact va_iald hx hb hK hP _ 0 (si_P_I (H := H) hsk) rfl (si_in_vp h1) hd (hk _ _ _ _ _ _ _ h2 A)
      · cases h
    · cases h
  | laload =>
    simp only [si_ins] at h
    split at h
    · split at h
      · rename_i n hsk
        obtain ⟨h1, h2⟩ := si_ifw hk0 h
        exact va_lald hx hb hK hP _ 1 (si_P_J (H := H) hsk) rfl (si_in_vp h1) hd (hk _ _ _ _ _ _ _ h2 A)
      · cases h
    · cases h
  | iastore =>
    simp only [si_ins] at h
    split at h
    · rename_i v j q r
      split at h
      · rename_i n hsk
        obtain ⟨h1, h2⟩ := si_ifw hk0 h
        exact va_iast hx hb hK hP hD hS q 0 (si_P_I (H := H) hsk) rfl (si_in_vp h1) hd (fun H' locs' hP' hD' hS' => hk _ _ _ _ _ _ _ h2 ⟨hL, by
          rw [si_W_set (τ := si_sI σ q j.toNatClampNeg v) hsk (by simp only [si_ce, si_sI_row]) (fun a d had => si_ce_ne (si_sI_o σ had _ v).1 (si_sI_o σ had _ v).2 d)] at hP'
          exact hP', hS', hl⟩)
      · cases h
    · cases h
  | lastore =>
    simp only [si_ins] at h
    split at h
    · rename_i v j q r
      split at h
      · rename_i n hsk
        obtain ⟨h1, h2⟩ := si_ifw hk0 h
        exact va_last hx hb hK hP hD hS q 1 (si_P_J (H := H) hsk) rfl (si_in_vp h1) hd (fun H' locs' hP' hD' hS' => hk _ _ _ _ _ _ _ h2 ⟨hL, by
          rw [si_W_set (τ := si_sJ σ q j.toNatClampNeg v) hsk (by simp only [si_ce, si_sJ_row]) (fun a d had => si_ce_ne (si_sJ_o σ had _ v).1 (si_sJ_o σ had _ v).2 d)] at hP'
          exact hP', hS', hl⟩)
      · cases h
    · cases h
  | arraylength =>
    simp only [si_ins] at h
    split at h
    · rename_i q r
      split at h
      · rename_i b n hsk
        cases b
        · exact va_alen hx hb hK hP q 0 (si_P_I (H := H) hsk) rfl rfl hd (hk _ _ _ _ _ _ _ h A)
        · exact va_alen hx hb hK hP q 1 (si_P_J (H := H) hsk) rfl rfl hd (hk _ _ _ _ _ _ _ h A)
      · cases h
    · cases h
  | ireturn =>
    generalize hins : si_ins ret sh _ _ xs ci cL L st σ = d at h
    have hd3 : ∃ o2, d = some (.inl o2) := by
      rw [← hins] at h ⊢
      simp only [si_ins] at h ⊢
      split at h <;> first | exact ⟨_, rfl⟩ | cases h
    obtain ⟨o2, rfl⟩ := hd3
    have h9 : some o2 = some o := h
    cases h9
    exact hend (by simp) hins
  | lreturn =>
    generalize hins : si_ins ret sh _ _ xs ci cL L st σ = d at h
    have hd3 : ∃ o2, d = some (.inl o2) := by
      rw [← hins] at h ⊢
      simp only [si_ins] at h ⊢
      split at h <;> first | exact ⟨_, rfl⟩ | cases h
    obtain ⟨o2, rfl⟩ := hd3
    have h9 : some o2 = some o := h
    cases h9
    exact hend (by simp) hins
  | return_ =>
    generalize hins : si_ins ret sh _ _ xs ci cL L st σ = d at h
    have hd3 : ∃ o2, d = some (.inl o2) := by
      rw [← hins] at h ⊢
      simp only [si_ins] at h ⊢
      split at h <;> first | exact ⟨_, rfl⟩ | cases h
    obtain ⟨o2, rfl⟩ := hd3
    have h9 : some o2 = some o := h
    cases h9
    exact hend (by simp) hins
  | invokestatic n =>
    simp only [si_iok] at hok
    generalize hins : si_ins ret sh _ _ xs ci cL L st σ = d at h
    simp only [si_ins] at hins
    split at hins
    · rename_i w1 w2 w3 w4
      split at hins
      · rename_i cnt dp k1 sp k0 r
        split at hins
        · rename_i n0 n1 h0 h1
          subst hins
          obtain ⟨ht, h2⟩ := si_ifw hk0 h
          simp only [Bool.and_eq_true, decide_eq_true_eq] at ht
          obtain ⟨⟨⟨⟨⟨t1, t2⟩, t3⟩, t4⟩, t5⟩, t6⟩ := ht
          simp only [si_cok, Bool.and_eq_true] at hok
          obtain ⟨⟨⟨⟨⟨q1, q2⟩, q3⟩, q4⟩, q5⟩, q6⟩ := hok
          have e6 : si_cat r ≤ 8 := Nat.le_of_ble_eq_true t6
          have e7 : 8 + (nativeFrameWords "java/lang/System" "arraycopy" 5 + 11) ≤ lo := Nat.le_of_ble_eq_true q6
          have e8 : ((r.map (si_v sz)).map fun v => v.category).sum = si_cat r := by
            unfold si_cat
            rw [List.map_map]
            congr 1
            apply List.map_congr_left
            intro a _
            exact si_v_cat sz a
          exact va_copyl hx hb (by rw [hml]; exact hl.1.symm) hown (hts _ (si_wi_mem q1)) (hts _ (si_wi_mem q2)) (hts _ (si_wi_mem q3)) (hts _ (si_wi_mem q4)) hK hP hD hS k0 k1 1 1 (si_P_J (H := H) h0) (si_P_J (H := H) h1) rfl rfl rfl (Int32.not_lt.mpr t1) (Int32.not_lt.mpr t2) (Int32.not_lt.mpr t3) t4 t5 (fun _ _ => rfl) (hR q5) (by rw [e8]; omega) hd (fun H' locs' hP' hD' hS' => hk _ _ _ _ _ _ _ h2 ⟨hL, by
            rw [si_W_set (τ := si_sA σ k1 (va_cpy (σ.2 k0) (σ.2 k1) sp.toNatClampNeg dp.toNatClampNeg cnt.toNatClampNeg)) h1 (by simp only [si_ce, si_sA_row]) (fun a d had => si_ce_ne (si_sA_o σ had _).1 (si_sA_o σ had _).2 d)] at hP'
            exact hP', hS', hl⟩)
        · subst hins; cases h
      · subst hins; cases h
    · rename_i w1 w2 w3 w4 w5
      split at hins
      · rename_i y9 x9 r9
        subst hins
        obtain ⟨ht, h2⟩ := si_ifw hk0 h
        simp only [si_cok, Bool.and_eq_true] at hok
        obtain ⟨⟨⟨⟨⟨q1, q2⟩, q3⟩, q4⟩, q5⟩, q6⟩ := hok
        have e6 : si_cat r9 ≤ 8 := Nat.le_of_ble_eq_true ht
        have e7 : 21 ≤ lo := Nat.le_of_ble_eq_true q6
        have e8 : ((r9.map (si_v sz)).map fun v => v.category).sum = si_cat r9 := by
          unfold si_cat
          rw [List.map_map]
          congr 1
          apply List.map_congr_left
          intro a _
          exact si_v_cat sz a
        exact va_mmin hx hb (by rw [hml]; exact hl.1.symm) hown (hts _ (si_wi_mem q1)) (hts _ (si_wi_mem q2)) (hts _ (si_wi_mem q3)) (hts _ (si_wi_mem q4)) (hR q5) (by rw [e8]; omega) hRc hRs hd (hk _ _ _ _ _ _ _ h2 A)
      · subst hins; cases h
    · rename_i c2 na rc tl hne hne2
      split at hins
      · rename_i hb2
        subst hins
        rw [Bool.and_eq_true] at hb2
        exact hcS _ _ _ _ _ rfl rfl ⟨fun e1 => by obtain ⟨z, rfl⟩ := List.length_eq_one_iff.mp e1; exact hne _ rfl, (fun e1 => by match tl, e1, hne2 with | [z1, z2], _, hne2 => exact hne2 _ _ rfl)⟩ (Nat.le_of_ble_eq_true hb2.1) (Nat.le_of_ble_eq_true hb2.2) h
      · subst hins; cases h
    · subst hins; cases h
  | invokevirtual n =>
    simp only [si_ins] at h
    split at h
    · rename_i c2 na rc ct tl
      split at h
      · rename_i q hq
        split at h
        · rename_i ct2 cs hsk
          split at h
          · rename_i hb2
            rw [Bool.and_eq_true] at hb2
            have ect : ct2 = ct := Nat.eq_of_beq_eq_true hb2.1
            subst ect
            exact hcV _ _ _ _ _ _ _ _ rfl rfl hq hsk (Nat.le_of_ble_eq_true hb2.2) h
          · cases h
        · cases h
      · cases h
    · cases h
  | _ => cases h
end SIM
