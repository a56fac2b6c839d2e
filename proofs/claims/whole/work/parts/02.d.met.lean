/-! CALLS AND ANSWERS: the contract of every method out of the pure machine's run -/
theorem si_zret {p : Program} {l : Launch} {e : Env} {R : Room} {s : State} {m : MethodId} {args : Array Value} {below : List Frame} {meth : Method} {c : Code} {H : Heap} {locs : List Loc} {cells slots : Nat} {cc : ByteArray} {Qc : Array Value → State → Outcome → State → Prop} {free : Addr → Prop} {v v2 : Int32} {ty : FieldType} (hexec : p.tables.exec = Jvm.exec) (hb : c.code = cc) (hr : meth.sig.returnType = some ty) (hn : narrow ty (.int v) = .int v2)
    (hq : ∀ t : State, t.heap = H → s.WarmedH t.vm → Qc args s (.returned (some (.int v2))) t) (hf : ∀ q ∈ locs, free q.base)
    {pc : Nat} {ls : Array Slot} (hdg : decode cc pc = .ok (.ireturn, 1)) (hlocks : meth.locks = false) : W p l e R s m args below meth c H locs cells slots (MQ below Qc args s cells slots free) (F0 m pc ls [.int v]) := by
  intro T hT X
  have hlocks : meth.locks = false := hlocks
  obtain ⟨fs, hret, hrun, hended, hW, hframe⟩ := X.leave (v := some (.int v2)) (fun h => by rw [hr] at h; cases h)
  have hmeth' : T.vm.method? m = some meth := X.method'
  refine ⟨T.setFrames fs, ?_, .returned (some (.int v2)), hrun, hended, hq _ hT hW, locs, ⟨⟨_, rfl⟩, hW, hframe⟩, hf⟩
  jvm_step X.here [X.here.top, hexec, hb, hdg, hmeth', hr, hn]
  (try refine ⟨rfl, ?_⟩); (try refine ⟨rfl, ?_⟩)
  first | (intro acts; rw [hret _ acts rfl rfl rfl]) | rw [hret _ _ rfl rfl rfl]
  exact Steps.refl _
theorem si_catm (sz : Nat) (r : List Value) : ((r.map (si_v sz)).map fun v => v.category).sum = si_cat r := by
  unfold si_cat
  rw [List.map_map]
  congr 1
  apply List.map_congr_left
  intro a _
  exact si_v_cat sz a
theorem si_goodw (hg : si_good) {y : MethodName} {bs : ByteArray} {mL : Nat} {ret : Option FieldType} (h : Jvm.Cond.code y bs mL ret ∈ si_tb) : GoodIn si_tb (Jvm.Cond.code y bs mL ret :: si_tb) := by
  intro w hw
  rcases List.mem_cons.mp hw with rfl | hw
  · exact ⟨h, hg _ h⟩
  · exact ⟨hw, hg _ hw⟩
theorem si_K_blind {D : va_G} {dA : Bool → ClassId} {cl : List vw_C} {sz : Nat} {sh : List si_kd} {as : List Value} {σ : si_M} : FrameBlind (si_Pc D dA cl sz sh as σ) := by
  intro a U g mk q
  obtain ⟨q0, q1, q2, q3⟩ := q
  exact ⟨q0, q1, va_K.moved (u := U) (U := U.calling g mk a) (Vm.Alike.refl U.vm) q2, si_Nk.same (u := U) rfl q3⟩
theorem si_npw {y : MethodName} {n : Nat} (h : si_np y n = true) : y.cls ≠ "java/lang/invoke/MethodHandle" ∧ y.cls ≠ "java/lang/invoke/VarHandle" ∧ (parseMethodDescriptor y.desc).map (fun d => d.parameters.length) = some n := by
  unfold si_np at h
  rw [Bool.and_eq_true] at h
  have h1 := of_decide_eq_true h.1
  exact ⟨h1.1, h1.2, of_decide_eq_true h.2⟩
theorem si_retw {rc : Nat} {x : Option si_O} {k : List Value → si_M → Option si_O} {r : List Value} {o : si_O} (h : si_ret rc x k r = some o) : ∃ o2 : si_O, x = some o2 ∧ k (o2.1.toList ++ r) o2.2 = some o := by
  unfold si_ret si_cv si_ci si_cl at h
  split at h
  · split at h
    · exact ⟨_, rfl, h⟩
    · cases h
  · split at h
    · exact ⟨_, rfl, h⟩
    · cases h
  · split at h
    · exact ⟨_, rfl, h⟩
    · cases h
  · cases h
def si_Met (l : Launch) (D : va_G) (dA : Bool → ClassId) (cl : List vw_C) (sz : Nat) (P : si_P) (n : Nat) : Prop :=
  ∀ (m : Nat) (y : MethodName) (bs : ByteArray) (mL : Nat) (ret : Option FieldType) (fr lo : Nat) (rows : List si_row), P.1[m]? = some (y, bs, mL, ret, fr, lo, rows) → ∀ (as : List Value) (σ : si_M) (o : si_O), (si_lay as).length ≤ mL → si_run P n m 0 (si_ent mL as) [] σ = some o →
    Met l y (Jvm.Cond.code y bs mL ret :: si_tb) (si_rm fr lo) (si_Pc D dA cl sz P.2 as σ) (si_Qc D dA cl sz P.2 o) 0 0 (si_fr sz)
def si_call (P : si_P) (n : Nat) : Nat → List Value → si_M → Option si_O := fun c as τ => match P.1[c]? with
  | none => none
  | some (_, _, mL, _) => match Nat.ble (si_lay as).length mL with
    | true => si_run P n c 0 (si_ent mL as) [] τ
    | false => none
section MET
variable {p : Program} {l : Launch} {e : Env} {s : State} {m : MethodId} {args : Array Value} {below : List Frame} {meth : Method} {c : Code} {D : va_G} {dA : Bool → ClassId} {cl : List vw_C} {sz : Nat} {P : si_P} {R : Room} {cells slots : Nat} {Q : State → Prop} {bs : ByteArray} {own : String} {mL : Nat} {H0 : Heap} {H : Heap} {locs : List Loc} {ls : Array Slot}
set_option maxHeartbeats 4000000 in
theorem si_stat (hg : si_good) {n : Nat} (hM : si_Met l D dA cl sz P n) (X : si_Ctx p s m args c D dA cl bs own mL) {pc idx c2 na rc fr lo : Nat} {tl : List Nat} {st L : List Value} {σ : si_M} {o : si_O} {k : List Value → si_M → Option si_O} (hfr : fr ≤ R.frames) (hlo : lo ≤ R.locals) (hce : cells ≤ R.cells) (hsl : slots ≤ R.slots)
    (htl : tl.length ≠ 1 ∧ tl.length ≠ 2) (hok : si_cok P.1 cl own fr lo idx (c2 :: na :: rc :: tl) false = true) (hna : na ≤ st.length) (hcat : si_cat (st.drop na) ≤ 8) (h : si_ret rc (si_call P n c2 (st.take na).reverse σ) k (st.drop na) = some o) (A : si_At s D dA cl sz P.2 mL H0 σ L H locs ls) (hd : decode bs pc = .ok (.invokestatic idx, 3))
    (hk : ∀ st' σ' H' locs' ls', k st' σ' = some o → si_At s D dA cl sz P.2 mL H0 σ' L H' locs' ls' → W p l e R s m args below meth c H' locs' cells slots Q (F0 m (pc + 3) ls' (st'.map (si_v sz)))) : W p l e R s m args below meth c H locs cells slots Q (F0 m pc ls (st.map (si_v sz))) := by
  obtain ⟨hx, hb, hml, hown, hts, hK, hNk⟩ := X
  obtain ⟨hL, hP, hS, hl⟩ := A
  obtain ⟨o2, h1, h2⟩ := si_retw h
  unfold si_call at h1
  unfold si_cok at hok
  split at hok
  · rename_i hw
    cases hw
    exact absurd rfl htl.1
  · rename_i hw
    cases hw
    exact absurd rfl htl.2
  · rename_i w1 w2 w3 w4 hw
    cases hw
    split at hok
    · rename_i y bs2 mL2 ret2 fr2 lo2 rows hmt
      rw [hmt] at h1
      dsimp only at h1
      split at h1
      · rename_i hle
        simp only [Bool.and_eq_true] at hok
        obtain ⟨⟨⟨⟨⟨⟨q1, q2⟩, q3⟩, q4⟩, q5⟩, q6⟩, q7⟩ := hok
        have e6 : fr2 + 1 ≤ fr := Nat.le_of_ble_eq_true q6
        have e7 : 8 + (mL2 + 11) + lo2 ≤ lo := Nat.le_of_ble_eq_true q7
        have hMet := hM c2 y bs2 mL2 ret2 fr2 lo2 rows hmt _ _ _ (Nat.le_of_ble_eq_true hle) h1
        have hcw : Jvm.Cond.code y bs2 mL2 ret2 ∈ si_tb := si_wi_mem q4
        have hst : (st.map (si_v sz)) = ((st.take na).reverse.map (si_v sz)).reverse ++ (st.drop na).map (si_v sz) := by
          rw [← List.map_reverse, List.reverse_reverse, ← List.map_append, List.take_append_drop]
        have hpre : PreS s H (si_Pc D dA cl sz P.2 (st.take na).reverse σ) ((st.take na).reverse.map (si_v sz)) := ⟨si_K_blind, fun U hU hW => ⟨rfl, by rw [hU]; exact hP, va_K.moved hW.alike hK, hNk.warm hW⟩⟩
        have hlen : ((st.take na).reverse.map (si_v sz)).length = na := by simp; omega
        rw [hst]
        have go : ∀ (H1 : Heap) (locs1 : List Loc), va_P D cl (si_W dA sz P.2 o2.2) H1 → va_S (fun q => sz ≤ q) H0 H1 locs1 → W p l e R s m args below meth c H1 locs1 cells slots Q (F0 m (pc + 3) ls ((o2.1.map (si_v sz)).toList ++ (st.drop na).map (si_v sz))) := by
          intro H1 locs1 hP1 hS1
          have hh := hk _ _ H1 locs1 ls h2 ⟨hL, hP1, hS1, hl⟩
          rw [List.map_append] at hh
          cases h9 : o2.1 with
          | none => rw [h9] at hh; exact hh
          | some v => rw [h9] at hh; exact hh
        rcases si_lk_mem q1 with hlk | ⟨host, hlk⟩
        · refine si_goes (va_runS ⟨hx, hb, hml, hown, hts⟩ hMet ⟨callB_of na hts (si_goodw hg hcw) rfl rfl rfl (hts _ (si_wi_mem q3)) (hts _ hlk) (si_npw q5) ⟨?_, ?_⟩, hts _ (si_wi_mem q2)⟩ hpre rfl hlen hl.1 rfl ?_ hd ⟨hce, hsl⟩) hS go
          · exact Nat.le_trans e6 hfr
          · exact Nat.le_trans e7 hlo
          · exact lv_room (m := m) (pc := pc) (ls := ls) (rest := []) (by rw [si_catm]; exact hcat)
        · refine si_goes (va_runSN (host := host) ⟨hx, hb, hml, hown, hts⟩ hMet ⟨va_cnB na hts (si_goodw hg hcw) rfl rfl rfl ?_ (hts _ (si_wi_mem q3)) (si_npw q5) ⟨?_, ?_⟩, hts _ (si_wi_mem q2), trivial⟩ hpre rfl hlen hl.1 rfl ?_ hd ⟨hce, hsl⟩) hS go
          · exact hNk _ hlk
          · exact Nat.le_trans e6 hfr
          · exact Nat.le_trans e7 hlo
          · exact lv_room (m := m) (pc := pc) (ls := ls) (rest := []) (by rw [si_catm]; exact hcat)
      · cases h1
    · cases hok
  · exact absurd ‹false = true› (by decide)
  · cases hok
set_option maxHeartbeats 4000000 in
theorem si_virt (hg : si_good) {n : Nat} (hM : si_Met l D dA cl sz P n) (X : si_Ctx p s m args c D dA cl bs own mL) {pc idx c2 na rc ct q fr lo : Nat} {tl cs : List Nat} {st L : List Value} {σ : si_M} {o : si_O} {k : List Value → si_M → Option si_O} (hfr : fr ≤ R.frames) (hlo : lo ≤ R.locals) (hce : cells ≤ R.cells) (hsl : slots ≤ R.slots)
    (hok : si_cok P.1 cl own fr lo idx (c2 :: na :: rc :: ct :: tl) true = true) (hna : st[na]? = some (.ref q)) (hsk : P.2[q]? = some (.inl (ct, cs))) (hcat : si_cat (st.drop (na + 1)) ≤ 8) (h : si_ret rc (si_call P n c2 (.ref q :: (st.take na).reverse) σ) k (st.drop (na + 1)) = some o) (A : si_At s D dA cl sz P.2 mL H0 σ L H locs ls) (hd : decode bs pc = .ok (.invokevirtual idx, 3))
    (hk : ∀ st' σ' H' locs' ls', k st' σ' = some o → si_At s D dA cl sz P.2 mL H0 σ' L H' locs' ls' → W p l e R s m args below meth c H' locs' cells slots Q (F0 m (pc + 3) ls' (st'.map (si_v sz)))) : W p l e R s m args below meth c H locs cells slots Q (F0 m pc ls (st.map (si_v sz))) := by
  obtain ⟨hx, hb, hml, hown, hts, hK, hNk⟩ := X
  obtain ⟨hL, hP, hS, hl⟩ := A
  obtain ⟨o2, h1, h2⟩ := si_retw h
  unfold si_call at h1
  unfold si_cok at hok
  split at hok
  · exact absurd ‹true = false› (by decide)
  · exact absurd ‹true = false› (by decide)
  · exact absurd ‹true = false› (by decide)
  · rename_i w1 w2 w3 w4 w5 hw
    cases hw
    split at hok
    · rename_i y bs2 mL2 ret2 fr2 lo2 rows C T N hmt hct
      rw [hmt] at h1
      dsimp only at h1
      split at h1
      · rename_i hle
        simp only [Bool.and_eq_true] at hok
        obtain ⟨⟨⟨⟨⟨⟨⟨⟨q0, q1⟩, q2⟩, q3⟩, q4⟩, q5⟩, q6⟩, q7⟩, q8⟩ := hok
        have e0 : y.cls = C := of_decide_eq_true q0
        have e7 : fr2 + 1 ≤ fr := Nat.le_of_ble_eq_true q7
        have e8 : 8 + (mL2 + 11) + lo2 ≤ lo := Nat.le_of_ble_eq_true q8
        have hMet := hM c2 y bs2 mL2 ret2 fr2 lo2 rows hmt _ _ _ (Nat.le_of_ble_eq_true hle) h1
        have hcw : Jvm.Cond.code y bs2 mL2 ret2 ∈ si_tb := si_wi_mem q4
        have hnl : na < st.length := (List.getElem?_eq_some_iff.mp hna).1
        have hst : (st.map (si_v sz)) = ((st.take na).reverse.map (si_v sz)).reverse ++ .ref (sz + q) :: (st.drop (na + 1)).map (si_v sz) := by
          have e1 : st = st.take na ++ (.ref q :: st.drop (na + 1)) := by
            have e2 : st.drop na = .ref q :: st.drop (na + 1) := by
              rw [List.drop_eq_getElem_cons hnl]
              rw [(List.getElem?_eq_some_iff.mp hna).2]
            rw [← e2, List.take_append_drop]
          rw [← List.map_reverse, List.reverse_reverse]
          conv => lhs; rw [e1]
          rw [List.map_append]
          rfl
        have hpre : PreV s H y.cls (sz + q) (si_Pc D dA cl sz P.2 (.ref q :: (st.take na).reverse) σ) ((st.take na).reverse.map (si_v sz)) := ⟨si_K_blind, by rw [e0]; exact va_recv hK hP hct (si_W_at hsk), fun U hU hW => ⟨rfl, by rw [hU]; exact hP, va_K.moved hW.alike hK, hNk.warm hW⟩⟩
        have hlen : ((st.take na).reverse.map (si_v sz)).length = na := by simp; omega
        rw [hst]
        have go : ∀ (H1 : Heap) (locs1 : List Loc), va_P D cl (si_W dA sz P.2 o2.2) H1 → va_S (fun q => sz ≤ q) H0 H1 locs1 → W p l e R s m args below meth c H1 locs1 cells slots Q (F0 m (pc + 3) ls ((o2.1.map (si_v sz)).toList ++ (st.drop (na + 1)).map (si_v sz))) := by
          intro H1 locs1 hP1 hS1
          have hh := hk _ _ H1 locs1 ls h2 ⟨hL, hP1, hS1, hl⟩
          rw [List.map_append] at hh
          cases h9 : o2.1 with
          | none => rw [h9] at hh; exact hh
          | some v => rw [h9] at hh; exact hh
        refine si_goes (va_runV ⟨hx, hb, hml, hown, hts⟩ hMet ⟨callB_of na hts (si_goodw hg hcw) rfl rfl rfl (hts _ (si_wi_mem q3)) (hts _ (si_wi_mem q1)) (si_npw q6) ⟨?_, ?_⟩, hts _ (si_wi_mem q2), hts _ (si_wi_mem q5)⟩ hpre rfl hlen hl.1 rfl ?_ hd ⟨hce, hsl⟩) hS go
        · exact Nat.le_trans e7 hfr
        · exact Nat.le_trans e8 hlo
        · exact lv_room (m := m) (pc := pc) (ls := ls) (rest := []) (by rw [si_catm]; exact hcat)
      · cases h1
    · cases hok
  · cases hok
end MET
/-- what stands at a place that no row has -/
theorem si_get_row {rows : List si_row} {pc : Nat} {r : si_row} (h : si_get rows pc = some r) : r ∈ rows ∧ r.1 = pc := by
  induction rows with
  | nil => cases h
  | cons a rs ih =>
    unfold si_get at h
    split at h
    · rename_i hb
      cases h
      exact ⟨List.mem_cons_self, Nat.eq_of_beq_eq_true hb⟩
    · exact ⟨List.mem_cons_of_mem _ (ih h).1, (ih h).2⟩
theorem si_lg_lay (vs : List Value) (sz : Nat) : (lg_sl (vs.map (si_v sz))).length = (lg_sl vs).length := by
  induction vs with
  | nil => rfl
  | cons v vs ih =>
    have e : ∀ (w : Value) (ws : List Value), lg_sl (w :: ws) = (if w.category = 2 then [.val w, .second] else [.val w]) ++ lg_sl ws := fun w ws => by simp [lg_sl]
    rw [List.map_cons, e, e, List.length_append, List.length_append, ih, si_v_cat]
    split <;> rfl
theorem si_lay_len {vs : List Value} : (si_lay vs).length = (lg_sl vs).length := by
  induction vs with
  | nil => rfl
  | cons v vs ih =>
    have e : lg_sl (v :: vs) = (if v.category = 2 then [.val v, .second] else [.val v]) ++ lg_sl vs := by simp [lg_sl]
    rw [e]
    cases v <;> simp_all [si_lay, Value.category] <;> omega
theorem si_ent_as {sz n : Nat} {vs : List Value} : ∀ q ∈ si_as sz 0 (si_ent n vs), q ∈ lv_args 0 (vs.map (si_v sz)) := by
  have rep : ∀ (r i : Nat), si_as sz i (List.replicate r si_U) = [] := by
    intro r
    induction r with
    | zero => intro i; rfl
    | succ r ih => intro i; rw [List.replicate_succ]; simp only [si_as]; exact ih _
  have gen : ∀ (vs : List Value) (r i : Nat), ∀ q ∈ si_as sz i (si_lay vs ++ List.replicate r si_U), q ∈ lv_args i (vs.map (si_v sz)) := by
    intro vs
    induction vs with
    | nil =>
      intro r i q hq
      simp only [si_lay, List.nil_append] at hq
      rw [rep] at hq
      cases hq
    | cons v vs ih =>
      intro r i q hq
      cases v with
      | double x =>
        simp only [si_lay, List.cons_append, si_as] at hq
        rcases List.mem_cons.mp hq with h1 | h1
        · rw [h1]; simp [lv_args]
        · simp only [List.map_cons, lv_args]
          refine List.mem_cons_of_mem _ ?_
          exact ih r (i + 1 + 1) q h1
      | long x =>
        simp only [si_lay, List.cons_append, si_as] at hq
        rcases List.mem_cons.mp hq with h1 | h1
        · rw [h1]; simp [lv_args]
        · simp only [List.map_cons, lv_args]
          refine List.mem_cons_of_mem _ ?_
          exact ih r (i + 1 + 1) q h1
      | retAddr x =>
        simp only [si_lay, List.cons_append, si_as] at hq
        simp only [List.map_cons, lv_args]
        exact List.mem_cons_of_mem _ (ih r (i + 1) q hq)
      | _ =>
        simp only [si_lay, List.cons_append, si_as] at hq
        rcases List.mem_cons.mp hq with h1 | h1
        · rw [h1]; simp [lv_args]
        · simp only [List.map_cons, lv_args]
          refine List.mem_cons_of_mem _ ?_
          exact ih r (i + 1) q h1
  exact gen vs _ 0
theorem si_run_eq (P : si_P) (n m pc : Nat) (L st : List Value) (σ : si_M) : si_run P (n + 1) m pc L st σ = match P.1[m]? with
    | none => none
    | some (_, _, _, ret, _, _, rows) => si_drv (si_call P n) (fun p L st τ => si_run P n m p L st τ) (si_pre ret P.2 rows pc L st σ) := rfl
/-- all that the theorem asks of a program -/
def si_ok (P : si_P) (cl : List vw_C) : Prop := (∀ mi ∈ P.1, si_mok P.1 cl mi = true ∧ si_get mi.2.2.2.2.2.2 65535 = none) ∧ si_clok cl ∧ si_shok cl P.2 ∧ si_good
theorem si_no {P : si_P} {cl : List vw_C} (hP : si_ok P cl) (n m : Nat) (L st : List Value) (σ : si_M) : si_run P n m 65535 L st σ = none := by
  cases n with
  | zero => rfl
  | succ n =>
    rw [si_run_eq]
    split
    · rfl
    · rename_i y bs mL ret fr lo rows hm
      have h := (hP.1 _ (List.mem_of_getElem? hm)).2
      dsimp only at h
      unfold si_pre
      rw [h]
      rfl
/-- at an answer -/
theorem si_end {p : Program} {l : Launch} {e : Env} {s : State} {m : MethodId} {args : Array Value} {below : List Frame} {meth : Method} {c : Code} {D : va_G} {dA : Bool → ClassId} {cl : List vw_C} {sz : Nat} {sh : List si_kd} {R : Room} {bs : ByteArray} {own : String} {mL : Nat} {H : Heap} {locs : List Loc} {ls : Array Slot} {ret : Option FieldType} {pc len : Nat} {i : Instr} {xs : List Nat} {ci : Int32} {cL : Int64} {L st : List Value} {σ : si_M} {o : si_O}
    (X : si_Ctx p s m args c D dA cl bs own mL) (hr : meth.sig.returnType = ret) (hlocks : meth.locks = false) (A : si_At s D dA cl sz sh mL s.heap σ L H locs ls) (hd : decode bs pc = .ok (i, len)) (hlen : len = si_len i) (hi : i = .ireturn ∨ i = .lreturn ∨ i = .return_) (h : si_ins ret sh (pc + len) i xs ci cL L st σ = some (.inl o)) :
    W p l e R s m args below meth c H locs 0 0 (MQ below (si_Qc D dA cl sz sh o) args s 0 0 (si_fr sz)) (F0 m pc ls (st.map (si_v sz))) := by
  obtain ⟨hx, hb, hml, hown, hts, hK, hNk⟩ := X
  obtain ⟨hL, hP, hS, hl⟩ := A
  subst hlen
  rcases hi with rfl | rfl | rfl
  · simp only [si_ins] at h
    split at h
    · cases h
      exact W.iret hx hb hr (fun t ht hW => ⟨rfl, by rw [ht]; exact hP, hS.F ht⟩) hS.2.2 hd hlocks
    · cases h
      exact si_zret hx hb hr rfl (fun t ht hW => ⟨rfl, by rw [ht]; exact hP, hS.F ht⟩) hS.2.2 hd hlocks
    · cases h
  · simp only [si_ins] at h
    split at h
    · cases h
      exact W.lret hx hb hr (fun t ht hW => ⟨rfl, by rw [ht]; exact hP, hS.F ht⟩) hS.2.2 hd hlocks
    · cases h
  · simp only [si_ins] at h
    split at h
    · cases h
      exact W.vret hx hb hr (fun t ht hW => ⟨rfl, by rw [ht]; exact hP, hS.F ht⟩) hS.2.2 hd hlocks
    · cases h
set_option maxHeartbeats 4000000 in
/-- THE THEOREM: what the pure machine does in n steps, the real one does -/
theorem si_sim {P : si_P} {cl : List vw_C} (hP : si_ok P cl) (l : Launch) (D : va_G) (dA : Bool → ClassId) (sz : Nat) : ∀ n, si_Met l D dA cl sz P n := by
  have body : ∀ n, (∀ n', n' < n → si_Met l D dA cl sz P n') → ∀ (m : Nat) (y : MethodName) (bs : ByteArray) (mL : Nat) (ret : Option FieldType) (fr lo : Nat) (rows : List si_row), P.1[m]? = some (y, bs, mL, ret, fr, lo, rows) →
      ∀ (p : Program) (e : Env) (s : State) (mid : MethodId) (args : Array Value) (below : List Frame) (meth : Method) (c : Code), si_Ctx p s mid args c D dA cl bs y.cls mL → meth.sig.returnType = ret → meth.locks = false →
      ∀ (pc : Nat) (L st : List Value) (σ : si_M) (o : si_O) (H : Heap) (locs : List Loc) (ls : Array Slot), si_run P n m pc L st σ = some o → si_At s D dA cl sz P.2 mL s.heap σ L H locs ls →
      W p l e (si_rm fr lo) s mid args below meth c H locs 0 0 (MQ below (si_Qc D dA cl sz P.2 o) args s 0 0 (si_fr sz)) (F0 mid pc ls (st.map (si_v sz))) := by
    intro n
    induction n with
    | zero =>
      intro hM m y bs mL ret fr lo rows hm p e s mid args below meth c X hr hlocks pc L st σ o H locs ls h
      cases h
    | succ n ih =>
      intro hM m y bs mL ret fr lo rows hm p e s mid args below meth c X hr hlocks pc L st σ o H locs ls h A
      have hMn := hM n (Nat.lt_succ_self n)
      have ihn := ih (fun n' hn' => hM n' (Nat.lt_succ_of_lt hn')) m y bs mL ret fr lo rows hm p e s mid args below meth c X hr hlocks
      rw [si_run_eq, hm] at h
      dsimp only at h
      unfold si_pre at h
      split at h
      · cases h
      · rename_i pc2 i len xs ci cL dead hrow
        obtain ⟨hmem, hpc⟩ := si_get_row hrow
        dsimp only at hpc
        subst hpc
        have hmok := (hP.1 _ (List.mem_of_getElem? hm)).1
        simp only [si_mok, Bool.and_eq_true] at hmok
        have hrok := List.all_eq_true.mp hmok.2 _ hmem
        simp only [si_rok, Bool.and_eq_true] at hrok
        obtain ⟨⟨hd0, hlen0⟩, hok⟩ := hrok
        have hd := of_decide_eq_true hd0
        have hlen := Nat.eq_of_beq_eq_true hlen0
        obtain ⟨hL, hPw, hS, hl⟩ := A
        have A' : si_At s D dA cl sz P.2 mL s.heap σ (si_clr L dead) H locs ls := ⟨by rw [si_clr_len]; exact hL, hPw, hS, si_L_clr hl dead⟩
        refine si_step (mt := P.1) (fr := fr) (lo := lo) (R := si_rm fr lo) hP.2.1 hP.2.2.1 X (fun h => Nat.le_of_ble_eq_true h) (Nat.le_refl _) (Nat.zero_le _) (Nat.zero_le _) (si_no hP n m) (fun pc' L' st' σ' H' locs' ls' hk A' => ihn pc' L' st' σ' o H' locs' ls' hk A') ?_ ?_ ?_ hd hlen hok A' h
        · intro idx c' na rc tl hi hxs htl hna hcat hret
          subst hi; subst hxs
          exact si_stat hP.2.2.2 hMn X (Nat.le_refl _) (Nat.le_refl _) (Nat.zero_le _) (Nat.zero_le _) htl hok hna hcat hret A' (by rw [hd, hlen]; rfl) (fun st' σ' H' locs' ls' hk A' => ihn _ _ _ _ o H' locs' ls' hk A')
        · intro idx c' na rc ct tl q cs hi hxs hna hsk hcat hret
          subst hi; subst hxs
          exact si_virt hP.2.2.2 hMn X (Nat.le_refl _) (Nat.le_refl _) (Nat.zero_le _) (Nat.zero_le _) hok hna hsk hcat hret A' (by rw [hd, hlen]; rfl) (fun st' σ' H' locs' ls' hk A' => ihn _ _ _ _ o H' locs' ls' hk A')
        · intro hi ho
          exact si_end X hr hlocks A' hd hlen hi ho
  intro n
  induction n using Nat.strongRecOn with
  | _ n ihM =>
    intro m y bs mL ret fr lo rows hm as σ o hle h
    have hmok := (hP.1 _ (List.mem_of_getElem? hm)).1
    simp only [si_mok, Bool.and_eq_true] at hmok
    refine Met.ofW (cc := bs) (maxL := mL) (ret := ret) hmok.1 rfl ?_
    intro p e s mid args below meth c s₁ B hml hv
    obtain ⟨rfl, hPw, hK, hNk⟩ := hv
    have hts := atoms_spec (ws := Jvm.Cond.code y bs mL ret :: si_tb) B.pre
    have X : si_Ctx p s mid (as.map (si_v sz)).toArray c D dA cl bs y.cls mL := ⟨B.exec, B.bytes, hml, findClass_of_methodNamed B.named, fun w hw => hts w (List.mem_cons_of_mem _ hw), hK, hNk⟩
    have hln : (lg_sl (as.map (si_v sz))).length ≤ mL := by rw [si_lg_lay, ← si_lay_len]; exact hle
    have hl := lv_entry (as.map (si_v sz)) (n := mL) hln
    rw [lg_entry_eq]
    generalize (lg_sl (as.map (si_v sz)) ++ List.replicate (mL - (lg_sl (as.map (si_v sz))).length) Slot.unset).toArray = ls at hl ⊢
    exact body n ihM m y bs mL ret fr lo rows hm p e s mid _ below meth c X B.returns B.notSynchronized 0 (si_ent mL as) [] σ o s.heap [] ls h ⟨by simp only [si_ent, List.length_append, List.length_replicate]; omega, hPw, va_S.rf, lv_has.less hl si_ent_as⟩
