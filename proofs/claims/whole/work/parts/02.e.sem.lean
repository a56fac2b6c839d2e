/-! WHAT A METHOD COMES TO, without counting steps -/
noncomputable def si_sem (P : si_P) (m pc : Nat) (L st : List Value) (σ : si_M) : Option si_O := @dite _ (∃ o n, si_run P n m pc L st σ = some o) (Classical.propDecidable _) (fun h => some h.choose) (fun _ => none)
theorem si_drv_mono {call call' : Nat → List Value → si_M → Option si_O} {k k' : Nat → List Value → List Value → si_M → Option si_O} (h1 : ∀ c as τ o, call c as τ = some o → call' c as τ = some o) (h2 : ∀ p L st τ o, k p L st τ = some o → k' p L st τ = some o) {d : Option si_D} {o : si_O} (h : si_drv call k d = some o) : si_drv call' k' d = some o := by
  unfold si_drv at h ⊢
  split at h
  · cases h
  · exact h
  · rename_i c a b L st σ
    cases c
    · exact h2 _ _ _ _ _ h
    · exact h2 _ _ _ _ _ h
  · obtain ⟨o2, e1, e2⟩ := si_retw h
    have e3 := h1 _ _ _ _ e1
    have e4 := h2 _ _ _ _ _ e2
    unfold si_ret si_cv si_ci si_cl at h ⊢
    rw [e1] at h
    rw [e3]
    split at h
    · split at h
      · rename_i e; cases e; exact e4
      · cases h
    · split at h
      · rename_i e; cases e; exact e4
      · cases h
    · split at h
      · rename_i e; cases e; exact e4
      · cases h
    · cases h
theorem si_run_mono (P : si_P) : ∀ (n m pc : Nat) (L st : List Value) (σ : si_M) (o : si_O), si_run P n m pc L st σ = some o → si_run P (n + 1) m pc L st σ = some o := by
  intro n
  induction n with
  | zero => intro m pc L st σ o h; cases h
  | succ n ih =>
    intro m pc L st σ o h
    rw [si_run_eq] at h ⊢
    split at h
    · cases h
    · refine si_drv_mono (fun c as τ o h => ?_) (fun p L st τ o h => ih _ _ _ _ _ _ h) h
      unfold si_call at h ⊢
      split at h
      · cases h
      · split at h
        · exact ih _ _ _ _ _ _ h
        · cases h
theorem si_run_le (P : si_P) {n n' m pc : Nat} {L st : List Value} {σ : si_M} {o : si_O} (hn : n ≤ n') (h : si_run P n m pc L st σ = some o) : si_run P n' m pc L st σ = some o := by
  induction hn with
  | refl => exact h
  | step _ ih => exact si_run_mono P _ _ _ _ _ _ _ ih
theorem si_sem_of {P : si_P} {n m pc : Nat} {L st : List Value} {σ : si_M} {o : si_O} (h : si_run P n m pc L st σ = some o) : si_sem P m pc L st σ = some o := by
  unfold si_sem
  have hex : ∃ o n, si_run P n m pc L st σ = some o := ⟨o, n, h⟩
  rw [dif_pos hex]
  obtain ⟨n2, h2⟩ := hex.choose_spec
  have a := si_run_le P (Nat.le_max_left n n2) h
  have b := si_run_le P (Nat.le_max_right n n2) h2
  rw [a] at b
  exact b.symm
theorem si_sem_run {P : si_P} {m pc : Nat} {L st : List Value} {σ : si_M} {o : si_O} (h : si_sem P m pc L st σ = some o) : ∃ n, si_run P n m pc L st σ = some o := by
  unfold si_sem at h
  split at h
  · rename_i hex
    obtain ⟨n2, h2⟩ := hex.choose_spec
    cases h
    exact ⟨n2, h2⟩
  · cases h
noncomputable def si_sc (P : si_P) (c : Nat) (as : List Value) (τ : si_M) : Option si_O := match P.1[c]? with
  | none => none
  | some (_, _, mL, _) => match Nat.ble (si_lay as).length mL with
    | true => si_sem P c 0 (si_ent mL as) [] τ
    | false => none
theorem si_sc_call {P : si_P} {n c : Nat} {as : List Value} {τ : si_M} {o : si_O} (h : si_call P n c as τ = some o) : si_sc P c as τ = some o := by
  unfold si_call at h
  unfold si_sc
  split at h
  · cases h
  · rename_i h0
    split at h
    · rename_i h3
      rw [h0]
      dsimp only
      rw [h3]
      exact si_sem_of h
    · cases h
theorem si_sc_run {P : si_P} {c : Nat} {as : List Value} {τ : si_M} {o : si_O} (h : si_sc P c as τ = some o) : ∃ n, si_call P n c as τ = some o := by
  unfold si_sc at h
  unfold si_call
  split at h
  · cases h
  · rename_i h0
    split at h
    · rename_i h3
      obtain ⟨n, hn⟩ := si_sem_run h
      exact ⟨n, by rw [h0]; dsimp only; rw [h3]; exact hn⟩
    · cases h
theorem si_call_le {P : si_P} {n n' c : Nat} {as : List Value} {τ : si_M} {o : si_O} (hn : n ≤ n') (h : si_call P n c as τ = some o) : si_call P n' c as τ = some o := by
  unfold si_call at h ⊢
  split at h
  · cases h
  · rename_i h0
    split at h
    · rename_i h3
      exact si_run_le P hn h
    · cases h
theorem si_sem_eq (P : si_P) (m pc : Nat) (L st : List Value) (σ : si_M) : si_sem P m pc L st σ = match P.1[m]? with
    | none => none
    | some (_, _, _, ret, _, _, rows) => si_drv (si_sc P) (fun p L st τ => si_sem P m p L st τ) (si_pre ret P.2 rows pc L st σ) := by
  apply Option.ext
  intro o
  constructor
  · intro h
    obtain ⟨n, hn⟩ := si_sem_run h
    cases n with
    | zero => cases hn
    | succ n =>
      rw [si_run_eq] at hn
      split at hn
      · cases hn
      · rename_i hm
        rw [hm]
        exact si_drv_mono (fun _ _ _ _ h => si_sc_call h) (fun _ _ _ _ _ h => si_sem_of h) hn
  · intro h
    split at h
    · cases h
    · rename_i y bs mL ret fr lo rows hm
      have key : ∃ n, si_drv (si_call P n) (fun p L st τ => si_run P n m p L st τ) (si_pre ret P.2 rows pc L st σ) = some o := by
        generalize si_pre ret P.2 rows pc L st σ = d at h
        unfold si_drv at h
        split at h
        · cases h
        · exact ⟨0, h⟩
        · rename_i c a b L st σ
          cases c
          · obtain ⟨n, hn⟩ := si_sem_run h; exact ⟨n, hn⟩
          · obtain ⟨n, hn⟩ := si_sem_run h; exact ⟨n, hn⟩
        · rename_i c as rc p L r σ
          obtain ⟨o2, e1, e2⟩ := si_retw h
          obtain ⟨n1, hn1⟩ := si_sc_run e1
          obtain ⟨n2, hn2⟩ := si_sem_run e2
          refine ⟨max n1 n2, ?_⟩
          have f1 := si_call_le (Nat.le_max_left n1 n2) hn1
          have f2 := si_run_le P (Nat.le_max_right n1 n2) hn2
          unfold si_drv
          dsimp only
          rw [e1] at h
          rw [f1]
          unfold si_ret si_cv si_ci si_cl at h ⊢
          split at h
          · split at h
            · rename_i e; cases e; exact f2
            · cases h
          · split at h
            · rename_i e; cases e; exact f2
            · cases h
          · split at h
            · rename_i e; cases e; exact f2
            · cases h
          · cases h
      obtain ⟨n, hn⟩ := key
      refine si_sem_of (n := n + 1) ?_
      rw [si_run_eq, hm]
      exact hn
theorem si_clr_idem (L : List Value) (ds : List Nat) : si_clr (si_clr L ds) ds = si_clr L ds := by
  have comm : ∀ (ds : List Nat) (L : List Value) (i : Nat), (si_clr L ds).set i si_U = si_clr (L.set i si_U) ds := by
    intro ds
    induction ds with
    | nil => intro L i; rfl
    | cons d ds ih =>
      intro L i
      simp only [si_clr]
      rw [ih]
      by_cases h : d = i
      · subst h; simp
      · rw [List.set_comm _ _ h]
  induction ds generalizing L with
  | nil => rfl
  | cons d ds ih =>
    simp only [si_clr]
    rw [comm, List.set_set]
    exact ih _
theorem si_sem_clr {P : si_P} {m pc : Nat} {L st : List Value} {σ : si_M} {y : MethodName} {bs : ByteArray} {mL fr lo : Nat} {ret : Option FieldType} {rows : List si_row} {r : si_row} (hm : P.1[m]? = some (y, bs, mL, ret, fr, lo, rows)) (hr : si_get rows pc = some r) : si_sem P m pc (si_clr L r.2.2.2.2.2.2) st σ = si_sem P m pc L st σ := by
  rw [si_sem_eq, si_sem_eq, hm]
  dsimp only
  obtain ⟨p, i, len, xs, ci, cl, dead⟩ := r
  unfold si_pre
  rw [hr]
  dsimp only
  rw [si_clr_idem]
def si_isin (p : Nat) : List Nat → Bool
  | [] => false
  | q :: qs => match Nat.beq q p with
    | true => true
    | false => si_isin p qs
/-- goes on up to a place where it must stop -/
noncomputable def si_ex (P : si_P) (ret : Option FieldType) (rows : List si_row) (stop : List Nat) (m : Nat) : Nat → Nat → List Value → List Value → si_M → Option si_O
  | 0, pc, L, st, σ => si_sem P m pc L st σ
  | n + 1, pc, L, st, σ => si_drv (si_sc P) (fun p L st τ => match si_isin p stop with
      | true => (match si_get rows p with
        | none => none
        | some (_, _, _, _, _, _, dead) => si_sem P m p (si_clr L dead) st τ)
      | false => si_ex P ret rows stop m n p L st τ) (si_pre ret P.2 rows pc L st σ)
theorem si_ex_eq {P : si_P} {m : Nat} {y : MethodName} {bs : ByteArray} {mL fr lo : Nat} {ret : Option FieldType} {rows : List si_row} (hm : P.1[m]? = some (y, bs, mL, ret, fr, lo, rows)) (stop : List Nat) : ∀ (n pc : Nat) (L st : List Value) (σ : si_M), si_ex P ret rows stop m n pc L st σ = si_sem P m pc L st σ := by
  intro n
  induction n with
  | zero => intro pc L st σ; rfl
  | succ n ih =>
    intro pc L st σ
    rw [si_sem_eq, hm]
    dsimp only
    unfold si_ex
    have e : (fun p L st τ => match si_isin p stop with
      | true => (match si_get rows p with
        | none => none
        | some (_, _, _, _, _, _, dead) => si_sem P m p (si_clr L dead) st τ)
      | false => si_ex P ret rows stop m n p L st τ) = (fun p L st τ => si_sem P m p L st τ) := by
      funext p L st τ
      split
      · split
        · rename_i hg
          rw [si_sem_eq, hm]
          dsimp only
          unfold si_pre
          rw [hg]
          rfl
        · rename_i a b c d e f dead hg
          exact si_sem_clr hm hg
      · exact ih p L st τ
    rw [e]
/-- a block's equation: from its head on up to the next heads -/
theorem si_blk {P : si_P} {m : Nat} {y : MethodName} {bs : ByteArray} {mL fr lo : Nat} {ret : Option FieldType} {rows : List si_row} (hm : P.1[m]? = some (y, bs, mL, ret, fr, lo, rows)) (stop : List Nat) (n : Nat) {pc : Nat} {L st : List Value} {σ : si_M} {x : Option si_O} (h : si_ex P ret rows stop m n pc L st σ = x) : si_sem P m pc L st σ = x := (si_ex_eq hm stop n pc L st σ).symm.trans h
theorem si_ent_blk {P : si_P} {m : Nat} {y : MethodName} {bs : ByteArray} {mL fr lo : Nat} {ret : Option FieldType} {rows : List si_row} (hm : P.1[m]? = some (y, bs, mL, ret, fr, lo, rows)) (stop : List Nat) (n : Nat) {as : List Value} {σ : si_M} {x : Option si_O} (hl : Nat.ble (si_lay as).length mL = true) (h : si_ex P ret rows stop m n 0 (si_ent mL as) [] σ = x) : si_sc P m as σ = x := by
  unfold si_sc
  rw [hm]
  dsimp only
  rw [hl]
  exact si_blk hm stop n h
/-- the contract of a method out of what it comes to -/
theorem si_met {P : si_P} {cl : List vw_C} (hP : si_ok P cl) (l : Launch) (D : va_G) (dA : Bool → ClassId) (sz : Nat) {m : Nat} {y : MethodName} {bs : ByteArray} {mL fr lo : Nat} {ret : Option FieldType} {rows : List si_row} (hm : P.1[m]? = some (y, bs, mL, ret, fr, lo, rows)) {as : List Value} {σ : si_M} {o : si_O} (h : si_sc P m as σ = some o) :
    Met l y (Jvm.Cond.code y bs mL ret :: si_tb) (si_rm fr lo) (si_Pc D dA cl sz P.2 as σ) (si_Qc D dA cl sz P.2 o) 0 0 (si_fr sz) := by
  obtain ⟨n, hn⟩ := si_sc_run h
  unfold si_call at hn
  rw [hm] at hn
  dsimp only at hn
  split at hn
  · rename_i hle
    exact si_sim hP l D dA sz n m y bs mL ret fr lo rows hm as σ o (Nat.le_of_ble_eq_true hle) hn
  · cases hn
