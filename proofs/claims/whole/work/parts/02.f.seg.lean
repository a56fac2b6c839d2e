/-! SEGMENTS: n plain steps, then an instruction that branches, calls, answers, or comes to a head -/
def si_sg (ret : Option FieldType) (sh : List si_kd) (rows : List si_row) : Nat → Nat → List Value → List Value → si_M → Option si_D
  | 0, pc, L, st, σ => si_pre ret sh rows pc L st σ
  | n + 1, pc, L, st, σ => match si_pre ret sh rows pc L st σ with
    | some (.inr (.inl (true, p, _, L', st', σ'))) => si_sg ret sh rows n p L' st' σ'
    | _ => none
section SEG
variable {P : si_P} {m : Nat} {y : MethodName} {bs : ByteArray} {mL fr lo : Nat} {ret : Option FieldType} {rows : List si_row} {pc : Nat} {L st : List Value} {σ : si_M} {X Y : Option si_O}
theorem si_sg_eq (hm : P.1[m]? = some (y, bs, mL, ret, fr, lo, rows)) (n : Nat) : ∀ (pc : Nat) (L st : List Value) (σ : si_M) (d : si_D), si_sg ret P.2 rows n pc L st σ = some d → si_sem P m pc L st σ = si_drv (si_sc P) (fun p L st τ => si_sem P m p L st τ) (some d) := by
  induction n with
  | zero =>
    intro pc L st σ d h
    rw [si_sem_eq, hm]
    dsimp only
    rw [show si_pre ret P.2 rows pc L st σ = some d from h]
  | succ n ih =>
    intro pc L st σ d h
    unfold si_sg at h
    split at h
    · rename_i p b L' st' σ' hp
      rw [si_sem_eq, hm]
      dsimp only
      rw [hp]
      exact ih p L' st' σ' d h
    · cases h
theorem x_br (hm : P.1[m]? = some (y, bs, mL, ret, fr, lo, rows)) (n a b : Nat) (L' st' : List Value) (σ' : si_M) {c : Bool} (h : si_sg ret P.2 rows n pc L st σ = some (.inr (.inl (c, a, b, L', st', σ')))) (h1 : si_sem P m a L' st' σ' = X) (h2 : si_sem P m b L' st' σ' = Y) : si_sem P m pc L st σ = cond c X Y := by
  rw [si_sg_eq hm n pc L st σ _ h, ← h1, ← h2]
  rfl
theorem x_if (hm : P.1[m]? = some (y, bs, mL, ret, fr, lo, rows)) (h0 : si_get rows 65535 = none) (n a : Nat) (L' st' : List Value) (σ' : si_M) {c : Bool} (h : si_sg ret P.2 rows n pc L st σ = some (.inr (.inl (c, a, 65535, L', st', σ')))) (h1 : si_sem P m a L' st' σ' = X) : si_sem P m pc L st σ = cond c X none := by
  refine x_br hm n a 65535 L' st' σ' h h1 ?_
  rw [si_sem_eq, hm]
  dsimp only
  unfold si_pre
  rw [h0]
  rfl
theorem x_cv (hm : P.1[m]? = some (y, bs, mL, ret, fr, lo, rows)) (n p c : Nat) (as L' r : List Value) (σ' : si_M) {K : si_M → Option si_O} (h : si_sg ret P.2 rows n pc L st σ = some (.inr (.inr (c, as, 0, p, L', r, σ')))) (h1 : ∀ τ, si_sem P m p L' r τ = K τ) : si_sem P m pc L st σ = si_cv (si_sc P c as σ') K := by
  rw [si_sg_eq hm n pc L st σ _ h, show K = fun τ => si_sem P m p L' r τ from funext fun τ => (h1 τ).symm]
  rfl
theorem x_ci (hm : P.1[m]? = some (y, bs, mL, ret, fr, lo, rows)) (n p c : Nat) (as L' r : List Value) (σ' : si_M) {K : Int32 → si_M → Option si_O} (h : si_sg ret P.2 rows n pc L st σ = some (.inr (.inr (c, as, 1, p, L', r, σ')))) (h1 : ∀ v τ, si_sem P m p L' (.int v :: r) τ = K v τ) : si_sem P m pc L st σ = si_ci (si_sc P c as σ') K := by
  rw [si_sg_eq hm n pc L st σ _ h, show K = fun v τ => si_sem P m p L' (.int v :: r) τ from funext fun v => funext fun τ => (h1 v τ).symm]
  rfl
theorem x_cl (hm : P.1[m]? = some (y, bs, mL, ret, fr, lo, rows)) (n p c : Nat) (as L' r : List Value) (σ' : si_M) {K : Int64 → si_M → Option si_O} (h : si_sg ret P.2 rows n pc L st σ = some (.inr (.inr (c, as, 2, p, L', r, σ')))) (h1 : ∀ v τ, si_sem P m p L' (.long v :: r) τ = K v τ) : si_sem P m pc L st σ = si_cl (si_sc P c as σ') K := by
  rw [si_sg_eq hm n pc L st σ _ h, show K = fun v τ => si_sem P m p L' (.long v :: r) τ from funext fun v => funext fun τ => (h1 v τ).symm]
  rfl
theorem x_end (hm : P.1[m]? = some (y, bs, mL, ret, fr, lo, rows)) (n : Nat) {o : si_O} (h : si_sg ret P.2 rows n pc L st σ = some (.inl o)) : si_sem P m pc L st σ = some o := by
  rw [si_sg_eq hm n pc L st σ _ h]
  rfl
/-- a jump to a head, the dead locals forgotten -/
theorem x_hd (hm : P.1[m]? = some (y, bs, mL, ret, fr, lo, rows)) (n p : Nat) (L' st' : List Value) (σ' : si_M) (h : si_sg ret P.2 rows n pc L st σ = some (.inr (.inl (true, p, 0, L', st', σ')))) {i : Instr} {len : Nat} {xs : List Nat} {ci : Int32} {cl : Int64} (dead : List Nat) (hr : si_get rows p = some (p, i, len, xs, ci, cl, dead)) {L2 : List Value} (hL : si_clr L' dead = L2) : si_sem P m pc L st σ = si_sem P m p L2 st' σ' := by
  rw [si_sg_eq hm n pc L st σ _ h, ← hL, si_sem_clr (r := (p, i, len, xs, ci, cl, dead)) hm hr]
  rfl
/-- already at a head -/
theorem x_at (hm : P.1[m]? = some (y, bs, mL, ret, fr, lo, rows)) {i : Instr} {len : Nat} {xs : List Nat} {ci : Int32} {cl : Int64} (dead : List Nat) (hr : si_get rows pc = some (pc, i, len, xs, ci, cl, dead)) {L2 : List Value} (hL : si_clr L dead = L2) : si_sem P m pc L st σ = si_sem P m pc L2 st σ := by
  rw [← hL, si_sem_clr (r := (pc, i, len, xs, ci, cl, dead)) hm hr]
theorem x_ent (hm : P.1[m]? = some (y, bs, mL, ret, fr, lo, rows)) {as : List Value} (L0 : List Value) (hl : Nat.ble (si_lay as).length mL = true) (hL : si_ent mL as = L0) (h : si_sem P m 0 L0 [] σ = X) : si_sc P m as σ = X := by
  unfold si_sc
  rw [hm]
  dsimp only
  rw [hl, hL]
  exact h
end SEG
