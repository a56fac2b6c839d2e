/-! HOW THE PURE MACHINE'S THINGS STAND IN THE REAL ONE'S -/
def si_v (sz : Nat) : Value → Value
  | .ref k => .ref (sz + k)
  | v => v
def si_ce (dA : Bool → ClassId) (sz : Nat) (σ : si_M) (k : Nat) : si_kd → va_E
  | .inl (ct, cs) => .inr (ct, (List.range cs.length).map fun j => si_v sz (si_pv σ k j (cs.getD j 0)))
  | .inr (false, n) => .inl (dA false, n, .inl (σ.1 k))
  | .inr (true, n) => .inl (dA true, n, .inr (.inl (σ.2 k)))
def si_W (dA : Bool → ClassId) (sz : Nat) (sh : List si_kd) (σ : si_M) : va_W := (List.range sh.length).map fun k => (sz + k, si_ce dA sz σ k (sh.getD k (.inl (0, []))))
theorem si_W_at {dA : Bool → ClassId} {sz : Nat} {sh : List si_kd} {σ : si_M} {k : Nat} {d : si_kd} (h : sh[k]? = some d) : (si_W dA sz sh σ)[k]? = some (sz + k, si_ce dA sz σ k d) := by
  have hk : k < sh.length := (List.getElem?_eq_some_iff.mp h).1
  unfold si_W
  rw [List.getElem?_map, List.getElem?_range hk]
  simp [List.getD, h]
theorem si_W_of {dA : Bool → ClassId} {sz : Nat} {sh : List si_kd} {σ : si_M} {k : Nat} {q : Nat × va_E} (h : (si_W dA sz sh σ)[k]? = some q) : k < sh.length ∧ q.1 = sz + k := by
  unfold si_W at h
  rw [List.getElem?_map] at h
  by_cases hk : k < sh.length
  · rw [List.getElem?_range hk] at h
    simp at h
    exact ⟨hk, by rw [← h]⟩
  · rw [List.getElem?_eq_none (by simpa using hk)] at h
    cases h
theorem si_W_D (dA : Bool → ClassId) (sz : Nat) (sh : List si_kd) (σ : si_M) : va_D (fun q => sz ≤ q) (si_W dA sz sh σ) := by
  refine ⟨fun i j p q hp hq hpq => ?_, fun k q hq => ?_⟩
  · have h1 := (si_W_of hp).2
    have h2 := (si_W_of hq).2
    omega
  · rw [(si_W_of hq).2]; omega
theorem si_W_set {dA : Bool → ClassId} {sz : Nat} {sh : List si_kd} {σ τ : si_M} {k : Nat} {d : si_kd} {x : va_E} (h : sh[k]? = some d) (hx : si_ce dA sz τ k d = x) (ho : ∀ j d', j ≠ k → si_ce dA sz τ j d' = si_ce dA sz σ j d') : (si_W dA sz sh σ).set k (sz + k, x) = si_W dA sz sh τ := by
  have hk : k < sh.length := (List.getElem?_eq_some_iff.mp h).1
  apply List.ext_getElem?
  intro j
  rw [List.getElem?_set]
  by_cases hj : k = j
  · subst hj
    rw [si_W_at (σ := τ) h, hx]
    simp [si_W, hk]
  · simp only [hj, if_false]
    unfold si_W
    rw [List.getElem?_map, List.getElem?_map]
    by_cases hl : j < sh.length
    · rw [List.getElem?_range hl]
      simp [ho j _ (fun e => hj e.symm)]
    · rw [List.getElem?_eq_none (by simpa using hl)]
      rfl
theorem si_pv_ne {σ τ : si_M} {k : Nat} (h1 : τ.1 k = σ.1 k) (h2 : τ.2 k = σ.2 k) (j c : Nat) : si_pv τ k j c = si_pv σ k j c := by
  unfold si_pv
  rw [h1, h2]
theorem si_ce_ne {dA : Bool → ClassId} {sz : Nat} {σ τ : si_M} {k : Nat} (h1 : τ.1 k = σ.1 k) (h2 : τ.2 k = σ.2 k) (d : si_kd) : si_ce dA sz τ k d = si_ce dA sz σ k d := by
  rcases d with ⟨ct, cs⟩ | ⟨b, n⟩
  · simp only [si_ce, si_pv_ne h1 h2]
  · cases b <;> simp [si_ce, h1, h2]
theorem si_sI_row (σ : si_M) (k j : Nat) (v : Int32) : (si_sI σ k j v).1 k = upd (σ.1 k) j v := by
  funext b
  simp [si_sI, upd]
theorem si_sJ_row (σ : si_M) (k j : Nat) (v : Int64) : (si_sJ σ k j v).2 k = vp_updL (σ.2 k) j v := by
  funext b
  simp [si_sJ, vp_updL]
theorem si_sA_row (σ : si_M) (k : Nat) (f : Nat → Int64) : (si_sA σ k f).2 k = f := by
  funext b
  simp [si_sA]
theorem si_sI_o (σ : si_M) {k q : Nat} (h : q ≠ k) (j : Nat) (v : Int32) : (si_sI σ k j v).1 q = σ.1 q ∧ (si_sI σ k j v).2 q = σ.2 q := ⟨by funext b; simp [si_sI, h], rfl⟩
theorem si_sJ_o (σ : si_M) {k q : Nat} (h : q ≠ k) (j : Nat) (v : Int64) : (si_sJ σ k j v).1 q = σ.1 q ∧ (si_sJ σ k j v).2 q = σ.2 q := ⟨rfl, by funext b; simp [si_sJ, h]⟩
theorem si_sA_o (σ : si_M) {k q : Nat} (h : q ≠ k) (f : Nat → Int64) : (si_sA σ k f).1 q = σ.1 q ∧ (si_sA σ k f).2 q = σ.2 q := ⟨rfl, by funext b; simp [si_sA, h]⟩
/-- the fields of an object behind a store of one of them -/
theorem si_flds {sz : Nat} {σ τ : si_M} {k j : Nat} {cs : List Nat} {v : Value} (hj : j < cs.length) (hv : si_v sz (si_pv τ k j (cs.getD j 0)) = v) (ho : ∀ i c, i ≠ j → si_pv τ k i c = si_pv σ k i c) : ((List.range cs.length).map fun i => si_v sz (si_pv σ k i (cs.getD i 0))).set j v = (List.range cs.length).map fun i => si_v sz (si_pv τ k i (cs.getD i 0)) := by
  apply List.ext_getElem?
  intro i
  rw [List.getElem?_set]
  by_cases hi : j = i
  · subst hi
    simp [hj, ← hv]
  · simp only [hi, if_false]
    rw [List.getElem?_map, List.getElem?_map]
    by_cases hl : i < cs.length
    · rw [List.getElem?_range hl]
      simp [ho i _ (fun e => hi e.symm)]
    · rw [List.getElem?_eq_none (by simpa using hl)]
      rfl
theorem si_in_vp {i : Int32} {n : Nat} (h : si_in i n = true) : vp_in i n := by
  unfold si_in at h
  rw [Bool.and_eq_true, decide_eq_true_eq, decide_eq_true_eq] at h
  intro hh
  rcases hh with hh | hh
  · exact absurd h.1 (Int32.not_le.mpr hh)
  · omega
/-- the locals that are known -/
def si_as (sz : Nat) : Nat → List Value → List (Nat × Value)
  | _, [] => []
  | i, v :: L => match v with
    | .retAddr _ => si_as sz (i + 1) L
    | v => (i, si_v sz v) :: si_as sz (i + 1) L
theorem si_as_mem {sz : Nat} {L : List Value} : ∀ {i : Nat} {q : Nat × Value}, q ∈ si_as sz i L ↔ ∃ (j : Nat) (v : Value), L[j]? = some v ∧ (∀ p, v ≠ .retAddr p) ∧ q = (i + j, si_v sz v) := by
  induction L with
  | nil => intro i q; simp [si_as]
  | cons w L ih =>
    intro i q
    have step : (∃ (j : Nat) (v : Value), (w :: L)[j]? = some v ∧ (∀ p, v ≠ .retAddr p) ∧ q = (i + j, si_v sz v)) ↔ ((∀ p, w ≠ .retAddr p) ∧ q = (i, si_v sz w)) ∨ ∃ (j : Nat) (v : Value), L[j]? = some v ∧ (∀ p, v ≠ .retAddr p) ∧ q = (i + 1 + j, si_v sz v) := by
      constructor
      · rintro ⟨j, v, h1, h2, h3⟩
        cases j with
        | zero => simp at h1; subst h1; exact Or.inl ⟨h2, h3⟩
        | succ j => exact Or.inr ⟨j, v, by simpa using h1, h2, by rw [h3]; congr 1; omega⟩
      · rintro (⟨h2, h3⟩ | ⟨j, v, h1, h2, h3⟩)
        · exact ⟨0, w, by simp, h2, h3⟩
        · exact ⟨j + 1, v, by simpa using h1, h2, by rw [h3]; congr 1; omega⟩
    rw [step, ← ih]
    cases w <;> simp [si_as]
/-- the real locals hold the known ones -/
def si_L (sz : Nat) (L : List Value) (ls : Array Slot) (n : Nat) : Prop := lv_has ls n (si_as sz 0 L)
theorem si_L_get {sz : Nat} {L : List Value} {ls : Array Slot} {n i : Nat} {v : Value} (h : si_L sz L ls n) (hi : L[i]? = some v) (hv : ∀ p, v ≠ .retAddr p) : ls[i]? = some (.val (si_v sz v)) := by
  refine h.2.2 (i, si_v sz v) (si_as_mem.mpr ⟨i, v, hi, hv, by simp⟩)
theorem lv_has.less {ls : Array Slot} {n : Nat} {l l' : List (Nat × Value)} (h : lv_has ls n l) (hs : ∀ q ∈ l', q ∈ l) : lv_has ls n l' := ⟨h.1, h.2.1, fun q hq => h.2.2 q (hs q hq)⟩
theorem si_clr_get {L : List Value} {ds : List Nat} : ∀ {j : Nat} {v : Value}, (si_clr L ds)[j]? = some v → (∀ p, v ≠ .retAddr p) → L[j]? = some v := by
  induction ds generalizing L with
  | nil => intro j v h _; exact h
  | cons d ds ih =>
    intro j v h hv
    have h1 := ih h hv
    rw [List.getElem?_set] at h1
    split at h1
    · split at h1
      · cases h1; exact absurd rfl (hv 0)
      · cases h1
    · exact h1
theorem si_clr_len {L : List Value} {ds : List Nat} : (si_clr L ds).length = L.length := by
  induction ds generalizing L with
  | nil => rfl
  | cons d ds ih => simp only [si_clr]; rw [ih]; simp
theorem si_L_clr {sz : Nat} {L : List Value} {ls : Array Slot} {n : Nat} (h : si_L sz L ls n) (ds : List Nat) : si_L sz (si_clr L ds) ls n := by
  refine lv_has.less h fun q hq => ?_
  obtain ⟨j, v, h1, h2, h3⟩ := si_as_mem.mp hq
  exact si_as_mem.mpr ⟨j, v, si_clr_get h1 h2, h2, h3⟩
theorem si_off_get {L : List Value} {i j : Nat} {v : Value} (h : (si_off L i)[j]? = some v) (hv : ∀ p, v ≠ .retAddr p) : L[j]? = some v ∧ ¬ (j + 1 = i ∧ v.category = 2) := by
  have aux : ∀ (i : Nat), (L.set i si_U)[j]? = some v → L[j]? = some v ∧ ¬ (j + 1 = i + 1 ∧ v.category = 2) := by
    intro i h
    rw [List.getElem?_set] at h
    split at h
    · split at h
      · cases h; exact absurd rfl (hv 0)
      · cases h
    · exact ⟨h, fun e => by omega⟩
  unfold si_off at h
  split at h
  · exact ⟨h, fun e => by omega⟩
  · rename_i i
    split at h
    · exact aux i h
    · exact aux i h
    · rename_i hx hy
      refine ⟨h, fun e => ?_⟩
      obtain ⟨e1, e2⟩ := e
      have e4 : j = i := by omega
      subst e4
      cases v with
      | long x => exact hx x h
      | double x => exact hy x h
      | _ => cases e2
theorem si_off_len {L : List Value} {i : Nat} : (si_off L i).length = L.length := by
  unfold si_off
  split
  · rfl
  · split <;> simp
theorem si_v_cat (sz : Nat) (v : Value) : (si_v sz v).category = v.category := by cases v <;> rfl
theorem si_L_put1 {sz : Nat} {L : List Value} {ls : Array Slot} {n i : Nat} {v : Value} (hv : ∀ p, v ≠ .retAddr p) (h : lv_has ls n ((i, si_v sz v) :: (si_as sz 0 L).filter (fun q => !(q.1 == i) && !(q.1 + 1 == i && q.2.category == 2)))) : si_L sz (si_put1 L i v) ls n := by
  refine lv_has.less h fun q hq => ?_
  obtain ⟨j, w, h1, h2, h3⟩ := si_as_mem.mp hq
  unfold si_put1 at h1
  rw [List.getElem?_set] at h1
  split at h1
  · rename_i e
    split at h1
    · cases h1
      rw [h3, ← e]
      simp
    · cases h1
  · rename_i e
    obtain ⟨h4, h5⟩ := si_off_get h1 h2
    refine List.mem_cons_of_mem _ (List.mem_filter.mpr ⟨si_as_mem.mpr ⟨j, w, h4, h2, h3⟩, ?_⟩)
    rw [h3]
    have e1 : ¬ (0 + j = i) := by omega
    have e2 : ¬ (0 + j + 1 = i ∧ (si_v sz w).category = 2) := by
      rintro ⟨a, b⟩
      rw [si_v_cat] at b
      exact h5 ⟨by omega, b⟩
    simp only [Bool.and_eq_true, Bool.not_eq_true', beq_eq_false_iff_ne, ne_eq, Bool.and_eq_false_iff]
    refine ⟨e1, ?_⟩
    by_cases a : 0 + j + 1 = i
    · exact Or.inr fun b => e2 ⟨a, b⟩
    · exact Or.inl a
theorem si_L_put2 {sz : Nat} {L : List Value} {ls : Array Slot} {n i : Nat} {v : Value} (hv : ∀ p, v ≠ .retAddr p) (h : lv_has ls n ((i, si_v sz v) :: (si_as sz 0 L).filter (fun q => !(q.1 == i) && (!(q.1 == i + 1) && !(q.1 + 1 == i && q.2.category == 2))))) : si_L sz (si_put2 L i v) ls n := by
  refine lv_has.less h fun q hq => ?_
  obtain ⟨j, w, h1, h2, h3⟩ := si_as_mem.mp hq
  unfold si_put2 at h1
  rw [List.getElem?_set] at h1
  split at h1
  · split at h1
    · cases h1; exact absurd rfl (h2 0)
    · cases h1
  rename_i e0
  rw [List.getElem?_set] at h1
  split at h1
  · rename_i e
    split at h1
    · cases h1
      rw [h3, ← e]
      simp
    · cases h1
  · rename_i e
    obtain ⟨h4, h5⟩ := si_off_get h1 h2
    refine List.mem_cons_of_mem _ (List.mem_filter.mpr ⟨si_as_mem.mpr ⟨j, w, h4, h2, h3⟩, ?_⟩)
    rw [h3]
    have e1 : ¬ (0 + j = i) := by omega
    have e2 : ¬ (0 + j + 1 = i ∧ (si_v sz w).category = 2) := by
      rintro ⟨a, b⟩
      rw [si_v_cat] at b
      exact h5 ⟨by omega, b⟩
    have e3 : ¬ (0 + j = i + 1) := by omega
    simp only [Bool.and_eq_true, Bool.not_eq_true', beq_eq_false_iff_ne, ne_eq, Bool.and_eq_false_iff]
    refine ⟨e1, e3, ?_⟩
    by_cases a : 0 + j + 1 = i
    · exact Or.inr fun b => e2 ⟨a, b⟩
    · exact Or.inl a
