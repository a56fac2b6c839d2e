/-! printed: the model copies a row -/
theorem l_X9_start_10 : ∀ (d i n : Nat) (σ : si_M), i + d = n → n ≤ 60 → σ.1 29 1 = nI n → ∃ τ, si_sem gP nX9_start 10 [.ref 29, .int (nI i)] [] σ = si_sem gP nX9_start 10 [.ref 29, .int (nI n)] [] τ ∧ τ.1 = σ.1 ∧ (∀ a, a ≠ 44 → τ.2 a = σ.2 a) ∧ ∀ j, τ.2 44 j = if i ≤ j ∧ j < n then σ.2 30 j else σ.2 44 j := by
  intro d
  induction d with
  | zero =>
    intro i n σ h1 h2 h3
    have e : i = n := by omega
    subst e
    exact ⟨σ, rfl, rfl, fun _ _ => rfl, fun j => by rw [if_neg (by omega)]⟩
  | succ d ih =>
    intro i n σ h1 h2 h3
    rw [h_X9_start_10, h3, cF (nI_ge (show i < n by omega) (by omega)), inT (show i < 60 by omega) (by decide), inT (show i < 60 by omega) (by decide), nI_add, nI_clamp (by omega)]
    obtain ⟨τ, e1, e2, e3, e4⟩ := ih (i + 1) n (si_sJ σ 44 i (σ.2 30 i)) (by omega) h2 h3
    refine ⟨τ, e1, e2, fun a ha => by rw [e3 a ha, sJ_ne _ _ _ ha], fun j => ?_⟩
    rw [e4]
    by_cases hj : j = i
    · rw [if_neg (by omega), if_pos (by omega), hj, sJ_same]
    · rw [sJ_nj _ _ _ hj, sJ_ne _ _ _ (by decide)]
      by_cases h : i ≤ j ∧ j < n
      · rw [if_pos (by omega), if_pos h]
      · rw [if_neg (by omega), if_neg h]
theorem l_X9_step_33 : ∀ (d i n : Nat) (σ : si_M), i + d = n → n ≤ 60 → σ.1 29 11 = nI n → ∃ τ, si_sem gP nX9_step 33 [.ref 29, .int (nI i)] [] σ = si_sem gP nX9_step 33 [.ref 29, .int (nI n)] [] τ ∧ τ.1 = σ.1 ∧ (∀ a, a ≠ 44 → τ.2 a = σ.2 a) ∧ ∀ j, τ.2 44 j = if i ≤ j ∧ j < n then σ.2 33 j else σ.2 44 j := by
  intro d
  induction d with
  | zero =>
    intro i n σ h1 h2 h3
    have e : i = n := by omega
    subst e
    exact ⟨σ, rfl, rfl, fun _ _ => rfl, fun j => by rw [if_neg (by omega)]⟩
  | succ d ih =>
    intro i n σ h1 h2 h3
    rw [h_X9_step_33, h3, cF (nI_ge (show i < n by omega) (by omega)), inT (show i < 60 by omega) (by decide), inT (show i < 60 by omega) (by decide), nI_add, nI_clamp (by omega)]
    obtain ⟨τ, e1, e2, e3, e4⟩ := ih (i + 1) n (si_sJ σ 44 i (σ.2 33 i)) (by omega) h2 h3
    refine ⟨τ, e1, e2, fun a ha => by rw [e3 a ha, sJ_ne _ _ _ ha], fun j => ?_⟩
    rw [e4]
    by_cases hj : j = i
    · rw [if_neg (by omega), if_pos (by omega), hj, sJ_same]
    · rw [sJ_nj _ _ _ hj, sJ_ne _ _ _ (by decide)]
      by_cases h : i ≤ j ∧ j < n
      · rw [if_pos (by omega), if_pos h]
      · rw [if_neg (by omega), if_neg h]
theorem l_X9_finish_20 : ∀ (d i n : Nat) (σ : si_M), i + d = n → n ≤ 60 → σ.1 29 1 = nI n → ∃ τ, si_sem gP nX9_finish 20 [.ref 29, .int (nI i)] [] σ = si_sem gP nX9_finish 20 [.ref 29, .int (nI n)] [] τ ∧ τ.1 = σ.1 ∧ (∀ a, a ≠ 30 → τ.2 a = σ.2 a) ∧ ∀ j, τ.2 30 j = if i ≤ j ∧ j < n then σ.2 44 j else σ.2 30 j := by
  intro d
  induction d with
  | zero =>
    intro i n σ h1 h2 h3
    have e : i = n := by omega
    subst e
    exact ⟨σ, rfl, rfl, fun _ _ => rfl, fun j => by rw [if_neg (by omega)]⟩
  | succ d ih =>
    intro i n σ h1 h2 h3
    rw [h_X9_finish_20, h3, cF (nI_ge (show i < n by omega) (by omega)), inT (show i < 60 by omega) (by decide), inT (show i < 60 by omega) (by decide), nI_add, nI_clamp (by omega)]
    obtain ⟨τ, e1, e2, e3, e4⟩ := ih (i + 1) n (si_sJ σ 30 i (σ.2 44 i)) (by omega) h2 h3
    refine ⟨τ, e1, e2, fun a ha => by rw [e3 a ha, sJ_ne _ _ _ ha], fun j => ?_⟩
    rw [e4]
    by_cases hj : j = i
    · rw [if_neg (by omega), if_pos (by omega), hj, sJ_same]
    · rw [sJ_nj _ _ _ hj, sJ_ne _ _ _ (by decide)]
      by_cases h : i ≤ j ∧ j < n
      · rw [if_pos (by omega), if_pos h]
      · rw [if_neg (by omega), if_neg h]
theorem l_X9_save_15 : ∀ (d i n : Nat) (σ : si_M), i + d = n → n ≤ 60 → σ.1 29 1 = nI n → ∃ τ, si_sem gP nX9_save 15 [.ref 29, .int (nI i)] [] σ = si_sem gP nX9_save 15 [.ref 29, .int (nI n)] [] τ ∧ τ.1 = σ.1 ∧ (∀ a, a ≠ 31 → τ.2 a = σ.2 a) ∧ ∀ j, τ.2 31 j = if i ≤ j ∧ j < n then σ.2 30 j else σ.2 31 j := by
  intro d
  induction d with
  | zero =>
    intro i n σ h1 h2 h3
    have e : i = n := by omega
    subst e
    exact ⟨σ, rfl, rfl, fun _ _ => rfl, fun j => by rw [if_neg (by omega)]⟩
  | succ d ih =>
    intro i n σ h1 h2 h3
    rw [h_X9_save_15, h3, cF (nI_ge (show i < n by omega) (by omega)), inT (show i < 60 by omega) (by decide), inT (show i < 60 by omega) (by decide), nI_add, nI_clamp (by omega)]
    obtain ⟨τ, e1, e2, e3, e4⟩ := ih (i + 1) n (si_sJ σ 31 i (σ.2 30 i)) (by omega) h2 h3
    refine ⟨τ, e1, e2, fun a ha => by rw [e3 a ha, sJ_ne _ _ _ ha], fun j => ?_⟩
    rw [e4]
    by_cases hj : j = i
    · rw [if_neg (by omega), if_pos (by omega), hj, sJ_same]
    · rw [sJ_nj _ _ _ hj, sJ_ne _ _ _ (by decide)]
      by_cases h : i ≤ j ∧ j < n
      · rw [if_pos (by omega), if_pos h]
      · rw [if_neg (by omega), if_neg h]
theorem l_X9_restore_20 : ∀ (d i n : Nat) (σ : si_M), i + d = n → n ≤ 60 → σ.1 29 1 = nI n → ∃ τ, si_sem gP nX9_restore 20 [.ref 29, .int (nI i)] [] σ = si_sem gP nX9_restore 20 [.ref 29, .int (nI n)] [] τ ∧ τ.1 = σ.1 ∧ (∀ a, a ≠ 30 → τ.2 a = σ.2 a) ∧ ∀ j, τ.2 30 j = if i ≤ j ∧ j < n then σ.2 31 j else σ.2 30 j := by
  intro d
  induction d with
  | zero =>
    intro i n σ h1 h2 h3
    have e : i = n := by omega
    subst e
    exact ⟨σ, rfl, rfl, fun _ _ => rfl, fun j => by rw [if_neg (by omega)]⟩
  | succ d ih =>
    intro i n σ h1 h2 h3
    rw [h_X9_restore_20, h3, cF (nI_ge (show i < n by omega) (by omega)), inT (show i < 60 by omega) (by decide), inT (show i < 60 by omega) (by decide), nI_add, nI_clamp (by omega)]
    obtain ⟨τ, e1, e2, e3, e4⟩ := ih (i + 1) n (si_sJ σ 30 i (σ.2 31 i)) (by omega) h2 h3
    refine ⟨τ, e1, e2, fun a ha => by rw [e3 a ha, sJ_ne _ _ _ ha], fun j => ?_⟩
    rw [e4]
    by_cases hj : j = i
    · rw [if_neg (by omega), if_pos (by omega), hj, sJ_same]
    · rw [sJ_nj _ _ _ hj, sJ_ne _ _ _ (by decide)]
      by_cases h : i ≤ j ∧ j < n
      · rw [if_pos (by omega), if_pos h]
      · rw [if_neg (by omega), if_neg h]
theorem l_X9_load_40 : ∀ (d i n : Nat) (σ : si_M), i + d = n → n ≤ 60 → σ.1 29 1 = nI n → ∃ τ, si_sem gP nX9_load 40 [.ref 29, .int (nI i)] [] σ = si_sem gP nX9_load 40 [.ref 29, .int (nI n)] [] τ ∧ τ.1 = σ.1 ∧ (∀ a, a ≠ 30 → τ.2 a = σ.2 a) ∧ ∀ j, τ.2 30 j = if i ≤ j ∧ j < n then σ.2 33 j else σ.2 30 j := by
  intro d
  induction d with
  | zero =>
    intro i n σ h1 h2 h3
    have e : i = n := by omega
    subst e
    exact ⟨σ, rfl, rfl, fun _ _ => rfl, fun j => by rw [if_neg (by omega)]⟩
  | succ d ih =>
    intro i n σ h1 h2 h3
    rw [h_X9_load_40, h3, cF (nI_ge (show i < n by omega) (by omega)), inT (show i < 60 by omega) (by decide), inT (show i < 60 by omega) (by decide), nI_add, nI_clamp (by omega)]
    obtain ⟨τ, e1, e2, e3, e4⟩ := ih (i + 1) n (si_sJ σ 30 i (σ.2 33 i)) (by omega) h2 h3
    refine ⟨τ, e1, e2, fun a ha => by rw [e3 a ha, sJ_ne _ _ _ ha], fun j => ?_⟩
    rw [e4]
    by_cases hj : j = i
    · rw [if_neg (by omega), if_pos (by omega), hj, sJ_same]
    · rw [sJ_nj _ _ _ hj, sJ_ne _ _ _ (by decide)]
      by_cases h : i ≤ j ∧ j < n
      · rw [if_pos (by omega), if_pos h]
      · rw [if_neg (by omega), if_neg h]
