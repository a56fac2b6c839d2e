/-! THE STATIC METHODS ON PRODUCTIONS: class (X5, X8) and model (X9) -/
section PR
variable {q : Nat × List Nat} {σ : si_M}
theorem s_X5_left (h : okp q) (σ : si_M) : si_sc gP nX5_left [.long (lN (en q))] σ = some (some (.int (nI q.1)), σ) := by
  have h1 := en_lt h
  rw [e_X5_left, lush (by omega) (by decide), lN_i]
  have e := fa_mask (en q / 2 ^ 40) 4
  rw [show nI (2 ^ 4 - 1) = nI 15 from rfl] at e
  rw [e, show (2 : Nat) ^ 40 = 1099511627776 from rfl, en_left h, Nat.mod_eq_of_lt (by have := h.1; omega)]
theorem s_X9_left (h : okp q) (σ : si_M) : si_sc gP nX9_left [.long (lN (en q))] σ = some (some (.int (nI q.1)), σ) := by
  have h1 := en_lt h
  rw [e_X9_left, lshr' (by omega) (by decide), lN_i, show (2 : Nat) ^ 40 = 1099511627776 from rfl, en_left h]
/-- a symbol as the class has it -/
def sy (q : Nat × List Nat) (i : Nat) : Int32 := nI (q.2.getD i 0) - nI 1
theorem sy_in (h : okp q) {i : Nat} (hi : i < q.2.length) : sy q i = nI (q.2.getD i 0 - 1) := by
  unfold sy
  have h1 := (getD_pos h.2 hi).1
  exact pk_sub (b := 1) h1
theorem sy_out {i : Nat} (hi : q.2.length ≤ i) : sy q i = -1 := by
  unfold sy
  rw [getD_out hi]
  decide
theorem s_X5_symbolAt (h : okp q) {i : Nat} (hi : i < 2 ^ 31) (σ : si_M) : si_sc gP nX5_symbolAt [.long (lN (en q)), .int (nI i)] σ = some (some (.int (sy q i)), σ) := by
  rw [e_X5_symbolAt, cF (nI_nlt (Nat.zero_le i) hi)]
  by_cases h8 : i < 8
  · rw [cT (nI_lt h8 (by decide)), dig_l h h8, lN_i]
    rfl
  · rw [cF (nI_nlt (by omega) hi)]
    have := h.2.1
    rw [sy_out (by omega)]
theorem s_X9_at (h : okp q) {i : Nat} (hi : i < 2 ^ 31) (σ : si_M) : si_sc gP nX9_at [.long (lN (en q)), .int (nI i)] σ = some (some (.int (nI (q.2.getD i 0))), σ) := by
  rw [e_X9_at]
  by_cases h8 : i < 8
  · rw [cF (nI_ge h8 (by decide)), dig_i h h8]
  · rw [cT (nI_le (by omega) hi)]
    have := h.2.1
    rw [getD_out (by omega)]
theorem l_X5_length (h : okp q) (σ : si_M) : ∀ d k : Nat, k + d = q.2.length → si_sem gP nX5_length 2 [.long (lN (en q)), si_U, .int (nI k)] [] σ = some (some (.int (nI q.2.length)), σ) := by
  have hl := h.2.1
  intro d
  induction d with
  | zero =>
    intro k hk
    have hk : k = q.2.length := by omega
    rw [h_X5_length_2]
    by_cases h8 : k < 8
    · rw [cF (nI_ge h8 (by decide)), dig_l h h8, getD_out (by omega), cT ((lcmp0 (by decide)).mpr rfl), hk]
    · rw [cT (nI_le (by omega) (by omega)), hk]
  | succ d ih =>
    intro k hk
    have h8 : k < 8 := by omega
    have hp := getD_pos h.2 (k := k) (by omega)
    rw [h_X5_length_2, cF (nI_ge h8 (by decide)), dig_l h h8, cF (fun e => by have := (lcmp0 (by omega)).mp e; omega), nI_add]
    exact ih (k + 1) (by omega)
theorem s_X5_length (h : okp q) (σ : si_M) : si_sc gP nX5_length [.long (lN (en q))] σ = some (some (.int (nI q.2.length)), σ) := by
  rw [e_X5_length]
  exact l_X5_length h σ q.2.length 0 (by omega)
theorem l_X9_size (h : okp q) (σ : si_M) : ∀ d k : Nat, k + d = q.2.length → si_sem gP nX9_size 2 [.long (lN (en q)), si_U, .int (nI k)] [] σ = some (some (.int (nI q.2.length)), σ) := by
  have hl := h.2.1
  intro d
  induction d with
  | zero =>
    intro k hk
    have hk : k = q.2.length := by omega
    rw [h_X9_size_2, s_X9_at h (by omega), getD_out (by omega), ci_s, cT (by decide), hk]
  | succ d ih =>
    intro k hk
    have hp := getD_pos h.2 (k := k) (by omega)
    rw [h_X9_size_2, s_X9_at h (by omega), ci_s, cF (nI_ge (a := 0) (by omega) (by omega)), nI_add]
    exact ih (k + 1) (by omega)
theorem s_X9_size (h : okp q) (σ : si_M) : si_sc gP nX9_size [.long (lN (en q))] σ = some (some (.int (nI q.2.length)), σ) := by
  rw [e_X9_size]
  exact l_X9_size h σ q.2.length 0 (by omega)
/-- truth as the machine has it -/
def bI (b : Bool) : Int32 := if b then nI 1 else nI 0
theorem bI_and (b : Bool) : bI b &&& nI 1 = bI b := by cases b <;> rfl
theorem bI_0 (b : Bool) : bI b = nI 0 ↔ b = false := by cases b <;> decide
theorem s_X9_within (a b c : Int32) (σ : si_M) : si_sc gP nX9_within [.int a, .int b, .int c] σ = some (some (.int (bI (decide (b ≤ a) && decide (a ≤ c)))), σ) := by
  rw [e_X9_within]
  by_cases h1 : a < b
  · rw [cT h1, decide_eq_false (Int32.not_le.mpr h1)]
    rfl
  · rw [cF h1, decide_eq_true (Int32.not_lt.mp h1)]
    by_cases h2 : c < a
    · rw [cT h2, decide_eq_false (Int32.not_le.mpr h2)]
      rfl
    · rw [cF h2, decide_eq_true (Int32.not_lt.mp h2)]
      rfl
theorem s_X9_isNonterminal {a : Nat} (ha : a < 2 ^ 31) (σ : si_M) : si_sc gP nX9_isNonterminal [.int (nI a)] σ = some (some (.int (bI (decide (1 ≤ a) && decide (a ≤ 16)))), σ) := by
  rw [e_X9_isNonterminal, s_X9_within]
  have e1 : decide (nI 1 ≤ nI a) = decide (1 ≤ a) := decide_eq_decide.mpr (nI_leI (by decide) ha)
  have e2 : decide (nI a ≤ nI 16) = decide (a ≤ 16) := decide_eq_decide.mpr (nI_leI ha (by decide))
  rw [e1, e2, ci_s, bI_and]
theorem s_X8_isNonterminal {a : Nat} (ha : a < 2 ^ 31) (σ : si_M) : si_sc gP nX8_isNonterminal [.int (nI a)] σ = some (some (.int (bI (decide (a < 16)))), σ) := by
  rw [e_X8_isNonterminal, cF (nI_nlt (Nat.zero_le a) ha)]
  by_cases h : a < 16
  · rw [decide_eq_true h]
    first | (rw [cT (nI_lt h (by decide))]; rfl) | (rw [cF (nI_ge h (by decide))]; rfl)
  · rw [decide_eq_false h]
    first | (rw [cF (nI_nlt (b := 16) (by omega) ha)]; rfl) | (rw [cT (nI_le (a := 16) (by omega) ha)]; rfl)
theorem s_X8_isNonterminal_m (σ : si_M) : si_sc gP nX8_isNonterminal [.int (-1)] σ = some (some (.int (bI false)), σ) := by
  rw [e_X8_isNonterminal, cT (by decide)]
  rfl
/-- of a symbol of a production -/
theorem s_X8_isNt_sy (h : okp q) (i : Nat) (σ : si_M) : si_sc gP nX8_isNonterminal [.int (sy q i)] σ = some (some (.int (bI (decide (1 ≤ q.2.getD i 0) && decide (q.2.getD i 0 ≤ 16)))), σ) := by
  by_cases hi : i < q.2.length
  · have hp := getD_pos h.2 hi
    have e : decide (q.2.getD i 0 - 1 < 16) = decide (q.2.getD i 0 ≤ 16) := decide_eq_decide.mpr ⟨fun _ => by omega, fun _ => by omega⟩
    rw [sy_in h hi, s_X8_isNonterminal (by omega), decide_eq_true hp.1, Bool.true_and, e]
  · rw [sy_out (by omega), s_X8_isNonterminal_m, getD_out (by omega)]
    rfl
end PR
