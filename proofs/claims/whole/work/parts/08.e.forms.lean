/-! isChomsky; isGreibach -/
theorem s_X8_isTm_sy {q : PR} (h : okp q) (i : Nat) (σ : si_M) : si_sc gP nX8_isTerminal [.int (sy q i)] σ = some (some (.int (bI (decide (17 ≤ q.2.getD i 0)))), σ) := by
  rw [e_X8_isTerminal]
  by_cases hi : i < q.2.length
  · have := getD_pos h.2 hi
    rw [sy_in h hi]
    by_cases h16 : 17 ≤ q.2.getD i 0
    · rw [cF (nI_nlt (show 16 ≤ q.2.getD i 0 - 1 by omega) (by omega)), cF (nI_ge (show q.2.getD i 0 - 1 < 24 by omega) (by omega)), decide_eq_true h16]; rfl
    · rw [cT (nI_lt (show q.2.getD i 0 - 1 < 16 by omega) (by omega)), decide_eq_false h16]; rfl
  · rw [sy_out (by omega), cT (by decide), getD_out (by omega)]; rfl
def ntw (w : List Nat) : Bool := w.all (fun a => decide (a ≤ 16))
theorem all_65535 (w : List Nat) : w.all (fun a => bt (nI 65535) (a - 1)) = ntw w := by
  unfold ntw
  congr 1
  funext a
  rw [show nI 65535 = (65535 : Int32) from rfl, b_65535]
  by_cases h : a ≤ 16
  · rw [decide_eq_true h, decide_eq_true (by omega)]
  · rw [decide_eq_false h, decide_eq_false (by omega)]
def chB (q : PR) : Bool := (decide (q.2.length = 1) && decide (17 ≤ q.2.getD 0 0)) || (decide (q.2.length = 2) && (decide (q.2.getD 0 0 ≤ 16) && decide (q.2.getD 1 0 ≤ 16)))
def grB (q : PR) : Bool := decide (17 ≤ q.2.getD 0 0) && ntw (q.2.drop 1)
theorem s_X5_fitsChomsky {q : PR} (h : okp q) (σ : si_M) : si_sc gP nX5_fitsChomsky [.long (lN (en q))] σ = some (some (.int (bI (chB q))), σ) := by
  have hw := h.2.1
  rw [e_X5_fitsChomsky, s_X5_length h, ci_s]
  unfold chB
  by_cases h1 : q.2.length = 1
  · rw [nF (by rw [h1]), s_X5_symbolAt h (by decide), ci_s, s_X8_isTm_sy h, ci_s, bI_and, decide_eq_true h1, decide_eq_false (show ¬ q.2.length = 2 by omega), Bool.true_and, Bool.false_and, Bool.or_false]
  · rw [nT (nI_eqF h1 (by omega) (by decide)), decide_eq_false h1, Bool.false_and, Bool.false_or]
    by_cases h2 : q.2.length = 2
    · rw [nF (by rw [h2]), s_X5_staysIn h (Nat.zero_le _), ci_s, bz, List.drop_zero, all_65535, decide_eq_true h2, Bool.true_and]
      obtain ⟨a, b, e⟩ : ∃ a b, q.2 = [a, b] := by
        match hq : q.2, h2 with
        | [a, b], _ => exact ⟨a, b, rfl⟩
      rw [e]
      simp only [ntw, List.all_cons, List.all_nil, List.getD_cons_zero, List.getD_cons_succ, Bool.and_true]
      cases decide (a ≤ 16) <;> cases decide (b ≤ 16) <;> rfl
    · rw [nT (nI_eqF h2 (by omega) (by decide)), decide_eq_false h2]; rfl
theorem s_X5_fitsGreibach {q : PR} (h : okp q) (σ : si_M) : si_sc gP nX5_fitsGreibach [.long (lN (en q))] σ = some (some (.int (bI (grB q))), σ) := by
  rw [e_X5_fitsGreibach, s_X5_symbolAt h (by decide), ci_s, s_X8_isTm_sy h, ci_s, bz]
  unfold grB
  by_cases h0 : 17 ≤ q.2.getD 0 0
  · have hl : 1 ≤ q.2.length := by
      rcases Nat.eq_zero_or_pos q.2.length with e | e
      · rw [getD_out (by omega)] at h0; omega
      · exact e
    rw [decide_eq_true h0, cond_true, s_X5_staysIn h hl, ci_s, bz, all_65535, Bool.true_and]
    cases ntw (q.2.drop 1) <;> rfl
  · rw [decide_eq_false h0, cond_false]; rfl
theorem s_X8_isChomsky {σ : si_M} {A : AS} (hA : Aok A) (h : CI σ A) : si_sc gP nX8_isChomsky [.ref 0] σ = some (some (.int (bI (A.2.1.all chB))), σ) := by
  have hm := h.2.2.1
  have hG := hA.2.1
  have hl := hG.1
  rw [e_X8_isChomsky]
  have := lp_all (F := fun i => si_sem gP nX8_isChomsky 2 [.ref 0, .int (nI i)] [] σ) (G := A.2.1) (p := chB) (X := some (some (.int (nI 0)), σ)) (Y := some (some (.int (nI 1)), σ)) (fun i hi => by
    rw [h_X8_isChomsky_2, e_X2_count 3 (by decide), ci_s, hm.1, cF (nI_ge hi (by omega)), s_X2_at (by decide) hm hl hi, cl_s, s_X5_fitsChomsky (hG.2.1.at hi), ci_s, bn, nI_add]) (by
    rw [h_X8_isChomsky_2, e_X2_count 3 (by decide), ci_s, hm.1, cT (nI_le (Nat.le_refl _) (show A.2.1.length < 2 ^ 31 by omega))]) 0 (Nat.zero_le _)
  refine this.trans ?_
  rw [List.drop_zero]
  cases A.2.1.all chB <;> rfl
theorem s_X8_isGreibach {σ : si_M} {A : AS} (hA : Aok A) (h : CI σ A) : si_sc gP nX8_isGreibach [.ref 0] σ = some (some (.int (bI (A.2.1.all grB))), σ) := by
  have hm := h.2.2.1
  have hG := hA.2.1
  have hl := hG.1
  rw [e_X8_isGreibach]
  have := lp_all (F := fun i => si_sem gP nX8_isGreibach 2 [.ref 0, .int (nI i)] [] σ) (G := A.2.1) (p := grB) (X := some (some (.int (nI 0)), σ)) (Y := some (some (.int (nI 1)), σ)) (fun i hi => by
    rw [h_X8_isGreibach_2, e_X2_count 3 (by decide), ci_s, hm.1, cF (nI_ge hi (by omega)), s_X2_at (by decide) hm hl hi, cl_s, s_X5_fitsGreibach (hG.2.1.at hi), ci_s, bn, nI_add]) (by
    rw [h_X8_isGreibach_2, e_X2_count 3 (by decide), ci_s, hm.1, cT (nI_le (Nat.le_refl _) (show A.2.1.length < 2 ^ 31 by omega))]) 0 (Nat.zero_le _)
  refine this.trans ?_
  rw [List.drop_zero]
  cases A.2.1.all grB <;> rfl
theorem s_X9_isInChomsky {σ : si_M} {G : List PR} (h1 : σ.1 29 1 = nI G.length) (h2 : Row (σ.2 30) G) (hG : Gok G) : si_sc gP nX9_isInChomsky [.ref 29] σ = some (some (.int (bI (G.all chB))), σ) := by
  have hl := hG.1
  rw [e_X9_isInChomsky]
  refine (lp_and (F := fun i b => si_sem gP nX9_isInChomsky 4 [.ref 29, .int (bI b), .int (nI i), si_U, si_U, si_U] [] σ) (G := G) (p := chB) (fun i b hi => ?_)).trans ?_
  · have hok := hG.2.1.at hi
    have hw := hok.2.1
    have t1 : si_sem gP nX9_isInChomsky 84 [.ref 29, si_U, .int (nI i), si_U, si_U, si_U] [] σ = si_sem gP nX9_isInChomsky 4 [.ref 29, .int (bI true), .int (nI (i + 1)), si_U, si_U, si_U] [] σ := by rw [h_X9_isInChomsky_84, nI_add]; rfl
    have t0 : si_sem gP nX9_isInChomsky 88 [.ref 29, si_U, .int (nI i), si_U, si_U, si_U] [] σ = si_sem gP nX9_isInChomsky 4 [.ref 29, .int (bI false), .int (nI (i + 1)), si_U, si_U, si_U] [] σ := by rw [h_X9_isInChomsky_88, nI_add]; rfl
    have g0 := getD31 hok 0
    have g1 := getD31 hok 1
    have two : si_sem gP nX9_isInChomsky 42 [.ref 29, .int (bI b), .int (nI i), .long (lN (en G[i])), si_U, si_U] [] σ = si_sem gP nX9_isInChomsky 4 [.ref 29, .int (bI (b && (decide (G[i].2.length = 2) && (decide (G[i].2.getD 0 0 ≤ 16) && decide (G[i].2.getD 1 0 ≤ 16))))), .int (nI (i + 1)), si_U, si_U, si_U] [] σ := by
      rw [h_X9_isInChomsky_42, bz]
      cases b with
      | false => rw [cond_false, t0]; rfl
      | true =>
        rw [cond_true, nF rfl, s_X9_size hok, ci_s]
        by_cases e2 : G[i].2.length = 2
        · have p0 := getD_pos hok.2 (show 0 < G[i].2.length by omega)
          have p1 := getD_pos hok.2 (show 1 < G[i].2.length by omega)
          rw [nF (by rw [e2]), s_X9_at hok (by decide), ci_s, s_X9_isNonterminal (by omega), ci_s, bz, s_X9_at hok (by decide), ci_s, s_X9_isNonterminal (by omega), ci_s, bz, t0, t1, decide_eq_true e2, decide_eq_true p0.1, decide_eq_true p1.1]
          cases decide (G[i].2.getD 0 0 ≤ 16) <;> cases decide (G[i].2.getD 1 0 ≤ 16) <;> rfl
        · rw [nT (nI_eqF e2 (by omega) (by decide)), t0, decide_eq_false e2]; rfl
    rw [h_X9_isInChomsky_4, h1, cF (nI_ge hi (by omega)), inT (by omega) (by decide), nI_clamp (by omega), h2.at hi, s_X9_size hok, ci_s]
    unfold chB
    by_cases e1 : G[i].2.length = 1
    · have p0 := getD_pos hok.2 (show 0 < G[i].2.length by omega)
      rw [nF (by rw [e1]), s_X9_at hok (by decide), ci_s, s_X9_isNonterminal (by omega), ci_s, bn, bz, decide_eq_true e1, decide_eq_true p0.1, nT (by decide), two, decide_eq_false (show ¬ G[i].2.length = 2 by omega), t0, t1]
      by_cases h16 : G[i].2.getD 0 0 ≤ 16
      · rw [decide_eq_true h16, decide_eq_false (show ¬ 17 ≤ G[i].2.getD 0 0 by omega)]
        cases b <;> rfl
      · rw [decide_eq_false h16, decide_eq_true (show 17 ≤ G[i].2.getD 0 0 by omega)]
        cases b <;> rfl
    · rw [nT (nI_eqF e1 (by omega) (by decide)), two, decide_eq_false e1, Bool.false_and, Bool.false_or]
  · rw [h_X9_isInChomsky_4, h1, cT (nI_le (Nat.le_refl _) (by omega)), bI_and]
theorem l_X9_isInGreibach_39 {σ : si_M} {G : List PR} (h2 : Row (σ.2 30) G) (hG : Gok G) {i : Nat} (hi : i < G.length) : ∀ (d j : Nat) (b : Bool), j + d = G[i].2.length ∨ (d = 0 ∧ G[i].2.length ≤ j ∧ j ≤ 1) → si_sem gP nX9_isInGreibach 39 [.ref 29, .int (bI b), .int (nI i), .int (nI j)] [] σ = si_sem gP nX9_isInGreibach 4 [.ref 29, .int (bI (b && ntw (G[i].2.drop j))), .int (nI (i + 1)), si_U] [] σ := by
  have hl := hG.1
  have hok := hG.2.1.at hi
  have hw := hok.2.1
  intro d
  induction d with
  | zero =>
    intro j b hd
    rw [h_X9_isInGreibach_39, inT (by omega) (by decide), nI_clamp (by omega), h2.at hi, s_X9_at hok (by omega), ci_s, getD_out (by omega), cT (nI_le (Nat.le_refl 0) (by decide)), nI_add, List.drop_eq_nil_of_le (by omega)]
    simp only [ntw, List.all_nil, Bool.and_true]
  | succ d ih =>
    intro j b hd
    have hj : j < G[i].2.length := by omega
    have hp := hok.2.2 _ (List.getElem_mem hj)
    rw [h_X9_isInGreibach_39, inT (by omega) (by decide), nI_clamp (by omega), h2.at hi, s_X9_at hok (by omega), ci_s, gD hj, cF (nI_ge (show 0 < G[i].2[j] by omega) (by omega)), bz, inT (by omega) (by decide), h2.at hi, s_X9_at hok (by omega), ci_s, gD hj, s_X9_isNonterminal (by omega), ci_s, bz, nI_add, decide_eq_true hp.1, Bool.true_and, show nI 0 = bI false from rfl, show nI 1 = bI true from rfl, ih (j + 1) _ (by omega), ih (j + 1) _ (by omega), List.drop_eq_getElem_cons hj]
    simp only [ntw, List.all_cons]
    cases b <;> cases decide (G[i].2[j] ≤ 16) <;> rfl
theorem s_X9_isInGreibach {σ : si_M} {G : List PR} (h1 : σ.1 29 1 = nI G.length) (h2 : Row (σ.2 30) G) (hG : Gok G) : si_sc gP nX9_isInGreibach [.ref 29] σ = some (some (.int (bI (G.all grB))), σ) := by
  have hl := hG.1
  rw [e_X9_isInGreibach]
  refine (lp_and (F := fun i b => si_sem gP nX9_isInGreibach 4 [.ref 29, .int (bI b), .int (nI i), si_U] [] σ) (G := G) (p := grB) (fun i b hi => ?_)).trans ?_
  · have hok := hG.2.1.at hi
    have hw := hok.2.1
    have g0 := getD31 hok 0
    have t : ∀ b, si_sem gP nX9_isInGreibach 39 [.ref 29, .int (bI b), .int (nI i), .int (nI 1)] [] σ = _ := fun b => l_X9_isInGreibach_39 h2 hG hi (G[i].2.length - 1) 1 b (by omega)
    rw [h_X9_isInGreibach_4, h1, cF (nI_ge hi (by omega)), bz, inT (by omega) (by decide), nI_clamp (by omega), h2.at hi, s_X9_at hok (by decide), ci_s, show [Value.ref 29, .int (nI 0), .int (nI i), .int (nI 1)] = [Value.ref 29, .int (bI false), .int (nI i), .int (nI 1)] from rfl, show [Value.ref 29, .int (nI 1), .int (nI i), .int (nI 1)] = [Value.ref 29, .int (bI true), .int (nI i), .int (nI 1)] from rfl, t, t]
    unfold grB
    by_cases h16 : 17 ≤ G[i].2.getD 0 0
    · rw [cF (nI_ge (show 16 < G[i].2.getD 0 0 by omega) (by omega)), decide_eq_true h16]
      cases b <;> rfl
    · rw [cT (nI_le (show G[i].2.getD 0 0 ≤ 16 by omega) (by omega)), decide_eq_false h16]
      cases b <;> rfl
  · rw [h_X9_isInGreibach_4, h1, cT (nI_le (Nat.le_refl _) (by omega)), bI_and]
theorem fact_isChomsky (σ : si_M) (h : gI σ) : ∃ (r : Int32) (σ1 σ2 : si_M), si_sc gP nX8_isChomsky (.ref 0 :: []) σ = some (some (.int r), σ1) ∧ si_sc gP nX9_isChomsky (.ref 29 :: []) σ1 = some (some (.int r), σ2) ∧ gI σ2 := by
  refine fact_i h (fun A => bI (A.2.1.all chB)) id (fun A h => h) (fun A σ hA h => ⟨_, s_X8_isChomsky hA h, h, KC.rf⟩) (fun A σ hA h => ⟨σ, ?_, h, KM.rf⟩)
  rw [e_X9_isChomsky, s_X9_isInChomsky h.2.2.1 h.2.2.2.1 hA.2.1, ci_s, bz]
  cases A.2.1.all chB <;> rfl
theorem fact_isGreibach (σ : si_M) (h : gI σ) : ∃ (r : Int32) (σ1 σ2 : si_M), si_sc gP nX8_isGreibach (.ref 0 :: []) σ = some (some (.int r), σ1) ∧ si_sc gP nX9_isGreibach (.ref 29 :: []) σ1 = some (some (.int r), σ2) ∧ gI σ2 := by
  refine fact_i h (fun A => bI (A.2.1.all grB)) id (fun A h => h) (fun A σ hA h => ⟨_, s_X8_isGreibach hA h, h, KC.rf⟩) (fun A σ hA h => ⟨σ, ?_, h, KM.rf⟩)
  rw [e_X9_isGreibach, s_X9_isInGreibach h.2.2.1 h.2.2.2.1 hA.2.1, ci_s, bz]
  cases A.2.1.all grB <;> rfl
