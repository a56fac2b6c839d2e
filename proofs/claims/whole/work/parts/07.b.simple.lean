/-! SIMPLE CALLS: save, restore, symbol, isChomsky, isGreibach -/
theorem bn {α : Type} (b : Bool) (x y : α) : cond (!decide (bI b = nI 0)) x y = cond b x y := by cases b <;> rfl
theorem bz {α : Type} (b : Bool) (x y : α) : cond (decide (bI b = nI 0)) x y = cond b y x := by cases b <;> rfl
theorem clamp0 : (nI 0).toNatClampNeg = 0 := rfl
theorem bI_01 (b : Bool) : (decide (bI b = nI 0) || decide (bI b = nI 1)) = true := by cases b <;> rfl
/-- Grammar.copyFrom -/
theorem s_X2_copyFrom {g h : Nat} (hg : (g = 3 ∧ h = 5) ∨ (g = 3 ∧ h = 25) ∨ (g = 5 ∧ h = 3) ∨ (g = 25 ∧ h = 3) ∨ (g = 27 ∧ h = 25)) {σ : si_M} {S : List PR × Bool} (hm : Gm σ h S) (hl : S.1.length ≤ 60) : ∃ τ, si_sc gP nX2_copyFrom [.ref g, .ref h] σ = some (none, τ) ∧ Gm τ g S ∧ Keep [g, g + 1] σ τ := by
  have hne : h ≠ g := by omega
  have hne2 : h + 1 ≠ g + 1 := by omega
  rw [e_X2_copyFrom g h hg, hm.1]
  have e1 : (decide (nI 0 ≤ nI 0) && decide (nI 0 ≤ nI 0) && decide (nI 0 ≤ nI S.1.length) && decide ((nI 0).toNatClampNeg + (nI S.1.length).toNatClampNeg ≤ 60) && decide ((nI 0).toNatClampNeg + (nI S.1.length).toNatClampNeg ≤ 60) && true) = true := by
    rw [clamp0, nI_clamp (by omega), z0 S.1.length (by omega), decide_eq_true (show 0 + S.1.length ≤ 60 by omega)]
    rfl
  rw [e1, cond_true, sI_ne _ _ _ hne, sA_1, hm.2.1, bI_01, cond_true, clamp0, nI_clamp (by omega)]
  refine ⟨_, rfl, ⟨?_, ?_, ?_⟩, (Keep.sA σ (by simp) _).tr ((Keep.sI _ (by simp) _ _).tr (Keep.sI _ (by simp) _ _))⟩
  · rw [sI_nj _ _ _ (by decide), sI_same]
  · rw [sI_same]
  · intro i q hq
    have hi := (List.getElem?_eq_some_iff.mp hq).1
    rw [sI_2, sI_2, sA_same, pk_cpy_in (Nat.zero_le i) (by omega)]
    have e : 0 + (i - 0) = i := by omega
    rw [e]
    exact hm.2.2 i q hq
theorem fact_save (σ : si_M) (h : gI σ) : ∃ (r : Int32) (σ1 σ2 : si_M), si_sc gP nX8_save (.ref 0 :: []) σ = some (some (.int r), σ1) ∧ si_sc gP nX9_save (.ref 29 :: []) σ1 = some (some (.int r), σ2) ∧ gI σ2 := by
  refine fact_i h (fun A => nI A.2.1.length) (fun A => (A.1, A.2.1, some A.2.1)) (fun A h => ⟨h.1, h.2.1, fun T e => by cases e; exact h.2.1⟩) (fun A σ hA h => ?_) (fun A σ hA h => ?_)
  · obtain ⟨τ, e1, e2, e3⟩ := s_X2_copyFrom (g := 5) (h := 3) (by decide) h.2.2.1 hA.2.1.1
    rw [e_X8_save, e1, cv_s, e_X2_count 5 (by decide), ci_s, sI_ne _ _ _ (by decide), e2.1]
    have hk : Keep [0, 5, 6] σ (si_sI τ 0 3 (nI 1)) := (e3.mono (by decide)).tr (Keep.sI _ (by simp) _ _)
    refine ⟨_, rfl, ⟨?_, ?_, ?_, ?_, ?_⟩, hk.KC (by decide)⟩
    · rw [(hk 1 (by decide)).1]; exact h.1
    · rw [(hk 2 (by decide)).1]; exact h.2.1
    · exact h.2.2.1.keep hk (by decide) (by decide)
    · rw [sI_same]
    · exact e2.keep (Keep.sI (S := [0]) τ (by simp) _ _) (by decide) (by decide)
  · have hl := hA.2.1.1
    obtain ⟨τ, e1, e2, e3, e4⟩ := l_X9_save_15 A.2.1.length 0 A.2.1.length (si_sI (si_sI σ 29 4 (nI 1)) 29 3 (σ.1 29 1)) (by omega) hl (by rw [sI_nj _ _ _ (by decide), sI_nj _ _ _ (by decide)]; exact h.2.2.1)
    have hf : ∀ j, τ.1 29 j = (si_sI (si_sI σ 29 4 (nI 1)) 29 3 (σ.1 29 1)).1 29 j := fun j => by rw [e2]
    have h1 : τ.1 29 1 = nI A.2.1.length := by rw [hf, sI_nj _ _ _ (by decide), sI_nj _ _ _ (by decide)]; exact h.2.2.1
    rw [e_X9_save, e1, h_X9_save_15, h1, cT (nI_le (Nat.le_refl _) (by omega))]
    refine ⟨_, rfl, ⟨?_, ?_, h1, ?_, ?_, ?_, ?_⟩, fun k hk => ⟨?_, ?_⟩⟩
    · rw [hf, sI_nj _ _ _ (by decide), sI_nj _ _ _ (by decide)]; exact h.1
    · rw [e2, sI_ne _ _ _ (by decide), sI_ne _ _ _ (by decide)]; exact h.2.1
    · rw [e3 30 (by decide)]; exact h.2.2.2.1
    · rw [hf, sI_nj _ _ _ (by decide), sI_same]
    · rw [hf, sI_same]; exact h.2.2.1
    · intro i q hq
      have hi := (List.getElem?_eq_some_iff.mp hq).1
      rw [e4, if_pos (by omega)]
      exact h.2.2.2.1 i q hq
    · rw [e2, sI_ne _ _ _ (by omega), sI_ne _ _ _ (by omega)]
    · rw [e3 k (by omega)]
      rfl
theorem fact_restore (σ : si_M) (h : gI σ) : ∃ (r : Int32) (σ1 σ2 : si_M), si_sc gP nX8_restore (.ref 0 :: []) σ = some (some (.int r), σ1) ∧ si_sc gP nX9_restore (.ref 29 :: []) σ1 = some (some (.int r), σ2) ∧ gI σ2 := by
  refine fact_i h (fun A => match A.2.2 with
    | none => -9
    | some T => nI T.length) (fun A => match A.2.2 with
    | none => A
    | some T => (A.1, T, some T)) (fun A h => ?_) (fun A σ hA h => ?_) (fun A σ hA h => ?_)
  · cases hT : A.2.2 with
    | none => exact h
    | some T => exact ⟨h.1, h.2.2 T hT, fun T2 e => by cases e; exact h.2.2 T hT⟩
  · have h7 := h.2.2.2
    rw [e_X8_restore]
    cases hT : A.2.2 with
    | none =>
      rw [hT] at h7
      dsimp only at h7 ⊢
      rw [h7, nF rfl]
      exact ⟨σ, rfl, h, KC.rf⟩
    | some T =>
      rw [hT] at h7
      dsimp only at h7 ⊢
      obtain ⟨τ, e1, e2, e3⟩ := s_X2_copyFrom (g := 3) (h := 5) (by decide) h7.2 (hA.2.2 T hT).1
      rw [h7.1, nT (by decide), e1, cv_s, e_X2_count 3 (by decide), ci_s, e2.1]
      refine ⟨_, rfl, ⟨?_, ?_, e2, ?_, ?_⟩, e3.KC (by decide)⟩
      · rw [(e3 1 (by decide)).1]; exact h.1
      · rw [(e3 2 (by decide)).1]; exact h.2.1
      · rw [(e3 0 (by decide)).1]; exact h7.1
      · exact h7.2.keep e3 (by decide) (by decide)
  · have h7 := h.2.2.2.2
    rw [e_X9_restore]
    cases hT : A.2.2 with
    | none =>
      rw [hT] at h7
      dsimp only at h7 ⊢
      rw [h7, nF rfl]
      exact ⟨σ, rfl, h, KM.rf⟩
    | some T =>
      rw [hT] at h7
      dsimp only at h7 ⊢
      have hl := (hA.2.2 T hT).1
      obtain ⟨τ, e1, e2, e3, e4⟩ := l_X9_restore_20 T.length 0 T.length (si_sI σ 29 1 (σ.1 29 3)) (by omega) hl (by rw [sI_same]; exact h7.2.1)
      have hf : ∀ j, τ.1 29 j = (si_sI σ 29 1 (σ.1 29 3)).1 29 j := fun j => by rw [e2]
      have h1 : τ.1 29 1 = nI T.length := by rw [hf, sI_same]; exact h7.2.1
      rw [h7.1, nT (by decide), e1, h_X9_restore_20, h1, cT (nI_le (Nat.le_refl _) (by omega))]
      refine ⟨_, rfl, ⟨?_, ?_, h1, ?_, ?_, ?_, ?_⟩, fun k hk => ⟨?_, ?_⟩⟩
      · rw [hf, sI_nj _ _ _ (by decide)]; exact h.1
      · rw [e2, sI_ne _ _ _ (by decide)]; exact h.2.1
      · intro i q hq
        have hi : i < T.length := (List.getElem?_eq_some_iff.mp hq).1
        rw [e4, if_pos (by omega)]
        exact h7.2.2 i q hq
      · rw [hf, sI_nj _ _ _ (by decide)]; exact h7.1
      · rw [hf, sI_nj _ _ _ (by decide)]; exact h7.2.1
      · rw [e3 31 (by decide)]; exact h7.2.2
      · rw [e2, sI_ne _ _ _ (by omega)]
      · rw [e3 k (by omega)]
        rfl
/-- Grammar.at within the row -/
theorem s_X2_at {g : Nat} (hg : g = 3 ∨ g = 5 ∨ g = 25 ∨ g = 27) {σ : si_M} {S : List PR × Bool} (hm : Gm σ g S) (hl : S.1.length ≤ 60) {i : Nat} (hi : i < S.1.length) : si_sc gP nX2_at [.ref g, .int (nI i)] σ = some (some (.long (lN (en S.1[i]))), σ) := by
  rw [e_X2_at g hg, cF (nI_nlt (Nat.zero_le i) (by omega)), hm.1, cF (nI_ge hi (by omega)), inT (by omega) (by decide), nI_clamp (by omega), hm.2.2.at hi]
theorem s_X8_codeOf {a : Nat} (ha : a < 24) (σ : si_M) : si_sc gP nX8_codeOf [.int (nI a)] σ = some (some (.int (nI (if a < 16 then 65 + a else 81 + a))), σ) := by
  rw [e_X8_codeOf, s_X8_isNonterminal (by omega), ci_s, bz]
  by_cases h : a < 16
  · rw [decide_eq_true h, cond_true, if_pos h, nI_add]
  · rw [decide_eq_false h, cond_false, if_neg h, nI_add, pk_sub (by omega), show 97 + a - 16 = 81 + a by omega]
theorem s_X9_codeOf {a : Nat} (h1 : 1 ≤ a) (ha : a ≤ 24) (σ : si_M) : si_sc gP nX9_codeOf [.int (nI a)] σ = some (some (.int (nI (if a - 1 < 16 then 65 + (a - 1) else 81 + (a - 1)))), σ) := by
  rw [e_X9_codeOf, s_X9_isNonterminal (by omega), ci_s, bz, decide_eq_true h1, Bool.true_and]
  by_cases h : a ≤ 16
  · rw [decide_eq_true h, cond_true, if_pos (by omega), nI_add, pk_sub (by omega), show 65 + a - 1 = 65 + (a - 1) by omega]
  · rw [decide_eq_false h, cond_false, if_neg (by omega), nI_add, pk_sub (by omega), show 97 + a - 17 = 81 + (a - 1) by omega]
/-- the code of a symbol (1 to 24) -/
def cod (a : Nat) : Nat := if a - 1 < 16 then 65 + (a - 1) else 81 + (a - 1)
/-- symbol -/
def symR (i k : Int32) (A : AS) : Int32 := if h : ¬ i < nI 0 ∧ i.toNatClampNeg < A.2.1.length then (if ¬ k < nI 0 ∧ k ≤ nI (A.2.1[i.toNatClampNeg]'h.2).2.length then (if k = nI 0 then nI (65 + (A.2.1[i.toNatClampNeg]'h.2).1) else nI (cod ((A.2.1[i.toNatClampNeg]'h.2).2.getD (k.toNatClampNeg - 1) 0))) else -1) else -5
theorem nI_neg {x : Int32} (h : ¬ x < nI 0) : ∃ j, j < 2 ^ 31 ∧ x = nI j := nI_of h
theorem fact_symbol (i k : Int32) (σ : si_M) (h : gI σ) : ∃ (r : Int32) (σ1 σ2 : si_M), si_sc gP nX8_symbol (.ref 0 :: [.int i, .int k]) σ = some (some (.int r), σ1) ∧ si_sc gP nX9_symbol (.ref 29 :: [.int i, .int k]) σ1 = some (some (.int r), σ2) ∧ gI σ2 := by
  refine fact_i h (symR i k) id (fun A h => h) (fun A σ hA h => ?_) (fun A σ hA h => ?_)
  · refine ⟨σ, ?_, h, KC.rf⟩
    have hl := hA.2.1.1
    rw [e_X8_symbol]
    unfold symR
    by_cases h1 : i < nI 0
    · rw [cT h1, dif_neg (fun e => e.1 h1)]
    · obtain ⟨a, ha, rfl⟩ := nI_neg h1
      rw [cF h1, e_X2_count 3 (by decide), ci_s, h.2.2.1.1]
      simp only [nI_clamp ha]
      by_cases h2 : a < A.2.1.length
      · have hok := hA.2.1.2.1.at h2
        rw [cT (nI_lt h2 (by omega)), s_X2_at (by decide) h.2.2.1 hl h2, cl_s, dif_pos ⟨h1, h2⟩]
        by_cases h3 : k < nI 0
        · rw [cT h3, if_neg (fun e => e.1 h3)]
        · obtain ⟨b, hb, rfl⟩ := nI_neg h3
          have hw := hok.2.1
          simp only [nI_clamp hb]
          rw [cF h3, s_X5_length hok, ci_s]
          by_cases h4 : b ≤ A.2.1[a].2.length
          · rw [cT (nI_le h4 (by omega)), if_pos ⟨h3, nI_le h4 (by omega)⟩]
            by_cases h5 : b = 0
            · subst h5
              rw [nF rfl, s_X5_left hok, ci_s, s_X8_codeOf (by have := hok.1; omega), ci_s, if_pos rfl, if_pos hok.1]
            · have h6 : b - 1 < A.2.1[a].2.length := by omega
              have hp := getD_pos hok.2 h6
              rw [nT (nI_eqF h5 hb (by decide)), sub1 (by omega), s_X5_symbolAt hok (by omega), ci_s, sy_in hok h6, s_X8_codeOf (by omega), ci_s, if_neg (nI_eqF h5 hb (by decide))]
              rfl
          · rw [cF (nI_ge (by omega) hb), if_neg (fun e => h4 ((nI_leI hb (by omega)).mp e.2))]
      · rw [cF (nI_nlt (by omega) ha), dif_neg (fun e => h2 e.2)]
  · refine ⟨σ, ?_, h, KM.rf⟩
    have hl := hA.2.1.1
    rw [e_X9_symbol, s_X9_within, ci_s, bn, h.2.2.1]
    unfold symR
    by_cases h1 : i < nI 0
    · rw [decide_eq_false (Int32.not_le.mpr h1), Bool.false_and, cond_false, dif_neg (fun e => e.1 h1)]
    · obtain ⟨a, ha, rfl⟩ := nI_neg h1
      simp only [nI_clamp ha]
      by_cases h2 : a < A.2.1.length
      · have hok := hA.2.1.2.1.at h2
        rw [sub1 (by omega), z0 a ha, decide_eq_true (nI_le (show a ≤ A.2.1.length - 1 by omega) (by omega)), Bool.and_self, cond_true, inT (by omega) (by decide), h.2.2.2.1.at h2, s_X9_size hok, ci_s, s_X9_within, ci_s, bn, dif_pos ⟨h1, h2⟩]
        by_cases h3 : k < nI 0
        · rw [decide_eq_false (Int32.not_le.mpr h3), Bool.false_and, cond_false, if_neg (fun e => e.1 h3)]
        · obtain ⟨b, hb, rfl⟩ := nI_neg h3
          have hw := hok.2.1
          simp only [nI_clamp hb]
          rw [z0 b hb, Bool.true_and]
          by_cases h4 : b ≤ A.2.1[a].2.length
          · rw [decide_eq_true (nI_le h4 (by omega)), cond_true, if_pos ⟨h3, nI_le h4 (by omega)⟩]
            by_cases h5 : b = 0
            · subst h5
              rw [nF rfl, inT (by omega) (by decide), h.2.2.2.1.at h2, s_X9_left hok, ci_s, nI_add, if_pos rfl]
            · have h6 : b - 1 < A.2.1[a].2.length := by omega
              have hp := getD_pos hok.2 h6
              rw [nT (nI_eqF h5 hb (by decide)), inT (by omega) (by decide), h.2.2.2.1.at h2, sub1 (by omega), s_X9_at hok (by omega), ci_s, s_X9_codeOf hp.1 hp.2, ci_s, if_neg (nI_eqF h5 hb (by decide))]
              rfl
          · rw [decide_eq_false (fun e => h4 ((nI_leI hb (by omega)).mp e)), cond_false, if_neg (fun e => h4 ((nI_leI hb (by omega)).mp e.2))]
      · rw [dif_neg (fun e => h2 e.2)]
        have e : decide (nI a ≤ nI A.2.1.length - nI 1) = false := by
          apply decide_eq_false
          by_cases h0 : A.2.1.length = 0
          · rw [h0]
            intro e
            have e2 : (nI 0 - nI 1) < 0 := by decide
            exact h1 (Int32.lt_of_le_of_lt e e2)
          · rw [sub1 (by omega)]
            exact nI_ge (by omega) ha
        rw [e, Bool.and_false, cond_false]
