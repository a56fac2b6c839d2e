/-! removeLeftRecursion -/
theorem fact_removeLeftRecursion (σ : si_M) (h : gI σ) : ∃ (r : Int32) (σ1 σ2 : si_M), si_sc gP nX8_removeLeftRecursion (.ref 0 :: []) σ = some (some (.int r), σ1) ∧ si_sc gP nX9_removeLeftRecursion (.ref 29 :: []) σ1 = some (some (.int r), σ2) ∧ gI σ2 := by
  refine fact_i h (fun A => if A.2.1.any emB || cyB A.2.1 then -8 else finR (lrF A.2.1)) (fun A => if A.2.1.any emB || cyB A.2.1 then A else finA (lrF A.2.1) A) (fun A hA => ?_) (fun A σ hA h => ?_) (fun A σ hA h => ?_)
  · try dsimp only
    split
    · exact hA
    · exact finA_ok (lrF_ok hA.2.1) hA
  · try dsimp only
    obtain ⟨τ0, a1, a2, a3⟩ := s_X8_isEndless hA h
    rw [e_X8_removeLeftRecursion, a1, ci_s, bz]
    cases he : (A.2.1.any emB || cyB A.2.1) with
    | true => exact ⟨τ0, rfl, a2, a3⟩
    | false =>
      obtain ⟨τ1, b1, b2, b3⟩ := s_X7_begin hA a2
      obtain ⟨τ2, S, c1, c2, c3, c4, c5⟩ := s_X7_dropLeftRecursion b2 hA.2.1
      obtain ⟨ρ, d1, d2, d3⟩ := fin_c a2 (b3.tr c5) c2 c3 c4
      rw [cond_false, b1, cv_s, c1, cv_s, d1, ci_s]
      exact ⟨ρ, rfl, d2, a3.tr d3⟩
  · try dsimp only
    rw [e_X9_removeLeftRecursion, s_X9_hasEmpty h.2.2.1 h.2.2.2.1 hA.2.1, ci_s, bn]
    cases he : A.2.1.any emB with
    | true => exact ⟨σ, rfl, h, KM.rf⟩
    | false =>
      rw [cond_false, s_X9_hasUnitCycle hA h, ci_s, bz, Bool.false_or]
      have k0 := lm_mS (k := 40) (by decide) σ (clw (uns A.2.1))
      cases hc : cyB A.2.1 with
      | true => exact ⟨_, rfl, h.sc k0, km_of k0⟩
      | false =>
        obtain ⟨τ1, b1, b2, b3⟩ := s_X9_start hA (h.sc k0)
        obtain ⟨τ2, S, c1, c2, c3, c4, c5⟩ := s_X9_unwindAll b2 hA.2.1
        obtain ⟨ρ, d1, d2, d3⟩ := fin_m h ((k0.tr b3).tr c5) c2 c3 c4
        rw [cond_false, b1, cv_s, c1, cv_s, d1, ci_s]
        exact ⟨ρ, rfl, d2, d3⟩
