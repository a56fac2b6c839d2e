/-! firstError and load -/
theorem cadd_len (p : PR) {S : List PR × Bool} (h : S.1.length < 60) : (cadd (some p) S).1.length ≤ S.1.length + 1 ∧ (cadd (some p) S).2 = S.2 := by
  simp only [cadd]
  split
  · exact ⟨by omega, rfl⟩
  · first
    | (rw [if_pos h]; exact ⟨by rw [ins_len]; exact Nat.le_refl _, rfl⟩)
    | (refine ⟨?_, rfl⟩; show (ins p S.1).length ≤ _; rw [ins_len]; exact Nat.le_refl _)
theorem rd_fl : ∀ (B : List Nat) (s s' : RS), s.2.2.2 = false → s.2.2.1.length + B.length + (if s.1 = 0 then 0 else 1) ≤ 60 → rdf B s = some s' → s'.2.2.2 = false ∧ s'.2.2.1.length + (if s'.1 = 0 then 0 else 1) ≤ 60 := by
  intro B
  induction B with
  | nil =>
    intro s s' h1 h2 h3
    simp only [rdf] at h3
    cases h3
    exact ⟨h1, by simpa using h2⟩
  | cons c B ih =>
    intro s s' h1 h2 h3
    simp only [rdf] at h3
    rw [List.length_cons] at h2
    split at h3
    · cases h3
    · rename_i t ht
      refine ih t s' ?_ ?_ h3
      · unfold tk at ht
        split at ht
        · split at ht
          · cases ht; exact h1
          · cases ht
        · split at ht
          · split at ht
            · cases ht; exact h1
            · cases ht
          · split at ht
            · cases ht
              rename_i e0 e1 _
              rw [if_neg e0] at h2
              show (cadd (some s.2.1) s.2.2).2 = false
              rw [(cadd_len s.2.1 (by omega)).2]; exact h1
            · split at ht
              · cases ht
              · cases ht; exact h1
      · unfold tk at ht
        split at ht
        · rename_i e0
          rw [if_pos e0] at h2
          split at ht
          · cases ht
            show s.2.2.1.length + B.length + 1 ≤ 60
            omega
          · cases ht
        · rename_i e0
          rw [if_neg e0] at h2
          split at ht
          · split at ht
            · cases ht
              show s.2.2.1.length + B.length + 1 ≤ 60
              omega
            · cases ht
          · split at ht
            · cases ht
              have := (cadd_len s.2.1 (S := s.2.2) (by omega)).1
              show (cadd (some s.2.1) s.2.2).1.length + B.length + (if (if c = 59 then 0 else 2) = 0 then 0 else 1) ≤ 60
              have h5 : ∀ b : Nat, (if b = 0 then 0 else 1) ≤ 1 := fun b => by split <;> omega
              have := h5 (if c = 59 then 0 else 2)
              omega
            · split at ht
              · cases ht
              · cases ht
                show s.2.2.1.length + B.length + 1 ≤ 60
                omega
theorem s_X3_readInto {σ : si_M} {A : AS} (hA : Aok A) (h : CI σ A) {s' : RS} (hr : rdf A.1 S0 = some s') : ∃ τ, si_sc gP nX3_readInto [.ref 1, .ref 3] σ = some (none, τ) ∧ Gm τ 3 (cadd (some s'.2.1) s'.2.2) ∧ Keep [3, 4] σ τ := by
  have hl := hA.1.1
  have key : ∀ (d i : Nat) (s : RS) (τ : si_M), i + d = A.1.length → Rok s → rdf (A.1.drop i) s = some s' → Gm τ 3 s.2.2 → Keep [3, 4] σ τ → ∃ ρ, si_sem gP nX3_readInto 12 [.ref 1, .ref 3, .int (cst s), .long (lN (en s.2.1)), si_U, .int (nI i), si_U] [] τ = some (none, ρ) ∧ Gm ρ 3 (cadd (some s'.2.1) s'.2.2) ∧ Keep [3, 4] σ ρ := by
    intro d
    induction d with
    | zero =>
      intro i s τ hd hs hf hm hk
      rw [List.drop_eq_nil_of_le (by omega)] at hf
      simp only [rdf] at hf
      have e := Option.some.inj hf
      rw [← e]
      obtain ⟨ρ, r1, r2, r3⟩ := s_X2_add (by decide) hm hs.2.2.1 (o := some s.2.1) (fun p hp => by cases hp; exact hs.2.1)
      rw [h_X3_readInto_12, (hk 1 (by decide)).1, h.1, cT (nI_le (show A.1.length ≤ i by omega) (by omega)), show lN (en s.2.1) = pv (some s.2.1) from rfl, r1, cv_s]
      exact ⟨ρ, rfl, r2, hk.tr r3⟩
    | succ d ih =>
      intro i s τ hd hs hf hm hk
      have hi : i < A.1.length := by omega
      have hc := hA.1.2 _ (List.getElem_mem hi)
      have hsy := sym_le A.1[i]
      rw [List.drop_eq_getElem_cons hi] at hf
      simp only [rdf] at hf
      split at hf
      · cases hf
      · rename_i t ht
        have ht' := tk_ok hs ht
        have hsa : ∀ τ, si_sc gP nX3_stateAfter [.int (cst s), .int (nI A.1[i])] τ = some (some (.int (cst t)), τ) := fun τ => by rw [s_X3_stateAfter hs (by omega), ht]
        have hadd := s_X2_add (by decide) hm hs.2.2.1 (o := some s.2.1) (fun p hp => by cases hp; exact hs.2.1)
        obtain ⟨ρ, r1, r2, r3⟩ := hadd
        rw [h_X3_readInto_12, (hk 1 (by decide)).1, h.1, cF (nI_ge hi (by omega)), inT (by omega) (by decide), nI_clamp (by omega), (hk 2 (by decide)).1, h.2.1.at hi, hsa, show lN (en s.2.1) = pv (some s.2.1) from rfl, r1, cv_s, show pv (some s.2.1) = lN (en s.2.1) from rfl, s_X5_cut hs.2.1 (Nat.zero_le _), cl_s, hsa, ci_s, s_X8_symbolOf (by omega), ci_s, nI_add, List.take_zero]
        unfold tk at ht
        split at ht
        · rename_i e0
          split at ht
          · rename_i hy
            cases ht
            rw [show cst s = -2 from by unfold cst; rw [if_pos e0], nF rfl, ci_s, sub1 (by omega), s_X5_withoutRight (by omega), cl_s, show (-2 : Int32) = cst s from by unfold cst; rw [if_pos e0], hsa, ci_s]
            obtain ⟨ρ', q1, q2⟩ := ih (i + 1) _ τ (by omega) ht' hf hm hk
            exact ⟨ρ', by rw [← q1], q2⟩
          · cases ht
        · rename_i e0
          split at ht
          · rename_i e1
            split at ht
            · rename_i h58
              have e3 := hs.2.2.2 e1
              have ep : s.2.1 = (s.2.1.1, []) := by rw [← e3]
              cases ht
              have ec : cst s = -1 := by unfold cst; rw [if_neg e0, if_pos e1]
              rw [nT (by rw [ec]; decide), cF (nI_eqF (show A.1[i] ≠ 124 by omega) (by omega) (by decide)), nT (nI_eqF (show A.1[i] ≠ 59 by omega) (by omega) (by decide)), cT ec, ep]
              obtain ⟨ρ', q1, q2⟩ := ih (i + 1) _ τ (by omega) ht' hf hm hk
              exact ⟨ρ', by rw [← q1], q2⟩
            · cases ht
          · rename_i e1
            have hw := hs.2.1.2.1
            have ec : cst s = nI s.2.1.2.length := by unfold cst; rw [if_neg e0, if_neg e1]
            rw [nT (by rw [ec]; exact nI_m (by decide) (by omega))]
            split at ht
            · rename_i hsep
              cases ht
              by_cases h124 : A.1[i] = 124
              · rw [cT (by rw [h124])]
                obtain ⟨ρ', q1, q2⟩ := ih (i + 1) _ ρ (by omega) ht' hf r2 (hk.tr r3)
                exact ⟨ρ', by rw [← q1], q2⟩
              · rw [cF (nI_eqF h124 (by omega) (by decide)), nF (by rw [show A.1[i] = 59 by omega])]
                obtain ⟨ρ', q1, q2⟩ := ih (i + 1) _ ρ (by omega) ht' hf r2 (hk.tr r3)
                exact ⟨ρ', by rw [← q1], q2⟩
            · rename_i hsep
              rw [cF (nI_eqF (show A.1[i] ≠ 124 by omega) (by omega) (by decide)), nT (nI_eqF (show A.1[i] ≠ 59 by omega) (by omega) (by decide)), cF (by rw [ec]; exact nI_m (by decide) (by omega))]
              split at ht
              · cases ht
              · rename_i hn
                cases ht
                rw [sub1 (by omega), ci_s, s_X5_extended hs.2.1 (by omega), cl_s, hsa, ci_s]
                unfold ext
                rw [if_pos (by omega)]
                obtain ⟨ρ', q1, q2⟩ := ih (i + 1) _ τ (by omega) ht' hf hm hk
                exact ⟨ρ', q1, q2⟩
  rw [e_X3_readInto, e_X2_clear 3 (by decide), cv_s]
  have hk0 : Keep [3, 4] σ (si_sI σ 3 1 (nI 0)) := Keep.sI σ (by decide) 1 _
  have hm0 : Gm (si_sI σ 3 1 (nI 0)) 3 ([], false) := ⟨sI_same _ _ _ _, by rw [sI_nj σ 3 _ (by decide)]; exact h.2.2.1.2.1, fun i q hq => by simp at hq⟩
  have := key A.1.length 0 S0 _ (by omega) S0_ok (by rw [List.drop_zero]; exact hr) hm0 hk0
  exact this
theorem Nx.of {σ τ : si_M} {S : List PR × Bool} {F Z : List Nat} (h : Nx σ S) (hk : KeepM F Z σ τ) (h11 : 11 ∉ F) (h12 : 12 ∉ F) (h33 : 33 ∉ Z) : Nx τ S := ⟨by rw [(hk.2 11 h11).1]; exact h.1, by rw [(hk.2 12 h12).1]; exact h.2.1, by rw [(hk.1 33 (by decide) h33).2]; exact h.2.2⟩
/-- the model's reader -/
def RM (τ : si_M) (s : RS) : Prop := Nx τ s.2.2 ∧ τ.1 29 7 = nI s.1 ∧ (s.1 ≠ 0 → τ.2 29 8 = lN (en s.2.1)) ∧ (s.1 = 2 → τ.1 29 9 = nI s.2.1.2.length)
theorem s_X9_takes {τ : si_M} {s : RS} (hs : Rok s) (h : RM τ s) {c : Nat} (hc : c < 2 ^ 31) : ∃ ρ, si_sc gP nX9_takes [.ref 29, .int (nI c)] τ = some (some (.int (bI (tk s c).isSome)), ρ) ∧ (∀ s', tk s c = some s' → RM ρ s') ∧ KeepM [7, 8, 9, 11, 12] [33] τ ρ := by
  obtain ⟨n1, n2, n3, n4⟩ := h
  have hy := sym_le c
  have hle := hs.1
  have hw := hs.2.1.2.1
  have hl16 := hs.2.1.1
  rw [e_X9_takes, s_X9_symbolOf hc, ci_s, n2]
  by_cases e0 : s.1 = 0
  · have k1 : KeepM [7, 8] [] τ (si_sI (si_sJ τ 29 8 (si_lshl (nI (sym c) - nI 1).toInt64 (nI 40))) 29 7 (nI 1)) := (KeepM.sJ τ (by decide) _).tr (KeepM.sI _ (by decide) _)
    rw [nF (by rw [e0]), s_X9_isNonterminal (by omega), ci_s, bI_and]
    by_cases hh : 1 ≤ sym c ∧ sym c ≤ 16
    · have ht : tk s c = some (1, (sym c - 1, []), s.2.2) := by unfold tk; rw [if_pos e0, if_pos hh]
      rw [ht, decide_eq_true hh.1, decide_eq_true hh.2]
      refine ⟨_, rfl, fun s' e => ?_, k1.mono (by decide) (by decide)⟩
      have e := Option.some.inj e
      rw [← e]
      refine ⟨n1.of k1 (by decide) (by decide) (by decide), sI_same _ _ _ _, fun _ => ?_, fun h => by cases h⟩
      rw [sI_2, sJ_same, sub1 (by omega), i2l (by omega), lshl' (by decide), en_nil]
    · have ht : tk s c = none := by unfold tk; rw [if_pos e0, if_neg hh]
      have eb : (decide (1 ≤ sym c) && decide (sym c ≤ 16)) = false := by
        rw [Bool.and_eq_false_iff, decide_eq_false_iff_not, decide_eq_false_iff_not]
        omega
      rw [ht, eb]
      exact ⟨_, rfl, (fun s' e => by cases e), k1.mono (by decide) (by decide)⟩
  · rw [nT (nI_eqF e0 (by omega) (by decide))]
    by_cases e1 : s.1 = 1
    · have k1 : KeepM [7, 9] [] τ (si_sI (si_sI τ 29 7 (nI 2)) 29 9 (nI 0)) := (KeepM.sI τ (by decide) _).tr (KeepM.sI _ (by decide) _)
      rw [nF (by rw [e1])]
      have hp : s.2.1 = (s.2.1.1, []) := by rw [← hs.2.2.2 e1]
      by_cases h58 : c = 58
      · have ht : tk s c = some (2, (s.2.1.1, []), s.2.2) := by unfold tk; rw [if_neg e0, if_pos e1, if_pos h58]
        rw [nF (by rw [h58]), ht]
        refine ⟨_, rfl, fun s' e => ?_, k1.mono (by decide) (by decide)⟩
        have e := Option.some.inj e
        rw [← e]
        refine ⟨n1.of k1 (by decide) (by decide) (by decide), ?_, fun _ => ?_, fun _ => sI_same _ _ _ _⟩
        · rw [sI_nj _ 29 _ (by decide), sI_same]
        · rw [sI_2, sI_2, n3 e0]; rw [← hp]
      · have ht : tk s c = none := by unfold tk; rw [if_neg e0, if_pos e1, if_neg h58]
        rw [nT (nI_eqF h58 hc (by decide)), ht]
        exact ⟨_, rfl, (fun s' e => by cases e), k1.mono (by decide) (by decide)⟩
    · have e2 : s.1 = 2 := by omega
      rw [nT (nI_eqF e1 (by omega) (by decide)), n3 e0, n4 e2]
      obtain ⟨ρ, r1, r2, r3⟩ := s_X9_put n1 hs.2.2.1 hs.2.1
      have r8 : ρ.2 29 8 = lN (en s.2.1) := by rw [(r3.2 8 (by decide)).2]; exact n3 e0
      have sep : ∀ (v : Nat), v ≤ 2 → c = 124 ∨ c = 59 → v = (if c = 59 then 0 else 2) → ∃ ρ', some (some (Value.int (nI 1)), si_sI (si_sI (si_sJ ρ 29 8 (si_lshl (nI s.2.1.1).toInt64 (nI 40))) 29 9 (nI 0)) 29 7 (nI v)) = some (some (.int (bI (tk s c).isSome)), ρ') ∧ (∀ s', tk s c = some s' → RM ρ' s') ∧ KeepM [7, 8, 9, 11, 12] [33] τ ρ' := by
        intro v hv hcs hvv
        have ht : tk s c = some (v, (s.2.1.1, []), cadd (some s.2.1) s.2.2) := by unfold tk; rw [if_neg e0, if_neg e1, if_pos hcs, hvv]
        have k2 : KeepM [7, 8, 9] [] ρ (si_sI (si_sI (si_sJ ρ 29 8 (si_lshl (nI s.2.1.1).toInt64 (nI 40))) 29 9 (nI 0)) 29 7 (nI v)) := ((KeepM.sJ ρ (by decide) _).tr (KeepM.sI _ (by decide) _)).tr (KeepM.sI _ (by decide) _)
        rw [ht]
        refine ⟨_, rfl, fun s' e => ?_, (r3.mono (by decide) (by decide)).tr (k2.mono (by decide) (by decide))⟩
        have e := Option.some.inj e
        rw [← e]
        refine ⟨r2.of k2 (by decide) (by decide) (by decide), sI_same _ _ _ _, fun _ => ?_, fun _ => ?_⟩
        · rw [sI_2, sI_2, sJ_same, i2l (by omega), lshl' (by decide), en_nil]
        · rw [sI_nj _ 29 _ (by decide), sI_same]; rfl
      by_cases h124 : c = 124
      · rw [cT (by rw [h124]), r1, cv_s, r8, s_X9_left hs.2.1, ci_s, nT (nI_eqF (show c ≠ 59 by omega) hc (by decide))]
        exact sep 2 (by omega) (Or.inl h124) (by rw [if_neg (by omega)])
      · rw [cF (nI_eqF h124 hc (by decide))]
        by_cases h59 : c = 59
        · rw [nF (by rw [h59]), r1, cv_s, r8, s_X9_left hs.2.1, ci_s, nF (by rw [h59])]
          exact sep 0 (by omega) (Or.inr h59) (by rw [if_pos h59])
        · rw [nT (nI_eqF h59 hc (by decide))]
          by_cases hz : sym c = 0
          · have ht : tk s c = none := by unfold tk; rw [if_neg e0, if_neg e1, if_neg (by omega), if_pos (Or.inl hz)]
            rw [cT (by rw [hz]), ht]
            exact ⟨τ, rfl, (fun s' e => by cases e), KeepM.rf⟩
          · rw [cF (nI_eqF hz (by omega) (by decide))]
            by_cases h8 : s.2.1.2.length = 8
            · have ht : tk s c = none := by unfold tk; rw [if_neg e0, if_neg e1, if_neg (by omega), if_pos (Or.inr (by omega))]
              rw [nF (by rw [h8]), ht]
              exact ⟨τ, rfl, (fun s' e => by cases e), KeepM.rf⟩
            · have ht : tk s c = some (2, (s.2.1.1, s.2.1.2 ++ [sym c]), s.2.2) := by unfold tk; rw [if_neg e0, if_neg e1, if_neg (by omega), if_neg (by omega)]
              rw [nT (nI_eqF h8 (by omega) (by decide)), ht, sh35' (by omega), i2l (by omega), lshl' (by omega), en_ext hs.2.1 (by omega) (by omega), nI_add]
              have k2 : KeepM [8, 9] [] τ (si_sI (si_sJ τ 29 8 (lN (en (s.2.1.1, s.2.1.2 ++ [sym c])))) 29 9 (nI (s.2.1.2.length + 1))) := (KeepM.sJ τ (by decide) _).tr (KeepM.sI _ (by decide) _)
              refine ⟨_, rfl, fun s' e => ?_, k2.mono (by decide) (by decide)⟩
              have e := Option.some.inj e
              rw [← e]
              refine ⟨n1.of k2 (by decide) (by decide) (by decide), ?_, fun _ => ?_, fun _ => ?_⟩
              · rw [sI_nj _ 29 _ (by decide), sJ_1, n2, e2]
              · rw [sI_2, sJ_same]
              · rw [sI_same]; simp
theorem s_X9_rightLength {σ : si_M} {A : AS} (hA : Aok A) (h : MI σ A) : ∃ τ, si_sc gP nX9_rightLength [.ref 29] σ = some (some (.int (nI (rdn A.1 S0))), τ) ∧ (∀ s', rdf A.1 S0 = some s' → RM τ s') ∧ KeepM [7, 8, 9, 11, 12] [33] σ τ := by
  have hl := hA.1.1
  have key : ∀ (d i : Nat) (s : RS) (τ : si_M), i + d = A.1.length → Rok s → RM τ s → KeepM [7, 8, 9, 11, 12] [33] σ τ → ∃ ρ, si_sem gP nX9_rightLength 11 [.ref 29, .int (nI i)] [] τ = some (some (.int (nI (i + rdn (A.1.drop i) s))), ρ) ∧ (∀ s', rdf (A.1.drop i) s = some s' → RM ρ s') ∧ KeepM [7, 8, 9, 11, 12] [33] σ ρ := by
    intro d
    induction d with
    | zero =>
      intro i s τ hd hs hm hk
      rw [h_X9_rightLength_11, (hk.2 5 (by decide)).1, h.1, cT (nI_le (show A.1.length ≤ i by omega) (by omega)), List.drop_eq_nil_of_le (by omega)]
      simp only [rdn, rdf]
      exact ⟨τ, rfl, fun s' e => by rw [← Option.some.inj e]; exact hm, hk⟩
    | succ d ih =>
      intro i s τ hd hs hm hk
      have hi : i < A.1.length := by omega
      have hc := hA.1.2 _ (List.getElem_mem hi)
      obtain ⟨ρ, r1, r2, r3⟩ := s_X9_takes hs hm (c := A.1[i]) (by omega)
      rw [h_X9_rightLength_11, (hk.2 5 (by decide)).1, h.1, cF (nI_ge hi (by omega)), inT (by omega) (by decide), nI_clamp (by omega), (hk.1 32 (by decide) (by decide)).1, h.2.1.at hi, r1, ci_s, bz, List.drop_eq_getElem_cons hi, nI_add]
      simp only [rdn, rdf]
      cases ht : tk s A.1[i] with
      | none => exact ⟨ρ, rfl, (fun s' e => by cases e), hk.tr r3⟩
      | some s' =>
        obtain ⟨ρ', q1, q2⟩ := ih (i + 1) s' ρ (by omega) (tk_ok hs ht) (r2 s' ht) (hk.tr r3)
        refine ⟨ρ', ?_, q2⟩
        simp only [Option.isSome_some, cond_true]
        rw [q1, Nat.add_assoc, Nat.add_comm 1]
  have hk0 : KeepM [7, 8, 9, 11, 12] [33] σ (si_sI (si_sI (si_sI σ 29 11 (nI 0)) 29 12 (nI 0)) 29 7 (nI 0)) := ((KeepM.sI σ (by decide) _).tr (KeepM.sI _ (by decide) _)).tr (KeepM.sI _ (by decide) _)
  have hm0 : RM (si_sI (si_sI (si_sI σ 29 11 (nI 0)) 29 12 (nI 0)) 29 7 (nI 0)) S0 := ⟨⟨by rw [sI_nj _ 29 _ (by decide), sI_nj _ 29 _ (by decide), sI_same]; rfl, by rw [sI_nj _ 29 _ (by decide), sI_same]; rfl, fun i q hq => by simp [S0] at hq⟩, sI_same _ _ _ _, fun h => absurd rfl h, fun h => by cases h⟩
  obtain ⟨ρ, q1, q2, q3⟩ := key A.1.length 0 S0 _ (by omega) S0_ok hm0 hk0
  rw [List.drop_zero] at q1 q2
  rw [Nat.zero_add] at q1
  rw [e_X9_rightLength, e_X9_begin, cv_s]
  exact ⟨ρ, q1, q2, q3⟩
theorem fact_firstError (σ : si_M) (h : gI σ) : ∃ (r : Int32) (σ1 σ2 : si_M), si_sc gP nX8_firstError (.ref 0 :: []) σ = some (some (.int r), σ1) ∧ si_sc gP nX9_firstError (.ref 29 :: []) σ1 = some (some (.int r), σ2) ∧ gI σ2 := by
  refine fact_i h (fun A => nI (rdn A.1 S0)) id (fun A h => h) (fun A σ hA h => ⟨σ, ?_, h, KC.rf⟩) (fun A σ hA h => ?_)
  · rw [e_X8_firstError, s_X3_errorPlace hA h, ci_s]
  · obtain ⟨τ, t1, t2, t3⟩ := s_X9_rightLength hA h
    rw [e_X9_firstError, t1, ci_s]
    have hk : KeepM mF mS σ τ := t3.mono (by decide) (by decide)
    exact ⟨τ, rfl, h.sc hk, km_of hk⟩
def ldA (A : AS) : AS := match rdf A.1 S0 with
  | some s => if s.1 = 2 then ([], (cadd (some s.2.1) s.2.2).1, A.2.2) else A
  | none => A
def ldR (A : AS) : Int32 := match rdf A.1 S0 with
  | some s => if s.1 = 2 then nI (cadd (some s.2.1) s.2.2).1.length else -4
  | none => -4
theorem rdf_ok : ∀ (B : List Nat) (s s' : RS), Rok s → rdf B s = some s' → Rok s' := by
  intro B
  induction B with
  | nil => intro s s' h e; simp only [rdf] at e; rw [← Option.some.inj e]; exact h
  | cons c B ih =>
    intro s s' h e
    simp only [rdf] at e
    split at e
    · cases e
    · rename_i t ht
      exact ih t s' (tk_ok h ht) e
theorem ld_ok {A : AS} (hA : Aok A) {s : RS} (hr : rdf A.1 S0 = some s) (h2 : s.1 = 2) : Gok (cadd (some s.2.1) s.2.2).1 ∧ (cadd (some s.2.1) s.2.2).2 = false := by
  have h1 := rdf_ok _ _ _ S0_ok hr
  have h3 := rd_fl A.1 S0 s rfl (by have := hA.1.1; show 0 + A.1.length + 0 ≤ 60; omega) hr
  rw [if_neg (by omega)] at h3
  refine ⟨Gok.add (fun p hp => by cases hp; exact h1.2.1) h1.2.2.1, ?_⟩
  rw [(cadd_len s.2.1 (by omega)).2]
  exact h3.1
theorem fact_load (σ : si_M) (h : gI σ) : ∃ (r : Int32) (σ1 σ2 : si_M), si_sc gP nX8_load (.ref 0 :: []) σ = some (some (.int r), σ1) ∧ si_sc gP nX9_load (.ref 29 :: []) σ1 = some (some (.int r), σ2) ∧ gI σ2 := by
  refine fact_i h ldR ldA (fun A h => ?_) (fun A σ hA h => ?_) (fun A σ hA h => ?_)
  · unfold ldA
    split
    · rename_i s hr
      split
      · rename_i h2
        exact ⟨⟨by simp, fun c hc => by cases hc⟩, (ld_ok h hr h2).1, h.2.2⟩
      · exact h
    · exact h
  · rw [e_X8_load, s_X3_isGrammar hA h, ci_s, bn]
    unfold ldR ldA
    cases hr : rdf A.1 S0 with
    | none => exact ⟨σ, rfl, h, KC.rf⟩
    | some s =>
      simp only []
      by_cases h2 : s.1 = 2
      · obtain ⟨τ, t1, t2, t3⟩ := s_X3_readInto hA h hr
        obtain ⟨o1, o2⟩ := ld_ok hA hr h2
        have hk : Keep [1, 3, 4] σ (si_sI τ 1 1 (nI 0)) := (t3.mono (by decide)).tr (Keep.sI τ (by decide) 1 _)
        have hm : Gm (si_sI τ 1 1 (nI 0)) 3 (cadd (some s.2.1) s.2.2) := t2.keep (Z := [1]) (Keep.sI τ (by decide) 1 _) (by decide) (by decide)
        rw [decide_eq_true h2, cond_true, t1, cv_s, e_X3_clear, cv_s, e_X2_count 3 (by decide), ci_s, hm.1, if_pos h2, if_pos h2]
        refine ⟨_, rfl, ⟨sI_same _ _ _ _, Cds.nil _, ?_, ?_⟩, hk.KC (by decide)⟩
        · have e : cadd (some s.2.1) s.2.2 = ((cadd (some s.2.1) s.2.2).1, false) := by rw [← o2]
          rw [← e]; exact hm
        · have h7 := h.2.2.2
          show (match A.2.2 with
            | none => (si_sI τ 1 1 (nI 0)).1 0 3 = nI 0
            | some T => (si_sI τ 1 1 (nI 0)).1 0 3 = nI 1 ∧ Gm (si_sI τ 1 1 (nI 0)) 5 (T, false))
          cases hT : A.2.2 with
          | none => rw [hT] at h7; show (si_sI τ 1 1 (nI 0)).1 0 3 = nI 0; rw [(hk 0 (by decide)).1]; exact h7
          | some T => rw [hT] at h7; exact ⟨by rw [(hk 0 (by decide)).1]; exact h7.1, h7.2.keep hk (by decide) (by decide)⟩
      · rw [decide_eq_false h2, cond_false, if_neg h2, if_neg h2]
        exact ⟨σ, rfl, h, KC.rf⟩
  · obtain ⟨τ, t1, t2, t3⟩ := s_X9_rightLength hA h
    have hl := hA.1.1
    have hk : KeepM mF mS σ τ := t3.mono (by decide) (by decide)
    have hle := rdn_le A.1 S0
    rw [e_X9_load, t1, ci_s, (t3.2 5 (by decide)).1, h.1]
    unfold ldR ldA
    cases hr : rdf A.1 S0 with
    | none =>
      have hne : ¬ rdn A.1 S0 = A.1.length := fun e => by
        obtain ⟨s', e'⟩ := (rdn_f A.1 S0).mp e
        rw [hr] at e'; cases e'
      rw [cT (nI_lt (show rdn A.1 S0 < A.1.length by omega) (by omega))]
      exact ⟨τ, rfl, h.sc hk, km_of hk⟩
    | some s =>
      simp only []
      have hs := rdf_ok _ _ _ S0_ok hr
      obtain ⟨m1, m2, m3, m4⟩ := t2 s hr
      rw [(rdn_f A.1 S0).mpr ⟨s, hr⟩, cF (nI_nlt (Nat.le_refl _) (by omega)), m2]
      have hle2 := hs.1
      by_cases h2 : s.1 = 2
      · obtain ⟨o1, o2⟩ := ld_ok hA hr h2
        obtain ⟨ρ, r1, r2, r3⟩ := s_X9_put m1 hs.2.2.1 hs.2.1
        have hol := o1.1
        rw [cT (by rw [h2]), m3 (by omega), r1, cv_s, r2.1, if_pos h2, if_pos h2]
        generalize hS : (cadd (some s.2.1) s.2.2) = S at o1 o2 r2 hol ⊢
        obtain ⟨π, p1, p2, p3, p4⟩ := l_X9_load_40 S.1.length 0 S.1.length (si_sI ρ 29 1 (nI S.1.length)) (by omega) (by omega) (sI_same _ _ _ _)
        rw [p1, h_X9_load_40, p2, sI_same, cT (nI_le (Nat.le_refl _) (by omega))]
        have k0 : KeepM [7, 8, 9, 11, 12] [33] σ ρ := t3.tr (r3.mono (by decide) (by decide))
        have k1 : KeepM [1, 5, 7, 8, 9, 11, 12] [30, 33] σ (si_sI π 29 5 (nI 0)) := by
          have a1 : KeepM [1, 5, 7, 8, 9, 11, 12] [30, 33] σ (si_sI ρ 29 1 (nI S.1.length)) := (k0.mono (by decide) (by decide)).tr (KeepM.sI ρ (by decide) _)
          have a2 : KeepM [1, 5, 7, 8, 9, 11, 12] [30, 33] (si_sI ρ 29 1 (nI S.1.length)) π := ⟨fun k _ hk => ⟨by rw [p2], p3 k (fun e => hk (by simp [e]))⟩, fun j _ => ⟨by rw [p2], by rw [p3 29 (by decide)]⟩⟩
          exact (a1.tr a2).tr (KeepM.sI π (by decide) _)
        refine ⟨_, rfl, ⟨sI_same _ _ _ _, Cds.nil _, ?_, ?_, ?_⟩, k1.KM (by decide)⟩
        · rw [sI_nj _ 29 _ (by decide), p2, sI_same]
        · intro i q hq
          have hi : i < S.1.length := (List.getElem?_eq_some_iff.mp hq).1
          rw [sI_2, p4, if_pos ⟨Nat.zero_le _, hi⟩, sI_2]
          exact r2.2.2 i q hq
        · have h7 := h.2.2.2.2
          show (match A.2.2 with
            | none => (si_sI π 29 5 (nI 0)).1 29 4 = nI 0
            | some T => (si_sI π 29 5 (nI 0)).1 29 4 = nI 1 ∧ (si_sI π 29 5 (nI 0)).1 29 3 = nI T.length ∧ Row ((si_sI π 29 5 (nI 0)).2 31) T)
          cases hT : A.2.2 with
          | none => rw [hT] at h7; show (si_sI π 29 5 (nI 0)).1 29 4 = nI 0; rw [(k1.2 4 (by decide)).1]; exact h7
          | some T => rw [hT] at h7; exact ⟨by rw [(k1.2 4 (by decide)).1]; exact h7.1, by rw [(k1.2 3 (by decide)).1]; exact h7.2.1, by rw [(k1.1 31 (by decide) (by decide)).2]; exact h7.2.2⟩
      · rw [cF (nI_eqF h2 (by omega) (by decide)), if_neg h2, if_neg h2]
        exact ⟨τ, rfl, h.sc hk, km_of hk⟩
