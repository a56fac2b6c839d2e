/-! reading the buffer: firstError, load -/
/-- the symbol of a code; 0 for none -/
def sym (c : Nat) : Nat := if 65 ≤ c ∧ c ≤ 80 then c - 64 else if 97 ≤ c ∧ c ≤ 104 then c - 80 else 0
theorem sym_le (c : Nat) : sym c ≤ 24 := by unfold sym; split <;> (try split) <;> omega
theorem s_X8_symbolOf {c : Nat} (hc : c < 2 ^ 31) (σ : si_M) : si_sc gP nX8_symbolOf [.int (nI c)] σ = some (some (.int (nI (sym c) - nI 1)), σ) := by
  have hm : nI 0 - nI 1 = (-1 : Int32) := by decide
  rw [e_X8_symbolOf]
  unfold sym
  by_cases h1 : c < 65
  · rw [cT (nI_lt h1 (by decide)), cT (nI_lt (show c < 97 by omega) (by decide)), if_neg (by omega), if_neg (by omega), hm]
  · rw [cF (nI_nlt (by omega) hc)]
    by_cases h2 : c ≤ 80
    · rw [cF (nI_ge (show c < 81 by omega) (by decide)), if_pos ⟨by omega, h2⟩, pk_sub (show 65 ≤ c by omega), sub1 (by omega)]
      rfl
    · rw [cT (nI_le (show 81 ≤ c by omega) hc), if_neg (by omega)]
      by_cases h3 : c < 97
      · rw [cT (nI_lt h3 (by decide)), if_neg (by omega), hm]
      · rw [cF (nI_nlt (by omega) hc)]
        by_cases h4 : c ≤ 104
        · rw [cF (nI_ge (show c < 105 by omega) (by decide)), if_pos ⟨by omega, h4⟩, pk_sub (show 97 ≤ c by omega), nI_add, sub1 (by omega), show c - 97 + 16 = c - 80 - 1 by omega]
        · rw [cT (nI_le (show 105 ≤ c by omega) hc), if_neg (by omega), hm]
theorem s_X9_symbolOf {c : Nat} (hc : c < 2 ^ 31) (σ : si_M) : si_sc gP nX9_symbolOf [.int (nI c)] σ = some (some (.int (nI (sym c))), σ) := by
  rw [e_X9_symbolOf, s_X9_within, ci_s, bz, s_X9_within, ci_s, bz]
  unfold sym
  by_cases h1 : 65 ≤ c ∧ c ≤ 80
  · rw [decide_eq_true (nI_le h1.1 hc), decide_eq_true (nI_le h1.2 (by decide)), if_pos h1, pk_sub h1.1, nI_add, show c - 65 + 1 = c - 64 by omega]
    rfl
  · rw [if_neg h1]
    have e1 : (decide (nI 65 ≤ nI c) && decide (nI c ≤ nI 80)) = false := by
      by_cases h : 65 ≤ c
      · rw [decide_eq_false (nI_ge (show 80 < c by omega) hc), Bool.and_false]
      · rw [decide_eq_false (nI_ge (show c < 65 by omega) (by decide)), Bool.false_and]
    rw [e1, cond_false]
    by_cases h2 : 97 ≤ c ∧ c ≤ 104
    · rw [decide_eq_true (nI_le h2.1 hc), decide_eq_true (nI_le h2.2 (by decide)), if_pos h2, pk_sub h2.1, nI_add, show c - 97 + 17 = c - 80 by omega]
      rfl
    · have e2 : (decide (nI 97 ≤ nI c) && decide (nI c ≤ nI 104)) = false := by
        by_cases h : 97 ≤ c
        · rw [decide_eq_false (nI_ge (show 104 < c by omega) hc), Bool.and_false]
        · rw [decide_eq_false (nI_ge (show c < 97 by omega) (by decide)), Bool.false_and]
      rw [e2, cond_false, if_neg h2]
/-- the reader: where it is (0 at a group, 1 at the colon, 2 in a right side), the production that it reads, what it has -/
abbrev RS : Type := Nat × PR × (List PR × Bool)
def tk (s : RS) (c : Nat) : Option RS :=
  if s.1 = 0 then (if 1 ≤ sym c ∧ sym c ≤ 16 then some (1, (sym c - 1, []), s.2.2) else none)
  else if s.1 = 1 then (if c = 58 then some (2, (s.2.1.1, []), s.2.2) else none)
  else if c = 124 ∨ c = 59 then some (if c = 59 then 0 else 2, (s.2.1.1, []), cadd (some s.2.1) s.2.2)
  else if sym c = 0 ∨ 8 ≤ s.2.1.2.length then none else some (2, (s.2.1.1, s.2.1.2 ++ [sym c]), s.2.2)
def rdn : List Nat → RS → Nat
  | [], _ => 0
  | c :: B, s => match tk s c with
    | none => 0
    | some s' => rdn B s' + 1
def rdf : List Nat → RS → Option RS
  | [], s => some s
  | c :: B, s => match tk s c with
    | none => none
    | some s' => rdf B s'
def Rok (s : RS) : Prop := s.1 ≤ 2 ∧ okp s.2.1 ∧ Gok s.2.2.1 ∧ (s.1 = 1 → s.2.1.2 = [])
theorem tk_ok {s s' : RS} {c : Nat} (h : Rok s) (ht : tk s c = some s') : Rok s' := by
  obtain ⟨h1, h2, h3, h4⟩ := h
  unfold tk at ht
  have hs := sym_le c
  split at ht
  · split at ht
    · cases ht
      exact ⟨by show (1 : Nat) ≤ 2; omega, okp_nil (by omega), h3, fun _ => rfl⟩
    · cases ht
  · split at ht
    · split at ht
      · cases ht
        exact ⟨Nat.le_refl _, okp_nil h2.1, h3, fun _ => rfl⟩
      · cases ht
    · split at ht
      · cases ht
        refine ⟨?_, okp_nil h2.1, Gok.add (fun p hp => by cases hp; exact h2) h3, fun _ => rfl⟩
        show (if c = 59 then 0 else 2) ≤ 2
        split <;> omega
      · split at ht
        · cases ht
        · cases ht
          rename_i hn
          exact ⟨Nat.le_refl _, okp_app h2 (fun b hb => by rw [List.mem_singleton] at hb; rw [hb]; omega) (by simp; omega), h3, fun h => by cases h⟩
/-- the class's number for where the reader is -/
def cst (s : RS) : Int32 := if s.1 = 0 then -2 else if s.1 = 1 then -1 else nI s.2.1.2.length
theorem nI_m {a : Nat} {x : Int32} (hx : x < nI 0) (ha : a < 2 ^ 31) : ¬ nI a = x := by
  intro e
  rw [← e] at hx
  exact absurd hx (nI_nlt (Nat.zero_le a) ha)
theorem s_X3_stateAfter {s : RS} (h : Rok s) {c : Nat} (hc : c < 2 ^ 31) (σ : si_M) : si_sc gP nX3_stateAfter [.int (cst s), .int (nI c)] σ = some (some (.int (match tk s c with | none => -3 | some s' => cst s')), σ) := by
  have hs := sym_le c
  have hw := h.2.1.2.1
  have h1 := h.1
  have hm : nI 0 - nI 1 = (-1 : Int32) := by decide
  rw [e_X3_stateAfter, s_X8_symbolOf hc, ci_s]
  unfold cst tk
  by_cases e0 : s.1 = 0
  · rw [if_pos e0, if_pos e0, nF rfl]
    by_cases hz : sym c = 0
    · rw [hz, hm, s_X8_isNonterminal_m, ci_s, bz, if_neg (by omega)]; rfl
    · rw [sub1 (by omega), s_X8_isNonterminal (by omega), ci_s, bz]
      by_cases h16 : sym c ≤ 16
      · rw [decide_eq_true (by omega), if_pos ⟨by omega, h16⟩]; rfl
      · rw [decide_eq_false (by omega), if_neg (by omega)]; rfl
  · rw [if_neg e0, if_neg e0]
    by_cases e1 : s.1 = 1
    · rw [if_pos e1, if_pos e1, nT (by decide), nF rfl]
      by_cases h58 : c = 58
      · rw [nF (by rw [h58]), if_pos h58]; rfl
      · rw [nT (nI_eqF h58 hc (by decide)), if_neg h58]
    · rw [if_neg e1, if_neg e1, nT (nI_m (by decide) (by omega)), nT (nI_m (by decide) (by omega))]
      by_cases h59 : c = 59
      · rw [nF (by rw [h59]), if_pos (Or.inr h59), if_pos h59]; rfl
      · rw [nT (nI_eqF h59 hc (by decide))]
        by_cases h124 : c = 124
        · rw [nF (by rw [h124]), if_pos (Or.inl h124), if_neg h59]; rfl
        · rw [nT (nI_eqF h124 hc (by decide)), if_neg (by omega)]
          by_cases hz : sym c = 0
          · rw [hz, hm, cT rfl, if_pos (Or.inl rfl)]
          · rw [sub1 (by omega), cF (nI_m (by decide) (by omega))]
            by_cases h8 : s.2.1.2.length < 8
            · rw [cT (nI_lt h8 (by decide)), if_neg (by omega), nI_add]
              simp
            · rw [cF (nI_nlt (by omega) (by omega)), if_pos (Or.inr (by omega))]
theorem cst_ne {s : RS} (h : Rok s) : ¬ cst s = -3 := by
  unfold cst
  have := h.2.1.2.1
  split
  · decide
  · split
    · decide
    · exact nI_m (by decide) (by omega)
theorem rdn_le : ∀ (B : List Nat) (s : RS), rdn B s ≤ B.length := by
  intro B
  induction B with
  | nil => intro s; exact Nat.le_refl _
  | cons c B ih =>
    intro s
    simp only [rdn]
    split
    · omega
    · rename_i s' _
      have := ih s'
      simp
      omega
theorem rdn_f : ∀ (B : List Nat) (s : RS), (rdn B s = B.length ↔ ∃ s', rdf B s = some s') := by
  intro B
  induction B with
  | nil => intro s; exact ⟨fun _ => ⟨s, rfl⟩, fun _ => rfl⟩
  | cons c B ih =>
    intro s
    simp only [rdn, rdf]
    split
    · simp
    · rename_i s' _
      rw [← ih s']
      simp
theorem Cds.at {f : Nat → Int32} {B : List Nat} (h : Cds f B) {i : Nat} (hi : i < B.length) : f i = nI B[i] := h i _ (List.getElem?_eq_getElem hi)
def S0 : RS := (0, (0, []), ([], false))
theorem S0_ok : Rok S0 := ⟨by decide, okp_nil (by decide), Gok.nil, fun _ => rfl⟩
theorem s_X3_errorPlace {σ : si_M} {A : AS} (hA : Aok A) (h : CI σ A) : si_sc gP nX3_errorPlace [.ref 1] σ = some (some (.int (nI (rdn A.1 S0))), σ) := by
  have hl := hA.1.1
  have key : ∀ (d i : Nat) (s : RS), i + d = A.1.length → Rok s → si_sem gP nX3_errorPlace 5 [.ref 1, .int (cst s), .int (nI i)] [] σ = some (some (.int (nI (i + rdn (A.1.drop i) s))), σ) := by
    intro d
    induction d with
    | zero =>
      intro i s hd _
      rw [h_X3_errorPlace_5, h.1, cT (nI_le (show A.1.length ≤ i by omega) (by omega)), List.drop_eq_nil_of_le (by omega)]
      simp only [rdn]
      rw [show A.1.length = i + 0 by omega]
    | succ d ih =>
      intro i s hd hs
      have hi : i < A.1.length := by omega
      have hc := hA.1.2 _ (List.getElem_mem hi)
      rw [h_X3_errorPlace_5, h.1, cF (nI_ge hi (by omega)), inT (by omega) (by decide), nI_clamp (by omega), h.2.1.at hi, s_X3_stateAfter hs (by omega), ci_s, List.drop_eq_getElem_cons hi, nI_add]
      simp only [rdn]
      cases ht : tk s A.1[i] with
      | none => exact nF rfl _ _
      | some s' =>
        have hs' := tk_ok hs ht
        simp only []
        rw [nT (cst_ne hs'), ih (i + 1) s' (by omega) hs', Nat.add_assoc, Nat.add_comm 1]
  rw [e_X3_errorPlace]
  have := key A.1.length 0 S0 (by omega) S0_ok
  rw [List.drop_zero, Nat.zero_add] at this
  exact this
theorem s_X3_isGrammar {σ : si_M} {A : AS} (hA : Aok A) (h : CI σ A) : si_sc gP nX3_isGrammar [.ref 1] σ = some (some (.int (bI (match rdf A.1 S0 with | none => false | some s => decide (s.1 = 2)))), σ) := by
  have hl := hA.1.1
  have fin : ∀ s, Rok s → cond (decide (cst s < nI 0)) (some (some (Value.int (nI 0)), σ)) (some (some (Value.int (nI 1)), σ)) = some (some (.int (bI (decide (s.1 = 2)))), σ) := by
    intro s hs
    have h1 := hs.1
    have := hs.2.1.2.1
    unfold cst
    by_cases e0 : s.1 = 0
    · rw [if_pos e0, cT (by decide), decide_eq_false (by omega)]; rfl
    · rw [if_neg e0]
      by_cases e1 : s.1 = 1
      · rw [if_pos e1, cT (by decide), decide_eq_false (by omega)]; rfl
      · rw [if_neg e1, cF (nI_nlt (Nat.zero_le _) (by omega)), decide_eq_true (by omega)]; rfl
  have key : ∀ (d i : Nat) (s : RS), i + d = A.1.length → Rok s → si_sem gP nX3_isGrammar 5 [.ref 1, .int (cst s), .int (nI i)] [] σ = some (some (.int (bI (match rdf (A.1.drop i) s with | none => false | some s => decide (s.1 = 2)))), σ) := by
    intro d
    induction d with
    | zero =>
      intro i s hd hs
      rw [h_X3_isGrammar_5, h.1, cT (nI_le (show A.1.length ≤ i by omega) (by omega)), List.drop_eq_nil_of_le (by omega), fin s hs]
      rfl
    | succ d ih =>
      intro i s hd hs
      have hi : i < A.1.length := by omega
      have hc := hA.1.2 _ (List.getElem_mem hi)
      rw [h_X3_isGrammar_5, h.1, cF (nI_ge hi (by omega)), cF (cst_ne hs), inT (by omega) (by decide), nI_clamp (by omega), h.2.1.at hi, s_X3_stateAfter hs (by omega), ci_s, List.drop_eq_getElem_cons hi, nI_add]
      simp only [rdf]
      cases ht : tk s A.1[i] with
      | none =>
        simp only []
        rw [h_X3_isGrammar_5, cT (show ((-3 : Int32) = -3) from rfl), cT (show (-3 : Int32) < nI 0 by decide)]
        cases decide (σ.1 1 1 ≤ nI (i + 1)) <;> rfl
      | some s' => exact ih (i + 1) s' (by omega) (tk_ok hs ht)
  rw [e_X3_isGrammar]
  exact key A.1.length 0 S0 (by omega) S0_ok
