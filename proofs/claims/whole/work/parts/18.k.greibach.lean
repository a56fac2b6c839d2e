/-! toGreibach: class and model -/
theorem pv_none : pv none = (-1 : Int64) := rfl
theorem lcmp_mm : lg_cmp (-1 : Int64) (-1 : Int64) = nI 0 := by decide
theorem s_X7_firstNt {σ : si_M} {S : List PR × Bool} (hm : Gm σ 25 S) (hG : Gok S.1) : si_sc gP nX7_firstWithNonterminal [.ref 24] σ = some (some (.long (pv (fN S.1))), σ) := by
  have hl := hG.1
  have := lp_idx (F := fun i => si_sem gP nX7_firstWithNonterminal 2 [.ref 24, .int (nI i)] [] σ) (G := S.1) (p := fun q => ntB q.2) (X := fun i => si_cl (si_sc gP nX2_at [.ref 25, .int (nI i)] σ) (fun r6_36 σ6_36 => some (some (.long r6_36), σ6_36))) (Y := some (some (.long (-1 : Int64)), σ)) (fun i hi => by
    have hok := hG.2.1.at hi
    try dsimp only
    rw [h_X7_firstWithNonterminal_2, e_X2_count 25 (by decide), ci_s, hm.1, cF (nI_ge hi (by omega)), s_X2_at (by decide) hm hl hi, cl_s, s_X5_symbolAt hok (by decide), ci_s, s_X8_isNt_sy hok 0, ci_s, nI_add, bz]
    show cond (ntB S.1[i].2) _ _ = _
    rw [s_X2_at (by decide) hm hl hi]) (by
    try dsimp only
    rw [h_X7_firstWithNonterminal_2, e_X2_count 25 (by decide), ci_s, hm.1, cT (nI_le (Nat.le_refl _) (by omega))])
  rw [e_X7_firstWithNonterminal]
  unfold fN
  rcases this with ⟨h1, h2⟩ | ⟨i, hi, h1, h2, _⟩
  · rw [h1]; exact h2
  · rw [h1]
    refine Eq.trans h2 ?_
    rw [s_X2_at (by decide) hm hl hi, cl_s]
    rfl
/-- where a run ends -/
def fin_ : Nat → List PR → List PR
  | 0, G => G
  | n + 1, G => fin_ n (tfS G).1
theorem fin_ok : ∀ (n : Nat) {G : List PR}, Gok G → Gok (fin_ n G) := by
  intro n
  induction n with
  | zero => intro G h; exact h
  | succ n ih => intro G h; exact ih (tfS_ok h)
/-- one step of the class -/
theorem c_tell {k : Nat} (hk : k < 1000000) {G : List PR} {τ : si_M} (hG : Gok G) (hm : Gm τ 25 (G, false)) (hp : fN G ≠ none) : ∃ τ', si_sem gP nX7_expandLeftEnds 2 [.ref 24, .int (nI k), si_U, si_U] [] τ = si_sem gP nX7_expandLeftEnds 2 [.ref 24, .int (nI (k + 1)), si_U, si_U] [] τ' ∧ Gm τ' 25 (tfS G) ∧ Keep csc τ τ' := by
  cases hp' : fN G with
  | none => exact absurd hp' hp
  | some p =>
    obtain ⟨k1, k2, _⟩ := fN_some hG hp'
    obtain ⟨y, v, hy, ev⟩ := nt_ex k2
    have hok := hG.2.1 p k1
    have hf : p.2.getD 0 0 = y + 1 := by rw [ev]; rfl
    obtain ⟨τ1, b1, b2, b3, b4⟩ := s_X7_copyBefore hm hG.1
    obtain ⟨τ2, c1, c2, c3, c4⟩ := s_X2_remove b3 b2 hG hok
    obtain ⟨τ3, d1, d2, d3, d4⟩ := s_X7_addExpansions (T := (G, false)) hG c3 c2 (rmv_ok hG) hok hy hf
    refine ⟨τ3, ?_, ?_, (b4.tr c4).tr d4⟩
    · rw [h_X7_expandLeftEnds_2, cF (nI_ge hk (by decide)), s_X2_isTooLarge hm, ci_s, bn, cond_false, s_X7_firstNt hm hG, cl_s]
      show (cond (!decide (lg_cmp (pv (fN G)) (-1 : Int64) = nI 0)) _ _) = _
      rw [hp', show pv (some p) = lN (en p) from rfl, nT (lcmp_m1 (en63 hok)), b1, cv_s, c1, cv_s, d1, cv_s, nI_add]
    · unfold tfS
      rw [hp']
      show Gm τ3 25 (addall (exL (p.2.getD 0 0 - 1) p G) (rmv p G, false))
      rw [hf]
      exact d2
theorem c_stop {k : Nat} (hk : k < 1000000) {G : List PR} {τ : si_M} (hG : Gok G) (hm : Gm τ 25 (G, false)) (hp : fN G = none) : si_sem gP nX7_expandLeftEnds 2 [.ref 24, .int (nI k), si_U, si_U] [] τ = some (none, τ) := by
  rw [h_X7_expandLeftEnds_2, cF (nI_ge hk (by decide)), s_X2_isTooLarge hm, ci_s, bn, cond_false, s_X7_firstNt hm hG, cl_s]
  show (cond (!decide (lg_cmp (pv (fN G)) (-1 : Int64) = nI 0)) _ _) = _
  rw [hp, pv_none, nF lcmp_mm]
theorem c_full {k : Nat} (hk : k ≤ 1000000) {S : List PR × Bool} {τ : si_M} (hm : Gm τ 25 S) (hf : S.2 = true ∨ k = 1000000) : ∃ τ', si_sem gP nX7_expandLeftEnds 2 [.ref 24, .int (nI k), si_U, si_U] [] τ = some (none, τ') ∧ Gm τ' 25 (S.1, true) ∧ Keep csc τ τ' := by
  obtain ⟨τ', e1, e2, e3⟩ := s_X2_refuse' hm
  refine ⟨τ', ?_, e2, e3⟩
  by_cases h : k = 1000000
  · rw [h_X7_expandLeftEnds_2, cT (by rw [h]; exact nI_le (Nat.le_refl _) (by decide)), e1, cv_s]
  · have hS : S.2 = true := by
      rcases hf with h' | h'
      · exact h'
      · exact absurd h' h
    rw [h_X7_expandLeftEnds_2, cF (nI_ge (show k < 1000000 by omega) (by decide)), s_X2_isTooLarge hm, ci_s, hS, bn, cond_true, e1, cv_s]
theorem c_run : ∀ (n k : Nat) (G : List PR) (τ : si_M), Run n G → k + n < 1000000 → Gok G → Gm τ 25 (G, false) → ∃ τ', si_sem gP nX7_expandLeftEnds 2 [.ref 24, .int (nI k), si_U, si_U] [] τ = some (none, τ') ∧ Gm τ' 25 (fin_ n G, false) ∧ Keep csc τ τ' := by
  intro n
  induction n with
  | zero => intro k G τ hr hk hG hm; exact ⟨τ, c_stop (by omega) hG hm hr, hm, Keep.rf⟩
  | succ n ih =>
    intro k G τ hr hk hG hm
    obtain ⟨r1, r2, r3⟩ := hr
    obtain ⟨τ1, a1, a2, a3⟩ := c_tell (show k < 1000000 by omega) hG hm r1
    have e : tfS G = ((tfS G).1, false) := by rw [← r2]
    rw [e] at a2
    obtain ⟨τ2, b1, b2, b3⟩ := ih (k + 1) (tfS G).1 τ1 r3 (by omega) (tfS_ok hG) a2
    exact ⟨τ2, a1.trans b1, b2, a3.tr b3⟩
theorem c_runB : ∀ (n k : Nat) (G : List PR) (τ : si_M), RunB n G → k ≤ 1000000 → Gok G → Gm τ 25 (G, false) → ∃ τ' H, si_sem gP nX7_expandLeftEnds 2 [.ref 24, .int (nI k), si_U, si_U] [] τ = some (none, τ') ∧ Gm τ' 25 (H, true) ∧ Gok H ∧ Keep csc τ τ' := by
  intro n
  induction n with
  | zero =>
    intro k G τ hr hk hG hm
    obtain ⟨r1, r2⟩ := hr
    by_cases h : k = 1000000
    · obtain ⟨τ1, a1, a2, a3⟩ := c_full hk hm (Or.inr h)
      exact ⟨τ1, G, a1, a2, hG, a3⟩
    · obtain ⟨τ1, a1, a2, a3⟩ := c_tell (show k < 1000000 by omega) hG hm r1
      obtain ⟨τ2, b1, b2, b3⟩ := c_full (show k + 1 ≤ 1000000 by omega) a2 (Or.inl r2)
      exact ⟨τ2, (tfS G).1, a1.trans b1, b2, tfS_ok hG, a3.tr b3⟩
  | succ n ih =>
    intro k G τ hr hk hG hm
    obtain ⟨r1, r2, r3⟩ := hr
    by_cases h : k = 1000000
    · obtain ⟨τ1, a1, a2, a3⟩ := c_full hk hm (Or.inr h)
      exact ⟨τ1, G, a1, a2, hG, a3⟩
    · obtain ⟨τ1, a1, a2, a3⟩ := c_tell (show k < 1000000 by omega) hG hm r1
      have e : tfS G = ((tfS G).1, false) := by rw [← r2]
      rw [e] at a2
      obtain ⟨τ2, H, b1, b2, b3, b4⟩ := ih (k + 1) (tfS G).1 τ1 r3 (by omega) (tfS_ok hG) a2
      exact ⟨τ2, H, a1.trans b1, b2, b3, a3.tr b4⟩
-- the model
def tfB (S : List PR × Bool) : Bool := if S.2 then false else (fN S.1).isSome
def tfF2 (S : List PR × Bool) : List PR × Bool := if S.2 then S else tfS S.1
theorem s_X9_tellFirst {σ : si_M} {S : List PR × Bool} (hc : Cp σ S) (hG : Gok S.1) : ∃ τ, si_sc gP nX9_tellFirst [.ref 29] σ = some (some (.int (bI (tfB S))), τ) ∧ Cp τ (tfF2 S) ∧ KeepM mF mS σ τ := by
  have hl := hG.1
  have := lp_idx (F := fun i => si_sem gP nX9_tellFirst 2 [.ref 29, .int (nI i), si_U] [] σ) (G := S.1) (p := fun q => ntB q.2) (X := fun i => cond (decide (bI S.2 = (nI 0))) (si_cv (si_sc gP nX9_begin [.ref 29] σ) (fun σ7_50 => si_sem gP nX9_tellFirst 55 [.ref 29, .int (nI i), .int (nI 0)] [] σ7_50)) (some (some (.int (nI 0)), σ))) (Y := some (some (.int (nI 0)), σ)) (fun i hi => by
    have hok := hG.2.1.at hi
    have d1 := getD31 hok 0
    try dsimp only
    rw [h_X9_tellFirst_2, hc.1, cF (nI_ge hi (by omega)), inT (show i < 60 by omega) (by decide), nI_clamp (by omega), hc.2.2.at hi, s_X9_at hok (by decide), ci_s, s_X9_isNonterminal (by omega), ci_s, nI_add, hc.2.1, bn, hc.1, cF (nI_eqF (show i ≠ S.1.length by omega) (by omega) (by omega))]
    rfl) (by
    try dsimp only
    rw [h_X9_tellFirst_2, hc.1, cT (nI_le (Nat.le_refl _) (by omega)), cT rfl])
  rw [e_X9_tellFirst]
  unfold tfB tfF2
  rcases this with ⟨h1, h2⟩ | ⟨k, hk, h1, h2, h3⟩
  · have h1' : fN S.1 = none := h1
    refine ⟨σ, Eq.trans h2 ?_, ?_, KeepM.rf⟩
    · rw [h1']
      simp [bI]
    · split
      · exact hc
      · rename_i hf
        unfold tfS
        rw [h1']
        have : S = (S.1, false) := by
          have : S.2 = false := by simpa using hf
          rw [← this]
        rw [← this]
        exact hc
  · have h1' : fN S.1 = some S.1[k] := h1
    have hko : okp S.1[k] := hG.2.1.at hk
    have hw := hko.2.1
    obtain ⟨y, v, hy, ev⟩ := nt_ex h3
    have hf : S.1[k].2.getD 0 0 = y + 1 := by rw [ev]; rfl
    have hlen : 0 < S.1[k].2.length := by rw [ev]; simp
    rw [show si_sem gP nX9_tellFirst 2 [.ref 29, .int (nI 0), si_U] [] σ = _ from h2, bz]
    cases hf0 : S.2 with
    | true =>
      rw [if_pos rfl, if_pos rfl]
      exact ⟨σ, rfl, hc, KeepM.rf⟩
    | false =>
      obtain ⟨τ1, b1, b2, b3⟩ := s_X9_begin σ
      rw [cond_false, if_neg (by decide), if_neg (by decide), b1, cv_s, h1']
      obtain ⟨τ2, f1, r1, r2, r4⟩ := put_rest (F := fun i τ => si_sem gP nX9_tellFirst 55 [.ref 29, .int (nI k), .int (nI i)] [] τ) (σ := σ) hG hk (fun i τ hi r1 => by
        try dsimp only
        rw [h_X9_tellFirst_55, r1.1, cF (nI_ge hi (by omega)), inT (show i < 60 by omega) (by decide), nI_clamp (by omega), r1.2.2.at hi, nI_add]) (hc.of b3 (by decide) (by decide) (by decide)) b2 (b3.mono (by decide) (by decide))
      obtain ⟨τ3, d1, d2, d3⟩ := s_X9_putTold hG r1 r2 (rmv_ok hG) hko hy hlen
      have C3 := r1.of d3 (by decide) (by decide) (by decide)
      obtain ⟨τ4, g1, g2, g3⟩ := s_X9_step (addall_ok _ (exL_ook hko hG.2.1) (rmv_ok hG)).1 d2 C3
      refine ⟨τ4, ?_, ?_, (r4.tr (d3.mono (by decide) (by decide))).tr (g3.mono (by decide) (by decide))⟩
      · refine Eq.trans f1 ?_
        try dsimp only
        rw [h_X9_tellFirst_55, r1.1, cT (nI_le (Nat.le_refl _) (by omega)), inT (show k < 60 by omega) (by decide), inT (show k < 60 by omega) (by decide), nI_clamp (by omega), r1.2.2.at hk, s_X9_at hko (by decide), ci_s, hf, sub1 (by omega), Nat.add_sub_cancel, d1, cv_s, g1, cv_s]
        rfl
      · rw [hf0, Bool.false_or] at g2
        unfold tfS
        rw [h1']
        show Cp τ4 (addall (exL (S.1[k].2.getD 0 0 - 1) S.1[k] S.1) (rmv S.1[k] S.1, false))
        rw [hf]
        exact g2
theorem m_run : ∀ (n : Nat) (G : List PR) (τ : si_M), Run n G → Gok G → Cp τ (G, false) → ∃ τ', si_sem gP nX9_toGreibach 38 [.ref 29, .int (nI 1)] [] τ = si_sem gP nX9_toGreibach 38 [.ref 29, .int (nI 0)] [] τ' ∧ Cp τ' (fin_ n G, false) ∧ KeepM mF mS τ τ' := by
  intro n
  induction n with
  | zero =>
    intro G τ hr hG hc
    obtain ⟨τ1, a1, a2, a3⟩ := s_X9_tellFirst hc hG
    have e1 : tfB (G, false) = false := by
      show (fN G).isSome = false
      rw [show fN G = none from hr]; rfl
    have e2 : tfF2 (G, false) = (G, false) := by
      show tfS G = (G, false)
      unfold tfS
      rw [show fN G = none from hr]
    rw [e1] at a1
    rw [e2] at a2
    refine ⟨τ1, ?_, a2, a3⟩
    rw [h_X9_toGreibach_38, cF (by decide), a1, ci_s]
    rfl
  | succ n ih =>
    intro G τ hr hG hc
    obtain ⟨r1, r2, r3⟩ := hr
    obtain ⟨τ1, a1, a2, a3⟩ := s_X9_tellFirst hc hG
    have e1 : tfB (G, false) = true := by
      show (fN G).isSome = true
      cases hp : fN G with
      | none => exact absurd hp r1
      | some p => rfl
    have e2 : tfF2 (G, false) = ((tfS G).1, false) := by
      show tfS G = _
      rw [← r2]
    rw [e1] at a1
    rw [e2] at a2
    obtain ⟨τ2, b1, b2, b3⟩ := ih (tfS G).1 τ1 r3 (tfS_ok hG) a2
    refine ⟨τ2, ?_, b2, a3.tr b3⟩
    rw [h_X9_toGreibach_38, cF (by decide), a1, ci_s]
    exact b1
theorem m_runB : ∀ (n : Nat) (G : List PR) (τ : si_M), RunB n G → Gok G → Cp τ (G, false) → ∃ τ' H, si_sem gP nX9_toGreibach 38 [.ref 29, .int (nI 1)] [] τ = si_sem gP nX9_toGreibach 38 [.ref 29, .int (nI 0)] [] τ' ∧ Cp τ' (H, true) ∧ Gok H ∧ KeepM mF mS τ τ' := by
  intro n
  induction n with
  | zero =>
    intro G τ hr hG hc
    obtain ⟨r1, r2⟩ := hr
    obtain ⟨τ1, a1, a2, a3⟩ := s_X9_tellFirst hc hG
    have e1 : tfB (G, false) = true := by
      show (fN G).isSome = true
      cases hp : fN G with
      | none => exact absurd hp r1
      | some p => rfl
    have e2 : tfF2 (G, false) = ((tfS G).1, true) := by
      show tfS G = _
      rw [← r2]
    rw [e1] at a1
    rw [e2] at a2
    obtain ⟨τ2, b1, b2, b3⟩ := s_X9_tellFirst a2 (tfS_ok hG)
    refine ⟨τ2, (tfS G).1, ?_, b2, tfS_ok hG, a3.tr b3⟩
    rw [h_X9_toGreibach_38, cF (by decide), a1, ci_s, show bI true = nI 1 from rfl, h_X9_toGreibach_38, cF (by decide), b1, ci_s]
    rfl
  | succ n ih =>
    intro G τ hr hG hc
    obtain ⟨r1, r2, r3⟩ := hr
    obtain ⟨τ1, a1, a2, a3⟩ := s_X9_tellFirst hc hG
    have e1 : tfB (G, false) = true := by
      show (fN G).isSome = true
      cases hp : fN G with
      | none => exact absurd hp r1
      | some p => rfl
    have e2 : tfF2 (G, false) = ((tfS G).1, false) := by
      show tfS G = _
      rw [← r2]
    rw [e1] at a1
    rw [e2] at a2
    obtain ⟨τ2, H, b1, b2, b3, b4⟩ := ih (tfS G).1 τ1 r3 (tfS_ok hG) a2
    refine ⟨τ2, H, ?_, b2, b3, a3.tr b4⟩
    rw [h_X9_toGreibach_38, cF (by decide), a1, ci_s]
    exact b1
-- what comes out
def tgF (N : Nat) (S : List PR × Bool) : List PR × Bool := ((itr tfF2 N S).1, (itr tfF2 N S).2 || (fN (itr tfF2 N S).1).isSome)
theorem tf2_fl {S : List PR × Bool} (h : S.2 = true) : tfF2 S = S := by unfold tfF2; rw [if_pos h]
theorem tf2_ok {S : List PR × Bool} (h : Gok S.1) : Gok (tfF2 S).1 := by
  unfold tfF2
  split
  · exact h
  · exact tfS_ok h
theorem tgF_ok (N : Nat) {S : List PR × Bool} (h : Gok S.1) : Gok (tgF N S).1 := itr_inv (P := fun S : List PR × Bool => Gok S.1) (fun S h => tf2_ok h) N _ h
theorem tgF_fl (N : Nat) {S : List PR × Bool} (h : S.2 = true) : (tgF N S).2 = true := by
  unfold tgF
  rw [itr_fix (tf2_fl h), h]
  rfl
theorem tg_run : ∀ (n N : Nat) (G : List PR), Run n G → n ≤ N → itr tfF2 N (G, false) = (fin_ n G, false) ∧ fN (fin_ n G) = none := by
  intro n
  induction n with
  | zero =>
    intro N G hr _
    refine ⟨itr_fix ?_ N, hr⟩
    show tfS G = (G, false)
    unfold tfS
    rw [show fN G = none from hr]
  | succ n ih =>
    intro N G hr hN
    obtain ⟨r1, r2, r3⟩ := hr
    cases N with
    | zero => omega
    | succ N =>
      have e : tfF2 (G, false) = ((tfS G).1, false) := by
        show tfS G = _
        rw [← r2]
      have := ih N (tfS G).1 r3 (by omega)
      show itr tfF2 N (tfF2 (G, false)) = _ ∧ _
      rw [e]
      exact this
theorem tg_runB : ∀ (n N : Nat) (G : List PR), RunB n G → (itr tfF2 N (G, false)).2 = true ∨ fN (itr tfF2 N (G, false)).1 ≠ none := by
  intro n
  induction n with
  | zero =>
    intro N G hr
    cases N with
    | zero => exact Or.inr hr.1
    | succ N =>
      have e : tfF2 (G, false) = ((tfS G).1, true) := by
        show tfS G = _
        rw [← hr.2]
      left
      show (itr tfF2 N (tfF2 (G, false))).2 = true
      rw [e, itr_fix (tf2_fl rfl)]
  | succ n ih =>
    intro N G hr
    obtain ⟨r1, r2, r3⟩ := hr
    cases N with
    | zero => exact Or.inr r1
    | succ N =>
      have e : tfF2 (G, false) = ((tfS G).1, false) := by
        show tfS G = _
        rw [← r2]
      have := ih N (tfS G).1 r3
      show (itr tfF2 N (tfF2 (G, false))).2 = true ∨ fN (itr tfF2 N (tfF2 (G, false))).1 ≠ none
      rw [e]
      exact this
theorem tgF_run {n N : Nat} {G : List PR} (hr : Run n G) (hn : n < N) : tgF N (G, false) = (fin_ n G, false) := by
  obtain ⟨e1, e2⟩ := tg_run n N G hr (by omega)
  unfold tgF
  rw [e1, e2]
  rfl
theorem tgF_runB {n N : Nat} {G : List PR} (hr : RunB n G) : (tgF N (G, false)).2 = true := by
  unfold tgF
  show ((itr tfF2 N (G, false)).2 || (fN (itr tfF2 N (G, false)).1).isSome) = true
  rcases tg_runB n N G hr with e | e
  · rw [e]; rfl
  · cases hp : fN (itr tfF2 N (G, false)).1 with
    | none => exact absurd hp e
    | some p => rw [Option.isSome_some, Bool.or_true]
theorem s_X7_expandLeftEnds {N : Nat} (hN : N = 1000000) {σ : si_M} {G : List PR} {S : List PR × Bool} (hG0 : Gok G) (hne : G.any emB = false) (hcy : cyB G = false) (hm : Gm σ 25 S) (hG : Gok S.1) (hr : Req S (lrF G)) : ∃ τ S', si_sc gP nX7_expandLeftEnds [.ref 24] σ = some (none, τ) ∧ Gm τ 25 S' ∧ Gok S'.1 ∧ Req S' (tgF N (lrF G)) ∧ Keep csc σ τ := by
  rw [e_X7_expandLeftEnds]
  cases hf : S.2 with
  | true =>
    obtain ⟨τ, a1, a2, a3⟩ := c_full (show 0 ≤ 1000000 by decide) hm (Or.inl hf)
    exact ⟨τ, _, a1, a2, hG, Req.of_true rfl (tgF_fl N (hr.1 ▸ hf)), a3⟩
  | false =>
    have e1 : (lrF G).2 = false := hr.1 ▸ hf
    have e2 : lrF G = (S.1, false) := by rw [hr.2 hf, ← e1]
    have e3 : S = (S.1, false) := by rw [← hf]
    rw [e3] at hm
    obtain ⟨Zs, hH⟩ := lrF_HZ hG0 hne hcy e1
    rw [e2] at hH ⊢
    rcases run_ends hH hG with ⟨n, hn, hrun⟩ | ⟨n, hrun⟩
    · obtain ⟨τ, a1, a2, a3⟩ := c_run n 0 S.1 σ hrun (by omega) hG hm
      exact ⟨τ, _, a1, a2, fin_ok n hG, by rw [tgF_run hrun (by omega)]; exact Req.rf _, a3⟩
    · obtain ⟨τ, H, a1, a2, a3, a4⟩ := c_runB n 0 S.1 σ hrun (by omega) hG hm
      exact ⟨τ, _, a1, a2, a3, Req.of_true rfl (tgF_runB hrun), a4⟩
theorem s_X9_tellAll {N : Nat} (hN : N = 1000000) {σ : si_M} {G : List PR} {S : List PR × Bool} (hG0 : Gok G) (hne : G.any emB = false) (hcy : cyB G = false) (hc : Cp σ S) (hG : Gok S.1) (hr : Req S (lrF G)) : ∃ τ S', cond (!decide ((σ.1 29 27) = (nI 0))) (si_sem gP nX9_toGreibach 38 [.ref 29, .int (nI 0)] [] σ) (si_sem gP nX9_toGreibach 38 [.ref 29, .int (nI 1)] [] σ) = si_sem gP nX9_toGreibach 38 [.ref 29, .int (nI 0)] [] τ ∧ Cp τ S' ∧ Gok S'.1 ∧ Req S' (tgF N (lrF G)) ∧ KeepM mF mS σ τ := by
  rw [hc.2.1, bn]
  cases hf : S.2 with
  | true => exact ⟨σ, S, rfl, hc, hG, Req.of_true hf (tgF_fl N (hr.1 ▸ hf)), KeepM.rf⟩
  | false =>
    have e1 : (lrF G).2 = false := hr.1 ▸ hf
    have e2 : lrF G = (S.1, false) := by rw [hr.2 hf, ← e1]
    have e3 : S = (S.1, false) := by rw [← hf]
    rw [e3] at hc
    obtain ⟨Zs, hH⟩ := lrF_HZ hG0 hne hcy e1
    rw [e2] at hH ⊢
    rw [cond_false]
    rcases run_ends hH hG with ⟨n, hn, hrun⟩ | ⟨n, hrun⟩
    · obtain ⟨τ, a1, a2, a3⟩ := m_run n S.1 σ hrun hG hc
      exact ⟨τ, _, a1, a2, fin_ok n hG, by rw [tgF_run hrun (by omega)]; exact Req.rf _, a3⟩
    · obtain ⟨τ, H, a1, a2, a3, a4⟩ := m_runB n S.1 σ hrun hG hc
      exact ⟨τ, _, a1, a2, a3, Req.of_true rfl (tgF_runB hrun), a4⟩
theorem fact_toGreibach (σ : si_M) (h : gI σ) : ∃ (r : Int32) (σ1 σ2 : si_M), si_sc gP nX8_toGreibach (.ref 0 :: []) σ = some (some (.int r), σ1) ∧ si_sc gP nX9_toGreibach (.ref 29 :: []) σ1 = some (some (.int r), σ2) ∧ gI σ2 := by
  obtain ⟨N, hN⟩ : ∃ N, N = 1000000 := ⟨_, rfl⟩
  refine fact_i h (fun A => if A.2.1.any emB || cyB A.2.1 then -8 else finR (vlA 1 (tgF N (lrF A.2.1)))) (fun A => if A.2.1.any emB || cyB A.2.1 then A else finA (vlA 1 (tgF N (lrF A.2.1))) A) (fun A hA => ?_) (fun A σ hA h => ?_) (fun A σ hA h => ?_)
  · try dsimp only
    split
    · exact hA
    · exact finA_ok (vlA_ok (tgF_ok N (lrF_ok hA.2.1))) hA
  · try dsimp only
    obtain ⟨τ0, a1, a2, a3⟩ := s_X8_isEndless hA h
    rw [e_X8_toGreibach, a1, ci_s, bz]
    cases he : (A.2.1.any emB || cyB A.2.1) with
    | true => exact ⟨τ0, rfl, a2, a3⟩
    | false =>
      have he' := Bool.or_eq_false_iff.mp he
      obtain ⟨τ1, b1, b2, b3⟩ := s_X7_begin hA a2
      obtain ⟨τ2, S, c1, c2, c3, c4, c5⟩ := s_X7_dropLeftRecursion b2 hA.2.1
      obtain ⟨τ3, S3, d1, d2, d3, d4, d5⟩ := s_X7_expandLeftEnds hN hA.2.1 he'.1 he'.2 c2 c3 c4
      obtain ⟨τ4, S4, f1, f2, f3, f4, f5⟩ := s_X7_nameTerminals d2 d3 (f := 1) (by decide)
      obtain ⟨ρ, g1, g2, g3⟩ := fin_c a2 (((b3.tr c5).tr d5).tr f5) f2 f3 (f4.tr (Req.lift (F := vlA 1) (fun S hS => vlA_fl hS) d4))
      rw [cond_false, b1, cv_s, c1, cv_s, d1, cv_s, f1, cv_s, g1, ci_s]
      exact ⟨ρ, rfl, g2, a3.tr g3⟩
  · try dsimp only
    rw [e_X9_toGreibach, s_X9_hasEmpty h.2.2.1 h.2.2.2.1 hA.2.1, ci_s, bn]
    cases he : A.2.1.any emB with
    | true => exact ⟨σ, rfl, h, KM.rf⟩
    | false =>
      rw [cond_false, s_X9_hasUnitCycle hA h, ci_s, bz, Bool.false_or]
      have k0 := lm_mS (k := 40) (by decide) σ (clw (uns A.2.1))
      cases hc : cyB A.2.1 with
      | true => exact ⟨_, rfl, h.sc k0, km_of k0⟩
      | false =>
        obtain ⟨τ1, b1, b2, b3⟩ := s_X9_start hA (h.sc k0)
        obtain ⟨τ2, S, c1, c2, c3, c4, c5⟩ := s_X9_unwindAll b2 hA.2.1
        obtain ⟨τ3, S3, d1, d2, d3, d4, d5⟩ := s_X9_tellAll hN hA.2.1 he hc c2 c3 c4
        obtain ⟨τ4, S4, f1, f2, f3, f4, f5⟩ := s_X9_veilAll d2 d3 false
        obtain ⟨ρ, g1, g2, g3⟩ := fin_m h ((((k0.tr b3).tr c5).tr d5).tr f5) f2 f3 (f4.tr (Req.lift (F := vlA 1) (fun S hS => vlA_fl hS) d4))
        rw [cond_false, b1, cv_s, c1, cv_s, d1, h_X9_toGreibach_38, cT rfl, show nI 0 = bI false from rfl, f1, cv_s, g1, ci_s]
        exact ⟨ρ, rfl, g2, g3⟩
