/-! names for terminals: the model -/
theorem s_X9_veil {σ : si_M} {S : List PR × Bool} (hc : Cp σ S) (hf0 : S.2 = false) (hG : Gok S.1) (c : Bool) {t : Nat} (ht : 1 ≤ t ∧ t ≤ 24) : ∃ τ, si_sc gP nX9_veil [.ref 29, .int (nI t), .int (bI c)] σ = some (none, τ) ∧ Cp τ (vlF (cf c) t S) ∧ KeepM mF mS σ τ := by
  have hl := hG.1
  have w17 : ∀ (i : Nat) (hi : i < S.1.length) (d j : Nat) (b : Bool), j + d = 8 → si_sem gP nX9_veil 17 [.ref 29, .int (nI t), .int (bI c), .int (bI b), .int (nI i), .int (nI j), si_U] [] σ = si_sem gP nX9_veil 5 [.ref 29, .int (nI t), .int (bI c), .int (bI (b || (List.range' j d).any (mns (cf c) t S.1[i]))), .int (nI (i + 1)), si_U, si_U] [] σ := by
    intro i hi d
    have hok := hG.2.1.at hi
    induction d with
    | zero =>
      intro j b hj
      rw [h_X9_veil_17, cT (nI_le (show 8 ≤ j by omega) (by omega)), nI_add]
      simp
    | succ d ih =>
      intro j b hj
      rw [h_X9_veil_17, cF (nI_ge (show j < 8 by omega) (by decide)), bn, nI_add, List.range'_succ, List.any_cons]
      cases b with
      | true =>
        rw [cond_true, show nI 1 = bI true from rfl, ih (j + 1) true (by omega)]
        rfl
      | false =>
        rw [cond_false, inT (show i < 60 by omega) (by decide), nI_clamp (by omega), hc.2.2.at hi, s_X9_mayNotStay hok ht (by omega), ci_s, bz, Bool.false_or]
        cases hb : mns (cf c) t S.1[i] j with
        | true => rw [cond_true, show nI 1 = bI true from rfl, ih (j + 1) true (by omega), Bool.true_or]
        | false => rw [cond_false, show nI 0 = bI false from rfl, ih (j + 1) false (by omega)]
  have w5 := lp_or (F := fun i b => si_sem gP nX9_veil 5 [.ref 29, .int (nI t), .int (bI c), .int (bI b), .int (nI i), si_U, si_U] [] σ) (G := S.1) (p := mst (cf c) t) (fun i b hi => by
    try dsimp only
    rw [h_X9_veil_5, hc.1, cF (nI_ge hi (by omega)), w17 i hi 8 0 b rfl, mns_any ht.1 (hG.2.1.at hi)])
  rw [e_X9_veil]
  unfold vlF
  rw [if_neg (by rw [hf0]; decide)]
  cases hb : S.1.any (mst (cf c) t) with
  | false =>
    rw [hb] at w5
    refine ⟨σ, ?_, hc, KeepM.rf⟩
    refine Eq.trans w5 ?_
    try dsimp only
    rw [h_X9_veil_5, hc.1, cT (nI_le (Nat.le_refl _) (by omega)), bz, cond_false, bz, cond_false]
  | true =>
    rw [hb] at w5
    rw [if_pos rfl]
    have e5 : si_sem gP nX9_veil 5 [.ref 29, .int (nI t), .int (bI c), .int (nI 0), .int (nI 0), si_U, si_U] [] σ = (si_ci (si_sc gP nX9_freeOne [.ref 29] σ) (fun r2_68 σ2_68 => (cond (decide ((σ2_68.1 29 27) = (nI 0))) (si_cv (si_sc gP nX9_begin [.ref 29] σ2_68) (fun σ5_90 => si_sem gP nX9_veil 96 [.ref 29, .int (nI t), .int (bI c), si_U, .int r2_68, .int (nI 0), si_U] [] σ5_90)) (some (none, σ2_68))))) := by
      refine Eq.trans w5 ?_
      try dsimp only
      rw [h_X9_veil_5, hc.1, cT (nI_le (Nat.le_refl _) (by omega)), bz, cond_true]
      congr 1
    rw [e5, s_X9_freeOne hc hG, ci_s]
    cases hfr : fre S.1 with
    | none =>
      try dsimp only
      rw [sI_same, cF (by decide)]
      refine ⟨_, rfl, ⟨by rw [sI_nj _ 29 _ (by decide)]; exact hc.1, sI_same _ _ _ _, hc.2.2⟩, KeepM.sI σ (by decide) _⟩
    | some z =>
      have hz := fre_lt hfr
      obtain ⟨τ1, b1, b2, b3⟩ := s_X9_begin σ
      try dsimp only
      rw [hc.2.1, hf0, bz, cond_false, b1, cv_s, show fI (some z) = nI z from rfl]
      have w113 : ∀ (i : Nat) (hi : i < S.1.length) (T : List PR × Bool), Gok T.1 → ∀ (d j : Nat) (v : List Nat) (τ : si_M), j + d = S.1[i].2.length → Rw τ v → v.length = j → (∀ a ∈ v, 1 ≤ a ∧ a ≤ 24) → Nx τ T → Cp τ S → ∃ τ', si_sem gP nX9_veil 113 [.ref 29, .int (nI t), .int (bI c), si_U, .int (nI z), .int (nI i), .int (nI j)] [] τ = si_sem gP nX9_veil 96 [.ref 29, .int (nI t), .int (bI c), si_U, .int (nI z), .int (nI (i + 1)), si_U] [] τ' ∧ Nx τ' (cadd (some (S.1[i].1, v ++ (if 1 < S.1[i].2.length then rnm t (cf c) (z + 1) j (S.1[i].2.drop j) else S.1[i].2.drop j))) T) ∧ KeepM [11, 12, 14] [33, 34] τ τ' := by
        intro i hi T hT d
        have hok := hG.2.1.at hi
        have hw := hok.2.1
        induction d with
        | zero =>
          intro j v τ hd hr hv hva hN hC
          obtain ⟨τ', o1, o2, o3⟩ := s_X9_putRow hr (by omega) hva hN hT hok.1
          have er : rowP S.1[i].1 v = some (S.1[i].1, v) := by unfold rowP; rw [if_pos (by omega)]
          rw [er] at o2
          have ed : v ++ (if 1 < S.1[i].2.length then rnm t (cf c) (z + 1) j (S.1[i].2.drop j) else S.1[i].2.drop j) = v := by
            rw [List.drop_eq_nil_of_le (by omega)]
            simp [rnm]
          rw [ed, h_X9_veil_113, inT (show i < 60 by omega) (by decide), nI_clamp (by omega), hC.2.2.at hi, s_X9_at hok (by omega), ci_s, getD_out (by omega), cT (nI_le (Nat.le_refl 0) (by decide)), inT (show i < 60 by omega) (by decide), hC.2.2.at hi, s_X9_left hok, ci_s, o1, cv_s, nI_add]
          exact ⟨τ', rfl, o2, o3.mono (by decide) (by decide)⟩
        | succ d ih =>
          intro j v τ hd hr hv hva hN hC
          have hj : j < S.1[i].2.length := by omega
          have hp := hok.2.2 _ (List.getElem_mem hj)
          have go : ∀ b, 1 ≤ b ∧ b ≤ 24 → b = (if mns (cf c) t S.1[i] j then z + 1 else S.1[i].2[j]) → ∃ τ', si_sem gP nX9_veil 113 [.ref 29, .int (nI t), .int (bI c), si_U, .int (nI z), .int (nI i), .int (nI (j + 1))] [] (si_sI (si_sI τ 34 v.length (nI b)) 29 14 (nI (v.length + 1))) = si_sem gP nX9_veil 96 [.ref 29, .int (nI t), .int (bI c), si_U, .int (nI z), .int (nI (i + 1)), si_U] [] τ' ∧ Nx τ' (cadd (some (S.1[i].1, v ++ (if 1 < S.1[i].2.length then rnm t (cf c) (z + 1) j (S.1[i].2.drop j) else S.1[i].2.drop j))) T) ∧ KeepM [11, 12, 14] [33, 34] τ τ' := by
            intro b hb he
            have k1 : KeepM [14] [34] τ (si_sI (si_sI τ 34 v.length (nI b)) 29 14 (nI (v.length + 1))) := (KeepM.cI τ (by decide) (by decide) _ _).tr (KeepM.sI _ (by decide) _)
            obtain ⟨τ', t1, t2, t3⟩ := ih (j + 1) (v ++ [b]) _ (by omega) (hr.snoc b) (by simp; omega) (fun a ha => by
              rcases List.mem_append.mp ha with h | h
              · exact hva a h
              · rw [List.mem_singleton.mp h]; exact hb) (hN.of k1 (by decide) (by decide) (by decide)) (hC.of k1 (by decide) (by decide) (by decide))
            refine ⟨τ', t1, ?_, (k1.mono (by decide) (by decide)).tr t3⟩
            have el : v ++ [b] ++ (if 1 < S.1[i].2.length then rnm t (cf c) (z + 1) (j + 1) (S.1[i].2.drop (j + 1)) else S.1[i].2.drop (j + 1)) = v ++ (if 1 < S.1[i].2.length then rnm t (cf c) (z + 1) j (S.1[i].2.drop j) else S.1[i].2.drop j) := by
              rw [List.append_assoc, List.drop_eq_getElem_cons hj]
              congr 1
              unfold mns at he
              rw [gD hj] at he
              by_cases h1 : 1 < S.1[i].2.length
              · rw [if_pos h1, if_pos h1]
                simp only [rnm]
                rw [List.singleton_append, he, decide_eq_true h1, Bool.true_and]
                by_cases h2 : S.1[i].2[j] = t
                · by_cases h3 : cf c ≤ j
                  · simp [h2, h3]
                  · simp [h2, h3]
                · simp [h2]
              · rw [if_neg h1, if_neg h1, he, decide_eq_false h1]
                simp
            rw [el] at t2
            exact t2
          rw [h_X9_veil_113, inT (show i < 60 by omega) (by decide), nI_clamp (by omega), hC.2.2.at hi, s_X9_at hok (by omega), ci_s, gD hj, cF (nI_ge (show 0 < S.1[i].2[j] by omega) (by omega)), inT (show i < 60 by omega) (by decide), hC.2.2.at hi, s_X9_mayNotStay hok ht (by omega), ci_s, bz, inT (show i < 60 by omega) (by decide), hC.2.2.at hi, s_X9_at hok (by omega), ci_s, gD hj, hr.1, inT (show v.length < 32 by omega) (by decide), inT (show v.length < 32 by omega) (by decide), nI_clamp (by omega), nI_add, nI_add, nI_add]
          cases hb : mns (cf c) t S.1[i] j with
          | false => rw [cond_false]; exact go _ hp (by rw [hb]; rfl)
          | true => rw [cond_true]; exact go _ ⟨by omega, by omega⟩ (by rw [hb]; rfl)
      have r0 : Cp τ1 S := hc.of b3 (by decide) (by decide) (by decide)
      obtain ⟨τ2, f1, f2⟩ := lp_ex (F := fun i τ => si_sem gP nX9_veil 96 [.ref 29, .int (nI t), .int (bI c), si_U, .int (nI z), .int (nI i), si_U] [] τ) (G := S.1) (f := fun T q => cadd (some (vlq (cf c) t z q)) T) (R := fun τ T => Cp τ S ∧ Nx τ T ∧ Gok T.1 ∧ KeepM mF mS σ τ) (fun i τ T hi hR => by
        obtain ⟨r1, r2, r3, r4⟩ := hR
        have hok := hG.2.1.at hi
        have k0 : KeepM [14] [] τ (si_sI τ 29 14 (nI 0)) := KeepM.sI τ (by decide) _
        obtain ⟨τ', t1, t2, t3⟩ := w113 i hi T r3 S.1[i].2.length 0 [] (si_sI τ 29 14 (nI 0)) (by omega) (Rw.nil τ) rfl (fun a ha => by cases ha) (r2.of k0 (by decide) (by decide) (by decide)) (r1.of k0 (by decide) (by decide) (by decide))
        rw [List.nil_append, List.drop_zero] at t2
        try dsimp only
        rw [h_X9_veil_96, r1.1, cF (nI_ge hi (by omega)), t1]
        have kk : KeepM [11, 12, 14] [33, 34] τ τ' := (k0.mono (by decide) (by decide)).tr t3
        exact ⟨τ', rfl, r1.of kk (by decide) (by decide) (by decide), t2, cadd_some_ok r3 (vlq_ok hok hz), r4.tr (kk.mono (by decide) (by decide))⟩) τ1 ([], false) ⟨r0, b2, Gok.nil, b3.mono (by decide) (by decide)⟩
      obtain ⟨r1, r2, r3, r4⟩ := f2
      rw [fold_map (fun q => vlq (cf c) t z q)] at r2 r3
      have hone := okp_one (t := t) hz ht
      have k3 : KeepM [14] [34] τ2 (si_sI (si_sI τ2 34 0 (nI t)) 29 14 (nI 1)) := (KeepM.cI τ2 (by decide) (by decide) _ _).tr (KeepM.sI _ (by decide) _)
      have hr3 : Rw (si_sI (si_sI τ2 34 0 (nI t)) 29 14 (nI 1)) [t] := ⟨sI_same _ _ _ _, fun j hj => by
        have : j = 0 := by simp at hj; omega
        subst this
        rw [sI_ne _ _ _ (by decide), sI_same]
        rfl⟩
      obtain ⟨τ3, o1, o2, o3⟩ := s_X9_putRow hr3 (by simp) (fun a ha => by rw [List.mem_singleton.mp ha]; exact ht) (r2.of k3 (by decide) (by decide) (by decide)) r3 hz
      have er : rowP z [t] = some (z, [t]) := rfl
      rw [er] at o2
      have kk : KeepM [11, 12, 14] [33, 34] τ2 τ3 := (k3.mono (by decide) (by decide)).tr (o3.mono (by decide) (by decide))
      have hC3 : Cp τ3 S := r1.of kk (by decide) (by decide) (by decide)
      obtain ⟨τ4, p1, p2, p3⟩ := s_X9_step (cadd_some_ok r3 hone).1 o2 hC3
      refine ⟨τ4, ?_, ?_, (r4.tr (kk.mono (by decide) (by decide))).tr (p3.mono (by decide) (by decide))⟩
      · refine Eq.trans f1 ?_
        try dsimp only
        rw [h_X9_veil_96, r1.1, cT (nI_le (Nat.le_refl _) (by omega)), inT (by decide) (by decide), clamp0, o1, cv_s, p1, cv_s]
      · try dsimp only
        rw [hf0, Bool.false_or] at p2
        rw [addall_app]
        exact p2
theorem s_X9_veilAll {σ : si_M} {S : List PR × Bool} (hc : Cp σ S) (hG : Gok S.1) (c : Bool) : ∃ τ S', si_sc gP nX9_veilAll [.ref 29, .int (bI c)] σ = some (none, τ) ∧ Cp τ S' ∧ Gok S'.1 ∧ Req S' (vlA (cf c) S) ∧ KeepM mF mS σ τ := by
  rw [e_X9_veilAll]
  obtain ⟨τ, S', c1, c2, c3⟩ := lp_cap (F := fun i τ => si_sem gP nX9_veilAll 3 [.ref 29, .int (bI c), .int (nI (17 + i))] [] τ) (G := List.range 8) (f := fun S i => vlF (cf c) (17 + i) S) (R := fun τ S => Cp τ S ∧ Gok S.1 ∧ KeepM mF mS σ τ) (fun S i h => by rw [vlF_fl h]; exact h) (fun i τ S hi hR hf0 => by
    obtain ⟨r2, r3, r4⟩ := hR
    have hi : i < 8 := by simpa using hi
    have ht : 1 ≤ 17 + i ∧ 17 + i ≤ 24 := ⟨by omega, by omega⟩
    obtain ⟨τ', a1, a2, a3⟩ := s_X9_veil r2 hf0 r3 c ht
    rw [List.getElem_range]
    try dsimp only
    rw [h_X9_veilAll_3, cF (nI_ge (show 17 + i < 25 by omega) (by decide)), r2.2.1, bn, hf0, cond_false, a1, cv_s, nI_add]
    exact ⟨τ', rfl, a2, vlF_ok r3 ht, r4.tr a3⟩) (fun i τ S hi hR ht => by
    obtain ⟨r2, r3, r4⟩ := hR
    have hi : i < 8 := by simpa using hi
    try dsimp only
    rw [h_X9_veilAll_3, cF (nI_ge (show 17 + i < 25 by omega) (by decide)), r2.2.1, bn, ht, cond_true]) (fun τ S hR => by
    try dsimp only
    rw [List.length_range, h_X9_veilAll_3, cT (nI_le (by decide) (by decide))]) σ S ⟨hc, hG, KeepM.rf⟩
  obtain ⟨r2, r3, r4⟩ := c2
  exact ⟨τ, S', c1, r2, r3, c3, r4⟩
