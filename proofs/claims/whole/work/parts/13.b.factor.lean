/-! leftFactor: the class -/
theorem nI_min {a b : Nat} (ha : a < 2 ^ 31) (hb : b < 2 ^ 31) : (if nI b < nI a then nI b else nI a) = nI (min a b) := by
  by_cases h : b < a
  · rw [if_pos (nI_lt h ha), Nat.min_eq_right (by omega)]
  · rw [if_neg (nI_nlt (by omega) hb), Nat.min_eq_left (by omega)]
theorem s_X7_sharedLength {p q : PR} (hp : okp p) (hq : okp q) (σ : si_M) : si_sc gP nX7_sharedLength [.long (lN (en p)), .long (lN (en q))] σ = some (some (.int (nI (shl p q))), σ) := by
  have hp8 := hp.2.1
  have hq8 := hq.2.1
  have hp1 := hp.1
  have hq1 := hq.1
  have key : ∀ (d k : Nat), k + d = min p.2.length q.2.length → si_sem gP nX7_sharedLength 29 [.long (lN (en p)), si_U, .long (lN (en q)), si_U, .int (nI (min p.2.length q.2.length)), .int (nI k)] [] σ = some (some (.int (nI (k + lcp (p.2.drop k) (q.2.drop k)))), σ) := by
    intro d
    induction d with
    | zero =>
      intro k hk
      have e : lcp (p.2.drop k) (q.2.drop k) = 0 := by
        rcases Nat.le_total p.2.length q.2.length with h | h
        · rw [Nat.min_eq_left h] at hk
          rw [List.drop_eq_nil_of_le (show p.2.length ≤ k by omega), lcp_nl]
        · rw [Nat.min_eq_right h] at hk
          rw [List.drop_eq_nil_of_le (show q.2.length ≤ k by omega), lcp_nr]
      rw [h_X7_sharedLength_29, cT (nI_le (by omega) (by omega)), e, Nat.add_zero]
    | succ d ih =>
      intro k hk
      have h1 : k < p.2.length := by omega
      have h2 : k < q.2.length := by omega
      have g1 := hp.2.2 _ (List.getElem_mem h1)
      have g2 := hq.2.2 _ (List.getElem_mem h2)
      rw [h_X7_sharedLength_29, cF (nI_ge (show k < min p.2.length q.2.length by omega) (by omega)), s_X5_symbolAt hp (by omega), ci_s, s_X5_symbolAt hq (by omega), ci_s, sy_in hp h1, sy_in hq h2, gD h1, gD h2, nI_add, ih (k + 1) (by omega), List.drop_eq_getElem_cons h1, List.drop_eq_getElem_cons h2]
      simp only [lcp]
      by_cases e : p.2[k] = q.2[k]
      · rw [nF (by rw [e]), if_pos e, Nat.add_assoc, Nat.add_comm 1]
      · rw [nT (nI_eqF (by omega) (by omega) (by omega)), if_neg e, Nat.add_zero]
  rw [e_X7_sharedLength, s_X5_left hp, ci_s, s_X5_left hq, ci_s]
  unfold shl
  by_cases e : p.1 = q.1
  · rw [cT (by rw [e]), s_X5_length hp, ci_s, s_X5_length hq, ci_s, nI_min (by omega) (by omega), key _ 0 (Nat.zero_add _), if_pos e, List.drop_zero, List.drop_zero, Nat.zero_add]
  · rw [cF (nI_eqF e (by omega) (by omega)), if_neg e]
theorem s_X7_firstShared {σ : si_M} {S : List PR × Bool} (hm : Gm σ 25 S) (hG : Gok S.1) : si_sc gP nX7_firstShared [.ref 24] σ = some (some (.int (nI ((fSh S.1).getD S.1.length))), σ) := by
  have hl := hG.1
  have := lp_idx (F := fun i => si_sem gP nX7_firstShared 2 [.ref 24, .int (nI i)] [] σ) (G := List.range (S.1.length - 1)) (p := fun i => decide (0 < shl (gd S.1 i) (gd S.1 (i + 1)))) (X := fun i => some (some (.int (nI i)), σ)) (Y := some (some (.int (nI S.1.length)), σ)) (fun i hi => by
    have hi : i < S.1.length - 1 := by simpa using hi
    have h1 : i < S.1.length := by omega
    have h2 : i + 1 < S.1.length := by omega
    have hok1 := hG.2.1.at h1
    have hok2 := hG.2.1.at h2
    have hsl := (shl_le S.1[i] S.1[i + 1]).1
    have h8 := hok1.2.1
    rw [List.getElem_range]
    try dsimp only
    rw [h_X7_firstShared_2, e_X2_count 25 (by decide), ci_s, hm.1, nI_add, cF (nI_ge h2 (by omega)), s_X2_at (by decide) hm hl h1, cl_s, s_X2_at (by decide) hm hl h2, cl_s, s_X7_sharedLength hok1 hok2, ci_s, gd_at h1, gd_at h2]
    by_cases h0 : 0 < shl S.1[i] S.1[i + 1]
    · rw [cF (nI_ge h0 (by omega)), decide_eq_true h0]; rfl
    · rw [cT (nI_le (show shl S.1[i] S.1[i + 1] ≤ 0 by omega) (by decide)), decide_eq_false h0]; rfl) (by
    try dsimp only
    rw [List.length_range, h_X7_firstShared_2, e_X2_count 25 (by decide), ci_s, hm.1, nI_add, cT (nI_le (show S.1.length ≤ S.1.length - 1 + 1 by omega) (by omega)), e_X2_count 25 (by decide), ci_s, hm.1])
  rw [e_X7_firstShared]
  unfold fSh
  rcases this with ⟨h1, h2⟩ | ⟨i, hi, h1, h2, _⟩
  · rw [h1]; exact h2
  · rw [h1, List.getElem_range]; exact h2
theorem tw_cons {p q : PR} {D : List PR} : tw p (q :: D) = if 0 < shl p q then q :: tw p D else [] := by
  unfold tw
  rw [List.takeWhile_cons]
  by_cases h : 0 < shl p q
  · rw [if_pos h, if_pos (decide_eq_true h)]
  · rw [if_neg h, if_neg (fun e => h (of_decide_eq_true e))]
theorem s_X7_factor {σ : si_M} {S : List PR × Bool} (hm : Gm σ 25 S) (hf0 : S.2 = false) (hG : Gok S.1) {i : Nat} (hi : fSh S.1 = some i) : ∃ τ, si_sc gP nX7_factor [.ref 24, .int (nI i)] σ = some (none, τ) ∧ Gm τ 25 (faF S) ∧ Keep csc σ τ := by
  obtain ⟨hi1, hi2⟩ := fSh_in hi
  have hil : i < S.1.length := by omega
  have hl := hG.1
  have hpo := hG.2.1.at hil
  have hp8 := hpo.2.1
  rw [e_X7_factor, s_X2_freeNonterminal hm hG, ci_s]
  unfold faF
  rw [if_neg (by rw [hf0]; decide), hi]
  cases hfr : fre S.1 with
  | none =>
    obtain ⟨τ, a1, a2, a3⟩ := s_X2_refuse' hm
    rw [show fI none = (-1 : Int32) from rfl, nF rfl, a1, cv_s]
    exact ⟨τ, rfl, a2, a3⟩
  | some z =>
    have hz := fre_lt hfr
    obtain ⟨τ1, b1, b2, b3, b4⟩ := s_X7_copyBefore hm hl
    have hS : S = (S.1, false) := by rw [← hf0]
    rw [show fI (some z) = nI z from rfl, nT (fI_ne hz), b1, cv_s, s_X2_at (by decide) b2 hl hil, cl_s]
    have w48 : ∀ (d j : Nat) (C : List PR) (s : Nat) (τ : si_M), j + d = S.1.length → Gok C → Gm τ 25 (C, false) → Gm τ 27 S → ∃ τ', si_sem gP nX7_factor 48 [.ref 24, .int (nI i), .int (nI z), .long (lN (en S.1[i])), si_U, .int (nI s), .int (nI j), si_U] [] τ = (si_cl (si_sc gP nX5_cut [.long (lN (en S.1[i])), .int (nI ((tw S.1[i] (S.1.drop j)).foldl (fun _ q => shl S.1[i] q) s))] τ') (fun r2_116 σ2_116 => si_cl (si_sc gP nX5_extended [.long r2_116, .int (nI z)] σ2_116) (fun r3_120 σ3_120 => si_cv (si_sc gP nX2_add [.ref 25, .long r3_120] σ3_120) (fun σ4_123 => si_sem gP nX7_factor 129 [.ref 24, si_U, .int (nI z), .long (lN (en S.1[i])), si_U, .int (nI ((tw S.1[i] (S.1.drop j)).foldl (fun _ q => shl S.1[i] q) s)), .int (nI i), si_U] [] σ4_123)))) ∧ Gm τ' 25 (rms (tw S.1[i] (S.1.drop j)) C, false) ∧ Gm τ' 27 S ∧ Keep csc τ τ' := by
      intro d
      induction d with
      | zero =>
        intro j C s τ hd hC g25 g27
        rw [h_X7_factor_48, e_X2_count 27 (by decide), ci_s, g27.1, cT (nI_le (show S.1.length ≤ j by omega) (by omega)), List.drop_eq_nil_of_le (show S.1.length ≤ j by omega)]
        exact ⟨τ, rfl, g25, g27, Keep.rf⟩
      | succ d ih =>
        intro j C s τ hd hC g25 g27
        have hj : j < S.1.length := by omega
        have hok := hG.2.1.at hj
        have hsl := (shl_le S.1[i] S.1[j]).1
        rw [h_X7_factor_48, e_X2_count 27 (by decide), ci_s, g27.1, cF (nI_ge hj (by omega)), s_X2_at (by decide) g27 hl hj, cl_s, s_X7_sharedLength hpo hok, ci_s, List.drop_eq_getElem_cons hj, tw_cons]
        by_cases h0 : 0 < shl S.1[i] S.1[j]
        · obtain ⟨τ2, c1, c2, c3⟩ := s_X2_remove' g25 hC hok
          obtain ⟨τ', t1, t2, t3, t4⟩ := ih (j + 1) (rmv S.1[j] C) (shl S.1[i] S.1[j]) τ2 (by omega) (rmv_ok hC) c2 (g27.keep c3 (by decide) (by decide))
          rw [if_pos h0, nT (nI_eqF (show shl S.1[i] S.1[j] ≠ 0 by omega) (by omega) (by decide)), s_X2_at (by decide) g27 hl hj, cl_s, c1, cv_s, nI_add, t1]
          exact ⟨τ', rfl, t2, t3, (c3.mono (by decide)).tr t4⟩
        · have e0 : shl S.1[i] S.1[j] = 0 := by omega
          rw [if_neg h0, e0, nF rfl]
          exact ⟨τ, rfl, g25, g27, Keep.rf⟩
    obtain ⟨τ2, c1, c2, c3, c4⟩ := w48 (S.1.length - i) i S.1 8 τ1 (by omega) hG (by rw [hS] at b3; exact b3) b2
    have esm : (tw S.1[i] (S.1.drop i)).foldl (fun _ q => shl S.1[i] q) 8 = sm S.1 i := by unfold sm rn; rw [gd_at hil]
    have ern : tw S.1[i] (S.1.drop i) = rn S.1 i := by unfold rn; rw [gd_at hil]
    rw [esm] at c1
    rw [ern] at c2
    obtain ⟨f1, f2, f3, f4, f5⟩ := rn_facts hG hil
    have h0 : 0 < S.1[i].2.length := Nat.lt_of_lt_of_le hi2 (shl_le _ _).1
    have hhd := rn_head hil h0
    have hsm1 : sm S.1 i ≤ S.1[i].2.length := Nat.le_trans (f4 _ hhd) (shl_le _ _).1
    have hex := s_X5_extended (a := z + 1) (okp_take hpo (sm S.1 i)) ⟨by omega, by omega⟩ τ2
    rw [show z + 1 - 1 = z from rfl] at hex
    have hxo := ext_ok (okp_take hpo (sm S.1 i)) (a := z + 1) ⟨by omega, by omega⟩
    obtain ⟨τ3, d1, d2, d3, d4⟩ := s_X2_add25 c2 c3 (rms_ok _ hG) hxo
    have w129 : ∀ (d j : Nat) (T : List PR × Bool) (τ : si_M), j + d = S.1.length → (∀ q ∈ tw S.1[i] (S.1.drop j), q ∈ rn S.1 i) → Gok T.1 → Gm τ 25 T → Gm τ 27 S → ∃ τ', si_sem gP nX7_factor 129 [.ref 24, si_U, .int (nI z), .long (lN (en S.1[i])), si_U, .int (nI (sm S.1 i)), .int (nI j), si_U] [] τ = some (none, τ') ∧ Gm τ' 25 (addall ((tw S.1[i] (S.1.drop j)).map (fun q => some (z, q.2.drop (sm S.1 i)))) T) ∧ Keep csc τ τ' := by
      intro d
      induction d with
      | zero =>
        intro j T τ hd _ hT g25 g27
        rw [h_X7_factor_129, e_X2_count 27 (by decide), ci_s, g27.1, cT (nI_le (show S.1.length ≤ j by omega) (by omega)), List.drop_eq_nil_of_le (show S.1.length ≤ j by omega)]
        exact ⟨τ, rfl, g25, Keep.rf⟩
      | succ d ih =>
        intro j T τ hd hsub hT g25 g27
        have hj : j < S.1.length := by omega
        have hok := hG.2.1.at hj
        have hq8 := hok.2.1
        have hsl := (shl_le S.1[i] S.1[j]).1
        rw [List.drop_eq_getElem_cons hj, tw_cons] at hsub ⊢
        rw [h_X7_factor_129, e_X2_count 27 (by decide), ci_s, g27.1, cF (nI_ge hj (by omega)), s_X2_at (by decide) g27 hl hj, cl_s, s_X7_sharedLength hpo hok, ci_s]
        by_cases h0 : 0 < shl S.1[i] S.1[j]
        · rw [if_pos h0] at hsub ⊢
          have hin := hsub _ (List.mem_cons_self ..)
          have hsj : sm S.1 i ≤ S.1[j].2.length := Nat.le_trans (f4 _ hin) (shl_le _ _).2
          have e2 : joi (z, []) S.1[j].2 (sm S.1 i) = some (z, S.1[j].2.drop (sm S.1 i)) := by
            unfold joi
            rw [if_pos (by simp; omega)]
            rfl
          have hoo : okp (z, S.1[j].2.drop (sm S.1 i)) := ⟨hz, by rw [List.length_drop]; omega, fun a ha => hok.2.2 a (List.mem_of_mem_drop ha)⟩
          obtain ⟨τ2, a1, a2, a3, a4⟩ := s_X2_add25 g25 g27 hT (o := some (z, S.1[j].2.drop (sm S.1 i))) (fun p hp => by cases hp; exact hoo)
          obtain ⟨τ', t1, t2, t3⟩ := ih (j + 1) _ τ2 (by omega) (fun q hq => hsub q (List.mem_cons_of_mem _ hq)) (cadd_some_ok hT hoo) a2 a3
          rw [cF (nI_ge h0 (by omega)), s_X5_withoutRight hz, cl_s, s_X2_at (by decide) g27 hl hj, cl_s, s_X5_joined (okp_nil hz) hok hsj, cl_s, e2, a1, cv_s, nI_add, t1]
          exact ⟨τ', rfl, t2, a4.tr t3⟩
        · rw [if_neg h0, cT (nI_le (show shl S.1[i] S.1[j] ≤ 0 by omega) (by decide))]
          exact ⟨τ, rfl, g25, Keep.rf⟩
    obtain ⟨τ4, u1, u2, u3⟩ := w129 (S.1.length - i) i _ τ3 (by omega) (by rw [ern]; exact fun q hq => hq) (Gok.add hxo (rms_ok _ hG)) d2 d3
    rw [c1, s_X5_cut hpo hsm1, cl_s, hex, cl_s, d1, cv_s, u1]
    refine ⟨τ4, rfl, ?_, ((b4.tr c4).tr d4).tr u3⟩
    show Gm τ4 25 (fa1 S.1 i z)
    unfold fa1
    rw [gd_at hil, addall_cons, ← ern]
    rw [ern] at u2 ⊢
    exact u2
theorem s_X7_factorPrefixes {σ : si_M} {S : List PR × Bool} (hm : Gm σ 25 S) (hG : Gok S.1) : ∃ τ, si_sc gP nX7_factorPrefixes [.ref 24] σ = some (none, τ) ∧ Gm τ 25 (itr faF 17 S) ∧ Keep csc σ τ := by
  have key : ∀ (d i : Nat) (S : List PR × Bool) (σ : si_M), i + d = 17 → Gm σ 25 S → Gok S.1 → ∃ τ, si_sem gP nX7_factorPrefixes 2 [.ref 24, .int (nI i), si_U] [] σ = some (none, τ) ∧ Gm τ 25 (itr faF d S) ∧ Keep csc σ τ := by
    intro d
    induction d with
    | zero =>
      intro i S σ hi hm hG
      rw [h_X7_factorPrefixes_2, cT (nI_lt (show 16 < i by omega) (by omega))]
      exact ⟨σ, rfl, hm, Keep.rf⟩
    | succ d ih =>
      intro i S σ hi hm hG
      have hl := hG.1
      rw [h_X7_factorPrefixes_2, cF (nI_nlt (show i ≤ 16 by omega) (by decide)), s_X2_isTooLarge hm, ci_s, bn]
      cases hf : S.2 with
      | true =>
        rw [cond_true, itr_fix (faF_fl hf)]
        exact ⟨σ, rfl, hm, Keep.rf⟩
      | false =>
        rw [cond_false, s_X7_firstShared hm hG, ci_s, e_X2_count 25 (by decide), ci_s, hm.1]
        cases hp : fSh S.1 with
        | none =>
          rw [Option.getD_none, nF rfl, itr_fix (faF_none hp)]
          exact ⟨σ, rfl, hm, Keep.rf⟩
        | some k =>
          obtain ⟨hk1, _⟩ := fSh_in hp
          obtain ⟨τ, a1, a2, a3⟩ := s_X7_factor hm hf hG hp
          obtain ⟨τ', t1, t2, t3⟩ := ih (i + 1) (faF S) τ (by omega) a2 (faF_ok hG)
          rw [Option.getD_some, nT (nI_eqF (show k ≠ S.1.length by omega) (by omega) (by omega)), a1, cv_s, nI_add, t1]
          exact ⟨τ', rfl, t2, a3.tr t3⟩
  rw [e_X7_factorPrefixes]
  exact key 17 0 S σ rfl hm hG
