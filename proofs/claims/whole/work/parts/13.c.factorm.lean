/-! leftFactor: the model -/
theorem rn_pref {G : List PR} {i : Nat} : ∃ t, rn G i ++ t = G.drop i := by
  obtain ⟨t, h⟩ := List.takeWhile_prefix (l := G.drop i) (fun q => decide (0 < shl (gd G i) q))
  exact ⟨t, h⟩
theorem rn_len {G : List PR} {i : Nat} (hi : i ≤ G.length) : i + (rn G i).length ≤ G.length := by
  obtain ⟨t, h⟩ := rn_pref (G := G) (i := i)
  have := congrArg List.length h
  rw [List.length_append, List.length_drop] at this
  omega
theorem rn_idx {G : List PR} (hG : Gok G) {i k : Nat} (hi : i ≤ G.length) (hk : k < G.length) : G[k] ∈ rn G i ↔ i ≤ k ∧ k < i + (rn G i).length := by
  obtain ⟨t, h⟩ := rn_pref (G := G) (i := i)
  have hl := rn_len (G := G) hi
  have hget : ∀ j (hj : j < (rn G i).length), (rn G i)[j] = G[i + j]'(by omega) := by
    intro j hj
    have h1 : (rn G i ++ t)[j]? = (G.drop i)[j]? := by rw [h]
    rw [List.getElem?_append_left hj, List.getElem?_eq_getElem hj, List.getElem?_drop, List.getElem?_eq_getElem (show i + j < G.length by omega)] at h1
    exact Option.some.inj h1
  constructor
  · intro hm
    obtain ⟨j, hj, e⟩ := List.getElem_of_mem hm
    rw [hget j hj] at e
    have := (srt_eq hG (show i + j < G.length by omega) hk).mp e
    omega
  · rintro ⟨h1, h2⟩
    have := hget (k - i) (by omega)
    have e : G[i + (k - i)]'(by omega) = G[k] := (srt_eq hG (by omega) hk).mpr (by omega)
    rw [e] at this
    rw [← this]
    exact List.getElem_mem _
def fmM (G : List PR) (i z : Nat) (q : PR) : Option PR := if q ∈ rn G i then some (z, q.2.drop (sm G i)) else some q
theorem fa_req {G : List PR} (hG : Gok G) {i : Nat} (hi : i < G.length) {z : Nat} (hz : z < 16) : Req (addall (G.map (fmM G i z) ++ [ext ((gd G i).1, (gd G i).2.take (sm G i)) (z + 1)]) ([], false)) (fa1 G i z) := by
  obtain ⟨f1, f2, f3, f4, f5⟩ := rn_facts hG hi
  have hook := fa_ook hG hi hz
  have hmm := rms_mem (rn G i) (C := G) (fun x hx => hG.2.1 x (f1 x hx).1) hG
  unfold fa1
  refine add_conf (fun o ho p hp => ?_) hook Gok.nil (rms_ok _ hG) rfl rfl (fun o => ?_)
  · rcases List.mem_append.mp ho with h | h
    · obtain ⟨q, hq, e⟩ := List.mem_map.mp h
      unfold fmM at e
      split at e
      · rename_i hr
        exact hook o (List.mem_cons_of_mem _ (List.mem_map.mpr ⟨q, hr, e⟩)) p hp
      · rw [hp] at e; rw [← Option.some.inj e]; exact hG.2.1 q hq
    · rw [List.mem_singleton.mp h] at hp
      exact hook _ (List.mem_cons_self ..) p hp
  · constructor
    · rintro (h | ⟨p, hp, _⟩)
      · rcases List.mem_append.mp h with h | h
        · obtain ⟨q, hq, e⟩ := List.mem_map.mp h
          unfold fmM at e
          split at e
          · rename_i hr
            exact Or.inl (List.mem_cons_of_mem _ (List.mem_map.mpr ⟨q, hr, e⟩))
          · rename_i hr
            exact Or.inr ⟨q, (hmm q).mpr ⟨hq, hr⟩, e.symm⟩
        · rw [List.mem_singleton.mp h]; exact Or.inl (List.mem_cons_self ..)
      · cases hp
    · rintro (h | ⟨p, hp, e⟩)
      · left
        rcases List.mem_cons.mp h with h | h
        · rw [h]; exact List.mem_append_right _ (List.mem_singleton.mpr rfl)
        · obtain ⟨q, hq, e⟩ := List.mem_map.mp h
          refine List.mem_append_left _ (List.mem_map.mpr ⟨q, (f1 q hq).1, ?_⟩)
          unfold fmM
          rw [if_pos hq]
          exact e
      · left
        obtain ⟨h1, h2⟩ := (hmm p).mp hp
        refine List.mem_append_left _ (List.mem_map.mpr ⟨p, h1, ?_⟩)
        unfold fmM
        rw [if_neg h2]
        exact e.symm
theorem fold_opt (g : PR → Option PR) (l : List PR) (S : List PR × Bool) : l.foldl (fun T q => cadd (g q) T) S = addall (l.map g) S := by
  unfold addall
  rw [List.foldl_map]
theorem s_X9_factor {σ : si_M} {S : List PR × Bool} (hc : Cp σ S) (hG : Gok S.1) : ∃ τ S', si_sc gP nX9_factor [.ref 29] σ = some (some (.int (bI (faB S))), τ) ∧ Cp τ S' ∧ Gok S'.1 ∧ Req S' (faF S) ∧ KeepM mF mS σ τ := by
  have hl := hG.1
  have := lp_idx (F := fun i => si_sem gP nX9_factor 2 [.ref 29, .int (nI i), si_U, si_U, si_U, si_U, si_U, si_U] [] σ) (G := List.range (S.1.length - 1)) (p := fun i => decide (0 < shl (gd S.1 i) (gd S.1 (i + 1)))) (X := fun i => cond (decide (bI S.2 = nI 0)) (si_sem gP nX9_factor 126 [.ref 29, .int (nI i), .int (nI (gd S.1 i).1), .int (nI ((gd S.1 i).2.getD 0 0)), .int (nI i), .int (nI 8), si_U, si_U] [] σ) (some (some (.int (nI 0)), σ))) (Y := some (some (.int (nI 0)), σ)) (fun i hi => by
    have hi : i < S.1.length - 1 := by simpa using hi
    have h1 : i < S.1.length := by omega
    have h2 : i + 1 < S.1.length := by omega
    have hok1 := hG.2.1.at h1
    have hok2 := hG.2.1.at h2
    have l1 := hok1.1
    have l2 := hok2.1
    have d1 := getD31 hok1 0
    have d2 := getD31 hok2 0
    rw [List.getElem_range]
    try dsimp only
    rw [h_X9_factor_2, hc.1, nI_add, cF (nI_ge h2 (by omega)), inT (show i < 60 by omega) (by decide), nI_clamp (by omega), hc.2.2.at h1, s_X9_left hok1, ci_s, inT (show i + 1 < 60 by omega) (by decide), nI_clamp (by omega), hc.2.2.at h2, s_X9_left hok2, ci_s, inT (show i < 60 by omega) (by decide), hc.2.2.at h1, s_X9_at hok1 (by decide), ci_s, inT (show i < 60 by omega) (by decide), hc.2.2.at h1, s_X9_at hok1 (by decide), ci_s, inT (show i + 1 < 60 by omega) (by decide), hc.2.2.at h2, s_X9_at hok2 (by decide), ci_s, hc.1, cF (nI_ge h2 (by omega)), hc.2.1, inT (show i < 60 by omega) (by decide), hc.2.2.at h1, s_X9_left hok1, ci_s, inT (show i < 60 by omega) (by decide), hc.2.2.at h1, s_X9_at hok1 (by decide), ci_s, gd_at h1, gd_at h2]
    by_cases e1 : S.1[i].1 = S.1[i + 1].1
    · rw [nF (by rw [e1])]
      by_cases e2 : S.1[i].2.getD 0 0 ≤ 0
      · have h0 : ¬ 0 < shl S.1[i] S.1[i + 1] := by
          intro h
          have h3 := (shl_le S.1[i] S.1[i + 1]).1
          have := getD_pos hok1.2 (k := 0) (by omega)
          omega
        rw [cT (nI_le e2 (by decide)), decide_eq_false h0]; rfl
      · have hlen : 0 < S.1[i].2.length := by
          rcases Nat.lt_or_ge 0 S.1[i].2.length with h | h
          · exact h
          · rw [getD_out h] at e2; omega
        rw [cF (nI_ge (show 0 < S.1[i].2.getD 0 0 by omega) (by omega))]
        by_cases e3 : S.1[i].2.getD 0 0 = S.1[i + 1].2.getD 0 0
        · have h0 : 0 < shl S.1[i] S.1[i + 1] := (grp_iff hok1 hok2 hlen).mpr ⟨e1.symm, e3.symm⟩
          rw [cT (by rw [e3]), decide_eq_true h0]; rfl
        · have h0 : ¬ 0 < shl S.1[i] S.1[i + 1] := fun h => e3 ((grp_iff hok1 hok2 hlen).mp h).2.symm
          rw [cF (nI_eqF e3 (by omega) (by omega)), decide_eq_false h0]; rfl
    · have h0 : ¬ 0 < shl S.1[i] S.1[i + 1] := by unfold shl; rw [if_neg e1]; omega
      rw [nT (nI_eqF e1 (by omega) (by omega)), decide_eq_false h0]; rfl) (by
    try dsimp only
    rw [List.length_range, h_X9_factor_2, hc.1, nI_add, cT (nI_le (show S.1.length ≤ S.1.length - 1 + 1 by omega) (by omega)), cT (nI_le (show S.1.length ≤ S.1.length - 1 + 1 by omega) (by omega))])
  rw [e_X9_factor]
  unfold faB
  rcases this with ⟨h1, h2⟩ | ⟨i, hi, h1, h2, _⟩
  · have h1' : fSh S.1 = none := h1
    refine ⟨σ, S, ?_, hc, hG, ?_, KeepM.rf⟩
    · rw [show si_sem gP nX9_factor 2 [.ref 29, .int (nI 0), si_U, si_U, si_U, si_U, si_U, si_U] [] σ = _ from h2, h1']
      simp [bI]
    · rw [faF_none h1']; exact Req.rf _
  · rw [List.getElem_range] at h1
    have h1' : fSh S.1 = some i := h1
    obtain ⟨hi1, hi2⟩ := fSh_in h1'
    have hil : i < S.1.length := by omega
    have hpo := hG.2.1.at hil
    have hp8 := hpo.2.1
    have hp1 := hpo.1
    have d1 := getD31 hpo 0
    obtain ⟨f1, f2, f3, f4, f5⟩ := rn_facts hG hil
    have hlen : 0 < S.1[i].2.length := Nat.lt_of_lt_of_le hi2 (shl_le _ _).1
    have hhd := rn_head hil hlen
    have hsm1 : sm S.1 i ≤ S.1[i].2.length := Nat.le_trans (f4 _ hhd) (shl_le _ _).1
    rw [show si_sem gP nX9_factor 2 [.ref 29, .int (nI 0), si_U, si_U, si_U, si_U, si_U, si_U] [] σ = _ from h2, bz, h1', gd_at hil]
    cases hf0 : S.2 with
    | true =>
      refine ⟨σ, S, rfl, hc, hG, ?_, KeepM.rf⟩
      rw [faF_fl hf0]; exact Req.rf _
    | false =>
      rw [cond_false]
      have w167 : ∀ (j : Nat) (hj : j < S.1.length) (s : Nat), s ≤ 8 → S.1[j].1 = S.1[i].1 → ∀ (d k : Nat), k + d = S.1[j].2.length → k ≤ s → si_sem gP nX9_factor 167 [.ref 29, .int (nI i), .int (nI S.1[i].1), .int (nI (S.1[i].2.getD 0 0)), .int (nI j), .int (nI s), .int (nI k), si_U] [] σ = si_sem gP nX9_factor 126 [.ref 29, .int (nI i), .int (nI S.1[i].1), .int (nI (S.1[i].2.getD 0 0)), .int (nI (j + 1)), .int (nI (min s (k + lcp (S.1[i].2.drop k) (S.1[j].2.drop k)))), si_U, si_U] [] σ := by
        intro j hj s hs8 _ d
        have hok := hG.2.1.at hj
        have hq8 := hok.2.1
        induction d with
        | zero =>
          intro k hd hks
          rw [h_X9_factor_167, List.drop_eq_nil_of_le (show S.1[j].2.length ≤ k by omega), lcp_nr, Nat.add_zero k, Nat.min_eq_right hks, nI_add]
          by_cases h : s ≤ k
          · rw [cT (nI_le h (by omega))]
          · rw [cF (nI_ge (show k < s by omega) (by omega)), inT (show j < 60 by omega) (by decide), nI_clamp (by omega), hc.2.2.at hj, s_X9_at hok (by omega), ci_s, getD_out (by omega), cT (nI_le (Nat.le_refl 0) (by decide))]
        | succ d ih =>
          intro k hd hks
          have hkj : k < S.1[j].2.length := by omega
          have hp := hok.2.2 _ (List.getElem_mem hkj)
          rw [h_X9_factor_167, nI_add, nI_add]
          by_cases h : s ≤ k
          · rw [cT (nI_le h (by omega)), Nat.min_eq_left (show s ≤ k + lcp (S.1[i].2.drop k) (S.1[j].2.drop k) by omega), show k = s by omega]
          · rw [cF (nI_ge (show k < s by omega) (by omega)), inT (show j < 60 by omega) (by decide), nI_clamp (by omega), hc.2.2.at hj, s_X9_at hok (by omega), ci_s, gD hkj, cF (nI_ge (show 0 < S.1[j].2[k] by omega) (by omega)), inT (show j < 60 by omega) (by decide), hc.2.2.at hj, s_X9_at hok (by omega), ci_s, gD hkj, inT (show i < 60 by omega) (by decide), nI_clamp (by omega), hc.2.2.at hil, s_X9_at hpo (by omega), ci_s]
            by_cases hki : k < S.1[i].2.length
            · have hp2 := hpo.2.2 _ (List.getElem_mem hki)
              rw [gD hki, List.drop_eq_getElem_cons hki, List.drop_eq_getElem_cons hkj]
              simp only [lcp]
              by_cases e : S.1[j].2[k] = S.1[i].2[k]
              · rw [nF (by rw [e]), if_pos e.symm, ih (k + 1) (by omega) (by omega), Nat.add_assoc, Nat.add_comm 1]
              · rw [nT (nI_eqF e (by omega) (by omega)), if_neg (fun h => e h.symm), Nat.add_zero k, Nat.min_eq_right (by omega)]
            · rw [getD_out (show S.1[i].2.length ≤ k by omega), nT (nI_eqF (show S.1[j].2[k] ≠ 0 by omega) (by omega) (by decide)), List.drop_eq_nil_of_le (show S.1[i].2.length ≤ k by omega), lcp_nl, Nat.add_zero k, Nat.min_eq_right (by omega)]
      have w126 : ∀ (d j s : Nat), j + d = S.1.length → s ≤ 8 → si_sem gP nX9_factor 126 [.ref 29, .int (nI i), .int (nI S.1[i].1), .int (nI (S.1[i].2.getD 0 0)), .int (nI j), .int (nI s), si_U, si_U] [] σ = (si_ci (si_sc gP nX9_freeOne [.ref 29] σ) (fun r1_232 σ1_232 => cond (decide ((σ1_232.1 29 27) = (nI 0))) (si_cv (si_sc gP nX9_begin [.ref 29] σ1_232) (fun σ3_247 => si_sem gP nX9_factor 253 [.ref 29, .int (nI i), .int (nI S.1[i].1), si_U, .int (nI (j + (tw S.1[i] (S.1.drop j)).length)), .int (nI ((tw S.1[i] (S.1.drop j)).foldl (fun s q => min s (shl S.1[i] q)) s)), .int r1_232, .int (nI 0)] [] σ3_247)) (some (some (.int (nI 0)), σ1_232)))) := by
        intro d
        induction d with
        | zero =>
          intro j s hd hs
          rw [h_X9_factor_126, hc.1, cT (nI_le (show S.1.length ≤ j by omega) (by omega)), List.drop_eq_nil_of_le (show S.1.length ≤ j by omega)]
          rfl
        | succ d ih =>
          intro j s hd hs
          have hj : j < S.1.length := by omega
          have hok := hG.2.1.at hj
          have hq1 := hok.1
          have d2 := getD31 hok 0
          have hgi := grp_iff hpo hok hlen
          rw [h_X9_factor_126, hc.1, cF (nI_ge hj (by omega)), inT (show j < 60 by omega) (by decide), nI_clamp (by omega), hc.2.2.at hj, s_X9_left hok, ci_s, inT (show j < 60 by omega) (by decide), hc.2.2.at hj, s_X9_at hok (by decide), ci_s, List.drop_eq_getElem_cons hj, tw_cons]
          by_cases e1 : S.1[j].1 = S.1[i].1
          · rw [nF (by rw [e1])]
            by_cases e2 : S.1[j].2.getD 0 0 = S.1[i].2.getD 0 0
            · have h0 := hgi.mpr ⟨e1, e2⟩
              have esh : shl S.1[i] S.1[j] = lcp S.1[i].2 S.1[j].2 := by unfold shl; rw [if_pos e1.symm]
              rw [nF (by rw [e2]), if_pos h0, w167 j hj s hs e1 S.1[j].2.length 0 (by omega) (Nat.zero_le _), List.drop_zero, List.drop_zero, Nat.zero_add, ih (j + 1) _ (by omega) (by omega), List.length_cons, List.foldl_cons, esh, show j + 1 + (tw S.1[i] (S.1.drop (j + 1))).length = j + ((tw S.1[i] (S.1.drop (j + 1))).length + 1) by omega]
            · rw [nT (nI_eqF e2 (by omega) (by omega)), if_neg (fun h => e2 (hgi.mp h).2)]
              rfl
          · rw [nT (nI_eqF e1 (by omega) (by omega)), if_neg (fun h => e1 (hgi.mp h).1)]
            rfl
      have ern : tw S.1[i] (S.1.drop i) = rn S.1 i := by unfold rn; rw [gd_at hil]
      rw [w126 (S.1.length - i) i 8 (by omega) (Nat.le_refl _), ern, f3, s_X9_freeOne hc hG, ci_s]
      have hrl := rn_len (G := S.1) (i := i) (by omega)
      cases hfr : fre S.1 with
      | none =>
        try dsimp only
        rw [sI_same, cF (by decide)]
        refine ⟨_, (S.1, true), rfl, ⟨by rw [sI_nj _ 29 _ (by decide)]; exact hc.1, sI_same _ _ _ _, hc.2.2⟩, hG, ?_, KeepM.sI σ (by decide) _⟩
        unfold faF
        rw [if_neg (by rw [hf0]; decide), h1', hfr]
        exact Req.rf _
      | some z =>
        have hz := fre_lt hfr
        obtain ⟨τ1, b1, b2, b3⟩ := s_X9_begin σ
        try dsimp only
        rw [hc.2.1, hf0, bz, cond_false, b1, cv_s, show fI (some z) = nI z from rfl]
        have hfm : ∀ q ∈ S.1, ∀ p, fmM S.1 i z q = some p → okp p := by
          intro q hq p hp
          unfold fmM at hp
          have hqo := hG.2.1 q hq
          split at hp
          · cases hp; exact ⟨hz, by rw [List.length_drop]; have := hqo.2.1; omega, fun a ha => hqo.2.2 a (List.mem_of_mem_drop ha)⟩
          · cases hp; exact hqo
        obtain ⟨τ2, g1, g2⟩ := lp_ex (F := fun k τ => si_sem gP nX9_factor 253 [.ref 29, .int (nI i), .int (nI S.1[i].1), si_U, .int (nI (i + (rn S.1 i).length)), .int (nI (sm S.1 i)), .int (nI z), .int (nI k)] [] τ) (G := S.1) (f := fun T q => cadd (fmM S.1 i z q) T) (R := fun τ T => Cp τ S ∧ Nx τ T ∧ Gok T.1 ∧ KeepM mF mS σ τ) (fun k τ T hk hR => by
          obtain ⟨r1, r2, r3, r4⟩ := hR
          have hok := hG.2.1.at hk
          have hq8 := hok.2.1
          have hin := rn_idx hG (i := i) (by omega) hk
          have hrp : 0 < (rn S.1 i).length := List.length_pos_of_mem hhd
          try dsimp only
          rw [h_X9_factor_253, r1.1, cF (nI_ge hk (by omega)), sub1 (by omega), s_X9_within, ci_s, bz, inT (show k < 60 by omega) (by decide), nI_clamp (by omega), r1.2.2.at hk, nI_add]
          by_cases hr : S.1[k] ∈ rn S.1 i
          · have hb := hin.mp hr
            have hsk : sm S.1 i ≤ S.1[k].2.length := Nat.le_trans (f4 _ hr) (shl_le _ _).2
            have e : fmM S.1 i z S.1[k] = some (z, S.1[k].2.drop (sm S.1 i)) := by unfold fmM; rw [if_pos hr]
            have k1 : KeepM [14] [] τ (si_sI τ 29 14 (nI 0)) := KeepM.sI τ (by decide) _
            obtain ⟨π, a1, a2, a3⟩ := s_X9_addRow hok hsk (Nat.le_refl _) (Rw.nil τ) (by simp)
            rw [List.take_length, List.nil_append] at a2
            have n1 : Nx π T := (r2.of k1 (by decide) (by decide) (by decide)).of a3 (by decide) (by decide) (by decide)
            obtain ⟨π', o1, o2, o3⟩ := s_X9_putRow a2 (by rw [List.length_drop]; omega) (fun a ha => hok.2.2 a (List.mem_of_mem_drop ha)) n1 r3 hz
            have er : rowP z (S.1[k].2.drop (sm S.1 i)) = some (z, S.1[k].2.drop (sm S.1 i)) := by unfold rowP; rw [if_pos (by rw [List.length_drop]; omega)]
            rw [er] at o2
            have kk : KeepM [11, 12, 14] [33, 34] τ π' := ((k1.mono (by decide) (by decide)).tr (a3.mono (by decide) (by decide))).tr (o3.mono (by decide) (by decide))
            rw [decide_eq_true (nI_le hb.1 (by omega)), decide_eq_true (nI_le (show k ≤ i + (rn S.1 i).length - 1 by omega) (by omega)), Bool.and_self, cond_true, inT (show k < 60 by omega) (by decide), s_X9_size hok, ci_s, a1, cv_s, o1, cv_s, e]
            refine ⟨π', rfl, r1.of kk (by decide) (by decide) (by decide), o2, Gok.add (fun p hp => ?_) r3, r4.tr (kk.mono (by decide) (by decide))⟩
            rw [← e] at hp
            exact hfm _ (List.getElem_mem hk) p hp
          · have e : fmM S.1 i z S.1[k] = some S.1[k] := by unfold fmM; rw [if_neg hr]
            have hbb : (decide (nI i ≤ nI k) && decide (nI k ≤ nI (i + (rn S.1 i).length - 1))) = false := by
              cases hx : (decide (nI i ≤ nI k) && decide (nI k ≤ nI (i + (rn S.1 i).length - 1))) with
              | false => rfl
              | true =>
                exfalso
                simp only [Bool.and_eq_true, decide_eq_true_eq] at hx
                have x1 := (nI_leI (by omega) (by omega)).mp hx.1
                have x2 := (nI_leI (by omega) (by omega)).mp hx.2
                exact hr (hin.mpr ⟨x1, by omega⟩)
            obtain ⟨π', o1, o2, o3⟩ := s_X9_put r2 r3 hok
            rw [hbb, cond_false, inT (show k < 60 by omega) (by decide), o1, cv_s, e]
            exact ⟨π', rfl, r1.of o3 (by decide) (by decide) (by decide), o2, cadd_some_ok r3 hok, r4.tr (o3.mono (by decide) (by decide))⟩) τ1 ([], false) ⟨hc.of b3 (by decide) (by decide) (by decide), b2, Gok.nil, b3.mono (by decide) (by decide)⟩
        rw [fold_opt] at g2
        obtain ⟨r1, r2, r3, r4⟩ := g2
        -- the prefix
        have k1 : KeepM [14] [] τ2 (si_sI τ2 29 14 (nI 0)) := KeepM.sI τ2 (by decide) _
        obtain ⟨π, a1, a2, a3⟩ := s_X9_addRow hpo (Nat.zero_le _) hsm1 (Rw.nil τ2) (by simp)
        rw [List.drop_zero, List.nil_append] at a2
        have hs1 := a2.snoc (z + 1)
        have htl : (S.1[i].2.take (sm S.1 i)).length ≤ 8 := by rw [List.length_take]; omega
        have k2 : KeepM [14] [34] π (si_sI (si_sI π 34 (S.1[i].2.take (sm S.1 i)).length (nI (z + 1))) 29 14 (nI ((S.1[i].2.take (sm S.1 i)).length + 1))) := (KeepM.cI π (by decide) (by decide) _ _).tr (KeepM.sI _ (by decide) _)
        have kk1 : KeepM [14] [34] τ2 (si_sI (si_sI π 34 (S.1[i].2.take (sm S.1 i)).length (nI (z + 1))) 29 14 (nI ((S.1[i].2.take (sm S.1 i)).length + 1))) := ((k1.mono (by decide) (by decide)).tr a3).tr k2
        obtain ⟨π2, o1, o2, o3⟩ := s_X9_putRow hs1 (by simp; omega) (fun a ha => by
          rcases List.mem_append.mp ha with h | h
          · exact hpo.2.2 a (List.mem_of_mem_take h)
          · rw [List.mem_singleton.mp h]; omega) (r2.of kk1 (by decide) (by decide) (by decide)) r3 hp1
        have er : rowP S.1[i].1 (S.1[i].2.take (sm S.1 i) ++ [z + 1]) = ext ((gd S.1 i).1, (gd S.1 i).2.take (sm S.1 i)) (z + 1) := by
          rw [gd_at hil]
          unfold rowP ext
          by_cases h : (S.1[i].2.take (sm S.1 i)).length < 8
          · rw [if_pos (by rw [List.length_append]; simp; simp at h; omega), if_pos h]
          · rw [if_neg (by rw [List.length_append]; simp; simp at h; omega), if_neg h]
        rw [er] at o2
        have kk2 : KeepM [11, 12, 14] [33, 34] τ2 π2 := (kk1.mono (by decide) (by decide)).tr (o3.mono (by decide) (by decide))
        have C2 := r1.of kk2 (by decide) (by decide) (by decide)
        have hxo := ext_ok (okp_take hpo (sm S.1 i)) (a := z + 1) ⟨by omega, by omega⟩
        have hgk : Gok (cadd (ext ((gd S.1 i).1, (gd S.1 i).2.take (sm S.1 i)) (z + 1)) (addall (S.1.map (fmM S.1 i z)) ([], false))).1 := Gok.add (by rw [gd_at hil]; exact hxo) r3
        obtain ⟨π3, w1, w2, w3⟩ := s_X9_step hgk.1 o2 C2
        rw [hf0, Bool.false_or] at w2
        refine ⟨π3, _, ?_, w2, hgk, ?_, (r4.tr (kk2.mono (by decide) (by decide))).tr (w3.mono (by decide) (by decide))⟩
        · refine Eq.trans g1 ?_
          try dsimp only
          rw [h_X9_factor_253, r1.1, cT (nI_le (Nat.le_refl _) (by omega)), inT (show i < 60 by omega) (by decide), nI_clamp (by omega), r1.2.2.at hil, a1, cv_s, a2.1, inT (show (S.1[i].2.take (sm S.1 i)).length < 32 by omega) (by decide), nI_clamp (by omega), nI_add, nI_add, o1, cv_s, w1, cv_s]
          rfl
        · have := fa_req hG hil hz
          rw [addall_app] at this
          unfold faF
          rw [if_neg (by rw [hf0]; decide), h1', hfr]
          exact this
theorem fact_leftFactor (σ : si_M) (h : gI σ) : ∃ (r : Int32) (σ1 σ2 : si_M), si_sc gP nX8_leftFactor (.ref 0 :: []) σ = some (some (.int r), σ1) ∧ si_sc gP nX9_leftFactor (.ref 29 :: []) σ1 = some (some (.int r), σ2) ∧ gI σ2 := by
  have hitr : ∀ S : List PR × Bool, Gok S.1 → Gok (itr faF 17 S).1 := fun S hS => itr_inv (P := fun S : List PR × Bool => Gok S.1) (fun S h => faF_ok h) 17 _ hS
  refine fact_i h (fun A => finR (itr faF 17 (A.2.1, false))) (fun A => finA (itr faF 17 (A.2.1, false)) A) (fun A hA => finA_ok (hitr _ hA.2.1) hA) (fun A σ hA h => ?_) (fun A σ hA h => ?_)
  · obtain ⟨τ1, b1, b2, b3⟩ := s_X7_begin hA h
    obtain ⟨τ2, c1, c2, c3⟩ := s_X7_factorPrefixes b2 hA.2.1
    obtain ⟨ρ, d1, d2, d3⟩ := fin_c h (b3.tr c3) c2 (hitr _ hA.2.1) (Req.rf _)
    rw [e_X8_leftFactor, b1, cv_s, c1, cv_s, d1, ci_s]
    exact ⟨ρ, rfl, d2, d3⟩
  · obtain ⟨τ1, b1, b2, b3⟩ := s_X9_start hA h
    obtain ⟨τ2, t1, t2⟩ := lp_more (F := fun m τ => si_sem gP nX9_leftFactor 6 [.ref 29, .int m] [] τ) (step := faF) (more := faB) (m := mea) (R := fun τ S => Gok S.1 ∧ (∃ C, Cp τ C ∧ Gok C.1 ∧ Req C S) ∧ KeepM mF mS σ τ) (fun τ S hR => by
      obtain ⟨r1, ⟨C, r2, r3, r4⟩, r5⟩ := hR
      obtain ⟨τ', S', a1, a2, a3, a4, a5⟩ := s_X9_factor r2 r3
      try dsimp only
      rw [h_X9_leftFactor_6, bz, cond_true, a1, ci_s]
      refine ⟨τ', ?_, faF_ok r1, ⟨S', a2, a3, a4.tr (Req.lift (F := faF) (fun S hS => by rw [faF_fl hS]; exact hS) r4)⟩, r5.tr a5⟩
      cases hS : S.2 with
      | false => rw [r4.eq hS]
      | true =>
        have e1 : faB C = false := by unfold faB; rw [r4.1, hS]; rfl
        have e2 : faB S = false := by unfold faB; rw [hS]; rfl
        rw [e1, e2]) (fun S hb => by
      unfold faB at hb
      cases e1 : S.2 with
      | true => rw [faF_fl e1, faF_fl e1]
      | false =>
        cases e2 : fSh S.1 with
        | none => rw [faF_none e2, faF_none e2]
        | some i =>
          cases e3 : fre S.1 with
          | some z => rw [e1, e2, e3] at hb; cases hb
          | none =>
            apply faF_fl
            unfold faF
            rw [if_neg (by rw [e1]; decide), e2, e3]) (fun τ S hR hb => by
      unfold faB at hb
      simp only [Bool.and_eq_true, Bool.not_eq_true'] at hb
      obtain ⟨⟨e1, e2⟩, e3⟩ := hb
      obtain ⟨i, e2⟩ := Option.isSome_iff_exists.mp e2
      obtain ⟨z, e3⟩ := Option.isSome_iff_exists.mp e3
      have := fa1_mea hR.1 e2 e3 e1
      unfold faF
      rw [if_neg (by rw [e1]; decide), e2, e3]
      exact this) (fun τ S hR h0 => by
      have h2 : S.2 = true := by
        cases hb : S.2 with
        | true => rfl
        | false => unfold mea at h0; rw [hb, if_neg (by decide)] at h0; omega
      exact ⟨by unfold faB; rw [h2]; rfl, faF_fl h2⟩) 17 (A.2.1, false) τ1 (Nat.le_trans (mea_le _) (by decide)) ⟨hA.2.1, ⟨_, b2, hA.2.1, Req.rf _⟩, b3⟩
    obtain ⟨r1, ⟨C, r2, r3, r4⟩, r5⟩ := t2
    obtain ⟨ρ, f1, f2, f3⟩ := fin_m h r5 r2 r3 r4
    refine ⟨ρ, ?_, f2, f3⟩
    rw [e_X9_leftFactor, b1, cv_s]
    refine Eq.trans t1 ?_
    try dsimp only
    rw [h_X9_leftFactor_6, bz, cond_false, f1, ci_s]
