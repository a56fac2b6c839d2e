/-! countTrees: the model -/
theorem s_X9_waysOf {σ : si_M} {W : List Nat} (hW : Wok W) (hc : WM σ W) {T : Nat → Int64} (hT : Arr σ 37 1936 T) {q : PR} (hq : okp q) {st e : Nat} (hse : st < e) (he : e ≤ W.length) : ∃ τ, si_sc gP nX9_waysOf [.ref 29, .long (lN (en q)), .int (nI st), .int (nI e)] σ = some (some (.long (wy W T st e q.2)), τ) ∧ KeepM [] [38, 39] σ τ := by
  have hn := hW.1
  have hq8 := hq.2.1
  rw [e_X9_waysOf]
  have w3 : ∀ (d i : Nat) (τ : si_M), i + d = 11 → (∀ j, j < i → τ.2 38 j = dl st j) → KeepM [] [38, 39] σ τ → ∃ τ', si_sem gP nX9_waysOf 3 [.ref 29, .long (lN (en q)), si_U, .int (nI st), .int (nI e), .int (nI i), si_U, si_U, si_U, si_U, si_U] [] τ = si_sem gP nX9_waysOf 37 [.ref 29, .long (lN (en q)), si_U, .int (nI st), .int (nI e), .int (nI 0), si_U, si_U, si_U, si_U, si_U] [] τ' ∧ Arr τ' 38 11 (dl st) ∧ KeepM [] [38, 39] σ τ' := by
    intro d
    induction d with
    | zero =>
      intro i τ hi hj hk
      rw [h_X9_waysOf_3, cT (nI_le (show 11 ≤ i by omega) (by omega))]
      exact ⟨τ, rfl, fun j hj2 => hj j (by omega), hk⟩
    | succ d ih =>
      intro i τ hi hj hk
      rw [h_X9_waysOf_3, cF (nI_ge (show i < 11 by omega) (by decide)), inT (show i < 11 by omega) (by decide), inT (show i < 11 by omega) (by decide), nI_clamp (by omega), nI_add]
      have go : ∀ v, v = dl st i → ∃ τ', si_sem gP nX9_waysOf 3 [.ref 29, .long (lN (en q)), si_U, .int (nI st), .int (nI e), .int (nI (i + 1)), si_U, si_U, si_U, si_U, si_U] [] (si_sJ τ 38 i v) = si_sem gP nX9_waysOf 37 [.ref 29, .long (lN (en q)), si_U, .int (nI st), .int (nI e), .int (nI 0), si_U, si_U, si_U, si_U, si_U] [] τ' ∧ Arr τ' 38 11 (dl st) ∧ KeepM [] [38, 39] σ τ' := by
        intro v hv
        refine ih (i + 1) _ (by omega) (fun j hji => ?_) (hk.tr (KeepM.cJ τ (by decide) (by decide) _ _))
        by_cases e : j = i
        · subst e; rw [sJ_same, hv]
        · rw [sJ_nj _ _ _ e]; exact hj j (by omega)
      by_cases e1 : i = st
      · rw [nF (by rw [e1])]; exact go _ (by unfold dl; rw [if_pos e1])
      · rw [nT (nI_eqF e1 (by omega) (by omega))]; exact go _ (by unfold dl; rw [if_neg e1])
  have w57 : ∀ (j : Int32) (a : Int32) (d i : Nat) (τ : si_M), i + d = 11 → (∀ k, k < i → τ.2 39 k = lN 0) → ∃ τ', si_sem gP nX9_waysOf 57 [.ref 29, .long (lN (en q)), si_U, .int (nI st), .int (nI e), .int j, .int a, .int (nI i), si_U, si_U, si_U] [] τ = si_sem gP nX9_waysOf 81 [.ref 29, .long (lN (en q)), si_U, .int (nI st), .int (nI e), .int j, .int a, .int (nI st), si_U, si_U, si_U] [] τ' ∧ Arr τ' 39 11 (fun _ => lN 0) ∧ KeepM [] [39] τ τ' := by
    intro j a d
    induction d with
    | zero =>
      intro i τ hi hj
      rw [h_X9_waysOf_57, cT (nI_le (show 11 ≤ i by omega) (by omega))]
      exact ⟨τ, rfl, fun k hk => hj k (by omega), KeepM.rf⟩
    | succ d ih =>
      intro i τ hi hj
      rw [h_X9_waysOf_57, cF (nI_ge (show i < 11 by omega) (by decide)), inT (show i < 11 by omega) (by decide), nI_clamp (by omega), nI_add]
      obtain ⟨τ', t1, t2, t3⟩ := ih (i + 1) (si_sJ τ 39 i (lN 0)) (by omega) (fun k hki => by
        by_cases e : k = i
        · subst e; rw [sJ_same]
        · rw [sJ_nj _ _ _ e]; exact hj k (by omega))
      exact ⟨τ', t1, t2, (KeepM.cJ τ (by decide) (by decide) _ _).tr t3⟩
  have w196 : ∀ (j : Nat) (V : Nat → Int64) (d i : Nat) (τ : si_M), i + d = 11 → Arr τ 39 11 V → (∀ k, k < i → τ.2 38 k = V k) → ∃ τ', si_sem gP nX9_waysOf 196 [.ref 29, .long (lN (en q)), si_U, .int (nI st), .int (nI e), .int (nI j), si_U, .int (nI i), si_U, si_U, si_U] [] τ = si_sem gP nX9_waysOf 37 [.ref 29, .long (lN (en q)), si_U, .int (nI st), .int (nI e), .int (nI (j + 1)), si_U, si_U, si_U, si_U, si_U] [] τ' ∧ Arr τ' 38 11 V ∧ KeepM [] [38] τ τ' := by
    intro j V d
    induction d with
    | zero =>
      intro i τ hi hV hj
      rw [h_X9_waysOf_196, cT (nI_le (show 11 ≤ i by omega) (by omega)), nI_add]
      exact ⟨τ, rfl, fun k hk => hj k (by omega), KeepM.rf⟩
    | succ d ih =>
      intro i τ hi hV hj
      rw [h_X9_waysOf_196, cF (nI_ge (show i < 11 by omega) (by decide)), inT (show i < 11 by omega) (by decide), inT (show i < 11 by omega) (by decide), nI_clamp (by omega), nI_add, hV i (by omega)]
      have k1 : KeepM [] [38] τ (si_sJ τ 38 i (V i)) := KeepM.cJ τ (by decide) (by decide) _ _
      obtain ⟨τ', t1, t2, t3⟩ := ih (i + 1) (si_sJ τ 38 i (V i)) (by omega) (hV.of k1 (by decide) (by decide)) (fun k hki => by
        by_cases e : k = i
        · subst e; rw [sJ_same]
        · rw [sJ_nj _ _ _ e]; exact hj k (by omega))
      exact ⟨τ', t1, t2, k1.tr t3⟩
  -- one symbol
  have sy1 : ∀ (j : Nat) (a : Nat) (ha : 1 ≤ a ∧ a ≤ 24) (V : Nat → Int64) (τ : si_M), Arr τ 38 11 V → KeepM [] [38, 39] σ τ → ∃ τ', si_sem gP nX9_waysOf 57 [.ref 29, .long (lN (en q)), si_U, .int (nI st), .int (nI e), .int (nI j), .int (nI a), .int (nI 0), si_U, si_U, si_U] [] τ = si_sem gP nX9_waysOf 37 [.ref 29, .long (lN (en q)), si_U, .int (nI st), .int (nI e), .int (nI (j + 1)), si_U, si_U, si_U, si_U, si_U] [] τ' ∧ Arr τ' 38 11 (tkv W T st e a V) ∧ KeepM [] [38, 39] σ τ' := by
    intro j a ha V τ hV hk
    obtain ⟨τ1, b1, b2, b3⟩ := w57 (nI j) (nI a) 11 0 τ (by omega) (fun k hk => by omega)
    have w94 : ∀ (p : Nat), st ≤ p → p < e → ∀ (d b : Nat) (M : Nat → Int64) (τ : si_M), b + d = e + 1 → p < b → Arr τ 39 11 M → Arr τ 38 11 V → KeepM [] [38, 39] σ τ → ∃ τ', si_sem gP nX9_waysOf 94 [.ref 29, .long (lN (en q)), si_U, .int (nI st), .int (nI e), .int (nI j), .int (nI a), .int (nI p), .int (nI b), si_U, si_U] [] τ = si_sem gP nX9_waysOf 81 [.ref 29, .long (lN (en q)), si_U, .int (nI st), .int (nI e), .int (nI j), .int (nI a), .int (nI (p + 1)), si_U, si_U, si_U] [] τ' ∧ Arr τ' 39 11 (fun k => if b ≤ k ∧ k ≤ e then M k + V p * ts W T a p k else M k) ∧ Arr τ' 38 11 V ∧ KeepM [] [38, 39] σ τ' := by
      intro p hp1 hp2 d
      induction d with
      | zero =>
        intro b M τ hb hpb q1 q2 q3
        rw [h_X9_waysOf_94, cT (nI_lt (show e < b by omega) (by omega)), nI_add]
        exact ⟨τ, rfl, q1.ext (fun k _ => by rw [if_neg (by omega)]), q2, q3⟩
      | succ d ih =>
        intro b M τ hb hpb q1 q2 q3
        have hT' : Arr τ 37 1936 T := hT.of q3 (by decide) (by decide)
        have hc' : τ.1 35 = σ.1 35 := (q3.1 35 (by decide) (by decide)).1
        have step : ∀ v, v = V p * ts W T a p b → ∃ τ', si_sem gP nX9_waysOf 94 [.ref 29, .long (lN (en q)), si_U, .int (nI st), .int (nI e), .int (nI j), .int (nI a), .int (nI p), .int (nI (b + 1)), si_U, si_U] [] (si_sJ τ 39 b (M b + v)) = si_sem gP nX9_waysOf 81 [.ref 29, .long (lN (en q)), si_U, .int (nI st), .int (nI e), .int (nI j), .int (nI a), .int (nI (p + 1)), si_U, si_U, si_U] [] τ' ∧ Arr τ' 39 11 (fun k => if b ≤ k ∧ k ≤ e then M k + V p * ts W T a p k else M k) ∧ Arr τ' 38 11 V ∧ KeepM [] [38, 39] σ τ' := by
          intro v hv
          have k1 : KeepM [] [39] τ (si_sJ τ 39 b (M b + v)) := KeepM.cJ τ (by decide) (by decide) _ _
          obtain ⟨τ', t1, t2, t3, t4⟩ := ih (b + 1) _ _ (by omega) (by omega) (q1.set b (M b + v)) (q2.of k1 (by decide) (by decide)) (q3.tr (k1.mono (by decide) (by decide)))
          refine ⟨τ', t1, t2.ext (fun k hk2 => ?_), t3, t4⟩
          by_cases h1 : k = b
          · rw [if_neg (by omega), if_pos h1, if_pos (by omega), hv, h1]
          · rw [if_neg h1]
            by_cases h2 : b ≤ k ∧ k ≤ e
            · rw [if_pos (by omega), if_pos h2]
            · rw [if_neg (by omega), if_neg h2]
        rw [h_X9_waysOf_94, cF (nI_nlt (show b ≤ e by omega) (by omega)), s_X9_isNonterminal (by omega), ci_s, bz, decide_eq_true ha.1, Bool.true_and]
        by_cases h16 : a ≤ 16
        · rw [decide_eq_true h16, cond_true, sub1 (by omega), nI_mul, nI_mul, nI_add, nI_add, inT (show 121 * (a - 1) + 11 * p + b < 1936 by omega) (by decide), inT (show b < 11 by omega) (by decide), inT (show p < 11 by omega) (by decide), inT (show b < 11 by omega) (by decide), nI_clamp (by omega), nI_clamp (by omega), nI_clamp (by omega), nI_add, q1 b (by omega), q2 p (by omega), hT' _ (by omega)]
          exact step _ (by unfold ts; rw [if_pos h16])
        · rw [decide_eq_false h16, cond_false, nI_add, nI_add]
          by_cases e1 : b = p + 1
          · have hpl : p < W.length := by omega
            have hwp := hW.2 _ (List.getElem_mem hpl)
            rw [nF (by rw [e1]), inT (show p < 10 by omega) (by decide), nI_clamp (show p < 2 ^ 31 by omega), hc', hc.2 p hpl]
            by_cases e2 : W[p] = a
            · rw [nF (by rw [e2]), inT (show b < 11 by omega) (by decide), inT (show p < 11 by omega) (by decide), inT (show b < 11 by omega) (by decide), nI_clamp (show b < 2 ^ 31 by omega), q1 b (by omega), q2 p (by omega)]
              exact step _ (by unfold ts; rw [if_neg h16, gD hpl, if_pos ⟨e1, e2⟩])
            · rw [nT (nI_eqF e2 (by omega) (by omega)), inT (show b < 11 by omega) (by decide), inT (show p < 11 by omega) (by decide), inT (show b < 11 by omega) (by decide), nI_clamp (show b < 2 ^ 31 by omega), q1 b (by omega), q2 p (by omega)]
              exact step _ (by unfold ts; rw [if_neg h16, gD hpl, if_neg (fun h => e2 h.2)])
          · rw [nT (nI_eqF e1 (by omega) (by omega)), inT (show b < 11 by omega) (by decide), inT (show p < 11 by omega) (by decide), inT (show b < 11 by omega) (by decide), nI_clamp (show b < 2 ^ 31 by omega), nI_clamp (show p < 2 ^ 31 by omega), q1 b (by omega), q2 p (by omega)]
            exact step _ (by unfold ts; rw [if_neg h16, if_neg (fun h => e1 h.1)])
    have w81 : ∀ (d p : Nat) (τ : si_M), p + d = e → st ≤ p → Arr τ 39 11 (fun k => if st ≤ k ∧ k ≤ e then smf (fun f => V f * ts W T a f k) st (min p k - st) (lN 0) else lN 0) → Arr τ 38 11 V → KeepM [] [38, 39] σ τ → ∃ τ', si_sem gP nX9_waysOf 81 [.ref 29, .long (lN (en q)), si_U, .int (nI st), .int (nI e), .int (nI j), .int (nI a), .int (nI p), si_U, si_U, si_U] [] τ = si_sem gP nX9_waysOf 196 [.ref 29, .long (lN (en q)), si_U, .int (nI st), .int (nI e), .int (nI j), si_U, .int (nI 0), si_U, si_U, si_U] [] τ' ∧ Arr τ' 39 11 (tkv W T st e a V) ∧ Arr τ' 38 11 V ∧ KeepM [] [38, 39] σ τ' := by
      intro d
      induction d with
      | zero =>
        intro p τ hp hs q1 q2 q3
        rw [h_X9_waysOf_81, cT (nI_le (show e ≤ p by omega) (by omega))]
        refine ⟨τ, rfl, q1.ext (fun k _ => ?_), q2, q3⟩
        unfold tkv tk1
        by_cases h : st ≤ k ∧ k ≤ e
        · rw [if_pos h, if_pos h, Nat.min_eq_right (by omega)]
        · rw [if_neg h, if_neg h]
      | succ d ih =>
        intro p τ hp hs q1 q2 q3
        rw [h_X9_waysOf_81, cF (nI_ge (show p < e by omega) (by omega)), nI_add]
        obtain ⟨τ', t1, t2, t3, t4⟩ := w94 p hs (by omega) (e - p) (p + 1) _ τ (by omega) (by omega) q1 q2 q3
        rw [t1]
        refine ih (p + 1) τ' (by omega) (by omega) (t2.ext (fun k hk2 => ?_)) t3 t4
        by_cases h : st ≤ k ∧ k ≤ e
        · by_cases h2 : p + 1 ≤ k
          · rw [if_pos ⟨h2, h.2⟩, if_pos h, if_pos h, Nat.min_eq_left (show p ≤ k by omega), Nat.min_eq_left h2, show p + 1 - st = (p - st) + 1 by omega, smf_e, show st + (p - st) = p by omega]
          · rw [if_neg (by omega), if_pos h, if_pos h, Nat.min_eq_right (show k ≤ p by omega), Nat.min_eq_right (show k ≤ p + 1 by omega)]
        · rw [if_neg (by omega), if_neg h, if_neg h]
    obtain ⟨τ2, c1, c2, c3, c4⟩ := w81 (e - st) st τ1 (by omega) (Nat.le_refl _) (b2.ext (fun k _ => by
      split
      · rw [Nat.min_eq_left (by omega), Nat.sub_self]; rfl
      · rfl)) (hV.of b3 (by decide) (by decide)) (hk.tr (b3.mono (by decide) (by decide)))
    obtain ⟨τ3, d1, d2, d3⟩ := w196 j (tkv W T st e a V) 11 0 τ2 (by omega) c2 (fun k hk => by omega)
    exact ⟨τ3, (b1.trans c1).trans d1, d2, c4.tr (d3.mono (by decide) (by decide))⟩
  have key : ∀ (d j : Nat) (V : Nat → Int64) (τ : si_M), j + d = q.2.length → Arr τ 38 11 V → KeepM [] [38, 39] σ τ → ∃ τ', si_sem gP nX9_waysOf 37 [.ref 29, .long (lN (en q)), si_U, .int (nI st), .int (nI e), .int (nI j), si_U, si_U, si_U, si_U, si_U] [] τ = some (some (.long (wyV W T st e (q.2.drop j) V e)), τ') ∧ KeepM [] [38, 39] σ τ' := by
    intro d
    induction d with
    | zero =>
      intro j V τ hd hV hk
      rw [h_X9_waysOf_37, s_X9_at hq (by omega), ci_s, getD_out (by omega), cT (nI_le (Nat.le_refl 0) (by decide)), inT (show e < 11 by omega) (by decide), nI_clamp (by omega), hV e (by omega), List.drop_eq_nil_of_le (by omega)]
      exact ⟨τ, rfl, hk⟩
    | succ d ih =>
      intro j V τ hd hV hk
      have hj : j < q.2.length := by omega
      have hp := hq.2.2 _ (List.getElem_mem hj)
      obtain ⟨τ', a1, a2, a3⟩ := sy1 j q.2[j] hp V τ hV hk
      rw [h_X9_waysOf_37, s_X9_at hq (by omega), ci_s, gD hj, cF (nI_ge (show 0 < q.2[j] by omega) (by omega)), s_X9_at hq (by omega), ci_s, gD hj, a1, List.drop_eq_getElem_cons hj]
      exact ih (j + 1) _ τ' (by omega) a2 a3
  obtain ⟨τ1, b1, b2, b3⟩ := w3 11 0 σ (by omega) (fun j hj => by omega) KeepM.rf
  obtain ⟨τ2, c1, c2⟩ := key q.2.length 0 (dl st) τ1 (by omega) b2 b3
  rw [List.drop_zero] at c1
  exact ⟨τ2, b1.trans c1, c2⟩
