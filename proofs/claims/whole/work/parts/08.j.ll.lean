/-! firstSet, followSet, isLl1 -/
theorem fact_firstSet (a : Int32) (σ : si_M) (h : gI σ) : ∃ (r : Int32) (σ1 σ2 : si_M), si_sc gP nX8_firstSet (.ref 0 :: [.int a]) σ = some (some (.int r), σ1) ∧ si_sc gP nX9_firstSet (.ref 29 :: [.int a]) σ1 = some (some (.int r), σ2) ∧ gI σ2 := by
  refine fact_i h (fun A => if (decide (nI 0 ≤ a) && decide (a ≤ nI 15)) = true then Fi A.2.1 a.toNatClampNeg else -6) id (fun A h => h) (fun A σ hA h => ?_) (fun A σ hA h => ?_)
  · rw [e_X8_firstSet, s_X8_isNt, ci_s, bn]
    rcases idx_or a with hb | ⟨j, hj, rfl, hb⟩
    · rw [hb, cond_false, if_neg (by decide)]
      exact ⟨σ, rfl, h, KC.rf⟩
    · obtain ⟨τ, t1, t2, t3, t4, t5⟩ := s_X0_study h.2.2.1 hA.2.1
      rw [hb, cond_true, if_pos rfl, t1, cv_s, s_X0_firstOf hj, ci_s, nI_clamp (by omega), t4 j hj]
      exact ⟨τ, rfl, h.sc t2, kc_of t2⟩
  · rw [e_X9_firstSet, s_X9_isIndex, ci_s, bz]
    rcases idx_or a with hb | ⟨j, hj, rfl, hb⟩
    · rw [hb, cond_false, if_neg (by decide)]
      exact ⟨σ, rfl, h, KM.rf⟩
    · rw [hb, cond_true, if_pos rfl, e_X9_firstNow, s_X9_layFirsts h.2.2.1 h.2.2.2.1 hA.2.1, cv_s, inT hj (by decide), ci_s, nI_clamp (by omega), lm_at hj]
      exact ⟨_, rfl, h.sc (lm_mS (by decide) _ _), km_of (lm_mS (by decide) _ _)⟩
theorem lay_keep {σ : si_M} (F H : Nat → Int32) : KeepM mF mS σ (lm 42 (lm 41 σ F) H) := (lm_mS (by decide) _ _).tr (lm_mS (by decide) _ _)
theorem fact_followSet (a : Int32) (σ : si_M) (h : gI σ) : ∃ (r : Int32) (σ1 σ2 : si_M), si_sc gP nX8_followSet (.ref 0 :: [.int a]) σ = some (some (.int r), σ1) ∧ si_sc gP nX9_followSet (.ref 29 :: [.int a]) σ1 = some (some (.int r), σ2) ∧ gI σ2 := by
  refine fact_i h (fun A => if (decide (nI 0 ≤ a) && decide (a ≤ nI 15)) = true then Fo A.2.1 a.toNatClampNeg else -6) id (fun A h => h) (fun A σ hA h => ?_) (fun A σ hA h => ?_)
  · rw [e_X8_followSet, s_X8_isNt, ci_s, bn]
    rcases idx_or a with hb | ⟨j, hj, rfl, hb⟩
    · rw [hb, cond_false, if_neg (by decide)]
      exact ⟨σ, rfl, h, KC.rf⟩
    · obtain ⟨τ, t1, t2, t3, t4, t5⟩ := s_X0_study h.2.2.1 hA.2.1
      rw [hb, cond_true, if_pos rfl, t1, cv_s, s_X0_followOf hj, ci_s, nI_clamp (by omega), t5 j hj]
      exact ⟨τ, rfl, h.sc t2, kc_of t2⟩
  · rw [e_X9_followSet, s_X9_isIndex, ci_s, bz]
    rcases idx_or a with hb | ⟨j, hj, rfl, hb⟩
    · rw [hb, cond_false, if_neg (by decide)]
      exact ⟨σ, rfl, h, KM.rf⟩
    · rw [hb, cond_true, if_pos rfl, e_X9_followNow, s_X9_layFollows h.2.2.1 h.2.2.2.1 hA.2.1, cv_s, inT hj (by decide), ci_s, nI_clamp (by omega), lm_at hj]
      exact ⟨_, rfl, h.sc (lay_keep _ _), km_of (lay_keep _ _)⟩
/-- no lookahead twice for one left side -/
def prd (ah : PR → Int32) : List PR → (Nat → Int32) → Bool
  | [], _ => true
  | q :: G, S => decide (S q.1 &&& ah q = nI 0) && prd ah G (upd S q.1 (S q.1 ||| ah q))
def ahd (G : List PR) (q : PR) : Int32 := cmA (clo false G) (Fi G) (Fo G) q.1 q.2
def ll1 (G : List PR) : Bool := prd (ahd G) G Lz
theorem en_mono {p q : PR} (hp : okp p) (hq : okp q) (h : en p < en q) : p.1 ≤ q.1 := by
  have h1 := en_left hp
  have h2 := en_left hq
  rw [← h1, ← h2]
  exact Nat.div_le_div_right (Nat.le_of_lt h)
theorem srt_left {G : List PR} (hG : Gok G) {i j : Nat} (hij : i ≤ j) (hj : j < G.length) : (G[i]'(by omega)).1 ≤ G[j].1 := by
  rcases Nat.lt_or_ge i j with h | h
  · exact en_mono (hG.2.1.at (by omega)) (hG.2.1.at hj) (List.pairwise_iff_getElem.mp hG.2.2 i j (by omega) hj h)
  · have e : i = j := by omega
    subst e
    exact Nat.le_refl _
theorem s_X0_hasDistinct {τ : si_M} {S : List PR × Bool} (hm : Gm τ 3 S) (hG : Gok S.1) {x : Int32} (hlow : low x) {F H : Nat → Int32} (hx : τ.1 9 2 = x) (hF : ∀ j, j < 16 → τ.1 10 j = F j) (hH : ∀ j, j < 16 → τ.1 11 j = H j) : si_sc gP nX0_hasDistinctLookaheads [.ref 9, .ref 3] τ = some (some (.int (bI (prd (fun q => cmA x F H q.1 q.2) S.1 Lz))), τ) := by
  have hl := hG.1
  have key : ∀ (d i : Nat) (lf s : Int32) (L : Nat → Int32), i + d = S.1.length → (∀ j (hj : j < S.1.length), i ≤ j → L S.1[j].1 = if nI S.1[j].1 = lf then s else nI 0) → (lf = -1 ∨ ∃ l, l < 16 ∧ lf = nI l ∧ ∀ j (hj : j < S.1.length), i ≤ j → l ≤ S.1[j].1) → si_sem gP nX0_hasDistinctLookaheads 7 [.ref 9, .ref 3, .int lf, .int s, .int (nI i), si_U, si_U, si_U] [] τ = some (some (.int (bI (prd (fun q => cmA x F H q.1 q.2) (S.1.drop i) L))), τ) := by
    intro d
    induction d with
    | zero =>
      intro i lf s L hd _ _
      rw [h_X0_hasDistinctLookaheads_7, e_X2_count 3 (by decide), ci_s, hm.1, cT (nI_le (show S.1.length ≤ i by omega) (by omega)), List.drop_eq_nil_of_le (by omega)]
      rfl
    | succ d ih =>
      intro i lf s L hd hL hlf
      have hi : i < S.1.length := by omega
      have hok := hG.2.1.at hi
      have hle := hok.1
      have h0 := hL i hi (Nat.le_refl _)
      rw [h_X0_hasDistinctLookaheads_7, e_X2_count 3 (by decide), ci_s, hm.1, cF (nI_ge hi (by omega)), s_X2_at (by decide) hm hl hi, cl_s, s_X5_left hok, ci_s, s_X0_comingAfter hok hlow hx hF hH (Nat.zero_le _), ci_s, s_X5_left hok, ci_s, s_X0_comingAfter hok hlow hx hF hH (Nat.zero_le _), ci_s, List.drop_zero, nI_add, List.drop_eq_getElem_cons hi]
      simp only [prd]
      by_cases e : nI S.1[i].1 = lf
      · rw [cT e]
        rw [if_pos e] at h0
        rw [h0]
        by_cases hc : s &&& (cmA x F H S.1[i].1 S.1[i].2) = nI 0
        · rw [cT hc, decide_eq_true hc, Bool.true_and, ih (i + 1) lf (s ||| (cmA x F H S.1[i].1 S.1[i].2)) (upd L S.1[i].1 (s ||| (cmA x F H S.1[i].1 S.1[i].2))) (by omega) ?_ ?_]
          · intro j hj hij
            simp only [upd]
            by_cases ej : S.1[j].1 = S.1[i].1
            · rw [if_pos ej, ej, if_pos e]
            · rw [if_neg ej, hL j hj (by omega)]
              have : ¬ nI S.1[j].1 = lf := fun h' => ej ((nI_eq (by have := (hG.2.1.at hj).1; omega) (by omega)).mp (h'.trans e.symm))
              rw [if_neg this, if_neg this]
          · rcases hlf with h | ⟨l, h1, h2, h3⟩
            · exact Or.inl h
            · exact Or.inr ⟨l, h1, h2, fun j hj hij => h3 j hj (by omega)⟩
        · rw [cF hc, decide_eq_false hc]; rfl
      · rw [cF e]
        rw [if_neg e] at h0
        rw [h0, cT (show nI 0 &&& (cmA x F H S.1[i].1 S.1[i].2) = nI 0 from Int32.zero_and), decide_eq_true (show nI 0 &&& (cmA x F H S.1[i].1 S.1[i].2) = nI 0 from Int32.zero_and), Bool.true_and, ih (i + 1) (nI S.1[i].1) (nI 0 ||| (cmA x F H S.1[i].1 S.1[i].2)) (upd L S.1[i].1 (nI 0 ||| (cmA x F H S.1[i].1 S.1[i].2))) (by omega) ?_ ?_]
        · intro j hj hij
          simp only [upd]
          have hlj := (hG.2.1.at hj).1
          by_cases ej : S.1[j].1 = S.1[i].1
          · rw [if_pos ej, ej, if_pos rfl]
          · rw [if_neg ej, if_neg (nI_eqF ej (by omega) (by omega)), hL j hj (by omega), if_neg]
            intro h'
            rcases hlf with h | ⟨l, h1, h2, h3⟩
            · rw [h] at h'
              exact absurd h' (by
                intro hh
                have := congrArg Int32.toInt hh
                rw [nI_toInt (by omega)] at this
                have h9 : ((-1 : Int32)).toInt = -1 := by decide
                rw [h9] at this
                omega)
            · have hij' := srt_left hG (show i ≤ j by omega) hj
              have hli := h3 i hi (Nat.le_refl _)
              rw [h2] at h' e
              have := (nI_eq (by omega) (by omega)).mp h'
              exact e (by congr 1; omega)
        · exact Or.inr ⟨S.1[i].1, hle, rfl, fun j hj hij => srt_left hG (by omega) hj⟩
  rw [e_X0_hasDistinctLookaheads]
  have := key S.1.length 0 (-1) (nI 0) Lz (by omega) (fun j hj _ => by split <;> rfl) (Or.inl rfl)
  rw [List.drop_zero] at this
  exact this
theorem s_X9_isPredictive {σ : si_M} {G : List PR} (h1 : σ.1 29 1 = nI G.length) (h2 : Row (σ.2 30) G) (hG : Gok G) : ∃ τ, si_sc gP nX9_isPredictive [.ref 29] σ = some (some (.int (bI (ll1 G))), τ) ∧ KeepM mF mS σ τ := by
  have hl := hG.1
  have hk := lay_keep (σ := σ) (Fi G) (Fo G)
  rw [e_X9_isPredictive, s_X9_layFollows h1 h2 hG, cv_s]
  change ∃ τ, (si_ci (si_sc gP nX9_nullables [.ref 29] (lm 42 (lm 41 σ (Fi G)) (Fo G))) _) = some (some (.int (bI (ll1 G))), τ) ∧ _
  have e1 : (lm 42 (lm 41 σ (Fi G)) (Fo G)).1 29 1 = nI G.length := by rw [lm_ne (by decide), lm_ne (by decide)]; exact h1
  have e2 : Row ((lm 42 (lm 41 σ (Fi G)) (Fo G)).2 30) G := by rw [lm_2, lm_2]; exact h2
  have eF : ∀ j, j < 16 → (lm 42 (lm 41 σ (Fi G)) (Fo G)).1 41 j = Fi G j := fun j hj => by rw [lm_ne (by decide)]; exact lm_at hj
  have eH : ∀ j, j < 16 → (lm 42 (lm 41 σ (Fi G)) (Fo G)).1 42 j = Fo G j := fun j hj => lm_at hj
  rw [s_X9_nullables e1 e2 hG, ci_s]
  generalize lm 42 (lm 41 σ (Fi G)) (Fo G) = τ at hk e1 e2 eF eH ⊢
  have e1' : ∀ L, (lm 43 τ L).1 29 1 = nI G.length := fun L => by rw [lm_ne (by decide)]; exact e1
  have eF' : ∀ L j, j < 16 → (lm 43 τ L).1 41 j = Fi G j := fun L j hj => by rw [lm_ne (by decide)]; exact eF j hj
  have eH' : ∀ L j, j < 16 → (lm 43 τ L).1 42 j = Fo G j := fun L j hj => by rw [lm_ne (by decide)]; exact eH j hj
  have key : ∀ (d i : Nat) (b : Bool) (L : Nat → Int32), i + d = G.length → ∃ L', si_sem gP nX9_isPredictive 34 [.ref 29, .int (clo false G), .int (bI b), .int (nI i), si_U, si_U] [] (lm 43 τ L) = some (some (.int (bI (b && prd (ahd G) (G.drop i) L))), lm 43 τ L') := by
    intro d
    induction d with
    | zero =>
      intro i b L hd
      refine ⟨L, ?_⟩
      rw [h_X9_isPredictive_34, e1', cT (nI_le (show G.length ≤ i by omega) (by omega)), List.drop_eq_nil_of_le (by omega), bI_and]
      simp only [prd, Bool.and_true]
    | succ d ih =>
      intro i b L hd
      have hi : i < G.length := by omega
      have hok := hG.2.1.at hi
      have hle := hok.1
      obtain ⟨L', hL'⟩ := ih (i + 1) (b && decide (L G[i].1 &&& ahd G G[i] = nI 0)) (upd L G[i].1 (L G[i].1 ||| ahd G G[i])) (by omega)
      refine ⟨L', ?_⟩
      rw [List.drop_eq_getElem_cons hi]
      simp only [prd]
      rw [← Bool.and_assoc, ← hL', h_X9_isPredictive_34, e1', cF (nI_ge hi (by omega)), inT (by omega) (by decide), nI_clamp (by omega), lm_2, e2.at hi, s_X9_left hok, ci_s, inT (by omega) (by decide), lm_2, e2.at hi, s_X9_firstOf hok _ (eF' L) (Nat.zero_le _), ci_s, inT (by omega) (by decide), lm_2, e2.at hi, show si_sc gP nX9_allIn [.long (lN (en G[i])), .int (nI 0), .int (clo false G), .int (nI 0)] (lm 43 τ L) = _ from s_X9_allIn hok (clo false G) false (Nat.zero_le _) _, ci_s, bz, nI_add]
      simp only [inT hle (show 16 < 2 ^ 31 by decide), nI_clamp (show G[i].1 < 2 ^ 31 by omega), lm_at hle, lm_sI hle, eH' L _ hle, bz, List.drop_zero]
      have ea : ahd G G[i] = bgs (clo false G) (Fi G) G[i].2 (nI 0) ||| (if G[i].2.all (inS (clo false G) false) then Fo G G[i].1 else nI 0) := rfl
      rw [ea]
      cases G[i].2.all (inS (clo false G) false) with
      | false =>
        rw [cond_false, if_neg (by decide)]
        by_cases hc : L G[i].1 &&& (bgs (clo false G) (Fi G) G[i].2 (nI 0) ||| nI 0) = nI 0
        · rw [nF hc, decide_eq_true hc]; cases b <;> rfl
        · rw [nT hc, decide_eq_false hc]; cases b <;> rfl
      | true =>
        rw [cond_true, if_pos rfl]
        by_cases hc : L G[i].1 &&& (bgs (clo false G) (Fi G) G[i].2 (nI 0) ||| Fo G G[i].1) = nI 0
        · rw [nF hc, decide_eq_true hc]; cases b <;> rfl
        · rw [nT hc, decide_eq_false hc]; cases b <;> rfl
  obtain ⟨L', hL'⟩ := key G.length 0 true Lz (by omega)
  refine ⟨lm 43 τ L', ?_, hk.tr (lm_mS (by decide) _ _)⟩
  refine (clear_16 (F := fun i σ => si_sem gP nX9_isPredictive 11 [.ref 29, .int (clo false G), .int (nI i), si_U, si_U, si_U] [] σ) (k := 43) (v := Lz) (fun i σ hi => ?_) τ).trans ?_
  · try dsimp only
    rw [h_X9_isPredictive_11, cF (nI_ge hi (by decide)), inT hi (by decide), nI_add, nI_clamp (by omega)]
    rfl
  · try dsimp only
    rw [h_X9_isPredictive_11, cT (nI_le (Nat.le_refl _) (by decide))]
    rw [List.drop_zero, Bool.true_and] at hL'
    exact hL'
theorem s_X8_bit (b : Bool) (σ : si_M) : si_sc gP nX8_bit [.int (bI b)] σ = some (some (.int (bI b)), σ) := by
  rw [e_X8_bit, bz]
  cases b <;> rfl
theorem fact_isLl1 (σ : si_M) (h : gI σ) : ∃ (r : Int32) (σ1 σ2 : si_M), si_sc gP nX8_isLl1 (.ref 0 :: []) σ = some (some (.int r), σ1) ∧ si_sc gP nX9_isLl1 (.ref 29 :: []) σ1 = some (some (.int r), σ2) ∧ gI σ2 := by
  refine fact_i h (fun A => bI (ll1 A.2.1)) id (fun A h => h) (fun A σ hA h => ?_) (fun A σ hA h => ?_)
  · obtain ⟨τ, t1, t2, t3, t4, t5⟩ := s_X0_study h.2.2.1 hA.2.1
    rw [e_X8_isLl1, t1, cv_s, s_X0_hasDistinct (h.sc t2).2.2.1 hA.2.1 (low_clo false hA.2.1.2.1) t3 t4 t5, ci_s, s_X8_bit, ci_s]
    exact ⟨τ, rfl, h.sc t2, kc_of t2⟩
  · obtain ⟨τ, t1, t2⟩ := s_X9_isPredictive h.2.2.1 h.2.2.2.1 hA.2.1
    rw [e_X9_isLl1, t1, ci_s, bz]
    refine ⟨τ, ?_, h.sc t2, km_of t2⟩
    cases ll1 A.2.1 <;> rfl
