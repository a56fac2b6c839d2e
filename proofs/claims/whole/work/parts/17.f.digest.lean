/-! digest -/
def mx (h v : Int64) : Int64 := lN 31 * h + v
def dgW (h : Int64) (w : List Nat) : Int64 := w.foldl (fun h a => mx h (nI (cod a)).toInt64) h
def dgP (h : Int64) (q : PR) : Int64 := dgW (mx (mx h (nI q.2.length).toInt64) (nI (65 + q.1)).toInt64) q.2
def dgG (G : List PR) (h : Int64) : Int64 := G.foldl dgP (mx h (nI G.length).toInt64)
def dgR (G : List PR) (h : Int64) : Int64 := mx (mx (mx (mx h (clo false G).toInt64) (clo true G).toInt64) (rch G).toInt64) (lps (clw (lrs (clo false G) G))).toInt64
def dgF (G : List PR) (x : Nat) (h : Int64) : Int64 := mx (mx h (Fi G x).toInt64) (Fo G x).toInt64
def dgQ (G : List PR) (h : Int64) : Int64 := mx (mx (mx (dgF G 1 (dgF G 0 (dgR G h))) (bI (ll1 G)).toInt64) (bI (G.all chB)).toInt64) (bI (G.all grB)).toInt64
def dgC (G : List PR) (l : Nat) (h : Int64) : Int64 := mx h (nI (cwN l G)).toInt64
def dgT (T : Option (List PR)) (h : Int64) : Int64 := mx h (match T with
  | none => (-9 : Int64)
  | some T => (nI T.length).toInt64)
def dgB (B : List Nat) (h : Int64) : Int64 := B.foldl (fun h c => mx h (nI c).toInt64) (mx h (nI B.length).toInt64)
def dg (A : AS) : Int64 := dgB A.1 (dgT A.2.2 (dgC A.2.1 2 (dgC A.2.1 1 (dgC A.2.1 0 (dgQ A.2.1 (dgG A.2.1 (lN 1811)))))))
-- the class
theorem s_X8_mixed (a b : Int64) (σ : si_M) : si_sc gP nX8_mixed [.long a, .long b] σ = some (some (.long (mx a b)), σ) := e_X8_mixed a b σ
theorem s_X8_hashOfProductions {σ : si_M} {A : AS} (hA : Aok A) (hm : Gm σ 3 (A.2.1, false)) (h : Int64) : si_sc gP nX8_hashOfProductions [.ref 0, .long h] σ = some (some (.long (dgG A.2.1 h)), σ) := by
  have hG := hA.2.1
  have hl := hG.1
  have hc : σ.1 3 1 = nI A.2.1.length := hm.1
  rw [e_X8_hashOfProductions, e_X2_count 3 (by decide), ci_s, s_X8_mixed, cl_s, hc]
  refine (lp_fold' (F := fun i a => si_sem gP nX8_hashOfProductions 16 [.ref 0, si_U, si_U, .long a, si_U, .int (nI i), si_U, si_U, si_U, si_U] [] σ) (G := A.2.1) (f := dgP) (fun i a hi => ?_) _).trans ?_
  · have hok := hG.2.1.at hi
    have hle := hok.1
    have hq8 := hok.2.1
    try dsimp only
    rw [h_X8_hashOfProductions_16, e_X2_count 3 (by decide), ci_s, hc, cF (nI_ge hi (by omega)), show si_sc gP nX2_at [.ref 3, .int (nI i)] σ = some (some (.long (lN (en A.2.1[i]))), σ) from s_X2_at (by decide) hm hl hi, cl_s, s_X5_length hok, ci_s, s_X8_mixed, cl_s, s_X5_left hok, ci_s, s_X8_codeOf (by omega), ci_s, s_X8_mixed, cl_s, if_pos hle]
    refine (lp_fold' (F := fun k b => si_sem gP nX8_hashOfProductions 71 [.ref 0, si_U, si_U, .long b, si_U, .int (nI i), .long (lN (en A.2.1[i])), si_U, .int (nI A.2.1[i].2.length), .int (nI k)] [] σ) (G := A.2.1[i].2) (f := fun h a => mx h (nI (cod a)).toInt64) (fun k b hk => ?_) _).trans ?_
    · have hp := hok.2.2 _ (List.getElem_mem hk)
      have hs : sy A.2.1[i] k = nI (A.2.1[i].2[k] - 1) := by rw [sy_in hok hk]; simp [List.getD, hk]
      try dsimp only
      rw [h_X8_hashOfProductions_71, cF (nI_ge hk (by omega)), s_X5_symbolAt hok (by omega), ci_s, hs, s_X8_codeOf (by omega), ci_s, s_X8_mixed, cl_s, nI_add]
      rfl
    · try dsimp only
      rw [h_X8_hashOfProductions_71, cT (nI_le (Nat.le_refl _) (by omega)), nI_add]
      rfl
  · try dsimp only
    rw [h_X8_hashOfProductions_16, e_X2_count 3 (by decide), ci_s, hc, cT (nI_le (Nat.le_refl _) (by omega))]
    rfl
theorem s_X8_hashOfProperties {σ τ : si_M} {A : AS} (hA : Aok A) (h : CI σ A) (K : Keep csc σ τ) (a1 : τ.1 9 2 = clo false A.2.1) (a2 : ∀ j, j < 16 → τ.1 10 j = Fi A.2.1 j) (a3 : ∀ j, j < 16 → τ.1 11 j = Fo A.2.1 j) (v : Int64) : ∃ ρ, si_sc gP nX8_hashOfProperties [.ref 0, .long v] τ = some (some (.long (dgQ A.2.1 v)), ρ) ∧ Keep csc σ ρ := by
  have h1 := h.sc K
  have h2 := h1.lm (clw (ocs A.2.1))
  have h3 := h2.lm (clw (lrs (clo false A.2.1) A.2.1))
  have k2 : Keep csc τ (lm 8 τ (clw (ocs A.2.1))) := lm_csc (by decide) _ _
  have k3 : Keep csc (lm 8 τ (clw (ocs A.2.1))) (lm 8 (lm 8 τ (clw (ocs A.2.1))) (clw (lrs (clo false A.2.1) A.2.1))) := lm_csc (by decide) _ _
  have K3 := (K.tr k2).tr k3
  have b1 : (lm 8 (lm 8 τ (clw (ocs A.2.1))) (clw (lrs (clo false A.2.1) A.2.1))).1 9 2 = clo false A.2.1 := by rw [lm_ne (by decide), lm_ne (by decide)]; exact a1
  have b2 : ∀ j, j < 16 → (lm 8 (lm 8 τ (clw (ocs A.2.1))) (clw (lrs (clo false A.2.1) A.2.1))).1 10 j = Fi A.2.1 j := fun j hj => by rw [lm_ne (by decide), lm_ne (by decide)]; exact a2 j hj
  have b3 : ∀ j, j < 16 → (lm 8 (lm 8 τ (clw (ocs A.2.1))) (clw (lrs (clo false A.2.1) A.2.1))).1 11 j = Fo A.2.1 j := fun j hj => by rw [lm_ne (by decide), lm_ne (by decide)]; exact a3 j hj
  rw [e_X8_hashOfProperties, e_X8_nullableSet, s_X2_nullable (by decide) h1.2.2.1 hA.2.1, ci_s, ci_s, s_X8_mixed, cl_s, e_X8_productiveSet, s_X2_productive (by decide) h1.2.2.1 hA.2.1, ci_s, ci_s, s_X8_mixed, cl_s, s_X8_reachable hA h1, ci_s, s_X8_mixed, cl_s, s_X8_leftRec hA h2, ci_s, s_X8_mixed, cl_s]
  generalize lm 8 (lm 8 τ (clw (ocs A.2.1))) (clw (lrs (clo false A.2.1) A.2.1)) = ρ at h3 K3 b1 b2 b3 ⊢
  rw [h_X8_hashOfProperties_43, cF (show ¬ nI 1 < nI 0 by decide), s_X0_firstOf (show 0 < 16 by decide), ci_s, s_X8_mixed, cl_s, s_X0_followOf (show 0 < 16 by decide), ci_s, s_X8_mixed, cl_s, nI_add, b2 0 (by decide), b3 0 (by decide)]
  rw [h_X8_hashOfProperties_43, cF (show ¬ nI 1 < nI (0 + 1) by decide), s_X0_firstOf (show 0 + 1 < 16 by decide), ci_s, s_X8_mixed, cl_s, s_X0_followOf (show 0 + 1 < 16 by decide), ci_s, s_X8_mixed, cl_s, nI_add, b2 (0 + 1) (by decide), b3 (0 + 1) (by decide)]
  rw [h_X8_hashOfProperties_43, cT (show nI 1 < nI (0 + 1 + 1) by decide), s_X0_hasDistinct h3.2.2.1 hA.2.1 (low_clo false hA.2.1.2.1) b1 b2 b3, ci_s, s_X8_bit, ci_s, s_X8_mixed, cl_s, s_X8_isChomsky hA h3, ci_s, s_X8_mixed, cl_s, s_X8_isGreibach hA h3, ci_s, s_X8_mixed, cl_s]
  exact ⟨ρ, rfl, K3⟩
theorem c_digest (A : AS) (σ : si_M) (hA : Aok A) (h : CI σ A) : ∃ τ, si_sc gP nX8_digest (.ref 0 :: []) σ = some (some (.long (dg A)), τ) ∧ CI τ A ∧ KC σ τ := by
  have hl := hA.1.1
  obtain ⟨τ, t1, t2, t3, t4, t5⟩ := s_X0_study h.2.2.1 hA.2.1
  obtain ⟨ρ, u1, u2⟩ := s_X8_hashOfProperties hA h t2 t3 t4 t5 (dgG A.2.1 (lN 1811))
  obtain ⟨π, v1, v2, v3⟩ := c_cw hA (h.sc u2)
  have K := u2.tr v3
  have hp := h.sc K
  have hlen : π.1 1 1 = nI A.1.length := hp.1
  rw [e_X8_digest, t1, cv_s, s_X8_hashOfProductions hA (h.sc t2).2.2.1, cl_s, u1, cl_s, v1, cv_s]
  rw [h_X8_digest_36, cF (show ¬ nI 2 < nI 0 by decide), s_X6_ofLength v2 (show 0 ≤ 2 by decide), cl_s, s_J13_bitCount, ci_s, s_X8_mixed, cl_s, nI_add]
  rw [h_X8_digest_36, cF (show ¬ nI 2 < nI (0 + 1) by decide), s_X6_ofLength v2 (show 0 + 1 ≤ 2 by decide), cl_s, s_J13_bitCount, ci_s, s_X8_mixed, cl_s, nI_add]
  rw [h_X8_digest_36, cF (show ¬ nI 2 < nI (0 + 1 + 1) by decide), s_X6_ofLength v2 (show 0 + 1 + 1 ≤ 2 by decide), cl_s, s_J13_bitCount, ci_s, s_X8_mixed, cl_s, nI_add]
  rw [h_X8_digest_36, cT (show nI 2 < nI (0 + 1 + 1 + 1) by decide)]
  have fin : ∀ v : Int64, si_sem gP nX8_digest 105 [.ref 0, .long v, si_U, .int (nI 0)] [] π = some (some (.long (A.1.foldl (fun h c => mx h (nI c).toInt64) v)), π) := by
    intro v
    refine (lp_fold' (F := fun i a => si_sem gP nX8_digest 105 [.ref 0, .long a, si_U, .int (nI i)] [] π) (G := A.1) (f := fun h c => mx h (nI c).toInt64) (fun i a hi => ?_) _).trans ?_
    · try dsimp only
      rw [h_X8_digest_105, e_X3_length, ci_s, hlen, cF (nI_ge hi (by omega)), e_X3_codeAt, cF (nI_nlt (Nat.zero_le i) (by omega)), hlen, cF (nI_ge hi (by omega)), inT (by omega) (by decide), ci_s, s_X8_mixed, cl_s, nI_add, nI_clamp (by omega), hp.2.1 i _ (List.getElem?_eq_getElem hi)]
    · try dsimp only
      rw [h_X8_digest_105, e_X3_length, ci_s, hlen, cT (nI_le (Nat.le_refl _) (by omega))]
  have h7 := hp.2.2.2
  refine ⟨π, ?_, hp, kc_of K⟩
  cases hT : A.2.2 with
  | none =>
    rw [hT] at h7
    rw [cT h7, s_X8_mixed, cl_s, e_X3_length, ci_s, s_X8_mixed, cl_s, hlen, fin]
    unfold dg dgB dgT
    rw [hT]
    rfl
  | some T =>
    rw [hT] at h7
    rw [h7.1, cF (by decide), e_X2_count 5 (by decide), ci_s, s_X8_mixed, cl_s, e_X3_length, ci_s, s_X8_mixed, cl_s, hlen, fin, h7.2.1]
    unfold dg dgB dgT
    rw [hT]
    rfl
-- the model
theorem s_X9_isPredictive2 {σ : si_M} {G : List PR} (h1 : σ.1 29 1 = nI G.length) (h2 : Row (σ.2 30) G) (hG : Gok G) : ∃ τ, si_sc gP nX9_isPredictive [.ref 29] σ = some (some (.int (bI (ll1 G))), τ) ∧ KeepM mF mS σ τ ∧ τ.2 = σ.2 := by
  have hl := hG.1
  have hk := lay_keep (σ := σ) (Fi G) (Fo G)
  have h22 : (lm 42 (lm 41 σ (Fi G)) (Fo G)).2 = σ.2 := rfl
  rw [e_X9_isPredictive, s_X9_layFollows h1 h2 hG, cv_s]
  change ∃ τ, (si_ci (si_sc gP nX9_nullables [.ref 29] (lm 42 (lm 41 σ (Fi G)) (Fo G))) _) = some (some (.int (bI (ll1 G))), τ) ∧ _
  have e1 : (lm 42 (lm 41 σ (Fi G)) (Fo G)).1 29 1 = nI G.length := by rw [lm_ne (by decide), lm_ne (by decide)]; exact h1
  have e2 : Row ((lm 42 (lm 41 σ (Fi G)) (Fo G)).2 30) G := by rw [lm_2, lm_2]; exact h2
  have eF : ∀ j, j < 16 → (lm 42 (lm 41 σ (Fi G)) (Fo G)).1 41 j = Fi G j := fun j hj => by rw [lm_ne (by decide)]; exact lm_at hj
  have eH : ∀ j, j < 16 → (lm 42 (lm 41 σ (Fi G)) (Fo G)).1 42 j = Fo G j := fun j hj => lm_at hj
  rw [s_X9_nullables e1 e2 hG, ci_s]
  generalize lm 42 (lm 41 σ (Fi G)) (Fo G) = τ at hk h22 e1 e2 eF eH ⊢
  have e1' : ∀ L, (lm 43 τ L).1 29 1 = nI G.length := fun L => by rw [lm_ne (by decide)]; exact e1
  have eF' : ∀ L j, j < 16 → (lm 43 τ L).1 41 j = Fi G j := fun L j hj => by rw [lm_ne (by decide)]; exact eF j hj
  have eH' : ∀ L j, j < 16 → (lm 43 τ L).1 42 j = Fo G j := fun L j hj => by rw [lm_ne (by decide)]; exact eH j hj
  have key : ∀ (d i : Nat) (b : Bool) (L : Nat → Int32), i + d = G.length → ∃ L', si_sem gP nX9_isPredictive 34 [.ref 29, .int (clo false G), .int (bI b), .int (nI i), si_U, si_U] [] (lm 43 τ L) = some (some (.int (bI (b && prd (ahd G) (G.drop i) L))), lm 43 τ L') := by
    intro d
    induction d with
    | zero =>
      intro i b L hd
      refine ⟨L, ?_⟩
      rw [h_X9_isPredictive_34, e1', cT (nI_le (show G.length ≤ i by omega) (by omega)), List.drop_eq_nil_of_le (by omega), bI_and]
      simp only [prd, Bool.and_true]
    | succ d ih =>
      intro i b L hd
      have hi : i < G.length := by omega
      have hok := hG.2.1.at hi
      have hle := hok.1
      obtain ⟨L', hL'⟩ := ih (i + 1) (b && decide (L G[i].1 &&& ahd G G[i] = nI 0)) (upd L G[i].1 (L G[i].1 ||| ahd G G[i])) (by omega)
      refine ⟨L', ?_⟩
      rw [List.drop_eq_getElem_cons hi]
      simp only [prd]
      rw [← Bool.and_assoc, ← hL', h_X9_isPredictive_34, e1', cF (nI_ge hi (by omega)), inT (by omega) (by decide), nI_clamp (by omega), lm_2, e2.at hi, s_X9_left hok, ci_s, inT (by omega) (by decide), lm_2, e2.at hi, s_X9_firstOf hok _ (eF' L) (Nat.zero_le _), ci_s, inT (by omega) (by decide), lm_2, e2.at hi, show si_sc gP nX9_allIn [.long (lN (en G[i])), .int (nI 0), .int (clo false G), .int (nI 0)] (lm 43 τ L) = _ from s_X9_allIn hok (clo false G) false (Nat.zero_le _) _, ci_s, bz, nI_add]
      simp only [inT hle (show 16 < 2 ^ 31 by decide), nI_clamp (show G[i].1 < 2 ^ 31 by omega), lm_at hle, lm_sI hle, eH' L _ hle, bz, List.drop_zero]
      have ea : ahd G G[i] = bgs (clo false G) (Fi G) G[i].2 (nI 0) ||| (if G[i].2.all (inS (clo false G) false) then Fo G G[i].1 else nI 0) := rfl
      rw [ea]
      cases G[i].2.all (inS (clo false G) false) with
      | false =>
        rw [cond_false, if_neg (by decide)]
        by_cases hc : L G[i].1 &&& (bgs (clo false G) (Fi G) G[i].2 (nI 0) ||| nI 0) = nI 0
        · rw [nF hc, decide_eq_true hc]; cases b <;> rfl
        · rw [nT hc, decide_eq_false hc]; cases b <;> rfl
      | true =>
        rw [cond_true, if_pos rfl]
        by_cases hc : L G[i].1 &&& (bgs (clo false G) (Fi G) G[i].2 (nI 0) ||| Fo G G[i].1) = nI 0
        · rw [nF hc, decide_eq_true hc]; cases b <;> rfl
        · rw [nT hc, decide_eq_false hc]; cases b <;> rfl
  obtain ⟨L', hL'⟩ := key G.length 0 true Lz (by omega)
  refine ⟨lm 43 τ L', ?_, hk.tr (lm_mS (by decide) _ _), h22⟩
  refine (clear_16 (F := fun i σ => si_sem gP nX9_isPredictive 11 [.ref 29, .int (clo false G), .int (nI i), si_U, si_U, si_U] [] σ) (k := 43) (v := Lz) (fun i σ hi => ?_) τ).trans ?_
  · try dsimp only
    rw [h_X9_isPredictive_11, cF (nI_ge hi (by decide)), inT hi (by decide), nI_add, nI_clamp (by omega)]
    rfl
  · try dsimp only
    rw [h_X9_isPredictive_11, cT (nI_le (Nat.le_refl _) (by decide))]
    rw [List.drop_zero, Bool.true_and] at hL'
    exact hL'
def Hs (σ τ : si_M) (h : Int64) : Prop := KeepM mF mS σ τ ∧ τ.2 29 28 = h
theorem Hs.mix {σ τ : si_M} {h : Int64} (H : Hs σ τ h) (v : Int64) : ∃ τ', si_sc gP nX9_mix [.ref 29, .long v] τ = some (none, τ') ∧ Hs σ τ' (mx h v) := by
  rw [e_X9_mix]
  refine ⟨_, rfl, H.1.tr (KeepM.sJ _ (by decide) _), ?_⟩
  rw [sJ_same, H.2]
  rfl
theorem Hs.lm {σ τ : si_M} {h : Int64} (H : Hs σ τ h) {k : Nat} (hk : k ∈ mS) (L : Nat → Int32) : Hs σ (lm k τ L) h := ⟨H.1.tr (lm_mS hk _ _), H.2⟩
theorem b_l (b : Bool) : (bI b).toInt64 = if b then lN 1 else lN 0 := by cases b <;> decide
theorem m_digest (A : AS) (σ : si_M) (hA : Aok A) (h : MI σ A) : ∃ τ, si_sc gP nX9_digest (.ref 29 :: []) σ = some (some (.long (dg A)), τ) ∧ MI τ A ∧ KM σ τ := by
  have hb := hA.1.1
  have hG := hA.2.1
  have hl := hG.1
  have MH : ∀ {τ v}, Hs σ τ v → MI τ A := fun H => h.sc H.1
  have Hz : Hs σ (si_sJ σ 29 28 (lN 1811)) (lN 1811) := ⟨KeepM.sJ _ (by decide) _, sJ_same _ _ _ _⟩
  obtain ⟨τ1, a1, H1⟩ := Hz.mix (nI A.2.1.length).toInt64
  -- the productions
  obtain ⟨τ2, p1, H2⟩ := lp_ex (F := fun i τ => si_sem gP nX9_digest 18 [.ref 29, .int (nI i), si_U] [] τ) (G := A.2.1) (f := dgP) (R := fun τ v => Hs σ τ v) (fun i τ v hi H => by
    have hok := hG.2.1.at hi
    have hle := hok.1
    have hq8 := hok.2.1
    have h1 := MH H
    obtain ⟨π1, m1, K1⟩ := H.mix (nI A.2.1[i].2.length).toInt64
    have h2 := MH K1
    obtain ⟨π2, m2, K2⟩ := K1.mix (nI (65 + A.2.1[i].1)).toInt64
    obtain ⟨π3, q1, K3⟩ := lp_ex (F := fun k τ => si_sem gP nX9_digest 59 [.ref 29, .int (nI i), .int (nI k)] [] τ) (G := A.2.1[i].2) (f := fun h a => mx h (nI (cod a)).toInt64) (R := fun τ v => Hs σ τ v) (fun k τ v hk H => by
      have g1 := MH H
      have hp := hok.2.2 _ (List.getElem_mem hk)
      have hd : A.2.1[i].2.getD k 0 = A.2.1[i].2[k] := by simp [List.getD, hk]
      obtain ⟨ρ, n1, N1⟩ := H.mix (nI (cod A.2.1[i].2[k])).toInt64
      refine ⟨ρ, ?_, N1⟩
      try dsimp only
      rw [h_X9_digest_59, inT (by omega) (by decide), nI_clamp (by omega), g1.2.2.2.1.at hi, s_X9_at hok (by omega), ci_s, hd, cF (nI_ge (show 0 < A.2.1[i].2[k] by omega) (by omega)), inT (by omega) (by decide), g1.2.2.2.1.at hi, s_X9_at hok (by omega), ci_s, hd, s_X9_codeOf hp.1 hp.2, ci_s, show nI (if A.2.1[i].2[k] - 1 < 16 then 65 + (A.2.1[i].2[k] - 1) else 81 + (A.2.1[i].2[k] - 1)) = nI (cod A.2.1[i].2[k]) from rfl, n1, cv_s, nI_add]) π2 _ K2
    have h3 := MH K3
    refine ⟨π3, ?_, K3⟩
    try dsimp only
    rw [h_X9_digest_18, h1.2.2.1, cF (nI_ge hi (by omega)), inT (by omega) (by decide), nI_clamp (by omega), h1.2.2.2.1.at hi, s_X9_size hok, ci_s, m1, cv_s, inT (by omega) (by decide), h2.2.2.2.1.at hi, s_X9_left hok, ci_s, nI_add, m2, cv_s]
    refine Eq.trans q1 ?_
    try dsimp only
    rw [h_X9_digest_59, inT (by omega) (by decide), nI_clamp (by omega), h3.2.2.2.1.at hi, s_X9_at hok (by omega), ci_s, getD_out (Nat.le_refl _), cT (by decide), nI_add]) τ1 _ H1
  have h2 := MH H2
  have g2 : τ2.1 29 1 = nI A.2.1.length := h2.2.2.1
  -- the sets
  obtain ⟨τ3, b1, H3⟩ := H2.mix (clo false A.2.1).toInt64
  have h3 := MH H3
  obtain ⟨τ4, b2, H4⟩ := H3.mix (clo true A.2.1).toInt64
  have h4 := MH H4
  obtain ⟨τ5, b3, H5⟩ := H4.mix (rch A.2.1).toInt64
  have h5 := MH H5
  obtain ⟨τ6, b4, H6⟩ := (H5.lm (k := 40) (by decide) (clw (lrs (clo false A.2.1) A.2.1))).mix (lps (clw (lrs (clo false A.2.1) A.2.1))).toInt64
  -- FIRST and FOLLOW
  have ff : ∀ (x : Nat) (τ : si_M) (v : Int64), x < 2 → Hs σ τ v → ∃ τ', si_sem gP nX9_digest 147 [.ref 29, .int (nI x), si_U] [] τ = si_sem gP nX9_digest 147 [.ref 29, .int (nI (x + 1)), si_U] [] τ' ∧ Hs σ τ' (dgF A.2.1 x v) := by
    intro x τ v hx H
    have g1 := MH H
    obtain ⟨π1, m1, K1⟩ := (H.lm (k := 41) (by decide) (itr (frnd (clo false A.2.1) A.2.1) 17 Lz)).mix (Fi A.2.1 x).toInt64
    have g3 := MH K1
    obtain ⟨π2, m2, K2⟩ := ((K1.lm (k := 41) (by decide) (itr (frnd (clo false A.2.1) A.2.1) 17 Lz)).lm (k := 42) (by decide) (itr (lrnd (clo false A.2.1) (itr (frnd (clo false A.2.1) A.2.1) 17 Lz) A.2.1) 17 H0)).mix (Fo A.2.1 x).toInt64
    refine ⟨π2, ?_, K2⟩
    rw [h_X9_digest_147, cF (nI_ge hx (by decide)), e_X9_firstNow, s_X9_layFirsts g1.2.2.1 g1.2.2.2.1 hG, cv_s, inT (show x < 16 by omega) (by decide), ci_s, nI_clamp (by omega), lm_at (by omega), show itr (frnd (clo false A.2.1) A.2.1) 17 Lz x = Fi A.2.1 x from rfl, m1, cv_s, e_X9_followNow, s_X9_layFollows g3.2.2.1 g3.2.2.2.1 hG, cv_s, inT (show x < 16 by omega) (by decide), ci_s, nI_clamp (by omega), lm_at (by omega)]
    rw [show itr (lrnd (clo false A.2.1) (itr (frnd (clo false A.2.1) A.2.1) 17 Lz) A.2.1) 17 H0 x = Fo A.2.1 x from rfl, m2, cv_s, nI_add]
  obtain ⟨τ7, f1, H7⟩ := ff 0 τ6 _ (by decide) H6
  obtain ⟨τ8, f2, H8⟩ := ff 1 τ7 _ (by decide) H7
  have h8 := MH H8
  -- the forms
  obtain ⟨τ9, c1, c2, c3⟩ := s_X9_isPredictive2 h8.2.2.1 h8.2.2.2.1 hG
  have H9 : Hs σ τ9 (dgF A.2.1 1 (dgF A.2.1 0 (dgR A.2.1 (dgG A.2.1 (lN 1811))))) := ⟨H8.1.tr c2, by rw [c3]; exact H8.2⟩
  obtain ⟨τa, d1, Ha⟩ := H9.mix (bI (ll1 A.2.1)).toInt64
  have ha := MH Ha
  obtain ⟨τb, d2, Hb⟩ := Ha.mix (bI (A.2.1.all chB)).toInt64
  have hb' := MH Hb
  obtain ⟨τc, d3, Hc⟩ := Hb.mix (bI (A.2.1.all grB)).toInt64
  have hbit : ∀ (b : Bool) (τ : si_M) (k : si_M → Option si_O), cond (decide (bI b = nI 0)) (si_cv (si_sc gP nX9_mix [.ref 29, .long (lN 0)] τ) k) (si_cv (si_sc gP nX9_mix [.ref 29, .long (lN 1)] τ) k) = si_cv (si_sc gP nX9_mix [.ref 29, .long (bI b).toInt64] τ) k := by
    intro b τ k
    rw [bz, b_l]
    cases b <;> rfl
  have forms : si_sem gP nX9_digest 147 [.ref 29, .int (nI (1 + 1)), si_U] [] τ8 = si_sem gP nX9_digest 228 [.ref 29, .int (nI 0), si_U] [] τc := by
    rw [h_X9_digest_147, cT (show nI 2 ≤ nI (1 + 1) by decide), c1, ci_s, hbit, d1, cv_s, s_X9_isInChomsky ha.2.2.1 ha.2.2.2.1 hG, ci_s, hbit, d2, cv_s, s_X9_isInGreibach hb'.2.2.1 hb'.2.2.2.1 hG, ci_s, hbit, d3, cv_s]
  -- words
  have cw : ∀ (l : Nat) (τ : si_M) (v : Int64), l ≤ 2 → Hs σ τ v → ∃ τ', si_sem gP nX9_digest 228 [.ref 29, .int (nI l), si_U] [] τ = si_sem gP nX9_digest 228 [.ref 29, .int (nI (l + 1)), si_U] [] τ' ∧ Hs σ τ' (dgC A.2.1 l v) := by
    intro l τ v hl2 H
    have g1 := MH H
    obtain ⟨π1, m1, m2, m3⟩ := m_cw hA g1 hl2
    have K1 : Hs σ π1 v := ⟨H.1.tr m2, by rw [m3]; exact H.2⟩
    obtain ⟨π2, n1, K2⟩ := K1.mix (nI (cwN l A.2.1)).toInt64
    refine ⟨π2, ?_, K2⟩
    rw [h_X9_digest_228, cF (nI_ge (show l < 3 by omega) (by decide)), m1, ci_s, n1, cv_s, nI_add]
  obtain ⟨τd, w1, Hd⟩ := cw 0 τc _ (by decide) Hc
  obtain ⟨τe, w2, He⟩ := cw 1 τd _ (by decide) Hd
  obtain ⟨τf, w3, Hf⟩ := cw 2 τe _ (by decide) He
  have hf := MH Hf
  -- the rest
  have buf : ∀ (τ : si_M) (v : Int64), Hs σ τ v → ∃ τ', si_sem gP nX9_digest 283 [.ref 29, .int (nI 0), si_U] [] τ = some (some (.long (A.1.foldl (fun h c => mx h (nI c).toInt64) v)), τ') ∧ KeepM mF mS σ τ' := by
    intro τ v H
    obtain ⟨π, q1, K⟩ := lp_ex (F := fun i τ => si_sem gP nX9_digest 283 [.ref 29, .int (nI i), si_U] [] τ) (G := A.1) (f := fun h c => mx h (nI c).toInt64) (R := fun τ v => Hs σ τ v) (fun i τ v hi H => by
      have g1 := MH H
      obtain ⟨ρ, n1, N1⟩ := H.mix (nI A.1[i]).toInt64
      refine ⟨ρ, ?_, N1⟩
      try dsimp only
      rw [h_X9_digest_283, g1.1, cF (nI_ge hi (by omega)), inT (by omega) (by decide), nI_clamp (by omega), g1.2.1 i _ (List.getElem?_eq_getElem hi), n1, cv_s, nI_add]) τ v H
    have g1 := MH K
    refine ⟨π, ?_, K.1⟩
    refine Eq.trans q1 ?_
    try dsimp only
    rw [h_X9_digest_283, g1.1, cT (nI_le (Nat.le_refl _) (by omega)), K.2]
  have go : ∀ v, v = (match A.2.2 with
      | none => (-9 : Int64)
      | some T => (nI T.length).toInt64) → ∃ τ', si_cv (si_sc gP nX9_mix [.ref 29, .long v] τf) (fun σ2 => si_cv (si_sc gP nX9_mix [.ref 29, .long (σ2.1 29 5).toInt64] σ2) (fun σ3 => si_sem gP nX9_digest 283 [.ref 29, .int (nI 0), si_U] [] σ3)) = some (some (.long (dg A)), τ') ∧ KeepM mF mS σ τ' := by
    intro v hv
    obtain ⟨π1, m1, K1⟩ := Hf.mix v
    have g1 := MH K1
    obtain ⟨π2, m2, K2⟩ := K1.mix (nI A.1.length).toInt64
    obtain ⟨π3, m3, K3⟩ := buf π2 _ K2
    refine ⟨π3, ?_, K3⟩
    rw [m1, cv_s, g1.1, m2, cv_s, m3]
    rw [hv]
    rfl
  have fin : ∃ τ', si_sem gP nX9_digest 228 [.ref 29, .int (nI (2 + 1)), si_U] [] τf = some (some (.long (dg A)), τ') ∧ KeepM mF mS σ τ' := by
    have h7 := hf.2.2.2.2
    rw [h_X9_digest_228, cT (show nI 3 ≤ nI (2 + 1) by decide)]
    cases hT : A.2.2 with
    | none =>
      rw [hT] at h7
      rw [cT h7]
      exact go _ (by rw [hT])
    | some T =>
      rw [hT] at h7
      rw [h7.1, cF (by decide), h7.2.1]
      exact go _ (by rw [hT])
  obtain ⟨τ', z1, z2⟩ := fin
  refine ⟨τ', ?_, h.sc z2, km_of z2⟩
  rw [e_X9_digest, h.2.2.1, a1, cv_s]
  refine Eq.trans p1 ?_
  try dsimp only
  rw [h_X9_digest_18, g2, cT (nI_le (Nat.le_refl _) (by omega)), s_X9_nullables h2.2.2.1 h2.2.2.2.1 hG, ci_s, b1, cv_s, s_X9_productives h3.2.2.1 h3.2.2.2.1 hG, ci_s, b2, cv_s, h4.2.2.1, s_X9_reached (by decide) h4.2.2.2.1 hG, ci_s, b3, cv_s, s_X9_recursives h5.2.2.1 h5.2.2.2.1 hG, ci_s, b4, cv_s, f1, f2, forms, w1, w2, w3, z1]
theorem fact_digest (σ : si_M) (h : gI σ) : ∃ (r : Int64) (σ1 σ2 : si_M), si_sc gP nX8_digest (.ref 0 :: []) σ = some (some (.long r), σ1) ∧ si_sc gP nX9_digest (.ref 29 :: []) σ1 = some (some (.long r), σ2) ∧ gI σ2 :=
  fact_l h dg id (fun A h => h) c_digest m_digest
