/-! removeUnits -/
theorem lm_id (k : Nat) (τ : si_M) : lm k τ (τ.1 k) = τ := by
  unfold lm
  have : fx 16 (τ.1 k) (τ.1 k) = τ.1 k := by funext j; simp [fx]
  rw [this, wI_id]
theorem s_X1_reachFrom' {j : Nat} (hj : j < 16) (τ : si_M) : si_sc gP nX1_reachFrom [.ref 7, .int (nI j)] τ = some (some (.int (τ.1 8 j ||| si_ishl (nI 1) (nI j))), τ) := by
  have := s_X1_reachFrom hj τ (τ.1 8)
  rw [lm_id] at this
  exact this
theorem getR {i : Nat} (hi : i < (List.range 16).length) : (List.range 16)[i] = i := by simp
def unq (L : Nat → Int32) (x : Nat) (q : PR) : Bool := bt (L x ||| si_ishl (nI 1) (nI x)) q.1 && !unB q
def unx (L : Nat → Int32) (G : List PR) (S : List PR × Bool) (x : Nat) : List PR × Bool := G.foldl (fun S q => if unq L x q then cadd (some (x, q.2)) S else S) S
def unF (G : List PR) : List PR × Bool := (List.range 16).foldl (unx (clw (uns G)) G) ([], false)
theorem unx_fl (L : Nat → Int32) (G : List PR) (S : List PR × Bool) (x : Nat) (h : S.2 = true) : (unx L G S x).2 = true := fold_inv (P := fun S : List PR × Bool => S.2 = true) G S (fun S q _ h => by split; exact cadd_fl _ h; exact h) h
theorem unx_ok (L : Nat → Int32) {G : List PR} (hG : Oks G) (S : List PR × Bool) {x : Nat} (hx : x < 16) (h : Gok S.1) : Gok (unx L G S x).1 := fold_inv (P := fun S : List PR × Bool => Gok S.1) G S (fun S q hq h => by
  split
  · exact cadd_some_ok h ⟨hx, (hG q hq).2⟩
  · exact h) h
theorem unF_ok {G : List PR} (hG : Oks G) : Gok (unF G).1 := fold_inv (P := fun S : List PR × Bool => Gok S.1) (List.range 16) ([], false) (fun S x hx h => unx_ok _ hG S (List.mem_range.mp hx) h) Gok.nil
theorem joi0 {q : PR} (h : okp q) (x : Nat) : joi (x, []) q.2 0 = some (x, q.2) := by
  unfold joi
  rw [if_pos (by have := h.2.1; simp; omega)]
  simp
theorem s_X7_addLent {σ : si_M} {G : List PR} (hG : Gok G) {L : Nat → Int32} {x : Nat} (hx : x < 16) {b : Bool} {S : List PR × Bool} (hb : Gm σ 27 (G, b)) (hm : Gm σ 25 S) (hS : Gok S.1) : ∃ τ, si_sc gP nX7_addLent [.ref 24, .int (nI x), .int (L x ||| si_ishl (nI 1) (nI x))] σ = some (none, τ) ∧ Gm τ 25 (unx L G S x) ∧ Keep [25, 26] σ τ := by
  have hl := hG.1
  rw [e_X7_addLent]
  obtain ⟨τ, c1, c2⟩ := lp_ex (F := fun i τ => si_sem gP nX7_addLent 2 [.ref 24, .int (nI x), .int (L x ||| si_ishl (nI 1) (nI x)), .int (nI i), si_U, si_U] [] τ) (G := G) (f := fun S q => if unq L x q then cadd (some (x, q.2)) S else S) (R := fun τ S => Gm τ 27 (G, b) ∧ Gm τ 25 S ∧ Gok S.1 ∧ Keep [25, 26] σ τ) (fun i τ S hi hR => by
    obtain ⟨r1, r2, r3, r4⟩ := hR
    have hok := hG.2.1.at hi
    have hle := hok.1
    try dsimp only
    rw [h_X7_addLent_2, e_X2_count 27 (by decide), ci_s, r1.1, cF (nI_ge hi (show G.length < 2 ^ 31 by omega)), s_X2_at (by decide) r1 hl hi, cl_s, s_X5_left hok, ci_s, s_X8_isIn _ (by omega), ci_s, bz, s_X5_isUnit hok, ci_s, bn, nI_add, s_X5_withoutRight hx, cl_s, s_X5_joined (okp_nil hx) hok (Nat.zero_le _), cl_s, joi0 hok]
    unfold unq
    cases bt (L x ||| si_ishl (nI 1) (nI x)) G[i].1 with
    | false => rw [cond_false]; exact ⟨τ, rfl, r1, r2, r3, r4⟩
    | true =>
      cases unB G[i] with
      | true => rw [cond_true, cond_true]; exact ⟨τ, rfl, r1, r2, r3, r4⟩
      | false =>
        obtain ⟨τ', a1, a2, a3⟩ := s_X2_add (by decide) r2 r3 (o := some (x, G[i].2)) (fun p hp => by cases hp; exact ⟨hx, hok.2⟩)
        rw [cond_true, cond_false, a1, cv_s]
        exact ⟨τ', rfl, r1.keep a3 (by decide) (by decide), a2, cadd_some_ok r3 ⟨hx, hok.2⟩, r4.tr a3⟩) σ S ⟨hb, hm, hS, Keep.rf⟩
  obtain ⟨r1, r2, r3, r4⟩ := c2
  refine ⟨τ, ?_, r2, r4⟩
  refine Eq.trans c1 ?_
  try dsimp only
  rw [h_X7_addLent_2, e_X2_count 27 (by decide), ci_s, r1.1, cT (nI_le (Nat.le_refl _) (show G.length < 2 ^ 31 by omega))]
theorem s_X7_dropUnits {σ : si_M} {G : List PR} (hG : Gok G) (hm : Gm σ 25 (G, false)) : ∃ τ S, si_sc gP nX7_dropUnits [.ref 24, .ref 7] σ = some (none, τ) ∧ Gm τ 25 S ∧ Gok S.1 ∧ Req S (unF G) ∧ Keep csc σ τ := by
  have hl := hG.1
  rw [e_X7_dropUnits, s_X1_followUnits (by decide) hm hG, cv_s]
  have hm1 := hm.lm (clw (uns G)) (by decide) (by decide)
  have h8 : ∀ j, j < 16 → (lm 8 σ (clw (uns G))).1 8 j = clw (uns G) j := fun j hj => lm_at hj
  have k1 := lm_csc (k := 8) (by decide) σ (clw (uns G))
  generalize lm 8 σ (clw (uns G)) = ρ at hm1 h8 k1 ⊢
  obtain ⟨τ0, e1, e2, e3⟩ := s_X2_copyFrom (g := 27) (h := 25) (by decide) hm1 hl
  have hm' : Gm τ0 25 (G, false) := hm1.keep e3 (by decide) (by decide)
  rw [e_X7_beginStep, e1, cv_s, e_X2_clear 25 (by decide), cv_s, cv_s]
  have q27 : Gm (si_sI τ0 25 1 (nI 0)) 27 (G, false) := e2.keep (Z := [25]) (Keep.sI τ0 (by decide) _ _) (by decide) (by decide)
  have q25 : Gm (si_sI τ0 25 1 (nI 0)) 25 ([], false) := ⟨sI_same _ _ _ _, by rw [sI_nj _ 25 _ (by decide)]; exact hm'.2.1, fun i q hq => by simp at hq⟩
  have q8 : ∀ j, j < 16 → (si_sI τ0 25 1 (nI 0)).1 8 j = clw (uns G) j := fun j hj => by rw [sI_ne _ _ _ (by decide), (e3 8 (by decide)).1]; exact h8 j hj
  have qk : Keep csc σ (si_sI τ0 25 1 (nI 0)) := (k1.tr (e3.mono (by decide))).tr (Keep.sI τ0 (by decide) _ _)
  obtain ⟨τ, S, c1, c2, c3⟩ := lp_cap (F := fun i τ => si_sem gP nX7_dropUnits 14 [.ref 24, .ref 7, .int (nI i)] [] τ) (G := List.range 16) (f := unx (clw (uns G)) G) (R := fun τ S => Gm τ 27 (G, false) ∧ Gm τ 25 S ∧ Gok S.1 ∧ (∀ j, j < 16 → τ.1 8 j = clw (uns G) j) ∧ Keep csc σ τ) (fun S x h => unx_fl _ _ S x h) (fun i τ S hi hR hf => by
    obtain ⟨r1, r2, r3, r4, r5⟩ := hR
    have hi16 : i < 16 := by simpa using hi
    obtain ⟨τ', a1, a2, a3⟩ := s_X7_addLent hG (L := clw (uns G)) hi16 r1 r2 r3
    rw [getR hi]
    try dsimp only
    rw [h_X7_dropUnits_14, cF (nI_ge hi16 (by decide)), s_X2_isTooLarge r2, ci_s, bn, hf, cond_false, s_X1_reachFrom' hi16, ci_s, r4 i hi16, a1, cv_s, nI_add]
    exact ⟨τ', rfl, r1.keep a3 (by decide) (by decide), a2, unx_ok _ hG.2.1 S hi16 r3, fun j hj => by rw [(a3 8 (by decide)).1]; exact r4 j hj, r5.tr (a3.mono (by decide))⟩) (fun i τ S hi hR ht => by
    obtain ⟨r1, r2, r3, r4, r5⟩ := hR
    have hi16 : i < 16 := by simpa using hi
    try dsimp only
    rw [h_X7_dropUnits_14, cF (nI_ge hi16 (by decide)), s_X2_isTooLarge r2, ci_s, bn, ht, cond_true]) (fun τ S hR => by
    try dsimp only
    rw [List.length_range, h_X7_dropUnits_14, cT (nI_le (Nat.le_refl _) (by decide))]) _ ([], false) ⟨q27, q25, Gok.nil, q8, qk⟩
  obtain ⟨r1, r2, r3, r4, r5⟩ := c2
  exact ⟨τ, S, c1, r2, r3, c3, r5⟩
theorem finA_req {S T : List PR × Bool} (h : Req S T) (A : AS) : finA S A = finA T A := by
  unfold finA
  rw [h.1]
  split
  · rfl
  · rename_i hf
    rw [h.2 (by rw [h.1]; exact ts_nt hf)]
theorem finR_req {S T : List PR × Bool} (h : Req S T) : finR S = finR T := by
  unfold finR
  rw [h.1]
  split
  · rfl
  · rename_i hf
    rw [h.2 (by rw [h.1]; exact ts_nt hf)]
/-- a fact of a transformation, out of what both copies come to -/
theorem fin_c {σ τ : si_M} {A : AS} {S T : List PR × Bool} (h : CI σ A) (hk : Keep csc σ τ) (hm : Gm τ 25 S) (hS : Gok S.1) (hr : Req S T) : ∃ ρ, si_sc gP nX7_finish [.ref 24, .ref 3] τ = some (some (.int (finR T)), ρ) ∧ CI ρ (finA T A) ∧ KC σ ρ := by
  obtain ⟨ρ, d1, d2, d3⟩ := s_X7_finish hS (h.sc hk) hm
  rw [finR_req hr] at d1
  rw [finA_req hr] at d2
  exact ⟨ρ, d1, d2, (kc_of hk).tr d3⟩
theorem fin_m {σ τ : si_M} {A : AS} {S T : List PR × Bool} (h : MI σ A) (hk : KeepM mF mS σ τ) (hc : Cp τ S) (hS : Gok S.1) (hr : Req S T) : ∃ ρ, si_sc gP nX9_finish [.ref 29] τ = some (some (.int (finR T)), ρ) ∧ MI ρ (finA T A) ∧ KM σ ρ := by
  obtain ⟨ρ, d1, d2, d3⟩ := s_X9_finish hS (h.sc hk) hc
  rw [finR_req hr] at d1
  rw [finA_req hr] at d2
  exact ⟨ρ, d1, d2, (km_of hk).tr d3⟩
theorem fact_removeUnits (σ : si_M) (h : gI σ) : ∃ (r : Int32) (σ1 σ2 : si_M), si_sc gP nX8_removeUnits (.ref 0 :: []) σ = some (some (.int r), σ1) ∧ si_sc gP nX9_removeUnits (.ref 29 :: []) σ1 = some (some (.int r), σ2) ∧ gI σ2 := by
  refine fact_i h (fun A => finR (unF A.2.1)) (fun A => finA (unF A.2.1) A) (fun A hA => finA_ok (unF_ok hA.2.1.2.1) hA) (fun A σ hA h => ?_) (fun A σ hA h => ?_)
  · obtain ⟨τ1, b1, b2, b3⟩ := s_X7_begin hA h
    obtain ⟨τ2, S, c1, c2, c3, c4, c5⟩ := s_X7_dropUnits hA.2.1 b2
    obtain ⟨ρ, d1, d2, d3⟩ := fin_c h (b3.tr c5) c2 c3 c4
    rw [e_X8_removeUnits, b1, cv_s, c1, cv_s, d1, ci_s]
    exact ⟨ρ, rfl, d2, d3⟩
  · have hG := hA.2.1
    have hl := hG.1
    rw [e_X9_removeUnits, s_X9_layUnits h.2.2.1 h.2.2.2.1 hG, cv_s]
    have h40 : ∀ j, j < 16 → (lm 40 σ (clw (uns A.2.1))).1 40 j = clw (uns A.2.1) j := fun j hj => lm_at hj
    have k0 := lm_mS (k := 40) (by decide) σ (clw (uns A.2.1))
    have hM := h.sc k0
    generalize lm 40 σ (clw (uns A.2.1)) = ρ at h40 k0 hM ⊢
    obtain ⟨τ1, p1, p2, p3, p4⟩ := l_X9_start_10 A.2.1.length 0 A.2.1.length (si_sI ρ 29 26 (ρ.1 29 1)) (by omega) hl (by rw [sI_nj _ 29 _ (by decide)]; exact hM.2.2.1)
    obtain ⟨τ2, b1, b2, b3⟩ := s_X9_start hA hM
    have q40 : ∀ j, j < 16 → τ2.1 40 j = clw (uns A.2.1) j := by
      intro j hj
      rw [e_X9_start, p1, h_X9_start_10, p2, sI_nj _ 29 _ (by decide), hM.2.2.1, cT (nI_le (Nat.le_refl _) (by omega))] at b1
      have e : si_sI τ1 29 27 (nI 0) = τ2 := congrArg Prod.snd (Option.some.inj b1)
      rw [← e, sI_ne _ _ _ (by decide), p2, sI_ne _ _ _ (by decide)]
      exact h40 j hj
    obtain ⟨τ3, c1, c2, c3⟩ := s_X9_begin τ2
    rw [b1, cv_s, c1, cv_s]
    have inner : ∀ (x : Nat), x < 16 → ∀ (τ : si_M) (S : List PR × Bool), (Cp τ (A.2.1, false) ∧ Nx τ S ∧ Gok S.1 ∧ (∀ j, j < 16 → τ.1 40 j = clw (uns A.2.1) j) ∧ KeepM mF mS σ τ) → ∃ τ', si_sem gP nX9_removeUnits 22 [.ref 29, .int (nI x), .int (nI 0), si_U] [] τ = si_sem gP nX9_removeUnits 14 [.ref 29, .int (nI (x + 1)), si_U, si_U] [] τ' ∧ (Cp τ' (A.2.1, false) ∧ Nx τ' (unx (clw (uns A.2.1)) A.2.1 S x) ∧ Gok (unx (clw (uns A.2.1)) A.2.1 S x).1 ∧ (∀ j, j < 16 → τ'.1 40 j = clw (uns A.2.1) j) ∧ KeepM mF mS σ τ') := by
      intro x hx τ S hR
      obtain ⟨τ', d1, d2⟩ := lp_ex (F := fun i τ => si_sem gP nX9_removeUnits 22 [.ref 29, .int (nI x), .int (nI i), si_U] [] τ) (G := A.2.1) (f := fun S q => if unq (clw (uns A.2.1)) x q then cadd (some (x, q.2)) S else S) (R := fun τ S => Cp τ (A.2.1, false) ∧ Nx τ S ∧ Gok S.1 ∧ (∀ j, j < 16 → τ.1 40 j = clw (uns A.2.1) j) ∧ KeepM mF mS σ τ) (fun i τ S hi hR => by
        obtain ⟨r1, r2, r3, r4, r5⟩ := hR
        have hok := hG.2.1.at hi
        have hle := hok.1
        have hw := hok.2.1
        have r13 := r1.2.2.at hi
        have hi60 : i < 60 := by omega
        try dsimp only
        try dsimp only at r13
        rw [h_X9_removeUnits_22, r1.1, cF (nI_ge hi (show A.2.1.length < 2 ^ 31 by omega)), inT hx (by decide), inT hi60 (by decide), nI_clamp (by omega), nI_clamp (by omega), r13, s_X9_left hok, ci_s, r4 x hx, ssh1 _ (by omega), bo, cT rfl, inT hi60 (by decide), r13, s_X9_isUnit hok, ci_s, bn, cT rfl, cF (by decide), inT hi60 (by decide), inT hi60 (by decide), r13, s_X9_size hok, ci_s, nI_add]
        unfold unq
        cases bt (clw (uns A.2.1) x ||| si_ishl (nI 1) (nI x)) A.2.1[i].1 with
        | false => rw [cond_false]; exact ⟨τ, rfl, r1, r2, r3, r4, r5⟩
        | true =>
          cases unB A.2.1[i] with
          | true => rw [cond_true, cond_true]; exact ⟨τ, rfl, r1, r2, r3, r4, r5⟩
          | false =>
            have k1 : KeepM [14] [] τ (si_sI τ 29 14 (nI 0)) := KeepM.sI τ (by decide) _
            obtain ⟨π, a1, a2, a3⟩ := s_X9_addRow hok (Nat.zero_le _) (Nat.le_refl _) (Rw.nil τ) (by simp)
            rw [List.take_length, List.drop_zero, List.nil_append] at a2
            have n1 : Nx π S := (r2.of k1 (by decide) (by decide) (by decide)).of a3 (by decide) (by decide) (by decide)
            obtain ⟨π', o1, o2, o3⟩ := s_X9_putRow a2 (by omega) hok.2.2 n1 r3 hx
            rw [cond_true, cond_false, a1, cv_s, o1, cv_s]
            have er : rowP x A.2.1[i].2 = some (x, A.2.1[i].2) := by unfold rowP; rw [if_pos hw]
            rw [er] at o2
            have kk : KeepM [11, 12, 14] [33, 34] τ π' := ((k1.mono (by decide) (by decide)).tr (a3.mono (by decide) (by decide))).tr (o3.mono (by decide) (by decide))
            exact ⟨π', rfl, r1.of kk (by decide) (by decide) (by decide), o2, cadd_some_ok r3 ⟨hx, hok.2⟩, fun j hj => by rw [(kk.1 40 (by decide) (by decide)).1]; exact r4 j hj, r5.tr (kk.mono (by decide) (by decide))⟩) τ S hR
      obtain ⟨r1, r2, r3, r4, r5⟩ := d2
      refine ⟨τ', ?_, r1, r2, r3, r4, r5⟩
      refine Eq.trans d1 ?_
      try dsimp only
      rw [h_X9_removeUnits_22, r1.1, cT (nI_le (Nat.le_refl _) (show A.2.1.length < 2 ^ 31 by omega)), nI_add]
    obtain ⟨τ4, f1, f2⟩ := lp_ex (F := fun i τ => si_sem gP nX9_removeUnits 14 [.ref 29, .int (nI i), si_U, si_U] [] τ) (G := List.range 16) (f := unx (clw (uns A.2.1)) A.2.1) (R := fun τ S => Cp τ (A.2.1, false) ∧ Nx τ S ∧ Gok S.1 ∧ (∀ j, j < 16 → τ.1 40 j = clw (uns A.2.1) j) ∧ KeepM mF mS σ τ) (fun i τ S hi hR => by
      have hi16 : i < 16 := by simpa using hi
      obtain ⟨τ', g1, g2⟩ := inner i hi16 τ S hR
      rw [getR hi]
      try dsimp only
      rw [h_X9_removeUnits_14, cF (nI_ge hi16 (by decide)), g1]
      exact ⟨τ', rfl, g2⟩) τ3 ([], false) ⟨b2.of c3 (by decide) (by decide) (by decide), c2, Gok.nil, (fun j hj => by rw [(c3.1 40 (by decide) (by decide)).1]; exact q40 j hj), (k0.tr b3).tr (c3.mono (by decide) (by decide))⟩
    obtain ⟨r1, r2, r3, r4, r5⟩ := f2
    obtain ⟨τ5, g1, g2, g3⟩ := s_X9_step r3.1 r2 r1
    obtain ⟨τ6, i1, i2, i3⟩ := fin_m h (r5.tr (g3.mono (by decide) (by decide))) g2 r3 (T := unF A.2.1) (by
      have e : ((List.foldl (unx (clw (uns A.2.1)) A.2.1) ([], false) (List.range 16)).1, (A.2.1, false).2 || (List.foldl (unx (clw (uns A.2.1)) A.2.1) ([], false) (List.range 16)).2) = unF A.2.1 := by
        unfold unF
        exact Prod.ext rfl (Bool.false_or _)
      rw [e]; exact Req.rf _)
    refine ⟨τ6, ?_, i2, i3⟩
    refine Eq.trans f1 ?_
    try dsimp only
    rw [List.length_range, h_X9_removeUnits_14, cT (nI_le (Nat.le_refl _) (by decide)), g1, cv_s, i1, ci_s]
