/-! removeEmpty: the copies -/
theorem Ook.one {q : PR} (x : Int32) (hq : okp q) : Ook (emL x q) := by
  have := emL_ok (x := x) (G := [q]) (fun p hp => by rw [List.mem_singleton.mp hp]; exact hq)
  simpa using this
theorem add_iff {l m : List (Option PR)} (hm : Ook m) {S : List PR × Bool} (hS : Gok S.1) (hf : S.2 = false) (h : ∀ o, o ∈ l ↔ o ∈ m) : Req (addall l S) (addall m S) :=
  add_conf (fun o ho => hm o ((h o).mp ho)) hm hS hS hf hf (fun o => by rw [h o])
theorem s_X7_dropEmpty {σ : si_M} {G : List PR} (hG : Gok G) (hm : Gm σ 25 (G, false)) : ∃ τ S, si_sc gP nX7_dropEmpty [.ref 24] σ = some (none, τ) ∧ Gm τ 25 S ∧ Gok S.1 ∧ Req S (emF G) ∧ Keep csc σ τ := by
  have hl := hG.1
  have hlow := low_clo false hG.2.1
  obtain ⟨τ1, b1, b2, b3, b4⟩ := s_X7_beginStep hm hl
  rw [e_X7_dropEmpty, s_X2_nullable (by decide) hm hG, ci_s, b1, cv_s]
  obtain ⟨τ, S, c1, c2, c3⟩ := lp_cap (F := fun i τ => si_sem gP nX7_dropEmpty 14 [.ref 24, .int (clo false G), .int (nI i)] [] τ) (G := G) (f := fun S q => addall (emL (clo false G) q) S) (R := fun τ S => Gm τ 27 (G, false) ∧ (∃ S', Gm τ 25 S' ∧ Gok S'.1 ∧ Req S' S) ∧ Gok S.1 ∧ Keep csc σ τ) (fun S q h => addall_fl _ h) (fun i τ S hi hR hf => by
    obtain ⟨r1, ⟨S', r2, r3, r5⟩, r6, r4⟩ := hR
    have e := r5.eq hf
    subst e
    have hok := hG.2.1.at hi
    obtain ⟨τ', S2, P, a1, a2, a3, a4, a5, a6, a7⟩ := s_X7_addThinned hok hlow r1 r2 r3
    try dsimp only
    rw [h_X7_dropEmpty_14, e_X2_count 27 (by decide), ci_s, r1.1, cF (nI_ge hi (show G.length < 2 ^ 31 by omega)), s_X2_isTooLarge r2, ci_s, bn, hf, cond_false, s_X2_at (by decide) r1 hl hi, cl_s, a1, cv_s, nI_add]
    exact ⟨τ', rfl, a4, ⟨S2, a3, a5, a6.tr (add_iff (Ook.one _ hok) r6 hf (emC_in hok a2))⟩, addall_ok _ (Ook.one _ hok) r6, r4.tr a7⟩) (fun i τ S hi hR ht => by
    obtain ⟨r1, ⟨S', r2, r3, r5⟩, r6, r4⟩ := hR
    try dsimp only
    rw [h_X7_dropEmpty_14, e_X2_count 27 (by decide), ci_s, r1.1, cF (nI_ge hi (show G.length < 2 ^ 31 by omega)), s_X2_isTooLarge r2, ci_s, bn, r5.1, ht, cond_true]) (fun τ S hR => by
    obtain ⟨r1, r2⟩ := hR
    try dsimp only
    rw [h_X7_dropEmpty_14, e_X2_count 27 (by decide), ci_s, r1.1, cT (nI_le (Nat.le_refl _) (show G.length < 2 ^ 31 by omega))]) τ1 ([], false) ⟨b2, ⟨([], false), b3, Gok.nil, Req.rf _⟩, Gok.nil, b4⟩
  obtain ⟨r1, ⟨S', r2, r3, r5⟩, r6, r4⟩ := c2
  rw [fold_addall (L := emL (clo false G)) (fun S o => rfl)] at c3
  exact ⟨τ, S', c1, r2, r3, r5.tr c3, r4⟩
-- the model
def one (l : Nat) (v : List Nat) : List (Option PR) := if v = [] then [] else [some (l, v)]
def emM (x : Int32) (q : PR) (g : Nat) : List (Option PR) := one q.1 (wdN x g q.2)
theorem emM_in (x : Int32) (q : PR) (o : Option PR) : o ∈ (List.range (2 ^ q.2.countP (nul x))).flatMap (emM x q) ↔ o ∈ emL x q := by
  rw [List.mem_flatMap, emL_in]
  constructor
  · rintro ⟨g, _, h⟩
    unfold emM one at h
    split at h
    · cases h
    · rename_i hn
      exact ⟨_, wdN_del x q.2 g, hn, List.mem_singleton.mp h⟩
  · rintro ⟨v, h1, h2, h3⟩
    obtain ⟨g, hg, rfl⟩ := del_wdN x q.2 v h1
    refine ⟨g, List.mem_range.mpr hg, ?_⟩
    unfold emM one
    rw [if_neg h2, h3]
    exact List.mem_singleton.mpr rfl
theorem s_X9_putWithout {q : PR} (hq : okp q) (x : Int32) {g : Nat} {σ : si_M} {S : List PR × Bool} (hn : Nx σ S) (hS : Gok S.1) : ∃ τ, si_sc gP nX9_putWithout [.ref 29, .long (lN (en q)), .int x, .int (nI g)] σ = some (none, τ) ∧ Nx τ (addall (emM x q g) S) ∧ KeepM [11, 12, 14] [33, 34] σ τ := by
  have hw := hq.2.1
  have key : ∀ (d j wh : Nat) (v : List Nat) (τ : si_M), j + d = q.2.length → Rw τ v → v.length ≤ j → wh ≤ j → (∀ a ∈ v, 1 ≤ a ∧ a ≤ 24) → Nx τ S → ∃ τ', si_sem gP nX9_putWithout 11 [.ref 29, .long (lN (en q)), si_U, .int x, .int (nI g), .int (nI wh), .int (nI j), si_U, si_U, si_U] [] τ = some (none, τ') ∧ Nx τ' (addall (one q.1 (v ++ wdN x (g / 2 ^ wh) (q.2.drop j))) S) ∧ KeepM [11, 12, 14] [33, 34] τ τ' := by
    intro d
    induction d with
    | zero =>
      intro j wh v τ hd hr hv _ hva hN
      rw [h_X9_putWithout_11, s_X9_at hq (by omega), ci_s, getD_out (by omega), cT (nI_le (Nat.le_refl 0) (by decide)), hr.1, List.drop_eq_nil_of_le (by omega)]
      simp only [wdN, List.append_nil]
      by_cases h0 : v = []
      · subst h0
        rw [cT (nI_le (by simp) (by decide)), h_X9_putWithout_140]
        exact ⟨τ, rfl, hN, KeepM.rf⟩
      · have hp : 0 < v.length := List.length_pos_iff.mpr h0
        obtain ⟨τ', o1, o2, o3⟩ := s_X9_putRow hr (by omega) hva hN hS hq.1
        have er : rowP q.1 v = some (q.1, v) := by unfold rowP; rw [if_pos (by omega)]
        rw [er] at o2
        rw [show one q.1 v = [some (q.1, v)] from by unfold one; rw [if_neg h0], cF (nI_ge hp (by omega)), s_X9_left hq, ci_s, o1, cv_s, h_X9_putWithout_140]
        exact ⟨τ', rfl, o2, o3.mono (by decide) (by decide)⟩
    | succ d ih =>
      intro j wh v τ hd hr hv hwh hva hN
      have hi : j < q.2.length := by omega
      have hp := hq.2.2 _ (List.getElem_mem hi)
      have k1 : KeepM [11, 12, 14] [33, 34] τ (si_sI (si_sI τ 34 v.length (nI q.2[j])) 29 14 (nI (v.length + 1))) := (KeepM.cI τ (by decide) (by decide) _ _).tr (KeepM.sI _ (by decide) _)
      have k2 : KeepM [14] [34] τ (si_sI (si_sI τ 34 v.length (nI q.2[j])) 29 14 (nI (v.length + 1))) := (KeepM.cI τ (by decide) (by decide) _ _).tr (KeepM.sI _ (by decide) _)
      have hr' := hr.snoc q.2[j]
      have hN' := hN.of k2 (by decide) (by decide) (by decide)
      have hva' : ∀ a ∈ v ++ [q.2[j]], 1 ≤ a ∧ a ≤ 24 := fun a ha => by
        rcases List.mem_append.mp ha with h | h
        · exact hva a h
        · rw [List.mem_singleton.mp h]; exact hp
      rw [h_X9_putWithout_11, s_X9_at hq (by omega), ci_s, gD hi, cF (nI_ge (show 0 < q.2[j] by omega) (by omega)), s_X9_at hq (by omega), ci_s, gD hi, s_X9_isNonterminal (by omega), ci_s, bz, decide_eq_true hp.1, Bool.true_and, List.drop_eq_getElem_cons hi]
      simp only [wdN]
      have stay : nul x q.2[j] = false → ∃ τ', si_sem gP nX9_putWithout 52 [.ref 29, .long (lN (en q)), si_U, .int x, .int (nI g), .int (nI wh), .int (nI j), .int (nI q.2[j]), si_U, si_U] [] τ = some (none, τ') ∧ Nx τ' (addall (one q.1 (v ++ q.2[j] :: wdN x (g / 2 ^ wh) (q.2.drop (j + 1)))) S) ∧ KeepM [11, 12, 14] [33, 34] τ τ' := by
        intro _
        rw [h_X9_putWithout_52, d00, cond_true, h_X9_putWithout_75, d00, cond_true, Bool.not_true, cond_false, hr.1, inT (show v.length < 32 by omega) (by decide), nI_clamp (by omega), nI_add, nI_add, Nat.add_zero, h_X9_putWithout_119, nI_add]
        obtain ⟨τ', t1, t2, t3⟩ := ih (j + 1) wh (v ++ [q.2[j]]) _ (by omega) hr' (by simp; omega) (by omega) hva' hN'
        rw [t1]
        refine ⟨τ', rfl, ?_, k1.tr t3⟩
        simp only [List.append_assoc, List.singleton_append] at t2
        exact t2
      by_cases h16 : q.2[j] ≤ 16
      · rw [decide_eq_true h16, cond_true, sub1 (by omega), ssh1 x (by omega), bo, d10, cond_false]
        cases hb : bt x (q.2[j] - 1) with
        | false =>
          have hnl : nul x q.2[j] = false := by unfold nul; rw [hb, Bool.and_false]
          rw [cond_false, hnl, if_neg (by decide)]
          exact stay hnl
        | true =>
          have hnl : nul x q.2[j] = true := by unfold nul; rw [hb, decide_eq_true h16]; rfl
          have hbg : bt (nI g) wh = decide (g / 2 ^ wh % 2 = 1) := by rw [bt_nI g (by omega), tb_dm]
          rw [cond_true, hnl, if_pos rfl, ssh1 (nI g) (by omega), bo, hbg]
          by_cases hg1 : g / 2 ^ wh % 2 = 1
          · rw [decide_eq_true hg1, cond_true, if_pos hg1, cond_false, Bool.not_false, cond_true, nI_add, h_X9_putWithout_119, nI_add]
            obtain ⟨τ', t1, t2, t3⟩ := ih (j + 1) (wh + 1) v τ (by omega) hr (by omega) (by omega) hva hN
            rw [t1]
            refine ⟨τ', rfl, ?_, t3⟩
            rw [Nat.div_div_eq_div_mul, ← Nat.pow_succ]
            exact t2
          · rw [decide_eq_false hg1, cond_false, if_neg hg1, h_X9_putWithout_75, d10, cond_false, d00, Bool.not_true, cond_false, hr.1, inT (show v.length < 32 by omega) (by decide), nI_clamp (by omega), nI_add, nI_add, h_X9_putWithout_119, nI_add]
            obtain ⟨τ', t1, t2, t3⟩ := ih (j + 1) (wh + 1) (v ++ [q.2[j]]) _ (by omega) hr' (by simp; omega) (by omega) hva' hN'
            rw [t1]
            refine ⟨τ', rfl, ?_, k1.tr t3⟩
            rw [Nat.div_div_eq_div_mul, ← Nat.pow_succ]
            simp only [List.append_assoc, List.singleton_append] at t2
            exact t2
      · have hnl : nul x q.2[j] = false := by unfold nul; rw [decide_eq_false h16]; rfl
        rw [decide_eq_false h16, cond_false, hnl, if_neg (by decide)]
        exact stay hnl
  obtain ⟨τ, t1, t2, t3⟩ := key q.2.length 0 0 [] (si_sI σ 29 14 (nI 0)) (by omega) (Rw.nil σ) (by simp) (by omega) (fun a ha => by cases ha) (hn.of (KeepM.sI (F := [14]) (S := []) σ (by decide) _) (by decide) (by decide) (by decide))
  rw [e_X9_putWithout, t1]
  refine ⟨τ, rfl, ?_, (KeepM.sI σ (by decide) _).tr t3⟩
  rw [Nat.pow_zero, Nat.div_one, List.drop_zero, List.nil_append] at t2
  exact t2
theorem shl_t : ∀ c : Fin 9, si_ishl (nI 1) (nI c.1) = nI (2 ^ c.1) := by decide +kernel
theorem fact_removeEmpty (σ : si_M) (h : gI σ) : ∃ (r : Int32) (σ1 σ2 : si_M), si_sc gP nX8_removeEmpty (.ref 0 :: []) σ = some (some (.int r), σ1) ∧ si_sc gP nX9_removeEmpty (.ref 29 :: []) σ1 = some (some (.int r), σ2) ∧ gI σ2 := by
  refine fact_i h (fun A => finR (emF A.2.1)) (fun A => finA (emF A.2.1) A) (fun A hA => finA_ok (emF_ok hA.2.1.2.1) hA) (fun A σ hA h => ?_) (fun A σ hA h => ?_)
  · obtain ⟨τ1, b1, b2, b3⟩ := s_X7_begin hA h
    obtain ⟨τ2, S, c1, c2, c3, c4, c5⟩ := s_X7_dropEmpty hA.2.1 b2
    obtain ⟨ρ, d1, d2, d3⟩ := fin_c h (b3.tr c5) c2 c3 c4
    rw [e_X8_removeEmpty, b1, cv_s, c1, cv_s, d1, ci_s]
    exact ⟨ρ, rfl, d2, d3⟩
  · have hG := hA.2.1
    have hl := hG.1
    obtain ⟨τ1, b1, b2, b3⟩ := s_X9_start hA h
    obtain ⟨τ2, c1, c2, c3⟩ := s_X9_begin τ1
    rw [e_X9_removeEmpty, s_X9_nullables h.2.2.1 h.2.2.2.1 hG, ci_s, b1, cv_s, c1, cv_s]
    generalize hx : clo false A.2.1 = x
    have cnt : ∀ (i : Nat) (hi : i < A.2.1.length) (τ : si_M), Cp τ (A.2.1, false) → ∀ (d j c : Nat), j + d = A.2.1[i].2.length → si_sem gP nX9_removeEmpty 28 [.ref 29, .int x, .int (nI i), .int (nI c), .int (nI j), si_U] [] τ = si_sem gP nX9_removeEmpty 92 [.ref 29, .int x, .int (nI i), .int (nI (c + (A.2.1[i].2.drop j).countP (nul x))), .int (nI 0), si_U] [] τ := by
      intro i hi τ r1 d
      have hok := hG.2.1.at hi
      have hw := hok.2.1
      have r13 : τ.2 44 i = lN (en A.2.1[i]) := r1.2.2.at hi
      induction d with
      | zero =>
        intro j c hd
        rw [h_X9_removeEmpty_28, inT (show i < 60 by omega) (by decide), nI_clamp (by omega), r13, s_X9_at hok (by omega), ci_s, getD_out (by omega), cT (nI_le (Nat.le_refl 0) (by decide)), List.drop_eq_nil_of_le (by omega)]
        rfl
      | succ d ih =>
        intro j c hd
        have hj : j < A.2.1[i].2.length := by omega
        have hp := hok.2.2 _ (List.getElem_mem hj)
        rw [h_X9_removeEmpty_28, inT (show i < 60 by omega) (by decide), nI_clamp (by omega), r13, s_X9_at hok (by omega), ci_s, gD hj, cF (nI_ge (show 0 < A.2.1[i].2[j] by omega) (by omega)), inT (show i < 60 by omega) (by decide), r13, s_X9_at hok (by omega), ci_s, gD hj, s_X9_isNonterminal (by omega), ci_s, bz, decide_eq_true hp.1, Bool.true_and, sub1 (by omega), nI_add, nI_add, nI_add, Nat.add_zero, ih _ _ (by omega), ih _ _ (by omega), List.drop_eq_getElem_cons hj]
        by_cases h16 : A.2.1[i].2[j] ≤ 16
        · rw [decide_eq_true h16, cond_true, ssh1 x (by omega), bo]
          cases hb : bt x (A.2.1[i].2[j] - 1) with
          | false =>
            have hnl : ¬ nul x A.2.1[i].2[j] = true := by unfold nul; rw [hb, Bool.and_false]; decide
            rw [cond_false, List.countP_cons_of_neg hnl]
          | true =>
            have hnl : nul x A.2.1[i].2[j] = true := by unfold nul; rw [hb, decide_eq_true h16]; rfl
            rw [cond_true, List.countP_cons_of_pos hnl, show c + 1 + List.countP (nul x) (List.drop (j + 1) A.2.1[i].2) = c + (List.countP (nul x) (List.drop (j + 1) A.2.1[i].2) + 1) by omega]
        · have hnl : ¬ nul x A.2.1[i].2[j] = true := by unfold nul; rw [decide_eq_false h16, Bool.false_and]; decide
          rw [decide_eq_false h16, cond_false, List.countP_cons_of_neg hnl]
    obtain ⟨τ3, d1, d2⟩ := lp_ex (F := fun i τ => si_sem gP nX9_removeEmpty 15 [.ref 29, .int x, .int (nI i), si_U, si_U, si_U] [] τ) (G := A.2.1) (f := fun S q => addall ((List.range (2 ^ q.2.countP (nul x))).flatMap (emM x q)) S) (R := fun τ S => Cp τ (A.2.1, false) ∧ Nx τ S ∧ Gok S.1 ∧ KeepM mF mS σ τ) (fun i τ S hi hR => by
      obtain ⟨r1, r2, r3, r4⟩ := hR
      have hok := hG.2.1.at hi
      have hw := hok.2.1
      have hcl : A.2.1[i].2.countP (nul x) ≤ 8 := Nat.le_trans (List.countP_le_length ..) hw
      have e0 : si_sem gP nX9_removeEmpty 15 [.ref 29, .int x, .int (nI i), si_U, si_U, si_U] [] τ = si_sem gP nX9_removeEmpty 92 [.ref 29, .int x, .int (nI i), .int (nI (A.2.1[i].2.countP (nul x))), .int (nI 0), si_U] [] τ := by
        rw [h_X9_removeEmpty_15, r1.1, cF (nI_ge hi (show A.2.1.length < 2 ^ 31 by omega)), cnt i hi τ r1 A.2.1[i].2.length 0 0 (by omega), List.drop_zero, Nat.zero_add]
      have h2c : 2 ^ A.2.1[i].2.countP (nul x) ≤ 256 := Nat.le_trans (Nat.pow_le_pow_right (by decide) hcl) (show 2 ^ 8 ≤ 256 by decide)
      have esh : si_ishl (nI 1) (nI (A.2.1[i].2.countP (nul x))) = nI (2 ^ A.2.1[i].2.countP (nul x)) := shl_t ⟨_, Nat.lt_succ_of_le hcl⟩
      obtain ⟨τ', f1, f2⟩ := lp_ex (F := fun g τ => si_sem gP nX9_removeEmpty 92 [.ref 29, .int x, .int (nI i), .int (nI (A.2.1[i].2.countP (nul x))), .int (nI g), si_U] [] τ) (G := List.range (2 ^ A.2.1[i].2.countP (nul x))) (f := fun S g => addall (emM x A.2.1[i] g) S) (R := fun τ S => Cp τ (A.2.1, false) ∧ Nx τ S ∧ Gok S.1 ∧ KeepM mF mS σ τ) (fun g τ S hg hR => by
        obtain ⟨r1, r2, r3, r4⟩ := hR
        have hg : g < 2 ^ A.2.1[i].2.countP (nul x) := by simpa using hg
        have r13 : τ.2 44 i = lN (en A.2.1[i]) := r1.2.2.at hi
        obtain ⟨τ', a1, a2, a3⟩ := s_X9_putWithout hok x (g := g) r2 r3
        rw [List.getElem_range]
        try dsimp only
        rw [h_X9_removeEmpty_92, esh, cF (nI_ge hg (by omega)), inT (show i < 60 by omega) (by decide), nI_clamp (by omega), r13, a1, cv_s, nI_add]
        refine ⟨τ', rfl, r1.of a3 (by decide) (by decide) (by decide), a2, addall_ok _ (fun o ho => Ook.one x hok o ((emM_in x _ o).mp (List.mem_flatMap.mpr ⟨g, List.mem_range.mpr hg, ho⟩))) r3, r4.tr (a3.mono (by decide) (by decide))⟩) τ S ⟨r1, r2, r3, r4⟩
      rw [fold_addall (L := emM x A.2.1[i]) (fun S o => rfl)] at f2
      try dsimp only
      rw [e0]
      refine ⟨τ', ?_, f2⟩
      refine Eq.trans f1 ?_
      try dsimp only
      rw [List.length_range, h_X9_removeEmpty_92, esh, cT (nI_le (Nat.le_refl _) (by omega)), nI_add]) τ2 ([], false) ⟨b2.of c3 (by decide) (by decide) (by decide), c2, Gok.nil, b3.tr (c3.mono (by decide) (by decide))⟩
    rw [fold_addall (L := fun q => (List.range (2 ^ q.2.countP (nul x))).flatMap (emM x q)) (fun S o => rfl)] at d2
    obtain ⟨r1, r2, r3, r4⟩ := d2
    have hr := em_req (x := x) hG.2.1 (L := fun q => (List.range (2 ^ q.2.countP (nul x))).flatMap (emM x q)) (fun q _ o => emM_in x q o)
    obtain ⟨τ5, g1, g2, g3⟩ := s_X9_step r3.1 r2 r1
    obtain ⟨τ6, i1, i2, i3⟩ := fin_m h (r4.tr (g3.mono (by decide) (by decide))) g2 r3 (T := emF A.2.1) (by
      unfold emF
      rw [hx]
      refine Req.tr ?_ hr
      exact ⟨Bool.false_or _, fun _ => rfl⟩)
    refine ⟨τ6, ?_, i2, i3⟩
    refine Eq.trans d1 ?_
    try dsimp only
    rw [h_X9_removeEmpty_15, r1.1, cT (nI_le (Nat.le_refl _) (show A.2.1.length < 2 ^ 31 by omega)), g1, cv_s, i1, ci_s]
