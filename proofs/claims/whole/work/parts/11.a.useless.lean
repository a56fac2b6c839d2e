/-! removeUseless, removeUnits -/
theorem lp_ex {α β : Type} {F : Nat → si_M → Option si_O} {G : List β} {f : α → β → α} {R : si_M → α → Prop} (hs : ∀ i τ a (hi : i < G.length), R τ a → ∃ τ', F i τ = F (i + 1) τ' ∧ R τ' (f a G[i])) (τ : si_M) (a : α) (h : R τ a) : ∃ τ', F 0 τ = F G.length τ' ∧ R τ' (G.foldl f a) := by
  have key : ∀ (d i : Nat) (τ : si_M) (a : α), i + d = G.length → R τ a → ∃ τ', F i τ = F G.length τ' ∧ R τ' ((G.drop i).foldl f a) := by
    intro d
    induction d with
    | zero =>
      intro i τ a hd h
      have e : i = G.length := by omega
      subst e
      refine ⟨τ, rfl, ?_⟩
      rw [List.drop_length]
      exact h
    | succ d ih =>
      intro i τ a hd h
      have hi : i < G.length := by omega
      obtain ⟨τ', e1, e2⟩ := hs i τ a hi h
      obtain ⟨τ'', e3, e4⟩ := ih (i + 1) τ' _ (by omega) e2
      refine ⟨τ'', e1.trans e3, ?_⟩
      rw [List.drop_eq_getElem_cons hi]
      exact e4
  exact key G.length 0 τ a (by omega) h
/-- a loop that stops as soon as the copy is too large -/
theorem lp_cap {β : Type} {F : Nat → si_M → Option si_O} {G : List β} {f : (List PR × Bool) → β → (List PR × Bool)} {R : si_M → (List PR × Bool) → Prop} (hf : ∀ S b, S.2 = true → (f S b).2 = true) (hs : ∀ i τ S (hi : i < G.length), R τ S → S.2 = false → ∃ τ', F i τ = F (i + 1) τ' ∧ R τ' (f S G[i])) (hx : ∀ i τ S, i < G.length → R τ S → S.2 = true → F i τ = some (none, τ)) (he : ∀ τ S, R τ S → F G.length τ = some (none, τ)) (τ : si_M) (S : List PR × Bool) (h : R τ S) : ∃ τ' S', F 0 τ = some (none, τ') ∧ R τ' S' ∧ Req S' (G.foldl f S) := by
  have keep : ∀ (l : List β) (S : List PR × Bool), S.2 = true → (l.foldl f S).2 = true := by
    intro l
    induction l with
    | nil => intro S h; exact h
    | cons b l ih => intro S h; exact ih _ (hf S b h)
  have key : ∀ (d i : Nat) (τ : si_M) (S : List PR × Bool), i + d = G.length → R τ S → ∃ τ' S', F i τ = some (none, τ') ∧ R τ' S' ∧ Req S' ((G.drop i).foldl f S) := by
    intro d
    induction d with
    | zero =>
      intro i τ S hd h
      have e : i = G.length := by omega
      subst e
      refine ⟨τ, S, he τ S h, h, ?_⟩
      rw [List.drop_length]
      exact Req.rf S
    | succ d ih =>
      intro i τ S hd h
      have hi : i < G.length := by omega
      cases hS : S.2 with
      | true => exact ⟨τ, S, hx i τ S hi h hS, h, Req.of_true hS (keep _ _ hS)⟩
      | false =>
        obtain ⟨τ', e1, e2⟩ := hs i τ S hi h hS
        obtain ⟨τ'', S', e3, e4, e5⟩ := ih (i + 1) τ' _ (by omega) e2
        refine ⟨τ'', S', e1.trans e3, e4, ?_⟩
        rw [List.drop_eq_getElem_cons hi]
        exact e5
  exact key G.length 0 τ S (by omega) h
theorem rnd_sub (T : Bool) (G : List PR) (x : Int32) : sub x (rnd T G x) := fold_inv (P := sub x) G x (fun a q _ h => sub_tr h (by split; exact sub_or; exact sub_rf a)) (sub_rf x)
theorem clo_fix (T : Bool) {G : List PR} (hG : Oks G) : rnd T G (clo T G) = clo T G := by
  refine itr_stab low (fun a ha => low_rnd hG ha) (zer 16) (fun a ha => ?_) 17 _ low0 (Nat.le_trans (zer_le 16 _) (by omega))
  by_cases e : rnd T G a = a
  · exact Or.inl e
  · exact Or.inr (zer_lt (rnd_sub T G a) (by omega) (low_ex ha (low_rnd hG ha) (rnd_sub T G a) e))
theorem clo_cl (T : Bool) {G : List PR} (hG : Oks G) {q : PR} (hq : q ∈ G) (h : q.2.all (inS (clo T G) T) = true) : bt (clo T G) q.1 = true := by
  have h1 := fold_fix (f := fun s (q : PR) => if q.2.all (inS s T) then s ||| si_ishl (nI 1) (nI q.1) else s) sub (fun _ _ _ => sub_tr) sub_rf (fun _ _ => sub_an) (fun a b => by split; exact sub_or; exact sub_rf a) G (clo T G) (clo_fix T hG) q hq
  try dsimp only at h1
  rw [if_pos h] at h1
  have := (hG q hq).1
  rw [← h1, b_or, bt_sh (by omega) (by omega), decide_eq_true rfl, Bool.or_true]
theorem fold_filter (p : PR → Bool) : ∀ (G : List PR) (S : List PR × Bool), G.foldl (fun S q => if p q then cadd (some q) S else S) S = addall ((G.filter p).map some) S := by
  intro G
  induction G with
  | nil => intro S; rfl
  | cons q G ih =>
    intro S
    rw [List.foldl_cons, ih, List.filter_cons]
    cases p q <;> rfl
theorem add_filter {G : List PR} (h : Gok G) (p : PR → Bool) : G.foldl (fun S q => if p q then cadd (some q) S else S) ([], false) = (G.filter p, false) := by
  rw [fold_filter, add_self (h.filter p)]
theorem cadd_some_ok {S : List PR × Bool} (hS : Gok S.1) {q : PR} (hq : okp q) : Gok (cadd (some q) S).1 := Gok.add (fun p hp => by cases hp; exact hq) hS
def us1F (G : List PR) : List PR := G.filter (fun q => q.2.all (inS (clo true G) true))
def useF (G : List PR) : List PR := (us1F G).filter (fun q => bt (rch (us1F G)) q.1)
theorem useF_ok {G : List PR} (h : Gok G) : Gok (useF G) := (h.filter _).filter _
theorem s_X7_dropUseless {σ : si_M} {A : AS} (hA : Aok A) (hm : Gm σ 25 (A.2.1, false)) : ∃ τ, si_sc gP nX7_dropUseless [.ref 24, .ref 7] σ = some (none, τ) ∧ Gm τ 25 (useF A.2.1, false) ∧ Keep csc σ τ := by
  have hG := hA.2.1
  have hl := hG.1
  rw [e_X7_dropUseless, s_X2_productive (by decide) hm hG, ci_s]
  obtain ⟨τ1, b1, b2, b3, b4⟩ := s_X7_beginStep hm hl
  rw [b1, cv_s]
  obtain ⟨τ2, c1, c2⟩ := lp_ex (F := fun i τ => si_sem gP nX7_dropUseless 14 [.ref 24, .ref 7, .int (clo true A.2.1), .int (nI i), si_U, si_U, si_U] [] τ) (G := A.2.1) (f := fun S q => if q.2.all (inS (clo true A.2.1) true) then cadd (some q) S else S) (R := fun τ S => Gm τ 27 (A.2.1, false) ∧ Gm τ 25 S ∧ Gok S.1 ∧ Keep csc σ τ) (fun i τ S hi hR => by
    obtain ⟨r1, r2, r3, r4⟩ := hR
    have hok := hG.2.1.at hi
    try dsimp only
    rw [h_X7_dropUseless_14, e_X2_count 27 (by decide), ci_s, r1.1, cF (nI_ge hi (show A.2.1.length < 2 ^ 31 by omega)), s_X2_at (by decide) r1 hl hi, cl_s, show clo true A.2.1 ||| nI 16711680 = clo true A.2.1 ||| msk true from rfl, s_X5_staysIn hok (Nat.zero_le _), ci_s, bz, List.drop_zero, all_msk hok (low_clo true hG.2.1) true, nI_add]
    cases hb : A.2.1[i].2.all (inS (clo true A.2.1) true) with
    | false => rw [cond_false]; exact ⟨τ, rfl, r1, r2, r3, r4⟩
    | true =>
      obtain ⟨τ', a1, a2, a3, a4⟩ := s_X2_add25 r2 r1 r3 (o := some A.2.1[i]) (fun p hp => by cases hp; exact hok)
      rw [cond_true, show lN (en A.2.1[i]) = pv (some A.2.1[i]) from rfl, a1, cv_s]
      exact ⟨τ', rfl, a3, a2, cadd_some_ok r3 hok, r4.tr a4⟩) τ1 ([], false) ⟨b2, b3, Gok.nil, b4⟩
  rw [add_filter hG] at c2
  obtain ⟨r1, r2, r3, r4⟩ := c2
  try dsimp only at c1
  rw [c1, h_X7_dropUseless_14, e_X2_count 27 (by decide), ci_s, r1.1, cT (nI_le (Nat.le_refl _) (show A.2.1.length < 2 ^ 31 by omega)), s_X1_followOccurrences (by decide) r2 r3, cv_s, s_X1_reachFrom (by decide), ci_s, reach_eq r3.2.1]
  have r2' := r2.lm (clw (ocs (A.2.1.filter (fun q => q.2.all (inS (clo true A.2.1) true))))) (by decide) (by decide)
  obtain ⟨τ3, d1, d2, d3, d4⟩ := s_X7_beginStep r2' r3.1
  have r5 : Keep csc σ τ3 := (r4.tr (lm_csc (by decide) _ _)).tr d4
  rw [d1, cv_s]
  have hG1 : Gok (us1F A.2.1) := hG.filter _
  have hl1 := hG1.1
  obtain ⟨τ4, f1, f2⟩ := lp_ex (F := fun i τ => si_sem gP nX7_dropUseless 84 [.ref 24, si_U, si_U, .int (rch (us1F A.2.1)), .int (nI i), si_U, si_U] [] τ) (G := us1F A.2.1) (f := fun S q => if bt (rch (us1F A.2.1)) q.1 then cadd (some q) S else S) (R := fun τ S => Gm τ 27 (us1F A.2.1, false) ∧ Gm τ 25 S ∧ Gok S.1 ∧ Keep csc σ τ) (fun i τ S hi hR => by
    obtain ⟨r1, r2, r3, r4⟩ := hR
    have hok := hG1.2.1.at hi
    have hle := hok.1
    try dsimp only
    rw [h_X7_dropUseless_84, e_X2_count 27 (by decide), ci_s, r1.1, cF (nI_ge hi (show (us1F A.2.1).length < 2 ^ 31 by omega)), s_X2_at (by decide) r1 hl1 hi, cl_s, s_X5_left hok, ci_s, s_X8_isIn _ (by omega), ci_s, bz, nI_add]
    cases hb : bt (rch (us1F A.2.1)) (us1F A.2.1)[i].1 with
    | false => rw [cond_false]; exact ⟨τ, rfl, r1, r2, r3, r4⟩
    | true =>
      obtain ⟨τ', a1, a2, a3, a4⟩ := s_X2_add25 r2 r1 r3 (o := some (us1F A.2.1)[i]) (fun p hp => by cases hp; exact hok)
      rw [cond_true, show lN (en (us1F A.2.1)[i]) = pv (some (us1F A.2.1)[i]) from rfl, a1, cv_s]
      exact ⟨τ', rfl, a3, a2, cadd_some_ok r3 hok, r4.tr a4⟩) τ3 ([], false) ⟨d2, d3, Gok.nil, r5⟩
  rw [add_filter hG1] at f2
  obtain ⟨s1, s2, s3, s4⟩ := f2
  refine ⟨τ4, ?_, s2, s4⟩
  refine Eq.trans f1 ?_
  try dsimp only
  rw [h_X7_dropUseless_84, e_X2_count 27 (by decide), ci_s, s1.1, cT (nI_le (Nat.le_refl _) (show (us1F A.2.1).length < 2 ^ 31 by omega))]
theorem fact_removeUseless (σ : si_M) (h : gI σ) : ∃ (r : Int32) (σ1 σ2 : si_M), si_sc gP nX8_removeUseless (.ref 0 :: []) σ = some (some (.int r), σ1) ∧ si_sc gP nX9_removeUseless (.ref 29 :: []) σ1 = some (some (.int r), σ2) ∧ gI σ2 := by
  refine fact_i h (fun A => nI A.2.1.length - nI (useF A.2.1).length) (fun A => finA (useF A.2.1, false) A) (fun A hA => finA_ok (useF_ok hA.2.1) hA) (fun A σ hA h => ?_) (fun A σ hA h => ?_)
  · obtain ⟨τ1, b1, b2, b3⟩ := s_X7_begin hA h
    obtain ⟨τ2, c1, c2, c3⟩ := s_X7_dropUseless hA b2
    obtain ⟨τ3, d1, d2, d3⟩ := s_X7_finish (useF_ok hA.2.1) (h.sc (b3.tr c3)) c2
    rw [e_X8_removeUseless, e_X2_count 3 (by decide), ci_s, b1, cv_s, c1, cv_s, d1, ci_s, e_X2_count 3 (by decide), ci_s, h.2.2.1.1]
    have e3 : τ3.1 3 1 = nI (useF A.2.1).length := d2.2.2.1.1
    rw [e3]
    exact ⟨τ3, rfl, d2, (kc_of (b3.tr c3)).tr d3⟩
  · have hG := hA.2.1
    have hl := hG.1
    obtain ⟨τ1, b1, b2, b3⟩ := s_X9_start hA h
    obtain ⟨τ2, c1, c2, c3⟩ := s_X9_begin τ1
    rw [e_X9_removeUseless, s_X9_productives h.2.2.1 h.2.2.2.1 hG, ci_s, b1, cv_s, c1, cv_s, h.2.2.1]
    obtain ⟨τ3, d1, d2⟩ := lp_ex (F := fun i τ => si_sem gP nX9_removeUseless 20 [.ref 29, .int (nI A.2.1.length), .int (clo true A.2.1), .int (nI i), si_U] [] τ) (G := A.2.1) (f := fun S q => if q.2.all (inS (clo true A.2.1) true) then cadd (some q) S else S) (R := fun τ S => Cp τ (A.2.1, false) ∧ Nx τ S ∧ Gok S.1 ∧ KeepM mF mS σ τ) (fun i τ S hi hR => by
      obtain ⟨r1, r2, r3, r4⟩ := hR
      have hok := hG.2.1.at hi
      have hle := hok.1
      have r13 := r1.2.2.at hi
      try dsimp only
      try dsimp only at r13
      rw [h_X9_removeUseless_20, r1.1, cF (nI_ge hi (show A.2.1.length < 2 ^ 31 by omega)), inT (show i < 60 by omega) (by decide), nI_clamp (by omega), r13, s_X9_left hok, ci_s, ssh1 _ (by omega), bo, inT (show i < 60 by omega) (by decide), r13, show si_sc gP nX9_allIn [.long (lN (en A.2.1[i])), .int (nI 0), .int (clo true A.2.1), .int (nI 1)] τ = _ from s_X9_allIn hok (clo true A.2.1) true (Nat.zero_le _) τ, ci_s, bz, List.drop_zero, nI_add]
      cases hb : A.2.1[i].2.all (inS (clo true A.2.1) true) with
      | false =>
        refine ⟨τ, ?_, r1, r2, r3, r4⟩
        cases bt (clo true A.2.1) A.2.1[i].1 <;> rfl
      | true =>
        obtain ⟨τ', a1, a2, a3⟩ := s_X9_put r2 r3 hok
        have a4 : KeepM mF mS τ τ' := a3.mono (by decide) (by decide)
        rw [clo_cl true hG.2.1 (List.getElem_mem hi) hb, cond_true, cond_true, inT (show i < 60 by omega) (by decide), r13, a1, cv_s]
        exact ⟨τ', rfl, r1.of a3 (by decide) (by decide) (by decide), a2, cadd_some_ok r3 hok, r4.tr a4⟩) τ2 ([], false) ⟨b2.of c3 (by decide) (by decide) (by decide), c2, Gok.nil, b3.tr (c3.mono (by decide) (by decide))⟩
    rw [add_filter hG] at d2
    obtain ⟨r1, r2, r3, r4⟩ := d2
    have hG1 : Gok (us1F A.2.1) := hG.filter _
    have hl1 := hG1.1
    obtain ⟨τ4, f1, f2, f3⟩ := s_X9_step r3.1 r2 r1
    have f4 : Cp τ4 (us1F A.2.1, false) := f2
    obtain ⟨τ5, g1, g2, g3⟩ := s_X9_begin τ4
    try dsimp only at d1
    rw [d1, h_X9_removeUseless_20, r1.1, cT (nI_le (Nat.le_refl _) (show A.2.1.length < 2 ^ 31 by omega)), f1, cv_s, f4.1, s_X9_reached (by decide) f4.2.2 hG1, ci_s, g1, cv_s]
    have k5 : KeepM mF mS σ τ5 := (r4.tr (f3.mono (by decide) (by decide))).tr (g3.mono (by decide) (by decide))
    obtain ⟨τ6, i1, i2⟩ := lp_ex (F := fun i τ => si_sem gP nX9_removeUseless 99 [.ref 29, .int (nI A.2.1.length), si_U, .int (rch (us1F A.2.1)), .int (nI i)] [] τ) (G := us1F A.2.1) (f := fun S q => if bt (rch (us1F A.2.1)) q.1 then cadd (some q) S else S) (R := fun τ S => Cp τ (us1F A.2.1, false) ∧ Nx τ S ∧ Gok S.1 ∧ KeepM mF mS σ τ) (fun i τ S hi hR => by
      obtain ⟨r1, r2, r3, r4⟩ := hR
      have hok := hG1.2.1.at hi
      have hle := hok.1
      have r13 := r1.2.2.at hi
      try dsimp only
      try dsimp only at r13
      rw [h_X9_removeUseless_99, r1.1, cF (nI_ge hi (show (us1F A.2.1).length < 2 ^ 31 by omega)), inT (show i < 60 by omega) (by decide), nI_clamp (by omega), r13, s_X9_left hok, ci_s, ssh1 _ (by omega), bo, inT (show i < 60 by omega) (by decide), r13, nI_add]
      cases hb : bt (rch (us1F A.2.1)) (us1F A.2.1)[i].1 with
      | false => rw [cond_false]; exact ⟨τ, rfl, r1, r2, r3, r4⟩
      | true =>
        obtain ⟨τ', a1, a2, a3⟩ := s_X9_put r2 r3 hok
        have a4 : KeepM mF mS τ τ' := a3.mono (by decide) (by decide)
        rw [cond_true, a1, cv_s]
        exact ⟨τ', rfl, r1.of a3 (by decide) (by decide) (by decide), a2, cadd_some_ok r3 hok, r4.tr a4⟩) τ5 ([], false) ⟨f4.of g3 (by decide) (by decide) (by decide), g2, Gok.nil, k5⟩
    rw [add_filter hG1] at i2
    obtain ⟨s1, s2, s3, s4⟩ := i2
    obtain ⟨τ7, j1, j2, j3⟩ := s_X9_step s3.1 s2 s1
    have j4 : Cp τ7 (useF A.2.1, false) := j2
    have k7 : KeepM mF mS σ τ7 := s4.tr (j3.mono (by decide) (by decide))
    obtain ⟨τ8, l1, l2, l3⟩ := s_X9_finish (useF_ok hG) (h.sc k7) j4
    refine ⟨τ8, ?_, l2, (km_of k7).tr l3⟩
    refine Eq.trans i1 ?_
    try dsimp only
    rw [h_X9_removeUseless_99, s1.1, cT (nI_le (Nat.le_refl _) (show (us1F A.2.1).length < 2 ^ 31 by omega)), j1, cv_s, l1, ci_s]
    rfl
