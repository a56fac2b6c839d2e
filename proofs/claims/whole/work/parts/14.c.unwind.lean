/-! removeLeftRecursion: the model's unwind, and the loops of both -/
theorem s_X9_unwind {σ : si_M} {S : List PR × Bool} (hc : Cp σ S) (hf0 : S.2 = false) (hG : Gok S.1) {x : Nat} (hx : x < 16) : ∃ τ S', si_sc gP nX9_unwind [.ref 29, .int (nI x)] σ = some (none, τ) ∧ Cp τ S' ∧ Gok S'.1 ∧ Req S' (tuF x S) ∧ KeepM mF mS σ τ := by
  have hl := hG.1
  have w4 := lp_or (F := fun i b => si_sem gP nX9_unwind 4 [.ref 29, .int (nI x), .int (bI b), .int (nI i), si_U] [] σ) (G := S.1) (p := muB x) (fun i b hi => by
    have hok := hG.2.1.at hi
    have hle := hok.1
    try dsimp only
    rw [h_X9_unwind_4, hc.1, cF (nI_ge hi (by omega)), bn, nI_add]
    cases b with
    | true => rw [cond_true]; rfl
    | false =>
      rw [cond_false, inT (show i < 60 by omega) (by decide), nI_clamp (by omega), hc.2.2.at hi, s_X9_left hok, ci_s, Bool.false_or]
      unfold muB bgB
      by_cases e1 : S.1[i].1 = x
      · rw [nF (by rw [e1]), inT (show i < 60 by omega) (by decide), hc.2.2.at hi, s_X9_beginsWithItself hok, ci_s, bz, decide_eq_true e1, Bool.true_and, e1]
        by_cases e2 : S.1[i].2.getD 0 0 = x + 1
        · rw [decide_eq_true e2, cond_true, Bool.true_and, inT (show i < 60 by omega) (by decide), hc.2.2.at hi, s_X9_size hok, ci_s]
          by_cases e3 : 1 < S.1[i].2.length
          · rw [cF (nI_ge e3 (by have := hok.2.1; omega)), decide_eq_true e3]; rfl
          · rw [cT (nI_le (show S.1[i].2.length ≤ 1 by omega) (by decide)), decide_eq_false e3]; rfl
        · rw [decide_eq_false e2, cond_false, Bool.false_and]; rfl
      · rw [nT (nI_eqF e1 (by omega) (by omega)), decide_eq_false e1, Bool.false_and, Bool.false_and]; rfl)
  rw [mu_any hx hG] at w4
  rw [e_X9_unwind]
  have e4 : si_sem gP nX9_unwind 4 [.ref 29, .int (nI x), .int (nI 0), .int (nI 0), si_U] [] σ = _ := w4
  rw [e4, h_X9_unwind_4, hc.1, cT (nI_le (Nat.le_refl _) (by omega)), bz, hc.2.1, hf0]
  unfold tuF
  rw [if_neg (by rw [hf0]; decide)]
  cases hrc : rcB x S.1 with
  | false =>
    rw [cond_false, if_neg (by decide), bz, cond_false]
    obtain ⟨τ1, b1, b2, b3⟩ := s_X9_begin σ
    rw [b1, cv_s]
    obtain ⟨τ2, c1, c2⟩ := lp_ex (F := fun i τ => si_sem gP nX9_unwind 95 [.ref 29, .int (nI x), .int (bI false), .int (-1 : Int32), .int (nI i)] [] τ) (G := S.1) (f := fun T q => if (!bgB q x x) then cadd (some q) T else T) (R := fun τ T => Cp τ S ∧ Nx τ T ∧ Gok T.1 ∧ KeepM mF mS σ τ) (fun i τ T hi hR => by
      obtain ⟨r1, r2, r3, r4⟩ := hR
      have hok := hG.2.1.at hi
      have hle := hok.1
      obtain ⟨τ', a1, a2, a3⟩ := s_X9_put r2 r3 hok
      have r1' : Cp τ' S := r1.of a3 (by decide) (by decide) (by decide)
      try dsimp only
      rw [h_X9_unwind_95, r1.1, cF (nI_ge hi (by omega)), inT (show i < 60 by omega) (by decide), nI_clamp (by omega), r1.2.2.at hi, s_X9_left hok, ci_s, nI_add]
      by_cases e1 : S.1[i].1 = x
      · rw [nF (by rw [e1]), inT (show i < 60 by omega) (by decide), r1.2.2.at hi, s_X9_beginsWithItself hok, ci_s, bz, e1]
        by_cases e2 : S.1[i].2.getD 0 0 = x + 1
        · have hb : bgB S.1[i] x x = true := bgB_iff.mpr ⟨e1, e2⟩
          have hnl : ¬ 1 < S.1[i].2.length := by
            intro h
            have h9 : S.1.any (muB x) = true := List.any_eq_true.mpr ⟨_, List.getElem_mem hi, by unfold muB; rw [hb, decide_eq_true h]; rfl⟩
            rw [mu_any hx hG, hrc] at h9
            cases h9
          rw [decide_eq_true e2, cond_true, inT (show i < 60 by omega) (by decide), r1.2.2.at hi, s_X9_putTail0 hok _ hnl, cv_s, hb]
          exact ⟨τ, rfl, r1, r2, r3, r4⟩
        · have hb : bgB S.1[i] x x = false := by unfold bgB; rw [decide_eq_false e2, Bool.and_false]
          rw [decide_eq_false e2, cond_false, inT (show i < 60 by omega) (by decide), r1.2.2.at hi, a1, cv_s, inT (show i < 60 by omega) (by decide), r1'.2.2.at hi, s_X9_left hok, ci_s, nF (by rw [e1]), bz, cond_false, hb]
          exact ⟨τ', rfl, r1', a2, cadd_some_ok r3 hok, r4.tr (a3.mono (by decide) (by decide))⟩
      · have hb : bgB S.1[i] x x = false := by unfold bgB; rw [decide_eq_false e1, Bool.false_and]
        rw [nT (nI_eqF e1 (by omega) (by omega)), inT (show i < 60 by omega) (by decide), r1.2.2.at hi, a1, cv_s, inT (show i < 60 by omega) (by decide), r1'.2.2.at hi, s_X9_left hok, ci_s, nT (nI_eqF e1 (by omega) (by omega)), hb]
        exact ⟨τ', rfl, r1', a2, cadd_some_ok r3 hok, r4.tr (a3.mono (by decide) (by decide))⟩) τ1 ([], false) ⟨hc.of b3 (by decide) (by decide) (by decide), b2, Gok.nil, b3.mono (by decide) (by decide)⟩
    rw [add_filter hG] at c2
    have hfl : S.1.filter (fun q => !bgB q x x) = r1G x S.1 := by
      have g1 := hG.filter (fun q => !bgB q x x)
      have g2 := r1G_ok (x := x) hG
      refine Gok_ext g1.2.1 g2.2.1 g1.2.2 g2.2.2 (fun q => ?_)
      unfold r1G
      rw [rmv_mem (okp_self hx) hG, List.mem_filter]
      constructor
      · rintro ⟨h1, h2⟩
        refine ⟨h1, fun e => ?_⟩
        rw [e] at h2
        have : bgB (x, [x + 1]) x x = true := bgB_iff.mpr ⟨rfl, rfl⟩
        rw [this] at h2
        cases h2
      · rintro ⟨h1, h2⟩
        refine ⟨h1, ?_⟩
        cases hb : bgB q x x with
        | false => rfl
        | true =>
          exfalso
          have h9 : S.1.any (muB x) = true := List.any_eq_true.mpr ⟨q, h1, mu_iff.mp ⟨hb, h2⟩⟩
          rw [mu_any hx hG, hrc] at h9
          cases h9
    rw [hfl] at c2
    obtain ⟨r1, r2, r3, r4⟩ := c2
    obtain ⟨τ3, d1, d2, d3⟩ := s_X9_step r3.1 r2 r1
    rw [hf0, Bool.false_or] at d2
    refine ⟨τ3, _, ?_, d2, r3, Req.rf _, r4.tr (d3.mono (by decide) (by decide))⟩
    refine Eq.trans c1 ?_
    try dsimp only
    rw [h_X9_unwind_95, r1.1, cT (nI_le (Nat.le_refl _) (by omega)), d1, cv_s]
  | true =>
    rw [cond_true, if_pos rfl, s_X9_freeOne hc hG, ci_s, fre_r1 hx hG hrc]
    cases hfr : fre S.1 with
    | none =>
      try dsimp only
      rw [sI_same, cF (by decide)]
      refine ⟨_, (S.1, true), rfl, ⟨by rw [sI_nj _ 29 _ (by decide)]; exact hc.1, sI_same _ _ _ _, hc.2.2⟩, hG, Req.of_true rfl rfl, KeepM.sI σ (by decide) _⟩
    | some z =>
      have hz := fre_lt hfr
      obtain ⟨τ1, b1, b2, b3⟩ := s_X9_begin σ
      try dsimp only
      rw [hc.2.1, hf0, bz, cond_false, b1, cv_s, show fI (some z) = nI z from rfl]
      have hmo : ∀ q, okp q → Ook (unM x z q) := by
        intro q hq o ho p hp
        unfold unM at ho
        split at ho
        · split at ho
          · rcases List.mem_cons.mp ho with h | h
            · rw [h] at hp; rw [← Option.some.inj hp]; exact okp_dr hq hz
            · rw [List.mem_singleton.mp h] at hp; exact ext_ok (okp_dr hq hz) ⟨by omega, by omega⟩ p hp
          · cases ho
        · split at ho
          · rcases List.mem_cons.mp ho with h | h
            · rw [h] at hp; rw [← Option.some.inj hp]; exact hq
            · rw [List.mem_singleton.mp h] at hp; exact ext_ok hq ⟨by omega, by omega⟩ p hp
          · rw [List.mem_singleton.mp ho] at hp; rw [← Option.some.inj hp]; exact hq
      obtain ⟨τ2, c1, c2⟩ := lp_ex (F := fun i τ => si_sem gP nX9_unwind 95 [.ref 29, .int (nI x), .int (bI true), .int (nI z), .int (nI i)] [] τ) (G := S.1) (f := fun T q => addall (unM x z q) T) (R := fun τ T => Cp τ S ∧ Nx τ T ∧ Gok T.1 ∧ KeepM mF mS σ τ) (fun i τ T hi hR => by
        obtain ⟨r1, r2, r3, r4⟩ := hR
        have hok := hG.2.1.at hi
        have hle := hok.1
        have hq8 := hok.2.1
        have hal := addall_ok _ (hmo _ hok) r3
        obtain ⟨τ', a1, a2, a3⟩ := s_X9_put r2 r3 hok
        have r1' : Cp τ' S := r1.of a3 (by decide) (by decide) (by decide)
        try dsimp only
        rw [h_X9_unwind_95, r1.1, cF (nI_ge hi (by omega)), inT (show i < 60 by omega) (by decide), nI_clamp (by omega), r1.2.2.at hi, s_X9_left hok, ci_s, nI_add, nI_add]
        by_cases e1 : S.1[i].1 = x
        · rw [nF (by rw [e1]), inT (show i < 60 by omega) (by decide), r1.2.2.at hi, s_X9_beginsWithItself hok, ci_s, bz, e1]
          by_cases e2 : S.1[i].2.getD 0 0 = x + 1
          · have hb : bgB S.1[i] x x = true := bgB_iff.mpr ⟨e1, e2⟩
            rw [decide_eq_true e2, cond_true, inT (show i < 60 by omega) (by decide), r1.2.2.at hi]
            by_cases hln : 1 < S.1[i].2.length
            · have e : unM x z S.1[i] = [some (z, S.1[i].2.drop 1), ext (z, S.1[i].2.drop 1) (z + 1)] := by unfold unM; rw [if_pos hb, if_pos hln]
              obtain ⟨τ3, u1, u2, u3⟩ := s_X9_putTail r2 r3 hok hz hln
              rw [u1, cv_s]
              rw [e] at hal ⊢
              exact ⟨τ3, rfl, r1.of u3 (by decide) (by decide) (by decide), u2, hal, r4.tr (u3.mono (by decide) (by decide))⟩
            · have e : unM x z S.1[i] = [] := by unfold unM; rw [if_pos hb, if_neg hln]
              rw [s_X9_putTail0 hok _ hln, cv_s, e]
              exact ⟨τ, rfl, r1, r2, r3, r4⟩
          · have hb : bgB S.1[i] x x = false := by unfold bgB; rw [decide_eq_false e2, Bool.and_false]
            have e : unM x z S.1[i] = [some S.1[i], ext S.1[i] (z + 1)] := by unfold unM; rw [hb, if_neg (by decide), if_pos e1]
            have k1 : KeepM [14] [] τ' (si_sI τ' 29 14 (nI 0)) := KeepM.sI τ' (by decide) _
            obtain ⟨π, f1, f2, f3⟩ := s_X9_addRow hok (Nat.zero_le _) (Nat.le_refl _) (Rw.nil τ') (by simp)
            rw [List.take_length, List.drop_zero, List.nil_append] at f2
            have hs := f2.snoc (z + 1)
            have k2 : KeepM [14] [34] π (si_sI (si_sI π 34 S.1[i].2.length (nI (z + 1))) 29 14 (nI (S.1[i].2.length + 1))) := (KeepM.cI π (by decide) (by decide) _ _).tr (KeepM.sI _ (by decide) _)
            have kk : KeepM [14] [34] τ' (si_sI (si_sI π 34 S.1[i].2.length (nI (z + 1))) 29 14 (nI (S.1[i].2.length + 1))) := ((k1.mono (by decide) (by decide)).tr f3).tr k2
            obtain ⟨π3, u1, u2, u3⟩ := s_X9_putRow hs (by simp; omega) (fun a ha => by
              rcases List.mem_append.mp ha with h | h
              · exact hok.2.2 a h
              · rw [List.mem_singleton.mp h]; omega) (a2.of kk (by decide) (by decide) (by decide)) (cadd_some_ok r3 hok) hx
            rw [rowP_ext, show (x, S.1[i].2) = S.1[i] from Prod.ext e1.symm rfl] at u2
            have kall : KeepM [11, 12, 14] [33, 34] τ π3 := ((a3.mono (by decide) (by decide)).tr (kk.mono (by decide) (by decide))).tr (u3.mono (by decide) (by decide))
            rw [decide_eq_false e2, cond_false, inT (show i < 60 by omega) (by decide), r1.2.2.at hi, a1, cv_s, inT (show i < 60 by omega) (by decide), r1'.2.2.at hi, s_X9_left hok, ci_s, nF (by rw [e1]), bz, cond_true, inT (show i < 60 by omega) (by decide), inT (show i < 60 by omega) (by decide), r1'.2.2.at hi, s_X9_size hok, ci_s, f1, cv_s, f2.1, inT (show S.1[i].2.length < 32 by omega) (by decide), nI_clamp (by omega), nI_add, u1, cv_s]
            rw [e] at hal ⊢
            exact ⟨π3, rfl, r1.of kall (by decide) (by decide) (by decide), u2, hal, r4.tr (kall.mono (by decide) (by decide))⟩
        · have hb : bgB S.1[i] x x = false := by unfold bgB; rw [decide_eq_false e1, Bool.false_and]
          have e : unM x z S.1[i] = [some S.1[i]] := by unfold unM; rw [hb, if_neg (by decide), if_neg e1]
          rw [nT (nI_eqF e1 (by omega) (by omega)), inT (show i < 60 by omega) (by decide), r1.2.2.at hi, a1, cv_s, inT (show i < 60 by omega) (by decide), r1'.2.2.at hi, s_X9_left hok, ci_s, nT (nI_eqF e1 (by omega) (by omega)), e]
          exact ⟨τ', rfl, r1', a2, cadd_some_ok r3 hok, r4.tr (a3.mono (by decide) (by decide))⟩) τ1 ([], false) ⟨hc.of b3 (by decide) (by decide) (by decide), b2, Gok.nil, b3.mono (by decide) (by decide)⟩
      rw [fold_addall (L := unM x z) (fun S o => rfl)] at c2
      obtain ⟨r1, r2, r3, r4⟩ := c2
      obtain ⟨τ3, d1, d2, d3⟩ := s_X9_step r3.1 r2 r1
      rw [hf0, Bool.false_or] at d2
      refine ⟨τ3, _, ?_, d2, r3, ?_, r4.tr (d3.mono (by decide) (by decide))⟩
      · refine Eq.trans c1 ?_
        try dsimp only
        rw [h_X9_unwind_95, r1.1, cT (nI_le (Nat.le_refl _) (by omega)), d1, cv_s]
      · exact add_iff (tu_ook (r1G_ok hG).2.1 hz) Gok.nil rfl (un_mem hx hG z)
-- the loops
def trI (m : Int32) (x : Nat) (S : List PR × Bool) (y : Nat) : List PR × Bool := if bt m y then tlF x y S else S
def trF (m : Int32) (x : Nat) (S : List PR × Bool) : List PR × Bool := tuF x ((List.range x).foldl (trI m x) S)
def lrI (m : Int32) (S : List PR × Bool) (x : Nat) : List PR × Bool := if bt m x then trF m x S else S
def lrF (G : List PR) : List PR × Bool := (List.range 16).foldl (lrI (lfS G)) (G, false)
theorem trI_fl {m : Int32} {x : Nat} {S : List PR × Bool} {y : Nat} (h : S.2 = true) : (trI m x S y).2 = true := by
  unfold trI
  split
  · rw [tlF_fl h]; exact h
  · exact h
theorem trI_ok {m : Int32} {x : Nat} {S : List PR × Bool} {y : Nat} (h : Gok S.1) : Gok (trI m x S y).1 := by
  unfold trI
  split
  · exact tlF_ok h
  · exact h
theorem trs_fl {m : Int32} {x : Nat} {S : List PR × Bool} (h : S.2 = true) : ((List.range x).foldl (trI m x) S).2 = true := fold_inv (P := fun S : List PR × Bool => S.2 = true) (List.range x) S (fun S y _ h => trI_fl h) h
theorem trF_fl {m : Int32} {x : Nat} {S : List PR × Bool} (h : S.2 = true) : (trF m x S).2 = true := by
  unfold trF
  have := trs_fl (m := m) (x := x) h
  rw [tuF_fl this]
  exact this
theorem trF_ok {m : Int32} {x : Nat} {S : List PR × Bool} (h : Gok S.1) : Gok (trF m x S).1 := tuF_ok (fold_inv (P := fun S : List PR × Bool => Gok S.1) (List.range x) S (fun S y _ h => trI_ok h) h)
theorem lrI_fl {m : Int32} {S : List PR × Bool} {x : Nat} (h : S.2 = true) : (lrI m S x).2 = true := by
  unfold lrI
  split
  · exact trF_fl h
  · exact h
theorem lrI_ok {m : Int32} {S : List PR × Bool} {x : Nat} (h : Gok S.1) : Gok (lrI m S x).1 := by
  unfold lrI
  split
  · exact trF_ok h
  · exact h
theorem lrF_ok {G : List PR} (h : Gok G) : Gok (lrF G).1 := fold_inv (P := fun S : List PR × Bool => Gok S.1) (List.range 16) (G, false) (fun S x _ h => lrI_ok h) h
theorem s_X7_treatLeft {σ : si_M} {S : List PR × Bool} (hm : Gm σ 25 S) (hG : Gok S.1) {x : Nat} (hx : x < 16) (m : Int32) : ∃ τ S', si_sc gP nX7_treatLeft [.ref 24, .int (nI x), .int m] σ = some (none, τ) ∧ Gm τ 25 S' ∧ Gok S'.1 ∧ Req S' (trF m x S) ∧ Keep csc σ τ := by
  rw [e_X7_treatLeft]
  obtain ⟨τ, S', c1, c2, c3⟩ := lp_cap2 (F := fun i τ => si_sem gP nX7_treatLeft 2 [.ref 24, .int (nI x), .int m, .int (nI i)] [] τ) (G := List.range x) (f := trI m x) (R := fun τ S => Gm τ 25 S ∧ Gok S.1 ∧ Keep csc σ τ) (fun S y h => trI_fl h) (fun i τ S hi hR hf0 => by
    obtain ⟨r2, r3, r4⟩ := hR
    have hi : i < x := by simpa using hi
    rw [List.getElem_range]
    try dsimp only
    rw [h_X7_treatLeft_2, cF (nI_ge hi (by omega)), s_X2_isTooLarge r2, ci_s, bn, hf0, cond_false, s_X8_isIn m (show i < 24 by omega), ci_s, bz, nI_add]
    unfold trI
    cases hb : bt m i with
    | false => rw [cond_false]; exact ⟨τ, rfl, r2, r3, r4⟩
    | true =>
      obtain ⟨τ', a1, a2, a3⟩ := s_X7_expandAll r2 hf0 r3 hx (show i < 16 by omega)
      rw [cond_true, a1, cv_s]
      exact ⟨τ', rfl, a2, tlF_ok r3, r4.tr a3⟩) (fun i τ S hi hR ht => by
    obtain ⟨r2, r3, r4⟩ := hR
    have hi : i < x := by simpa using hi
    try dsimp only
    rw [List.length_range, h_X7_treatLeft_2, cF (nI_ge hi (by omega)), h_X7_treatLeft_2, cT (nI_le (Nat.le_refl _) (by omega)), s_X2_isTooLarge r2, ci_s, bn, ht, cond_true, ci_s, bn, cond_true, s_X2_isTooLarge r2, ci_s, bn, ht, cond_true]) σ S ⟨hm, hG, Keep.rf⟩
  obtain ⟨r2, r3, r4⟩ := c2
  try dsimp only at c1
  rw [c1, List.length_range, h_X7_treatLeft_2, cT (nI_le (Nat.le_refl _) (by omega)), s_X2_isTooLarge r2, ci_s, bn]
  unfold trF
  cases hS : S'.2 with
  | true =>
    have h9 : ((List.range x).foldl (trI m x) S).2 = true := c3.1.symm.trans hS
    refine ⟨τ, S', rfl, r2, r3, ?_, r4⟩
    rw [tuF_fl h9]
    exact c3
  | false =>
    have e := c3.eq (c3.1.symm.trans hS)
    obtain ⟨τ', a1, a2, a3⟩ := s_X7_turnRecursion r2 hS r3 hx
    rw [cond_false, a1, cv_s]
    rw [e] at a2
    exact ⟨τ', _, rfl, a2, tuF_ok (by rw [← e]; exact r3), Req.rf _, r4.tr a3⟩
theorem s_X7_dropLeftRecursion {σ : si_M} {G : List PR} (hm : Gm σ 25 (G, false)) (hG : Gok G) : ∃ τ S', si_sc gP nX7_dropLeftRecursion [.ref 24] σ = some (none, τ) ∧ Gm τ 25 S' ∧ Gok S'.1 ∧ Req S' (lrF G) ∧ Keep csc σ τ := by
  rw [e_X7_dropLeftRecursion, s_X2_leftSides hm hG, ci_s]
  obtain ⟨τ, S1, c1, c2, c3⟩ := lp_cap (F := fun i τ => si_sem gP nX7_dropLeftRecursion 10 [.ref 24, .int (lfS G), .int (nI i)] [] τ) (G := List.range 16) (f := lrI (lfS G)) (R := fun τ S => (∃ S', Gm τ 25 S' ∧ Gok S'.1 ∧ Req S' S) ∧ Keep csc σ τ) (fun S y h => lrI_fl h) (fun i τ S hi hR hf0 => by
    obtain ⟨⟨S', r2, r3, r5⟩, r4⟩ := hR
    have hi : i < 16 := by simpa using hi
    have e := r5.eq hf0
    subst e
    rw [List.getElem_range]
    try dsimp only
    rw [h_X7_dropLeftRecursion_10, cF (nI_ge hi (by decide)), s_X2_isTooLarge r2, ci_s, bn, hf0, cond_false, s_X8_isIn _ (show i < 24 by omega), ci_s, bz, nI_add]
    unfold lrI
    cases hb : bt (lfS G) i with
    | false => rw [cond_false]; exact ⟨τ, rfl, ⟨S', r2, r3, Req.rf _⟩, r4⟩
    | true =>
      obtain ⟨τ', S2, a1, a2, a3, a4, a5⟩ := s_X7_treatLeft r2 r3 hi (lfS G)
      rw [cond_true, a1, cv_s]
      exact ⟨τ', rfl, ⟨S2, a2, a3, a4⟩, r4.tr a5⟩) (fun i τ S hi hR ht => by
    obtain ⟨⟨S', r2, r3, r5⟩, r4⟩ := hR
    have hi : i < 16 := by simpa using hi
    try dsimp only
    rw [h_X7_dropLeftRecursion_10, cF (nI_ge hi (by decide)), s_X2_isTooLarge r2, ci_s, bn, r5.1, ht, cond_true]) (fun τ S hR => by
    try dsimp only
    rw [List.length_range, h_X7_dropLeftRecursion_10, cT (nI_le (Nat.le_refl _) (by decide))]) σ (G, false) ⟨⟨_, hm, hG, Req.rf _⟩, Keep.rf⟩
  obtain ⟨⟨S', r2, r3, r5⟩, r4⟩ := c2
  exact ⟨τ, S', c1, r2, r3, r5.tr c3, r4⟩
theorem s_X9_unwindAll {σ : si_M} {G : List PR} (hc : Cp σ (G, false)) (hG : Gok G) : ∃ τ S', si_sc gP nX9_unwindAll [.ref 29] σ = some (none, τ) ∧ Cp τ S' ∧ Gok S'.1 ∧ Req S' (lrF G) ∧ KeepM mF mS σ τ := by
  have hl := hG.1
  have w4 := lp_fold' (F := fun i s => si_sem gP nX9_unwindAll 4 [.ref 29, .int s, .int (nI i), si_U] [] σ) (G := G) (f := fun s q => s ||| si_ishl (nI 1) (nI q.1)) (fun i s hi => by
    have hok := hG.2.1.at hi
    have r13 : σ.2 44 i = lN (en G[i]) := hc.2.2.at hi
    try dsimp only
    rw [h_X9_unwindAll_4, hc.1, cF (nI_ge hi (show G.length < 2 ^ 31 by omega)), inT (show i < 60 by omega) (by decide), nI_clamp (by omega), r13, s_X9_left hok, ci_s, nI_add]) (nI 0)
  have e0 : si_sem gP nX9_unwindAll 4 [.ref 29, .int (nI 0), .int (nI 0), si_U] [] σ = si_sem gP nX9_unwindAll 34 [.ref 29, .int (lfS G), .int (nI 0), si_U] [] σ := by
    refine Eq.trans w4 ?_
    try dsimp only
    rw [h_X9_unwindAll_4, hc.1, cT (nI_le (Nat.le_refl _) (show G.length < 2 ^ 31 by omega))]
    rfl
  rw [e_X9_unwindAll, e0]
  unfold lrF
  generalize lfS G = m
  have inner : ∀ (x : Nat) (hx : x < 16) (τ : si_M) (S C : List PR × Bool), Cp τ C → Gok C.1 → Req C S → KeepM mF mS σ τ → ∃ τ' C', si_sem gP nX9_unwindAll 58 [.ref 29, .int m, .int (nI x), .int (nI 0)] [] τ = si_sem gP nX9_unwindAll 34 [.ref 29, .int m, .int (nI (x + 1)), si_U] [] τ' ∧ Cp τ' C' ∧ Gok C'.1 ∧ Req C' (trF m x S) ∧ KeepM mF mS σ τ' := by
    intro x hx τ S C q1 q2 q3 q4
    obtain ⟨τ1, S1, c1, c2, c3⟩ := lp_cap2 (F := fun i τ => si_sem gP nX9_unwindAll 58 [.ref 29, .int m, .int (nI x), .int (nI i)] [] τ) (G := List.range x) (f := trI m x) (R := fun τ S => (∃ C, Cp τ C ∧ Gok C.1 ∧ Req C S) ∧ KeepM mF mS σ τ) (fun S y h => trI_fl h) (fun i τ S hi hR hf0 => by
      obtain ⟨⟨C, r2, r3, r5⟩, r4⟩ := hR
      have hi : i < x := by simpa using hi
      have e := r5.eq hf0
      subst e
      rw [List.getElem_range]
      try dsimp only
      rw [h_X9_unwindAll_58, cF (nI_ge hi (by omega)), r2.2.1, bn, hf0, cond_false, ssh1 m (show i < 32 by omega), bo, nI_add]
      unfold trI
      cases hb : bt m i with
      | false => rw [cond_false]; exact ⟨τ, rfl, ⟨C, r2, r3, Req.rf _⟩, r4⟩
      | true =>
        obtain ⟨τ', S2, a1, a2, a3, a4, a5⟩ := s_X9_tell r2 hf0 r3 hx (show i < 16 by omega)
        rw [cond_true, a1, cv_s]
        exact ⟨τ', rfl, ⟨S2, a2, a3, a4⟩, r4.tr a5⟩) (fun i τ S hi hR ht => by
      obtain ⟨⟨C, r2, r3, r5⟩, r4⟩ := hR
      have hi : i < x := by simpa using hi
      try dsimp only
      rw [List.length_range]
      have eL : si_sem gP nX9_unwindAll 58 [.ref 29, .int m, .int (nI x), .int (nI i)] [] τ = si_sem gP nX9_unwindAll 34 [.ref 29, .int m, .int (nI (x + 1)), si_U] [] τ := by rw [h_X9_unwindAll_58, cF (nI_ge hi (by omega)), r2.2.1, r5.1, ht, bn, cond_true, bn, cond_true, nI_add]
      have eR : si_sem gP nX9_unwindAll 58 [.ref 29, .int m, .int (nI x), .int (nI x)] [] τ = si_sem gP nX9_unwindAll 34 [.ref 29, .int m, .int (nI (x + 1)), si_U] [] τ := by rw [h_X9_unwindAll_58, cT (nI_le (Nat.le_refl _) (by omega)), r2.2.1, r5.1, ht, bn, cond_true, nI_add]
      exact eL.trans eR.symm) τ S ⟨⟨C, q1, q2, q3⟩, q4⟩
    obtain ⟨⟨C1, r2, r3, r5⟩, r4⟩ := c2
    have hr := r5.tr c3
    try dsimp only at c1
    rw [c1, List.length_range, h_X9_unwindAll_58, cT (nI_le (Nat.le_refl _) (by omega)), r2.2.1, bn, nI_add]
    unfold trF
    cases hS : C1.2 with
    | true =>
      have h9 : ((List.range x).foldl (trI m x) S).2 = true := hr.1.symm.trans hS
      refine ⟨τ1, C1, rfl, r2, r3, ?_, r4⟩
      rw [tuF_fl h9]
      exact hr
    | false =>
      have e := hr.eq (hr.1.symm.trans hS)
      obtain ⟨τ', S2, a1, a2, a3, a4, a5⟩ := s_X9_unwind r2 hS r3 hx
      rw [cond_false, a1, cv_s]
      rw [e] at a4
      exact ⟨τ', S2, rfl, a2, a3, a4, r4.tr a5⟩


  obtain ⟨τ, S1, c1, c2, c3⟩ := lp_cap (F := fun i τ => si_sem gP nX9_unwindAll 34 [.ref 29, .int m, .int (nI i), si_U] [] τ) (G := List.range 16) (f := lrI m) (R := fun τ S => (∃ C, Cp τ C ∧ Gok C.1 ∧ Req C S) ∧ KeepM mF mS σ τ) (fun S y h => lrI_fl h) (fun i τ S hi hR hf0 => by
    obtain ⟨⟨C, r2, r3, r5⟩, r4⟩ := hR
    have hi : i < 16 := by simpa using hi
    rw [List.getElem_range]
    try dsimp only
    rw [h_X9_unwindAll_34, cF (nI_ge hi (by decide)), r2.2.1, r5.1, bn, hf0, cond_false, ssh1 m (show i < 32 by omega), bo, nI_add]
    unfold lrI
    cases hb : bt m i with
    | false => rw [cond_false]; exact ⟨τ, rfl, ⟨C, r2, r3, r5⟩, r4⟩
    | true =>
      obtain ⟨τ', S2, a1, a2, a3, a4, a5⟩ := inner i hi τ S C r2 r3 r5 r4
      rw [cond_true, a1]
      exact ⟨τ', rfl, ⟨S2, a2, a3, a4⟩, a5⟩) (fun i τ S hi hR ht => by
    obtain ⟨⟨C, r2, r3, r5⟩, r4⟩ := hR
    have hi : i < 16 := by simpa using hi
    try dsimp only
    rw [h_X9_unwindAll_34, cF (nI_ge hi (by decide)), r2.2.1, r5.1, bn, ht, cond_true]) (fun τ S hR => by
    try dsimp only
    rw [List.length_range, h_X9_unwindAll_34, cT (nI_le (Nat.le_refl _) (by decide))]) σ (G, false) ⟨⟨_, hc, hG, Req.rf _⟩, KeepM.rf⟩
  obtain ⟨⟨C, r2, r3, r5⟩, r4⟩ := c2
  refine ⟨τ, C, c1, r2, r3, ?_, r4⟩
  exact r5.tr c3
