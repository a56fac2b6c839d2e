/-! names for terminals (both normal forms) -/
def mst (f t : Nat) (q : PR) : Bool := decide (1 < q.2.length) && (q.2.drop f).any (fun a => decide (a = t))
def vlq (f t z : Nat) (q : PR) : PR := (q.1, if 1 < q.2.length then rnm t f (z + 1) 0 q.2 else q.2)
def vlF (f t : Nat) (S : List PR × Bool) : List PR × Bool := if S.2 then S else if S.1.any (mst f t) then (match fre S.1 with
  | none => (S.1, true)
  | some z => addall (S.1.map (fun q => some (vlq f t z q)) ++ [some (z, [t])]) ([], false)) else S
def vlA (f : Nat) (S : List PR × Bool) : List PR × Bool := (List.range 8).foldl (fun S i => vlF f (17 + i) S) S
theorem vlq_ok {f t z : Nat} {q : PR} (h : okp q) (hz : z < 16) : okp (vlq f t z q) := by
  unfold vlq
  split
  · exact okp_rnm h t f ⟨by omega, by omega⟩
  · exact h
theorem okp_one {z t : Nat} (hz : z < 16) (ht : 1 ≤ t ∧ t ≤ 24) : okp (z, [t]) := ⟨hz, by simp, fun a ha => by rw [List.mem_singleton.mp ha]; exact ht⟩
theorem vl_ook {f t z : Nat} {G : List PR} (hG : Oks G) (hz : z < 16) (ht : 1 ≤ t ∧ t ≤ 24) : Ook (G.map (fun q => some (vlq f t z q)) ++ [some (z, [t])]) := by
  intro o ho p hp
  rcases List.mem_append.mp ho with h | h
  · obtain ⟨q, hq, e⟩ := List.mem_map.mp h
    rw [hp] at e
    rw [← Option.some.inj e]
    exact vlq_ok (hG q hq) hz
  · rw [hp] at h
    rw [Option.some.inj (List.mem_singleton.mp h)]
    exact okp_one hz ht
theorem vlF_ok {f t : Nat} {S : List PR × Bool} (hS : Gok S.1) (ht : 1 ≤ t ∧ t ≤ 24) : Gok (vlF f t S).1 := by
  unfold vlF
  split
  · exact hS
  · split
    · split
      · exact hS
      · rename_i z hz
        exact addall_ok _ (vl_ook hS.2.1 (fre_lt hz) ht) Gok.nil
    · exact hS
theorem vlF_fl {f t : Nat} {S : List PR × Bool} (h : S.2 = true) : vlF f t S = S := by
  unfold vlF
  rw [if_pos h]
theorem vlA_ok {f : Nat} {S : List PR × Bool} (hS : Gok S.1) : Gok (vlA f S).1 := fold_inv (P := fun S : List PR × Bool => Gok S.1) (List.range 8) S (fun S i hi h => vlF_ok h ⟨by omega, by have := List.mem_range.mp hi; omega⟩) hS
theorem vlA_fl {f : Nat} {S : List PR × Bool} (h : S.2 = true) : (vlA f S).2 = true := fold_inv (P := fun S : List PR × Bool => S.2 = true) (List.range 8) S (fun S i _ h => by rw [vlF_fl h]; exact h) h
theorem Req.lift {F : (List PR × Bool) → (List PR × Bool)} (hF : ∀ S, S.2 = true → (F S).2 = true) {S T : List PR × Bool} (h : Req S T) : Req (F S) (F T) := by
  cases hT : T.2 with
  | true => exact Req.of_true (hF S (h.1.trans hT)) (hF T hT)
  | false => rw [h.eq hT]; exact Req.rf _
theorem fold_map (g : PR → PR) (l : List PR) (S : List PR × Bool) : l.foldl (fun T q => cadd (some (g q)) T) S = addall (l.map (fun q => some (g q))) S := by
  unfold addall
  rw [List.foldl_map]
-- the class
theorem s_X7_occursInLong {σ : si_M} {S : List PR × Bool} (hm : Gm σ 25 S) (hG : Gok S.1) {f t : Nat} (hf : f ≤ 1) (ht : 1 ≤ t ∧ t ≤ 24) : si_sc gP nX7_occursInLong [.ref 24, .int (nI (t - 1)), .int (nI f)] σ = some (some (.int (bI (S.1.any (mst f t)))), σ) := by
  have hl := hG.1
  have word : ∀ (i : Nat) (hi : i < S.1.length) (d k : Nat), k + d = S.1[i].2.length ∨ (d = 0 ∧ S.1[i].2.length ≤ k ∧ k ≤ 1) → si_sem gP nX7_occursInLong 33 [.ref 24, .int (nI (t - 1)), .int (nI f), .int (nI i), .long (lN (en S.1[i])), si_U, .int (nI S.1[i].2.length), .int (nI k)] [] σ = cond (decide (1 < S.1[i].2.length) && (S.1[i].2.drop k).any (fun a => decide (a = t))) (some (some (.int (nI 1)), σ)) (si_sem gP nX7_occursInLong 2 [.ref 24, .int (nI (t - 1)), .int (nI f), .int (nI (i + 1)), si_U, si_U, si_U, si_U] [] σ) := by
    intro i hi d
    have hok := hG.2.1.at hi
    have hw := hok.2.1
    induction d with
    | zero =>
      intro k hk
      have hk : S.1[i].2.length ≤ k := by omega
      rw [h_X7_occursInLong_33, List.drop_eq_nil_of_le hk, nI_add]
      simp only [List.any_nil, Bool.and_false, cond_false]
      by_cases h1 : S.1[i].2.length ≤ 1
      · rw [cT (nI_le h1 (by decide))]
      · rw [cF (nI_ge (show 1 < S.1[i].2.length by omega) (by omega)), cT (nI_le hk (by omega))]
    | succ d ih =>
      intro k hk
      have hk2 : k < S.1[i].2.length := by omega
      have hp := hok.2.2 _ (List.getElem_mem hk2)
      rw [h_X7_occursInLong_33, nI_add, nI_add]
      by_cases h1 : S.1[i].2.length ≤ 1
      · rw [cT (nI_le h1 (by decide)), decide_eq_false (show ¬ 1 < S.1[i].2.length by omega), Bool.false_and, cond_false]
      · rw [cF (nI_ge (show 1 < S.1[i].2.length by omega) (by omega)), cF (nI_ge hk2 (by omega)), s_X5_symbolAt hok (by omega), ci_s, sy_in hok hk2, gD hk2, ih (k + 1) (by omega), List.drop_eq_getElem_cons hk2, List.any_cons, decide_eq_true (show 1 < S.1[i].2.length by omega), Bool.true_and, Bool.true_and]
        by_cases e : S.1[i].2[k] = t
        · rw [nF (by rw [e]), decide_eq_true e]; rfl
        · rw [nT (nI_eqF (by omega) (by omega) (by omega)), decide_eq_false e, Bool.false_or]
  have := lp_any (F := fun i => si_sem gP nX7_occursInLong 2 [.ref 24, .int (nI (t - 1)), .int (nI f), .int (nI i), si_U, si_U, si_U, si_U] [] σ) (G := S.1) (p := mst f t) (X := some (some (.int (nI 1)), σ)) (Y := some (some (.int (nI 0)), σ)) (fun i hi => by
    try dsimp only
    have hok := hG.2.1.at hi
    rw [h_X7_occursInLong_2, e_X2_count 25 (by decide), ci_s, hm.1, cF (nI_ge hi (by omega)), s_X2_at (by decide) hm hl hi, cl_s, s_X5_length hok, ci_s]
    rcases Nat.lt_or_ge f S.1[i].2.length with h | h
    · exact word i hi (S.1[i].2.length - f) f (Or.inl (by omega))
    · exact word i hi 0 f (Or.inr ⟨rfl, h, hf⟩)) (by
    try dsimp only
    rw [h_X7_occursInLong_2, e_X2_count 25 (by decide), ci_s, hm.1, cT (nI_le (Nat.le_refl _) (by omega))]) 0 (Nat.zero_le _)
  rw [e_X7_occursInLong]
  refine Eq.trans this ?_
  rw [List.drop_zero]
  cases S.1.any (mst f t) <;> rfl
theorem s_X2_refuse {σ : si_M} {S T : List PR × Bool} (hm : Gm σ 25 S) (hb : Gm σ 27 T) : ∃ τ, si_sc gP nX2_refuse [.ref 25] σ = some (none, τ) ∧ Gm τ 25 (S.1, true) ∧ Gm τ 27 T ∧ Keep csc σ τ := by
  rw [e_X2_refuse]
  exact ⟨_, rfl, ⟨by rw [sI_nj _ 25 _ (by decide)]; exact hm.1, sI_same _ _ _ _, hm.2.2⟩, hb.keep (Z := [25]) (Keep.sI σ (by decide) _ _) (by decide) (by decide), Keep.sI σ (by decide) _ _⟩
theorem s_X2_refuse' {σ : si_M} {S : List PR × Bool} (hm : Gm σ 25 S) : ∃ τ, si_sc gP nX2_refuse [.ref 25] σ = some (none, τ) ∧ Gm τ 25 (S.1, true) ∧ Keep csc σ τ := by
  rw [e_X2_refuse]
  exact ⟨_, rfl, ⟨by rw [sI_nj _ 25 _ (by decide)]; exact hm.1, sI_same _ _ _ _, hm.2.2⟩, Keep.sI σ (by decide) _ _⟩
theorem fI_ne {z : Nat} (h : z < 16) : ¬ nI z = (-1 : Int32) := fun e => m1_ne (a := z) (by omega) e.symm
theorem s_X7_nameTerminal {σ : si_M} {S : List PR × Bool} (hm : Gm σ 25 S) (hf0 : S.2 = false) (hG : Gok S.1) {f t : Nat} (hf : f ≤ 1) (ht : 1 ≤ t ∧ t ≤ 24) (ho : S.1.any (mst f t) = true) : ∃ τ, si_sc gP nX7_nameTerminal [.ref 24, .int (nI (t - 1)), .int (nI f)] σ = some (none, τ) ∧ Gm τ 25 (vlF f t S) ∧ Keep csc σ τ := by
  have hl := hG.1
  rw [e_X7_nameTerminal, s_X2_freeNonterminal hm hG, ci_s]
  unfold vlF
  rw [if_neg (by rw [hf0]; decide), if_pos ho]
  cases hfr : fre S.1 with
  | none =>
    obtain ⟨τ, a1, a2, a3⟩ := s_X2_refuse' hm
    rw [show fI none = (-1 : Int32) from rfl, nF rfl, a1, cv_s]
    exact ⟨τ, rfl, a2, a3⟩
  | some z =>
    have hz := fre_lt hfr
    obtain ⟨τ1, b1, b2, b3, b4⟩ := s_X7_beginStep hm hl
    rw [hf0] at b3
    rw [show fI (some z) = nI z from rfl, nT (fI_ne hz), b1, cv_s]
    obtain ⟨τ, c1, c2⟩ := lp_ex (F := fun i τ => si_sem gP nX7_nameTerminal 28 [.ref 24, .int (nI (t - 1)), .int (nI f), .int (nI z), .int (nI i), si_U, si_U, si_U] [] τ) (G := S.1) (f := fun T q => cadd (some (vlq f t z q)) T) (R := fun τ T => Gm τ 27 S ∧ Gm τ 25 T ∧ Gok T.1 ∧ Keep csc σ τ) (fun i τ T hi hR => by
      obtain ⟨r1, r2, r3, r4⟩ := hR
      have hok := hG.2.1.at hi
      have hvo : okp (vlq f t z S.1[i]) := vlq_ok hok hz
      obtain ⟨τ', a1, a2, a3, a4⟩ := s_X2_add25 r2 r1 r3 (o := some (vlq f t z S.1[i])) (fun p hp => by cases hp; exact hvo)
      refine ⟨τ', ?_, a3, a2, cadd_some_ok r3 hvo, r4.tr a4⟩
      try dsimp only
      rw [h_X7_nameTerminal_28, e_X2_count 27 (by decide), ci_s, r1.1, cF (nI_ge hi (by omega)), s_X2_at (by decide) r1 hl hi, cl_s, s_X5_length hok, ci_s, d00, cond_true, d10, cond_false, nI_add]
      by_cases h1 : S.1[i].2.length ≤ 1
      · have e : vlq f t z S.1[i] = S.1[i] := by unfold vlq; rw [if_neg (by omega)]
        rw [e] at a1
        rw [cT (nI_le h1 (by decide)), show lN (en S.1[i]) = pv (some S.1[i]) from rfl, a1, cv_s]
      · have e : vlq f t z S.1[i] = (S.1[i].1, rnm t f (z + 1) 0 S.1[i].2) := by unfold vlq; rw [if_pos (by omega)]
        have hrn := s_X5_renamed (t := t) (f := f) (z := z + 1) hok ht (by omega) ⟨by omega, by omega⟩ τ
        rw [show z + 1 - 1 = z from rfl] at hrn
        rw [e] at a1
        rw [cF (nI_ge (show 1 < S.1[i].2.length by omega) (by have := hok.2.1; omega)), hrn, cl_s, show lN (en (S.1[i].1, rnm t f (z + 1) 0 S.1[i].2)) = pv (some (S.1[i].1, rnm t f (z + 1) 0 S.1[i].2)) from rfl, a1, cv_s]) τ1 ([], false) ⟨b2, b3, Gok.nil, b4⟩
    obtain ⟨r1, r2, r3, r4⟩ := c2
    rw [fold_map (fun q => vlq f t z q)] at r2 r3
    have hone := okp_one (t := t) hz ht
    obtain ⟨τ', a1, a2, a3, a4⟩ := s_X2_add25 r2 r1 r3 (o := some (z, [t])) (fun p hp => by cases hp; exact hone)
    have hex := s_X5_extended (a := t) (okp_nil hz) ht τ
    have e1 : ext (z, []) t = some (z, [t]) := rfl
    rw [e1] at hex
    refine ⟨τ', ?_, ?_, r4.tr a4⟩
    · refine Eq.trans c1 ?_
      try dsimp only
      rw [h_X7_nameTerminal_28, e_X2_count 27 (by decide), ci_s, r1.1, cT (nI_le (Nat.le_refl _) (by omega)), s_X5_withoutRight hz, cl_s, hex, cl_s, a1, cv_s]
    · try dsimp only
      rw [addall_app]
      exact a2
theorem s_X7_nameTerminals {σ : si_M} {S : List PR × Bool} (hm : Gm σ 25 S) (hG : Gok S.1) {f : Nat} (hf : f ≤ 1) : ∃ τ S', si_sc gP nX7_nameTerminals [.ref 24, .int (nI f)] σ = some (none, τ) ∧ Gm τ 25 S' ∧ Gok S'.1 ∧ Req S' (vlA f S) ∧ Keep csc σ τ := by
  rw [e_X7_nameTerminals]
  obtain ⟨τ, S', c1, c2, c3⟩ := lp_cap (F := fun i τ => si_sem gP nX7_nameTerminals 3 [.ref 24, .int (nI f), .int (nI (16 + i))] [] τ) (G := List.range 8) (f := fun S i => vlF f (17 + i) S) (R := fun τ S => Gm τ 25 S ∧ Gok S.1 ∧ Keep csc σ τ) (fun S i h => by rw [vlF_fl h]; exact h) (fun i τ S hi hR hf0 => by
    obtain ⟨r2, r3, r4⟩ := hR
    have hi : i < 8 := by simpa using hi
    have ht : 1 ≤ 17 + i ∧ 17 + i ≤ 24 := ⟨by omega, by omega⟩
    have hoc := s_X7_occursInLong r2 r3 hf ht
    rw [show 17 + i - 1 = 16 + i by omega] at hoc
    rw [List.getElem_range]
    try dsimp only
    rw [h_X7_nameTerminals_3, cF (nI_ge (show 16 + i < 24 by omega) (by decide)), s_X2_isTooLarge r2, ci_s, bn, hf0, cond_false, hoc, ci_s, bz, nI_add]
    cases hb : S.1.any (mst f (17 + i)) with
    | false =>
      rw [cond_false]
      refine ⟨τ, rfl, ?_⟩
      have e : vlF f (17 + i) S = S := by unfold vlF; rw [hf0, hb, if_neg (by decide), if_neg (by decide)]
      rw [e]
      exact ⟨r2, r3, r4⟩
    | true =>
      obtain ⟨τ', a1, a2, a3⟩ := s_X7_nameTerminal r2 hf0 r3 hf ht hb
      rw [show 17 + i - 1 = 16 + i by omega] at a1
      rw [cond_true, a1, cv_s]
      exact ⟨τ', rfl, a2, vlF_ok r3 ht, r4.tr a3⟩) (fun i τ S hi hR ht => by
    obtain ⟨r2, r3, r4⟩ := hR
    have hi : i < 8 := by simpa using hi
    try dsimp only
    rw [h_X7_nameTerminals_3, cF (nI_ge (show 16 + i < 24 by omega) (by decide)), s_X2_isTooLarge r2, ci_s, bn, ht, cond_true]) (fun τ S hR => by
    try dsimp only
    rw [List.length_range, h_X7_nameTerminals_3, cT (nI_le (by decide) (by decide))]) σ S ⟨hm, hG, Keep.rf⟩
  obtain ⟨r2, r3, r4⟩ := c2
  exact ⟨τ, S', c1, r2, r3, c3, r4⟩
-- the model
def cf (c : Bool) : Nat := if c then 0 else 1
def mns (f t : Nat) (q : PR) (k : Nat) : Bool := decide (q.2.getD k 0 = t) && (decide (1 < q.2.length) && decide (f ≤ k))
theorem s_X9_mayNotStay {q : PR} (hq : okp q) {t : Nat} (ht : 1 ≤ t ∧ t ≤ 24) {k : Nat} (hk : k < 2 ^ 31) (c : Bool) (σ : si_M) : si_sc gP nX9_mayNotStay [.long (lN (en q)), .int (nI k), .int (nI t), .int (bI c)] σ = some (some (.int (bI (mns (cf c) t q k))), σ) := by
  have h24 := getD31 hq k
  rw [e_X9_mayNotStay, s_X9_at hq hk, ci_s]
  unfold mns
  by_cases e : q.2.getD k 0 = t
  · have hkl : k < q.2.length := by
      rcases Nat.lt_or_ge k q.2.length with h | h
      · exact h
      · rw [getD_out h] at e; omega
    rw [nF (by rw [e]), decide_eq_true e, Bool.true_and, bz]
    cases c with
    | false =>
      rw [cond_false, show cf false = 1 from rfl]
      by_cases h0 : k = 0
      · rw [h0, cT (nI_le (Nat.le_refl 0) (by decide)), decide_eq_false (show ¬ 1 ≤ 0 by omega), Bool.and_false]; rfl
      · rw [cF (nI_ge (show 0 < k by omega) hk), decide_eq_true (show 1 < q.2.length by omega), decide_eq_true (show 1 ≤ k by omega)]; rfl
    | true =>
      rw [cond_true, show cf true = 0 from rfl, s_X9_size hq, ci_s, decide_eq_true (Nat.zero_le k), Bool.and_true]
      by_cases h1 : 1 < q.2.length
      · rw [cF (nI_ge h1 (by have := hq.2.1; omega)), decide_eq_true h1]; rfl
      · rw [cT (nI_le (show q.2.length ≤ 1 by omega) (by decide)), decide_eq_false h1]; rfl
  · rw [nT (nI_eqF e (by omega) (by omega)), decide_eq_false e, Bool.false_and]; rfl
theorem mns_any {f t : Nat} (ht : 1 ≤ t) {q : PR} (hq : okp q) : (List.range' 0 8).any (mns f t q) = mst f t q := by
  have hw := hq.2.1
  rw [Bool.eq_iff_iff, List.any_eq_true]
  unfold mst mns
  simp only [Bool.and_eq_true, decide_eq_true_eq, List.any_eq_true]
  constructor
  · rintro ⟨k, _, h1, h2, h3⟩
    have hkl : k < q.2.length := by
      rcases Nat.lt_or_ge k q.2.length with h | h
      · exact h
      · rw [getD_out h] at h1; omega
    refine ⟨h2, t, ?_, rfl⟩
    rw [gD hkl] at h1
    rw [← h1, List.mem_drop_iff_getElem]
    exact ⟨k - f, by omega, by congr 1; omega⟩
  · rintro ⟨h2, a, h3, rfl⟩
    obtain ⟨i, hi, e⟩ := List.mem_drop_iff_getElem.mp h3
    refine ⟨f + i, ?_, ?_, h2, by omega⟩
    · rw [List.mem_range'_1]; omega
    · rw [gD (by omega)]; exact e
theorem rnm_if {t f z n : Nat} {w : List Nat} (j : Nat) : (if 1 < n then rnm t f z j w else w) = w ∨ 1 < n := by
  by_cases h : 1 < n
  · exact Or.inr h
  · exact Or.inl (if_neg h)
