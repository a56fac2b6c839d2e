/-! the model's row; the free nonterminal of both -/
def Rw (σ : si_M) (w : List Nat) : Prop := σ.1 29 14 = nI w.length ∧ ∀ j (hj : j < w.length), σ.1 34 j = nI w[j]
theorem Rw.of {σ τ : si_M} {w : List Nat} {F Z : List Nat} (h : Rw σ w) (hk : KeepM F Z σ τ) (h1 : 14 ∉ F) (h2 : 34 ∉ Z) : Rw τ w := ⟨by rw [(hk.2 14 h1).1]; exact h.1, fun j hj => by rw [(hk.1 34 (by decide) h2).1]; exact h.2 j hj⟩
theorem Rw.nil (σ : si_M) : Rw (si_sI σ 29 14 (nI 0)) [] := ⟨sI_same _ _ _ _, fun j hj => by simp at hj⟩
theorem Rw.snoc {σ : si_M} {w : List Nat} (h : Rw σ w) (a : Nat) : Rw (si_sI (si_sI σ 34 w.length (nI a)) 29 14 (nI (w.length + 1))) (w ++ [a]) := by
  refine ⟨by rw [sI_same]; simp, fun j hj => ?_⟩
  rw [sI_ne _ _ _ (by decide)]
  by_cases e : j = w.length
  · subst e
    rw [sI_same]
    simp
  · have hlt : j < w.length := by simp at hj; omega
    rw [sI_nj _ 34 _ e, h.2 j hlt, List.getElem_append_left hlt]
theorem s_X9_addRow {q : PR} (hq : okp q) {f t : Nat} (hft : f ≤ t) (ht : t ≤ q.2.length) : ∀ {σ : si_M} {w : List Nat}, Rw σ w → w.length ≤ 16 → ∃ τ, si_sc gP nX9_addRow [.ref 29, .long (lN (en q)), .int (nI f), .int (nI t)] σ = some (none, τ) ∧ Rw τ (w ++ (q.2.take t).drop f) ∧ KeepM [14] [34] σ τ := by
  have hw8 := hq.2.1
  have key : ∀ (d f : Nat) (σ : si_M) (w : List Nat), f + d = t → Rw σ w → w.length + d ≤ 24 → ∃ τ, si_sem gP nX9_addRow 3 [.ref 29, .long (lN (en q)), si_U, si_U, .int (nI t), .int (nI f)] [] σ = some (none, τ) ∧ Rw τ (w ++ (q.2.take t).drop f) ∧ KeepM [14] [34] σ τ := by
    intro d
    induction d with
    | zero =>
      intro f σ w hd hr _
      rw [h_X9_addRow_3, cT (nI_le (show t ≤ f by omega) (by omega)), List.drop_eq_nil_of_le (by rw [List.length_take]; omega), List.append_nil]
      exact ⟨σ, rfl, hr, KeepM.rf⟩
    | succ d ih =>
      intro f σ w hd hr hw
      have hf : f < q.2.length := by omega
      have hf2 : f < (q.2.take t).length := by rw [List.length_take]; omega
      obtain ⟨τ, t1, t2, t3⟩ := ih (f + 1) _ (w ++ [q.2[f]]) (by omega) (hr.snoc q.2[f]) (by simp; omega)
      rw [h_X9_addRow_3, cF (nI_ge (show f < t by omega) (by omega)), s_X9_at hq (by omega), ci_s, hr.1, inT (show w.length < 32 by omega) (by decide), nI_add, nI_add, nI_clamp (by omega), gD hf, t1]
      refine ⟨τ, rfl, ?_, ((KeepM.cI σ (by decide) (by decide) _ _).tr (KeepM.sI _ (by decide) _)).tr t3⟩
      rw [List.drop_eq_getElem_cons hf2, List.getElem_take]
      rw [List.append_assoc] at t2
      exact t2
  intro σ w hr hw
  rw [e_X9_addRow]
  exact key (t - f) f σ w (by omega) hr (by omega)
def rowP (x : Nat) (w : List Nat) : Option PR := if w.length ≤ 8 then some (x, w) else none
theorem rowP_ok {x : Nat} {w : List Nat} (hx : x < 16) (hw : ∀ a ∈ w, 1 ≤ a ∧ a ≤ 24) : ∀ p, rowP x w = some p → okp p := by
  intro p hp
  unfold rowP at hp
  split at hp
  · cases hp
    exact ⟨hx, by assumption, hw⟩
  · cases hp
theorem s_X9_putRow {σ : si_M} {S : List PR × Bool} {w : List Nat} (hr : Rw σ w) (hl : w.length ≤ 24) (hw : ∀ a ∈ w, 1 ≤ a ∧ a ≤ 24) (hn : Nx σ S) (hG : Gok S.1) {x : Nat} (hx : x < 16) : ∃ τ, si_sc gP nX9_putRow [.ref 29, .int (nI x)] σ = some (none, τ) ∧ Nx τ (cadd (rowP x w) S) ∧ KeepM [11, 12] [33] σ τ := by
  rw [e_X9_putRow, hr.1]
  unfold rowP
  by_cases h8 : w.length ≤ 8
  · rw [cT (nI_le h8 (by decide)), if_pos h8, i2l (by omega), lshl' (by decide), ← en_nil]
    have key : ∀ (d i : Nat), i + d = w.length → si_sem gP nX9_putRow 24 [.ref 29, si_U, .long (lN (en (x, w.take i))), si_U, .int (nI i)] [] σ = si_sem gP nX9_putRow 24 [.ref 29, si_U, .long (lN (en (x, w))), si_U, .int (nI w.length)] [] σ := by
      intro d
      induction d with
      | zero =>
        intro i hi
        have e : i = w.length := by omega
        rw [e, List.take_length]
      | succ d ih =>
        intro i hd
        have hi : i < w.length := by omega
        have hok : okp (x, w.take i) := ⟨hx, by show (w.take i).length ≤ 8; rw [List.length_take]; omega, fun a ha => hw a (List.mem_of_mem_take ha)⟩
        have hp := hw _ (List.getElem_mem hi)
        have hti : (w.take i).length = i := by rw [List.length_take]; omega
        have hex := en_ext hok hp (show (w.take i).length < 8 by omega)
        rw [show (x, w.take i).2.length = i from hti] at hex
        rw [h_X9_putRow_24, hr.1, cF (nI_ge hi (by omega)), inT (show i < 32 by omega) (by decide), nI_clamp (by omega), hr.2 i hi, i2l (by omega), sh35' (by omega), lshl' (by omega), hex, nI_add, ← ih (i + 1) (by omega), List.take_succ_eq_append_getElem hi]
    have := key w.length 0 (by omega)
    rw [List.take_zero] at this
    rw [this, h_X9_putRow_24, hr.1, cT (nI_le (Nat.le_refl _) (by omega))]
    obtain ⟨τ, t1, t2, t3⟩ := s_X9_put hn hG (p := (x, w)) ⟨hx, h8, hw⟩
    rw [t1, cv_s]
    exact ⟨τ, rfl, t2, t3⟩
  · rw [cF (nI_ge (show 8 < w.length by omega) (by omega)), if_neg h8]
    exact ⟨_, rfl, ⟨by rw [sI_nj _ 29 _ (by decide)]; exact hn.1, sI_same _ _ _ _, hn.2.2⟩, KeepM.sI σ (by decide) _⟩
-- the free nonterminal
def uB (G : List PR) (i : Nat) : Bool := decide (i = 0) || G.any (fun q => decide (q.1 = i) || q.2.any (fun a => decide (a = i + 1)))
def fre (G : List PR) : Option Nat := (List.range 16).find? (fun i => !uB G i)
theorem fre_lt {G : List PR} {z : Nat} (h : fre G = some z) : z < 16 := List.mem_range.mp (List.mem_of_find?_eq_some h)
def fI (o : Option Nat) : Int32 := match o with
  | some z => nI z
  | none => -1
theorem find_from {p : Nat → Bool} {F : Nat → Option si_O} {X : Option Nat → Option si_O} (hs : ∀ i, i < 16 → F i = cond (p i) (X (some i)) (F (i + 1))) (he : F 16 = X none) : F 0 = X ((List.range 16).find? p) := by
  have key : ∀ (d i : Nat), i + d = 16 → F i = X ((List.range' i d).find? p) := by
    intro d
    induction d with
    | zero =>
      intro i h
      have e : i = 16 := by omega
      subst e
      exact he
    | succ d ih =>
      intro i h
      rw [hs i (by omega), List.range'_succ, List.find?_cons]
      cases p i with
      | true => rfl
      | false => rw [cond_false, ih (i + 1) (by omega)]
  rw [key 16 0 rfl, List.range_eq_range']
theorem lefts_bt : ∀ (G : List PR) (s : Int32) (i : Nat), i < 16 → Oks G → bt (G.foldl (fun s q => s ||| si_ishl (nI 1) (nI q.1)) s) i = (bt s i || G.any (fun q => decide (q.1 = i))) := by
  intro G
  induction G with
  | nil => intro s i _ _; simp
  | cons q G ih =>
    intro s i hi hG
    have hq := (hG q (List.mem_cons_self ..)).1
    rw [List.foldl_cons, ih _ i hi (fun p hp => hG p (List.mem_cons_of_mem _ hp)), b_or, bt_sh (by omega) (by omega), List.any_cons, Bool.or_assoc]
    congr 2
    by_cases e : q.1 = i
    · rw [decide_eq_true e, decide_eq_true e.symm]
    · rw [decide_eq_false e, decide_eq_false (fun h => e h.symm)]
def lfS (G : List PR) : Int32 := G.foldl (fun s q => s ||| si_ishl (nI 1) (nI q.1)) (nI 0)
theorem s_X2_leftSides {σ : si_M} {S : List PR × Bool} (hm : Gm σ 25 S) (hG : Gok S.1) : si_sc gP nX2_leftSides [.ref 25] σ = some (some (.int (lfS S.1)), σ) := by
  have hl := hG.1
  rw [e_X2_leftSides]
  refine (lp_fold' (F := fun i s => si_sem gP nX2_leftSides 4 [.ref 25, .int s, .int (nI i)] [] σ) (G := S.1) (f := fun s q => s ||| si_ishl (nI 1) (nI q.1)) (fun i s hi => ?_) (nI 0)).trans ?_
  · try dsimp only
    rw [h_X2_leftSides_4, hm.1, cF (nI_ge hi (by omega)), inT (by omega) (by decide), nI_clamp (by omega), show (26 : Nat) = 25 + 1 from rfl, hm.2.2.at hi, s_X5_left (hG.2.1.at hi), ci_s, nI_add]
  · try dsimp only
    rw [h_X2_leftSides_4, hm.1, cT (nI_le (Nat.le_refl _) (by omega))]
    rfl
theorem rights_bt : ∀ (G : List PR) (s : Int32) (i : Nat), i < 16 → Oks G → bt (G.foldl (fun s q => s ||| rs q) s) i = (bt s i || G.any (fun q => q.2.any (fun a => decide (a = i + 1)))) := by
  intro G
  induction G with
  | nil => intro s i _ _; simp
  | cons q G ih =>
    intro s i hi hG
    rw [List.foldl_cons, ih _ i hi (fun p hp => hG p (List.mem_cons_of_mem _ hp)), b_or, rs_bt (hG q (List.mem_cons_self ..)) (by omega), List.any_cons, Bool.or_assoc]
theorem any_or {β : Type} (p q : β → Bool) : ∀ (l : List β), l.any (fun x => p x || q x) = (l.any p || l.any q) := by
  intro l
  induction l with
  | nil => rfl
  | cons a l ih =>
    simp only [List.any_cons, ih]
    cases p a <;> cases q a <;> cases l.any p <;> cases l.any q <;> rfl
theorem s_X2_freeNonterminal {σ : si_M} {S : List PR × Bool} (hm : Gm σ 25 S) (hG : Gok S.1) : si_sc gP nX2_freeNonterminal [.ref 25] σ = some (some (.int (fI (fre S.1))), σ) := by
  have hl := hG.1
  rw [e_X2_freeNonterminal, s_X2_leftSides hm hG, ci_s]
  refine (lp_fold' (F := fun i s => si_sem gP nX2_freeNonterminal 9 [.ref 25, .int s, .int (nI i)] [] σ) (G := S.1) (f := fun s q => s ||| rs q) (fun i s hi => ?_) (lfS S.1 ||| nI 1)).trans ?_
  · try dsimp only
    rw [h_X2_freeNonterminal_9, hm.1, cF (nI_ge hi (by omega)), inT (by omega) (by decide), nI_clamp (by omega), show (26 : Nat) = 25 + 1 from rfl, hm.2.2.at hi, s_X5_rightSet (hG.2.1.at hi), ci_s, nI_add]
  · try dsimp only
    rw [h_X2_freeNonterminal_9, hm.1, cT (nI_le (Nat.le_refl _) (by omega))]
    refine find_from (p := fun i => !uB S.1 i) (F := fun i => si_sem gP nX2_freeNonterminal 37 [si_U, .int (S.1.foldl (fun s q => s ||| rs q) (lfS S.1 ||| nI 1)), .int (nI i)] [] σ) (X := fun o => some (some (.int (fI o)), σ)) (fun i hi => ?_) ?_
    · try dsimp only
      have e : bt (S.1.foldl (fun s q => s ||| rs q) (lfS S.1 ||| nI 1)) i = uB S.1 i := by
        rw [rights_bt _ _ _ hi hG.2.1, b_or, bt1]
        unfold lfS uB
        rw [lefts_bt _ _ _ hi hG.2.1, show bt (nI 0) i = false from b_0 i, Bool.false_or, any_or]
        cases decide (i = 0) <;> cases S.1.any (fun q => decide (q.1 = i)) <;> rfl
      rw [h_X2_freeNonterminal_37, cF (nI_ge hi (by decide)), s_X8_isIn _ (by omega), ci_s, bn, nI_add, e]
      cases uB S.1 i <;> rfl
    · rw [h_X2_freeNonterminal_37, cT (nI_le (Nat.le_refl _) (by decide))]
      rfl
def us1 (s : Int32) (a : Nat) : Int32 := if a ≤ 16 then s ||| si_ishl (nI 1) (nI (a - 1)) else s
theorem us1_bt {i : Nat} (hi : i < 16) : ∀ (w : List Nat) (s : Int32), (∀ a ∈ w, 1 ≤ a ∧ a ≤ 24) → bt (w.foldl us1 s) i = (bt s i || w.any (fun a => decide (a = i + 1))) := by
  intro w
  induction w with
  | nil => intro s _; simp
  | cons a w ih =>
    intro s h
    have ha := h a (List.mem_cons_self ..)
    rw [List.foldl_cons, ih _ (fun b hb => h b (List.mem_cons_of_mem _ hb)), List.any_cons, ← Bool.or_assoc]
    congr 1
    unfold us1
    split
    · rw [b_or, bt_sh (by omega) (by omega)]
      congr 1
      by_cases e : a = i + 1
      · rw [decide_eq_true e, decide_eq_true (by omega)]
      · rw [decide_eq_false e, decide_eq_false (by omega)]
    · rw [decide_eq_false (by omega), Bool.or_false]
theorem used_bt {i : Nat} (hi : i < 16) : ∀ (G : List PR) (s : Int32), Oks G → bt (G.foldl (fun s q => q.2.foldl us1 (s ||| si_ishl (nI 1) (nI q.1))) s) i = (bt s i || G.any (fun q => decide (q.1 = i) || q.2.any (fun a => decide (a = i + 1)))) := by
  intro G
  induction G with
  | nil => intro s _; simp
  | cons q G ih =>
    intro s h
    have hq := h q (List.mem_cons_self ..)
    have hq1 := hq.1
    rw [List.foldl_cons, ih _ (fun b hb => h b (List.mem_cons_of_mem _ hb)), List.any_cons, us1_bt hi _ _ hq.2.2, b_or, bt_sh (by omega) (by omega), ← Bool.or_assoc, ← Bool.or_assoc]
    congr 3
    by_cases e : q.1 = i
    · rw [decide_eq_true e, decide_eq_true e.symm]
    · rw [decide_eq_false e, decide_eq_false (fun h => e h.symm)]
theorem s_X9_freeOne {σ : si_M} {S : List PR × Bool} (hc : Cp σ S) (hG : Gok S.1) : si_sc gP nX9_freeOne [.ref 29] σ = some (some (.int (fI (fre S.1))), match fre S.1 with | some _ => σ | none => si_sI σ 29 27 (nI 1)) := by
  have hl := hG.1
  rw [e_X9_freeOne]
  have word : ∀ (i : Nat) (hi : i < S.1.length) (d j : Nat) (s : Int32), j + d = S.1[i].2.length → si_sem gP nX9_freeOne 28 [.ref 29, .int s, .int (nI i), .int (nI j)] [] σ = si_sem gP nX9_freeOne 4 [.ref 29, .int ((S.1[i].2.drop j).foldl us1 s), .int (nI (i + 1)), si_U] [] σ := by
    intro i hi d
    have hok := hG.2.1.at hi
    have hw := hok.2.1
    induction d with
    | zero =>
      intro j s hd
      rw [h_X9_freeOne_28, inT (by omega) (by decide), nI_clamp (by omega), hc.2.2.at hi, s_X9_at hok (by omega), ci_s, getD_out (by omega), cT (nI_le (Nat.le_refl 0) (by decide)), nI_add, List.drop_eq_nil_of_le (by omega)]
      rfl
    | succ d ih =>
      intro j s hd
      have hj : j < S.1[i].2.length := by omega
      have hp := hok.2.2 _ (List.getElem_mem hj)
      have atj : ∀ (σ : si_M), si_sc gP nX9_at [.long (lN (en S.1[i])), .int (nI j)] σ = some (some (.int (nI S.1[i].2[j])), σ) := fun σ => by rw [s_X9_at hok (by omega), gD hj]
      rw [h_X9_freeOne_28, inT (by omega) (by decide), nI_clamp (by omega), hc.2.2.at hi, atj, ci_s, cF (nI_ge (show 0 < S.1[i].2[j] by omega) (by omega)), inT (by omega) (by decide), hc.2.2.at hi, atj, ci_s, s_X9_isNonterminal (by omega), ci_s, bz, inT (by omega) (by decide), hc.2.2.at hi, atj, ci_s, sub1 (by omega), nI_add, decide_eq_true hp.1, Bool.true_and, or0', List.drop_eq_getElem_cons hj, List.foldl_cons, ih _ _ (by omega), ih _ _ (by omega)]
      unfold us1
      by_cases h16 : S.1[i].2[j] ≤ 16
      · rw [decide_eq_true h16, if_pos h16]; rfl
      · rw [decide_eq_false h16, if_neg h16]; rfl
  refine (lp_fold' (F := fun i s => si_sem gP nX9_freeOne 4 [.ref 29, .int s, .int (nI i), si_U] [] σ) (G := S.1) (f := fun s q => q.2.foldl us1 (s ||| si_ishl (nI 1) (nI q.1))) (fun i s hi => ?_) (nI 1)).trans ?_
  · try dsimp only
    rw [h_X9_freeOne_4, hc.1, cF (nI_ge hi (by omega)), inT (by omega) (by decide), nI_clamp (by omega), hc.2.2.at hi, s_X9_left (hG.2.1.at hi), ci_s, word i hi S.1[i].2.length 0 _ (by omega), List.drop_zero]
  · try dsimp only
    rw [h_X9_freeOne_4, hc.1, cT (nI_le (Nat.le_refl _) (by omega))]
    refine find_from (p := fun i => !uB S.1 i) (F := fun i => si_sem gP nX9_freeOne 92 [.ref 29, .int (S.1.foldl (fun s q => q.2.foldl us1 (s ||| si_ishl (nI 1) (nI q.1))) (nI 1)), .int (nI i), si_U] [] σ) (X := fun o => some (some (.int (fI o)), match o with | some _ => σ | none => si_sI σ 29 27 (nI 1))) (fun i hi => ?_) ?_
    · try dsimp only
      have e : bt (S.1.foldl (fun s q => q.2.foldl us1 (s ||| si_ishl (nI 1) (nI q.1))) (nI 1)) i = uB S.1 i := by
        rw [used_bt hi _ _ hG.2.1, bt1]
        rfl
      rw [h_X9_freeOne_92, cF (nI_ge hi (by decide)), ssh1 _ (by omega), bn, nI_add, e]
      cases uB S.1 i <;> rfl
    · rw [h_X9_freeOne_92, cT (nI_le (Nat.le_refl _) (by decide))]
      rfl
