/-! leftRecursiveSet; isChomsky; isGreibach; empty productions, cycles of units -/
theorem or_assoc' (a b c : Int32) : a ||| b ||| c = a ||| (b ||| c) := Int32.or_assoc a b c
theorem les_or (x : Int32) : ∀ (w : List Nat) (s t : Int32), les x w (s ||| t) = s ||| les x w t := by
  intro w
  induction w with
  | nil => intro s t; rfl
  | cons a w ih =>
    intro s t
    simp only [les]
    split
    · split
      · rw [or_assoc', ih]
      · rw [or_assoc']
    · rfl
theorem upd_at (L : Nat → Int32) (k : Nat) (v : Int32) : upd L k v k = v := by simp [upd]
theorem upd_upd (L : Nat → Int32) (k : Nat) (v w : Int32) : upd (upd L k v) k w = upd L k w := by
  funext b
  simp only [upd]
  split <;> rfl
theorem l_X9_recursives_24 {σ : si_M} {G : List PR} (h2 : Row (σ.2 30) G) (hG : Gok G) (x : Int32) {i : Nat} (hi : i < G.length) : ∀ (d j : Nat) (L : Nat → Int32), j + d = G[i].2.length → si_sem gP nX9_recursives 24 [.ref 29, .int x, .int (nI i), .int (bI true), .int (nI j), si_U] [] (lm 40 σ L) = si_sem gP nX9_recursives 11 [.ref 29, .int x, .int (nI (i + 1)), si_U, si_U, si_U] [] (lm 40 σ (upd L G[i].1 (les x (G[i].2.drop j) (L G[i].1)))) := by
  have hl := hG.1
  have hok := hG.2.1.at hi
  have hw := hok.2.1
  have h60 : i < 60 := by omega
  have stop : ∀ (j : Nat) (L : Nat → Int32), j < 2 ^ 31 → si_sem gP nX9_recursives 24 [.ref 29, .int x, .int (nI i), .int (nI 0), .int (nI j), si_U] [] (lm 40 σ L) = si_sem gP nX9_recursives 11 [.ref 29, .int x, .int (nI (i + 1)), si_U, si_U, si_U] [] (lm 40 σ L) := by
    intro j L hj
    rw [h_X9_recursives_24, inT h60 (by decide), nI_clamp (by omega), lm_2, h2.at hi, s_X9_at hok hj, ci_s, nI_add, cT rfl]
    cases decide (nI (G[i].2.getD j 0) ≤ nI 0) <;> rfl
  intro d
  induction d with
  | zero =>
    intro j L hd
    rw [h_X9_recursives_24, inT h60 (by decide), nI_clamp (by omega), lm_2, h2.at hi, s_X9_at hok (by omega), ci_s, getD_out (by omega), cT (nI_le (Nat.le_refl 0) (by decide)), nI_add, List.drop_eq_nil_of_le (by omega)]
    simp only [les, upd_self]
  | succ d ih =>
    intro j L hd
    have hj : j < G[i].2.length := by omega
    have hp := hok.2.2 _ (List.getElem_mem hj)
    have hle := hok.1
    rw [h_X9_recursives_24, inT h60 (by decide), nI_clamp (by omega), lm_2, h2.at hi, s_X9_at hok (by omega), ci_s, gD hj, cF (nI_ge (show 0 < G[i].2[j] by omega) (by omega)), bz, cond_true, inT h60 (by decide), lm_2, h2.at hi, s_X9_at hok (by omega), ci_s, gD hj, inT h60 (by decide), lm_2, h2.at hi, s_X9_left hok, ci_s, inT hle (by decide), s_X9_isNonterminal (by omega), ci_s, bz, inT hle (by decide), inT hle (by decide), nI_clamp (by omega), lm_at hle, lm_sI hle, lm_sI hle, s_X9_isNonterminal (by omega), s_X9_isNonterminal (by omega), ci_s, ci_s, bz, bz, decide_eq_true hp.1, Bool.true_and, nI_add, List.drop_eq_getElem_cons hj]
    simp only [les]
    by_cases h16 : G[i].2[j] ≤ 16
    · rw [decide_eq_true h16, cond_true, cond_true, if_pos h16, sub1 (by omega), ssh1 x (by omega), bo]
      cases hb : bt x (G[i].2[j] - 1) with
      | false => rw [cond_false, stop _ _ (by omega), if_neg (by decide)]
      | true =>
        rw [cond_true, if_pos rfl]
        have := ih (j + 1) (upd L G[i].1 (L G[i].1 ||| si_ishl (nI 1) (nI (G[i].2[j] - 1)))) (by omega)
        rw [upd_at, upd_upd] at this
        exact this
    · rw [decide_eq_false h16, cond_false, cond_false, if_neg h16, or0', upd_self, stop _ _ (by omega)]
theorem s_X9_recursives {σ : si_M} {G : List PR} (h1 : σ.1 29 1 = nI G.length) (h2 : Row (σ.2 30) G) (hG : Gok G) : si_sc gP nX9_recursives [.ref 29] σ = some (some (.int (lps (clw (lrs (clo false G) G)))), lm 40 σ (clw (lrs (clo false G) G))) := by
  have hl := hG.1
  have h1' : ∀ L, (lm 40 σ L).1 29 1 = nI G.length := fun L => by rw [lm_ne (by decide)]; exact h1
  rw [e_X9_recursives, s_X9_nullables h1 h2 hG, ci_s, s_X9_clearLeads, cv_s]
  have := lp_fold' (F := fun i L => si_sem gP nX9_recursives 11 [.ref 29, .int (clo false G), .int (nI i), si_U, si_U, si_U] [] (lm 40 σ L)) (G := G) (f := fun L q => upd L q.1 (L q.1 ||| les (clo false G) q.2 (nI 0))) (fun i L hi => by
    rw [h_X9_recursives_11, h1', cF (nI_ge hi (by omega)), show nI 1 = bI true from rfl, l_X9_recursives_24 h2 hG _ hi G[i].2.length 0 L (by omega), List.drop_zero, ← les_or, or0']) Lz
  refine this.trans ?_
  rw [h_X9_recursives_11, h1', cT (nI_le (Nat.le_refl _) (by omega)), s_X9_closeLeads, cv_s, s_X9_loops, ci_s]
  rfl
theorem s_X8_leftRec {σ : si_M} {A : AS} (hA : Aok A) (h : CI σ A) : si_sc gP nX8_leftRecursiveSet [.ref 0] σ = some (some (.int (lps (clw (lrs (clo false A.2.1) A.2.1)))), lm 8 σ (clw (lrs (clo false A.2.1) A.2.1))) := by
  rw [e_X8_leftRecursiveSet, s_X2_nullable (by decide) h.2.2.1 hA.2.1, ci_s, s_X1_followLeftEnds h.2.2.1 hA.2.1 (low_clo false hA.2.1.2.1), cv_s, s_X1_loops, ci_s]
theorem fact_leftRecursiveSet (σ : si_M) (h : gI σ) : ∃ (r : Int32) (σ1 σ2 : si_M), si_sc gP nX8_leftRecursiveSet (.ref 0 :: []) σ = some (some (.int r), σ1) ∧ si_sc gP nX9_leftRecursiveSet (.ref 29 :: []) σ1 = some (some (.int r), σ2) ∧ gI σ2 := by
  refine fact_i h (fun A => lps (clw (lrs (clo false A.2.1) A.2.1))) id (fun A h => h) (fun A σ hA h => ⟨_, s_X8_leftRec hA h, h.lm _, KC.lm σ _⟩) (fun A σ hA h => ⟨lm 40 σ (clw (lrs (clo false A.2.1) A.2.1)), ?_, h.lm _, KM.lm σ _⟩)
  rw [e_X9_leftRecursiveSet, s_X9_recursives h.2.2.1 h.2.2.2.1 hA.2.1, ci_s]
-- empty productions, cycles
def emB (q : PR) : Bool := decide (q.2.length = 0)
theorem s_X2_hasEmpty {σ : si_M} {S : List PR × Bool} (hm : Gm σ 3 S) (hG : Gok S.1) : si_sc gP nX2_hasEmpty [.ref 3] σ = some (some (.int (bI (S.1.any emB))), σ) := by
  have hl := hG.1
  rw [e_X2_hasEmpty]
  have := lp_any (F := fun i => si_sem gP nX2_hasEmpty 2 [.ref 3, .int (nI i)] [] σ) (G := S.1) (p := emB) (X := some (some (.int (nI 1)), σ)) (Y := some (some (.int (nI 0)), σ)) (fun i hi => by
    have hok := hG.2.1.at hi
    have hw := hok.2.1
    rw [h_X2_hasEmpty_2, hm.1, cF (nI_ge hi (by omega)), inT (by omega) (by decide), nI_clamp (by omega), show (4 : Nat) = 3 + 1 from rfl, hm.2.2.at hi, s_X5_length hok, ci_s, nI_add]
    unfold emB
    by_cases h0 : S.1[i].2.length = 0
    · rw [nF (by rw [h0]), decide_eq_true h0, cond_true]
    · rw [nT (nI_eqF h0 (by omega) (by decide)), decide_eq_false h0, cond_false]) (by
    rw [h_X2_hasEmpty_2, hm.1, cT (nI_le (Nat.le_refl _) (by omega))]) 0 (Nat.zero_le _)
  refine this.trans ?_
  rw [List.drop_zero]
  cases S.1.any emB <;> rfl
theorem s_X2_hasUnit {σ : si_M} {S : List PR × Bool} (hm : Gm σ 3 S) (hG : Gok S.1) : si_sc gP nX2_hasUnit [.ref 3] σ = some (some (.int (bI (S.1.any unB))), σ) := by
  have hl := hG.1
  rw [e_X2_hasUnit]
  have := lp_any (F := fun i => si_sem gP nX2_hasUnit 2 [.ref 3, .int (nI i)] [] σ) (G := S.1) (p := unB) (X := some (some (.int (nI 1)), σ)) (Y := some (some (.int (nI 0)), σ)) (fun i hi => by
    have hok := hG.2.1.at hi
    rw [h_X2_hasUnit_2, hm.1, cF (nI_ge hi (by omega)), inT (by omega) (by decide), nI_clamp (by omega), show (4 : Nat) = 3 + 1 from rfl, hm.2.2.at hi, s_X5_isUnit hok, ci_s, bz, nI_add]) (by
    rw [h_X2_hasUnit_2, hm.1, cT (nI_le (Nat.le_refl _) (by omega))]) 0 (Nat.zero_le _)
  refine this.trans ?_
  rw [List.drop_zero]
  cases S.1.any unB <;> rfl
/-- a loop of the model that only turns a truth once: found stays found -/
theorem lp_or {β : Type} {F : Nat → Bool → Option si_O} {G : List β} {p : β → Bool} (hs : ∀ i b (hi : i < G.length), F i b = F (i + 1) (b || p G[i])) : F 0 false = F G.length (G.any p) := by
  have := lp_fold' (F := F) (G := G) (f := fun b q => b || p q) hs false
  rw [this]
  congr 1
  have : ∀ (l : List β) (b : Bool), l.foldl (fun b q => b || p q) b = (b || l.any p) := by
    intro l
    induction l with
    | nil => intro b; simp
    | cons a l ih => intro b; rw [List.foldl_cons, ih, List.any_cons, Bool.or_assoc]
  rw [this, Bool.false_or]
theorem lp_and {β : Type} {F : Nat → Bool → Option si_O} {G : List β} {p : β → Bool} (hs : ∀ i b (hi : i < G.length), F i b = F (i + 1) (b && p G[i])) : F 0 true = F G.length (G.all p) := by
  have := lp_fold' (F := F) (G := G) (f := fun b q => b && p q) hs true
  rw [this]
  congr 1
  have : ∀ (l : List β) (b : Bool), l.foldl (fun b q => b && p q) b = (b && l.all p) := by
    intro l
    induction l with
    | nil => intro b; simp
    | cons a l ih => intro b; rw [List.foldl_cons, ih, List.all_cons, Bool.and_assoc]
  rw [this, Bool.true_and]
theorem getD31 {q : PR} (h : okp q) (i : Nat) : q.2.getD i 0 ≤ 24 := by
  by_cases hi : i < q.2.length
  · exact (getD_pos h.2 hi).2
  · rw [getD_out (by omega)]; omega
theorem s_X9_isEmpty {q : PR} (h : okp q) (σ : si_M) : si_sc gP nX9_isEmpty [.long (lN (en q))] σ = some (some (.int (bI (emB q))), σ) := by
  have h31 := getD31 h 0
  rw [e_X9_isEmpty, s_X9_at h (by decide), ci_s]
  unfold emB
  by_cases h0 : q.2.length = 0
  · rw [getD_out (by omega), nF rfl, decide_eq_true h0]; rfl
  · have := getD_pos h.2 (show 0 < q.2.length by omega)
    rw [nT (nI_eqF (by omega) (by omega) (by decide)), decide_eq_false h0]; rfl
theorem s_X9_hasEmpty {σ : si_M} {G : List PR} (h1 : σ.1 29 1 = nI G.length) (h2 : Row (σ.2 30) G) (hG : Gok G) : si_sc gP nX9_hasEmpty [.ref 29] σ = some (some (.int (bI (G.any emB))), σ) := by
  have hl := hG.1
  rw [e_X9_hasEmpty]
  refine (lp_or (F := fun i b => si_sem gP nX9_hasEmpty 4 [.ref 29, .int (bI b), .int (nI i)] [] σ) (G := G) (p := emB) (fun i b hi => ?_)).trans ?_
  · have hok := hG.2.1.at hi
    rw [h_X9_hasEmpty_4, h1, cF (nI_ge hi (by omega)), bn, nI_add, inT (by omega) (by decide), nI_clamp (by omega), h2.at hi, s_X9_isEmpty hok, ci_s, bz]
    cases b <;> cases emB G[i] <;> rfl
  · rw [h_X9_hasEmpty_4, h1, cT (nI_le (Nat.le_refl _) (by omega)), bI_and]
theorem s_X9_hasUnit {σ : si_M} {G : List PR} (h1 : σ.1 29 1 = nI G.length) (h2 : Row (σ.2 30) G) (hG : Gok G) : si_sc gP nX9_hasUnit [.ref 29] σ = some (some (.int (bI (G.any unB))), σ) := by
  have hl := hG.1
  rw [e_X9_hasUnit]
  refine (lp_or (F := fun i b => si_sem gP nX9_hasUnit 4 [.ref 29, .int (bI b), .int (nI i)] [] σ) (G := G) (p := unB) (fun i b hi => ?_)).trans ?_
  · have hok := hG.2.1.at hi
    rw [h_X9_hasUnit_4, h1, cF (nI_ge hi (by omega)), bn, nI_add, inT (by omega) (by decide), nI_clamp (by omega), h2.at hi, s_X9_isUnit hok, ci_s, bz]
    cases b <;> cases unB G[i] <;> rfl
  · rw [h_X9_hasUnit_4, h1, cT (nI_le (Nat.le_refl _) (by omega)), bI_and]
/-- a cycle of units -/
def cyB (G : List PR) : Bool := !decide (lps (clw (uns G)) = nI 0)
theorem s_X8_isEndless {σ : si_M} {A : AS} (hA : Aok A) (h : CI σ A) : ∃ τ, si_sc gP nX8_isEndless [.ref 0] σ = some (some (.int (bI (A.2.1.any emB || cyB A.2.1))), τ) ∧ CI τ A ∧ KC σ τ := by
  rw [e_X8_isEndless, s_X2_hasEmpty h.2.2.1 hA.2.1, ci_s, bz]
  cases hb : A.2.1.any emB with
  | true => exact ⟨σ, rfl, h, KC.rf⟩
  | false =>
    rw [cond_false, s_X1_followUnits (by decide) h.2.2.1 hA.2.1, cv_s, s_X1_loops, ci_s, Bool.false_or]
    refine ⟨lm 8 σ (clw (uns A.2.1)), ?_, h.lm _, KC.lm σ _⟩
    unfold cyB
    by_cases h0 : lps (clw (uns A.2.1)) = nI 0
    · rw [cT h0, decide_eq_true h0]; rfl
    · rw [cF h0, decide_eq_false h0]; rfl
theorem s_X9_hasUnitCycle {σ : si_M} {A : AS} (hA : Aok A) (h : MI σ A) : si_sc gP nX9_hasUnitCycle [.ref 29] σ = some (some (.int (bI (cyB A.2.1))), lm 40 σ (clw (uns A.2.1))) := by
  rw [e_X9_hasUnitCycle, s_X9_layUnits h.2.2.1 h.2.2.2.1 hA.2.1, cv_s, s_X9_loops, ci_s]
  unfold cyB
  by_cases h0 : lps (clw (uns A.2.1)) = nI 0
  · rw [cT h0, decide_eq_true h0]; rfl
  · rw [cF h0, decide_eq_false h0]; rfl
