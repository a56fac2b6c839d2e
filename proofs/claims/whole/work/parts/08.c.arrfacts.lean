/-! unitReach, leftRecursiveSet -/
theorem s_X9_isIndex (a : Int32) (σ : si_M) : si_sc gP nX9_isIndex [.int a] σ = some (some (.int (bI (decide (nI 0 ≤ a) && decide (a ≤ nI 15)))), σ) := by
  rw [e_X9_isIndex, s_X9_within, ci_s, bI_and]
theorem s_X8_isNt (a : Int32) (σ : si_M) : si_sc gP nX8_isNonterminal [.int a] σ = some (some (.int (bI (decide (nI 0 ≤ a) && decide (a ≤ nI 15)))), σ) := by
  by_cases h : a < nI 0
  · rw [e_X8_isNonterminal, cT h, decide_eq_false (Int32.not_le.mpr h)]
    rfl
  · obtain ⟨j, hj, rfl⟩ := nI_neg h
    have e : decide (nI j ≤ nI 15) = decide (j < 16) := decide_eq_decide.mpr ⟨fun e => by have := (nI_leI hj (by decide)).mp e; omega, fun e => nI_le (by omega) (by decide)⟩
    rw [s_X8_isNonterminal hj, z0 j hj, e, Bool.true_and]
/-- an index of a nonterminal, or not -/
theorem idx_or (a : Int32) : (decide (nI 0 ≤ a) && decide (a ≤ nI 15)) = false ∨ ∃ j, j < 16 ∧ a = nI j ∧ (decide (nI 0 ≤ a) && decide (a ≤ nI 15)) = true := by
  by_cases h : a < nI 0
  · exact Or.inl (by rw [decide_eq_false (Int32.not_le.mpr h)]; rfl)
  · obtain ⟨j, hj, rfl⟩ := nI_neg h
    by_cases h2 : j < 16
    · exact Or.inr ⟨j, h2, rfl, by rw [z0 j hj, decide_eq_true (nI_le (show j ≤ 15 by omega) (by decide))]; rfl⟩
    · exact Or.inl (by rw [decide_eq_false (nI_ge (show 15 < j by omega) hj), Bool.and_false])
theorem s_X1_reachFrom {j : Nat} (hj : j < 16) (σ : si_M) (L : Nat → Int32) : si_sc gP nX1_reachFrom [.ref 7, .int (nI j)] (lm 8 σ L) = some (some (.int (L j ||| si_ishl (nI 1) (nI j))), lm 8 σ L) := by
  rw [e_X1_reachFrom, s_X8_isNonterminal (by omega), ci_s, bz, decide_eq_true hj, cond_true, inT hj (by decide), nI_clamp (by omega), lm_at hj]
theorem CI.lm {σ : si_M} {A : AS} (h : CI σ A) (L : Nat → Int32) : CI (lm 8 σ L) A := by
  have hk := lm_Keep 8 σ L
  exact ⟨by rw [(hk 1 (by decide)).1]; exact h.1, by rw [(hk 2 (by decide)).1]; exact h.2.1, h.gs hk (by decide) (by decide) (by decide) (by decide) (by decide)⟩
theorem KC.lm (σ : si_M) (L : Nat → Int32) : KC σ (lm 8 σ L) := (lm_Keep 8 σ L).KC (by decide)
theorem lm40_KM (σ : si_M) (L : Nat → Int32) : KeepM [] [40] σ (lm 40 σ L) := ⟨fun k _ hk => ⟨lm_ne (fun e => hk (by simp [e])), rfl⟩, fun j _ => ⟨by rw [lm_ne (by decide)], rfl⟩⟩
theorem MI.of {σ τ : si_M} {A : AS} {F S : List Nat} (h : MI σ A) (hk : KeepM F S σ τ) (h1 : 1 ∉ F) (h3 : 3 ∉ F) (h4 : 4 ∉ F) (h5 : 5 ∉ F) (h30 : 30 ∉ S) (h31 : 31 ∉ S) (h32 : 32 ∉ S) : MI τ A :=
  ⟨by rw [(hk.2 5 h5).1]; exact h.1, by rw [(hk.1 32 (by decide) h32).1]; exact h.2.1, h.fs hk h1 h3 h4 h30 h31⟩
theorem MI.lm {σ : si_M} {A : AS} (h : MI σ A) (L : Nat → Int32) : MI (lm 40 σ L) A := h.of (lm40_KM σ L) (by decide) (by decide) (by decide) (by decide) (by decide) (by decide) (by decide)
theorem KM.lm (σ : si_M) (L : Nat → Int32) : KM σ (lm 40 σ L) := (lm40_KM σ L).KM (by decide)
theorem fact_unitReach (a : Int32) (σ : si_M) (h : gI σ) : ∃ (r : Int32) (σ1 σ2 : si_M), si_sc gP nX8_unitReach (.ref 0 :: [.int a]) σ = some (some (.int r), σ1) ∧ si_sc gP nX9_unitReach (.ref 29 :: [.int a]) σ1 = some (some (.int r), σ2) ∧ gI σ2 := by
  refine fact_i h (fun A => if (decide (nI 0 ≤ a) && decide (a ≤ nI 15)) = true then clw (uns A.2.1) a.toNatClampNeg ||| si_ishl (nI 1) a else -6) id (fun A h => h) (fun A σ hA h => ?_) (fun A σ hA h => ?_)
  · rw [e_X8_unitReach, s_X8_isNt, ci_s, bn]
    rcases idx_or a with hb | ⟨j, hj, rfl, hb⟩
    · rw [hb, cond_false, if_neg (by decide)]
      exact ⟨σ, rfl, h, KC.rf⟩
    · rw [hb, cond_true, if_pos rfl, s_X1_followUnits (by decide) h.2.2.1 hA.2.1, cv_s, s_X1_reachFrom hj, ci_s, nI_clamp (by omega)]
      exact ⟨_, rfl, h.lm _, KC.lm σ _⟩
  · rw [e_X9_unitReach, s_X9_isIndex, ci_s, bn]
    rcases idx_or a with hb | ⟨j, hj, rfl, hb⟩
    · rw [hb, cond_false, if_neg (by decide)]
      exact ⟨σ, rfl, h, KM.rf⟩
    · rw [hb, cond_true, if_pos rfl, s_X9_layUnits h.2.2.1 h.2.2.2.1 hA.2.1, cv_s, inT hj (by decide), nI_clamp (by omega), lm_at hj]
      exact ⟨_, rfl, h.lm _, KM.lm σ _⟩
/-- the left ends of a right side: up to the first that isn't nullable -/
def les (x : Int32) : List Nat → Int32 → Int32
  | [], s => s
  | a :: w, s => if a ≤ 16 then (if bt x (a - 1) then les x w (s ||| si_ishl (nI 1) (nI (a - 1))) else s ||| si_ishl (nI 1) (nI (a - 1))) else s
theorem s_X1_leftEnds {q : PR} (h : okp q) {x : Int32} (hx : low x) (σ : si_M) : si_sc gP nX1_leftEnds [.long (lN (en q)), .int x] σ = some (some (.int (les x q.2 (nI 0))), σ) := by
  have hl := h.2.1
  have stop : ∀ (s : Int32) (i : Int32), si_sem gP nX1_leftEnds 8 [.long (lN (en q)), si_U, .int x, .int s, .int (bI false), .int i, si_U] [] σ = some (some (.int s), σ) := by
    intro s i
    rw [h_X1_leftEnds_8, show bI false = nI 0 from rfl, cT rfl]
  have key : ∀ (d i : Nat) (s : Int32), i + d = q.2.length → si_sem gP nX1_leftEnds 8 [.long (lN (en q)), si_U, .int x, .int s, .int (bI true), .int (nI i), si_U] [] σ = some (some (.int (les x (q.2.drop i) s)), σ) := by
    intro d
    induction d with
    | zero =>
      intro i s hd
      rw [h_X1_leftEnds_8, bz, cond_true, List.drop_eq_nil_of_le (by omega)]
      by_cases h8 : 8 ≤ i
      · rw [cT (nI_le h8 (by omega))]; rfl
      · rw [cF (nI_ge (by omega) (by decide)), s_X5_symbolAt h (by omega), ci_s, s_X8_isNt_sy h, ci_s, bz, getD_out (by omega), sy_out (by omega), s_X8_isIn_m]
        exact stop s _
    | succ d ih =>
      intro i s hd
      have hi : i < q.2.length := by omega
      have hp := h.2.2 _ (List.getElem_mem hi)
      rw [h_X1_leftEnds_8, bz, cond_true, cF (nI_ge (show i < 8 by omega) (by decide)), s_X5_symbolAt h (by omega), ci_s, s_X8_isNt_sy h, ci_s, bz, gD hi, decide_eq_true hp.1, Bool.true_and, s_X8_isIn_sy h x hi, ci_s, ci_s, nI_add, List.drop_eq_getElem_cons hi]
      simp only [les]
      by_cases h16 : q.2[i] ≤ 16
      · rw [decide_eq_true h16, cond_true, if_pos h16, sy_in h hi, gD hi]
        cases hb : bt x (q.2[i] - 1) with
        | false => rw [if_neg (by decide)]; exact stop _ _
        | true => rw [if_pos rfl]; exact ih (i + 1) _ (by omega)
      · rw [decide_eq_false h16, cond_false, if_neg h16, hx _ (by omega)]
        exact stop _ _
  rw [e_X1_leftEnds]
  exact key q.2.length 0 (nI 0) (by omega)
def lrs (x : Int32) (G : List PR) : Nat → Int32 := G.foldl (fun L q => upd L q.1 (L q.1 ||| les x q.2 (nI 0))) Lz
theorem low_clo (T : Bool) {G : List PR} (hG : Oks G) : low (clo T G) := by
  have : ∀ n x, low x → low (itr (rnd T G) n x) := by
    intro n
    induction n with
    | zero => intro x hx; exact hx
    | succ n ih => intro x hx; exact ih _ (low_rnd hG hx)
  exact this 17 (nI 0) low0
theorem s_X1_followLeftEnds {σ : si_M} {S : List PR × Bool} (hm : Gm σ 3 S) (hG : Gok S.1) {x : Int32} (hx : low x) : si_sc gP nX1_followLeftEnds [.ref 7, .ref 3, .int x] σ = some (none, lm 8 σ (clw (lrs x S.1))) := by
  have hl := hG.1
  rw [e_X1_followLeftEnds, s_fill8, cv_s]
  have := lp_fold' (F := fun i L => si_sem gP nX1_followLeftEnds 10 [.ref 7, .ref 3, .int x, .int (nI i), si_U, si_U] [] (lm 8 σ L)) (G := S.1) (f := fun L q => upd L q.1 (L q.1 ||| les x q.2 (nI 0))) (fun i L hi => by
    have hok := hG.2.1.at hi
    have hmL := hm.lm L (by decide) (by decide)
    rw [h_X1_followLeftEnds_10, e_X2_count 3 (by decide), ci_s, hmL.1, cF (nI_ge hi (by omega)), s_X2_at (by decide) hmL hl hi, cl_s, s_X5_left hok, ci_s, inT hok.1 (by decide), s_X1_leftEnds hok hx, ci_s, inT hok.1 (by decide), nI_clamp (by have := hok.1; omega), lm_at hok.1, lm_sI hok.1, nI_add]) Lz
  refine this.trans ?_
  rw [h_X1_followLeftEnds_10, e_X2_count 3 (by decide), ci_s, (hm.lm _ (by decide) (by decide)).1, cT (nI_le (Nat.le_refl _) (by omega)), s_X1_close, cv_s]
  rfl
