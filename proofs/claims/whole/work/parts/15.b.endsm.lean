/-! accepts: the model -/
def WM (τ : si_M) (W : List Nat) : Prop := τ.1 29 16 = nI W.length ∧ ∀ j (hj : j < W.length), τ.1 35 j = nI W[j]
theorem shl2_t : ∀ p : Fin 11, si_ishl (nI 2) (nI p.1) = si_ishl (nI 1) (nI (p.1 + 1)) := by decide +kernel
theorem s_X9_goOver {σ : si_M} {W : List Nat} (hW : Wok W) (hc : WM σ W) {E : Nat → Int32} {a : Nat} (ha : 1 ≤ a ∧ a ≤ 24) (P : Int32) : si_sc gP nX9_goOver [.ref 29, .int (nI a), .int P] (em 36 σ E) = some (some (.int (go W E a P)), em 36 σ E) := by
  have hn := hW.1
  have h12 : (em 36 σ E).1 29 16 = nI W.length := by rw [em_ne (by decide)]; exact hc.1
  rw [e_X9_goOver]
  refine (lp_fold' (F := fun p t => si_sem gP nX9_goOver 5 [.ref 29, .int (nI a), .int P, .int t, .int (nI p)] [] (em 36 σ E)) (G := List.range (W.length + 1)) (f := fun t p => if bt P p then t ||| gs W E a p else t) (fun p t hp => ?_) (nI 0)).trans ?_
  · have hp : p < W.length + 1 := by simpa using hp
    rw [List.getElem_range]
    try dsimp only
    rw [h_X9_goOver_5, h12, cF (nI_nlt (show p ≤ W.length by omega) (by omega)), ssh1 P (show p < 32 by omega), bo, nI_add]
    cases hb : bt P p with
    | false => rw [cond_false]; rfl
    | true =>
      rw [cond_true, if_pos rfl, s_X9_isNonterminal (show a < 2 ^ 31 by omega), ci_s, bz, decide_eq_true ha.1, Bool.true_and]
      unfold gs
      by_cases h16 : a ≤ 16
      · rw [decide_eq_true h16, cond_true, if_pos h16, sub1 (by omega), nI_mul, nI_add, inT (show 11 * (a - 1) + p < 176 by omega) (by decide), nI_clamp (by omega), em_at (by omega)]
      · rw [decide_eq_false h16, cond_false, if_neg h16, h12]
        by_cases hpl : p < W.length
        · have hwp := hW.2 _ (List.getElem_mem hpl)
          rw [cF (nI_ge hpl (by omega)), inT (show p < 10 by omega) (by decide), nI_clamp (by omega), em_ne (by decide), hc.2 p hpl, gD hpl]
          by_cases e : W[p] = a
          · rw [nF (by rw [e]), if_pos e, show si_ishl (nI 2) (nI p) = _ from shl2_t ⟨p, by omega⟩]
          · rw [nT (nI_eqF (by omega) (by omega) (by omega)), if_neg e]
        · rw [cT (nI_le (show W.length ≤ p by omega) (by omega)), getD_out (by omega), if_neg (show ¬ 0 = a by omega)]
  · try dsimp only
    rw [List.length_range, h_X9_goOver_5, h12, cT (nI_lt (Nat.lt_succ_self _) (by omega))]
    rfl
theorem and_not (x y : Int32) : (y &&& (x ^^^ (-1)) = nI 0) ↔ x ||| y = x := by
  constructor
  · intro h
    apply b_ext
    intro i hi
    have h1 : bt (y &&& (x ^^^ (-1))) i = false := by rw [h]; exact b_0 i
    rw [b_and, b_xor, b_m1 i hi] at h1
    rw [b_or]
    cases hx : bt x i with
    | true => rfl
    | false =>
      rw [hx] at h1
      cases hy : bt y i with
      | false => rfl
      | true => rw [hy] at h1; cases h1
  · intro h
    apply b_ext
    intro i hi
    rw [b_and, b_xor, b_m1 i hi, show bt (nI 0) i = false from b_0 i]
    have h1 : bt (x ||| y) i = bt x i := by rw [h]
    rw [b_or] at h1
    cases hx : bt x i with
    | true => rw [Bool.true_xor]; cases bt y i <;> rfl
    | false =>
      rw [hx, Bool.false_or] at h1
      rw [h1]
      rfl
theorem s_X9_derives {g : Nat} (hg : g = 30 ∨ g = 31) {σ : si_M} {G : List PR} (hR : Row (σ.2 g) G) (hG : Gok G) {W : List Nat} (hW : Wok W) (hc : WM σ W) : ∃ τ, si_sc gP nX9_derives [.ref 29, .ref g, .int (nI G.length)] σ = some (some (.int (bI (dvB W G))), τ) ∧ KeepM [] [36] σ τ := by
  have hl := hG.1
  have hn := hW.1
  have h12 : ∀ E, (em 36 σ E).1 29 16 = nI W.length := fun E => by rw [em_ne (by decide)]; exact hc.1
  have hR' : ∀ E, Row ((em 36 σ E).2 g) G := fun E => hR
  have clear : ∀ (d i : Nat) (E : Nat → Int32), i + d = 176 → si_sem gP nX9_derives 2 [.ref 29, .ref g, .int (nI G.length), .int (nI i), si_U, si_U, si_U, si_U] [] (em 36 σ E) = si_sem gP nX9_derives 24 [.ref 29, .ref g, .int (nI G.length), .int (nI 1), si_U, si_U, si_U, si_U] [] (em 36 σ (fun j => if i ≤ j ∧ j < 176 then nI 0 else E j)) := by
    intro d
    induction d with
    | zero =>
      intro i E h
      rw [h_X9_derives_2 g hg, cT (nI_le (show 176 ≤ i by omega) (by omega))]
      congr 2
      funext j
      rw [if_neg (by omega)]
    | succ d ih =>
      intro i E h
      rw [h_X9_derives_2 g hg, cF (nI_ge (show i < 176 by omega) (by decide)), inT (show i < 176 by omega) (by decide), nI_add, nI_clamp (by omega), em_sI (by omega), ih (i + 1) _ (by omega)]
      congr 2
      funext j
      simp only [upd]
      by_cases h1 : j = i
      · rw [if_neg (by omega), if_pos h1, if_pos (by omega)]
      · rw [if_neg h1]
        by_cases h2 : i ≤ j ∧ j < 176
        · rw [if_pos (by omega), if_pos h2]
        · rw [if_neg (by omega), if_neg h2]
  have e_id : em 36 σ (σ.1 36) = σ := by
    unfold em
    have : fx 176 (σ.1 36) (σ.1 36) = σ.1 36 := by funext j; simp [fx]
    rw [this, wI_id]
  have e_z : ∀ E : Nat → Int32, em 36 σ (fun j => if 0 ≤ j ∧ j < 176 then nI 0 else E j) = em 36 σ Lz := by
    intro E
    unfold em
    congr 1
    funext j
    simp only [fx, Lz]
    by_cases h : j < 176
    · rw [if_pos h, if_pos h, if_pos ⟨Nat.zero_le _, h⟩]
    · rw [if_neg h, if_neg h]
  have w60 : ∀ (k : Nat) (hk : k < G.length) (st : Nat) (hst : st ≤ W.length) (E : Nat → Int32) (b : Bool) (d j : Nat) (P : Int32), j + d = G[k].2.length → si_sem gP nX9_derives 60 [.ref 29, .ref g, .int (nI G.length), .int (bI b), .int (nI k), .int (nI st), .int P, .int (nI j)] [] (em 36 σ E) = si_sem gP nX9_derives 42 [.ref 29, .ref g, .int (nI G.length), .int (bI (b || !decide (E (11 * G[k].1 + st) ||| eo W E (G[k].2.drop j) P = E (11 * G[k].1 + st)))), .int (nI k), .int (nI (st + 1)), si_U, si_U] [] (em 36 σ (upd E (11 * G[k].1 + st) (E (11 * G[k].1 + st) ||| eo W E (G[k].2.drop j) P))) := by
    intro k hk st hst E b d
    have hok := hG.2.1.at hk
    have hq1 := hok.1
    have hq8 := hok.2.1
    induction d with
    | zero =>
      intro j P hd
      rw [h_X9_derives_60 g hg, inT (show k < 60 by omega) (by decide), nI_clamp (by omega), (hR' E).at hk, s_X9_at hok (by omega), ci_s, getD_out (by omega), cT (nI_le (Nat.le_refl 0) (by decide)), inT (show k < 60 by omega) (by decide), (hR' E).at hk, s_X9_left hok, ci_s, nI_mul, nI_add, nI_add, List.drop_eq_nil_of_le (by omega), bn]
      show _ = si_sem gP nX9_derives 42 [.ref 29, .ref g, .int (nI G.length), .int (bI (b || !decide (E (11 * G[k].1 + st) ||| P = E (11 * G[k].1 + st)))), .int (nI k), .int (nI (st + 1)), si_U, si_U] [] (em 36 σ (upd E (11 * G[k].1 + st) (E (11 * G[k].1 + st) ||| P)))
      have hin : 11 * G[k].1 + st < 176 := by omega
      cases b with
      | true => rw [cond_true, inT hin (by decide), inT hin (by decide), nI_clamp (by omega), em_at hin, em_sI hin]; rfl
      | false =>
        rw [cond_false, inT hin (by decide), nI_clamp (by omega), em_at hin, inT hin (by decide), inT hin (by decide), inT hin (by decide), inT hin (by decide), em_sI hin]
        by_cases e : E (11 * G[k].1 + st) ||| P = E (11 * G[k].1 + st)
        · rw [cT ((and_not _ _).mpr e), decide_eq_true e]; rfl
        · rw [cF (fun h => e ((and_not _ _).mp h)), decide_eq_false e]; rfl
    | succ d ih =>
      intro j P hd
      have hj : j < G[k].2.length := by omega
      have hp := hok.2.2 _ (List.getElem_mem hj)
      rw [h_X9_derives_60 g hg, inT (show k < 60 by omega) (by decide), nI_clamp (by omega), (hR' E).at hk, s_X9_at hok (by omega), ci_s, gD hj, cF (nI_ge (show 0 < G[k].2[j] by omega) (by omega)), inT (show k < 60 by omega) (by decide), (hR' E).at hk, s_X9_at hok (by omega), ci_s, gD hj, s_X9_goOver hW hc hp, ci_s, nI_add, ih (j + 1) _ (by omega), List.drop_eq_getElem_cons hj]
      rfl
  have w42 : ∀ (k : Nat) (hk : k < G.length) (s : (Nat → Int32) × Bool), si_sem gP nX9_derives 42 [.ref 29, .ref g, .int (nI G.length), .int (bI s.2), .int (nI k), .int (nI 0), si_U, si_U] [] (em 36 σ s.1) = si_sem gP nX9_derives 33 [.ref 29, .ref g, .int (nI G.length), .int (bI (adp W s G[k]).2), .int (nI (k + 1)), si_U, si_U, si_U] [] (em 36 σ (adp W s G[k]).1) := by
    intro k hk s
    have key := lp_fold' (F := fun i (s : (Nat → Int32) × Bool) => si_sem gP nX9_derives 42 [.ref 29, .ref g, .int (nI G.length), .int (bI s.2), .int (nI k), .int (nI i), si_U, si_U] [] (em 36 σ s.1)) (G := List.range (W.length + 1)) (f := fun (s : (Nat → Int32) × Bool) st => (a1 W G[k] s.1 st, s.2 || ap W G[k] s.1 st)) (fun i s hi => by
      have hi : i < W.length + 1 := by simpa using hi
      rw [List.getElem_range]
      try dsimp only
      rw [h_X9_derives_42 g hg, h12, cF (nI_nlt (show i ≤ W.length by omega) (by omega)), w60 k hk i (by omega) s.1 s.2 G[k].2.length 0 _ (by omega), List.drop_zero]
      rfl) s
    refine Eq.trans key ?_
    try dsimp only
    rw [List.length_range, h_X9_derives_42 g hg, h12, cT (nI_lt (Nat.lt_succ_self _) (by omega)), nI_add]
    rfl
  have w33 : ∀ (E : Nat → Int32), si_sem gP nX9_derives 33 [.ref 29, .ref g, .int (nI G.length), .int (nI 0), .int (nI 0), si_U, si_U, si_U] [] (em 36 σ E) = si_sem gP nX9_derives 24 [.ref 29, .ref g, .int (nI G.length), .int (bI (rdf2 W G E)), si_U, si_U, si_U, si_U] [] (em 36 σ (rd W G E)) := by
    intro E
    have key := lp_fold' (F := fun i (s : (Nat → Int32) × Bool) => si_sem gP nX9_derives 33 [.ref 29, .ref g, .int (nI G.length), .int (bI s.2), .int (nI i), si_U, si_U, si_U] [] (em 36 σ s.1)) (G := G) (f := adp W) (fun i s hi => by
      try dsimp only
      rw [h_X9_derives_33 g hg, cF (nI_ge hi (by omega)), w42 i hi s]) (E, false)
    rw [rd_pair, Bool.false_or] at key
    refine Eq.trans key ?_
    try dsimp only
    rw [h_X9_derives_33 g hg, cT (nI_le (Nat.le_refl _) (by omega))]
  have fin : ∀ (E : Nat → Int32), si_sem gP nX9_derives 24 [.ref 29, .ref g, .int (nI G.length), .int (bI false), si_U, si_U, si_U, si_U] [] (em 36 σ E) = some (some (.int (bI (bt (E 0) W.length))), em 36 σ E) := by
    intro E
    rw [h_X9_derives_24 g hg, bz, cond_false, inT (by decide) (by decide), clamp0, em_at (by decide), h12, ssh1 _ (by omega), bo]
    cases bt (E 0) W.length <;> rfl
  have loop : ∀ (n : Nat) (E : Nat → Int32), L11 E → zE E ≤ n → si_sem gP nX9_derives 24 [.ref 29, .ref g, .int (nI G.length), .int (bI true), si_U, si_U, si_U, si_U] [] (em 36 σ E) = some (some (.int (bI (bt (itr (rd W G) n E 0) W.length))), em 36 σ (itr (rd W G) n E)) := by
    intro n
    induction n with
    | zero =>
      intro E hE hz
      have hfx : rd W G E = E := by
        rcases rd_z hW hG.2.1 hE with h | h
        · exact h
        · omega
      have hff : rdf2 W G E = false := by
        cases h : rdf2 W G E with
        | false => rfl
        | true => exact absurd hfx (rdf_t h)
      rw [h_X9_derives_24 g hg, bz, cond_true, w33 E, hff, hfx, fin]
      rfl
    | succ n ih =>
      intro E hE hz
      rw [h_X9_derives_24 g hg, bz, cond_true, w33 E]
      cases h : rdf2 W G E with
      | false =>
        rw [fin, rdf_f h]
        rw [itr_fix (rdf_f h)]
      | true =>
        rcases rd_z hW hG.2.1 hE with h2 | h2
        · exact absurd h2 (rdf_t h)
        · exact ih _ (rd_l hW G hE) (by omega)
  rw [e_X9_derives g hg]
  have e0 := clear 176 0 (σ.1 36) rfl
  rw [e_id, e_z] at e0
  rw [e0, show nI 1 = bI true from rfl, loop 1937 Lz L11_z (Nat.le_trans (zE_le _) (by decide))]
  refine ⟨_, rfl, fun k _ hk => ⟨em_ne (fun e => hk (by simp [e])), rfl⟩, fun j _ => ⟨by rw [em_ne (by decide)], rfl⟩⟩
-- words in the buffer
def wdB (B : List Nat) : Bool := decide (B.length ≤ 10) && B.all (fun c => decide (97 ≤ c) && decide (c ≤ 104))
def wdW (B : List Nat) : List Nat := B.map sym
theorem wdW_at {B : List Nat} {j : Nat} (h : j < B.length) (h2 : j < (wdW B).length) : (wdW B)[j] = sym B[j] := by
  unfold wdW at h2 ⊢
  exact List.getElem_map ..
theorem wd_ok {B : List Nat} (h : wdB B = true) : Wok (wdW B) := by
  unfold wdB at h
  rw [Bool.and_eq_true, decide_eq_true_eq, List.all_eq_true] at h
  refine ⟨by unfold wdW; rw [List.length_map]; exact h.1, fun a ha => ?_⟩
  obtain ⟨c, hc, e⟩ := List.mem_map.mp ha
  have h2 := h.2 c hc
  rw [Bool.and_eq_true, decide_eq_true_eq, decide_eq_true_eq] at h2
  rw [← e]
  unfold sym
  rw [if_neg (by omega), if_pos ⟨h2.1, h2.2⟩]
  omega
theorem s_X8_isTm_m {a : Nat} (ha : a ≤ 24) (σ : si_M) : si_sc gP nX8_isTerminal [.int (nI a - nI 1)] σ = some (some (.int (bI (decide (17 ≤ a)))), σ) := by
  rw [e_X8_isTerminal]
  by_cases h0 : a = 0
  · subst h0
    rw [cT (by decide)]
    rfl
  · rw [sub1 (by omega)]
    by_cases h : 17 ≤ a
    · rw [cF (nI_nlt (show 16 ≤ a - 1 by omega) (by omega)), cF (nI_ge (show a - 1 < 24 by omega) (by omega)), decide_eq_true h]; rfl
    · rw [cT (nI_lt (show a - 1 < 16 by omega) (by omega)), decide_eq_false h]; rfl
theorem sym17 (c : Nat) : decide (17 ≤ sym c) = (decide (97 ≤ c) && decide (c ≤ 104)) := by
  unfold sym
  by_cases h1 : 97 ≤ c ∧ c ≤ 104
  · rw [if_neg (by omega), if_pos h1, decide_eq_true h1.1, decide_eq_true h1.2, decide_eq_true (by omega)]; rfl
  · have : (decide (97 ≤ c) && decide (c ≤ 104)) = false := by
      cases hb : (decide (97 ≤ c) && decide (c ≤ 104)) with
      | false => rfl
      | true =>
        rw [Bool.and_eq_true, decide_eq_true_eq, decide_eq_true_eq] at hb
        exact absurd hb h1
    rw [this]
    split
    · exact decide_eq_false (by omega)
    · exact decide_eq_false (by omega)
theorem s_X3_isWord {σ : si_M} {A : AS} (hA : Aok A) (h : CI σ A) : si_sc gP nX3_isWord [.ref 1] σ = some (some (.int (bI (wdB A.1))), σ) := by
  have hl := hA.1.1
  rw [e_X3_isWord, h.1]
  unfold wdB
  by_cases h10 : A.1.length ≤ 10
  · rw [cT (nI_le h10 (by decide)), decide_eq_true h10, Bool.true_and]
    have := lp_all (F := fun i => si_sem gP nX3_isWord 13 [.ref 1, .int (nI i)] [] σ) (G := A.1) (p := fun c => decide (97 ≤ c) && decide (c ≤ 104)) (X := some (some (.int (nI 0)), σ)) (Y := some (some (.int (nI 1)), σ)) (fun i hi => by
      try dsimp only
      have hcc := hA.1.2 _ (List.getElem_mem hi)
      rw [h_X3_isWord_13, h.1, cF (nI_ge hi (by omega)), inT (show i < 60 by omega) (by decide), nI_clamp (by omega), h.2.1.at hi, s_X8_symbolOf (by omega), ci_s, s_X8_isTm_m (sym_le _), ci_s, bn, nI_add, sym17]) (by
      try dsimp only
      rw [h_X3_isWord_13, h.1, cT (nI_le (Nat.le_refl _) (by omega))]) 0 (Nat.zero_le _)
    refine Eq.trans this ?_
    rw [List.drop_zero]
    cases A.1.all (fun c => decide (97 ≤ c) && decide (c ≤ 104)) <;> rfl
  · rw [cF (nI_ge (show 10 < A.1.length by omega) (by omega)), decide_eq_false h10]
    rfl
theorem s_X9_isWord {σ : si_M} {A : AS} (hA : Aok A) (h : MI σ A) : si_sc gP nX9_isWord [.ref 29] σ = some (some (.int (bI (wdB A.1))), σ) := by
  have hl := hA.1.1
  have key : ∀ (d i : Nat) (b : Bool), i + d = A.1.length → si_sem gP nX9_isWord 17 [.ref 29, .int (bI b), .int (nI i)] [] σ = some (some (.int (bI (b && (A.1.drop i).all (fun c => decide (97 ≤ c) && decide (c ≤ 104))))), σ) := by
    intro d
    induction d with
    | zero =>
      intro i b hd
      rw [h_X9_isWord_17, h.1, cT (nI_le (show A.1.length ≤ i by omega) (by omega)), bI_and, List.drop_eq_nil_of_le (by omega), List.all_nil, Bool.and_true]
    | succ d ih =>
      intro i b hd
      have hi : i < A.1.length := by omega
      have hcc := hA.1.2 _ (List.getElem_mem hi)
      rw [h_X9_isWord_17, h.1, cF (nI_ge hi (by omega)), bz, nI_add, List.drop_eq_getElem_cons hi, List.all_cons]
      cases b with
      | false => rw [cond_false, show nI 0 = bI false from rfl, ih (i + 1) false (by omega), Bool.false_and, Bool.false_and]
      | true =>
        rw [cond_true, inT (show i < 60 by omega) (by decide), nI_clamp (by omega), h.2.1.at hi, s_X9_within, ci_s, bz, show decide (nI 97 ≤ nI A.1[i]) = decide (97 ≤ A.1[i]) from decide_eq_decide.mpr (nI_leI (by decide) (by omega)), show decide (nI A.1[i] ≤ nI 104) = decide (A.1[i] ≤ 104) from decide_eq_decide.mpr (nI_leI (by omega) (by decide)), Bool.true_and]
        cases hb : (decide (97 ≤ A.1[i]) && decide (A.1[i] ≤ 104)) with
        | false => rw [cond_false, show nI 0 = bI false from rfl, ih (i + 1) false (by omega), Bool.false_and]
        | true => rw [cond_true, show nI 1 = bI true from rfl, ih (i + 1) true (by omega), Bool.true_and]
  rw [e_X9_isWord, h.1]
  unfold wdB
  by_cases h10 : A.1.length ≤ 10
  · rw [cF (nI_nlt h10 (by decide)), decide_eq_true h10, show nI 1 = bI true from rfl]
    exact key A.1.length 0 true (by omega)
  · rw [cT (nI_lt (show 10 < A.1.length by omega) (by omega)), decide_eq_false h10]
    exact key A.1.length 0 false (by omega)
theorem s_X4_read {σ : si_M} {A : AS} (hA : Aok A) (h : CI σ A) (hw : wdB A.1 = true) : ∃ τ, si_sc gP nX4_read [.ref 12, .ref 1] σ = some (none, τ) ∧ WC τ (wdW A.1) ∧ Keep [12, 13] σ τ := by
  have hW := wd_ok hw
  have hl : A.1.length ≤ 10 := by have := hW.1; unfold wdW at this; rw [List.length_map] at this; exact this
  have key : ∀ (d i : Nat) (τ : si_M), i + d = A.1.length → τ.1 12 1 = nI A.1.length → Keep [12, 13] σ τ → (∀ j (hj : j < A.1.length), j < i → τ.1 13 j = nI (sym A.1[j] - 1)) → ∃ τ', si_sem gP nX4_read 15 [.ref 12, .ref 1, .int (nI i)] [] τ = some (none, τ') ∧ WC τ' (wdW A.1) ∧ Keep [12, 13] σ τ' := by
    intro d
    induction d with
    | zero =>
      intro i τ hd h1 hk hj
      rw [h_X4_read_15, h1, cT (nI_le (show A.1.length ≤ i by omega) (by omega))]
      refine ⟨τ, rfl, ⟨by unfold wdW; rw [List.length_map]; exact h1, fun j hj2 => ?_⟩, hk⟩
      have hj3 : j < A.1.length := by unfold wdW at hj2; rw [List.length_map] at hj2; exact hj2
      rw [hj j hj3 (by omega), wdW_at hj3 hj2]
    | succ d ih =>
      intro i τ hd h1 hk hj
      have hi : i < A.1.length := by omega
      have hcc := hA.1.2 _ (List.getElem_mem hi)
      have hs := hW.2 (sym A.1[i]) (List.mem_map.mpr ⟨_, List.getElem_mem hi, rfl⟩)
      have e1 : τ.1 1 1 = nI A.1.length := by rw [(hk 1 (by decide)).1]; exact h.1
      have e2 : τ.1 2 i = nI A.1[i] := by rw [(hk 2 (by decide)).1]; exact h.2.1.at hi
      rw [h_X4_read_15, h1, cF (nI_ge hi (by omega)), e_X3_codeAt, cF (nI_nlt (Nat.zero_le i) (by omega)), e1, cF (nI_ge hi (by omega)), inT (show i < 60 by omega) (by decide), nI_clamp (by omega), e2, ci_s, s_X8_symbolOf (by omega), ci_s, inT (show i < 10 by omega) (by decide), nI_add, sub1 (by omega)]
      refine ih (i + 1) _ (by omega) (by rw [sI_ne _ _ _ (by decide)]; exact h1) (hk.tr (Keep.sI τ (by decide) _ _)) (fun j hj2 hji => ?_)
      by_cases e : j = i
      · subst e; rw [sI_same]
      · rw [sI_nj _ _ _ e]; exact hj j hj2 (by omega)
  rw [e_X4_read, e_X3_length, ci_s, h.1, nI_min (show A.1.length < 2 ^ 31 by omega) (show 10 < 2 ^ 31 by decide), Nat.min_eq_left hl]
  exact key A.1.length 0 _ (by omega) (sI_same _ _ _ _) (Keep.sI σ (by decide) _ _) (fun j _ hj => by omega)
theorem s_X9_takeWord {σ : si_M} {A : AS} (hA : Aok A) (h : MI σ A) (hw : wdB A.1 = true) : ∃ τ, si_sc gP nX9_takeWord [.ref 29] σ = some (none, τ) ∧ WM τ (wdW A.1) ∧ KeepM [16] [35] σ τ := by
  have hW := wd_ok hw
  have hl : A.1.length ≤ 10 := by have := hW.1; unfold wdW at this; rw [List.length_map] at this; exact this
  have key : ∀ (d i : Nat) (τ : si_M), i + d = A.1.length → τ.1 29 16 = nI A.1.length → KeepM [16] [35] σ τ → (∀ j (hj : j < A.1.length), j < i → τ.1 35 j = nI (sym A.1[j])) → ∃ τ', si_sem gP nX9_takeWord 10 [.ref 29, .int (nI i)] [] τ = some (none, τ') ∧ WM τ' (wdW A.1) ∧ KeepM [16] [35] σ τ' := by
    intro d
    induction d with
    | zero =>
      intro i τ hd h1 hk hj
      have e1 : τ.1 29 5 = nI A.1.length := by rw [(hk.2 5 (by decide)).1]; exact h.1
      rw [h_X9_takeWord_10, e1, cT (nI_le (show A.1.length ≤ i by omega) (by omega))]
      refine ⟨τ, rfl, ⟨by unfold wdW; rw [List.length_map]; exact h1, fun j hj2 => ?_⟩, hk⟩
      have hj3 : j < A.1.length := by unfold wdW at hj2; rw [List.length_map] at hj2; exact hj2
      rw [hj j hj3 (by omega), wdW_at hj3 hj2]
    | succ d ih =>
      intro i τ hd h1 hk hj
      have hi : i < A.1.length := by omega
      have hcc := hA.1.2 _ (List.getElem_mem hi)
      have e1 : τ.1 29 5 = nI A.1.length := by rw [(hk.2 5 (by decide)).1]; exact h.1
      have e2 : τ.1 32 i = nI A.1[i] := by rw [(hk.1 32 (by decide) (by decide)).1]; exact h.2.1.at hi
      rw [h_X9_takeWord_10, e1, cF (nI_ge hi (by omega)), inT (show i < 60 by omega) (by decide), nI_clamp (by omega), e2, s_X9_symbolOf (by omega), ci_s, inT (show i < 10 by omega) (by decide), nI_add]
      refine ih (i + 1) _ (by omega) (by rw [sI_ne _ _ _ (by decide)]; exact h1) (hk.tr (KeepM.cI τ (by decide) (by decide) _ _)) (fun j hj2 hji => ?_)
      by_cases e : j = i
      · subst e; rw [sI_same]
      · rw [sI_nj _ _ _ e]; exact hj j hj2 (by omega)
  rw [e_X9_takeWord, h.1]
  exact key A.1.length 0 _ (by omega) (sI_same _ _ _ _) (KeepM.sI σ (by decide) _) (fun j _ hj => by omega)
theorem WC.keep {σ τ : si_M} {W : List Nat} {Z : List Nat} (h : WC σ W) (hk : Keep Z σ τ) (h1 : 12 ∉ Z) (h2 : 13 ∉ Z) : WC τ W := ⟨by rw [(hk 12 h1).1]; exact h.1, fun j hj => by rw [(hk 13 h2).1]; exact h.2 j hj⟩
theorem fact_accepts (σ : si_M) (h : gI σ) : ∃ (r : Int32) (σ1 σ2 : si_M), si_sc gP nX8_accepts (.ref 0 :: []) σ = some (some (.int r), σ1) ∧ si_sc gP nX9_accepts (.ref 29 :: []) σ1 = some (some (.int r), σ2) ∧ gI σ2 := by
  refine fact_i h (fun A => if wdB A.1 then bI (dvB (wdW A.1) A.2.1) else -4) id (fun A h => h) (fun A σ hA h => ?_) (fun A σ hA h => ?_)
  · rw [e_X8_accepts, s_X3_isWord hA h, ci_s, bn]
    cases hw : wdB A.1 with
    | false => exact ⟨σ, rfl, h, KC.rf⟩
    | true =>
      obtain ⟨τ1, b1, b2, b3⟩ := s_X4_read hA h hw
      have hm : Gm τ1 3 (A.2.1, false) := h.2.2.1.keep b3 (by decide) (by decide)
      obtain ⟨τ2, c1, c2⟩ := s_X4_derives hm hA.2.1 (wd_ok hw) b2
      have hk : Keep csc σ τ2 := (b3.mono (by decide)).tr (c2.mono (by decide))
      rw [cond_true, b1, cv_s, c1, ci_s, s_X8_bit, ci_s]
      exact ⟨τ2, rfl, h.sc hk, kc_of hk⟩
  · rw [e_X9_accepts, s_X9_isWord hA h, ci_s, bn]
    cases hw : wdB A.1 with
    | false => exact ⟨σ, rfl, h, KM.rf⟩
    | true =>
      obtain ⟨τ1, b1, b2, b3⟩ := s_X9_takeWord hA h hw
      have k1 : KeepM mF mS σ τ1 := b3.mono (by decide) (by decide)
      have hM := h.sc k1
      obtain ⟨τ2, c1, c2⟩ := s_X9_derives (g := 30) (by decide) hM.2.2.2.1 hA.2.1 (wd_ok hw) b2
      have hk : KeepM mF mS σ τ2 := k1.tr (c2.mono (by decide) (by decide))
      rw [cond_true, b1, cv_s, hM.2.2.1, c1, ci_s, bz]
      refine ⟨τ2, ?_, h.sc hk, km_of hk⟩
      cases dvB (wdW A.1) A.2.1 <;> rfl
