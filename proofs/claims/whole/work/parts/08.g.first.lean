/-! FIRST and FOLLOW -/
def csc : List Nat := [7, 8, 9, 10, 11, 12, 13, 14, 15, 16, 17, 18, 19, 20, 21, 22, 23, 24, 25, 26, 27, 28]
def mF : List Nat := [2, 6, 7, 8, 9, 10, 11, 12, 13, 14, 15, 16, 17, 18, 19, 20, 21, 22, 23, 24, 25, 26, 27, 28, 29, 30, 31, 32]
def mS : List Nat := [33, 34, 35, 36, 37, 38, 39, 40, 41, 42, 43, 44]
theorem CI.sc {σ τ : si_M} {A : AS} (h : CI σ A) (hk : Keep csc σ τ) : CI τ A := ⟨by rw [(hk 1 (by decide)).1]; exact h.1, by rw [(hk 2 (by decide)).1]; exact h.2.1, h.gs hk (by decide) (by decide) (by decide) (by decide) (by decide)⟩
theorem kc_of {σ τ : si_M} (hk : Keep csc σ τ) : KC σ τ := hk.KC (by decide)
theorem MI.sc {σ τ : si_M} {A : AS} (h : MI σ A) (hk : KeepM mF mS σ τ) : MI τ A := h.of hk (by decide) (by decide) (by decide) (by decide) (by decide) (by decide) (by decide)
theorem km_of {σ τ : si_M} (hk : KeepM mF mS σ τ) : KM σ τ := hk.KM (by decide)
theorem lm_csc {k : Nat} (hk : k ∈ csc) (σ : si_M) (L : Nat → Int32) : Keep csc σ (lm k σ L) := (lm_Keep k σ L).mono (fun a ha => by rw [List.mem_singleton.mp ha]; exact hk)
theorem lm_mS {k : Nat} (hk : k ∈ mS) (σ : si_M) (L : Nat → Int32) : KeepM mF mS σ (lm k σ L) := ⟨fun a _ ha => ⟨lm_ne (fun e => ha (e ▸ hk)), rfl⟩, fun j _ => ⟨by rw [lm_ne (fun e => by rw [← e] at hk; exact absurd hk (by decide))], rfl⟩⟩
/-- what a word can begin with -/
def bgs (x : Int32) (F : Nat → Int32) : List Nat → Int32 → Int32
  | [], s => s
  | a :: w, s => if a ≤ 16 then (if bt x (a - 1) then bgs x F w (s ||| F (a - 1)) else s ||| F (a - 1)) else s ||| si_ishl (nI 1) (nI (a - 17))
theorem s_X0_beginnings {q : PR} (h : okp q) {τ : si_M} {x : Int32} {F : Nat → Int32} (hx : τ.1 9 2 = x) (hF : ∀ j, j < 16 → τ.1 10 j = F j) {f : Nat} (hf : f ≤ q.2.length) : si_sc gP nX0_beginnings [.ref 9, .long (lN (en q)), .int (nI f)] τ = some (some (.int (bgs x F (q.2.drop f) (nI 0))), τ) := by
  have hw := h.2.1
  have key : ∀ (d f : Nat) (s : Int32), f + d = q.2.length → si_sem gP nX0_beginnings 12 [.ref 9, .long (lN (en q)), si_U, si_U, .int s, .int (nI q.2.length), .int (nI f), si_U] [] τ = some (some (.int (bgs x F (q.2.drop f) s)), τ) := by
    intro d
    induction d with
    | zero =>
      intro f s hd
      rw [h_X0_beginnings_12, cT (nI_le (show q.2.length ≤ f by omega) (by omega)), List.drop_eq_nil_of_le (by omega)]
      rfl
    | succ d ih =>
      intro f s hd
      have hj : f < q.2.length := by omega
      have hp := h.2.2 _ (List.getElem_mem hj)
      rw [h_X0_beginnings_12, cF (nI_ge hj (by omega)), s_X5_symbolAt h (by omega), ci_s, s_X8_isTm_sy h, ci_s, bz, gD hj, List.drop_eq_getElem_cons hj]
      simp only [bgs]
      by_cases h16 : q.2[f] ≤ 16
      · rw [decide_eq_false (show ¬ 17 ≤ q.2[f] by omega), cond_false, s_X8_isNt_sy h, ci_s, gD hj, bz, decide_eq_true hp.1, decide_eq_true h16, Bool.and_self, cond_true, if_pos h16, sy_in h hj, gD hj, inT (show q.2[f] - 1 < 16 by omega) (by decide), hx, s_X8_isIn x (by omega), ci_s, bn, nI_clamp (by omega), hF _ (show q.2[f] - 1 < 16 by omega), nI_add, ih _ _ (by omega)]
        cases bt x (q.2[f] - 1) <;> rfl
      · rw [decide_eq_true (show 17 ≤ q.2[f] by omega), cond_true, if_neg h16, sy_in h hj, gD hj, show nI (q.2[f] - 1) - nI 16 = nI (q.2[f] - 17) from (pk_sub (show 16 ≤ q.2[f] - 1 by omega)).trans (by congr 1)]
  rw [e_X0_beginnings, s_X5_length h, ci_s]
  exact key (q.2.length - f) f (nI 0) (by omega)
theorem s_X9_firstOf {q : PR} (h : okp q) {τ : si_M} (x : Int32) {F : Nat → Int32} (hF : ∀ j, j < 16 → τ.1 41 j = F j) {f : Nat} (hf : f ≤ q.2.length) : si_sc gP nX9_firstOf [.ref 29, .long (lN (en q)), .int (nI f), .int x] τ = some (some (.int (bgs x F (q.2.drop f) (nI 0))), τ) := by
  have hw := h.2.1
  have stop : ∀ (f : Nat) (s : Int32), f < 2 ^ 31 → si_sem gP nX9_firstOf 9 [.ref 29, .long (lN (en q)), si_U, si_U, .int x, .int s, .int (nI 0), .int (nI f), si_U] [] τ = some (some (.int s), τ) := by
    intro f s hf
    rw [h_X9_firstOf_9, s_X9_at h hf, ci_s, cT rfl]
    cases decide (nI 8 ≤ nI f) <;> cases decide (nI (q.2.getD f 0) ≤ nI 0) <;> rfl
  have key : ∀ (d f : Nat) (s : Int32), f + d = q.2.length → si_sem gP nX9_firstOf 9 [.ref 29, .long (lN (en q)), si_U, si_U, .int x, .int s, .int (nI 1), .int (nI f), si_U] [] τ = some (some (.int (bgs x F (q.2.drop f) s)), τ) := by
    intro d
    induction d with
    | zero =>
      intro f s hd
      rw [h_X9_firstOf_9, s_X9_at h (by omega), ci_s, getD_out (by omega), cT (nI_le (Nat.le_refl 0) (by decide)), List.drop_eq_nil_of_le (by omega)]
      cases decide (nI 8 ≤ nI f) <;> rfl
    | succ d ih =>
      intro f s hd
      have hj : f < q.2.length := by omega
      have hp := h.2.2 _ (List.getElem_mem hj)
      rw [h_X9_firstOf_9, cF (nI_ge (show f < 8 by omega) (by omega)), s_X9_at h (by omega), ci_s, gD hj, cF (nI_ge (show 0 < q.2[f] by omega) (by omega)), cF (by decide), s_X9_at h (by omega), ci_s, gD hj, s_X9_isNonterminal (by omega), ci_s, bz, decide_eq_true hp.1, Bool.true_and, List.drop_eq_getElem_cons hj]
      simp only [bgs]
      by_cases h16 : q.2[f] ≤ 16
      · rw [decide_eq_true h16, cond_true, if_pos h16, sub1 (by omega), inT (show q.2[f] - 1 < 16 by omega) (by decide), s_X9_isNonterminal (by omega), ci_s, bz, decide_eq_true hp.1, decide_eq_true h16, Bool.and_self, cond_true, ssh1 x (by omega), bo, nI_clamp (by omega), hF _ (show q.2[f] - 1 < 16 by omega), nI_add, ih _ _ (by omega), stop _ _ (by omega)]
        cases bt x (q.2[f] - 1) <;> rfl
      · rw [decide_eq_false h16, cond_false, if_neg h16, s_X9_isNonterminal (by omega), ci_s, bz, decide_eq_false h16, Bool.and_false, cond_false, nI_add, stop _ _ (by omega), pk_sub (show 17 ≤ q.2[f] by omega)]
  rw [e_X9_firstOf]
  exact key (q.2.length - f) f (nI 0) (by omega)
-- rounds
def fr1 (x : Int32) (F : Nat → Int32) (q : PR) : Nat → Int32 := upd F q.1 (F q.1 ||| bgs x F q.2 (nI 0))
def frnd (x : Int32) (G : List PR) (F : Nat → Int32) : Nat → Int32 := G.foldl (fr1 x) F
theorem s_X0_grow {g : Nat} (hg : g = 10 ∨ g = 11) {k : Nat} (hk : k < 16) (v : Int32) (σ : si_M) (L : Nat → Int32) : si_sc gP nX0_grow [.ref g, .int (nI k), .int v] (lm g σ L) = some (some (.int (bI (!decide (L k ||| v = L k)))), lm g σ (upd L k (L k ||| v))) := by
  rw [e_X0_grow g hg, cF (nI_nlt (Nat.zero_le k) (by omega)), cT (nI_lt hk (by omega)), inT hk (by decide), inT hk (by decide), inT hk (by decide), nI_clamp (by omega), lm_at hk, sI_same, lm_sI hk]
  by_cases e : L k ||| v = L k
  · rw [cT e, decide_eq_true e]; rfl
  · rw [cF e, decide_eq_false e]; rfl
theorem bI_or (a b : Bool) : bI a ||| bI b = bI (a || b) := by cases a <;> cases b <;> rfl
theorem fold_pair {α β : Type} (f : α → β → α) (p : α → β → Bool) (hp : ∀ a b, p a b = false → f a b = a) : ∀ (l : List β) (a : α) (c : Bool), ((l.foldl (fun (s : α × Bool) b => (f s.1 b, s.2 || p s.1 b)) (a, c)).1 = l.foldl f a) ∧ ((l.foldl (fun (s : α × Bool) b => (f s.1 b, s.2 || p s.1 b)) (a, c)).2 = false → c = false ∧ l.foldl f a = a) := by
  intro l
  induction l with
  | nil => intro a c; exact ⟨rfl, fun h => ⟨h, rfl⟩⟩
  | cons b l ih =>
    intro a c
    have h := ih (f a b) (c || p a b)
    refine ⟨h.1, fun hf => ?_⟩
    have h2 := h.2 hf
    rw [Bool.or_eq_false_iff] at h2
    have e := hp a b h2.1.2
    refine ⟨h2.1.1, ?_⟩
    rw [List.foldl_cons, e]
    have h3 := h2.2
    rw [e] at h3
    exact h3
theorem s_X0_findFirsts {σ : si_M} {S : List PR × Bool} (hm : Gm σ 3 S) (hG : Gok S.1) {x : Int32} (hx : σ.1 9 2 = x) : si_sc gP nX0_findFirsts [.ref 9, .ref 3] σ = some (none, lm 10 σ (itr (frnd x S.1) 145 Lz)) := by
  have hl := hG.1
  have hmL : ∀ L, Gm (lm 10 σ L) 3 S := fun L => hm.keep (lm_Keep 10 σ L) (by decide) (by decide)
  have inner : ∀ (r : Int32) (s : (Nat → Int32) × Bool), si_sem gP nX0_findFirsts 28 [.ref 9, .ref 3, .int (bI s.2), .int r, .int (nI 0), si_U, si_U] [] (lm 10 σ s.1) = si_sem gP nX0_findFirsts 28 [.ref 9, .ref 3, .int (bI (S.1.foldl (fun (s : (Nat → Int32) × Bool) q => (fr1 x s.1 q, s.2 || !decide (s.1 q.1 ||| bgs x s.1 q.2 (nI 0) = s.1 q.1))) s).2), .int r, .int (nI S.1.length), si_U, si_U] [] (lm 10 σ (S.1.foldl (fun (s : (Nat → Int32) × Bool) q => (fr1 x s.1 q, s.2 || !decide (s.1 q.1 ||| bgs x s.1 q.2 (nI 0) = s.1 q.1))) s).1) := by
    intro r s
    refine lp_fold' (F := fun i (s : (Nat → Int32) × Bool) => si_sem gP nX0_findFirsts 28 [.ref 9, .ref 3, .int (bI s.2), .int r, .int (nI i), si_U, si_U] [] (lm 10 σ s.1)) (G := S.1) (f := fun (s : (Nat → Int32) × Bool) q => (fr1 x s.1 q, s.2 || !decide (s.1 q.1 ||| bgs x s.1 q.2 (nI 0) = s.1 q.1))) (fun i a hi => ?_) s
    try dsimp only
    have hok := hG.2.1.at hi
    have hle := hok.1
    rw [h_X0_findFirsts_28, e_X2_count 3 (by decide), ci_s, (hmL _).1, cF (nI_ge hi (by omega)), s_X2_at (by decide) (hmL _) hl hi, cl_s, s_X5_left hok, ci_s, s_X0_beginnings hok (show (lm 10 σ a.1).1 9 2 = x by rw [lm_ne (by decide)]; exact hx) (fun j hj => lm_at hj) (Nat.zero_le _), ci_s, s_X0_grow (by decide) hle, ci_s, bI_or, nI_add, List.drop_zero]
    rfl
  have key : ∀ (n r : Nat) (L : Nat → Int32) (b : Bool), r + n = 145 → (b = false → frnd x S.1 L = L) → si_sem gP nX0_findFirsts 12 [.ref 9, .ref 3, .int (bI b), .int (nI r), si_U, si_U, si_U] [] (lm 10 σ L) = some (none, lm 10 σ (itr (frnd x S.1) n L)) := by
    intro n
    induction n with
    | zero =>
      intro r L b hr _
      rw [h_X0_findFirsts_12, cT (nI_le (show 145 ≤ r by omega) (by omega))]
      cases decide (bI b = nI 0) <;> rfl
    | succ n ih =>
      intro r L b hr hb
      cases b with
      | false => rw [h_X0_findFirsts_12, cT (show bI false = nI 0 from rfl), itr_fix (hb rfl)]
      | true =>
        have hi := inner (nI r) (L, false)
        have hp := fold_pair (fr1 x) (fun s q => !decide (s q.1 ||| bgs x s q.2 (nI 0) = s q.1)) (fun a q h => by
          have e : a q.1 ||| bgs x a q.2 (nI 0) = a q.1 := of_decide_eq_true (by simpa using h)
          unfold fr1; rw [e, upd_self]) S.1 L false
        rw [h_X0_findFirsts_12, cF (show ¬ bI true = nI 0 by decide), cF (nI_ge (show r < 145 by omega) (by omega))]
        refine hi.trans ?_
        rw [h_X0_findFirsts_28, e_X2_count 3 (by decide), ci_s, (hmL _).1, cT (nI_le (Nat.le_refl _) (by omega)), nI_add, hp.1]
        refine ih (r + 1) _ _ (by omega) (fun hf => ?_)
        have e := (hp.2 hf).2
        show frnd x S.1 (S.1.foldl (fr1 x) L) = _
        rw [e]
        exact e
  rw [e_X0_findFirsts, show si_sc gP nJ7_fill_53178 [.ref 10, .int (nI 0)] σ = some (none, lm 10 σ Lz) from s_fillI (by decide) (nI 0) σ, cv_s]
  exact key 145 0 Lz true (by omega) (fun h => by cases h)
