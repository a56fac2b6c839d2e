/-! FIRST of the model; FOLLOW of both -/
theorem clear_16 {F : Nat → si_M → Option si_O} {k : Nat} {v : Nat → Int32} (hs : ∀ i σ, i < 16 → F i σ = F (i + 1) (si_sI σ k i (v i))) (σ : si_M) : F 0 σ = F 16 (lm k σ v) := by
  have key : ∀ (d i : Nat) (σ : si_M), i + d = 16 → F i σ = F 16 (wI σ k (fun b => if i ≤ b ∧ b < 16 then v b else σ.1 k b)) := by
    intro d
    induction d with
    | zero =>
      intro i σ h
      have e : i = 16 := by omega
      subst e
      congr 1
      have : (fun b => if 16 ≤ b ∧ b < 16 then v b else σ.1 k b) = σ.1 k := by
        funext b
        rw [if_neg (by omega)]
      rw [this, wI_id]
    | succ d ih =>
      intro i σ h
      rw [hs i σ (by omega), ih (i + 1) _ (by omega)]
      congr 1
      refine Prod.ext ?_ rfl
      funext a b
      simp only [wI, si_sI]
      by_cases ha : a = k
      · subst ha
        rw [if_pos rfl, if_pos rfl]
        by_cases hb : b = i
        · subst hb
          simp
          intro hh
          omega
        · by_cases h1 : i + 1 ≤ b ∧ b < 16
          · rw [if_pos h1, if_pos (by omega)]
          · rw [if_neg h1]
            simp [hb]
            intro h2 h3
            omega
      · rw [if_neg ha, if_neg ha]
        simp [ha]
  rw [key 16 0 σ (by omega)]
  congr 1
  unfold lm
  congr 1
  funext b
  simp [fx]
theorem s_X9_layFirsts {σ : si_M} {G : List PR} (h1 : σ.1 29 1 = nI G.length) (h2 : Row (σ.2 30) G) (hG : Gok G) : si_sc gP nX9_layFirsts [.ref 29] σ = some (none, lm 41 σ (itr (frnd (clo false G) G) 17 Lz)) := by
  have hl := hG.1
  have h1' : ∀ L, (lm 41 σ L).1 29 1 = nI G.length := fun L => by rw [lm_ne (by decide)]; exact h1
  generalize hx : clo false G = x
  have inner : ∀ (r : Int32) (L : Nat → Int32), si_sem gP nX9_layFirsts 36 [.ref 29, .int x, .int r, .int (nI 0)] [] (lm 41 σ L) = si_sem gP nX9_layFirsts 36 [.ref 29, .int x, .int r, .int (nI G.length)] [] (lm 41 σ (frnd x G L)) := by
    intro r L
    refine lp_fold' (F := fun i L => si_sem gP nX9_layFirsts 36 [.ref 29, .int x, .int r, .int (nI i)] [] (lm 41 σ L)) (G := G) (f := fr1 x) (fun i L hi => ?_) L
    try dsimp only
    have hok := hG.2.1.at hi
    have hle := hok.1
    rw [h_X9_layFirsts_36, h1', cF (nI_ge hi (by omega)), inT (by omega) (by decide), nI_clamp (by omega), lm_2, h2.at hi, s_X9_left hok, ci_s, inT hle (by decide), inT (by omega) (by decide), lm_2, h2.at hi, s_X9_firstOf hok x (fun j hj => lm_at hj) (Nat.zero_le _), ci_s, inT hle (by decide), nI_add, nI_clamp (by omega), lm_at hle, lm_sI hle, List.drop_zero]
    rfl
  have key : ∀ (d r : Nat) (L : Nat → Int32), r + d = 17 → si_sem gP nX9_layFirsts 28 [.ref 29, .int x, .int (nI r), si_U] [] (lm 41 σ L) = some (none, lm 41 σ (itr (frnd x G) d L)) := by
    intro d
    induction d with
    | zero =>
      intro r L hr
      rw [h_X9_layFirsts_28, cT (nI_lt (show 16 < r by omega) (by omega))]
      rfl
    | succ d ih =>
      intro r L hr
      rw [h_X9_layFirsts_28, cF (nI_nlt (show r ≤ 16 by omega) (by decide)), inner, h_X9_layFirsts_36, h1', cT (nI_le (Nat.le_refl _) (by omega)), nI_add]
      exact ih (r + 1) _ (by omega)
  rw [e_X9_layFirsts, s_X9_nullables h1 h2 hG, ci_s, hx]
  refine (clear_16 (F := fun i σ => si_sem gP nX9_layFirsts 7 [.ref 29, .int x, .int (nI i), si_U] [] σ) (k := 41) (v := Lz) (fun i σ hi => ?_) σ).trans ?_
  · try dsimp only
    rw [h_X9_layFirsts_7, cF (nI_ge hi (by decide)), inT hi (by decide), nI_add, nI_clamp (by omega)]
    rfl
  · try dsimp only
    rw [h_X9_layFirsts_7, cT (nI_le (Nat.le_refl _) (by decide))]
    exact key 17 0 Lz (by omega)
theorem all_low {x : Int32} (hx : low x) (w : List Nat) : w.all (fun a => bt x (a - 1)) = w.all (inS x false) := by
  congr 1
  funext a
  unfold inS
  split
  · rfl
  · exact hx _ (by omega)
/-- what can come behind the first part of a right side: the rest's beginnings, and what follows the left side if the rest can be empty -/
def cmA (x : Int32) (F H : Nat → Int32) (l : Nat) (w : List Nat) : Int32 := bgs x F w (nI 0) ||| (if w.all (inS x false) then H l else nI 0)
theorem s_X0_followOf {k : Nat} (hk : k < 16) (τ : si_M) : si_sc gP nX0_followOf [.ref 9, .int (nI k)] τ = some (some (.int (τ.1 11 k)), τ) := by
  rw [e_X0_followOf, s_X8_isNonterminal (by omega), ci_s, bz, decide_eq_true hk, cond_true, inT hk (by decide), nI_clamp (by omega)]
theorem s_X0_firstOf {k : Nat} (hk : k < 16) (τ : si_M) : si_sc gP nX0_firstOf [.ref 9, .int (nI k)] τ = some (some (.int (τ.1 10 k)), τ) := by
  rw [e_X0_firstOf, s_X8_isNonterminal (by omega), ci_s, bz, decide_eq_true hk, cond_true, inT hk (by decide), nI_clamp (by omega)]
theorem s_X0_comingAfter {q : PR} (h : okp q) {τ : si_M} {x : Int32} (hlow : low x) {F H : Nat → Int32} (hx : τ.1 9 2 = x) (hF : ∀ j, j < 16 → τ.1 10 j = F j) (hH : ∀ j, j < 16 → τ.1 11 j = H j) {f : Nat} (hf : f ≤ q.2.length) : si_sc gP nX0_comingAfter [.ref 9, .long (lN (en q)), .int (nI f)] τ = some (some (.int (cmA x F H q.1 (q.2.drop f))), τ) := by
  rw [e_X0_comingAfter, s_X0_beginnings h hx hF hf, ci_s, hx, s_X5_staysIn h hf, ci_s, bz, all_low hlow]
  unfold cmA
  cases (q.2.drop f).all (inS x false) with
  | false => rw [cond_false, if_neg (by decide), or0']
  | true => rw [cond_true, if_pos rfl, s_X5_left h, ci_s, s_X0_followOf h.1, ci_s, hH _ h.1]
def flw (x : Int32) (F : Nat → Int32) (l : Nat) : List Nat → (Nat → Int32) → (Nat → Int32)
  | [], H => H
  | a :: w, H => flw x F l w (if a ≤ 16 then upd H (a - 1) (H (a - 1) ||| cmA x F H l w) else H)
def lrnd (x : Int32) (F : Nat → Int32) (G : List PR) (H : Nat → Int32) : Nat → Int32 := G.foldl (fun H q => flw x F q.1 q.2 H) H
/-- whether a pass over a right side changes something -/
def flb (x : Int32) (F : Nat → Int32) (l : Nat) : List Nat → (Nat → Int32) → Bool
  | [], _ => false
  | a :: w, H => if a ≤ 16 then (!decide (H (a - 1) ||| cmA x F H l w = H (a - 1))) || flb x F l w (upd H (a - 1) (H (a - 1) ||| cmA x F H l w)) else flb x F l w H
theorem flb_f (x : Int32) (F : Nat → Int32) (l : Nat) : ∀ (w : List Nat) (H : Nat → Int32), flb x F l w H = false → flw x F l w H = H := by
  intro w
  induction w with
  | nil => intro H _; rfl
  | cons a w ih =>
    intro H h
    simp only [flb] at h
    simp only [flw]
    split at h
    · rename_i h16
      rw [Bool.or_eq_false_iff] at h
      have e : H (a - 1) ||| cmA x F H l w = H (a - 1) := of_decide_eq_true (by simpa using h.1)
      have h2 := h.2
      rw [if_pos h16]
      rw [e, upd_self] at h2 ⊢
      exact ih H h2
    · rename_i h16
      rw [if_neg h16]
      exact ih H h
theorem s_X0_passFollows {q : PR} (h : okp q) {σ : si_M} {x : Int32} (hlow : low x) {F : Nat → Int32} (hx : σ.1 9 2 = x) (hF : ∀ j, j < 16 → σ.1 10 j = F j) (H : Nat → Int32) : si_sc gP nX0_passFollows [.ref 9, .long (lN (en q))] (lm 11 σ H) = some (some (.int (bI (flb x F q.1 q.2 H))), lm 11 σ (flw x F q.1 q.2 H)) := by
  have hw := h.2.1
  have key : ∀ (d f : Nat) (b : Bool) (H : Nat → Int32), f + d = q.2.length → si_sem gP nX0_passFollows 11 [.ref 9, .long (lN (en q)), si_U, .int (bI b), .int (nI q.2.length), .int (nI f), si_U] [] (lm 11 σ H) = some (some (.int (bI (b || flb x F q.1 (q.2.drop f) H))), lm 11 σ (flw x F q.1 (q.2.drop f) H)) := by
    intro d
    induction d with
    | zero =>
      intro f b H hd
      rw [h_X0_passFollows_11, cT (nI_le (show q.2.length ≤ f by omega) (by omega)), List.drop_eq_nil_of_le (by omega), bI_and]
      simp only [flb, flw, Bool.or_false]
    | succ d ih =>
      intro f b H hd
      have hj : f < q.2.length := by omega
      have hp := h.2.2 _ (List.getElem_mem hj)
      rw [h_X0_passFollows_11, cF (nI_ge hj (by omega)), s_X5_symbolAt h (by omega), ci_s, s_X8_isNt_sy h, ci_s, bz, gD hj, nI_add, List.drop_eq_getElem_cons hj, decide_eq_true hp.1, Bool.true_and]
      simp only [flb, flw]
      by_cases h16 : q.2[f] ≤ 16
      · rw [decide_eq_true h16, cond_true, if_pos h16, if_pos h16, s_X0_comingAfter h hlow (F := F) (H := H) (show (lm 11 σ H).1 9 2 = x by rw [lm_ne (by decide)]; exact hx) (fun j hj => by rw [lm_ne (by decide)]; exact hF j hj) (fun j hj => lm_at hj) (show f + 1 ≤ q.2.length by omega), ci_s, sy_in h hj, gD hj, s_X0_grow (by decide) (show q.2[f] - 1 < 16 by omega), ci_s, bI_or, ih _ _ _ (by omega), Bool.or_assoc]
      · rw [decide_eq_false h16, cond_false, if_neg h16, if_neg h16, ih _ _ _ (by omega)]
  rw [e_X0_passFollows, s_X5_length h, ci_s]
  have := key q.2.length 0 false H (by omega)
  rw [List.drop_zero, Bool.false_or] at this
  exact this
def H0 : Nat → Int32 := upd Lz 0 (nI 256)
theorem s_X0_findFollows {σ : si_M} {S : List PR × Bool} (hm : Gm σ 3 S) (hG : Gok S.1) {x : Int32} (hlow : low x) {F : Nat → Int32} (hx : σ.1 9 2 = x) (hF : ∀ j, j < 16 → σ.1 10 j = F j) : si_sc gP nX0_findFollows [.ref 9, .ref 3] σ = some (none, lm 11 σ (itr (lrnd x F S.1) 145 H0)) := by
  have hl := hG.1
  have hmL : ∀ L, Gm (lm 11 σ L) 3 S := fun L => hm.keep (lm_Keep 11 σ L) (by decide) (by decide)
  have inner : ∀ (r : Int32) (s : (Nat → Int32) × Bool), si_sem gP nX0_findFollows 37 [.ref 9, .ref 3, .int (bI s.2), .int r, .int (nI 0)] [] (lm 11 σ s.1) = si_sem gP nX0_findFollows 37 [.ref 9, .ref 3, .int (bI (S.1.foldl (fun (s : (Nat → Int32) × Bool) q => (flw x F q.1 q.2 s.1, s.2 || flb x F q.1 q.2 s.1)) s).2), .int r, .int (nI S.1.length)] [] (lm 11 σ (S.1.foldl (fun (s : (Nat → Int32) × Bool) q => (flw x F q.1 q.2 s.1, s.2 || flb x F q.1 q.2 s.1)) s).1) := by
    intro r s
    refine lp_fold' (F := fun i (s : (Nat → Int32) × Bool) => si_sem gP nX0_findFollows 37 [.ref 9, .ref 3, .int (bI s.2), .int r, .int (nI i)] [] (lm 11 σ s.1)) (G := S.1) (f := fun (s : (Nat → Int32) × Bool) q => (flw x F q.1 q.2 s.1, s.2 || flb x F q.1 q.2 s.1)) (fun i a hi => ?_) s
    try dsimp only
    have hok := hG.2.1.at hi
    rw [h_X0_findFollows_37, e_X2_count 3 (by decide), ci_s, (hmL _).1, cF (nI_ge hi (by omega)), s_X2_at (by decide) (hmL _) hl hi, cl_s, s_X0_passFollows hok hlow hx hF, ci_s, bI_or, nI_add]
  have key : ∀ (n r : Nat) (L : Nat → Int32) (b : Bool), r + n = 145 → (b = false → lrnd x F S.1 L = L) → si_sem gP nX0_findFollows 21 [.ref 9, .ref 3, .int (bI b), .int (nI r), si_U] [] (lm 11 σ L) = some (none, lm 11 σ (itr (lrnd x F S.1) n L)) := by
    intro n
    induction n with
    | zero =>
      intro r L b hr _
      rw [h_X0_findFollows_21, cT (nI_le (show 145 ≤ r by omega) (by omega))]
      cases decide (bI b = nI 0) <;> rfl
    | succ n ih =>
      intro r L b hr hb
      cases b with
      | false => rw [h_X0_findFollows_21, cT (show bI false = nI 0 from rfl), itr_fix (hb rfl)]
      | true =>
        have hi := inner (nI r) (L, false)
        have hp := fold_pair (fun H (q : PR) => flw x F q.1 q.2 H) (fun s q => flb x F q.1 q.2 s) (fun a q h => flb_f x F q.1 q.2 a h) S.1 L false
        rw [h_X0_findFollows_21, cF (show ¬ bI true = nI 0 by decide), cF (nI_ge (show r < 145 by omega) (by omega))]
        refine hi.trans ?_
        rw [h_X0_findFollows_37, e_X2_count 3 (by decide), ci_s, (hmL _).1, cT (nI_le (Nat.le_refl _) (by omega)), nI_add, hp.1]
        refine ih (r + 1) _ _ (by omega) (fun hf => ?_)
        have e := (hp.2 hf).2
        show lrnd x F S.1 (S.1.foldl (fun H q => flw x F q.1 q.2 H) L) = _
        rw [e]
        exact e
  rw [e_X0_findFollows, show si_sc gP nJ7_fill_53178 [.ref 11, .int (nI 0)] σ = some (none, lm 11 σ Lz) from s_fillI (by decide) (nI 0) σ, cv_s, inT (by decide) (by decide), clamp0, lm_sI (by decide)]
  exact key 145 0 H0 true (by omega) (fun h => by cases h)
