/-! FOLLOW of the model; both come to rest in seventeen rounds; the facts of firstSet, followSet, isLl1 -/
theorem s_X9_layFollows {σ : si_M} {G : List PR} (h1 : σ.1 29 1 = nI G.length) (h2 : Row (σ.2 30) G) (hG : Gok G) : si_sc gP nX9_layFollows [.ref 29] σ = some (none, lm 42 (lm 41 σ (itr (frnd (clo false G) G) 17 Lz)) (itr (lrnd (clo false G) (itr (frnd (clo false G) G) 17 Lz) G) 17 H0)) := by
  have hl := hG.1
  rw [e_X9_layFollows, s_X9_layFirsts h1 h2 hG, cv_s]
  generalize hF : itr (frnd (clo false G) G) 17 Lz = F
  have e1 : (lm 41 σ F).1 29 1 = nI G.length := by rw [lm_ne (by decide)]; exact h1
  have e2 : Row ((lm 41 σ F).2 30) G := by rw [lm_2]; exact h2
  have eF : ∀ j, j < 16 → (lm 41 σ F).1 41 j = F j := fun j hj => lm_at hj
  rw [s_X9_nullables e1 e2 hG, ci_s]
  generalize lm 41 σ F = τ at e1 e2 eF ⊢
  generalize clo false G = x
  have e1' : ∀ L, (lm 42 τ L).1 29 1 = nI G.length := fun L => by rw [lm_ne (by decide)]; exact e1
  have eF' : ∀ L j, j < 16 → (lm 42 τ L).1 41 j = F j := fun L j hj => by rw [lm_ne (by decide)]; exact eF j hj
  have word : ∀ (r : Int32) (i : Nat) (hi : i < G.length) (d j : Nat) (H : Nat → Int32), j + d = G[i].2.length → si_sem gP nX9_layFollows 61 [.ref 29, .int x, .int r, .int (nI i), .int (nI j), si_U] [] (lm 42 τ H) = si_sem gP nX9_layFollows 50 [.ref 29, .int x, .int r, .int (nI (i + 1)), si_U, si_U] [] (lm 42 τ (flw x F G[i].1 (G[i].2.drop j) H)) := by
    intro r i hi d
    have hok := hG.2.1.at hi
    have hw := hok.2.1
    have hle := hok.1
    induction d with
    | zero =>
      intro j H hd
      rw [h_X9_layFollows_61, inT (by omega) (by decide), nI_clamp (by omega), lm_2, e2.at hi, s_X9_at hok (by omega), ci_s, getD_out (by omega), cT (nI_le (Nat.le_refl 0) (by decide)), nI_add, List.drop_eq_nil_of_le (by omega)]
      rfl
    | succ d ih =>
      intro j H hd
      have hj : j < G[i].2.length := by omega
      have hp := hok.2.2 _ (List.getElem_mem hj)
      have atj : ∀ (σ : si_M), si_sc gP nX9_at [.long (lN (en G[i])), .int (nI j)] σ = some (some (.int (nI G[i].2[j])), σ) := fun σ => by rw [s_X9_at hok (by omega), gD hj]
      rw [h_X9_layFollows_61, inT (by omega) (by decide), nI_clamp (by omega), lm_2, e2.at hi, atj, ci_s, cF (nI_ge (show 0 < G[i].2[j] by omega) (by omega)), inT (by omega) (by decide), lm_2, e2.at hi, atj, ci_s, s_X9_isNonterminal (by omega), ci_s, bz, decide_eq_true hp.1, Bool.true_and, nI_add, List.drop_eq_getElem_cons hj]
      simp only [flw]
      by_cases h16 : G[i].2[j] ≤ 16
      · have ha : G[i].2[j] - 1 < 16 := by omega
        rw [decide_eq_true h16, cond_true, if_pos h16, sub1 (by omega), inT ha (by decide), inT (by omega) (by decide), lm_2, e2.at hi, s_X9_firstOf hok x (eF' H) (show j + 1 ≤ G[i].2.length by omega), ci_s, inT (by omega) (by decide), lm_2, e2.at hi, show si_sc gP nX9_allIn [.long (lN (en G[i])), .int (nI (j + 1)), .int x, .int (nI 0)] (lm 42 τ H) = _ from s_X9_allIn hok x false (show j + 1 ≤ G[i].2.length by omega) _, ci_s, bz, inT ha (by decide), inT (by omega) (by decide), lm_2, e2.at hi, s_X9_left hok, ci_s, inT hle (by decide), inT ha (by decide), nI_clamp (by omega), nI_clamp (by omega), lm_at ha, lm_at hle, lm_sI ha, lm_sI ha, ih _ _ (by omega), ih _ _ (by omega)]
        unfold cmA
        cases (G[i].2.drop (j + 1)).all (inS x false) <;> rfl
      · rw [decide_eq_false h16, cond_false, if_neg h16, ih _ _ (by omega)]
  have inner : ∀ (r : Int32) (L : Nat → Int32), si_sem gP nX9_layFollows 50 [.ref 29, .int x, .int r, .int (nI 0), si_U, si_U] [] (lm 42 τ L) = si_sem gP nX9_layFollows 50 [.ref 29, .int x, .int r, .int (nI G.length), si_U, si_U] [] (lm 42 τ (lrnd x F G L)) := by
    intro r L
    refine lp_fold' (F := fun i L => si_sem gP nX9_layFollows 50 [.ref 29, .int x, .int r, .int (nI i), si_U, si_U] [] (lm 42 τ L)) (G := G) (f := fun H q => flw x F q.1 q.2 H) (fun i L hi => ?_) L
    try dsimp only
    rw [h_X9_layFollows_50, e1', cF (nI_ge hi (by omega)), word r i hi G[i].2.length 0 L (by omega), List.drop_zero]
  have key : ∀ (d r : Nat) (L : Nat → Int32), r + d = 17 → si_sem gP nX9_layFollows 42 [.ref 29, .int x, .int (nI r), si_U, si_U, si_U] [] (lm 42 τ L) = some (none, lm 42 τ (itr (lrnd x F G) d L)) := by
    intro d
    induction d with
    | zero =>
      intro r L hr
      rw [h_X9_layFollows_42, cT (nI_lt (show 16 < r by omega) (by omega))]
      rfl
    | succ d ih =>
      intro r L hr
      rw [h_X9_layFollows_42, cF (nI_nlt (show r ≤ 16 by omega) (by decide)), inner, h_X9_layFollows_50, e1', cT (nI_le (Nat.le_refl _) (by omega)), nI_add]
      exact ih (r + 1) _ (by omega)
  refine (clear_16 (F := fun i σ => si_sem gP nX9_layFollows 11 [.ref 29, .int x, .int (nI i), si_U, si_U, si_U] [] σ) (k := 42) (v := H0) (fun i σ hi => ?_) τ).trans ?_
  · try dsimp only
    rw [h_X9_layFollows_11, cF (nI_ge hi (by decide)), inT hi (by decide), nI_add, nI_clamp (by omega)]
    by_cases h0 : i = 0
    · subst h0
      rw [nF rfl, inT (by decide) (by decide)]
      rfl
    · rw [nT (nI_eqF h0 (by omega) (by decide))]
      congr 2
      simp [H0, upd, h0, Lz]
  · try dsimp only
    rw [h_X9_layFollows_11, cT (nI_le (Nat.le_refl _) (by decide))]
    exact key 17 0 H0 (by omega)
-- coming to rest, bit by bit
theorem itr_stabE {α : Type} {f : α → α} (E : α → α → Prop) (ht : ∀ a b c, E a b → E b c → E a c) (hE : ∀ a b, E a b → E (f a) (f b)) (m : α → Nat) (hm : ∀ a, E (f a) a ∨ m (f a) < m a) : ∀ (n : Nat) (a : α), m a ≤ n → E (f (itr f n a)) (itr f n a) := by
  have hit : ∀ (n : Nat) (a b : α), E a b → E (itr f n a) (itr f n b) := by
    intro n
    induction n with
    | zero => intro a b h; exact h
    | succ n ih => intro a b h; exact ih _ _ (hE a b h)
  have hc : ∀ (n : Nat) (a : α), itr f n (f a) = f (itr f n a) := by
    intro n
    induction n with
    | zero => intro a; rfl
    | succ n ih => intro a; exact ih (f a)
  intro n
  induction n with
  | zero =>
    intro a h
    rcases hm a with e | e
    · exact e
    · omega
  | succ n ih =>
    intro a h
    rcases hm a with e | e
    · rw [← hc]; exact hit (n + 1) _ _ e
    · exact ih (f a) (by omega)
def Et (t : Nat) (F F' : Nat → Int32) : Prop := ∀ y, bt (F y) t = bt (F' y) t
theorem Et_upd {t : Nat} {F F' : Nat → Int32} (h : Et t F F') {k : Nat} {v v' : Int32} (hv : bt v t = bt v' t) : Et t (upd F k v) (upd F' k v') := by
  intro y
  simp only [upd]
  split
  · exact hv
  · exact h y
theorem bgs_E {t : Nat} (x : Int32) {F F' : Nat → Int32} (h : Et t F F') : ∀ (w : List Nat) (s s' : Int32), bt s t = bt s' t → bt (bgs x F w s) t = bt (bgs x F' w s') t := by
  intro w
  induction w with
  | nil => intro s s' hs; exact hs
  | cons a w ih =>
    intro s s' hs
    simp only [bgs]
    split
    · split
      · exact ih _ _ (by rw [b_or, b_or, hs, h])
      · rw [b_or, b_or, hs, h]
    · rw [b_or, b_or, hs]
theorem fold_E {α β : Type} (E : α → α → Prop) {f : α → β → α} (hf : ∀ a a' b, E a a' → E (f a b) (f a' b)) : ∀ (l : List β) (a a' : α), E a a' → E (l.foldl f a) (l.foldl f a') := by
  intro l
  induction l with
  | nil => intro a a' h; exact h
  | cons b l ih => intro a a' h; exact ih _ _ (hf a a' b h)
theorem frnd_E {t : Nat} (x : Int32) (G : List PR) (F F' : Nat → Int32) (h : Et t F F') : Et t (frnd x G F) (frnd x G F') := fold_E (f := fr1 x) (Et t) (fun a a' q h => by
  unfold fr1
  exact Et_upd h (by rw [b_or, b_or, h, bgs_E x h q.2 _ _ rfl])) G F F' h
theorem flw_E {t : Nat} (x : Int32) (F : Nat → Int32) (l : Nat) : ∀ (w : List Nat) (H H' : Nat → Int32), Et t H H' → Et t (flw x F l w H) (flw x F l w H') := by
  intro w
  induction w with
  | nil => intro H H' h; exact h
  | cons a w ih =>
    intro H H' h
    simp only [flw]
    refine ih _ _ ?_
    split
    · refine Et_upd h ?_
      unfold cmA
      rw [b_or, b_or, b_or, b_or, h]
      split
      · rw [h]
      · rfl
    · exact h
theorem lrnd_E {t : Nat} (x : Int32) (F : Nat → Int32) (G : List PR) (H H' : Nat → Int32) (h : Et t H H') : Et t (lrnd x F G H) (lrnd x F G H') := fold_E (Et t) (fun a a' q h => flw_E x F q.1 q.2 a a' h) G H H' h
/-- grows, and only in the first sixteen places -/
def Gr (F F' : Nat → Int32) : Prop := ∀ y, sub (F y) (F' y) ∧ (16 ≤ y → F' y = F y)
theorem Gr_rf (F : Nat → Int32) : Gr F F := fun y => ⟨sub_rf _, fun _ => rfl⟩
theorem Gr_tr {F F' F'' : Nat → Int32} (h1 : Gr F F') (h2 : Gr F' F'') : Gr F F'' := fun y => ⟨sub_tr (h1 y).1 (h2 y).1, fun hy => ((h2 y).2 hy).trans ((h1 y).2 hy)⟩
theorem Gr_upd (F : Nat → Int32) {k : Nat} (hk : k < 16) (v : Int32) : Gr F (upd F k (F k ||| v)) := by
  intro y
  simp only [upd]
  split
  · rename_i e
    subst e
    exact ⟨sub_or, fun hy => by omega⟩
  · exact ⟨sub_rf _, fun _ => rfl⟩
theorem frnd_Gr (x : Int32) {G : List PR} (hG : Oks G) (F : Nat → Int32) : Gr F (frnd x G F) := fold_inv (P := Gr F) G F (fun a q hq h => Gr_tr h (Gr_upd a (hG q hq).1 _)) (Gr_rf F)
theorem flw_Gr (x : Int32) (F : Nat → Int32) (l : Nat) : ∀ (w : List Nat) (H : Nat → Int32), (∀ a ∈ w, 1 ≤ a ∧ a ≤ 24) → Gr H (flw x F l w H) := by
  intro w
  induction w with
  | nil => intro H _; exact Gr_rf H
  | cons a w ih =>
    intro H hw
    simp only [flw]
    have ha := hw a (List.mem_cons_self ..)
    refine Gr_tr ?_ (ih _ (fun b hb => hw b (List.mem_cons_of_mem _ hb)))
    split
    · exact Gr_upd H (by omega) _
    · exact Gr_rf H
theorem lrnd_Gr (x : Int32) (F : Nat → Int32) {G : List PR} (hG : Oks G) (H : Nat → Int32) : Gr H (lrnd x F G H) := fold_inv (P := Gr H) G H (fun a q hq h => Gr_tr h (flw_Gr x F q.1 q.2 a (hG q hq).2.2)) (Gr_rf H)
theorem rest17 {f : (Nat → Int32) → (Nat → Int32)} (hE : ∀ t F F', Et t F F' → Et t (f F) (f F')) (hg : ∀ F, Gr F (f F)) (F : Nat → Int32) : f (itr f 17 F) = itr f 17 F := by
  funext y
  refine b_ext (fun t ht => ?_)
  refine itr_stabE (Et t) (fun a b c h1 h2 y => (h1 y).trans (h2 y)) (hE t) (fun F => (List.range 16).countP (fun y => !bt (F y) t)) (fun F => ?_) 17 F ?_ y
  · by_cases he : Et t (f F) F
    · exact Or.inl he
    · refine Or.inr (cnt_lt _ (fun a ha hq => ?_) ?_)
      · cases hx : bt (F a) t with
        | false => rfl
        | true => rw [((hg F) a).1 t ht hx] at hq; cases hq
      · refine Classical.byContradiction (fun hc => he (fun y => ?_))
        by_cases hy : y < 16
        · cases hx : bt (F y) t with
          | true => exact ((hg F) y).1 t ht hx
          | false =>
            cases hf : bt (f F y) t with
            | false => rfl
            | true => exact absurd ⟨y, List.mem_range.mpr hy, by rw [hx]; rfl, by rw [hf]; rfl⟩ hc
        · rw [((hg F) y).2 (by omega)]
  · have := List.countP_le_length (p := fun y => !bt (F y) t) (l := List.range 16)
    rw [List.length_range] at this
    omega
theorem rest145 {f : (Nat → Int32) → (Nat → Int32)} (hE : ∀ t F F', Et t F F' → Et t (f F) (f F')) (hg : ∀ F, Gr F (f F)) (F : Nat → Int32) : itr f 145 F = itr f 17 F := by
  rw [show 145 = 17 + 128 from rfl, itr_add, itr_fix (rest17 hE hg F)]
/-- FIRST and FOLLOW of a grammar -/
def Fi (G : List PR) : Nat → Int32 := itr (frnd (clo false G) G) 17 Lz
def Fo (G : List PR) : Nat → Int32 := itr (lrnd (clo false G) (Fi G) G) 17 H0
theorem s_X0_study {σ : si_M} {S : List PR × Bool} (hm : Gm σ 3 S) (hG : Gok S.1) : ∃ τ, si_sc gP nX0_study [.ref 9, .ref 3] σ = some (none, τ) ∧ Keep csc σ τ ∧ τ.1 9 2 = clo false S.1 ∧ (∀ j, j < 16 → τ.1 10 j = Fi S.1 j) ∧ ∀ j, j < 16 → τ.1 11 j = Fo S.1 j := by
  have hk0 : Keep csc σ (si_sI σ 9 2 (clo false S.1)) := Keep.sI σ (by decide) 2 _
  have hm0 := hm.keep hk0 (by decide) (by decide)
  have hx0 : (si_sI σ 9 2 (clo false S.1)).1 9 2 = clo false S.1 := sI_same σ 9 2 _
  rw [e_X0_study, s_X2_nullable (by decide) hm hG, ci_s]
  generalize si_sI σ 9 2 (clo false S.1) = ρ at hk0 hm0 hx0 ⊢
  rw [s_X0_findFirsts hm0 hG hx0, cv_s, rest145 (fun t => frnd_E _ _) (frnd_Gr _ hG.2.1)]
  have hk1 : Keep csc σ (lm 10 ρ (Fi S.1)) := hk0.tr (lm_csc (by decide) _ _)
  have hm1 : Gm (lm 10 ρ (Fi S.1)) 3 S := hm0.keep (lm_Keep 10 ρ _) (by decide) (by decide)
  have hx1 : (lm 10 ρ (Fi S.1)).1 9 2 = clo false S.1 := by rw [lm_ne (by decide)]; exact hx0
  have hF1 : ∀ j, j < 16 → (lm 10 ρ (Fi S.1)).1 10 j = Fi S.1 j := fun j hj => lm_at hj
  change ∃ τ, (si_cv (si_sc gP nX0_findFollows [.ref 9, .ref 3] (lm 10 ρ (Fi S.1))) fun σ2_15 => some (none, σ2_15)) = some (none, τ) ∧ _
  generalize lm 10 ρ (Fi S.1) = ρ' at hk1 hm1 hx1 hF1 ⊢
  rw [s_X0_findFollows hm1 hG (low_clo false hG.2.1) hx1 hF1, cv_s, rest145 (fun t => lrnd_E _ _ _) (lrnd_Gr _ _ hG.2.1)]
  exact ⟨_, rfl, hk1.tr (lm_csc (by decide) _ _), by rw [lm_ne (by decide)]; exact hx1, fun j hj => by rw [lm_ne (by decide)]; exact hF1 j hj, fun j hj => lm_at hj⟩
