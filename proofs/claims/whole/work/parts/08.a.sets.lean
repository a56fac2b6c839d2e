/-! SETS AS INTS, LOOPS, AND WHAT A PRODUCTION IS MADE OF -/
theorem lp_fold {α β : Type} {F : Nat → α → Option si_O} {G : List β} {f : α → β → α} (P : α → Prop) (hP : ∀ a b, b ∈ G → P a → P (f a b)) (hs : ∀ i a (hi : i < G.length), P a → F i a = F (i + 1) (f a G[i])) (a : α) (ha : P a) : F 0 a = F G.length (G.foldl f a) ∧ P (G.foldl f a) := by
  have key : ∀ (d i : Nat) (a : α), i + d = G.length → P a → F i a = F G.length ((G.drop i).foldl f a) ∧ P ((G.drop i).foldl f a) := by
    intro d
    induction d with
    | zero =>
      intro i a h ha
      have e : i = G.length := by omega
      subst e
      simp [ha]
    | succ d ih =>
      intro i a h ha
      have hi : i < G.length := by omega
      have h1 := ih (i + 1) (f a G[i]) (by omega) (hP a _ (List.getElem_mem hi) ha)
      rw [List.drop_eq_getElem_cons hi, List.foldl_cons, hs i a hi ha]
      exact h1
  have := key G.length 0 a (by omega) ha
  simpa using this
theorem lp_fold' {α β : Type} {F : Nat → α → Option si_O} {G : List β} {f : α → β → α} (hs : ∀ i a (hi : i < G.length), F i a = F (i + 1) (f a G[i])) (a : α) : F 0 a = F G.length (G.foldl f a) := (lp_fold (fun _ => True) (fun _ _ _ _ => trivial) (fun i a hi _ => hs i a hi) a trivial).1
/-- a loop that ends at the first that p names -/
theorem lp_any {β : Type} {F : Nat → Option si_O} {G : List β} {p : β → Bool} {X Y : Option si_O} (hs : ∀ i (hi : i < G.length), F i = cond (p G[i]) X (F (i + 1))) (he : F G.length = Y) : ∀ i, i ≤ G.length → F i = cond ((G.drop i).any p) X Y := by
  have key : ∀ (d i : Nat), i + d = G.length → F i = cond ((G.drop i).any p) X Y := by
    intro d
    induction d with
    | zero =>
      intro i h
      have e : i = G.length := by omega
      subst e
      simp [he]
    | succ d ih =>
      intro i h
      have hi : i < G.length := by omega
      rw [List.drop_eq_getElem_cons hi, List.any_cons, hs i hi, ih (i + 1) (by omega)]
      cases p G[i] <;> rfl
  exact fun i hi => key (G.length - i) i (by omega)
theorem lp_all {β : Type} {F : Nat → Option si_O} {G : List β} {p : β → Bool} {X Y : Option si_O} (hs : ∀ i (hi : i < G.length), F i = cond (p G[i]) (F (i + 1)) X) (he : F G.length = Y) : ∀ i, i ≤ G.length → F i = cond ((G.drop i).all p) Y X := by
  intro i hi
  rw [lp_any (p := fun b => !p b) (X := X) (Y := Y) (fun j hj => by rw [hs j hj]; cases p G[j] <;> rfl) he i hi]
  have : (G.drop i).any (fun b => !p b) = !(G.drop i).all p := by
    induction G.drop i with
    | nil => rfl
    | cons b l ih => simp only [List.any_cons, List.all_cons, ih, Bool.not_and]
  rw [this]
  cases (G.drop i).all p <;> rfl
theorem bt1 (i : Nat) : bt (nI 1) i = decide (i = 0) := by
  by_cases hi : i < 32
  · have : ∀ j : Fin 32, bt (nI 1) j.1 = decide (j.1 = 0) := by decide
    exact this ⟨i, hi⟩
  · rw [b_big (by omega), decide_eq_false (by omega)]
theorem and1 (x : Int32) : x &&& nI 1 = bI (bt x 0) := by
  apply b_ext
  intro i hi
  rw [b_and, bt1]
  have e : ∀ b : Bool, bt (bI b) i = (b && decide (i = 0)) := by
    intro b
    cases b
    · show bt 0 i = _; rw [b_0]; rfl
    · show bt (nI 1) i = _; rw [bt1]; rfl
  rw [e]
  by_cases h : i = 0
  · rw [h]
  · rw [decide_eq_false h, Bool.and_false, Bool.and_false]
theorem ush1 (x : Int32) {n : Nat} (hn : n < 32) : si_iushr x (nI n) &&& nI 1 = bI (bt x n) := by
  rw [and1]
  unfold si_iushr
  rw [b_ushr n hn]
  rfl
theorem ssh1 (x : Int32) {n : Nat} (hn : n < 32) : si_ishr x (nI n) &&& nI 1 = bI (bt x n) := by
  rw [and1]
  unfold si_ishr
  rw [show (31 : Int32) = nI 31 from rfl] at *
  have := b_sshr n hn x (i := 0) (by decide)
  rw [show (31 : Int32) = nI 31 from rfl] at this
  rw [this, if_pos (by omega)]
  rfl
theorem bt_sh {n : Nat} (hn : n < 32) {i : Nat} (hi : i < 32) : bt (si_ishl (nI 1) (nI n)) i = decide (i = n) := by
  unfold si_ishl
  rw [b_shl n hn _ hi, bt1]
  by_cases h : i = n
  · rw [h, decide_eq_true (Nat.le_refl n), decide_eq_true (by omega), decide_eq_true rfl]; rfl
  · rw [decide_eq_false h]
    by_cases h2 : n ≤ i
    · rw [decide_eq_false (show ¬ i - n = 0 by omega), Bool.and_false]
    · rw [decide_eq_false h2, Bool.false_and]
theorem bI_1 (b : Bool) : bI b = nI 1 ↔ b = true := by cases b <;> decide
theorem bo {α : Type} (b : Bool) (x y : α) : cond (!decide (bI b = nI 1)) x y = cond b y x := by cases b <;> rfl
theorem bo' {α : Type} (b : Bool) (x y : α) : cond (decide (bI b = nI 1)) x y = cond b x y := by cases b <;> rfl
theorem s_X8_isIn (x : Int32) {s : Nat} (hs : s < 24) (σ : si_M) : si_sc gP nX8_isIn [.int x, .int (nI s)] σ = some (some (.int (bI (bt x s))), σ) := by
  rw [e_X8_isIn, cF (nI_nlt (Nat.zero_le s) (by omega)), cF (nI_ge hs (by decide)), ush1 x (by omega), bz]
  cases bt x s <;> rfl
theorem s_X8_isIn_m (x : Int32) (σ : si_M) : si_sc gP nX8_isIn [.int x, .int (-1)] σ = some (some (.int (bI false)), σ) := by
  rw [e_X8_isIn, cT (by decide)]
  rfl
section SY
variable {q : PR}
theorem s_X8_isIn_sy (h : okp q) (x : Int32) {i : Nat} (hi : i < q.2.length) (σ : si_M) : si_sc gP nX8_isIn [.int x, .int (sy q i)] σ = some (some (.int (bI (bt x (q.2[i] - 1)))), σ) := by
  have hp := h.2.2 _ (List.getElem_mem hi)
  have e : q.2.getD i 0 = q.2[i] := by simp [List.getD, hi]
  rw [sy_in h hi, e, s_X8_isIn x (by omega)]
theorem gD {w : List Nat} {i : Nat} (hi : i < w.length) : w.getD i 0 = w[i] := by simp [List.getD, hi]
theorem s_X5_staysIn (h : okp q) {f : Nat} (hf : f ≤ q.2.length) (x : Int32) (σ : si_M) : si_sc gP nX5_staysIn [.long (lN (en q)), .int (nI f), .int x] σ = some (some (.int (bI ((q.2.drop f).all (fun a => bt x (a - 1))))), σ) := by
  have hl := h.2.1
  rw [e_X5_staysIn, s_X5_length h, ci_s]
  rw [lp_all (F := fun i => si_sem gP nX5_staysIn 9 [.long (lN (en q)), si_U, si_U, .int x, .int (nI q.2.length), .int (nI i)] [] σ) (G := q.2) (p := fun a => bt x (a - 1)) (X := some (some (.int (nI 0)), σ)) (Y := some (some (.int (nI 1)), σ)) ?_ ?_ f hf]
  · cases (q.2.drop f).all (fun a => bt x (a - 1)) <;> rfl
  · intro i hi
    try dsimp only
    rw [h_X5_staysIn_9, cF (nI_ge hi (by omega)), s_X5_symbolAt h (by omega), ci_s, s_X8_isIn_sy h x hi, ci_s, bn, nI_add]
  · try dsimp only
    rw [h_X5_staysIn_9, cT (nI_le (Nat.le_refl _) (by omega))]
/-- in a set of nonterminals; of terminals T says -/
def inS (x : Int32) (T : Bool) (a : Nat) : Bool := if a ≤ 16 then bt x (a - 1) else T
theorem l_X9_allIn (h : okp q) (x : Int32) (T : Bool) (σ : si_M) : ∀ (d f : Nat) (b : Bool), f + d = q.2.length → si_sem gP nX9_allIn 6 [.long (lN (en q)), si_U, si_U, .int x, .int (bI T), .int (bI b), .int (nI f), si_U] [] σ = some (some (.int (bI (b && (q.2.drop f).all (inS x T)))), σ) := by
  have hl := h.2.1
  intro d
  induction d with
  | zero =>
    intro f b hd
    rw [h_X9_allIn_6, List.drop_eq_nil_of_le (by omega)]
    simp only [List.all_nil, Bool.and_true, bI_and]
    by_cases h8 : 8 ≤ f
    · rw [cT (nI_le h8 (by omega))]
    · rw [cF (nI_ge (by omega) (by decide)), s_X9_at h (by omega), ci_s, getD_out (by omega), cT (nI_le (Nat.le_refl 0) (by decide))]
  | succ d ih =>
    intro f b hd
    have hi : f < q.2.length := by omega
    have hp := h.2.2 _ (List.getElem_mem hi)
    rw [h_X9_allIn_6, cF (nI_ge (show f < 8 by omega) (by decide)), s_X9_at h (by omega), ci_s, gD hi, cF (nI_ge (show 0 < q.2[f] by omega) (by omega)), s_X9_at h (by omega), ci_s, gD hi, bz, nI_add, List.drop_eq_getElem_cons hi, List.all_cons]
    cases b with
    | false =>
      rw [cond_false]
      have := ih (f + 1) false (by omega)
      rw [Bool.false_and] at this ⊢
      exact this
    | true =>
      rw [cond_true, s_X9_isNonterminal (by omega), ci_s, bz, decide_eq_true hp.1, Bool.true_and, Bool.true_and]
      by_cases h16 : q.2[f] ≤ 16
      · have e : inS x T q.2[f] = bt x (q.2[f] - 1) := by unfold inS; rw [if_pos h16]
        rw [decide_eq_true h16, cond_true, sub1 (by omega), ssh1 x (by omega), bo, e]
        cases bt x (q.2[f] - 1) with
        | false =>
          rw [cond_false, Bool.false_and]
          have := ih (f + 1) false (by omega)
          rw [Bool.false_and] at this
          exact this
        | true =>
          rw [cond_true, Bool.true_and]
          have := ih (f + 1) true (by omega)
          rw [Bool.true_and] at this
          exact this
      · have e : inS x T q.2[f] = T := by unfold inS; rw [if_neg h16]
        rw [decide_eq_false h16, cond_false, bz, e]
        cases T with
        | false =>
          rw [cond_false, Bool.false_and]
          have := ih (f + 1) false (by omega)
          rw [Bool.false_and] at this
          exact this
        | true =>
          rw [cond_true, Bool.true_and]
          have := ih (f + 1) true (by omega)
          rw [Bool.true_and] at this
          exact this
theorem s_X9_allIn (h : okp q) (x : Int32) (T : Bool) {f : Nat} (hf : f ≤ q.2.length) (σ : si_M) : si_sc gP nX9_allIn [.long (lN (en q)), .int (nI f), .int x, .int (bI T)] σ = some (some (.int (bI ((q.2.drop f).all (inS x T)))), σ) := by
  rw [e_X9_allIn]
  have := l_X9_allIn h x T σ (q.2.length - f) f true (by omega)
  rw [Bool.true_and] at this
  exact this
end SY
/-- only bits of nonterminals -/
def low (x : Int32) : Prop := ∀ i, 16 ≤ i → bt x i = false
theorem low0 : low (nI 0) := fun i _ => b_0 i
theorem low_or {x y : Int32} (hx : low x) (hy : low y) : low (x ||| y) := fun i hi => by rw [b_or, hx i hi, hy i hi]; rfl
theorem low_sh {n : Nat} (hn : n < 16) : low (si_ishl (nI 1) (nI n)) := fun i hi => by
  by_cases h : i < 32
  · rw [bt_sh (by omega) h, decide_eq_false (by omega)]
  · exact b_big (by omega)
/-- one round: the left sides of what is made of the set come to it -/
def rnd (T : Bool) (G : List PR) (x : Int32) : Int32 := G.foldl (fun s q => if q.2.all (inS s T) then s ||| si_ishl (nI 1) (nI q.1) else s) x
def msk (T : Bool) : Int32 := if T then nI 16711680 else nI 0
theorem bt_msk (T : Bool) {i : Nat} (hi : i < 24) : bt (msk T) i = (T && decide (16 ≤ i)) := by
  cases T
  · show bt 0 i = _; rw [b_0]; rfl
  · have : ∀ j : Fin 24, bt (nI 16711680) j.1 = decide (16 ≤ j.1) := by decide
    exact this ⟨i, hi⟩
theorem all_msk {q : PR} (h : okp q) {x : Int32} (hx : low x) (T : Bool) : q.2.all (fun a => bt (x ||| msk T) (a - 1)) = q.2.all (inS x T) := by
  have : ∀ w : List Nat, (∀ a ∈ w, 1 ≤ a ∧ a ≤ 24) → w.all (fun a => bt (x ||| msk T) (a - 1)) = w.all (inS x T) := by
    intro w
    induction w with
    | nil => intro _; rfl
    | cons a w ih =>
      intro hw
      have ha := hw a List.mem_cons_self
      rw [List.all_cons, List.all_cons, ih (fun b hb => hw b (List.mem_cons_of_mem _ hb)), b_or, bt_msk T (by omega)]
      congr 1
      unfold inS
      by_cases h16 : a ≤ 16
      · rw [if_pos h16, decide_eq_false (by omega), Bool.and_false, Bool.or_false]
      · rw [if_neg h16, hx _ (by omega), decide_eq_true (by omega), Bool.and_true, Bool.false_or]
  exact this q.2 h.2.2
theorem low_rnd {T : Bool} {G : List PR} (hG : Oks G) : ∀ {x : Int32}, low x → low (rnd T G x) := by
  unfold rnd
  induction G with
  | nil => intro x hx; exact hx
  | cons q G ih =>
    intro x hx
    rw [List.foldl_cons]
    refine ih (fun p hp => hG p (List.mem_cons_of_mem _ hp)) ?_
    split
    · exact low_or hx (low_sh (hG q List.mem_cons_self).1)
    · exact hx
def itr {α : Type} (f : α → α) : Nat → α → α
  | 0, a => a
  | n + 1, a => itr f n (f a)
theorem itr_fix {α : Type} {f : α → α} {a : α} (h : f a = a) : ∀ n, itr f n a = a := by
  intro n
  induction n with
  | zero => rfl
  | succ n ih => unfold itr; rw [h]; exact ih
/-- what can be derived: seventeen rounds -/
def clo (T : Bool) (G : List PR) : Int32 := itr (rnd T G) 17 (nI 0)
theorem r_X2_derivable {g : Nat} (hg : g = 3 ∨ g = 25) {σ : si_M} {S : List PR × Bool} (hm : Gm σ g S) (hG : Gok S.1) (T : Bool) (r : Int32) (o : Int32) (x : Int32) (hx : low x) : si_sem gP nX2_derivable 24 [.ref g, .int (msk T), .int x, si_U, .int r, .int o, .int (nI 0)] [] σ = si_sem gP nX2_derivable 24 [.ref g, .int (msk T), .int (rnd T S.1 x), si_U, .int r, .int o, .int (nI S.1.length)] [] σ := by
  have hl := hG.1
  refine (lp_fold (F := fun i x => si_sem gP nX2_derivable 24 [.ref g, .int (msk T), .int x, si_U, .int r, .int o, .int (nI i)] [] σ) (G := S.1) (f := fun s q => if q.2.all (inS s T) then s ||| si_ishl (nI 1) (nI q.1) else s) low (fun a b hb ha => ?_) (fun i a hi ha => ?_) x hx).1
  · try dsimp only
    split
    · exact low_or ha (low_sh (hG.2.1 b hb).1)
    · exact ha
  · try dsimp only
    have hok := hG.2.1.at hi
    rw [h_X2_derivable_24 g hg, hm.1, cF (nI_ge hi (by omega)), inT (by omega) (by decide), nI_clamp (by omega), hm.2.2.at hi, s_X5_staysIn hok (Nat.zero_le _), ci_s, bz, List.drop_zero, all_msk hok ha, nI_add]
    cases hb : S.1[i].2.all (inS a T) with
    | false => rw [cond_false]; rfl
    | true => rw [cond_true, inT (by omega) (by decide), hm.2.2.at hi, s_X5_left hok, ci_s]; rfl
theorem s_X2_derivable {g : Nat} (hg : g = 3 ∨ g = 25) {σ : si_M} {S : List PR × Bool} (hm : Gm σ g S) (hG : Gok S.1) (T : Bool) : si_sc gP nX2_derivable [.ref g, .int (msk T)] σ = some (some (.int (clo T S.1)), σ) := by
  have hl := hG.1
  have key : ∀ (d r : Nat) (x : Int32), r + d = 17 → low x → si_sem gP nX2_derivable 7 [.ref g, .int (msk T), .int x, .int (nI 1), .int (nI r), si_U, si_U] [] σ = some (some (.int (itr (rnd T S.1) d x)), σ) := by
    intro d
    induction d with
    | zero =>
      intro r x hr hx
      rw [h_X2_derivable_7 g hg, cF (by decide), cT (nI_lt (show 16 < r by omega) (by omega))]
      rfl
    | succ d ih =>
      intro r x hr hx
      rw [h_X2_derivable_7 g hg, cF (by decide), cF (nI_nlt (show r ≤ 16 by omega) (by decide)), r_X2_derivable hg hm hG T _ _ x hx, h_X2_derivable_24 g hg, hm.1, cT (nI_le (Nat.le_refl _) (by omega)), nI_add]
      by_cases he : rnd T S.1 x = x
      · rw [cT he, h_X2_derivable_7 g hg, cT rfl]
        show _ = some (some (Value.int (itr (rnd T S.1) d (rnd T S.1 x))), σ)
        rw [he, itr_fix he]
      · rw [cF he]
        exact ih (r + 1) (rnd T S.1 x) (by omega) (low_rnd hG.2.1 hx)
  rw [e_X2_derivable g hg]
  exact key 17 0 (nI 0) (by omega) low0
theorem s_X9_closedUnder {σ : si_M} {G : List PR} (h1 : σ.1 29 1 = nI G.length) (h2 : Row (σ.2 30) G) (hG : Gok G) (T : Bool) : si_sc gP nX9_closedUnder [.ref 29, .int (bI T)] σ = some (some (.int (clo T G)), σ) := by
  have hl := hG.1
  have inner : ∀ (r : Int32) (x : Int32), si_sem gP nX9_closedUnder 13 [.ref 29, .int (bI T), .int x, .int r, .int (nI 0)] [] σ = si_sem gP nX9_closedUnder 13 [.ref 29, .int (bI T), .int (rnd T G x), .int r, .int (nI G.length)] [] σ := by
    intro r x
    refine lp_fold' (F := fun i x => si_sem gP nX9_closedUnder 13 [.ref 29, .int (bI T), .int x, .int r, .int (nI i)] [] σ) (G := G) (f := fun s q => if q.2.all (inS s T) then s ||| si_ishl (nI 1) (nI q.1) else s) (fun i a hi => ?_) x
    try dsimp only
    have hok := hG.2.1.at hi
    rw [h_X9_closedUnder_13, h1, cF (nI_ge hi (by omega)), inT (by omega) (by decide), nI_clamp (by omega), h2.at hi, s_X9_allIn hok a T (Nat.zero_le _), ci_s, bz, List.drop_zero, nI_add]
    cases hb : G[i].2.all (inS a T) with
    | false => rw [cond_false, show a ||| nI 0 = a from Int32.or_zero]; rfl
    | true => rw [cond_true, inT (by omega) (by decide), h2.at hi, s_X9_left hok, ci_s]; rfl
  have key : ∀ (d r : Nat) (x : Int32), r + d = 17 → si_sem gP nX9_closedUnder 4 [.ref 29, .int (bI T), .int x, .int (nI r), si_U] [] σ = some (some (.int (itr (rnd T G) d x)), σ) := by
    intro d
    induction d with
    | zero =>
      intro r x hr
      rw [h_X9_closedUnder_4, cT (nI_lt (show 16 < r by omega) (by omega))]
      rfl
    | succ d ih =>
      intro r x hr
      rw [h_X9_closedUnder_4, cF (nI_nlt (show r ≤ 16 by omega) (by decide)), inner, h_X9_closedUnder_13, h1, cT (nI_le (Nat.le_refl _) (by omega)), nI_add]
      exact ih (r + 1) (rnd T G x) (by omega)
  rw [e_X9_closedUnder]
  exact key 17 0 (nI 0) (by omega)
theorem s_X2_nullable {g : Nat} (hg : g = 3 ∨ g = 25) {σ : si_M} {S : List PR × Bool} (hm : Gm σ g S) (hG : Gok S.1) : si_sc gP nX2_nullable [.ref g] σ = some (some (.int (clo false S.1)), σ) := by
  rw [e_X2_nullable g hg, show nI 0 = msk false from rfl, s_X2_derivable hg hm hG false, ci_s]
theorem s_X2_productive {g : Nat} (hg : g = 3 ∨ g = 25) {σ : si_M} {S : List PR × Bool} (hm : Gm σ g S) (hG : Gok S.1) : si_sc gP nX2_productive [.ref g] σ = some (some (.int (clo true S.1)), σ) := by
  rw [e_X2_productive g hg, show nI 16711680 = msk true from rfl, s_X2_derivable hg hm hG true, ci_s]
theorem s_X9_nullables {σ : si_M} {G : List PR} (h1 : σ.1 29 1 = nI G.length) (h2 : Row (σ.2 30) G) (hG : Gok G) : si_sc gP nX9_nullables [.ref 29] σ = some (some (.int (clo false G)), σ) := by
  rw [e_X9_nullables, show nI 0 = bI false from rfl, s_X9_closedUnder h1 h2 hG false, ci_s]
theorem s_X9_productives {σ : si_M} {G : List PR} (h1 : σ.1 29 1 = nI G.length) (h2 : Row (σ.2 30) G) (hG : Gok G) : si_sc gP nX9_productives [.ref 29] σ = some (some (.int (clo true G)), σ) := by
  rw [e_X9_productives, show nI 1 = bI true from rfl, s_X9_closedUnder h1 h2 hG true, ci_s]
theorem fact_nullableSet (σ : si_M) (h : gI σ) : ∃ (r : Int32) (σ1 σ2 : si_M), si_sc gP nX8_nullableSet (.ref 0 :: []) σ = some (some (.int r), σ1) ∧ si_sc gP nX9_nullableSet (.ref 29 :: []) σ1 = some (some (.int r), σ2) ∧ gI σ2 := by
  refine fact_i h (fun A => clo false A.2.1) id (fun A h => h) (fun A σ hA h => ⟨σ, ?_, h, KC.rf⟩) (fun A σ hA h => ⟨σ, ?_, h, KM.rf⟩)
  · rw [e_X8_nullableSet, s_X2_nullable (by decide) h.2.2.1 hA.2.1, ci_s]
  · rw [e_X9_nullableSet, s_X9_nullables h.2.2.1 h.2.2.2.1 hA.2.1, ci_s]
theorem fact_productiveSet (σ : si_M) (h : gI σ) : ∃ (r : Int32) (σ1 σ2 : si_M), si_sc gP nX8_productiveSet (.ref 0 :: []) σ = some (some (.int r), σ1) ∧ si_sc gP nX9_productiveSet (.ref 29 :: []) σ1 = some (some (.int r), σ2) ∧ gI σ2 := by
  refine fact_i h (fun A => clo true A.2.1) id (fun A h => h) (fun A σ hA h => ⟨σ, ?_, h, KC.rf⟩) (fun A σ hA h => ⟨σ, ?_, h, KM.rf⟩)
  · rw [e_X8_productiveSet, s_X2_productive (by decide) h.2.2.1 hA.2.1, ci_s]
  · rw [e_X9_productiveSet, s_X9_productives h.2.2.1 h.2.2.2.1 hA.2.1, ci_s]
