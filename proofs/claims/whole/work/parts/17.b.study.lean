/-! short words: the class's rounds -/
def orL (A B : LT) : LT := (A.1 ||| B.1, A.2.1 ||| B.2.1, A.2.2 ||| B.2.2)
def k1L (L : Nat → LT) (q : PR) : Nat → LT := fun x => if x = q.1 then orL (L q.1) (rW L q.2 e1L) else L x
def k1b (L : Nat → LT) (q : PR) : Bool := !decide (orL (L q.1) (rW L q.2 e1L) = L q.1)
def sr (G : List PR) (L : Nat → LT) : Nat → LT := G.foldl k1L L
def srb (G : List PR) (L : Nat → LT) : Bool := (G.foldl (fun (s : (Nat → LT) × Bool) q => (k1L s.1 q, s.2 || k1b s.1 q)) (L, false)).2
theorem k1_f {L : Nat → LT} {q : PR} (h : k1b L q = false) : k1L L q = L := by
  unfold k1b at h
  have e : orL (L q.1) (rW L q.2 e1L) = L q.1 := of_decide_eq_true (by simpa using h)
  funext x
  unfold k1L
  by_cases hx : x = q.1
  · rw [if_pos hx, e, hx]
  · rw [if_neg hx]
def sb64 (x y : Int64) : Prop := ∀ i, lb x i = true → lb y i = true
def LTs (A B : LT) : Prop := sb64 A.1 B.1 ∧ sb64 A.2.1 B.2.1 ∧ sb64 A.2.2 B.2.2
theorem sb64_rf (x : Int64) : sb64 x x := fun _ h => h
theorem sb64_an {x y : Int64} (h1 : sb64 x y) (h2 : sb64 y x) : x = y := lb_ext (fun i _ => by
  cases hx : lb x i with
  | true => rw [h1 i hx]
  | false =>
    cases hy : lb y i with
    | false => rfl
    | true => rw [h2 i hy] at hx; cases hx)
theorem sb64_or {x y : Int64} : sb64 x (x ||| y) := fun i h => by rw [lb_or, h]; rfl
theorem LTs_rf (A : LT) : LTs A A := ⟨sb64_rf _, sb64_rf _, sb64_rf _⟩
theorem LTs_tr {A B C : LT} (h1 : LTs A B) (h2 : LTs B C) : LTs A C := ⟨fun i h => h2.1 i (h1.1 i h), fun i h => h2.2.1 i (h1.2.1 i h), fun i h => h2.2.2 i (h1.2.2 i h)⟩
theorem LTs_an {A B : LT} (h1 : LTs A B) (h2 : LTs B A) : A = B := Prod.ext (sb64_an h1.1 h2.1) (Prod.ext (sb64_an h1.2.1 h2.2.1) (sb64_an h1.2.2 h2.2.2))
theorem LTs_or {A B : LT} : LTs A (orL A B) := ⟨sb64_or, sb64_or, sb64_or⟩
def Ls (L M : Nat → LT) : Prop := ∀ x, LTs (L x) (M x)
theorem Ls_rf (L : Nat → LT) : Ls L L := fun _ => LTs_rf _
theorem Ls_tr {L M N : Nat → LT} (h1 : Ls L M) (h2 : Ls M N) : Ls L N := fun x => LTs_tr (h1 x) (h2 x)
theorem Ls_an {L M : Nat → LT} (h1 : Ls L M) (h2 : Ls M L) : L = M := funext fun x => LTs_an (h1 x) (h2 x)
theorem k1_s (L : Nat → LT) (q : PR) : Ls L (k1L L q) := by
  intro x
  unfold k1L
  by_cases hx : x = q.1
  · rw [if_pos hx, hx]; exact LTs_or
  · rw [if_neg hx]; exact LTs_rf _
theorem sr_s (G : List PR) (L : Nat → LT) : Ls L (sr G L) := fold_inv (P := Ls L) _ _ (fun a q _ h => Ls_tr h (k1_s a q)) (Ls_rf L)
theorem orL_ok {A B : LT} (hA : Lok A) (hB : Lok B) : Lok (orL A B) := by
  refine ⟨?_, fun i hi => ?_⟩
  · show A.1 ||| B.1 = lN 0 ∨ A.1 ||| B.1 = lN 1
    rcases hA.1 with h | h <;> rcases hB.1 with h' | h' <;> rw [h, h'] <;> decide
  · show lb (A.2.1 ||| B.2.1) i = false
    rw [lb_or, hA.2 i hi, hB.2 i hi]; rfl
def LLok (L : Nat → LT) : Prop := ∀ x, Lok (L x)
theorem e1_ok : Lok e1L := ⟨Or.inr rfl, fun i _ => lb_0 i⟩
theorem rW_ok {L : Nat → LT} (hL : LLok L) {w : List Nat} (hw : ∀ a ∈ w, a ≤ 24) : Lok (rW L w e1L) := (rW_iff hL w e1L hw e1_ok).1
theorem k1_ok {L : Nat → LT} (hL : LLok L) {q : PR} (hq : okp q) : LLok (k1L L q) := by
  intro x
  unfold k1L
  split
  · exact orL_ok (hL _) (rW_ok hL (fun a ha => (hq.2.2 a ha).2))
  · exact hL x
theorem sr_ok {G : List PR} (hG : Oks G) {L : Nat → LT} (hL : LLok L) : LLok (sr G L) := fold_inv (P := LLok) _ _ (fun a q hq h => k1_ok h (hG q hq)) hL
theorem sr_o {G : List PR} (hG : Oks G) (L : Nat → LT) : ∀ x, 16 ≤ x → sr G L x = L x := fold_inv (P := fun M : Nat → LT => ∀ x, 16 ≤ x → M x = L x) _ _ (fun a q hq h x hx => by
  have := (hG q hq).1
  unfold k1L
  rw [if_neg (by omega)]
  exact h x hx) (fun _ _ => rfl)
/-- one of the 73 words -/
def wb3 (A : LT) (k : Nat) : Bool := if k = 0 then lb A.1 0 else if k < 9 then lb A.2.1 (k - 1) else lb A.2.2 (k - 9)
def zL (L : Nat → LT) : Nat := (List.range 1168).countP (fun k => !wb3 (L (k / 73)) (k % 73))
theorem zL_le (L : Nat → LT) : zL L ≤ 1168 := by
  unfold zL
  refine Nat.le_trans (List.countP_le_length ..) ?_
  rw [List.length_range]
  exact Nat.le_refl _
theorem wb3_ext {A B : LT} (hA : Lok A) (hB : Lok B) (h : ∀ k, k < 73 → wb3 A k = wb3 B k) : A = B := by
  have h0 := h 0 (by decide)
  have e1 : A.1 = B.1 := by
    have h0 : lb A.1 0 = lb B.1 0 := h0
    rcases hA.1 with x | x <;> rcases hB.1 with y | y <;> rw [x, y] at h0 ⊢ <;> exact absurd h0 (by decide)
  have e2 : A.2.1 = B.2.1 := lb_ext (fun i hi => by
    by_cases h8 : i < 8
    · have := h (i + 1) (by omega)
      unfold wb3 at this
      rw [if_neg (by omega), if_pos (by omega), if_neg (by omega), if_pos (by omega)] at this
      exact this
    · rw [hA.2 i (by omega), hB.2 i (by omega)])
  have e3 : A.2.2 = B.2.2 := lb_ext (fun i hi => by
    have := h (i + 9) (by omega)
    unfold wb3 at this
    rw [if_neg (by omega), if_neg (by omega), if_neg (by omega), if_neg (by omega)] at this
    exact this)
  exact Prod.ext e1 (Prod.ext e2 e3)
theorem wb3_s {A B : LT} (h : LTs A B) {k : Nat} (hb : wb3 A k = true) : wb3 B k = true := by
  unfold wb3 at hb ⊢
  split at hb
  · rw [if_pos (by assumption)]; exact h.1 _ hb
  · rw [if_neg (by assumption)]
    split at hb
    · rw [if_pos (by assumption)]; exact h.2.1 _ hb
    · rw [if_neg (by assumption)]; exact h.2.2 _ hb
theorem sr_z {G : List PR} (hG : Oks G) {L : Nat → LT} (hL : LLok L) : sr G L = L ∨ zL (sr G L) < zL L := by
  by_cases h : sr G L = L
  · exact Or.inl h
  · right
    have hs := sr_s G L
    have hk := sr_ok hG hL
    have ho := sr_o hG L
    have : ∃ x, x < 16 ∧ ∃ k, k < 73 ∧ wb3 (L x) k = false ∧ wb3 (sr G L x) k = true := by
      apply Classical.byContradiction
      intro hn
      apply h
      funext x
      rcases Nat.lt_or_ge x 16 with hx | hx
      · refine wb3_ext (hk x) (hL x) (fun k hk73 => ?_)
        cases hb : wb3 (L x) k with
        | true => exact wb3_s (hs x) hb
        | false =>
          cases hb2 : wb3 (sr G L x) k with
          | false => rfl
          | true => exact absurd ⟨x, hx, k, hk73, hb, hb2⟩ hn
      · exact ho x hx
    obtain ⟨x, h1, k, h2, h3, h4⟩ := this
    unfold zL
    refine cnt_lt _ (fun j _ hj => ?_) ⟨73 * x + k, List.mem_range.mpr (by omega), ?_, ?_⟩
    · cases hb : wb3 (L (j / 73)) (j % 73) with
      | false => rfl
      | true => rw [wb3_s (hs _) hb] at hj; cases hj
    · rw [show (73 * x + k) / 73 = x by omega, show (73 * x + k) % 73 = k by omega, h3]; rfl
    · rw [show (73 * x + k) / 73 = x by omega, show (73 * x + k) % 73 = k by omega, h4]; rfl
def z3 : Nat → LT := fun _ => (lN 0, lN 0, lN 0)
theorem z3_ok : LLok z3 := fun _ => ⟨Or.inl rfl, fun i _ => lb_0 i⟩
def shW (G : List PR) : Nat → LT := itr (sr G) 1169 z3
theorem sh_fix {G : List PR} (hG : Oks G) : sr G (shW G) = shW G := itr_stab LLok (fun a ha => sr_ok hG ha) zL (fun a ha => sr_z hG ha) 1169 _ z3_ok (Nat.le_trans (zL_le _) (by decide))
theorem sh_ok {G : List PR} (hG : Oks G) : LLok (shW G) := itr_inv (P := LLok) (fun a ha => sr_ok hG ha) 1169 _ z3_ok
-- the machine
theorem s_X6_pairs (h t : Int64) (σ : si_M) : si_sc gP nX6_pairs [.long h, .long t] σ = some (some (.long (prs h t)), σ) := by
  rw [e_X6_pairs]
  refine (lp_fold' (F := fun i s => si_sem gP nX6_pairs 6 [.long h, si_U, .long t, si_U, .long s, si_U, .int (nI i)] [] σ) (G := List.range 8) (f := fun s i => if lb h i then s ||| si_lshl t (nI (8 * i)) else s) (fun i s hi => ?_) (lN 0)).trans ?_
  · have hi : i < 8 := by simpa using hi
    rw [List.getElem_range]
    try dsimp only
    rw [h_X6_pairs_6, cF (nI_ge hi (by decide)), nI_mul, nI_add]
    cases hb : lb h i with
    | false => rw [cT ((lc0 _).mpr ((lb_shr1 h (by omega)).mpr hb))]; rfl
    | true => rw [cF (fun e => by rw [(lb_shr1 h (by omega)).mp ((lc0 _).mp e)] at hb; cases hb)]; rfl
  · try dsimp only
    rw [List.length_range, h_X6_pairs_6, cT (nI_le (Nat.le_refl _) (by decide))]
    rfl
def R20 (σ : si_M) (A : LT) : Prop := σ.2 20 3 = A.1 ∧ σ.2 20 4 = A.2.1 ∧ σ.2 20 5 = A.2.2
theorem R20.mk (σ : si_M) (a b c : Int64) : R20 (si_sJ (si_sJ (si_sJ σ 20 3 a) 20 4 b) 20 5 c) (a, b, c) := ⟨by rw [sJ_nj _ _ _ (by decide), sJ_nj _ _ _ (by decide), sJ_same], by rw [sJ_nj _ _ _ (by decide), sJ_same], sJ_same _ _ _ _⟩
theorem K20 (σ : si_M) (a b c : Int64) : Keep [20] σ (si_sJ (si_sJ (si_sJ σ 20 3 a) 20 4 b) 20 5 c) := ((Keep.sJ σ (by decide) _ _).tr (Keep.sJ _ (by decide) _ _)).tr (Keep.sJ _ (by decide) _ _)
theorem s_X6_readOn {σ : si_M} {A : LT} (h : R20 σ A) (B : LT) : ∃ τ, si_sc gP nX6_readOn [.ref 20, .long B.1, .long B.2.1, .long B.2.2] σ = some (none, τ) ∧ R20 τ (rOn A B) ∧ Keep [20] σ τ := by
  rw [e_X6_readOn, s_X6_pairs, cl_s, h.1, h.2.1, h.2.2]
  unfold rOn
  by_cases hA : A.1 = lN 0
  · by_cases hB : B.1 = lN 0
    · rw [cT ((lc0 _).mpr hA), cT ((lc0 _).mpr hB), cT ((lc0 _).mpr hA), cT ((lc0 _).mpr hB), if_pos hA, if_pos hB, if_pos hA, if_pos hB]
      exact ⟨_, rfl, R20.mk .., K20 _ _ _ _⟩
    · rw [cT ((lc0 _).mpr hA), cF (fun e => hB ((lc0 _).mp e)), cT ((lc0 _).mpr hA), cF (fun e => hB ((lc0 _).mp e)), if_pos hA, if_neg hB, if_pos hA, if_neg hB]
      exact ⟨_, rfl, R20.mk .., K20 _ _ _ _⟩
  · by_cases hB : B.1 = lN 0
    · rw [cF (fun e => hA ((lc0 _).mp e)), cT ((lc0 _).mpr hB), cF (fun e => hA ((lc0 _).mp e)), cT ((lc0 _).mpr hB), if_neg hA, if_pos hB, if_neg hA, if_pos hB]
      exact ⟨_, rfl, R20.mk .., K20 _ _ _ _⟩
    · rw [cF (fun e => hA ((lc0 _).mp e)), cF (fun e => hB ((lc0 _).mp e)), cF (fun e => hA ((lc0 _).mp e)), cF (fun e => hB ((lc0 _).mp e)), if_neg hA, if_neg hB, if_neg hA, if_neg hB]
      exact ⟨_, rfl, R20.mk .., K20 _ _ _ _⟩
def A3 (σ : si_M) (L : Nat → LT) : Prop := Arr σ 21 16 (fun x => (L x).1) ∧ Arr σ 22 16 (fun x => (L x).2.1) ∧ Arr σ 23 16 (fun x => (L x).2.2)
theorem A3.keep {σ τ : si_M} {L : Nat → LT} {Z : List Nat} (h : A3 σ L) (hk : Keep Z σ τ) (h1 : 21 ∉ Z) (h2 : 22 ∉ Z) (h3 : 23 ∉ Z) : A3 τ L := ⟨h.1.keep hk h1, h.2.1.keep hk h2, h.2.2.keep hk h3⟩
theorem s_X6_readRight {σ : si_M} {L : Nat → LT} (hL : A3 σ L) {q : PR} (hq : okp q) : ∃ τ, si_sc gP nX6_readRight [.ref 20, .long (lN (en q))] σ = some (none, τ) ∧ R20 τ (rW L q.2 e1L) ∧ Keep [20] σ τ := by
  have hq8 := hq.2.1
  rw [e_X6_readRight, s_X5_length hq, ci_s]
  obtain ⟨τ, c1, c2⟩ := lp_ex (F := fun i τ => si_sem gP nX6_readRight 23 [.ref 20, .long (lN (en q)), si_U, .int (nI q.2.length), .int (nI i), si_U] [] τ) (G := q.2) (f := fun A a => rOn A (sL L a)) (R := fun τ A => R20 τ A ∧ Keep [20] σ τ) (fun i τ A hi hR => by
    obtain ⟨r1, r2⟩ := hR
    have hp := hq.2.2 _ (List.getElem_mem hi)
    have hL' := hL.keep r2 (by decide) (by decide) (by decide)
    obtain ⟨τ', a1, a2, a3⟩ := s_X6_readOn r1 (sL L q.2[i])
    refine ⟨τ', ?_, a2, r2.tr a3⟩
    try dsimp only
    rw [h_X6_readRight_23, cF (nI_ge hi (by omega)), s_X5_symbolAt hq (by omega), ci_s, sy_in hq hi, gD hi, s_X8_isNonterminal (by omega), ci_s, bz, nI_add]
    unfold sL at a1
    by_cases h16 : q.2[i] ≤ 16
    · rw [if_pos h16] at a1
      rw [decide_eq_true (show q.2[i] - 1 < 16 by omega), cond_true, inT (show q.2[i] - 1 < 16 by omega) (by decide), inT (show q.2[i] - 1 < 16 by omega) (by decide), inT (show q.2[i] - 1 < 16 by omega) (by decide), nI_clamp (by omega), hL'.1 _ (by omega), hL'.2.1 _ (by omega), hL'.2.2 _ (by omega), a1, cv_s]
    · rw [if_neg h16] at a1
      rw [decide_eq_false (show ¬ q.2[i] - 1 < 16 by omega), cond_false, pk_sub (show 16 ≤ q.2[i] - 1 by omega), show q.2[i] - 1 - 16 = q.2[i] - 17 by omega, a1, cv_s]) _ e1L ⟨R20.mk σ (lN 1) (lN 0) (lN 0), K20 _ _ _ _⟩
  obtain ⟨r1, r2⟩ := c2
  refine ⟨τ, ?_, r1, r2⟩
  refine Eq.trans c1 ?_
  try dsimp only
  rw [h_X6_readRight_23, cT (nI_le (Nat.le_refl _) (by omega))]
theorem l_andnot (x y : Int64) : (y &&& (x ^^^ (-1)) = lN 0) ↔ x ||| y = x := by
  constructor
  · intro h
    refine lb_ext (fun i hi => ?_)
    have h1 : lb (y &&& (x ^^^ (-1))) i = false := by rw [h]; exact lb_0 i
    rw [lb_and, lb_xor, lb_m1 hi] at h1
    rw [lb_or]
    cases hx : lb x i with
    | true => rfl
    | false =>
      rw [hx] at h1
      cases hy : lb y i with
      | false => rfl
      | true => rw [hy] at h1; cases h1
  · intro h
    refine lb_ext (fun i hi => ?_)
    rw [lb_and, lb_xor, lb_m1 hi, lb_0]
    have h1 : lb (x ||| y) i = lb x i := by rw [h]
    rw [lb_or] at h1
    cases hx : lb x i with
    | true => rw [Bool.true_xor]; cases lb y i <;> rfl
    | false =>
      rw [hx, Bool.false_or] at h1
      rw [h1]
      rfl
theorem l_or0 (x y : Int64) : x ||| y = lN 0 ↔ x = lN 0 ∧ y = lN 0 := by
  constructor
  · intro h
    have key : ∀ i, lb x i = false ∧ lb y i = false := fun i => by
      have : lb (x ||| y) i = false := by rw [h]; exact lb_0 i
      rw [lb_or, Bool.or_eq_false_iff] at this
      exact this
    exact ⟨lb_ext (fun i _ => by rw [(key i).1, lb_0]), lb_ext (fun i _ => by rw [(key i).2, lb_0])⟩
  · rintro ⟨rfl, rfl⟩; decide
theorem s_X6_keepRead {σ : si_M} {L : Nat → LT} (hL : A3 σ L) {q : PR} (hq : okp q) (hR : R20 σ (rW L q.2 e1L)) : ∃ τ, si_sc gP nX6_keepRead [.ref 20, .int (nI q.1)] σ = some (some (.int (bI (k1b L q))), τ) ∧ A3 τ (k1L L q) ∧ Keep [21, 22, 23] σ τ := by
  have hx := hq.1
  generalize hB : rW L q.2 e1L = B at hR
  have hfl : (((B.1 &&& ((L q.1).1 ^^^ (-1))) ||| (B.2.1 &&& ((L q.1).2.1 ^^^ (-1)))) ||| (B.2.2 &&& ((L q.1).2.2 ^^^ (-1)))) = lN 0 ↔ orL (L q.1) B = L q.1 := by
    rw [l_or0, l_or0, l_andnot, l_andnot, l_andnot]
    unfold orL
    constructor
    · rintro ⟨⟨a, b⟩, c⟩; rw [a, b, c]
    · intro h
      exact ⟨⟨congrArg (fun t : LT => t.1) h, congrArg (fun t : LT => t.2.1) h⟩, congrArg (fun t : LT => t.2.2) h⟩
  have hA3 : A3 (si_sJ (si_sJ (si_sJ σ 21 q.1 ((L q.1).1 ||| B.1)) 22 q.1 ((L q.1).2.1 ||| B.2.1)) 23 q.1 ((L q.1).2.2 ||| B.2.2)) (k1L L q) := by
    unfold k1L
    rw [hB]
    refine ⟨?_, ?_, ?_⟩
    · have := hL.1.set q.1 ((L q.1).1 ||| B.1)
      refine ((this.keep (Keep.sJ (S := [22]) (k := 22) _ (by decide) q.1 ((L q.1).2.1 ||| B.2.1)) (by decide)).keep (Keep.sJ (S := [23]) (k := 23) _ (by decide) q.1 ((L q.1).2.2 ||| B.2.2)) (by decide)).ext (fun j _ => ?_)
      try dsimp only
      by_cases h : j = q.1
      · simp only [if_pos h]; rfl
      · simp only [if_neg h]
    · have := (hL.2.1.keep (Keep.sJ (S := [21]) (k := 21) σ (by decide) q.1 ((L q.1).1 ||| B.1)) (by decide)).set q.1 ((L q.1).2.1 ||| B.2.1)
      refine (this.keep (Keep.sJ (S := [23]) (k := 23) _ (by decide) q.1 ((L q.1).2.2 ||| B.2.2)) (by decide)).ext (fun j _ => ?_)
      try dsimp only
      by_cases h : j = q.1
      · simp only [if_pos h]; rfl
      · simp only [if_neg h]
    · have := ((hL.2.2.keep (Keep.sJ (S := [21]) (k := 21) σ (by decide) q.1 ((L q.1).1 ||| B.1)) (by decide)).keep (Keep.sJ (S := [22]) (k := 22) _ (by decide) q.1 ((L q.1).2.1 ||| B.2.1)) (by decide)).set q.1 ((L q.1).2.2 ||| B.2.2)
      refine this.ext (fun j _ => ?_)
      try dsimp only
      by_cases h : j = q.1
      · simp only [if_pos h]; rfl
      · simp only [if_neg h]
  have hK : Keep [21, 22, 23] σ (si_sJ (si_sJ (si_sJ σ 21 q.1 ((L q.1).1 ||| B.1)) 22 q.1 ((L q.1).2.1 ||| B.2.1)) 23 q.1 ((L q.1).2.2 ||| B.2.2)) := ((Keep.sJ σ (by decide) _ _).tr (Keep.sJ _ (by decide) _ _)).tr (Keep.sJ _ (by decide) _ _)
  rw [e_X6_keepRead, s_X8_isNonterminal (by omega), ci_s, bn, decide_eq_true hx, cond_true]
  simp only [inI hx (by decide : (16 : Nat) < 2 ^ 31), cond_true, nI_clamp (show q.1 < 2 ^ 31 by omega), hL.1 q.1 hx, hL.2.1 q.1 hx, hL.2.2 q.1 hx, hR.1, hR.2.1, hR.2.2]
  unfold k1b
  rw [hB]
  by_cases e : orL (L q.1) B = L q.1
  · rw [cT ((lc0 _).mpr (hfl.mpr e)), decide_eq_true e]
    exact ⟨_, rfl, hA3, hK⟩
  · rw [cF (fun h => e (hfl.mp ((lc0 _).mp h))), decide_eq_false e]
    exact ⟨_, rfl, hA3, hK⟩
theorem s_X6_study {g : Nat} (hg : g = 3 ∨ g = 5) {σ : si_M} {S : List PR × Bool} (hm : Gm σ g S) (hG : Gok S.1) : ∃ τ, si_sc gP nX6_study [.ref 20, .ref g] σ = some (none, τ) ∧ A3 τ (shW S.1) ∧ Keep [20, 21, 22, 23] σ τ := by
  have hl := hG.1
  have hg4 : g = 3 ∨ g = 5 ∨ g = 25 ∨ g = 27 := by omega
  have hn1 : g ∉ [20, 21, 22, 23] := by rcases hg with rfl | rfl <;> decide
  have hn2 : g + 1 ∉ [20, 21, 22, 23] := by rcases hg with rfl | rfl <;> decide
  obtain ⟨τ1, b1, b2, b3⟩ := s_fillJ (g := 21) (by decide) (lN 0) σ
  obtain ⟨τ2, c1, c2, c3⟩ := s_fillJ (g := 22) (by decide) (lN 0) τ1
  obtain ⟨τ3, d1, d2, d3⟩ := s_fillJ (g := 23) (by decide) (lN 0) τ2
  have k3 : Keep [20, 21, 22, 23] σ τ3 := ((b3.mono (by decide)).tr (c3.mono (by decide))).tr (d3.mono (by decide))
  have a3 : A3 τ3 z3 := ⟨(b2.keep c3 (by decide)).keep d3 (by decide), c2.keep d3 (by decide), d2⟩
  rw [e_X6_study g hg, b1, cv_s, c1, cv_s, d1, cv_s]
  have inner : ∀ (r : Int32) (L : Nat → LT) (τ : si_M), A3 τ L → Keep [20, 21, 22, 23] σ τ → ∃ τ', si_sem gP nX6_study 44 [.ref 20, .ref g, .int (nI 0), .int r, .int (nI 0)] [] τ = si_sem gP nX6_study 44 [.ref 20, .ref g, .int (bI (srb S.1 L)), .int r, .int (nI S.1.length)] [] τ' ∧ A3 τ' (sr S.1 L) ∧ Keep [20, 21, 22, 23] σ τ' := by
    intro r L τ hA hk
    have key : ∀ (d i : Nat) (s : (Nat → LT) × Bool) (τ : si_M), i + d = S.1.length → A3 τ s.1 → Keep [20, 21, 22, 23] σ τ → ∃ τ', si_sem gP nX6_study 44 [.ref 20, .ref g, .int (bI s.2), .int r, .int (nI i)] [] τ = si_sem gP nX6_study 44 [.ref 20, .ref g, .int (bI ((S.1.drop i).foldl (fun (s : (Nat → LT) × Bool) q => (k1L s.1 q, s.2 || k1b s.1 q)) s).2), .int r, .int (nI S.1.length)] [] τ' ∧ A3 τ' ((S.1.drop i).foldl (fun (s : (Nat → LT) × Bool) q => (k1L s.1 q, s.2 || k1b s.1 q)) s).1 ∧ Keep [20, 21, 22, 23] σ τ' := by
      intro d
      induction d with
      | zero =>
        intro i s τ hi hA hk
        have : i = S.1.length := by omega
        subst this
        rw [List.drop_length]
        exact ⟨τ, rfl, hA, hk⟩
      | succ d ih =>
        intro i s τ hi hA hk
        have hil : i < S.1.length := by omega
        have hok := hG.2.1.at hil
        have hm' : Gm τ g S := hm.keep hk hn1 hn2
        obtain ⟨τ4, u1, u2, u3⟩ := s_X6_readRight hA hok
        have hm4 : Gm τ4 g S := hm'.keep (u3.mono (S' := [20, 21, 22, 23]) (by decide)) hn1 hn2
        obtain ⟨τ5, v1, v2, v3⟩ := s_X6_keepRead (hA.keep u3 (by decide) (by decide) (by decide)) hok u2
        rw [h_X6_study_44 g hg, e_X2_count g hg4, ci_s, hm'.1, cF (nI_ge hil (by omega)), s_X2_at hg4 hm' hl hil, cl_s, u1, cv_s, s_X2_at hg4 hm4 hl hil, cl_s, s_X5_left hok, ci_s, v1, ci_s, bI_or, nI_add, List.drop_eq_getElem_cons hil, List.foldl_cons]
        exact ih (i + 1) (k1L s.1 S.1[i], s.2 || k1b s.1 S.1[i]) τ5 (by omega) v2 ((hk.tr (u3.mono (by decide))).tr (v3.mono (by decide)))
    obtain ⟨τ', t1, t2, t3⟩ := key S.1.length 0 (L, false) τ (by omega) hA hk
    rw [List.drop_zero, (fold_pair k1L k1b (fun a b h => k1_f h) S.1 L false).1] at t2
    rw [List.drop_zero] at t1
    exact ⟨τ', t1, t2, t3⟩
  have key : ∀ (n r : Nat) (L : Nat → LT) (b : Bool) (τ : si_M), r + n = 1169 → (b = false → sr S.1 L = L) → A3 τ L → Keep [20, 21, 22, 23] σ τ → ∃ τ', si_sem gP nX6_study 28 [.ref 20, .ref g, .int (bI b), .int (nI r), si_U] [] τ = some (none, τ') ∧ A3 τ' (itr (sr S.1) n L) ∧ Keep [20, 21, 22, 23] σ τ' := by
    intro n
    induction n with
    | zero =>
      intro r L b τ hr _ hA hk
      rw [h_X6_study_28 g hg, cT (nI_le (show 1169 ≤ r by omega) (by omega))]
      refine ⟨τ, ?_, hA, hk⟩
      cases decide (bI b = nI 0) <;> rfl
    | succ n ih =>
      intro r L b τ hr hb hA hk
      cases b with
      | false =>
        rw [h_X6_study_28 g hg, cT (show bI false = nI 0 from rfl), itr_fix (hb rfl)]
        exact ⟨τ, rfl, hA, hk⟩
      | true =>
        obtain ⟨τ', t1, t2, t3⟩ := inner (nI r) L τ hA hk
        have hm' : Gm τ' g S := hm.keep t3 hn1 hn2
        rw [h_X6_study_28 g hg, cF (show ¬ bI true = nI 0 by decide), cF (nI_ge (show r < 1169 by omega) (by omega)), t1, h_X6_study_44 g hg, e_X2_count g hg4, ci_s, hm'.1, cT (nI_le (Nat.le_refl _) (by omega)), nI_add]
        refine ih (r + 1) _ _ τ' (by omega) (fun hf => ?_) t2 t3
        have e : sr S.1 L = L := ((fold_pair k1L k1b (fun a b h => k1_f h) S.1 L false).2 hf).2
        rw [e, e]
  exact key 1169 0 z3 true τ3 (by omega) (fun h => by cases h) a3 k3
