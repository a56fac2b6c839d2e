/-! reachableSet: what Warshall's loop gives; rounds that only grow -/
theorem fold_inv {α β : Type} {f : α → β → α} {P : α → Prop} : ∀ (l : List β) (a : α), (∀ a b, b ∈ l → P a → P (f a b)) → P a → P (l.foldl f a) := by
  intro l
  induction l with
  | nil => intro a _ h; exact h
  | cons b l ih =>
    intro a hf h
    exact ih _ (fun a c hc => hf a c (List.mem_cons_of_mem _ hc)) (hf a b (List.mem_cons_self ..) h)
theorem fold_fix {α β : Type} {f : α → β → α} (R : α → α → Prop) (ht : ∀ a b c, R a b → R b c → R a c) (hr : ∀ a, R a a) (ha : ∀ a b, R a b → R b a → a = b) (hf : ∀ a b, R a (f a b)) : ∀ (l : List β) (a : α), l.foldl f a = a → ∀ b ∈ l, f a b = a := by
  have inc : ∀ (l : List β) (a : α), R a (l.foldl f a) := fun l a => fold_inv (P := R a) l a (fun x b _ h => ht _ _ _ h (hf x b)) (hr a)
  intro l
  induction l with
  | nil => intro a _ b hb; cases hb
  | cons c l ih =>
    intro a h b hb
    rw [List.foldl_cons] at h
    have h1 := inc l (f a c)
    rw [h] at h1
    have e := ha _ _ h1 (hf a c)
    rw [e] at h
    rcases List.mem_cons.mp hb with hb | hb
    · rw [hb]; exact e
    · exact ih a h b hb
theorem itr_stab {α : Type} {f : α → α} (P : α → Prop) (hP : ∀ a, P a → P (f a)) (m : α → Nat) (hm : ∀ a, P a → f a = a ∨ m (f a) < m a) : ∀ (n : Nat) (a : α), P a → m a ≤ n → f (itr f n a) = itr f n a := by
  intro n
  induction n with
  | zero =>
    intro a ha h
    rcases hm a ha with e | e
    · exact e
    · omega
  | succ n ih =>
    intro a ha h
    rcases hm a ha with e | e
    · rw [itr_fix e]; exact e
    · exact ih (f a) (hP a ha) (by omega)
theorem itr_add {α : Type} (f : α → α) : ∀ (m n : Nat) (a : α), itr f (m + n) a = itr f n (itr f m a) := by
  intro m
  induction m with
  | zero => intro n a; rw [Nat.zero_add]; rfl
  | succ m ih => intro n a; rw [Nat.succ_add]; exact ih n (f a)
theorem itr_inv {α : Type} {f : α → α} {P : α → Prop} (hP : ∀ a, P a → P (f a)) : ∀ (n : Nat) (a : α), P a → P (itr f n a) := by
  intro n
  induction n with
  | zero => intro a h; exact h
  | succ n ih => intro a h; exact ih _ (hP a h)
theorem cnt_lt {β : Type} {p q : β → Bool} : ∀ (l : List β), (∀ a ∈ l, q a = true → p a = true) → (∃ a ∈ l, p a = true ∧ q a = false) → l.countP q < l.countP p := by
  intro l
  induction l with
  | nil => intro _ ⟨a, ha, _⟩; cases ha
  | cons b l ih =>
    intro h1 ⟨a, ha, hp, hq⟩
    have hmono : l.countP q ≤ l.countP p := List.countP_mono_left (fun x hx => h1 x (List.mem_cons_of_mem _ hx))
    rw [List.countP_cons, List.countP_cons]
    rcases List.mem_cons.mp ha with e | e
    · subst e
      rw [hp, hq]
      simp
      omega
    · have := ih (fun x hx => h1 x (List.mem_cons_of_mem _ hx)) ⟨a, e, hp, hq⟩
      have hb := h1 b (List.mem_cons_self ..)
      cases hqb : q b with
      | false => cases p b <;> simp <;> omega
      | true => rw [hb hqb]; simp; omega
def sub (x y : Int32) : Prop := ∀ i, i < 32 → bt x i = true → bt y i = true
theorem sub_rf (x : Int32) : sub x x := fun _ _ h => h
theorem sub_tr {x y z : Int32} (h1 : sub x y) (h2 : sub y z) : sub x z := fun i hi h => h2 i hi (h1 i hi h)
theorem sub_an {x y : Int32} (h1 : sub x y) (h2 : sub y x) : x = y := b_ext (fun i hi => by
  cases hx : bt x i with
  | true => rw [h1 i hi hx]
  | false =>
    cases hy : bt y i with
    | false => rfl
    | true => rw [h2 i hi hy] at hx; cases hx)
theorem sub_or {x y : Int32} : sub x (x ||| y) := fun i _ h => by rw [b_or, h]; rfl
theorem sub_or' {x y : Int32} : sub y (x ||| y) := fun i _ h => by rw [b_or, h, Bool.or_true]
theorem sub_un {x y z : Int32} (h1 : sub x z) (h2 : sub y z) : sub (x ||| y) z := fun i hi h => by
  rw [b_or, Bool.or_eq_true] at h
  rcases h with h | h
  · exact h1 i hi h
  · exact h2 i hi h
/-- how many of the first bits are not set -/
def zer (n : Nat) (x : Int32) : Nat := (List.range n).countP (fun i => !bt x i)
theorem zer_le (n : Nat) (x : Int32) : zer n x ≤ n := by
  have := List.countP_le_length (p := fun i => !bt x i) (l := List.range n)
  rw [List.length_range] at this
  exact this
theorem zer_lt {n : Nat} {x y : Int32} (h : sub x y) (hn : n ≤ 32) (he : ∃ i, i < n ∧ bt x i = false ∧ bt y i = true) : zer n y < zer n x := by
  obtain ⟨i, hi, h1, h2⟩ := he
  refine cnt_lt _ (fun a ha hq => ?_) ⟨i, List.mem_range.mpr hi, by rw [h1]; rfl, by rw [h2]; rfl⟩
  have ha := List.mem_range.mp ha
  cases hx : bt x a with
  | false => rfl
  | true => rw [h a (by omega) hx] at hq; cases hq
theorem low_ex {x y : Int32} (hx : low x) (hy : low y) (h : sub x y) (hn : y ≠ x) : ∃ i, i < 16 ∧ bt x i = false ∧ bt y i = true := by
  refine Classical.byContradiction (fun hc => hn (sub_an (fun i hi hb => ?_) h))
  by_cases h16 : i < 16
  · cases hxi : bt x i with
    | true => rfl
    | false => exact absurd ⟨i, h16, hxi, hb⟩ hc
  · rw [hy i (by omega)] at hb; cases hb
-- Warshall
theorem cl1_k {v : Nat} (L : Nat → Int32) : ∀ n, ∀ x, ((List.range n).foldl (fun L x => if bt (L x) v then upd L x (L x ||| L v) else L) L) x = if x < n ∧ bt (L x) v = true then L x ||| L v else L x := by
  intro n
  induction n with
  | zero => intro x; simp
  | succ n ih =>
    intro x
    rw [List.range_succ, List.foldl_append, List.foldl_cons, List.foldl_nil]
    have hv : ((List.range n).foldl (fun L x => if bt (L x) v then upd L x (L x ||| L v) else L) L) v = L v := by
      rw [ih]
      split
      · exact Int32.or_self
      · rfl
    have hn : ((List.range n).foldl (fun L x => if bt (L x) v then upd L x (L x ||| L v) else L) L) n = L n := by
      rw [ih, if_neg (by omega)]
    rw [hv, hn]
    by_cases hx : x = n
    · subst hx
      by_cases hb : bt (L x) v = true
      · rw [if_pos hb, if_pos ⟨by omega, hb⟩, upd_at]
      · rw [if_neg hb, if_neg (fun hh => hb hh.2)]
        exact hn
    · have e : ∀ w, upd ((List.range n).foldl (fun L x => if bt (L x) v then upd L x (L x ||| L v) else L) L) n w x = ((List.range n).foldl (fun L x => if bt (L x) v then upd L x (L x ||| L v) else L) L) x := fun w => by simp [upd, hx]
      have e2 : (x < n + 1 ∧ bt (L x) v = true) ↔ (x < n ∧ bt (L x) v = true) := by
        constructor
        · intro hh; exact ⟨by omega, hh.2⟩
        · intro hh; exact ⟨by omega, hh.2⟩
      split
      · rw [e, ih]
        simp only [e2]
      · rw [ih]
        simp only [e2]
theorem cl1_bt {v x : Nat} (hx : x < 16) (L : Nat → Int32) (y : Nat) : bt (cl1 v L x) y = (bt (L x) y || (bt (L x) v && bt (L v) y)) := by
  unfold cl1
  rw [cl1_k]
  cases hb : bt (L x) v with
  | true => rw [if_pos ⟨hx, rfl⟩, b_or]; rfl
  | false => rw [if_neg (by simp), Bool.false_and, Bool.or_false]
theorem clw_k (L : Nat → Int32) : ∀ n, n ≤ 16 → (∀ x y, x < 16 → bt (L x) y = true → bt (((List.range n).foldl (fun L v => cl1 v L) L) x) y = true) ∧ (∀ u x y, u < n → x < 16 → bt (((List.range n).foldl (fun L v => cl1 v L) L) x) u = true → bt (((List.range n).foldl (fun L v => cl1 v L) L) u) y = true → bt (((List.range n).foldl (fun L v => cl1 v L) L) x) y = true) ∧ ∀ T : Nat → Nat → Prop, (∀ x u y, u < 16 → T x u → T u y → T x y) → (∀ x y, x < 16 → bt (L x) y = true → T x y) → ∀ x y, x < 16 → bt (((List.range n).foldl (fun L v => cl1 v L) L) x) y = true → T x y := by
  intro n
  induction n with
  | zero =>
    intro _
    exact ⟨fun x y _ h => h, fun u x y hu => by omega, fun T _ hT x y hx h => hT x y hx h⟩
  | succ n ih =>
    intro hn
    obtain ⟨i1, i2, i3⟩ := ih (by omega)
    rw [List.range_succ, List.foldl_append, List.foldl_cons, List.foldl_nil]
    generalize hW : (List.range n).foldl (fun L v => cl1 v L) L = W at i1 i2 i3 ⊢
    refine ⟨fun x y hx h => ?_, fun u x y hu hx h1 h2 => ?_, fun T hT hL x y hx h => ?_⟩
    · rw [cl1_bt hx, i1 x y hx h]; rfl
    · rw [cl1_bt hx, Bool.or_eq_true, Bool.and_eq_true] at h1 ⊢
      rw [cl1_bt (by omega), Bool.or_eq_true, Bool.and_eq_true] at h2
      by_cases hun : u = n
      · subst hun
        have a1 : bt (W x) u = true := by rcases h1 with h | h; exact h; exact h.1
        have a2 : bt (W u) y = true := by rcases h2 with h | h; exact h; exact h.2
        exact Or.inr ⟨a1, a2⟩
      · have hlt : u < n := by omega
        rcases h1 with h1 | ⟨h1, h1'⟩
        · rcases h2 with h2 | ⟨h2, h2'⟩
          · exact Or.inl (i2 u x y hlt hx h1 h2)
          · exact Or.inr ⟨i2 u x n hlt hx h1 h2, h2'⟩
        · rcases h2 with h2 | ⟨h2, h2'⟩
          · exact Or.inr ⟨h1, i2 u n y hlt (by omega) h1' h2⟩
          · exact Or.inr ⟨h1, h2'⟩
    · rw [cl1_bt hx, Bool.or_eq_true, Bool.and_eq_true] at h
      rcases h with h | ⟨h, h'⟩
      · exact i3 T hT hL x y hx h
      · exact hT x n y (by omega) (i3 T hT hL x n hx h) (i3 T hT hL n y (by omega) h')
theorem clw_in (L : Nat → Int32) {x y : Nat} (hx : x < 16) (h : bt (L x) y = true) : bt (clw L x) y = true := (clw_k L 16 (Nat.le_refl _)).1 x y hx h
theorem clw_tr (L : Nat → Int32) {x u y : Nat} (hx : x < 16) (hu : u < 16) (h1 : bt (clw L x) u = true) (h2 : bt (clw L u) y = true) : bt (clw L x) y = true := (clw_k L 16 (Nat.le_refl _)).2.1 u x y hu hx h1 h2
theorem clw_le (L : Nat → Int32) {T : Nat → Nat → Prop} (hT : ∀ x u y, u < 16 → T x u → T u y → T x y) (hL : ∀ x y, x < 16 → bt (L x) y = true → T x y) {x y : Nat} (hx : x < 16) (h : bt (clw L x) y = true) : T x y := (clw_k L 16 (Nat.le_refl _)).2.2 T hT hL x y hx h
-- occurrences
def ocs (G : List PR) : Nat → Int32 := G.foldl (fun L q => upd L q.1 (L q.1 ||| (rs q &&& nI 65535))) Lz
theorem s_X1_followOccurrences {g : Nat} (hg : g = 3 ∨ g = 25) {σ : si_M} {S : List PR × Bool} (hm : Gm σ g S) (hG : Gok S.1) : si_sc gP nX1_followOccurrences [.ref 7, .ref g] σ = some (none, lm 8 σ (clw (ocs S.1))) := by
  have hl := hG.1
  have hg4 : g = 3 ∨ g = 5 ∨ g = 25 ∨ g = 27 := by omega
  rw [e_X1_followOccurrences g hg, s_fill8, cv_s]
  have := lp_fold' (F := fun i L => si_sem gP nX1_followOccurrences 10 [.ref 7, .ref g, .int (nI i), si_U, si_U] [] (lm 8 σ L)) (G := S.1) (f := fun L q => upd L q.1 (L q.1 ||| (rs q &&& nI 65535))) (fun i L hi => by
    have hok := hG.2.1.at hi
    have hle := hok.1
    have hmL := hm.lm L (by omega) (by omega)
    rw [h_X1_followOccurrences_10 g hg, e_X2_count g hg4, ci_s, hmL.1, cF (nI_ge hi (by omega)), s_X2_at hg4 hmL hl hi, cl_s, s_X5_left hok, ci_s, inT hle (by decide), s_X5_rightSet hok, ci_s, inT hle (by decide), nI_add, nI_clamp (by omega), lm_at hle, lm_sI hle]) Lz
  refine this.trans ?_
  have hmL := hm.lm (S.1.foldl (fun L q => upd L q.1 (L q.1 ||| (rs q &&& nI 65535))) Lz) (by omega) (by omega)
  rw [h_X1_followOccurrences_10 g hg, e_X2_count g hg4, ci_s, hmL.1, cT (nI_le (Nat.le_refl _) (by omega)), s_X1_close, cv_s]
  rfl
-- the model's rounds
def rw1 (l : Nat) (s : Int32) (a : Nat) : Int32 := if bt s l && decide (a ≤ 16) then s ||| si_ishl (nI 1) (nI (a - 1)) else s
def rr (G : List PR) (s : Int32) : Int32 := G.foldl (fun s q => q.2.foldl (rw1 q.1) s) s
def rch (G : List PR) : Int32 := itr (rr G) 17 (nI 1)
theorem s_X9_reached {g : Nat} (hg : g = 30 ∨ g = 44) {σ : si_M} {G : List PR} (h2 : Row (σ.2 g) G) (hG : Gok G) : si_sc gP nX9_reached [.ref g, .int (nI G.length)] σ = some (some (.int (rch G)), σ) := by
  have hl := hG.1
  have word : ∀ (r : Int32) (i : Nat) (hi : i < G.length) (d j : Nat) (s : Int32), j + d = G[i].2.length → si_sem gP nX9_reached 22 [.ref g, .int (nI G.length), .int s, .int r, .int (nI i), .int (nI j), si_U] [] σ = si_sem gP nX9_reached 13 [.ref g, .int (nI G.length), .int ((G[i].2.drop j).foldl (rw1 G[i].1) s), .int r, .int (nI (i + 1)), si_U, si_U] [] σ := by
    intro r i hi d
    have hok := hG.2.1.at hi
    have hw := hok.2.1
    have hle := hok.1
    induction d with
    | zero =>
      intro j s hd
      rw [h_X9_reached_22 g hg, inT (by omega) (by decide), nI_clamp (by omega), h2.at hi, s_X9_at hok (by omega), ci_s, getD_out (by omega), cT (nI_le (Nat.le_refl 0) (by decide)), nI_add, List.drop_eq_nil_of_le (by omega)]
      rfl
    | succ d ih =>
      intro j s hd
      have hj : j < G[i].2.length := by omega
      have hp := hok.2.2 _ (List.getElem_mem hj)
      have atj : ∀ (σ : si_M), si_sc gP nX9_at [.long (lN (en G[i])), .int (nI j)] σ = some (some (.int (nI G[i].2[j])), σ) := fun σ => by rw [s_X9_at hok (by omega), gD hj]
      rw [h_X9_reached_22 g hg, inT (by omega) (by decide), nI_clamp (by omega), h2.at hi, atj, ci_s, cF (nI_ge (show 0 < G[i].2[j] by omega) (by omega)), inT (by omega) (by decide), h2.at hi, s_X9_left hok, ci_s, ssh1 s (by omega), bo, cT rfl, inT (by omega) (by decide), h2.at hi, atj, ci_s, s_X9_isNonterminal (by omega), ci_s, bz, cT rfl, cF (by decide), inT (by omega) (by decide), h2.at hi, atj, ci_s, sub1 (by omega), nI_add, decide_eq_true hp.1, Bool.true_and, or0', List.drop_eq_getElem_cons hj, List.foldl_cons, ih _ _ (by omega), ih _ _ (by omega)]
      unfold rw1
      cases bt s G[i].1 <;> cases decide (G[i].2[j] ≤ 16) <;> rfl
  have inner : ∀ (r s : Int32), si_sem gP nX9_reached 13 [.ref g, .int (nI G.length), .int s, .int r, .int (nI 0), si_U, si_U] [] σ = si_sem gP nX9_reached 13 [.ref g, .int (nI G.length), .int (rr G s), .int r, .int (nI G.length), si_U, si_U] [] σ := by
    intro r s
    refine lp_fold' (F := fun i s => si_sem gP nX9_reached 13 [.ref g, .int (nI G.length), .int s, .int r, .int (nI i), si_U, si_U] [] σ) (G := G) (f := fun s q => q.2.foldl (rw1 q.1) s) (fun i a hi => ?_) s
    try dsimp only
    rw [h_X9_reached_13 g hg, cF (nI_ge hi (by omega)), word r i hi G[i].2.length 0 a (by omega), List.drop_zero]
  have key : ∀ (d r : Nat) (s : Int32), r + d = 17 → si_sem gP nX9_reached 4 [.ref g, .int (nI G.length), .int s, .int (nI r), si_U, si_U, si_U] [] σ = some (some (.int (itr (rr G) d s)), σ) := by
    intro d
    induction d with
    | zero =>
      intro r s hr
      rw [h_X9_reached_4 g hg, cT (nI_lt (show 16 < r by omega) (by omega))]
      rfl
    | succ d ih =>
      intro r s hr
      rw [h_X9_reached_4 g hg, cF (nI_nlt (show r ≤ 16 by omega) (by decide)), inner, h_X9_reached_13 g hg, cT (nI_le (Nat.le_refl _) (by omega)), nI_add]
      exact ih (r + 1) (rr G s) (by omega)
  rw [e_X9_reached g hg]
  exact key 17 0 (nI 1) (by omega)
theorem rs_k {y : Nat} (hy : y < 32) : ∀ (w : List Nat) (s : Int32), (∀ a ∈ w, 1 ≤ a ∧ a ≤ 24) → bt (w.foldl (fun s a => s ||| si_ishl (nI 1) (nI (a - 1))) s) y = (bt s y || w.any (fun a => decide (a = y + 1))) := by
  intro w
  induction w with
  | nil => intro s _; simp
  | cons a w ih =>
    intro s h
    have ha := h a (List.mem_cons_self ..)
    rw [List.foldl_cons, ih _ (fun b hb => h b (List.mem_cons_of_mem _ hb)), b_or, bt_sh (by omega) hy, List.any_cons, Bool.or_assoc]
    congr 2
    by_cases e : a = y + 1
    · rw [decide_eq_true e, decide_eq_true (by omega)]
    · rw [decide_eq_false e, decide_eq_false (by omega)]
theorem rs_bt {q : PR} (h : okp q) {y : Nat} (hy : y < 32) : bt (rs q) y = q.2.any (fun a => decide (a = y + 1)) := by
  unfold rs
  rw [rs_k hy q.2 _ h.2.2, show bt (nI 0) y = false from b_0 y, Bool.false_or]
theorem ocs_k (x y : Nat) : ∀ (G : List PR) (L : Nat → Int32), bt ((G.foldl (fun L q => upd L q.1 (L q.1 ||| (rs q &&& nI 65535))) L) x) y = (bt (L x) y || G.any (fun q => decide (q.1 = x) && (bt (rs q) y && decide (y < 16)))) := by
  intro G
  induction G with
  | nil => intro L; simp
  | cons q G ih =>
    intro L
    rw [List.foldl_cons, ih, List.any_cons, ← Bool.or_assoc]
    congr 1
    by_cases e : q.1 = x
    · subst e
      rw [upd_at, b_or, b_and, show nI 65535 = (65535 : Int32) from rfl, b_65535, decide_eq_true rfl, Bool.true_and]
    · rw [decide_eq_false e, Bool.false_and, Bool.or_false]
      congr 1
      simp [upd, Ne.symm e]
theorem ocs_bt {G : List PR} (hG : Oks G) {x y : Nat} : bt (ocs G x) y = true ↔ y < 16 ∧ ∃ q ∈ G, q.1 = x ∧ (y + 1) ∈ q.2 := by
  unfold ocs
  rw [ocs_k, show bt (Lz x) y = false from b_0 y, Bool.false_or, List.any_eq_true]
  constructor
  · rintro ⟨q, hq, h⟩
    simp only [Bool.and_eq_true, decide_eq_true_eq] at h
    obtain ⟨h1, h2, h3⟩ := h
    rw [rs_bt (hG q hq) (by omega), List.any_eq_true] at h2
    obtain ⟨a, ha, e⟩ := h2
    have e := of_decide_eq_true e
    exact ⟨h3, q, hq, h1, e ▸ ha⟩
  · rintro ⟨h3, q, hq, h1, ha⟩
    refine ⟨q, hq, ?_⟩
    simp only [Bool.and_eq_true, decide_eq_true_eq]
    refine ⟨h1, ?_, h3⟩
    rw [rs_bt (hG q hq) (by omega), List.any_eq_true]
    exact ⟨y + 1, ha, decide_eq_true rfl⟩
theorem rw1_sub (l : Nat) (s : Int32) (a : Nat) : sub s (rw1 l s a) := by
  unfold rw1
  split
  · exact sub_or
  · exact sub_rf s
theorem rrw_sub (l : Nat) (s : Int32) (w : List Nat) : sub s (w.foldl (rw1 l) s) := fold_inv (P := sub s) w s (fun a b _ h => sub_tr h (rw1_sub l a b)) (sub_rf s)
theorem rr_sub (G : List PR) (s : Int32) : sub s (rr G s) := fold_inv (P := sub s) G s (fun a b _ h => sub_tr h (rrw_sub b.1 a b.2)) (sub_rf s)
theorem rr_inv {G : List PR} {P : Int32 → Prop} (h : ∀ q ∈ G, ∀ a ∈ q.2, a ≤ 16 → ∀ s, bt s q.1 = true → P s → P (s ||| si_ishl (nI 1) (nI (a - 1)))) (s : Int32) (hs : P s) : P (rr G s) := by
  refine fold_inv (P := P) G s (fun s q hq hs => ?_) hs
  refine fold_inv (P := P) q.2 s (fun s a ha hs => ?_) hs
  unfold rw1
  split
  · rename_i hh
    simp only [Bool.and_eq_true, decide_eq_true_eq] at hh
    exact h q hq a ha hh.2 s hh.1 hs
  · exact hs
theorem low_rr {G : List PR} (hG : Oks G) (s : Int32) (hs : low s) : low (rr G s) := rr_inv (P := low) (fun q hq a ha h16 s _ hs => low_or hs (low_sh (by have := (hG q hq).2.2 a ha; omega))) s hs
theorem rch_low {G : List PR} (hG : Oks G) : low (rch G) := itr_inv (P := low) (low_rr hG) 17 _ (by intro i hi; rw [bt1]; exact decide_eq_false (by omega))
theorem rch_fix {G : List PR} (hG : Oks G) : rr G (rch G) = rch G := by
  refine itr_stab low (low_rr hG) (zer 16) (fun a ha => ?_) 17 _ (by intro i hi; rw [bt1]; exact decide_eq_false (by omega)) (Nat.le_trans (zer_le 16 _) (by omega))
  by_cases e : rr G a = a
  · exact Or.inl e
  · exact Or.inr (zer_lt (rr_sub G a) (by omega) (low_ex ha (low_rr hG a ha) (rr_sub G a) e))
theorem rch_cl {G : List PR} (hG : Oks G) {q : PR} (hq : q ∈ G) {a : Nat} (ha : a ∈ q.2) (h16 : a ≤ 16) (hb : bt (rch G) q.1 = true) : bt (rch G) (a - 1) = true := by
  have h1 := fold_fix sub (fun _ _ _ => sub_tr) sub_rf (fun _ _ => sub_an) (fun a (b : PR) => rrw_sub b.1 a b.2) G (rch G) (rch_fix hG) q hq
  have h2 := fold_fix sub (fun _ _ _ => sub_tr) sub_rf (fun _ _ => sub_an) (fun s b => rw1_sub q.1 s b) q.2 (rch G) h1 a ha
  unfold rw1 at h2
  rw [if_pos (by rw [hb, decide_eq_true h16]; rfl)] at h2
  rw [← h2, b_or, bt_sh (by omega) (by omega), decide_eq_true rfl, Bool.or_true]
theorem rch_0 (G : List PR) : bt (rch G) 0 = true := itr_inv (P := fun s => bt s 0 = true) (fun s hs => rr_sub G s 0 (by omega) hs) 17 _ (by decide)
theorem clw_low {L : Nat → Int32} (hL : ∀ x, x < 16 → low (L x)) {x : Nat} (hx : x < 16) : low (clw L x) := by
  intro i hi
  cases hb : bt (clw L x) i with
  | false => rfl
  | true =>
    have := clw_le L (T := fun _ y => y < 16) (fun _ _ _ _ _ h => h) (fun x y hx h => by
      refine Classical.byContradiction (fun hc => ?_)
      rw [hL x hx y (by omega)] at h; cases h) hx hb
    omega
theorem ocs_low {G : List PR} (hG : Oks G) (x : Nat) : low (ocs G x) := by
  intro i hi
  cases hb : bt (ocs G x) i with
  | false => rfl
  | true => have := (ocs_bt hG).mp hb; omega
theorem reach_eq {G : List PR} (hG : Oks G) : clw (ocs G) 0 ||| si_ishl (nI 1) (nI 0) = rch G := by
  have hlow := clw_low (fun x _ => ocs_low hG x) (show 0 < 16 by omega)
  refine sub_an (sub_un (fun i hi hb => ?_) (fun i hi hb => ?_)) ?_
  · have : i < 16 := by
      refine Classical.byContradiction (fun hc => ?_)
      rw [hlow i (by omega)] at hb; cases hb
    refine clw_le (ocs G) (T := fun x y => bt (rch G) x = true → bt (rch G) y = true) (fun x u y _ h1 h2 h => h2 (h1 h)) (fun x y hx h hx' => ?_) (show 0 < 16 by omega) hb (rch_0 G)
    obtain ⟨_, q, hq, e, ha⟩ := (ocs_bt hG).mp h
    exact rch_cl hG hq ha (by omega) (e ▸ hx')
  · rw [bt_sh (by omega) hi, decide_eq_true_eq] at hb
    rw [hb]; exact rch_0 G
  · refine itr_inv (P := fun s => sub s (clw (ocs G) 0 ||| si_ishl (nI 1) (nI 0))) (fun s hs => ?_) 17 _ (fun i hi hb => ?_)
    · refine rr_inv (P := fun s => sub s (clw (ocs G) 0 ||| si_ishl (nI 1) (nI 0))) (fun q hq a ha h16 s hb hs => sub_un hs (fun i hi hi' => ?_)) s hs
      have hp := (hG q hq).2.2 a ha
      have hl := (hG q hq).1
      rw [bt_sh (by omega) hi, decide_eq_true_eq] at hi'
      subst hi'
      have e1 : bt (ocs G q.1) (a - 1) = true := (ocs_bt hG).mpr ⟨by omega, q, hq, rfl, by rw [show a - 1 + 1 = a by omega]; exact ha⟩
      have h0 := hs q.1 (by omega) hb
      rw [b_or, Bool.or_eq_true, bt_sh (by omega) (by omega), decide_eq_true_eq] at h0
      rw [b_or, Bool.or_eq_true]
      rcases h0 with h0 | h0
      · exact Or.inl (clw_tr _ (by omega) hl h0 (clw_in _ hl e1))
      · rw [h0] at e1
        exact Or.inl (clw_in _ (by omega) e1)
    · rw [bt1, decide_eq_true_eq] at hb
      rw [b_or, hb, bt_sh (by omega) (by omega), decide_eq_true rfl, Bool.or_true]
theorem s_X8_reachable {σ : si_M} {A : AS} (hA : Aok A) (h : CI σ A) : si_sc gP nX8_reachableSet [.ref 0] σ = some (some (.int (rch A.2.1)), lm 8 σ (clw (ocs A.2.1))) := by
  rw [e_X8_reachableSet, s_X1_followOccurrences (by decide) h.2.2.1 hA.2.1, cv_s, s_X1_reachFrom (by decide), ci_s, reach_eq hA.2.1.2.1]
theorem fact_reachableSet (σ : si_M) (h : gI σ) : ∃ (r : Int32) (σ1 σ2 : si_M), si_sc gP nX8_reachableSet (.ref 0 :: []) σ = some (some (.int r), σ1) ∧ si_sc gP nX9_reachableSet (.ref 29 :: []) σ1 = some (some (.int r), σ2) ∧ gI σ2 := by
  refine fact_i h (fun A => rch A.2.1) id (fun A h => h) (fun A σ hA h => ⟨_, s_X8_reachable hA h, h.lm _, KC.lm σ _⟩) (fun A σ hA h => ⟨σ, ?_, h, KM.rf⟩)
  rw [e_X9_reachableSet, h.2.2.1, s_X9_reached (by decide) h.2.2.2.1 hA.2.1, ci_s]
