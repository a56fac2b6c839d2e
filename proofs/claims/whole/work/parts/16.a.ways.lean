/-! countTrees: ways through a right side -/
def Arr (σ : si_M) (k n : Nat) (V : Nat → Int64) : Prop := ∀ j, j < n → σ.2 k j = V j
theorem Arr.keep {σ τ : si_M} {k n : Nat} {V : Nat → Int64} {Z : List Nat} (h : Arr σ k n V) (hk : Keep Z σ τ) (h1 : k ∉ Z) : Arr τ k n V := fun j hj => by rw [(hk k h1).2]; exact h j hj
theorem Arr.of {σ τ : si_M} {k n : Nat} {V : Nat → Int64} {F Z : List Nat} (h : Arr σ k n V) (hk : KeepM F Z σ τ) (h0 : k ≠ 29) (h1 : k ∉ Z) : Arr τ k n V := fun j hj => by rw [(hk.1 k h0 h1).2]; exact h j hj
theorem Arr.set {σ : si_M} {k n : Nat} {V : Nat → Int64} (h : Arr σ k n V) (i : Nat) (v : Int64) : Arr (si_sJ σ k i v) k n (fun j => if j = i then v else V j) := fun j hj => by
  by_cases e : j = i
  · subst e; rw [sJ_same]; simp
  · rw [sJ_nj _ _ _ e, h j hj]; simp [e]
theorem Arr.ext {σ : si_M} {k n : Nat} {V V' : Nat → Int64} (h : Arr σ k n V) (e : ∀ j, j < n → V j = V' j) : Arr σ k n V' := fun j hj => (h j hj).trans (e j hj)
theorem s_fillJ {g : Nat} (hg : g = 15 ∨ g = 16 ∨ g = 17 ∨ g = 21 ∨ g = 22 ∨ g = 23) (v : Int64) (σ : si_M) : ∃ τ, si_sc gP nJ7_fill_d0a16 [.ref g, .long v] σ = some (none, τ) ∧ Arr τ g (gln g) (fun _ => v) ∧ Keep [g] σ τ := by
  have hn : gln g < 2 ^ 31 := by rcases hg with rfl | rfl | rfl | rfl | rfl | rfl <;> decide
  have key : ∀ (d i : Nat) (τ : si_M), i + d = gln g → (∀ j, j < i → τ.2 g j = v) → Keep [g] σ τ → ∃ τ', si_sem gP nJ7_fill_d0a16 6 [.ref g, .long v, si_U, .int (nI i), .int (nI (gln g))] [] τ = some (none, τ') ∧ Arr τ' g (gln g) (fun _ => v) ∧ Keep [g] σ τ' := by
    intro d
    induction d with
    | zero =>
      intro i τ h hj hk
      rw [h_J7_fill_d0a16_6 g hg, cT (nI_le (by omega) (by omega))]
      exact ⟨τ, rfl, fun j hjl => hj j (by omega), hk⟩
    | succ d ih =>
      intro i τ h hj hk
      rw [h_J7_fill_d0a16_6 g hg, cF (nI_ge (by omega) hn), inT (by omega) hn, nI_add, nI_clamp (by omega)]
      refine ih (i + 1) _ (by omega) (fun j hji => ?_) (hk.tr (Keep.sJ τ (by simp) _ _))
      by_cases e : j = i
      · subst e; rw [sJ_same]
      · rw [sJ_nj _ _ _ e]; exact hj j (by omega)
  rw [e_J7_fill_d0a16 g hg]
  exact key (gln g) 0 σ (by omega) (fun j hj => by omega) Keep.rf
/-- trees of a symbol over a stretch -/
def ts (W : List Nat) (T : Nat → Int64) (a p b : Nat) : Int64 := if a ≤ 16 then T (121 * (a - 1) + 11 * p + b) else if b = p + 1 ∧ W.getD p 0 = a then lN 1 else lN 0
def smf (F : Nat → Int64) (st n : Nat) (s : Int64) : Int64 := (List.range' st n).foldl (fun s f => s + F f) s
theorem smf_s (F : Nat → Int64) (st n : Nat) (s : Int64) : smf F st (n + 1) s = smf F (st + 1) n (s + F st) := by unfold smf; rw [List.range'_succ, List.foldl_cons]
theorem smf_e (F : Nat → Int64) : ∀ (n st : Nat) (s : Int64), smf F st (n + 1) s = smf F st n s + F (st + n) := by
  intro n
  induction n with
  | zero => intro st s; rfl
  | succ n ih => intro st s; rw [smf_s, ih, smf_s, show st + 1 + n = st + (n + 1) by omega]
theorem smf_0 {F : Nat → Int64} : ∀ (n st : Nat), (∀ f, st ≤ f → f < st + n → F f = lN 0) → smf F st n (lN 0) = lN 0 := by
  intro n
  induction n with
  | zero => intro st _; rfl
  | succ n ih =>
    intro st h
    rw [smf_s, h st (Nat.le_refl _) (by omega)]
    exact ih (st + 1) (fun f h1 h2 => h f (by omega) (by omega))
theorem smf_c {F F' : Nat → Int64} : ∀ (n st : Nat) (s : Int64), (∀ f, st ≤ f → f < st + n → F f = F' f) → smf F st n s = smf F' st n s := by
  intro n
  induction n with
  | zero => intro st s _; rfl
  | succ n ih =>
    intro st s h
    rw [smf_s, smf_s, h st (Nat.le_refl _) (by omega)]
    exact ih (st + 1) _ (fun f h1 h2 => h f (by omega) (by omega))
def tk1 (W : List Nat) (T : Nat → Int64) (st a : Nat) (V : Nat → Int64) (k : Nat) : Int64 := smf (fun f => V f * ts W T a f k) st (k - st) (lN 0)
def tkv (W : List Nat) (T : Nat → Int64) (st e a : Nat) (V : Nat → Int64) : Nat → Int64 := fun k => if st ≤ k ∧ k ≤ e then tk1 W T st a V k else lN 0
def dl (st : Nat) : Nat → Int64 := fun k => if k = st then lN 1 else lN 0
def wyV (W : List Nat) (T : Nat → Int64) (st e : Nat) (w : List Nat) (V : Nat → Int64) : Nat → Int64 := w.foldl (fun V a => tkv W T st e a V) V
def wy (W : List Nat) (T : Nat → Int64) (st e : Nat) (w : List Nat) : Int64 := wyV W T st e w (dl st) e
def Sup (V : Nat → Int64) (st e : Nat) : Prop := ∀ k, k < st ∨ e < k → V k = lN 0
theorem l0_mul (x : Int64) : lN 0 * x = lN 0 := Int64.zero_mul
theorem l0_add (x : Int64) : lN 0 + x = x := Int64.zero_add x
theorem l_add0 (x : Int64) : x + lN 0 = x := Int64.add_zero x
theorem tkv_sup (W : List Nat) (T : Nat → Int64) (st e a : Nat) (V : Nat → Int64) {m : Nat} (h : ∀ k, k < m → V k = lN 0) : ∀ k, k < m + 1 → tkv W T st e a V k = lN 0 := by
  intro k hk
  unfold tkv
  split
  · unfold tk1
    refine smf_0 _ _ (fun f h1 h2 => ?_)
    rw [h f (by omega), l0_mul]
  · rfl
theorem wyV_sup (W : List Nat) (T : Nat → Int64) (st e : Nat) : ∀ (w : List Nat) (V : Nat → Int64) (m : Nat), (∀ k, k < m → V k = lN 0) → ∀ k, k < m + w.length → wyV W T st e w V k = lN 0 := by
  intro w
  induction w with
  | nil => intro V m h k hk; exact h k hk
  | cons a w ih =>
    intro V m h k hk
    exact ih _ (m + 1) (tkv_sup W T st e a V h) k (by rw [List.length_cons] at hk; omega)
theorem dl_sup (st : Nat) : ∀ k, k < st → dl st k = lN 0 := fun k hk => by unfold dl; rw [if_neg (by omega)]
theorem wy_long {W : List Nat} {T : Nat → Int64} {st e : Nat} {w : List Nat} (h : e < st + w.length) : wy W T st e w = lN 0 := wyV_sup W T st e w _ st (dl_sup st) e h
theorem tkv_cong {W : List Nat} {T T' : Nat → Int64} {st e a : Nat} {V V' : Nat → Int64} (hV : ∀ k, k < e → V k = V' k) (hT : ∀ f k, st ≤ f → f < k → k < e → ts W T a f k = ts W T' a f k) : ∀ k, k < e → tkv W T st e a V k = tkv W T' st e a V' k := by
  intro k hk
  unfold tkv
  split
  · unfold tk1
    refine smf_c _ _ _ (fun f h1 h2 => ?_)
    rw [hV f (by omega), hT f k h1 (by omega) hk]
  · rfl
theorem wyV_cong {W : List Nat} {T T' : Nat → Int64} {st e : Nat} (hT : ∀ a f k, st ≤ f → f < k → k < e → ts W T a f k = ts W T' a f k) : ∀ (w : List Nat) (V V' : Nat → Int64), (∀ k, k < e → V k = V' k) → ∀ k, k < e → wyV W T st e w V k = wyV W T' st e w V' k := by
  intro w
  induction w with
  | nil => intro V V' h; exact h
  | cons a w ih => intro V V' h; exact ih _ _ (tkv_cong h (hT a))
/-- longer right sides ask shorter stretches alone -/
theorem wy_cong {W : List Nat} {T T' : Nat → Int64} {st e : Nat} (hT : ∀ a f k, st ≤ f → f < k → k ≤ e → ¬ (f = st ∧ k = e) → ts W T a f k = ts W T' a f k) {w : List Nat} (hw : 2 ≤ w.length) : wy W T st e w = wy W T' st e w := by
  have hne : w ≠ [] := fun h => by rw [h] at hw; simp at hw
  have e1 : w = w.dropLast ++ [w.getLast hne] := (List.dropLast_concat_getLast hne).symm
  have hl : 1 ≤ w.dropLast.length := by rw [List.length_dropLast]; omega
  unfold wy
  rw [e1]
  unfold wyV
  rw [List.foldl_append, List.foldl_append]
  show tkv W T st e (w.getLast hne) (wyV W T st e w.dropLast (dl st)) e = tkv W T' st e (w.getLast hne) (wyV W T' st e w.dropLast (dl st)) e
  unfold tkv
  split
  · unfold tk1
    refine smf_c _ _ _ (fun f h1 h2 => ?_)
    by_cases hf : f = st
    · have z1 := wyV_sup W T st e w.dropLast _ st (dl_sup st) f (by omega)
      have z2 := wyV_sup W T' st e w.dropLast _ st (dl_sup st) f (by omega)
      rw [z1, z2, l0_mul, l0_mul]
    · have hc := wyV_cong (W := W) (T := T) (T' := T') (st := st) (e := e) (fun a f k g1 g2 g3 => hT a f k g1 g2 (by omega) (by omega)) w.dropLast (dl st) (dl st) (fun _ _ => rfl) f (by omega)
      rw [hc, hT _ f e h1 (by omega) (Nat.le_refl _) (fun h => hf h.1)]
  · rfl
theorem wy_one {W : List Nat} {T : Nat → Int64} {st e a : Nat} (h : st < e) : wy W T st e [a] = ts W T a st e := by
  show tkv W T st e a (dl st) e = _
  unfold tkv
  rw [if_pos ⟨by omega, Nat.le_refl _⟩]
  unfold tk1
  obtain ⟨n, hn⟩ : ∃ n, e - st = n + 1 := ⟨e - st - 1, by omega⟩
  rw [hn, smf_s]
  have e1 : dl st st = lN 1 := by unfold dl; rw [if_pos rfl]
  have : ∀ (n s0 : Nat) (s : Int64), st < s0 → smf (fun f => dl st f * ts W T a f e) s0 n s = s := by
    intro n
    induction n with
    | zero => intro s0 s _; rfl
    | succ n ih =>
      intro s0 s hs
      have e2 : dl st s0 = lN 0 := by unfold dl; rw [if_neg (by omega)]
      rw [smf_s, e2, l0_mul, l_add0]
      exact ih (s0 + 1) s (by omega)
  rw [this n (st + 1) _ (by omega), e1, l0_add]
  exact Int64.one_mul _
-- the class
theorem s_X4_treesAt {σ : si_M} {T : Nat → Int64} (hT : Arr σ 15 1936 T) {x p b : Nat} (hx : x < 16) (hp : p ≤ 10) (hb : b ≤ 10) : si_sc gP nX4_treesAt [.ref 12, .int (nI x), .int (nI p), .int (nI b)] σ = some (some (.long (T (121 * x + 11 * p + b))), σ) := by
  rw [e_X4_treesAt, nI_mul, nI_add, nI_mul, nI_add, inT (show (x * 11 + p) * 11 + b < 1936 by omega) (by decide), nI_clamp (by omega), show (x * 11 + p) * 11 + b = 121 * x + 11 * p + b by omega, hT _ (by omega)]
theorem s_X4_treesOfSymbol {σ : si_M} {W : List Nat} (hW : Wok W) (hc : WC σ W) {T : Nat → Int64} (hT : Arr σ 15 1936 T) {a p b : Nat} (ha : 1 ≤ a ∧ a ≤ 24) (hp : p < W.length) (hb : b ≤ 10) : si_sc gP nX4_treesOfSymbol [.ref 12, .int (nI (a - 1)), .int (nI p), .int (nI b)] σ = some (some (.long (ts W T a p b)), σ) := by
  have hn := hW.1
  rw [e_X4_treesOfSymbol, s_X8_isNonterminal (by omega), ci_s, bz]
  unfold ts
  by_cases h16 : a ≤ 16
  · rw [decide_eq_true (show a - 1 < 16 by omega), cond_true, if_pos h16, s_X4_treesAt hT (by omega) (by omega) hb, cl_s]
  · have hwp := hW.2 _ (List.getElem_mem hp)
    rw [decide_eq_false (show ¬ a - 1 < 16 by omega), cond_false, if_neg h16, nI_add]
    by_cases e : b = p + 1
    · rw [nF (by rw [e]), e_X4_stands, cF (nI_nlt (Nat.zero_le p) (by omega)), hc.1, cF (nI_ge hp (by omega)), inT (show p < 10 by omega) (by decide), nI_clamp (by omega), hc.2 p hp, gD hp]
      by_cases e2 : W[p] = a
      · rw [nF (by rw [e2]), ci_s, cF (by decide), if_pos ⟨e, e2⟩]
      · rw [nT (nI_eqF (by omega) (by omega) (by omega)), ci_s, cT rfl, if_neg (fun h => e2 h.2)]
    · rw [nT (nI_eqF e (by omega) (by omega)), if_neg (fun h => e h.1)]
theorem lc0 (x : Int64) : lg_cmp x (lN 0) = nI 0 ↔ x = lN 0 := lg_cmp_eq _ _
theorem s_X4_takeSymbol {σ : si_M} {W : List Nat} (hW : Wok W) (hc : WC σ W) {T : Nat → Int64} (hT : Arr σ 15 1936 T) {V : Nat → Int64} (hV : Arr σ 16 11 V) {a st e : Nat} (ha : 1 ≤ a ∧ a ≤ 24) (hse : st ≤ e) (he : e ≤ W.length) (hs : Sup V st e) : ∃ τ, si_sc gP nX4_takeSymbol [.ref 12, .int (nI (a - 1)), .int (nI st), .int (nI e)] σ = some (none, τ) ∧ Arr τ 16 11 (tkv W T st e a V) ∧ Keep [16] σ τ := by
  have hn := hW.1
  rw [e_X4_takeSymbol]
  have inner : ∀ (pl : Nat) (hpl : pl ≤ e) (τ : si_M), WC τ W → Arr τ 15 1936 T → (∀ f, f < pl → τ.2 16 f = V f) → ∀ (d f : Nat) (s : Int64), f + d = pl → st ≤ f → si_sem gP nX4_takeSymbol 15 [.ref 12, .int (nI (a - 1)), .int (nI st), si_U, .int (nI pl), .long s, si_U, .int (nI f)] [] τ = si_sem gP nX4_takeSymbol 15 [.ref 12, .int (nI (a - 1)), .int (nI st), si_U, .int (nI pl), .long (smf (fun f => V f * ts W T a f pl) f d s), si_U, .int (nI pl)] [] τ := by
    intro pl hpl τ q1 q2 q3 d
    induction d with
    | zero =>
      intro f s hf _
      have : f = pl := by omega
      rw [this]
      rfl
    | succ d ih =>
      intro f s hf hst
      conv => lhs; rw [h_X4_takeSymbol_15]
      rw [cF (nI_ge (show f < pl by omega) (by omega)), inT (show f < 11 by omega) (by decide), nI_clamp (by omega), q3 f (by omega), inT (show f < 11 by omega) (by decide), s_X4_treesOfSymbol hW q1 q2 ha (show f < W.length by omega) (show pl ≤ 10 by omega), cl_s, nI_add, smf_s]
      by_cases h0 : V f = lN 0
      · rw [cT ((lc0 _).mpr h0), ih (f + 1) s (by omega) (by omega), h0, l0_mul, l_add0]
      · rw [cF (fun h => h0 ((lc0 _).mp h)), ih (f + 1) _ (by omega) (by omega)]
  have key : ∀ (d pl : Nat) (τ : si_M), pl + 1 = st + d → pl ≤ e → WC τ W → Arr τ 15 1936 T → Arr τ 16 11 (fun k => if pl < k ∧ k ≤ e then tk1 W T st a V k else V k) → Keep [16] σ τ → ∃ τ', si_sem gP nX4_takeSymbol 3 [.ref 12, .int (nI (a - 1)), .int (nI st), si_U, .int (nI pl), si_U, si_U, si_U] [] τ = some (none, τ') ∧ Arr τ' 16 11 (fun k => if st ≤ k ∧ k ≤ e then tk1 W T st a V k else V k) ∧ Keep [16] σ τ' := by
    intro d
    induction d with
    | zero =>
      intro pl τ hd hpl q1 q2 q3 q4
      rw [h_X4_takeSymbol_3, cT (nI_lt (show pl < st by omega) (by omega))]
      refine ⟨τ, rfl, q3.ext (fun k hk => ?_), q4⟩
      by_cases h : st ≤ k ∧ k ≤ e
      · rw [if_pos (by omega), if_pos h]
      · rw [if_neg (by omega), if_neg h]
    | succ d ih =>
      intro pl τ hd hpl q1 q2 q3 q4
      have hps : st ≤ pl := by omega
      rw [h_X4_takeSymbol_3, cF (nI_nlt hps (by omega)), inner pl hpl τ q1 q2 (fun f hf => by
        have := q3 f (by omega)
        dsimp only at this
        rw [if_neg (by omega)] at this
        exact this) (pl - st) st (lN 0) (by omega) (Nat.le_refl _), h_X4_takeSymbol_15, cT (nI_le (Nat.le_refl _) (by omega)), inT (show pl < 11 by omega) (by decide), nI_clamp (by omega)]
      have k1 : Keep [16] τ (si_sJ τ 16 pl (smf (fun f => V f * ts W T a f pl) st (pl - st) (lN 0))) := Keep.sJ τ (by decide) _ _
      have hset := (q3.set pl (smf (fun f => V f * ts W T a f pl) st (pl - st) (lN 0)))
      by_cases h0 : pl = 0
      · -- the last place is the first
        subst h0
        have hst0 : st = 0 := by omega
        have em1 : nI 0 + (-1 : Int32) = -1 := by decide
        rw [em1, h_X4_takeSymbol_3, cT (by rw [hst0]; decide)]
        refine ⟨_, rfl, hset.ext (fun k hk => ?_), q4.tr k1⟩
        by_cases hk0 : k = 0
        · rw [if_pos hk0, if_pos (by omega), hk0]; rfl
        · rw [if_neg hk0]
          by_cases h : st ≤ k ∧ k ≤ e
          · rw [if_pos (by omega), if_pos h]
          · rw [if_neg (by omega), if_neg h]
      · rw [m1 (show 0 < pl by omega)]
        refine ih (pl - 1) _ (by omega) (by omega) (q1.keep k1 (by decide) (by decide)) (q2.keep k1 (by decide)) (hset.ext (fun k hk => ?_)) (q4.tr k1)
        by_cases hkp : k = pl
        · rw [if_pos hkp, if_pos (by omega), hkp]; rfl
        · rw [if_neg hkp]
          by_cases h : pl < k ∧ k ≤ e
          · rw [if_pos h, if_pos (by omega)]
          · rw [if_neg h, if_neg (by omega)]
  obtain ⟨τ, c1, c2, c3⟩ := key (e + 1 - st) e σ (by omega) (Nat.le_refl _) hc hT (hV.ext (fun k _ => by rw [if_neg (by omega)])) Keep.rf
  refine ⟨τ, c1, c2.ext (fun k _ => ?_), c3⟩
  unfold tkv
  by_cases h : st ≤ k ∧ k ≤ e
  · rw [if_pos h, if_pos h]
  · rw [if_neg h, if_neg h]; exact hs k (by omega)
theorem tkv_Sup (W : List Nat) (T : Nat → Int64) (st e a : Nat) (V : Nat → Int64) : Sup (tkv W T st e a V) st e := fun k hk => by unfold tkv; rw [if_neg (by omega)]
theorem s_X4_waysThrough {σ : si_M} {W : List Nat} (hW : Wok W) (hc : WC σ W) {T : Nat → Int64} (hT : Arr σ 15 1936 T) {q : PR} (hq : okp q) {st e : Nat} (hse : st < e) (he : e ≤ W.length) : ∃ τ, si_sc gP nX4_waysThrough [.ref 12, .long (lN (en q)), .int (nI st), .int (nI e)] σ = some (some (.long (wy W T st e q.2)), τ) ∧ Keep [16] σ τ := by
  have hn := hW.1
  have hq8 := hq.2.1
  rw [e_X4_waysThrough, s_X5_length hq, ci_s, pk_sub (show st ≤ e by omega)]
  by_cases hl : q.2.length ≤ e - st
  · obtain ⟨τ1, b1, b2, b3⟩ := s_fillJ (g := 16) (by decide) (lN 0) σ
    rw [cT (nI_le hl (by omega)), b1, cv_s, inT (show st < 11 by omega) (by decide), nI_clamp (by omega)]
    have k1 : Keep [16] σ (si_sJ τ1 16 st (lN 1)) := b3.tr (Keep.sJ τ1 (by decide) _ _)
    have a0 : Arr (si_sJ τ1 16 st (lN 1)) 16 11 (dl st) := (Arr.set (show Arr τ1 16 11 (fun _ => lN 0) from b2) st (lN 1)).ext (fun j _ => rfl)
    have key : ∀ (d i : Nat) (V : Nat → Int64) (τ : si_M), i + d = q.2.length → Arr τ 16 11 V → Sup V st e → Keep [16] σ τ → ∃ τ', si_sem gP nX4_waysThrough 35 [.ref 12, .long (lN (en q)), si_U, .int (nI st), .int (nI e), .int (nI q.2.length), .int (nI i)] [] τ = some (some (.long (wyV W T st e (q.2.drop i) V e)), τ') ∧ Keep [16] σ τ' := by
      intro d
      induction d with
      | zero =>
        intro i V τ hd hV hs hk
        rw [h_X4_waysThrough_35, cT (nI_le (show q.2.length ≤ i by omega) (by omega)), inT (show e < 11 by omega) (by decide), nI_clamp (by omega), hV e (by omega), List.drop_eq_nil_of_le (by omega)]
        exact ⟨τ, rfl, hk⟩
      | succ d ih =>
        intro i V τ hd hV hs hk
        have hi : i < q.2.length := by omega
        have hp := hq.2.2 _ (List.getElem_mem hi)
        obtain ⟨τ', a1, a2, a3⟩ := s_X4_takeSymbol hW (hc.keep hk (by decide) (by decide)) (hT.keep hk (by decide)) hV hp (show st ≤ e by omega) he hs
        rw [h_X4_waysThrough_35, cF (nI_ge hi (by omega)), s_X5_symbolAt hq (by omega), ci_s, sy_in hq hi, gD hi, a1, cv_s, nI_add, List.drop_eq_getElem_cons hi]
        exact ih (i + 1) _ τ' (by omega) a2 (tkv_Sup W T st e _ V) (hk.tr a3)
    obtain ⟨τ', c1, c2⟩ := key q.2.length 0 (dl st) _ (by omega) a0 (fun k hk => by unfold dl; rw [if_neg (by omega)]) k1
    rw [List.drop_zero] at c1
    exact ⟨τ', c1, c2⟩
  · rw [cF (nI_ge (show e - st < q.2.length by omega) (by omega)), wy_long (show e < st + q.2.length by omega)]
    exact ⟨σ, rfl, Keep.rf⟩
